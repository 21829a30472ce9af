/-! The constructor of ShaftHunt; what the two constructors leave. -/
def kn0 : MK := fun _ _ => none
def kb : MK := upK (kd kn0 1) 0 0 (some 1)
def kc : MK := upK (k3 kb 6) 0 1 (some 13)
def ke : MK := upK (upK (upK kc 87 0 (some 88)) 87 1 (some 89)) 0 2 (some 87)
def kg : MK := upK (upK ke 90 0 (some 91)) 0 3 (some 90)
def ki : MK := upK (upK (upK kg 92 0 (some 93)) 92 1 (some 94)) 0 4 (some 92)
def k5 : MK := upK ki 0 5 (some 95)
theorem kb_r {q : Nat} (h1 : q ≠ 0) (h2 : q ≠ 1) : kb q = kn0 q := by unfold kb; rw [upK_R h1, kd_r h2]
theorem kc_r {q : Nat} (h0 : q ≠ 0) (h1 : q ≠ 1) (h2 : 87 ≤ q) : kc q = kn0 q := by unfold kc; rw [upK_R h0, k3_r (by omega) (by omega) 6 (by omega), kb_r h0 h1]
section
variable {E : ET} {l : Launch}
theorem c_init5 : Ct E l yX5_init wsX5_init rmX5_init [.ref 0] (HC E 1 I0 L0 kn0) none (HC E 96 I0 L0 k5) := by
  refine Ct.mk (by decide) rfl (Nat.le_of_ble_eq_true rfl) ?_
  rintro X rfl rfl hX hN hRt
  have c0 := c_init0k (E := xE X) (l := xl X) (d := 0) (by decide) kn0
  have c3 := c_init3 (E := xE X) (l := xl X) kb (fun r hr k => by rw [kb_r (by omega) (by omega)]; rfl)
  have c1 := c_init1 (E := xE X) (l := xl X) kc
  have c4 := c_init4 (E := xE X) (l := xl X) ke
  have c2 := c_init2 (E := xE X) (l := xl X) kg
  refine g_aload_n hX 0 rfl rfl dX5_init_0 ?_
  refine g_objInit hX (by decide +kernel) (by decide +kernel) (by decide +kernel) (by decide) (by decide) dX5_init_1 ?_
  -- now
  refine g_aload_n hX 0 rfl rfl dX5_init_4 ?_
  refine g_new (ci := 0) (N := 14) hX rfl rfl inX5_init_0 (by decide +kernel) (by decide +kernel) (by decide +kernel) (fun _ => rfl) (fun _ => rfl) (fun _ => rfl) (by decide) (by decide) dX5_init_5 ?_
  refine g_dup hX dX5_init_8 rfl ?_
  refine g_callIN (as := []) (cs' := 12) (sl' := 160) (st := [.ref 1, .ref 0]) hX c0 ggX5_init_X0_init (by decide +kernel) (by decide +kernel) (by decide +kernel) rfl rfl rfl ydX0_init (by decide) (Nat.le_of_ble_eq_true rfl) (by decide) dX5_init_9 rfl rfl ?_
  refine g_putR (k := 0) hX (hN rfl) fpX5_init_12 (by decide) rfl rfl (fun _ => rfl) (fun _ => rfl) dX5_init_12 ?_
  -- past
  refine g_aload_n hX 0 rfl rfl dX5_init_15 ?_
  refine g_new (n := 13) (K := kb) (ci := 3) (N := 2) hX rfl rfl inX5_init_3 (by decide +kernel) (by decide +kernel) (by decide +kernel) (fun _ => rfl) (fun _ => rfl) (fun k => by rw [kb_r (by decide) (by decide)]; rfl) (by decide) (by decide) dX5_init_16 ?_
  refine g_dup hX dX5_init_19 rfl ?_
  refine g_callI (as := []) (cs' := 86) (sl' := 1128) (st := [.ref 13, .ref 0]) hX c3 ggX5_init_X3_init (by decide +kernel) (by decide +kernel) (by decide +kernel) rfl rfl rfl ydX3_init (by decide) (Nat.le_of_ble_eq_true rfl) (by decide) dX5_init_20 rfl rfl ?_
  refine g_putR (k := 1) hX (hN rfl) fpX5_init_19 (by decide) rfl rfl (fun _ => rfl) (fun _ => rfl) dX5_init_23 ?_
  -- flow
  refine g_aload_n hX 0 rfl rfl dX5_init_26 ?_
  refine g_new (n := 87) (K := kc) (ci := 1) (N := 3) hX rfl rfl inX5_init_1 (by decide +kernel) (by decide +kernel) (by decide +kernel) (fun _ => rfl) (fun _ => rfl) (fun k => by rw [kc_r (by decide) (by decide) (by decide)]; rfl) (by decide) (by decide) dX5_init_27 ?_
  refine g_dup hX dX5_init_30 rfl ?_
  refine g_callIN (as := []) (cs' := 89) (sl' := 1151) (st := [.ref 87, .ref 0]) hX c1 ggX5_init_X1_init (by decide +kernel) (by decide +kernel) (by decide +kernel) rfl rfl rfl ydX1_init (by decide) (Nat.le_of_ble_eq_true rfl) (by decide) dX5_init_31 rfl rfl ?_
  refine g_putR (k := 2) hX (hN rfl) fpX5_init_26 (by decide) rfl rfl (fun _ => rfl) (fun _ => rfl) dX5_init_34 ?_
  -- watch
  refine g_aload_n hX 0 rfl rfl dX5_init_37 ?_
  refine g_new (n := 90) (K := ke) (ci := 4) (N := 2) hX rfl rfl inX5_init_4 (by decide +kernel) (by decide +kernel) (by decide +kernel) (fun _ => rfl) (fun _ => rfl) (fun k => by unfold ke; rw [upK_R (by decide), upK_R (by decide), upK_R (by decide), kc_r (by decide) (by decide) (by decide)]; rfl) (by decide) (by decide) dX5_init_38 ?_
  refine g_dup hX dX5_init_41 rfl ?_
  refine g_callIN (as := []) (cs' := 91) (sl' := 1198) (st := [.ref 90, .ref 0]) hX c4 ggX5_init_X4_init (by decide +kernel) (by decide +kernel) (by decide +kernel) rfl rfl rfl ydX4_init (by decide) (Nat.le_of_ble_eq_true rfl) (by decide) dX5_init_42 rfl rfl ?_
  refine g_putR (k := 3) hX (hN rfl) fpX5_init_33 (by decide) rfl rfl (fun _ => rfl) (fun _ => rfl) dX5_init_45 ?_
  -- orders
  refine g_aload_n hX 0 rfl rfl dX5_init_48 ?_
  refine g_new (n := 92) (K := kg) (ci := 2) (N := 6) hX rfl rfl inX5_init_2 (by decide +kernel) (by decide +kernel) (by decide +kernel) (fun _ => rfl) (fun _ => rfl) (fun k => by unfold kg ke; rw [upK_R (by decide), upK_R (by decide), upK_R (by decide), upK_R (by decide), upK_R (by decide), kc_r (by decide) (by decide) (by decide)]; rfl) (by decide) (by decide) dX5_init_49 ?_
  refine g_dup hX dX5_init_52 rfl ?_
  refine g_callIN (as := []) (cs' := 94) (sl' := 1404) (st := [.ref 92, .ref 0]) hX c2 ggX5_init_X2_init (by decide +kernel) (by decide +kernel) (by decide +kernel) rfl rfl rfl ydX2_init (by decide) (Nat.le_of_ble_eq_true rfl) (by decide) dX5_init_53 rfl rfl ?_
  refine g_putR (k := 4) hX (hN rfl) fpX5_init_40 (by decide) rfl rfl (fun _ => rfl) (fun _ => rfl) dX5_init_56 ?_
  -- text
  refine g_aload_n hX 0 rfl rfl dX5_init_59 ?_
  refine g_bipush (v := 120) hX dX5_init_60 (by decide) ?_
  refine g_newB (n := 95) (len := 120) hX rfl (fun _ => rfl) (by decide +kernel) (by decide) (by decide) (by decide) (by decide) (by decide) dX5_init_62 ?_
  refine g_putR (k := 5) hX (hN rfl) fpX5_init_44 (by decide) rfl rfl (fun _ => rfl) (fun _ => rfl) dX5_init_64 ?_
  exact g_return hX hRt rfl rfl dX5_init_67
end
