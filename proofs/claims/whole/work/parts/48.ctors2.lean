/-! The constructors of Past, ShaftHunt. -/
def kd (K : MK) (b : Nat) : MK := upK (upK (upK (upK (upK (upK (upK (upK (upK (upK (upK K b 1 (some (b + 1))) b 2 (some (b + 2))) b 4 (some (b + 3))) b 5 (some (b + 4))) b 6 (some (b + 5))) b 7 (some (b + 6))) b 9 (some (b + 7))) b 10 (some (b + 8))) b 11 (some (b + 9))) b 12 (some (b + 10))) b 13 (some (b + 11))
def k3 (K : MK) : Nat → MK
  | 0 => upK K 13 0 (some 14)
  | i + 1 => upK (kd (k3 K i) (15 + 12 * i)) 14 i (some (15 + 12 * i))
theorem kd_r {K : MK} {b q : Nat} (h : q ≠ b) : kd K b q = K q := by
  unfold kd
  rw [upK_R h, upK_R h, upK_R h, upK_R h, upK_R h, upK_R h, upK_R h, upK_R h, upK_R h, upK_R h, upK_R h]
theorem k3_r {K : MK} {q : Nat} (h1 : q ≠ 13) (h2 : q ≠ 14) : ∀ i, (q < 15 ∨ 15 + 12 * i ≤ q) → k3 K i q = K q
  | 0, _ => upK_R h1
  | i + 1, h => by
    rw [k3, upK_R h2, kd_r (by omega)]
    exact k3_r h1 h2 i (by omega)
theorem k3_13 (K : MK) : ∀ i, k3 K i 13 0 = some 14
  | 0 => by simp [k3, upK]
  | i + 1 => by rw [k3, upK_R (by decide), kd_r (by omega)]; exact k3_13 K i
theorem flX3_init_11 : FL RX3 11 3 0 wsX3_init := ⟨_, rfl, inX3_init_3, by decide, by decide +kernel⟩
theorem inX3_init_0 : ∀ w ∈ u_ws RX0 TX0 14, w ∈ wsX3_init := by decide +kernel
theorem inX5_init_0 : ∀ w ∈ u_ws RX0 TX0 14, w ∈ wsX5_init := by decide +kernel
theorem inX5_init_1 : ∀ w ∈ u_ws RX1 TX1 3, w ∈ wsX5_init := by decide +kernel
theorem inX5_init_2 : ∀ w ∈ u_ws RX2 TX2 6, w ∈ wsX5_init := by decide +kernel
theorem inX5_init_3 : ∀ w ∈ u_ws RX3 TX3 2, w ∈ wsX5_init := by decide +kernel
theorem inX5_init_4 : ∀ w ∈ u_ws RX4 TX4 2, w ∈ wsX5_init := by decide +kernel
section
variable {E : ET} {l : Launch}
theorem c_init0k {d : Nat} (hd : d < 7) (K : MK) : Ct E l yX0_init wsX0_init rmX0_init [.ref (dr d)] (HC E (dr d + 1) I0 L0 K) none (HC E (dr d + 12) I0 L0 (kd K (dr d))) := c_init0 hd K
theorem c_init3 (K : MK) (hK : ∀ r, 14 ≤ r → ∀ k, K r k = none) : Ct E l yX3_init wsX3_init rmX3_init [.ref 13] (HC E 14 I0 L0 K) none (HC E 87 I0 L0 (k3 K 6)) := by
  refine Ct.mk (by decide) rfl (Nat.le_of_ble_eq_true rfl) ?_
  rintro X rfl rfl hX hN hRt
  refine g_aload_n hX 0 rfl rfl dX3_init_0 ?_
  refine g_objInit hX (by decide +kernel) (by decide +kernel) (by decide +kernel) (by decide) (by decide) dX3_init_1 ?_
  refine g_aload_n hX 0 rfl rfl dX3_init_4 ?_
  refine g_bipush (v := 6) hX dX3_init_5 (by decide) ?_
  refine g_newR (len := 6) hX rfl (hK 14 (by decide)) (by decide +kernel) (by decide) (by decide) (by decide) (by decide) (by decide) dX3_init_7 ?_
  refine g_putR (k := 0) hX (hN rfl) fpX3_init_11 (by omega) rfl rfl (fun _ => rfl) (fun _ => rfl) dX3_init_10 ?_
  refine g_iconst (v := 0) hX dX3_init_13 (by decide) ?_
  refine g_istore_n (ls' := [(0, .ref 13), (1, .int 0)]) hX dX3_init_14 rfl (by decide) rfl ?_
  refine loop_up (N := 6) (Q := fun i => G X (1 + 12 * i) (6 + 160 * i) 15 [(0, .ref 13), (1, .int (nI i))] [] (HC (xE X) (15 + 12 * i) I0 L0 (k3 K i))) (fun i hi k => ?_) 0 (Nat.zero_le _) ?_
  · have e : dr (i + 1) = 15 + 12 * i := by unfold dr; rw [if_neg (by omega)]; omega
    have hso : (shp (15 + 12 * i)).1 = 0 := by rw [← e]; exact drso (by omega)
    have hC := c_init0k (E := xE X) (l := xl X) (d := i + 1) (by omega) (k3 K i)
    rw [e] at hC
    refine g_iload_n hX 1 rfl rfl dX3_init_15 ?_
    refine g_iconst (v := 5) hX dX3_init_16 (by decide) ?_
    refine g_icmp_gt (tgt := 39) hX dX3_init_17 (by decide) (fun h => absurd ((nlt (a := 5) (by decide) (by omega)).mp h) (by omega)) (fun _ => ?_)
    refine g_aload_n hX 0 rfl rfl dX3_init_20 ?_
    refine g_getR (n := 15 + 12 * i) (I := I0) (L := L0) (K := k3 K i) (k := 0) (r' := 14) hX (fun _ h => h.1) flX3_init_11 (by omega) rfl rfl (k3_13 K i) dX3_init_21 ?_
    refine g_iload_n hX 1 rfl rfl dX3_init_24 ?_
    refine g_new (ci := 0) (N := 14) hX rfl hso inX3_init_0 (by decide +kernel) (by decide +kernel) (by decide +kernel) (fun _ => rfl) (fun _ => rfl) (fun k => by rw [k3_r (by omega) (by omega) i (by omega)]; exact hK _ (by omega) k) (by show 1 + 12 * i + 1 ≤ 73; omega) (by show 6 + 160 * i + 14 ≤ 966; omega) dX3_init_25 ?_
    refine g_dup hX dX3_init_28 rfl ?_
    refine g_callIN (as := []) (cs' := 1 + 12 * (i + 1)) (sl' := 6 + 160 * (i + 1)) (st := [.ref (15 + 12 * i), .int (nI i), .ref 14]) hX hC ggX3_init_X0_init (by decide +kernel) (by decide +kernel) (by decide +kernel) rfl rfl rfl ydX0_init (by decide) (Nat.le_of_ble_eq_true rfl) (by show 1 + 12 * i + 1 + 11 ≤ 73 ∧ 6 + 160 * i + 14 + 146 ≤ 966; omega) dX3_init_29 (by show 1 + 12 * i + 1 + 11 = _; omega) (by show 6 + 160 * i + 14 + 146 = _; omega) ?_
    refine g_aast0 (r := 14) (len := 6) (v := 15 + 12 * i) hX (by omega) rfl (by omega) hso (pk_in i 6 hi) dX3_init_32 ?_
    rw [nI_clamp (by omega)]
    refine g_iinc (v := nI (i + 1)) (ls' := [(0, .ref 13), (1, .int (nI (i + 1)))]) hX 1 rfl dX3_init_33 (nI_1 i) (by decide) rfl ?_
    exact g_goto (tgt := 15) hX dX3_init_36 (by decide) k
  · refine g_iload_n hX 1 rfl rfl dX3_init_15 ?_
    refine g_iconst (v := 5) hX dX3_init_16 (by decide) ?_
    refine g_icmp_gt (tgt := 39) hX dX3_init_17 (by decide) (fun _ => ?_) (fun h => absurd (by decide) h)
    exact g_return hX hRt rfl rfl dX3_init_39
end
