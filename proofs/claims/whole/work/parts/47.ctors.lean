/-! The constructors. -/
def I0 : MI := fun _ _ => 0
def L0 : ML := fun _ _ => 0
theorem inX0_init_0 : ∀ w ∈ u_ws RX0 TX0 14, w ∈ wsX0_init := by decide +kernel
theorem fpX0_init_9 : FPt RX0 9 0 1 true (.array .int) wsX0_init := ⟨_, rfl, inX0_init_0, by decide, by decide +kernel, rfl, by decide +kernel, rfl⟩
theorem fpX0_init_15 : FPt RX0 15 0 2 true (.array .int) wsX0_init := ⟨_, rfl, inX0_init_0, by decide, by decide +kernel, rfl, by decide +kernel, rfl⟩
theorem fpX0_init_18 : FPt RX0 18 0 4 true (.array .int) wsX0_init := ⟨_, rfl, inX0_init_0, by decide, by decide +kernel, rfl, by decide +kernel, rfl⟩
theorem fpX0_init_21 : FPt RX0 21 0 5 true (.array .int) wsX0_init := ⟨_, rfl, inX0_init_0, by decide, by decide +kernel, rfl, by decide +kernel, rfl⟩
theorem fpX0_init_24 : FPt RX0 24 0 6 true (.array .int) wsX0_init := ⟨_, rfl, inX0_init_0, by decide, by decide +kernel, rfl, by decide +kernel, rfl⟩
theorem fpX0_init_27 : FPt RX0 27 0 7 true (.array .int) wsX0_init := ⟨_, rfl, inX0_init_0, by decide, by decide +kernel, rfl, by decide +kernel, rfl⟩
theorem fpX0_init_30 : FPt RX0 30 0 9 true (.array .int) wsX0_init := ⟨_, rfl, inX0_init_0, by decide, by decide +kernel, rfl, by decide +kernel, rfl⟩
theorem fpX0_init_33 : FPt RX0 33 0 10 true (.array .int) wsX0_init := ⟨_, rfl, inX0_init_0, by decide, by decide +kernel, rfl, by decide +kernel, rfl⟩
theorem fpX0_init_36 : FPt RX0 36 0 11 true (.array .int) wsX0_init := ⟨_, rfl, inX0_init_0, by decide, by decide +kernel, rfl, by decide +kernel, rfl⟩
theorem fpX0_init_39 : FPt RX0 39 0 12 true (.array .int) wsX0_init := ⟨_, rfl, inX0_init_0, by decide, by decide +kernel, rfl, by decide +kernel, rfl⟩
theorem fpX0_init_42 : FPt RX0 42 0 13 true (.array .int) wsX0_init := ⟨_, rfl, inX0_init_0, by decide, by decide +kernel, rfl, by decide +kernel, rfl⟩
theorem inX1_init_1 : ∀ w ∈ u_ws RX1 TX1 3, w ∈ wsX1_init := by decide +kernel
theorem fpX1_init_9 : FPt RX1 9 1 0 true (.array .long) wsX1_init := ⟨_, rfl, inX1_init_1, by decide, by decide +kernel, rfl, by decide +kernel, rfl⟩
theorem fpX1_init_15 : FPt RX1 15 1 1 true (.array .int) wsX1_init := ⟨_, rfl, inX1_init_1, by decide, by decide +kernel, rfl, by decide +kernel, rfl⟩
theorem inX2_init_2 : ∀ w ∈ u_ws RX2 TX2 6, w ∈ wsX2_init := by decide +kernel
theorem fpX2_init_9 : FPt RX2 9 2 0 true (.array .int) wsX2_init := ⟨_, rfl, inX2_init_2, by decide, by decide +kernel, rfl, by decide +kernel, rfl⟩
theorem fpX2_init_15 : FPt RX2 15 2 1 true (.array .int) wsX2_init := ⟨_, rfl, inX2_init_2, by decide, by decide +kernel, rfl, by decide +kernel, rfl⟩
theorem inX3_init_3 : ∀ w ∈ u_ws RX3 TX3 2, w ∈ wsX3_init := by decide +kernel
theorem fpX3_init_11 : FPt RX3 11 3 0 true (.array (.object RX0)) wsX3_init := ⟨_, rfl, inX3_init_3, by decide, by decide +kernel, rfl, by decide +kernel, rfl⟩
theorem inX4_init_4 : ∀ w ∈ u_ws RX4 TX4 2, w ∈ wsX4_init := by decide +kernel
theorem fpX4_init_9 : FPt RX4 9 4 0 true (.array .int) wsX4_init := ⟨_, rfl, inX4_init_4, by decide, by decide +kernel, rfl, by decide +kernel, rfl⟩
theorem inX5_init_5 : ∀ w ∈ u_ws RX5 TX5 10, w ∈ wsX5_init := by decide +kernel
theorem fpX5_init_12 : FPt RX5 12 5 0 true (.object RX0) wsX5_init := ⟨_, rfl, inX5_init_5, by decide, by decide +kernel, rfl, by decide +kernel, rfl⟩
theorem fpX5_init_19 : FPt RX5 19 5 1 true (.object RX3) wsX5_init := ⟨_, rfl, inX5_init_5, by decide, by decide +kernel, rfl, by decide +kernel, rfl⟩
theorem fpX5_init_26 : FPt RX5 26 5 2 true (.object RX1) wsX5_init := ⟨_, rfl, inX5_init_5, by decide, by decide +kernel, rfl, by decide +kernel, rfl⟩
theorem fpX5_init_33 : FPt RX5 33 5 3 true (.object RX4) wsX5_init := ⟨_, rfl, inX5_init_5, by decide, by decide +kernel, rfl, by decide +kernel, rfl⟩
theorem fpX5_init_40 : FPt RX5 40 5 4 true (.object RX2) wsX5_init := ⟨_, rfl, inX5_init_5, by decide, by decide +kernel, rfl, by decide +kernel, rfl⟩
theorem fpX5_init_44 : FPt RX5 44 5 5 true (.array .byte) wsX5_init := ⟨_, rfl, inX5_init_5, by decide, by decide +kernel, rfl, by decide +kernel, rfl⟩
theorem inX6_init_6 : ∀ w ∈ u_ws RX6 TX6 15, w ∈ wsX6_init := by decide +kernel
theorem fpX6_init_7 : FPt RX6 7 6 0 true (.array .int) wsX6_init := ⟨_, rfl, inX6_init_6, by decide, by decide +kernel, rfl, by decide +kernel, rfl⟩
theorem fpX6_init_13 : FPt RX6 13 6 1 true (.array .int) wsX6_init := ⟨_, rfl, inX6_init_6, by decide, by decide +kernel, rfl, by decide +kernel, rfl⟩
theorem fpX6_init_16 : FPt RX6 16 6 2 true (.array .int) wsX6_init := ⟨_, rfl, inX6_init_6, by decide, by decide +kernel, rfl, by decide +kernel, rfl⟩
theorem fpX6_init_19 : FPt RX6 19 6 4 true (.array .int) wsX6_init := ⟨_, rfl, inX6_init_6, by decide, by decide +kernel, rfl, by decide +kernel, rfl⟩
theorem fpX6_init_22 : FPt RX6 22 6 5 true (.array .long) wsX6_init := ⟨_, rfl, inX6_init_6, by decide, by decide +kernel, rfl, by decide +kernel, rfl⟩
theorem fpX6_init_26 : FPt RX6 26 6 6 true (.array .int) wsX6_init := ⟨_, rfl, inX6_init_6, by decide, by decide +kernel, rfl, by decide +kernel, rfl⟩
theorem fpX6_init_29 : FPt RX6 29 6 7 true (.array .int) wsX6_init := ⟨_, rfl, inX6_init_6, by decide, by decide +kernel, rfl, by decide +kernel, rfl⟩
theorem fpX6_init_32 : FPt RX6 32 6 12 true (.array .int) wsX6_init := ⟨_, rfl, inX6_init_6, by decide, by decide +kernel, rfl, by decide +kernel, rfl⟩
theorem fpX6_init_35 : FPt RX6 35 6 13 true (.array .int) wsX6_init := ⟨_, rfl, inX6_init_6, by decide, by decide +kernel, rfl, by decide +kernel, rfl⟩
theorem fpX6_init_38 : FPt RX6 38 6 3 false .int wsX6_init := ⟨_, rfl, inX6_init_6, by decide, by decide +kernel, rfl, by decide +kernel, rfl⟩
section
variable {E : ET} {l : Launch}
theorem c_init0 {d : Nat} (hd : d < 7) (K : MK) : Ct E l yX0_init wsX0_init rmX0_init [.ref (dr d)] (HC E (dr d + 1) I0 L0 K) none (HC E (dr d + 12) I0 L0 (upK (upK (upK (upK (upK (upK (upK (upK (upK (upK (upK K (dr d) 1 (some (dr d + 1))) (dr d) 2 (some (dr d + 2))) (dr d) 4 (some (dr d + 3))) (dr d) 5 (some (dr d + 4))) (dr d) 6 (some (dr d + 5))) (dr d) 7 (some (dr d + 6))) (dr d) 9 (some (dr d + 7))) (dr d) 10 (some (dr d + 8))) (dr d) 11 (some (dr d + 9))) (dr d) 12 (some (dr d + 10))) (dr d) 13 (some (dr d + 11)))) := by
  have hs := dr_rows d hd
  refine Ct.mk (by decide) rfl (Nat.le_of_ble_eq_true rfl) ?_
  rintro X rfl rfl hX hN hRt
  refine g_aload_n hX 0 rfl rfl dX0_init_0 ?_
  refine g_objInit hX (by decide +kernel) (by decide +kernel) (by decide +kernel) (by decide) (by decide) dX0_init_1 ?_
  refine g_aload_n hX 0 rfl rfl dX0_init_4 ?_
  refine g_bipush (v := 10) hX dX0_init_5 (by decide) ?_
  refine g_newI (len := 10) hX hs.2.1 (fun _ => rfl) (by decide +kernel) (by decide) (by decide) (by decide) (by decide) (by decide) dX0_init_7 ?_
  refine g_putR (k := 1) hX (hN rfl) fpX0_init_9 (by omega) (drso hd) rfl (fun _ => rfl) (fun _ => rfl) dX0_init_9 ?_
  refine g_aload_n hX 0 rfl rfl dX0_init_12 ?_
  refine g_bipush (v := 10) hX dX0_init_13 (by decide) ?_
  refine g_newI (len := 10) hX hs.2.2.1 (fun _ => rfl) (by decide +kernel) (by decide) (by decide) (by decide) (by decide) (by decide) dX0_init_15 ?_
  refine g_putR (k := 2) hX (hN rfl) fpX0_init_15 (by omega) (drso hd) rfl (fun _ => rfl) (fun _ => rfl) dX0_init_17 ?_
  refine g_aload_n hX 0 rfl rfl dX0_init_20 ?_
  refine g_bipush (v := 16) hX dX0_init_21 (by decide) ?_
  refine g_newI (len := 16) hX hs.2.2.2.1 (fun _ => rfl) (by decide +kernel) (by decide) (by decide) (by decide) (by decide) (by decide) dX0_init_23 ?_
  refine g_putR (k := 4) hX (hN rfl) fpX0_init_18 (by omega) (drso hd) rfl (fun _ => rfl) (fun _ => rfl) dX0_init_25 ?_
  refine g_aload_n hX 0 rfl rfl dX0_init_28 ?_
  refine g_bipush (v := 16) hX dX0_init_29 (by decide) ?_
  refine g_newI (len := 16) hX hs.2.2.2.2.1 (fun _ => rfl) (by decide +kernel) (by decide) (by decide) (by decide) (by decide) (by decide) dX0_init_31 ?_
  refine g_putR (k := 5) hX (hN rfl) fpX0_init_21 (by omega) (drso hd) rfl (fun _ => rfl) (fun _ => rfl) dX0_init_33 ?_
  refine g_aload_n hX 0 rfl rfl dX0_init_36 ?_
  refine g_bipush (v := 16) hX dX0_init_37 (by decide) ?_
  refine g_newI (len := 16) hX hs.2.2.2.2.2.1 (fun _ => rfl) (by decide +kernel) (by decide) (by decide) (by decide) (by decide) (by decide) dX0_init_39 ?_
  refine g_putR (k := 6) hX (hN rfl) fpX0_init_24 (by omega) (drso hd) rfl (fun _ => rfl) (fun _ => rfl) dX0_init_41 ?_
  refine g_aload_n hX 0 rfl rfl dX0_init_44 ?_
  refine g_bipush (v := 16) hX dX0_init_45 (by decide) ?_
  refine g_newI (len := 16) hX hs.2.2.2.2.2.2.1 (fun _ => rfl) (by decide +kernel) (by decide) (by decide) (by decide) (by decide) (by decide) dX0_init_47 ?_
  refine g_putR (k := 7) hX (hN rfl) fpX0_init_27 (by omega) (drso hd) rfl (fun _ => rfl) (fun _ => rfl) dX0_init_49 ?_
  refine g_aload_n hX 0 rfl rfl dX0_init_52 ?_
  refine g_bipush (v := 12) hX dX0_init_53 (by decide) ?_
  refine g_newI (len := 12) hX hs.2.2.2.2.2.2.2.1 (fun _ => rfl) (by decide +kernel) (by decide) (by decide) (by decide) (by decide) (by decide) dX0_init_55 ?_
  refine g_putR (k := 9) hX (hN rfl) fpX0_init_30 (by omega) (drso hd) rfl (fun _ => rfl) (fun _ => rfl) dX0_init_57 ?_
  refine g_aload_n hX 0 rfl rfl dX0_init_60 ?_
  refine g_bipush (v := 12) hX dX0_init_61 (by decide) ?_
  refine g_newI (len := 12) hX hs.2.2.2.2.2.2.2.2.1 (fun _ => rfl) (by decide +kernel) (by decide) (by decide) (by decide) (by decide) (by decide) dX0_init_63 ?_
  refine g_putR (k := 10) hX (hN rfl) fpX0_init_33 (by omega) (drso hd) rfl (fun _ => rfl) (fun _ => rfl) dX0_init_65 ?_
  refine g_aload_n hX 0 rfl rfl dX0_init_68 ?_
  refine g_bipush (v := 12) hX dX0_init_69 (by decide) ?_
  refine g_newI (len := 12) hX hs.2.2.2.2.2.2.2.2.2.1 (fun _ => rfl) (by decide +kernel) (by decide) (by decide) (by decide) (by decide) (by decide) dX0_init_71 ?_
  refine g_putR (k := 11) hX (hN rfl) fpX0_init_36 (by omega) (drso hd) rfl (fun _ => rfl) (fun _ => rfl) dX0_init_73 ?_
  refine g_aload_n hX 0 rfl rfl dX0_init_76 ?_
  refine g_bipush (v := 10) hX dX0_init_77 (by decide) ?_
  refine g_newI (len := 10) hX hs.2.2.2.2.2.2.2.2.2.2.1 (fun _ => rfl) (by decide +kernel) (by decide) (by decide) (by decide) (by decide) (by decide) dX0_init_79 ?_
  refine g_putR (k := 12) hX (hN rfl) fpX0_init_39 (by omega) (drso hd) rfl (fun _ => rfl) (fun _ => rfl) dX0_init_81 ?_
  refine g_aload_n hX 0 rfl rfl dX0_init_84 ?_
  refine g_bipush (v := 16) hX dX0_init_85 (by decide) ?_
  refine g_newI (len := 16) hX hs.2.2.2.2.2.2.2.2.2.2.2 (fun _ => rfl) (by decide +kernel) (by decide) (by decide) (by decide) (by decide) (by decide) dX0_init_87 ?_
  refine g_putR (k := 13) hX (hN rfl) fpX0_init_42 (by omega) (drso hd) rfl (fun _ => rfl) (fun _ => rfl) dX0_init_89 ?_
  exact g_return hX hRt rfl rfl dX0_init_92
theorem c_init1 (K : MK) : Ct E l yX1_init wsX1_init rmX1_init [.ref 87] (HC E 88 I0 L0 K) none (HC E 90 I0 L0 (upK (upK K 87 0 (some 88)) 87 1 (some 89))) := by
  refine Ct.mk (by decide) rfl (Nat.le_of_ble_eq_true rfl) ?_
  rintro X rfl rfl hX hN hRt
  refine g_aload_n hX 0 rfl rfl dX1_init_0 ?_
  refine g_objInit hX (by decide +kernel) (by decide +kernel) (by decide +kernel) (by decide) (by decide) dX1_init_1 ?_
  refine g_aload_n hX 0 rfl rfl dX1_init_4 ?_
  refine g_bipush (v := 10) hX dX1_init_5 (by decide) ?_
  refine g_newL (len := 10) hX rfl (fun _ => rfl) (by decide +kernel) (by decide) (by decide) (by decide) (by decide) (by decide) dX1_init_7 ?_
  refine g_putR (k := 0) hX (hN rfl) fpX1_init_9 (by omega) rfl rfl (fun _ => rfl) (fun _ => rfl) dX1_init_9 ?_
  refine g_aload_n hX 0 rfl rfl dX1_init_12 ?_
  refine g_bipush (v := 10) hX dX1_init_13 (by decide) ?_
  refine g_newI (len := 10) hX rfl (fun _ => rfl) (by decide +kernel) (by decide) (by decide) (by decide) (by decide) (by decide) dX1_init_15 ?_
  refine g_putR (k := 1) hX (hN rfl) fpX1_init_15 (by omega) rfl rfl (fun _ => rfl) (fun _ => rfl) dX1_init_17 ?_
  exact g_return hX hRt rfl rfl dX1_init_20
theorem c_init4 (K : MK) : Ct E l yX4_init wsX4_init rmX4_init [.ref 90] (HC E 91 I0 L0 K) none (HC E 92 I0 L0 (upK K 90 0 (some 91))) := by
  refine Ct.mk (by decide) rfl (Nat.le_of_ble_eq_true rfl) ?_
  rintro X rfl rfl hX hN hRt
  refine g_aload_n hX 0 rfl rfl dX4_init_0 ?_
  refine g_objInit hX (by decide +kernel) (by decide +kernel) (by decide +kernel) (by decide) (by decide) dX4_init_1 ?_
  refine g_aload_n hX 0 rfl rfl dX4_init_4 ?_
  refine g_bipush (v := 45) hX dX4_init_5 (by decide) ?_
  refine g_newI (len := 45) hX rfl (fun _ => rfl) (by decide +kernel) (by decide) (by decide) (by decide) (by decide) (by decide) dX4_init_7 ?_
  refine g_putR (k := 0) hX (hN rfl) fpX4_init_9 (by omega) rfl rfl (fun _ => rfl) (fun _ => rfl) dX4_init_9 ?_
  exact g_return hX hRt rfl rfl dX4_init_12
theorem c_init2 (K : MK) : Ct E l yX2_init wsX2_init rmX2_init [.ref 92] (HC E 93 I0 L0 K) none (HC E 95 I0 L0 (upK (upK K 92 0 (some 93)) 92 1 (some 94))) := by
  refine Ct.mk (by decide) rfl (Nat.le_of_ble_eq_true rfl) ?_
  rintro X rfl rfl hX hN hRt
  refine g_aload_n hX 0 rfl rfl dX2_init_0 ?_
  refine g_objInit hX (by decide +kernel) (by decide +kernel) (by decide +kernel) (by decide) (by decide) dX2_init_1 ?_
  refine g_aload_n hX 0 rfl rfl dX2_init_4 ?_
  refine g_bipush (v := 40) hX dX2_init_5 (by decide) ?_
  refine g_newI (len := 40) hX rfl (fun _ => rfl) (by decide +kernel) (by decide) (by decide) (by decide) (by decide) (by decide) dX2_init_7 ?_
  refine g_putR (k := 0) hX (hN rfl) fpX2_init_9 (by omega) rfl rfl (fun _ => rfl) (fun _ => rfl) dX2_init_9 ?_
  refine g_aload_n hX 0 rfl rfl dX2_init_12 ?_
  refine g_sipush (v := 160) hX dX2_init_13 (by decide) ?_
  refine g_newI (len := 160) hX rfl (fun _ => rfl) (by decide +kernel) (by decide) (by decide) (by decide) (by decide) (by decide) dX2_init_16 ?_
  refine g_putR (k := 1) hX (hN rfl) fpX2_init_15 (by omega) rfl rfl (fun _ => rfl) (fun _ => rfl) dX2_init_18 ?_
  exact g_return hX hRt rfl rfl dX2_init_21
theorem c_init6 (K : MK) : Ct E l yX6_init wsX6_init rmX6_init [.ref 96] (HC E 97 I0 L0 K) none (HC E 106 (upI I0 96 3 0) L0 (upK (upK (upK (upK (upK (upK (upK (upK (upK K 96 0 (some 97)) 96 1 (some 98)) 96 2 (some 99)) 96 4 (some 100)) 96 5 (some 101)) 96 6 (some 102)) 96 7 (some 103)) 96 12 (some 104)) 96 13 (some 105))) := by
  refine Ct.mk (by decide) rfl (Nat.le_of_ble_eq_true rfl) ?_
  rintro X rfl rfl hX hN hRt
  refine g_aload_n hX 0 rfl rfl dX6_init_0 ?_
  refine g_objInit hX (by decide +kernel) (by decide +kernel) (by decide +kernel) (by decide) (by decide) dX6_init_1 ?_
  refine g_aload_n hX 0 rfl rfl dX6_init_4 ?_
  refine g_bipush (v := 123) hX dX6_init_5 (by decide) ?_
  refine g_newI (len := 123) hX rfl (fun _ => rfl) (by decide +kernel) (by decide) (by decide) (by decide) (by decide) (by decide) dX6_init_7 ?_
  refine g_putR (k := 0) hX (hN rfl) fpX6_init_7 (by omega) rfl rfl (fun _ => rfl) (fun _ => rfl) dX6_init_9 ?_
  refine g_aload_n hX 0 rfl rfl dX6_init_12 ?_
  refine g_bipush (v := 123) hX dX6_init_13 (by decide) ?_
  refine g_newI (len := 123) hX rfl (fun _ => rfl) (by decide +kernel) (by decide) (by decide) (by decide) (by decide) (by decide) dX6_init_15 ?_
  refine g_putR (k := 1) hX (hN rfl) fpX6_init_13 (by omega) rfl rfl (fun _ => rfl) (fun _ => rfl) dX6_init_17 ?_
  refine g_aload_n hX 0 rfl rfl dX6_init_20 ?_
  refine g_sipush (v := 615) hX dX6_init_21 (by decide) ?_
  refine g_newI (len := 615) hX rfl (fun _ => rfl) (by decide +kernel) (by decide) (by decide) (by decide) (by decide) (by decide) dX6_init_24 ?_
  refine g_putR (k := 2) hX (hN rfl) fpX6_init_16 (by omega) rfl rfl (fun _ => rfl) (fun _ => rfl) dX6_init_26 ?_
  refine g_aload_n hX 0 rfl rfl dX6_init_29 ?_
  refine g_iconst (v := 3) hX dX6_init_30 (by decide) ?_
  refine g_newI (len := 3) hX rfl (fun _ => rfl) (by decide +kernel) (by decide) (by decide) (by decide) (by decide) (by decide) dX6_init_31 ?_
  refine g_putR (k := 4) hX (hN rfl) fpX6_init_19 (by omega) rfl rfl (fun _ => rfl) (fun _ => rfl) dX6_init_33 ?_
  refine g_aload_n hX 0 rfl rfl dX6_init_36 ?_
  refine g_bipush (v := 10) hX dX6_init_37 (by decide) ?_
  refine g_newL (len := 10) hX rfl (fun _ => rfl) (by decide +kernel) (by decide) (by decide) (by decide) (by decide) (by decide) dX6_init_39 ?_
  refine g_putR (k := 5) hX (hN rfl) fpX6_init_22 (by omega) rfl rfl (fun _ => rfl) (fun _ => rfl) dX6_init_41 ?_
  refine g_aload_n hX 0 rfl rfl dX6_init_44 ?_
  refine g_bipush (v := 10) hX dX6_init_45 (by decide) ?_
  refine g_newI (len := 10) hX rfl (fun _ => rfl) (by decide +kernel) (by decide) (by decide) (by decide) (by decide) (by decide) dX6_init_47 ?_
  refine g_putR (k := 6) hX (hN rfl) fpX6_init_26 (by omega) rfl rfl (fun _ => rfl) (fun _ => rfl) dX6_init_49 ?_
  refine g_aload_n hX 0 rfl rfl dX6_init_52 ?_
  refine g_bipush (v := 120) hX dX6_init_53 (by decide) ?_
  refine g_newI (len := 120) hX rfl (fun _ => rfl) (by decide +kernel) (by decide) (by decide) (by decide) (by decide) (by decide) dX6_init_55 ?_
  refine g_putR (k := 7) hX (hN rfl) fpX6_init_29 (by omega) rfl rfl (fun _ => rfl) (fun _ => rfl) dX6_init_57 ?_
  refine g_aload_n hX 0 rfl rfl dX6_init_60 ?_
  refine g_bipush (v := 40) hX dX6_init_61 (by decide) ?_
  refine g_newI (len := 40) hX rfl (fun _ => rfl) (by decide +kernel) (by decide) (by decide) (by decide) (by decide) (by decide) dX6_init_63 ?_
  refine g_putR (k := 12) hX (hN rfl) fpX6_init_32 (by omega) rfl rfl (fun _ => rfl) (fun _ => rfl) dX6_init_65 ?_
  refine g_aload_n hX 0 rfl rfl dX6_init_68 ?_
  refine g_sipush (v := 160) hX dX6_init_69 (by decide) ?_
  refine g_newI (len := 160) hX rfl (fun _ => rfl) (by decide +kernel) (by decide) (by decide) (by decide) (by decide) (by decide) dX6_init_72 ?_
  refine g_putR (k := 13) hX (hN rfl) fpX6_init_35 (by omega) rfl rfl (fun _ => rfl) (fun _ => rfl) dX6_init_74 ?_
  refine g_aload_n hX 0 rfl rfl dX6_init_77 ?_
  refine g_iconst (v := 0) hX dX6_init_78 (by decide) ?_
  refine g_putI0 (k := 3) hX fpX6_init_38 (by omega) rfl rfl dX6_init_79 ?_
  exact g_return hX hRt rfl rfl dX6_init_82
end
