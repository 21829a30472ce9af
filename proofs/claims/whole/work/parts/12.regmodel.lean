set_option maxRecDepth 4000 in
theorem RX6_in_0 {X : XT} {I : MI} {L : ML} {p : Nat → Nat}  (hX : Cx X cX6_in 3 RX6 wsX6_in rmX6_in) (x0 : Int32) (x1 : Int32) (x2 : Int32) (k : ((x0 < x1 → Rt X (some .boolean) rmX6_in (some (.int 0)) (HM X I L p)) ∧ (¬ x0 < x1 → Rt X (some .boolean) rmX6_in (some (.int (if x2 < x0 then 0 else 1 : Int32))) (HM X I L p)))) : G X 0 0 0 [(0, .int x0), (1, .int x1), (2, .int x2)] [] (HM X I L p) := by
  refine g_iload_n hX 0 rfl rfl dX6_in_0 ?_
  refine g_iload_n hX 1 rfl rfl dX6_in_1 ?_
  refine g_icmp_lt (tgt := 14) hX dX6_in_2 (by decide) (fun h => ?_) (fun h => ?_)
  · replace k := k.1 h
    refine g_iconst (v := 0) hX dX6_in_14 (by decide) ?_
    exact g_zreturn hX k (by decide) rfl rfl dX6_in_15
  · replace k := k.2 h
    refine g_iload_n hX 0 rfl rfl dX6_in_5 ?_
    refine g_iload_n hX 2 rfl rfl dX6_in_6 ?_
    have kJ : G X 0 0 15 [(0, .int x0), (1, .int x1), (2, .int x2)] [.int (if x2 < x0 then 0 else 1 : Int32)] (HM X I L p) := by
      exact g_zreturn hX k b10 rfl rfl dX6_in_15
    refine g_icmp_gt (tgt := 14) hX dX6_in_7 (by decide) (fun h => ?_) (fun h => ?_)
    · rw [(show (if x2 < x0 then 0 else 1 : Int32) = 0 from if_pos h)] at kJ
      refine g_iconst (v := 0) hX dX6_in_14 (by decide) ?_
      exact kJ
    · rw [(show (if x2 < x0 then 0 else 1 : Int32) = 1 from if_neg h)] at kJ
      refine g_iconst (v := 1) hX dX6_in_10 (by decide) ?_
      refine g_goto (tgt := 15) hX dX6_in_11 (by decide) ?_
      exact kJ
set_option maxRecDepth 4000 in
theorem RX6_has_0 {X : XT} {I : MI} {L : ML} {p : Nat → Nat}  (hX : Cx X cX6_has 2 RX6 wsX6_has rmX6_has) (x0 : Int32) (x1 : Int32) (k : Rt X (some .boolean) rmX6_has (some (.int (if ((jshr x0 x1) &&& 1) = 1 then 1 else 0 : Int32))) (HM X I L p)) : G X 0 0 0 [(0, .int x0), (1, .int x1)] [] (HM X I L p) := by
  refine g_iload_n hX 0 rfl rfl dX6_has_0 ?_
  refine g_iload_n hX 1 rfl rfl dX6_has_1 ?_
  refine g_ishr hX dX6_has_2 ?_
  refine g_iconst (v := 1) hX dX6_has_3 (by decide) ?_
  refine g_iand hX dX6_has_4 ?_
  refine g_iconst (v := 1) hX dX6_has_5 (by decide) ?_
  have kJ : G X 0 0 14 [(0, .int x0), (1, .int x1)] [.int (if ((jshr x0 x1) &&& 1) = 1 then 1 else 0 : Int32)] (HM X I L p) := by
    exact g_zreturn hX k b01 rfl rfl dX6_has_14
  refine g_icmp_ne (tgt := 13) hX dX6_has_6 (by decide) (fun h => ?_) (fun h => ?_)
  · rw [(show (if ((jshr x0 x1) &&& 1) = 1 then 1 else 0 : Int32) = 0 from if_neg h)] at kJ
    refine g_iconst (v := 0) hX dX6_has_13 (by decide) ?_
    exact kJ
  · rw [(show (if ((jshr x0 x1) &&& 1) = 1 then 1 else 0 : Int32) = 1 from if_pos h)] at kJ
    refine g_iconst (v := 1) hX dX6_has_9 (by decide) ?_
    refine g_goto (tgt := 14) hX dX6_has_10 (by decide) ?_
    exact kJ
set_option maxRecDepth 4000 in
theorem RX6_ones_0 {X : XT} {I : MI} {L : ML} {p : Nat → Nat}  (hX : Cx X cX6_ones 3 RX6 wsX6_ones rmX6_ones) (x0 : Int32) (k : G X 0 0 4 [(0, .int x0), (1, .int 0), (2, .int 0)] [] (HM X I L p)) : G X 0 0 0 [(0, .int x0)] [] (HM X I L p) := by
  refine g_iconst (v := 0) hX dX6_ones_0 (by decide) ?_
  refine g_istore_n (ls' := [(0, .int x0), (1, .int 0)]) hX dX6_ones_1 rfl (by decide) rfl ?_
  refine g_iconst (v := 0) hX dX6_ones_2 (by decide) ?_
  refine g_istore_n (ls' := [(0, .int x0), (1, .int 0), (2, .int 0)]) hX dX6_ones_3 rfl (by decide) rfl ?_
  exact k
set_option maxRecDepth 4000 in
theorem RX6_ones_4 {X : XT} {I : MI} {L : ML} {p : Nat → Nat}  (hX : Cx X cX6_ones 3 RX6 wsX6_ones rmX6_ones) (x0 : Int32) (x1 : Int32) (x2 : Int32) (k : ((10 ≤ x2 → Rt X (some .int) rmX6_ones (some (.int x1)) (HM X I L p)) ∧ (¬ 10 ≤ x2 → (∃ (zr2 : Int32), Ct (xE X) (xl X) yX6_has wsX6_has rmX6_has [.int x0, .int x2] (HM X I L p) (some (.int zr2)) (HM X I L p) ∧ G X 0 0 4 [(0, .int x0), (1, .int (x1 + (if zr2 = 0 then 0 else 1 : Int32))), (2, .int (x2 + 1))] [] (HM X I L p))))) : G X 0 0 4 [(0, .int x0), (1, .int x1), (2, .int x2)] [] (HM X I L p) := by
  refine g_iload_n hX 2 rfl rfl dX6_ones_4 ?_
  refine g_bipush (v := 10) hX dX6_ones_5 (by decide) ?_
  refine g_icmp_ge (tgt := 32) hX dX6_ones_7 (by decide) (fun h => ?_) (fun h => ?_)
  · replace k := k.1 h
    refine g_iload_n hX 1 rfl rfl dX6_ones_32 ?_
    exact g_ireturn hX k rfl rfl dX6_ones_33
  · replace k := k.2 h
    refine g_iload_n hX 1 rfl rfl dX6_ones_10 ?_
    refine g_iload_n hX 0 rfl rfl dX6_ones_11 ?_
    refine g_iload_n hX 2 rfl rfl dX6_ones_12 ?_
    obtain ⟨zr2, zhc1, k⟩ := k
    refine g_callS (cs' := 0) (sl' := 0) (as := [.int x0, .int x2]) (st := [.int x1]) hX zhc1 gX6_ones_X6_has rfl rfl ydX6_has (by decide) (Nat.le_of_ble_eq_true rfl) (by decide) dX6_ones_13 rfl rfl ?_
    have kJ : G X 0 0 24 [(0, .int x0), (1, .int x1), (2, .int x2)] [.int (if zr2 = 0 then 0 else 1 : Int32), .int x1] (HM X I L p) := by
      refine g_iadd hX dX6_ones_24 ?_
      refine g_istore_n (ls' := [(0, .int x0), (1, .int (x1 + (if zr2 = 0 then 0 else 1 : Int32))), (2, .int x2)]) hX dX6_ones_25 rfl (by decide) rfl ?_
      refine g_iinc (v := x2 + 1) (ls' := [(0, .int x0), (1, .int (x1 + (if zr2 = 0 then 0 else 1 : Int32))), (2, .int (x2 + 1))]) hX 2 rfl dX6_ones_26 rfl (by decide) rfl ?_
      refine g_goto (tgt := 4) hX dX6_ones_29 (by decide) ?_
      exact k
    refine g_if_eq (tgt := 23) hX dX6_ones_16 (by decide) (fun h => ?_) (fun h => ?_)
    · rw [(show (if zr2 = 0 then 0 else 1 : Int32) = 0 from if_pos h)] at kJ
      refine g_iconst (v := 0) hX dX6_ones_23 (by decide) ?_
      exact kJ
    · rw [(show (if zr2 = 0 then 0 else 1 : Int32) = 1 from if_neg h)] at kJ
      refine g_iconst (v := 1) hX dX6_ones_19 (by decide) ?_
      refine g_goto (tgt := 24) hX dX6_ones_20 (by decide) ?_
      exact kJ
set_option maxRecDepth 4000 in
theorem RX6_refuses_0 {X : XT} {I : MI} {L : ML} {p : Nat → Nat}  (hX : Cx X cX6_refuses 2 RX6 wsX6_refuses rmX6_refuses) (x1 : Int32) (k : (∃ zj2 : Nat, ((-2) - x1) = nI zj2 ∧ zj2 < 3 ∧ (∃ zj5 : Nat, ((-2) - x1) = nI zj5 ∧ zj5 < 3 ∧ Rt X (some .int) rmX6_refuses (some (.int x1)) (HM X (upI I 100 zj5 ((I 100 zj2) + 1)) L p)))) : G X 0 0 0 [(0, .ref 96), (1, .int x1)] [] (HM X I L p) := by
  refine g_aload_n hX 0 rfl rfl dX6_refuses_0 ?_
  refine g_getR (k := 4) (r' := 100) hX hPW flX6_refuses_19 sn96 so96 rfl (k96_4 _) dX6_refuses_1 ?_
  refine g_bipush (v := (-2)) hX dX6_refuses_4 (by decide) ?_
  refine g_iload_n hX 1 rfl rfl dX6_refuses_6 ?_
  refine g_isub hX dX6_refuses_7 ?_
  refine g_dup2 hX dX6_refuses_8 rfl rfl ?_
  obtain ⟨zj2, zh1, zh3, k⟩ := k
  refine g_iald hX hPW sn100 sh100 zh1 zh3 (by decide) dX6_refuses_9 ?_
  refine g_iconst (v := 1) hX dX6_refuses_10 (by decide) ?_
  refine g_iadd hX dX6_refuses_11 ?_
  obtain ⟨zj5, zh4, zh6, k⟩ := k
  refine g_iast hX sn100 sh100 zh4 zh6 (by decide) dX6_refuses_12 ?_
  refine g_iload_n hX 1 rfl rfl dX6_refuses_13 ?_
  exact g_ireturn hX k rfl rfl dX6_refuses_14
set_option maxRecDepth 4000 in
theorem RX6_hold_0 {X : XT} {I : MI} {L : ML} {p : Nat → Nat}  (hX : Cx X cX6_hold 2 RX6 wsX6_hold rmX6_hold)  (k : G X 0 0 2 [(0, .ref 96), (1, .int 0)] [] (HM X I L p)) : G X 0 0 0 [(0, .ref 96)] [] (HM X I L p) := by
  refine g_iconst (v := 0) hX dX6_hold_0 (by decide) ?_
  refine g_istore_n (ls' := [(0, .ref 96), (1, .int 0)]) hX dX6_hold_1 rfl (by decide) rfl ?_
  exact k
set_option maxRecDepth 4000 in
theorem RX6_hold_2 {X : XT} {I : MI} {L : ML} {p : Nat → Nat}  (hX : Cx X cX6_hold 2 RX6 wsX6_hold rmX6_hold) (x1 : Int32) (k : ((123 ≤ x1 → Rt X none rmX6_hold none (HM X I L p)) ∧ (¬ 123 ≤ x1 → (∃ zj2 : Nat, x1 = nI zj2 ∧ zj2 < 123 ∧ (∃ zj5 : Nat, x1 = nI zj5 ∧ zj5 < 123 ∧ G X 0 0 2 [(0, .ref 96), (1, .int (x1 + 1))] [] (HM X (upI I 98 zj5 (I 97 zj2)) L p)))))) : G X 0 0 2 [(0, .ref 96), (1, .int x1)] [] (HM X I L p) := by
  refine g_iload_n hX 1 rfl rfl dX6_hold_2 ?_
  refine g_bipush (v := 123) hX dX6_hold_3 (by decide) ?_
  refine g_icmp_ge (tgt := 26) hX dX6_hold_5 (by decide) (fun h => ?_) (fun h => ?_)
  · replace k := k.1 h
    exact g_return hX k rfl rfl dX6_hold_26
  · replace k := k.2 h
    refine g_aload_n hX 0 rfl rfl dX6_hold_8 ?_
    refine g_getR (k := 1) (r' := 98) hX hPW flX6_hold_13 sn96 so96 rfl (k96_1 _) dX6_hold_9 ?_
    refine g_iload_n hX 1 rfl rfl dX6_hold_12 ?_
    refine g_aload_n hX 0 rfl rfl dX6_hold_13 ?_
    refine g_getR (k := 0) (r' := 97) hX hPW flX6_hold_7 sn96 so96 rfl (k96_0 _) dX6_hold_14 ?_
    refine g_iload_n hX 1 rfl rfl dX6_hold_17 ?_
    obtain ⟨zj2, zh1, zh3, k⟩ := k
    refine g_iald hX hPW sn97 sh97 zh1 zh3 (by decide) dX6_hold_18 ?_
    obtain ⟨zj5, zh4, zh6, k⟩ := k
    refine g_iast hX sn98 sh98 zh4 zh6 (by decide) dX6_hold_19 ?_
    refine g_iinc (v := x1 + 1) (ls' := [(0, .ref 96), (1, .int (x1 + 1))]) hX 1 rfl dX6_hold_20 rfl (by decide) rfl ?_
    refine g_goto (tgt := 2) hX dX6_hold_23 (by decide) ?_
    exact k
set_option maxRecDepth 4000 in
theorem RX6_push_0 {X : XT} {I : MI} {L : ML} {p : Nat → Nat}  (hX : Cx X cX6_push 2 RX6 wsX6_push rmX6_push)  (k : ((¬ (I 96 3) = 5 → G X 0 0 50 [(0, .ref 96), (1, .int 0)] [] (HM X I L p)) ∧ ((I 96 3) = 5 → G X 0 0 10 [(0, .ref 96), (1, .int 0)] [] (HM X I L p)))) : G X 0 0 0 [(0, .ref 96)] [] (HM X I L p) := by
  refine g_aload_n hX 0 rfl rfl dX6_push_0 ?_
  refine g_getI (k := 3) hX hPW flX6_push_38 sn96 so96 rfl dX6_push_1 ?_
  refine g_iconst (v := 5) hX dX6_push_4 (by decide) ?_
  refine g_icmp_ne (tgt := 48) hX dX6_push_5 (by decide) (fun h => ?_) (fun h => ?_)
  · replace k := k.1 h
    refine g_iconst (v := 0) hX dX6_push_48 (by decide) ?_
    refine g_istore_n (ls' := [(0, .ref 96), (1, .int 0)]) hX dX6_push_49 rfl (by decide) rfl ?_
    exact k
  · replace k := k.2 h
    refine g_iconst (v := 0) hX dX6_push_8 (by decide) ?_
    refine g_istore_n (ls' := [(0, .ref 96), (1, .int 0)]) hX dX6_push_9 rfl (by decide) rfl ?_
    exact k
set_option maxRecDepth 4000 in
theorem RX6_push_10 {X : XT} {I : MI} {L : ML} {p : Nat → Nat}  (hX : Cx X cX6_push 2 RX6 wsX6_push rmX6_push) (x1 : Int32) (k : ((492 ≤ x1 → G X 0 0 50 [(0, .ref 96), (1, .int 0)] [] (HM X (upI I 96 3 ((I 96 3) - 1)) L p)) ∧ (¬ 492 ≤ x1 → (∃ zj2 : Nat, (x1 + 123) = nI zj2 ∧ zj2 < 615 ∧ (∃ zj5 : Nat, x1 = nI zj5 ∧ zj5 < 615 ∧ G X 0 0 10 [(0, .ref 96), (1, .int (x1 + 1))] [] (HM X (upI I 99 zj5 (I 99 zj2)) L p)))))) : G X 0 0 10 [(0, .ref 96), (1, .int x1)] [] (HM X I L p) := by
  refine g_iload_n hX 1 rfl rfl dX6_push_10 ?_
  refine g_sipush (v := 492) hX dX6_push_11 (by decide) ?_
  refine g_icmp_ge (tgt := 38) hX dX6_push_14 (by decide) (fun h => ?_) (fun h => ?_)
  · replace k := k.1 h
    refine g_aload_n hX 0 rfl rfl dX6_push_38 ?_
    refine g_dup hX dX6_push_39 rfl ?_
    refine g_getI (k := 3) hX hPW flX6_push_38 sn96 so96 rfl dX6_push_40 ?_
    refine g_iconst (v := 1) hX dX6_push_43 (by decide) ?_
    refine g_isub hX dX6_push_44 ?_
    refine g_putI (k := 3) hX fpX6_push_38 sn96 so96 rfl rfl rfl dX6_push_45 ?_
    refine g_iconst (v := 0) hX dX6_push_48 (by decide) ?_
    refine g_istore_n (ls' := [(0, .ref 96), (1, .int 0)]) hX dX6_push_49 rfl (by decide) rfl ?_
    exact k
  · replace k := k.2 h
    refine g_aload_n hX 0 rfl rfl dX6_push_17 ?_
    refine g_getR (k := 2) (r' := 99) hX hPW flX6_push_16 sn96 so96 rfl (k96_2 _) dX6_push_18 ?_
    refine g_iload_n hX 1 rfl rfl dX6_push_21 ?_
    refine g_aload_n hX 0 rfl rfl dX6_push_22 ?_
    refine g_getR (k := 2) (r' := 99) hX hPW flX6_push_16 sn96 so96 rfl (k96_2 _) dX6_push_23 ?_
    refine g_iload_n hX 1 rfl rfl dX6_push_26 ?_
    refine g_bipush (v := 123) hX dX6_push_27 (by decide) ?_
    refine g_iadd hX dX6_push_29 ?_
    obtain ⟨zj2, zh1, zh3, k⟩ := k
    refine g_iald hX hPW sn99 sh99 zh1 zh3 (by decide) dX6_push_30 ?_
    obtain ⟨zj5, zh4, zh6, k⟩ := k
    refine g_iast hX sn99 sh99 zh4 zh6 (by decide) dX6_push_31 ?_
    refine g_iinc (v := x1 + 1) (ls' := [(0, .ref 96), (1, .int (x1 + 1))]) hX 1 rfl dX6_push_32 rfl (by decide) rfl ?_
    refine g_goto (tgt := 10) hX dX6_push_35 (by decide) ?_
    exact k
set_option maxRecDepth 4000 in
theorem RX6_push_50 {X : XT} {I : MI} {L : ML} {p : Nat → Nat}  (hX : Cx X cX6_push 2 RX6 wsX6_push rmX6_push) (x1 : Int32) (k : ((123 ≤ x1 → Rt X none rmX6_push none (HM X (upI I 96 3 ((I 96 3) + 1)) L p)) ∧ (¬ 123 ≤ x1 → (∃ zj2 : Nat, x1 = nI zj2 ∧ zj2 < 123 ∧ (∃ zj5 : Nat, ((123 * (I 96 3)) + x1) = nI zj5 ∧ zj5 < 615 ∧ G X 0 0 50 [(0, .ref 96), (1, .int (x1 + 1))] [] (HM X (upI I 99 zj5 (I 98 zj2)) L p)))))) : G X 0 0 50 [(0, .ref 96), (1, .int x1)] [] (HM X I L p) := by
  refine g_iload_n hX 1 rfl rfl dX6_push_50 ?_
  refine g_bipush (v := 123) hX dX6_push_51 (by decide) ?_
  refine g_icmp_ge (tgt := 82) hX dX6_push_53 (by decide) (fun h => ?_) (fun h => ?_)
  · replace k := k.1 h
    refine g_aload_n hX 0 rfl rfl dX6_push_82 ?_
    refine g_dup hX dX6_push_83 rfl ?_
    refine g_getI (k := 3) hX hPW flX6_push_38 sn96 so96 rfl dX6_push_84 ?_
    refine g_iconst (v := 1) hX dX6_push_87 (by decide) ?_
    refine g_iadd hX dX6_push_88 ?_
    refine g_putI (k := 3) hX fpX6_push_38 sn96 so96 rfl rfl rfl dX6_push_89 ?_
    exact g_return hX k rfl rfl dX6_push_92
  · replace k := k.2 h
    refine g_aload_n hX 0 rfl rfl dX6_push_56 ?_
    refine g_getR (k := 2) (r' := 99) hX hPW flX6_push_16 sn96 so96 rfl (k96_2 _) dX6_push_57 ?_
    refine g_bipush (v := 123) hX dX6_push_60 (by decide) ?_
    refine g_aload_n hX 0 rfl rfl dX6_push_62 ?_
    refine g_getI (k := 3) hX hPW flX6_push_38 sn96 so96 rfl dX6_push_63 ?_
    refine g_imul hX dX6_push_66 ?_
    refine g_iload_n hX 1 rfl rfl dX6_push_67 ?_
    refine g_iadd hX dX6_push_68 ?_
    refine g_aload_n hX 0 rfl rfl dX6_push_69 ?_
    refine g_getR (k := 1) (r' := 98) hX hPW flX6_push_13 sn96 so96 rfl (k96_1 _) dX6_push_70 ?_
    refine g_iload_n hX 1 rfl rfl dX6_push_73 ?_
    obtain ⟨zj2, zh1, zh3, k⟩ := k
    refine g_iald hX hPW sn98 sh98 zh1 zh3 (by decide) dX6_push_74 ?_
    obtain ⟨zj5, zh4, zh6, k⟩ := k
    refine g_iast hX sn99 sh99 zh4 zh6 (by decide) dX6_push_75 ?_
    refine g_iinc (v := x1 + 1) (ls' := [(0, .ref 96), (1, .int (x1 + 1))]) hX 1 rfl dX6_push_76 rfl (by decide) rfl ?_
    refine g_goto (tgt := 50) hX dX6_push_79 (by decide) ?_
    exact k
set_option maxRecDepth 4000 in
theorem RX6_ends_0 {X : XT} {I : MI} {L : ML} {p : Nat → Nat}  (hX : Cx X cX6_ends 2 RX6 wsX6_ends rmX6_ends) (x1 : Int32) (k : ((0 ≤ x1 → (∃ (zI2 : MI), Ct (xE X) (xl X) yX6_push wsX6_push rmX6_push [.ref 96] (HM X I L p) none (HM X zI2 L p) ∧ Rt X (some .int) rmX6_ends (some (.int x1)) (HM X zI2 L p))) ∧ (¬ 0 ≤ x1 → (∃ (zr4 : Int32) (zI5 : MI), Ct (xE X) (xl X) yX6_refuses wsX6_refuses rmX6_refuses [.ref 96, .int x1] (HM X I L p) (some (.int zr4)) (HM X zI5 L p) ∧ Rt X (some .int) rmX6_ends (some (.int zr4)) (HM X zI5 L p))))) : G X 0 0 0 [(0, .ref 96), (1, .int x1)] [] (HM X I L p) := by
  refine g_iload_n hX 1 rfl rfl dX6_ends_0 ?_
  refine g_if_ge (tgt := 10) hX dX6_ends_1 (by decide) (fun h => ?_) (fun h => ?_)
  · replace k := k.1 h
    refine g_aload_n hX 0 rfl rfl dX6_ends_10 ?_
    obtain ⟨zI2, zhc1, k⟩ := k
    refine g_callV (cs' := 0) (sl' := 0) (C := RX6) (as := []) (st := []) hX zhc1 hPW sn96 so96 rfl gX6_ends_X6_push rfl rfl rfl ydX6_push (by decide) (Nat.le_of_ble_eq_true rfl) (by decide) dX6_ends_11 rfl rfl ?_
    refine g_iload_n hX 1 rfl rfl dX6_ends_14 ?_
    exact g_ireturn hX k rfl rfl dX6_ends_15
  · replace k := k.2 h
    refine g_aload_n hX 0 rfl rfl dX6_ends_4 ?_
    refine g_iload_n hX 1 rfl rfl dX6_ends_5 ?_
    obtain ⟨zr4, zI5, zhc3, k⟩ := k
    refine g_callV (cs' := 0) (sl' := 0) (C := RX6) (as := [.int x1]) (st := []) hX zhc3 hPW sn96 so96 rfl gX6_ends_X6_refuses rfl rfl rfl ydX6_refuses (by decide) (Nat.le_of_ble_eq_true rfl) (by decide) dX6_ends_6 rfl rfl ?_
    exact g_ireturn hX k rfl rfl dX6_ends_9
set_option maxRecDepth 4000 in
theorem RX6_back_0 {X : XT} {I : MI} {L : ML} {p : Nat → Nat}  (hX : Cx X cX6_back 2 RX6 wsX6_back rmX6_back)  (k : ((¬ (I 96 3) = 0 → G X 0 0 26 [(0, .ref 96), (1, .int 0)] [] (HM X (upI I 96 3 ((I 96 3) - 1)) L p)) ∧ ((I 96 3) = 0 → (∃ (zr2 : Int32) (zI3 : MI), Ct (xE X) (xl X) yX6_refuses wsX6_refuses rmX6_refuses [.ref 96, .int (-3)] (HM X I L p) (some (.int zr2)) (HM X zI3 L p) ∧ Rt X (some .int) rmX6_back (some (.int zr2)) (HM X zI3 L p))))) : G X 0 0 0 [(0, .ref 96)] [] (HM X I L p) := by
  refine g_aload_n hX 0 rfl rfl dX6_back_0 ?_
  refine g_getI (k := 3) hX hPW flX6_back_38 sn96 so96 rfl dX6_back_1 ?_
  refine g_if_ne (tgt := 14) hX dX6_back_4 (by decide) (fun h => ?_) (fun h => ?_)
  · replace k := k.1 h
    refine g_aload_n hX 0 rfl rfl dX6_back_14 ?_
    refine g_dup hX dX6_back_15 rfl ?_
    refine g_getI (k := 3) hX hPW flX6_back_38 sn96 so96 rfl dX6_back_16 ?_
    refine g_iconst (v := 1) hX dX6_back_19 (by decide) ?_
    refine g_isub hX dX6_back_20 ?_
    refine g_putI (k := 3) hX fpX6_back_38 sn96 so96 rfl rfl rfl dX6_back_21 ?_
    refine g_iconst (v := 0) hX dX6_back_24 (by decide) ?_
    refine g_istore_n (ls' := [(0, .ref 96), (1, .int 0)]) hX dX6_back_25 rfl (by decide) rfl ?_
    exact k
  · replace k := k.2 h
    refine g_aload_n hX 0 rfl rfl dX6_back_7 ?_
    refine g_bipush (v := (-3)) hX dX6_back_8 (by decide) ?_
    obtain ⟨zr2, zI3, zhc1, k⟩ := k
    refine g_callV (cs' := 0) (sl' := 0) (C := RX6) (as := [.int (-3)]) (st := []) hX zhc1 hPW sn96 so96 rfl gX6_back_X6_refuses rfl rfl rfl ydX6_refuses (by decide) (Nat.le_of_ble_eq_true rfl) (by decide) dX6_back_10 rfl rfl ?_
    exact g_ireturn hX k rfl rfl dX6_back_13
set_option maxRecDepth 4000 in
theorem RX6_back_26 {X : XT} {I : MI} {L : ML} {p : Nat → Nat}  (hX : Cx X cX6_back 2 RX6 wsX6_back rmX6_back) (x1 : Int32) (k : ((123 ≤ x1 → Rt X (some .int) rmX6_back (some (.int (I 96 3))) (HM X I L p)) ∧ (¬ 123 ≤ x1 → (∃ zj2 : Nat, ((123 * (I 96 3)) + x1) = nI zj2 ∧ zj2 < 615 ∧ (∃ zj5 : Nat, x1 = nI zj5 ∧ zj5 < 123 ∧ G X 0 0 26 [(0, .ref 96), (1, .int (x1 + 1))] [] (HM X (upI I 97 zj5 (I 99 zj2)) L p)))))) : G X 0 0 26 [(0, .ref 96), (1, .int x1)] [] (HM X I L p) := by
  refine g_iload_n hX 1 rfl rfl dX6_back_26 ?_
  refine g_bipush (v := 123) hX dX6_back_27 (by decide) ?_
  refine g_icmp_ge (tgt := 58) hX dX6_back_29 (by decide) (fun h => ?_) (fun h => ?_)
  · replace k := k.1 h
    refine g_aload_n hX 0 rfl rfl dX6_back_58 ?_
    refine g_getI (k := 3) hX hPW flX6_back_38 sn96 so96 rfl dX6_back_59 ?_
    exact g_ireturn hX k rfl rfl dX6_back_62
  · replace k := k.2 h
    refine g_aload_n hX 0 rfl rfl dX6_back_32 ?_
    refine g_getR (k := 0) (r' := 97) hX hPW flX6_back_7 sn96 so96 rfl (k96_0 _) dX6_back_33 ?_
    refine g_iload_n hX 1 rfl rfl dX6_back_36 ?_
    refine g_aload_n hX 0 rfl rfl dX6_back_37 ?_
    refine g_getR (k := 2) (r' := 99) hX hPW flX6_back_16 sn96 so96 rfl (k96_2 _) dX6_back_38 ?_
    refine g_bipush (v := 123) hX dX6_back_41 (by decide) ?_
    refine g_aload_n hX 0 rfl rfl dX6_back_43 ?_
    refine g_getI (k := 3) hX hPW flX6_back_38 sn96 so96 rfl dX6_back_44 ?_
    refine g_imul hX dX6_back_47 ?_
    refine g_iload_n hX 1 rfl rfl dX6_back_48 ?_
    refine g_iadd hX dX6_back_49 ?_
    obtain ⟨zj2, zh1, zh3, k⟩ := k
    refine g_iald hX hPW sn99 sh99 zh1 zh3 (by decide) dX6_back_50 ?_
    obtain ⟨zj5, zh4, zh6, k⟩ := k
    refine g_iast hX sn97 sh97 zh4 zh6 (by decide) dX6_back_51 ?_
    refine g_iinc (v := x1 + 1) (ls' := [(0, .ref 96), (1, .int (x1 + 1))]) hX 1 rfl dX6_back_52 rfl (by decide) rfl ?_
    refine g_goto (tgt := 26) hX dX6_back_55 (by decide) ?_
    exact k
set_option maxRecDepth 4000 in
theorem RX6_isShaft_0 {X : XT} {I : MI} {L : ML} {p : Nat → Nat}  (hX : Cx X cX6_isShaft 2 RX6 wsX6_isShaft rmX6_isShaft) (x1 : Int32) (k : (∃ (zr3 : Int32), Ct (xE X) (xl X) yX6_in wsX6_in rmX6_in [.int x1, .int 0, .int ((I 97 0) - 1)] (HM X I L p) (some (.int zr3)) (HM X I L p) ∧ ((zr3 = 0 ∨ zr3 = 1) ∧ Rt X (some .boolean) rmX6_isShaft (some (.int zr3)) (HM X I L p)))) : G X 0 0 0 [(0, .ref 96), (1, .int x1)] [] (HM X I L p) := by
  refine g_iload_n hX 1 rfl rfl dX6_isShaft_0 ?_
  refine g_iconst (v := 0) hX dX6_isShaft_1 (by decide) ?_
  refine g_aload_n hX 0 rfl rfl dX6_isShaft_2 ?_
  refine g_getR (k := 0) (r' := 97) hX hPW flX6_isShaft_7 sn96 so96 rfl (k96_0 _) dX6_isShaft_3 ?_
  refine g_iconst (v := 0) hX dX6_isShaft_6 (by decide) ?_
  refine g_iald (j := 0) hX hPW sn97 sh97 rfl (by decide) (by decide) dX6_isShaft_7 ?_
  refine g_iconst (v := 1) hX dX6_isShaft_8 (by decide) ?_
  refine g_isub hX dX6_isShaft_9 ?_
  obtain ⟨zr3, zhc2, k⟩ := k
  refine g_callS (cs' := 0) (sl' := 0) (as := [.int x1, .int 0, .int ((I 97 0) - 1)]) (st := []) hX zhc2 gX6_isShaft_X6_in rfl rfl ydX6_in (by decide) (Nat.le_of_ble_eq_true rfl) (by decide) dX6_isShaft_10 rfl rfl ?_
  exact g_zreturn hX k.2 k.1 rfl rfl dX6_isShaft_13
set_option maxRecDepth 4000 in
theorem RX6_isPipe_0 {X : XT} {I : MI} {L : ML} {p : Nat → Nat}  (hX : Cx X cX6_isPipe 2 RX6 wsX6_isPipe rmX6_isPipe) (x1 : Int32) (k : (∃ (zr3 : Int32), Ct (xE X) (xl X) yX6_in wsX6_in rmX6_in [.int x1, .int 0, .int ((I 97 1) - 1)] (HM X I L p) (some (.int zr3)) (HM X I L p) ∧ ((zr3 = 0 ∨ zr3 = 1) ∧ Rt X (some .boolean) rmX6_isPipe (some (.int zr3)) (HM X I L p)))) : G X 0 0 0 [(0, .ref 96), (1, .int x1)] [] (HM X I L p) := by
  refine g_iload_n hX 1 rfl rfl dX6_isPipe_0 ?_
  refine g_iconst (v := 0) hX dX6_isPipe_1 (by decide) ?_
  refine g_aload_n hX 0 rfl rfl dX6_isPipe_2 ?_
  refine g_getR (k := 0) (r' := 97) hX hPW flX6_isPipe_7 sn96 so96 rfl (k96_0 _) dX6_isPipe_3 ?_
  refine g_iconst (v := 1) hX dX6_isPipe_6 (by decide) ?_
  refine g_iald (j := 1) hX hPW sn97 sh97 rfl (by decide) (by decide) dX6_isPipe_7 ?_
  refine g_iconst (v := 1) hX dX6_isPipe_8 (by decide) ?_
  refine g_isub hX dX6_isPipe_9 ?_
  obtain ⟨zr3, zhc2, k⟩ := k
  refine g_callS (cs' := 0) (sl' := 0) (as := [.int x1, .int 0, .int ((I 97 1) - 1)]) (st := []) hX zhc2 gX6_isPipe_X6_in rfl rfl ydX6_in (by decide) (Nat.le_of_ble_eq_true rfl) (by decide) dX6_isPipe_10 rfl rfl ?_
  exact g_zreturn hX k.2 k.1 rfl rfl dX6_isPipe_13
set_option maxRecDepth 4000 in
theorem RX6_kindOf_0 {X : XT} {I : MI} {L : ML} {p : Nat → Nat}  (hX : Cx X cX6_kindOf 2 RX6 wsX6_kindOf rmX6_kindOf) (x1 : Int32) (k : (∃ zj2 : Nat, (3 + (2 * x1)) = nI zj2 ∧ zj2 < 123 ∧ Rt X (some .int) rmX6_kindOf (some (.int (I 97 zj2))) (HM X I L p))) : G X 0 0 0 [(0, .ref 96), (1, .int x1)] [] (HM X I L p) := by
  refine g_aload_n hX 0 rfl rfl dX6_kindOf_0 ?_
  refine g_getR (k := 0) (r' := 97) hX hPW flX6_kindOf_7 sn96 so96 rfl (k96_0 _) dX6_kindOf_1 ?_
  refine g_iconst (v := 3) hX dX6_kindOf_4 (by decide) ?_
  refine g_iconst (v := 2) hX dX6_kindOf_5 (by decide) ?_
  refine g_iload_n hX 1 rfl rfl dX6_kindOf_6 ?_
  refine g_imul hX dX6_kindOf_7 ?_
  refine g_iadd hX dX6_kindOf_8 ?_
  obtain ⟨zj2, zh1, zh3, k⟩ := k
  refine g_iald hX hPW sn97 sh97 zh1 zh3 (by decide) dX6_kindOf_9 ?_
  exact g_ireturn hX k rfl rfl dX6_kindOf_10
set_option maxRecDepth 4000 in
theorem RX6_numberOf_0 {X : XT} {I : MI} {L : ML} {p : Nat → Nat}  (hX : Cx X cX6_numberOf 2 RX6 wsX6_numberOf rmX6_numberOf) (x1 : Int32) (k : (∃ zj2 : Nat, ((3 + (2 * x1)) + 1) = nI zj2 ∧ zj2 < 123 ∧ Rt X (some .int) rmX6_numberOf (some (.int (I 97 zj2))) (HM X I L p))) : G X 0 0 0 [(0, .ref 96), (1, .int x1)] [] (HM X I L p) := by
  refine g_aload_n hX 0 rfl rfl dX6_numberOf_0 ?_
  refine g_getR (k := 0) (r' := 97) hX hPW flX6_numberOf_7 sn96 so96 rfl (k96_0 _) dX6_numberOf_1 ?_
  refine g_iconst (v := 3) hX dX6_numberOf_4 (by decide) ?_
  refine g_iconst (v := 2) hX dX6_numberOf_5 (by decide) ?_
  refine g_iload_n hX 1 rfl rfl dX6_numberOf_6 ?_
  refine g_imul hX dX6_numberOf_7 ?_
  refine g_iadd hX dX6_numberOf_8 ?_
  refine g_iconst (v := 1) hX dX6_numberOf_9 (by decide) ?_
  refine g_iadd hX dX6_numberOf_10 ?_
  obtain ⟨zj2, zh1, zh3, k⟩ := k
  refine g_iald hX hPW sn97 sh97 zh1 zh3 (by decide) dX6_numberOf_11 ?_
  exact g_ireturn hX k rfl rfl dX6_numberOf_12
set_option maxRecDepth 4000 in
theorem RX6_pipeOf_0 {X : XT} {I : MI} {L : ML} {p : Nat → Nat}  (hX : Cx X cX6_pipeOf 3 RX6 wsX6_pipeOf rmX6_pipeOf) (x1 : Int32) (x2 : Int32) (k : (∃ zj2 : Nat, ((23 + (4 * x1)) + x2) = nI zj2 ∧ zj2 < 123 ∧ Rt X (some .int) rmX6_pipeOf (some (.int (I 97 zj2))) (HM X I L p))) : G X 0 0 0 [(0, .ref 96), (1, .int x1), (2, .int x2)] [] (HM X I L p) := by
  refine g_aload_n hX 0 rfl rfl dX6_pipeOf_0 ?_
  refine g_getR (k := 0) (r' := 97) hX hPW flX6_pipeOf_7 sn96 so96 rfl (k96_0 _) dX6_pipeOf_1 ?_
  refine g_bipush (v := 23) hX dX6_pipeOf_4 (by decide) ?_
  refine g_iconst (v := 4) hX dX6_pipeOf_6 (by decide) ?_
  refine g_iload_n hX 1 rfl rfl dX6_pipeOf_7 ?_
  refine g_imul hX dX6_pipeOf_8 ?_
  refine g_iadd hX dX6_pipeOf_9 ?_
  refine g_iload_n hX 2 rfl rfl dX6_pipeOf_10 ?_
  refine g_iadd hX dX6_pipeOf_11 ?_
  obtain ⟨zj2, zh1, zh3, k⟩ := k
  refine g_iald hX hPW sn97 sh97 zh1 zh3 (by decide) dX6_pipeOf_12 ?_
  exact g_ireturn hX k rfl rfl dX6_pipeOf_13
set_option maxRecDepth 4000 in
theorem RX6_below_0 {X : XT} {I : MI} {L : ML} {p : Nat → Nat}  (hX : Cx X cX6_below 5 RX6 wsX6_below rmX6_below) (x1 : Int32) (k : G X 0 0 6 [(0, .ref 96), (1, .int x1), (2, .int (jshl 1 x1)), (3, .int 0)] [] (HM X I L p)) : G X 0 0 0 [(0, .ref 96), (1, .int x1)] [] (HM X I L p) := by
  refine g_iconst (v := 1) hX dX6_below_0 (by decide) ?_
  refine g_iload_n hX 1 rfl rfl dX6_below_1 ?_
  refine g_ishl hX dX6_below_2 ?_
  refine g_istore_n (ls' := [(0, .ref 96), (1, .int x1), (2, .int (jshl 1 x1))]) hX dX6_below_3 rfl (by decide) rfl ?_
  refine g_iconst (v := 0) hX dX6_below_4 (by decide) ?_
  refine g_istore_n (ls' := [(0, .ref 96), (1, .int x1), (2, .int (jshl 1 x1)), (3, .int 0)]) hX dX6_below_5 rfl (by decide) rfl ?_
  exact k
set_option maxRecDepth 4000 in
theorem RX6_below_6 {X : XT} {I : MI} {L : ML} {p : Nat → Nat}  (hX : Cx X cX6_below 5 RX6 wsX6_below rmX6_below) (x1 : Int32) (x2 : Int32) (x3 : Int32) (k : ((x3 = x2 → Rt X (some .int) rmX6_below (some (.int x2)) (HM X I L p)) ∧ (¬ x3 = x2 → G X 0 0 16 [(0, .ref 96), (1, .int x1), (2, .int x2), (3, .int x2), (4, .int 0)] [] (HM X I L p)))) : G X 0 0 6 [(0, .ref 96), (1, .int x1), (2, .int x2), (3, .int x3)] [] (HM X I L p) := by
  refine g_iload_n hX 3 rfl rfl dX6_below_6 ?_
  refine g_iload_n hX 2 rfl rfl dX6_below_7 ?_
  refine g_icmp_eq (tgt := 66) hX dX6_below_8 (by decide) (fun h => ?_) (fun h => ?_)
  · replace k := k.1 h
    refine g_iload_n hX 2 rfl rfl dX6_below_66 ?_
    exact g_ireturn hX k rfl rfl dX6_below_67
  · replace k := k.2 h
    refine g_iload_n hX 2 rfl rfl dX6_below_11 ?_
    refine g_istore_n (ls' := [(0, .ref 96), (1, .int x1), (2, .int x2), (3, .int x2)]) hX dX6_below_12 rfl (by decide) rfl ?_
    refine g_iconst (v := 0) hX dX6_below_13 (by decide) ?_
    refine g_istore (ls' := [(0, .ref 96), (1, .int x1), (2, .int x2), (3, .int x2), (4, .int 0)]) hX dX6_below_14 (by decide) rfl ?_
    exact k
set_option maxRecDepth 4000 in
theorem RX6_below_16 {X : XT} {I : MI} {L : ML} {p : Nat → Nat}  (hX : Cx X cX6_below 5 RX6 wsX6_below rmX6_below) (x1 : Int32) (x2 : Int32) (x3 : Int32) (x4 : Int32) (k : (((I 97 1) ≤ x4 → G X 0 0 6 [(0, .ref 96), (1, .int x1), (2, .int x2), (3, .int x3)] [] (HM X I L p)) ∧ (¬ (I 97 1) ≤ x4 → (∃ (zr3 : Int32), Ct (xE X) (xl X) yX6_pipeOf wsX6_pipeOf rmX6_pipeOf [.ref 96, .int x4, .int 0] (HM X I L p) (some (.int zr3)) (HM X I L p) ∧ (∃ (zr5 : Int32), Ct (xE X) (xl X) yX6_has wsX6_has rmX6_has [.int x2, .int zr3] (HM X I L p) (some (.int zr5)) (HM X I L p) ∧ ((zr5 = 0 → G X 0 0 16 [(0, .ref 96), (1, .int x1), (2, .int (x2 ||| 0)), (3, .int x3), (4, .int (x4 + 1))] [] (HM X I L p)) ∧ (¬ zr5 = 0 → (∃ (zr7 : Int32), Ct (xE X) (xl X) yX6_pipeOf wsX6_pipeOf rmX6_pipeOf [.ref 96, .int x4, .int 1] (HM X I L p) (some (.int zr7)) (HM X I L p) ∧ G X 0 0 16 [(0, .ref 96), (1, .int x1), (2, .int (x2 ||| (jshl 1 zr7))), (3, .int x3), (4, .int (x4 + 1))] [] (HM X I L p))))))))) : G X 0 0 16 [(0, .ref 96), (1, .int x1), (2, .int x2), (3, .int x3), (4, .int x4)] [] (HM X I L p) := by
  refine g_iload hX 4 rfl dX6_below_16 ?_
  refine g_aload_n hX 0 rfl rfl dX6_below_18 ?_
  refine g_getR (k := 0) (r' := 97) hX hPW flX6_below_7 sn96 so96 rfl (k96_0 _) dX6_below_19 ?_
  refine g_iconst (v := 1) hX dX6_below_22 (by decide) ?_
  refine g_iald (j := 1) hX hPW sn97 sh97 rfl (by decide) (by decide) dX6_below_23 ?_
  refine g_icmp_ge (tgt := 63) hX dX6_below_24 (by decide) (fun h => ?_) (fun h => ?_)
  · replace k := k.1 h
    refine g_goto (tgt := 6) hX dX6_below_63 (by decide) ?_
    refine G.pick (ks := [0, 1, 2, 3]) (ls' := [(0, .ref 96), (1, .int x1), (2, .int x2), (3, .int x3)]) rfl ?_
    exact k
  · replace k := k.2 h
    refine g_iload_n hX 2 rfl rfl dX6_below_27 ?_
    refine g_iload_n hX 2 rfl rfl dX6_below_28 ?_
    refine g_aload_n hX 0 rfl rfl dX6_below_29 ?_
    refine g_iload hX 4 rfl dX6_below_30 ?_
    refine g_iconst (v := 0) hX dX6_below_32 (by decide) ?_
    obtain ⟨zr3, zhc2, k⟩ := k
    refine g_callV (cs' := 0) (sl' := 0) (C := RX6) (as := [.int x4, .int 0]) (st := [.int x2, .int x2]) hX zhc2 hPW sn96 so96 rfl gX6_below_X6_pipeOf rfl rfl rfl ydX6_pipeOf (by decide) (Nat.le_of_ble_eq_true rfl) (by decide) dX6_below_33 rfl rfl ?_
    obtain ⟨zr5, zhc4, k⟩ := k
    refine g_callS (cs' := 0) (sl' := 0) (as := [.int x2, .int zr3]) (st := [.int x2]) hX zhc4 gX6_below_X6_has rfl rfl ydX6_has (by decide) (Nat.le_of_ble_eq_true rfl) (by decide) dX6_below_36 rfl rfl ?_
    refine g_if_eq (tgt := 54) hX dX6_below_39 (by decide) (fun h => ?_) (fun h => ?_)
    · replace k := k.1 h
      refine g_iconst (v := 0) hX dX6_below_54 (by decide) ?_
      refine g_ior hX dX6_below_55 ?_
      refine g_istore_n (ls' := [(0, .ref 96), (1, .int x1), (2, .int (x2 ||| 0)), (3, .int x3), (4, .int x4)]) hX dX6_below_56 rfl (by decide) rfl ?_
      refine g_iinc (v := x4 + 1) (ls' := [(0, .ref 96), (1, .int x1), (2, .int (x2 ||| 0)), (3, .int x3), (4, .int (x4 + 1))]) hX 4 rfl dX6_below_57 rfl (by decide) rfl ?_
      refine g_goto (tgt := 16) hX dX6_below_60 (by decide) ?_
      exact k
    · replace k := k.2 h
      refine g_iconst (v := 1) hX dX6_below_42 (by decide) ?_
      refine g_aload_n hX 0 rfl rfl dX6_below_43 ?_
      refine g_iload hX 4 rfl dX6_below_44 ?_
      refine g_iconst (v := 1) hX dX6_below_46 (by decide) ?_
      obtain ⟨zr7, zhc6, k⟩ := k
      refine g_callV (cs' := 0) (sl' := 0) (C := RX6) (as := [.int x4, .int 1]) (st := [.int 1, .int x2]) hX zhc6 hPW sn96 so96 rfl gX6_below_X6_pipeOf rfl rfl rfl ydX6_pipeOf (by decide) (Nat.le_of_ble_eq_true rfl) (by decide) dX6_below_47 rfl rfl ?_
      refine g_ishl hX dX6_below_50 ?_
      refine g_goto (tgt := 55) hX dX6_below_51 (by decide) ?_
      refine g_ior hX dX6_below_55 ?_
      refine g_istore_n (ls' := [(0, .ref 96), (1, .int x1), (2, .int (x2 ||| (jshl 1 zr7))), (3, .int x3), (4, .int x4)]) hX dX6_below_56 rfl (by decide) rfl ?_
      refine g_iinc (v := x4 + 1) (ls' := [(0, .ref 96), (1, .int x1), (2, .int (x2 ||| (jshl 1 zr7))), (3, .int x3), (4, .int (x4 + 1))]) hX 4 rfl dX6_below_57 rfl (by decide) rfl ?_
      refine g_goto (tgt := 16) hX dX6_below_60 (by decide) ?_
      exact k
set_option maxRecDepth 4000 in
theorem RX6_isKind_0 {X : XT} {I : MI} {L : ML} {p : Nat → Nat}  (hX : Cx X cX6_isKind 1 RX6 wsX6_isKind rmX6_isKind) (x0 : Int32) (k : (∃ (zr2 : Int32), Ct (xE X) (xl X) yX6_in wsX6_in rmX6_in [.int x0, .int 0, .int 4] (HM X I L p) (some (.int zr2)) (HM X I L p) ∧ ((zr2 = 0 ∨ zr2 = 1) ∧ Rt X (some .boolean) rmX6_isKind (some (.int zr2)) (HM X I L p)))) : G X 0 0 0 [(0, .int x0)] [] (HM X I L p) := by
  refine g_iload_n hX 0 rfl rfl dX6_isKind_0 ?_
  refine g_iconst (v := 0) hX dX6_isKind_1 (by decide) ?_
  refine g_iconst (v := 4) hX dX6_isKind_2 (by decide) ?_
  obtain ⟨zr2, zhc1, k⟩ := k
  refine g_callS (cs' := 0) (sl' := 0) (as := [.int x0, .int 0, .int 4]) (st := []) hX zhc1 gX6_isKind_X6_in rfl rfl ydX6_in (by decide) (Nat.le_of_ble_eq_true rfl) (by decide) dX6_isKind_3 rfl rfl ?_
  exact g_zreturn hX k.2 k.1 rfl rfl dX6_isKind_6
set_option maxRecDepth 4000 in
theorem RX6_doShaft_0 {X : XT} {I : MI} {L : ML} {p : Nat → Nat}  (hX : Cx X cX6_doShaft 4 RX6 wsX6_doShaft rmX6_doShaft) (x1 : Int32) (x2 : Int32) (k : (∃ (zr2 : Int32), Ct (xE X) (xl X) yX6_isKind wsX6_isKind rmX6_isKind [.int x1] (HM X I L p) (some (.int zr2)) (HM X I L p) ∧ ((zr2 = 0 → Rt X (some .int) rmX6_doShaft (some (.int (-2))) (HM X I L p)) ∧ (¬ zr2 = 0 → (∃ (zr4 : Int32), Ct (xE X) (xl X) yX6_in wsX6_in rmX6_in [.int x2, .int 1, .int 15] (HM X I L p) (some (.int zr4)) (HM X I L p) ∧ ((¬ zr4 = 0 → ((¬ (I 97 0) = 10 → (∃ zj8 : Nat, (3 + (2 * (I 97 0))) = nI zj8 ∧ zj8 < 123 ∧ (∃ zj11 : Nat, ((3 + (2 * (I 97 0))) + 1) = nI zj11 ∧ zj11 < 123 ∧ Rt X (some .int) rmX6_doShaft (some (.int (I 97 0))) (HM X (upI (upI (upI I 97 zj8 x1) 97 zj11 x2) 97 0 (((upI (upI I 97 zj8 x1) 97 zj11 x2) 97 0) + 1)) L p)))) ∧ ((I 97 0) = 10 → Rt X (some .int) rmX6_doShaft (some (.int (-4))) (HM X I L p)))) ∧ (zr4 = 0 → Rt X (some .int) rmX6_doShaft (some (.int (-2))) (HM X I L p)))))))) : G X 0 0 0 [(0, .ref 96), (1, .int x1), (2, .int x2)] [] (HM X I L p) := by
  refine g_iload_n hX 1 rfl rfl dX6_doShaft_0 ?_
  obtain ⟨zr2, zhc1, k⟩ := k
  refine g_callS (cs' := 0) (sl' := 0) (as := [.int x1]) (st := []) hX zhc1 gX6_doShaft_X6_isKind rfl rfl ydX6_isKind (by decide) (Nat.le_of_ble_eq_true rfl) (by decide) dX6_doShaft_1 rfl rfl ?_
  refine g_if_eq (tgt := 17) hX dX6_doShaft_4 (by decide) (fun h => ?_) (fun h => ?_)
  · replace k := k.1 h
    refine g_bipush (v := (-2)) hX dX6_doShaft_17 (by decide) ?_
    exact g_ireturn hX k rfl rfl dX6_doShaft_19
  · replace k := k.2 h
    refine g_iload_n hX 2 rfl rfl dX6_doShaft_7 ?_
    refine g_iconst (v := 1) hX dX6_doShaft_8 (by decide) ?_
    refine g_bipush (v := 15) hX dX6_doShaft_9 (by decide) ?_
    obtain ⟨zr4, zhc3, k⟩ := k
    refine g_callS (cs' := 0) (sl' := 0) (as := [.int x2, .int 1, .int 15]) (st := []) hX zhc3 gX6_doShaft_X6_in rfl rfl ydX6_in (by decide) (Nat.le_of_ble_eq_true rfl) (by decide) dX6_doShaft_11 rfl rfl ?_
    refine g_if_ne (tgt := 20) hX dX6_doShaft_14 (by decide) (fun h => ?_) (fun h => ?_)
    · replace k := k.1 h
      refine g_aload_n hX 0 rfl rfl dX6_doShaft_20 ?_
      refine g_getR (k := 0) (r' := 97) hX hPW flX6_doShaft_7 sn96 so96 rfl (k96_0 _) dX6_doShaft_21 ?_
      refine g_iconst (v := 0) hX dX6_doShaft_24 (by decide) ?_
      refine g_iald (j := 0) hX hPW sn97 sh97 rfl (by decide) (by decide) dX6_doShaft_25 ?_
      refine g_bipush (v := 10) hX dX6_doShaft_26 (by decide) ?_
      refine g_icmp_ne (tgt := 34) hX dX6_doShaft_28 (by decide) (fun h => ?_) (fun h => ?_)
      · replace k := k.1 h
        refine g_aload_n hX 0 rfl rfl dX6_doShaft_34 ?_
        refine g_getR (k := 0) (r' := 97) hX hPW flX6_doShaft_7 sn96 so96 rfl (k96_0 _) dX6_doShaft_35 ?_
        refine g_iconst (v := 0) hX dX6_doShaft_38 (by decide) ?_
        refine g_iald (j := 0) hX hPW sn97 sh97 rfl (by decide) (by decide) dX6_doShaft_39 ?_
        refine g_istore_n (ls' := [(0, .ref 96), (1, .int x1), (2, .int x2), (3, .int (I 97 0))]) hX dX6_doShaft_40 rfl (by decide) rfl ?_
        refine g_aload_n hX 0 rfl rfl dX6_doShaft_41 ?_
        refine g_getR (k := 0) (r' := 97) hX hPW flX6_doShaft_7 sn96 so96 rfl (k96_0 _) dX6_doShaft_42 ?_
        refine g_iconst (v := 3) hX dX6_doShaft_45 (by decide) ?_
        refine g_iconst (v := 2) hX dX6_doShaft_46 (by decide) ?_
        refine g_iload_n hX 3 rfl rfl dX6_doShaft_47 ?_
        refine g_imul hX dX6_doShaft_48 ?_
        refine g_iadd hX dX6_doShaft_49 ?_
        refine g_iload_n hX 1 rfl rfl dX6_doShaft_50 ?_
        obtain ⟨zj8, zh7, zh9, k⟩ := k
        refine g_iast hX sn97 sh97 zh7 zh9 (by decide) dX6_doShaft_51 ?_
        refine g_aload_n hX 0 rfl rfl dX6_doShaft_52 ?_
        refine g_getR (k := 0) (r' := 97) hX hPW flX6_doShaft_7 sn96 so96 rfl (k96_0 _) dX6_doShaft_53 ?_
        refine g_iconst (v := 3) hX dX6_doShaft_56 (by decide) ?_
        refine g_iconst (v := 2) hX dX6_doShaft_57 (by decide) ?_
        refine g_iload_n hX 3 rfl rfl dX6_doShaft_58 ?_
        refine g_imul hX dX6_doShaft_59 ?_
        refine g_iadd hX dX6_doShaft_60 ?_
        refine g_iconst (v := 1) hX dX6_doShaft_61 (by decide) ?_
        refine g_iadd hX dX6_doShaft_62 ?_
        refine g_iload_n hX 2 rfl rfl dX6_doShaft_63 ?_
        obtain ⟨zj11, zh10, zh12, k⟩ := k
        refine g_iast hX sn97 sh97 zh10 zh12 (by decide) dX6_doShaft_64 ?_
        refine g_aload_n hX 0 rfl rfl dX6_doShaft_65 ?_
        refine g_getR (k := 0) (r' := 97) hX hPW flX6_doShaft_7 sn96 so96 rfl (k96_0 _) dX6_doShaft_66 ?_
        refine g_iconst (v := 0) hX dX6_doShaft_69 (by decide) ?_
        refine g_dup2 hX dX6_doShaft_70 rfl rfl ?_
        refine g_iald (j := 0) hX hPW sn97 sh97 rfl (by decide) (by decide) dX6_doShaft_71 ?_
        refine g_iconst (v := 1) hX dX6_doShaft_72 (by decide) ?_
        refine g_iadd hX dX6_doShaft_73 ?_
        refine g_iast (j := 0) hX sn97 sh97 rfl (by decide) (by decide) dX6_doShaft_74 ?_
        refine g_iload_n hX 3 rfl rfl dX6_doShaft_75 ?_
        exact g_ireturn hX k rfl rfl dX6_doShaft_76
      · replace k := k.2 h
        refine g_bipush (v := (-4)) hX dX6_doShaft_31 (by decide) ?_
        exact g_ireturn hX k rfl rfl dX6_doShaft_33
    · replace k := k.2 h
      refine g_bipush (v := (-2)) hX dX6_doShaft_17 (by decide) ?_
      exact g_ireturn hX k rfl rfl dX6_doShaft_19
set_option maxRecDepth 4000 in
theorem RX6_doSets_0 {X : XT} {I : MI} {L : ML} {p : Nat → Nat}  (hX : Cx X cX6_doSets 6 RX6 wsX6_doSets rmX6_doSets) (x1 : Int32) (x2 : Int32) (x3 : Int32) (k : ((¬ x2 = 0 → ((¬ x2 = 1 → (∃ (zr2 : Int32), Ct (xE X) (xl X) yX6_isShaft wsX6_isShaft rmX6_isShaft [.ref 96, .int x1] (HM X I L p) (some (.int zr2)) (HM X I L p) ∧ ((zr2 = 0 → Rt X (some .int) rmX6_doSets (some (.int (-2))) (HM X I L p)) ∧ (¬ zr2 = 0 → Rt X (some .int) rmX6_doSets (some (.int (-2))) (HM X I L p))))) ∧ (x2 = 1 → (∃ (zr4 : Int32), Ct (xE X) (xl X) yX6_in wsX6_in rmX6_in [.int x3, .int 1, .int 15] (HM X I L p) (some (.int zr4)) (HM X I L p) ∧ (∃ (zr6 : Int32), Ct (xE X) (xl X) yX6_isShaft wsX6_isShaft rmX6_isShaft [.ref 96, .int x1] (HM X I L p) (some (.int zr6)) (HM X I L p) ∧ ((zr6 = 0 → Rt X (some .int) rmX6_doSets (some (.int (-2))) (HM X I L p)) ∧ (¬ zr6 = 0 → ((¬ (if zr4 = 0 then 0 else 1 : Int32) = 0 → (∃ zj8 : Nat, ((3 + (2 * x1)) + x2) = nI zj8 ∧ zj8 < 123 ∧ (∃ zj11 : Nat, ((3 + (2 * x1)) + x2) = nI zj11 ∧ zj11 < 123 ∧ Rt X (some .int) rmX6_doSets (some (.int (I 97 zj8))) (HM X (upI I 97 zj11 x3) L p)))) ∧ ((if zr4 = 0 then 0 else 1 : Int32) = 0 → Rt X (some .int) rmX6_doSets (some (.int (-2))) (HM X I L p)))))))))) ∧ (x2 = 0 → (∃ (zr14 : Int32), Ct (xE X) (xl X) yX6_isKind wsX6_isKind rmX6_isKind [.int x3] (HM X I L p) (some (.int zr14)) (HM X I L p) ∧ (∃ (zr16 : Int32), Ct (xE X) (xl X) yX6_isShaft wsX6_isShaft rmX6_isShaft [.ref 96, .int x1] (HM X I L p) (some (.int zr16)) (HM X I L p) ∧ ((zr16 = 0 → Rt X (some .int) rmX6_doSets (some (.int (-2))) (HM X I L p)) ∧ (¬ zr16 = 0 → ((¬ zr14 = 0 → (∃ zj18 : Nat, ((3 + (2 * x1)) + x2) = nI zj18 ∧ zj18 < 123 ∧ (∃ zj21 : Nat, ((3 + (2 * x1)) + x2) = nI zj21 ∧ zj21 < 123 ∧ Rt X (some .int) rmX6_doSets (some (.int (I 97 zj18))) (HM X (upI I 97 zj21 x3) L p)))) ∧ (zr14 = 0 → Rt X (some .int) rmX6_doSets (some (.int (-2))) (HM X I L p)))))))))) : G X 0 0 0 [(0, .ref 96), (1, .int x1), (2, .int x2), (3, .int x3)] [] (HM X I L p) := by
  refine g_iload_n hX 2 rfl rfl dX6_doSets_0 ?_
  refine g_if_ne (tgt := 11) hX dX6_doSets_1 (by decide) (fun h => ?_) (fun h => ?_)
  · replace k := k.1 h
    refine g_iload_n hX 2 rfl rfl dX6_doSets_11 ?_
    refine g_iconst (v := 1) hX dX6_doSets_12 (by decide) ?_
    refine g_icmp_ne (tgt := 30) hX dX6_doSets_13 (by decide) (fun h => ?_) (fun h => ?_)
    · replace k := k.1 h
      refine g_iconst (v := 0) hX dX6_doSets_30 (by decide) ?_
      refine g_istore (ls' := [(0, .ref 96), (1, .int x1), (2, .int x2), (3, .int x3), (4, .int 0)]) hX dX6_doSets_31 (by decide) rfl ?_
      refine g_aload_n hX 0 rfl rfl dX6_doSets_33 ?_
      refine g_iload_n hX 1 rfl rfl dX6_doSets_34 ?_
      obtain ⟨zr2, zhc1, k⟩ := k
      refine g_callV (cs' := 0) (sl' := 0) (C := RX6) (as := [.int x1]) (st := []) hX zhc1 hPW sn96 so96 rfl gX6_doSets_X6_isShaft rfl rfl rfl ydX6_isShaft (by decide) (Nat.le_of_ble_eq_true rfl) (by decide) dX6_doSets_35 rfl rfl ?_
      refine g_if_eq (tgt := 46) hX dX6_doSets_38 (by decide) (fun h => ?_) (fun h => ?_)
      · replace k := k.1 h
        refine g_bipush (v := (-2)) hX dX6_doSets_46 (by decide) ?_
        exact g_ireturn hX k rfl rfl dX6_doSets_48
      · replace k := k.2 h
        refine g_iload hX 4 rfl dX6_doSets_41 ?_
        refine g_if_ne (tgt := 49) hX dX6_doSets_43 (by decide) (fun h => ?_) (fun h => ?_)
        · exact absurd h (by decide)
        refine g_bipush (v := (-2)) hX dX6_doSets_46 (by decide) ?_
        exact g_ireturn hX k rfl rfl dX6_doSets_48
    · replace k := k.2 h
      refine g_iload_n hX 3 rfl rfl dX6_doSets_16 ?_
      refine g_iconst (v := 1) hX dX6_doSets_17 (by decide) ?_
      refine g_bipush (v := 15) hX dX6_doSets_18 (by decide) ?_
      obtain ⟨zr4, zhc3, k⟩ := k
      refine g_callS (cs' := 0) (sl' := 0) (as := [.int x3, .int 1, .int 15]) (st := []) hX zhc3 gX6_doSets_X6_in rfl rfl ydX6_in (by decide) (Nat.le_of_ble_eq_true rfl) (by decide) dX6_doSets_20 rfl rfl ?_
      have kJ : G X 0 0 31 [(0, .ref 96), (1, .int x1), (2, .int x2), (3, .int x3)] [.int (if zr4 = 0 then 0 else 1 : Int32)] (HM X I L p) := by
        refine g_istore (ls' := [(0, .ref 96), (1, .int x1), (2, .int x2), (3, .int x3), (4, .int (if zr4 = 0 then 0 else 1 : Int32))]) hX dX6_doSets_31 (by decide) rfl ?_
        refine g_aload_n hX 0 rfl rfl dX6_doSets_33 ?_
        refine g_iload_n hX 1 rfl rfl dX6_doSets_34 ?_
        obtain ⟨zr6, zhc5, k⟩ := k
        refine g_callV (cs' := 0) (sl' := 0) (C := RX6) (as := [.int x1]) (st := []) hX zhc5 hPW sn96 so96 rfl gX6_doSets_X6_isShaft rfl rfl rfl ydX6_isShaft (by decide) (Nat.le_of_ble_eq_true rfl) (by decide) dX6_doSets_35 rfl rfl ?_
        refine g_if_eq (tgt := 46) hX dX6_doSets_38 (by decide) (fun h => ?_) (fun h => ?_)
        · replace k := k.1 h
          refine g_bipush (v := (-2)) hX dX6_doSets_46 (by decide) ?_
          exact g_ireturn hX k rfl rfl dX6_doSets_48
        · replace k := k.2 h
          refine g_iload hX 4 rfl dX6_doSets_41 ?_
          refine g_if_ne (tgt := 49) hX dX6_doSets_43 (by decide) (fun h => ?_) (fun h => ?_)
          · replace k := k.1 h
            refine g_aload_n hX 0 rfl rfl dX6_doSets_49 ?_
            refine g_getR (k := 0) (r' := 97) hX hPW flX6_doSets_7 sn96 so96 rfl (k96_0 _) dX6_doSets_50 ?_
            refine g_iconst (v := 3) hX dX6_doSets_53 (by decide) ?_
            refine g_iconst (v := 2) hX dX6_doSets_54 (by decide) ?_
            refine g_iload_n hX 1 rfl rfl dX6_doSets_55 ?_
            refine g_imul hX dX6_doSets_56 ?_
            refine g_iadd hX dX6_doSets_57 ?_
            refine g_iload_n hX 2 rfl rfl dX6_doSets_58 ?_
            refine g_iadd hX dX6_doSets_59 ?_
            obtain ⟨zj8, zh7, zh9, k⟩ := k
            refine g_iald hX hPW sn97 sh97 zh7 zh9 (by decide) dX6_doSets_60 ?_
            refine g_istore (ls' := [(0, .ref 96), (1, .int x1), (2, .int x2), (3, .int x3), (4, .int (if zr4 = 0 then 0 else 1 : Int32)), (5, .int (I 97 zj8))]) hX dX6_doSets_61 (by decide) rfl ?_
            refine g_aload_n hX 0 rfl rfl dX6_doSets_63 ?_
            refine g_getR (k := 0) (r' := 97) hX hPW flX6_doSets_7 sn96 so96 rfl (k96_0 _) dX6_doSets_64 ?_
            refine g_iconst (v := 3) hX dX6_doSets_67 (by decide) ?_
            refine g_iconst (v := 2) hX dX6_doSets_68 (by decide) ?_
            refine g_iload_n hX 1 rfl rfl dX6_doSets_69 ?_
            refine g_imul hX dX6_doSets_70 ?_
            refine g_iadd hX dX6_doSets_71 ?_
            refine g_iload_n hX 2 rfl rfl dX6_doSets_72 ?_
            refine g_iadd hX dX6_doSets_73 ?_
            refine g_iload_n hX 3 rfl rfl dX6_doSets_74 ?_
            obtain ⟨zj11, zh10, zh12, k⟩ := k
            refine g_iast hX sn97 sh97 zh10 zh12 (by decide) dX6_doSets_75 ?_
            refine g_iload hX 5 rfl dX6_doSets_76 ?_
            exact g_ireturn hX k rfl rfl dX6_doSets_78
          · replace k := k.2 h
            refine g_bipush (v := (-2)) hX dX6_doSets_46 (by decide) ?_
            exact g_ireturn hX k rfl rfl dX6_doSets_48
      refine g_if_eq (tgt := 30) hX dX6_doSets_23 (by decide) (fun h => ?_) (fun h => ?_)
      · rw [(show (if zr4 = 0 then 0 else 1 : Int32) = 0 from if_pos h)] at kJ
        refine g_iconst (v := 0) hX dX6_doSets_30 (by decide) ?_
        exact kJ
      · rw [(show (if zr4 = 0 then 0 else 1 : Int32) = 1 from if_neg h)] at kJ
        refine g_iconst (v := 1) hX dX6_doSets_26 (by decide) ?_
        refine g_goto (tgt := 31) hX dX6_doSets_27 (by decide) ?_
        exact kJ
  · replace k := k.2 h
    refine g_iload_n hX 3 rfl rfl dX6_doSets_4 ?_
    obtain ⟨zr14, zhc13, k⟩ := k
    refine g_callS (cs' := 0) (sl' := 0) (as := [.int x3]) (st := []) hX zhc13 gX6_doSets_X6_isKind rfl rfl ydX6_isKind (by decide) (Nat.le_of_ble_eq_true rfl) (by decide) dX6_doSets_5 rfl rfl ?_
    refine g_goto (tgt := 31) hX dX6_doSets_8 (by decide) ?_
    refine g_istore (ls' := [(0, .ref 96), (1, .int x1), (2, .int x2), (3, .int x3), (4, .int zr14)]) hX dX6_doSets_31 (by decide) rfl ?_
    refine g_aload_n hX 0 rfl rfl dX6_doSets_33 ?_
    refine g_iload_n hX 1 rfl rfl dX6_doSets_34 ?_
    obtain ⟨zr16, zhc15, k⟩ := k
    refine g_callV (cs' := 0) (sl' := 0) (C := RX6) (as := [.int x1]) (st := []) hX zhc15 hPW sn96 so96 rfl gX6_doSets_X6_isShaft rfl rfl rfl ydX6_isShaft (by decide) (Nat.le_of_ble_eq_true rfl) (by decide) dX6_doSets_35 rfl rfl ?_
    refine g_if_eq (tgt := 46) hX dX6_doSets_38 (by decide) (fun h => ?_) (fun h => ?_)
    · replace k := k.1 h
      refine g_bipush (v := (-2)) hX dX6_doSets_46 (by decide) ?_
      exact g_ireturn hX k rfl rfl dX6_doSets_48
    · replace k := k.2 h
      refine g_iload hX 4 rfl dX6_doSets_41 ?_
      refine g_if_ne (tgt := 49) hX dX6_doSets_43 (by decide) (fun h => ?_) (fun h => ?_)
      · replace k := k.1 h
        refine g_aload_n hX 0 rfl rfl dX6_doSets_49 ?_
        refine g_getR (k := 0) (r' := 97) hX hPW flX6_doSets_7 sn96 so96 rfl (k96_0 _) dX6_doSets_50 ?_
        refine g_iconst (v := 3) hX dX6_doSets_53 (by decide) ?_
        refine g_iconst (v := 2) hX dX6_doSets_54 (by decide) ?_
        refine g_iload_n hX 1 rfl rfl dX6_doSets_55 ?_
        refine g_imul hX dX6_doSets_56 ?_
        refine g_iadd hX dX6_doSets_57 ?_
        refine g_iload_n hX 2 rfl rfl dX6_doSets_58 ?_
        refine g_iadd hX dX6_doSets_59 ?_
        obtain ⟨zj18, zh17, zh19, k⟩ := k
        refine g_iald hX hPW sn97 sh97 zh17 zh19 (by decide) dX6_doSets_60 ?_
        refine g_istore (ls' := [(0, .ref 96), (1, .int x1), (2, .int x2), (3, .int x3), (4, .int zr14), (5, .int (I 97 zj18))]) hX dX6_doSets_61 (by decide) rfl ?_
        refine g_aload_n hX 0 rfl rfl dX6_doSets_63 ?_
        refine g_getR (k := 0) (r' := 97) hX hPW flX6_doSets_7 sn96 so96 rfl (k96_0 _) dX6_doSets_64 ?_
        refine g_iconst (v := 3) hX dX6_doSets_67 (by decide) ?_
        refine g_iconst (v := 2) hX dX6_doSets_68 (by decide) ?_
        refine g_iload_n hX 1 rfl rfl dX6_doSets_69 ?_
        refine g_imul hX dX6_doSets_70 ?_
        refine g_iadd hX dX6_doSets_71 ?_
        refine g_iload_n hX 2 rfl rfl dX6_doSets_72 ?_
        refine g_iadd hX dX6_doSets_73 ?_
        refine g_iload_n hX 3 rfl rfl dX6_doSets_74 ?_
        obtain ⟨zj21, zh20, zh22, k⟩ := k
        refine g_iast hX sn97 sh97 zh20 zh22 (by decide) dX6_doSets_75 ?_
        refine g_iload hX 5 rfl dX6_doSets_76 ?_
        exact g_ireturn hX k rfl rfl dX6_doSets_78
      · replace k := k.2 h
        refine g_bipush (v := (-2)) hX dX6_doSets_46 (by decide) ?_
        exact g_ireturn hX k rfl rfl dX6_doSets_48
set_option maxRecDepth 4000 in
theorem RX6_doPipe_0 {X : XT} {I : MI} {L : ML} {p : Nat → Nat}  (hX : Cx X cX6_doPipe 6 RX6 wsX6_doPipe rmX6_doPipe) (x1 : Int32) (x2 : Int32) (x3 : Int32) (x4 : Int32) (k : (∃ (zr2 : Int32), Ct (xE X) (xl X) yX6_isShaft wsX6_isShaft rmX6_isShaft [.ref 96, .int x1] (HM X I L p) (some (.int zr2)) (HM X I L p) ∧ ((zr2 = 0 → Rt X (some .int) rmX6_doPipe (some (.int (-2))) (HM X I L p)) ∧ (¬ zr2 = 0 → (∃ (zr4 : Int32), Ct (xE X) (xl X) yX6_isShaft wsX6_isShaft rmX6_isShaft [.ref 96, .int x2] (HM X I L p) (some (.int zr4)) (HM X I L p) ∧ ((zr4 = 0 → Rt X (some .int) rmX6_doPipe (some (.int (-2))) (HM X I L p)) ∧ (¬ zr4 = 0 → ((x1 = x2 → Rt X (some .int) rmX6_doPipe (some (.int (-2))) (HM X I L p)) ∧ (¬ x1 = x2 → (∃ (zr6 : Int32), Ct (xE X) (xl X) yX6_in wsX6_in rmX6_in [.int x3, .int 0, .int 9] (HM X I L p) (some (.int zr6)) (HM X I L p) ∧ ((zr6 = 0 → Rt X (some .int) rmX6_doPipe (some (.int (-2))) (HM X I L p)) ∧ (¬ zr6 = 0 → (∃ (zr8 : Int32), Ct (xE X) (xl X) yX6_in wsX6_in rmX6_in [.int x4, .int x3, .int 9] (HM X I L p) (some (.int zr8)) (HM X I L p) ∧ ((¬ zr8 = 0 → (∃ (zr10 : Int32), Ct (xE X) (xl X) yX6_below wsX6_below rmX6_below [.ref 96, .int x2] (HM X I L p) (some (.int zr10)) (HM X I L p) ∧ (∃ (zr12 : Int32), Ct (xE X) (xl X) yX6_has wsX6_has rmX6_has [.int zr10, .int x1] (HM X I L p) (some (.int zr12)) (HM X I L p) ∧ ((zr12 = 0 → ((¬ (I 97 1) = 16 → (∃ zj16 : Nat, (23 + (4 * (I 97 1))) = nI zj16 ∧ zj16 < 123 ∧ (∃ zj19 : Nat, ((23 + (4 * (I 97 1))) + 1) = nI zj19 ∧ zj19 < 123 ∧ (∃ zj22 : Nat, ((23 + (4 * (I 97 1))) + 2) = nI zj22 ∧ zj22 < 123 ∧ (∃ zj25 : Nat, ((23 + (4 * (I 97 1))) + 3) = nI zj25 ∧ zj25 < 123 ∧ Rt X (some .int) rmX6_doPipe (some (.int (((upI (upI (upI (upI (upI I 97 zj16 x1) 97 zj19 x2) 97 zj22 x3) 97 zj25 x4) 97 1 (((upI (upI (upI (upI I 97 zj16 x1) 97 zj19 x2) 97 zj22 x3) 97 zj25 x4) 97 1) + 1)) 97 1) - 1))) (HM X (upI (upI (upI (upI (upI I 97 zj16 x1) 97 zj19 x2) 97 zj22 x3) 97 zj25 x4) 97 1 (((upI (upI (upI (upI I 97 zj16 x1) 97 zj19 x2) 97 zj22 x3) 97 zj25 x4) 97 1) + 1)) L p)))))) ∧ ((I 97 1) = 16 → Rt X (some .int) rmX6_doPipe (some (.int (-4))) (HM X I L p)))) ∧ (¬ zr12 = 0 → Rt X (some .int) rmX6_doPipe (some (.int (-3))) (HM X I L p)))))) ∧ (zr8 = 0 → Rt X (some .int) rmX6_doPipe (some (.int (-2))) (HM X I L p)))))))))))))))) : G X 0 0 0 [(0, .ref 96), (1, .int x1), (2, .int x2), (3, .int x3), (4, .int x4)] [] (HM X I L p) := by
  refine g_aload_n hX 0 rfl rfl dX6_doPipe_0 ?_
  refine g_iload_n hX 1 rfl rfl dX6_doPipe_1 ?_
  obtain ⟨zr2, zhc1, k⟩ := k
  refine g_callV (cs' := 0) (sl' := 0) (C := RX6) (as := [.int x1]) (st := []) hX zhc1 hPW sn96 so96 rfl gX6_doPipe_X6_isShaft rfl rfl rfl ydX6_isShaft (by decide) (Nat.le_of_ble_eq_true rfl) (by decide) dX6_doPipe_2 rfl rfl ?_
  refine g_if_eq (tgt := 42) hX dX6_doPipe_5 (by decide) (fun h => ?_) (fun h => ?_)
  · replace k := k.1 h
    refine g_bipush (v := (-2)) hX dX6_doPipe_42 (by decide) ?_
    exact g_ireturn hX k rfl rfl dX6_doPipe_44
  · replace k := k.2 h
    refine g_aload_n hX 0 rfl rfl dX6_doPipe_8 ?_
    refine g_iload_n hX 2 rfl rfl dX6_doPipe_9 ?_
    obtain ⟨zr4, zhc3, k⟩ := k
    refine g_callV (cs' := 0) (sl' := 0) (C := RX6) (as := [.int x2]) (st := []) hX zhc3 hPW sn96 so96 rfl gX6_doPipe_X6_isShaft rfl rfl rfl ydX6_isShaft (by decide) (Nat.le_of_ble_eq_true rfl) (by decide) dX6_doPipe_10 rfl rfl ?_
    refine g_if_eq (tgt := 42) hX dX6_doPipe_13 (by decide) (fun h => ?_) (fun h => ?_)
    · replace k := k.1 h
      refine g_bipush (v := (-2)) hX dX6_doPipe_42 (by decide) ?_
      exact g_ireturn hX k rfl rfl dX6_doPipe_44
    · replace k := k.2 h
      refine g_iload_n hX 1 rfl rfl dX6_doPipe_16 ?_
      refine g_iload_n hX 2 rfl rfl dX6_doPipe_17 ?_
      refine g_icmp_eq (tgt := 42) hX dX6_doPipe_18 (by decide) (fun h => ?_) (fun h => ?_)
      · replace k := k.1 h
        refine g_bipush (v := (-2)) hX dX6_doPipe_42 (by decide) ?_
        exact g_ireturn hX k rfl rfl dX6_doPipe_44
      · replace k := k.2 h
        refine g_iload_n hX 3 rfl rfl dX6_doPipe_21 ?_
        refine g_iconst (v := 0) hX dX6_doPipe_22 (by decide) ?_
        refine g_bipush (v := 9) hX dX6_doPipe_23 (by decide) ?_
        obtain ⟨zr6, zhc5, k⟩ := k
        refine g_callS (cs' := 0) (sl' := 0) (as := [.int x3, .int 0, .int 9]) (st := []) hX zhc5 gX6_doPipe_X6_in rfl rfl ydX6_in (by decide) (Nat.le_of_ble_eq_true rfl) (by decide) dX6_doPipe_25 rfl rfl ?_
        refine g_if_eq (tgt := 42) hX dX6_doPipe_28 (by decide) (fun h => ?_) (fun h => ?_)
        · replace k := k.1 h
          refine g_bipush (v := (-2)) hX dX6_doPipe_42 (by decide) ?_
          exact g_ireturn hX k rfl rfl dX6_doPipe_44
        · replace k := k.2 h
          refine g_iload hX 4 rfl dX6_doPipe_31 ?_
          refine g_iload_n hX 3 rfl rfl dX6_doPipe_33 ?_
          refine g_bipush (v := 9) hX dX6_doPipe_34 (by decide) ?_
          obtain ⟨zr8, zhc7, k⟩ := k
          refine g_callS (cs' := 0) (sl' := 0) (as := [.int x4, .int x3, .int 9]) (st := []) hX zhc7 gX6_doPipe_X6_in rfl rfl ydX6_in (by decide) (Nat.le_of_ble_eq_true rfl) (by decide) dX6_doPipe_36 rfl rfl ?_
          refine g_if_ne (tgt := 45) hX dX6_doPipe_39 (by decide) (fun h => ?_) (fun h => ?_)
          · replace k := k.1 h
            refine g_aload_n hX 0 rfl rfl dX6_doPipe_45 ?_
            refine g_iload_n hX 2 rfl rfl dX6_doPipe_46 ?_
            obtain ⟨zr10, zhc9, k⟩ := k
            refine g_callV (cs' := 0) (sl' := 0) (C := RX6) (as := [.int x2]) (st := []) hX zhc9 hPW sn96 so96 rfl gX6_doPipe_X6_below rfl rfl rfl ydX6_below (by decide) (Nat.le_of_ble_eq_true rfl) (by decide) dX6_doPipe_47 rfl rfl ?_
            refine g_iload_n hX 1 rfl rfl dX6_doPipe_50 ?_
            obtain ⟨zr12, zhc11, k⟩ := k
            refine g_callS (cs' := 0) (sl' := 0) (as := [.int zr10, .int x1]) (st := []) hX zhc11 gX6_doPipe_X6_has rfl rfl ydX6_has (by decide) (Nat.le_of_ble_eq_true rfl) (by decide) dX6_doPipe_51 rfl rfl ?_
            refine g_if_eq (tgt := 60) hX dX6_doPipe_54 (by decide) (fun h => ?_) (fun h => ?_)
            · replace k := k.1 h
              refine g_aload_n hX 0 rfl rfl dX6_doPipe_60 ?_
              refine g_getR (k := 0) (r' := 97) hX hPW flX6_doPipe_7 sn96 so96 rfl (k96_0 _) dX6_doPipe_61 ?_
              refine g_iconst (v := 1) hX dX6_doPipe_64 (by decide) ?_
              refine g_iald (j := 1) hX hPW sn97 sh97 rfl (by decide) (by decide) dX6_doPipe_65 ?_
              refine g_bipush (v := 16) hX dX6_doPipe_66 (by decide) ?_
              refine g_icmp_ne (tgt := 74) hX dX6_doPipe_68 (by decide) (fun h => ?_) (fun h => ?_)
              · replace k := k.1 h
                refine g_bipush (v := 23) hX dX6_doPipe_74 (by decide) ?_
                refine g_iconst (v := 4) hX dX6_doPipe_76 (by decide) ?_
                refine g_aload_n hX 0 rfl rfl dX6_doPipe_77 ?_
                refine g_getR (k := 0) (r' := 97) hX hPW flX6_doPipe_7 sn96 so96 rfl (k96_0 _) dX6_doPipe_78 ?_
                refine g_iconst (v := 1) hX dX6_doPipe_81 (by decide) ?_
                refine g_iald (j := 1) hX hPW sn97 sh97 rfl (by decide) (by decide) dX6_doPipe_82 ?_
                refine g_imul hX dX6_doPipe_83 ?_
                refine g_iadd hX dX6_doPipe_84 ?_
                refine g_istore (ls' := [(0, .ref 96), (1, .int x1), (2, .int x2), (3, .int x3), (4, .int x4), (5, .int (23 + (4 * (I 97 1))))]) hX dX6_doPipe_85 (by decide) rfl ?_
                refine g_aload_n hX 0 rfl rfl dX6_doPipe_87 ?_
                refine g_getR (k := 0) (r' := 97) hX hPW flX6_doPipe_7 sn96 so96 rfl (k96_0 _) dX6_doPipe_88 ?_
                refine g_iload hX 5 rfl dX6_doPipe_91 ?_
                refine g_iload_n hX 1 rfl rfl dX6_doPipe_93 ?_
                obtain ⟨zj16, zh15, zh17, k⟩ := k
                refine g_iast hX sn97 sh97 zh15 zh17 (by decide) dX6_doPipe_94 ?_
                refine g_aload_n hX 0 rfl rfl dX6_doPipe_95 ?_
                refine g_getR (k := 0) (r' := 97) hX hPW flX6_doPipe_7 sn96 so96 rfl (k96_0 _) dX6_doPipe_96 ?_
                refine g_iload hX 5 rfl dX6_doPipe_99 ?_
                refine g_iconst (v := 1) hX dX6_doPipe_101 (by decide) ?_
                refine g_iadd hX dX6_doPipe_102 ?_
                refine g_iload_n hX 2 rfl rfl dX6_doPipe_103 ?_
                obtain ⟨zj19, zh18, zh20, k⟩ := k
                refine g_iast hX sn97 sh97 zh18 zh20 (by decide) dX6_doPipe_104 ?_
                refine g_aload_n hX 0 rfl rfl dX6_doPipe_105 ?_
                refine g_getR (k := 0) (r' := 97) hX hPW flX6_doPipe_7 sn96 so96 rfl (k96_0 _) dX6_doPipe_106 ?_
                refine g_iload hX 5 rfl dX6_doPipe_109 ?_
                refine g_iconst (v := 2) hX dX6_doPipe_111 (by decide) ?_
                refine g_iadd hX dX6_doPipe_112 ?_
                refine g_iload_n hX 3 rfl rfl dX6_doPipe_113 ?_
                obtain ⟨zj22, zh21, zh23, k⟩ := k
                refine g_iast hX sn97 sh97 zh21 zh23 (by decide) dX6_doPipe_114 ?_
                refine g_aload_n hX 0 rfl rfl dX6_doPipe_115 ?_
                refine g_getR (k := 0) (r' := 97) hX hPW flX6_doPipe_7 sn96 so96 rfl (k96_0 _) dX6_doPipe_116 ?_
                refine g_iload hX 5 rfl dX6_doPipe_119 ?_
                refine g_iconst (v := 3) hX dX6_doPipe_121 (by decide) ?_
                refine g_iadd hX dX6_doPipe_122 ?_
                refine g_iload hX 4 rfl dX6_doPipe_123 ?_
                obtain ⟨zj25, zh24, zh26, k⟩ := k
                refine g_iast hX sn97 sh97 zh24 zh26 (by decide) dX6_doPipe_125 ?_
                refine g_aload_n hX 0 rfl rfl dX6_doPipe_126 ?_
                refine g_getR (k := 0) (r' := 97) hX hPW flX6_doPipe_7 sn96 so96 rfl (k96_0 _) dX6_doPipe_127 ?_
                refine g_iconst (v := 1) hX dX6_doPipe_130 (by decide) ?_
                refine g_dup2 hX dX6_doPipe_131 rfl rfl ?_
                refine g_iald (j := 1) hX hPW sn97 sh97 rfl (by decide) (by decide) dX6_doPipe_132 ?_
                refine g_iconst (v := 1) hX dX6_doPipe_133 (by decide) ?_
                refine g_iadd hX dX6_doPipe_134 ?_
                refine g_iast (j := 1) hX sn97 sh97 rfl (by decide) (by decide) dX6_doPipe_135 ?_
                refine g_aload_n hX 0 rfl rfl dX6_doPipe_136 ?_
                refine g_getR (k := 0) (r' := 97) hX hPW flX6_doPipe_7 sn96 so96 rfl (k96_0 _) dX6_doPipe_137 ?_
                refine g_iconst (v := 1) hX dX6_doPipe_140 (by decide) ?_
                refine g_iald (j := 1) hX hPW sn97 sh97 rfl (by decide) (by decide) dX6_doPipe_141 ?_
                refine g_iconst (v := 1) hX dX6_doPipe_142 (by decide) ?_
                refine g_isub hX dX6_doPipe_143 ?_
                exact g_ireturn hX k rfl rfl dX6_doPipe_144
              · replace k := k.2 h
                refine g_bipush (v := (-4)) hX dX6_doPipe_71 (by decide) ?_
                exact g_ireturn hX k rfl rfl dX6_doPipe_73
            · replace k := k.2 h
              refine g_bipush (v := (-3)) hX dX6_doPipe_57 (by decide) ?_
              exact g_ireturn hX k rfl rfl dX6_doPipe_59
          · replace k := k.2 h
            refine g_bipush (v := (-2)) hX dX6_doPipe_42 (by decide) ?_
            exact g_ireturn hX k rfl rfl dX6_doPipe_44
set_option maxRecDepth 4000 in
theorem RX6_doDrops_0 {X : XT} {I : MI} {L : ML} {p : Nat → Nat}  (hX : Cx X cX6_doDrops 3 RX6 wsX6_doDrops rmX6_doDrops) (x1 : Int32) (k : (∃ (zr2 : Int32), Ct (xE X) (xl X) yX6_isPipe wsX6_isPipe rmX6_isPipe [.ref 96, .int x1] (HM X I L p) (some (.int zr2)) (HM X I L p) ∧ ((¬ zr2 = 0 → G X 0 0 28 [(0, .ref 96), (1, .int x1), (2, .int (23 + (4 * x1)))] [] (HM X (upI I 97 1 ((I 97 1) - 1)) L p)) ∧ (zr2 = 0 → Rt X (some .int) rmX6_doDrops (some (.int (-2))) (HM X I L p))))) : G X 0 0 0 [(0, .ref 96), (1, .int x1)] [] (HM X I L p) := by
  refine g_aload_n hX 0 rfl rfl dX6_doDrops_0 ?_
  refine g_iload_n hX 1 rfl rfl dX6_doDrops_1 ?_
  obtain ⟨zr2, zhc1, k⟩ := k
  refine g_callV (cs' := 0) (sl' := 0) (C := RX6) (as := [.int x1]) (st := []) hX zhc1 hPW sn96 so96 rfl gX6_doDrops_X6_isPipe rfl rfl rfl ydX6_isPipe (by decide) (Nat.le_of_ble_eq_true rfl) (by decide) dX6_doDrops_2 rfl rfl ?_
  refine g_if_ne (tgt := 11) hX dX6_doDrops_5 (by decide) (fun h => ?_) (fun h => ?_)
  · replace k := k.1 h
    refine g_aload_n hX 0 rfl rfl dX6_doDrops_11 ?_
    refine g_getR (k := 0) (r' := 97) hX hPW flX6_doDrops_7 sn96 so96 rfl (k96_0 _) dX6_doDrops_12 ?_
    refine g_iconst (v := 1) hX dX6_doDrops_15 (by decide) ?_
    refine g_dup2 hX dX6_doDrops_16 rfl rfl ?_
    refine g_iald (j := 1) hX hPW sn97 sh97 rfl (by decide) (by decide) dX6_doDrops_17 ?_
    refine g_iconst (v := 1) hX dX6_doDrops_18 (by decide) ?_
    refine g_isub hX dX6_doDrops_19 ?_
    refine g_iast (j := 1) hX sn97 sh97 rfl (by decide) (by decide) dX6_doDrops_20 ?_
    refine g_bipush (v := 23) hX dX6_doDrops_21 (by decide) ?_
    refine g_iconst (v := 4) hX dX6_doDrops_23 (by decide) ?_
    refine g_iload_n hX 1 rfl rfl dX6_doDrops_24 ?_
    refine g_imul hX dX6_doDrops_25 ?_
    refine g_iadd hX dX6_doDrops_26 ?_
    refine g_istore_n (ls' := [(0, .ref 96), (1, .int x1), (2, .int (23 + (4 * x1)))]) hX dX6_doDrops_27 rfl (by decide) rfl ?_
    exact k
  · replace k := k.2 h
    refine g_bipush (v := (-2)) hX dX6_doDrops_8 (by decide) ?_
    exact g_ireturn hX k rfl rfl dX6_doDrops_10
set_option maxRecDepth 4000 in
theorem RX6_doDrops_28 {X : XT} {I : MI} {L : ML} {p : Nat → Nat}  (hX : Cx X cX6_doDrops 3 RX6 wsX6_doDrops rmX6_doDrops) (x1 : Int32) (x2 : Int32) (k : (((23 + (4 * (I 97 1))) ≤ x2 → Rt X (some .int) rmX6_doDrops (some (.int (I 97 1))) (HM X I L p)) ∧ (¬ (23 + (4 * (I 97 1))) ≤ x2 → (∃ zj4 : Nat, (x2 + 4) = nI zj4 ∧ zj4 < 123 ∧ (∃ zj7 : Nat, x2 = nI zj7 ∧ zj7 < 123 ∧ G X 0 0 28 [(0, .ref 96), (1, .int x1), (2, .int (x2 + 1))] [] (HM X (upI I 97 zj7 (I 97 zj4)) L p)))))) : G X 0 0 28 [(0, .ref 96), (1, .int x1), (2, .int x2)] [] (HM X I L p) := by
  refine g_iload_n hX 2 rfl rfl dX6_doDrops_28 ?_
  refine g_bipush (v := 23) hX dX6_doDrops_29 (by decide) ?_
  refine g_iconst (v := 4) hX dX6_doDrops_31 (by decide) ?_
  refine g_aload_n hX 0 rfl rfl dX6_doDrops_32 ?_
  refine g_getR (k := 0) (r' := 97) hX hPW flX6_doDrops_7 sn96 so96 rfl (k96_0 _) dX6_doDrops_33 ?_
  refine g_iconst (v := 1) hX dX6_doDrops_36 (by decide) ?_
  refine g_iald (j := 1) hX hPW sn97 sh97 rfl (by decide) (by decide) dX6_doDrops_37 ?_
  refine g_imul hX dX6_doDrops_38 ?_
  refine g_iadd hX dX6_doDrops_39 ?_
  refine g_icmp_ge (tgt := 63) hX dX6_doDrops_40 (by decide) (fun h => ?_) (fun h => ?_)
  · replace k := k.1 h
    refine g_aload_n hX 0 rfl rfl dX6_doDrops_63 ?_
    refine g_getR (k := 0) (r' := 97) hX hPW flX6_doDrops_7 sn96 so96 rfl (k96_0 _) dX6_doDrops_64 ?_
    refine g_iconst (v := 1) hX dX6_doDrops_67 (by decide) ?_
    refine g_iald (j := 1) hX hPW sn97 sh97 rfl (by decide) (by decide) dX6_doDrops_68 ?_
    exact g_ireturn hX k rfl rfl dX6_doDrops_69
  · replace k := k.2 h
    refine g_aload_n hX 0 rfl rfl dX6_doDrops_43 ?_
    refine g_getR (k := 0) (r' := 97) hX hPW flX6_doDrops_7 sn96 so96 rfl (k96_0 _) dX6_doDrops_44 ?_
    refine g_iload_n hX 2 rfl rfl dX6_doDrops_47 ?_
    refine g_aload_n hX 0 rfl rfl dX6_doDrops_48 ?_
    refine g_getR (k := 0) (r' := 97) hX hPW flX6_doDrops_7 sn96 so96 rfl (k96_0 _) dX6_doDrops_49 ?_
    refine g_iload_n hX 2 rfl rfl dX6_doDrops_52 ?_
    refine g_iconst (v := 4) hX dX6_doDrops_53 (by decide) ?_
    refine g_iadd hX dX6_doDrops_54 ?_
    obtain ⟨zj4, zh3, zh5, k⟩ := k
    refine g_iald hX hPW sn97 sh97 zh3 zh5 (by decide) dX6_doDrops_55 ?_
    obtain ⟨zj7, zh6, zh8, k⟩ := k
    refine g_iast hX sn97 sh97 zh6 zh8 (by decide) dX6_doDrops_56 ?_
    refine g_iinc (v := x2 + 1) (ls' := [(0, .ref 96), (1, .int x1), (2, .int (x2 + 1))]) hX 2 rfl dX6_doDrops_57 rfl (by decide) rfl ?_
    refine g_goto (tgt := 28) hX dX6_doDrops_60 (by decide) ?_
    exact k
set_option maxRecDepth 4000 in
theorem RX6_doSight_0 {X : XT} {I : MI} {L : ML} {p : Nat → Nat}  (hX : Cx X cX6_doSight 5 RX6 wsX6_doSight rmX6_doSight) (x1 : Int32) (x2 : Int32) (x3 : Int32) (k : (∃ (zr2 : Int32), Ct (xE X) (xl X) yX6_in wsX6_in rmX6_in [.int x1, .int 0, .int 1] (HM X I L p) (some (.int zr2)) (HM X I L p) ∧ ((zr2 = 0 → Rt X (some .int) rmX6_doSight (some (.int (-2))) (HM X I L p)) ∧ (¬ zr2 = 0 → (∃ (zr4 : Int32), Ct (xE X) (xl X) yX6_isShaft wsX6_isShaft rmX6_isShaft [.ref 96, .int x2] (HM X I L p) (some (.int zr4)) (HM X I L p) ∧ ((zr4 = 0 → Rt X (some .int) rmX6_doSight (some (.int (-2))) (HM X I L p)) ∧ (¬ zr4 = 0 → (∃ (zr6 : Int32), Ct (xE X) (xl X) yX6_in wsX6_in rmX6_in [.int x3, .int 0, .int 62] (HM X I L p) (some (.int zr6)) (HM X I L p) ∧ ((¬ zr6 = 0 → ((¬ (I 97 2) = 12 → (∃ zj10 : Nat, (87 + (3 * (I 97 2))) = nI zj10 ∧ zj10 < 123 ∧ (∃ zj13 : Nat, ((87 + (3 * (I 97 2))) + 1) = nI zj13 ∧ zj13 < 123 ∧ (∃ zj16 : Nat, ((87 + (3 * (I 97 2))) + 2) = nI zj16 ∧ zj16 < 123 ∧ Rt X (some .int) rmX6_doSight (some (.int ((upI (upI (upI (upI I 97 zj10 x1) 97 zj13 x2) 97 zj16 x3) 97 2 (((upI (upI (upI I 97 zj10 x1) 97 zj13 x2) 97 zj16 x3) 97 2) + 1)) 97 2))) (HM X (upI (upI (upI (upI I 97 zj10 x1) 97 zj13 x2) 97 zj16 x3) 97 2 (((upI (upI (upI I 97 zj10 x1) 97 zj13 x2) 97 zj16 x3) 97 2) + 1)) L p))))) ∧ ((I 97 2) = 12 → Rt X (some .int) rmX6_doSight (some (.int (-4))) (HM X I L p)))) ∧ (zr6 = 0 → Rt X (some .int) rmX6_doSight (some (.int (-2))) (HM X I L p))))))))))) : G X 0 0 0 [(0, .ref 96), (1, .int x1), (2, .int x2), (3, .int x3)] [] (HM X I L p) := by
  refine g_iload_n hX 1 rfl rfl dX6_doSight_0 ?_
  refine g_iconst (v := 0) hX dX6_doSight_1 (by decide) ?_
  refine g_iconst (v := 1) hX dX6_doSight_2 (by decide) ?_
  obtain ⟨zr2, zhc1, k⟩ := k
  refine g_callS (cs' := 0) (sl' := 0) (as := [.int x1, .int 0, .int 1]) (st := []) hX zhc1 gX6_doSight_X6_in rfl rfl ydX6_in (by decide) (Nat.le_of_ble_eq_true rfl) (by decide) dX6_doSight_3 rfl rfl ?_
  refine g_if_eq (tgt := 27) hX dX6_doSight_6 (by decide) (fun h => ?_) (fun h => ?_)
  · replace k := k.1 h
    refine g_bipush (v := (-2)) hX dX6_doSight_27 (by decide) ?_
    exact g_ireturn hX k rfl rfl dX6_doSight_29
  · replace k := k.2 h
    refine g_aload_n hX 0 rfl rfl dX6_doSight_9 ?_
    refine g_iload_n hX 2 rfl rfl dX6_doSight_10 ?_
    obtain ⟨zr4, zhc3, k⟩ := k
    refine g_callV (cs' := 0) (sl' := 0) (C := RX6) (as := [.int x2]) (st := []) hX zhc3 hPW sn96 so96 rfl gX6_doSight_X6_isShaft rfl rfl rfl ydX6_isShaft (by decide) (Nat.le_of_ble_eq_true rfl) (by decide) dX6_doSight_11 rfl rfl ?_
    refine g_if_eq (tgt := 27) hX dX6_doSight_14 (by decide) (fun h => ?_) (fun h => ?_)
    · replace k := k.1 h
      refine g_bipush (v := (-2)) hX dX6_doSight_27 (by decide) ?_
      exact g_ireturn hX k rfl rfl dX6_doSight_29
    · replace k := k.2 h
      refine g_iload_n hX 3 rfl rfl dX6_doSight_17 ?_
      refine g_iconst (v := 0) hX dX6_doSight_18 (by decide) ?_
      refine g_bipush (v := 62) hX dX6_doSight_19 (by decide) ?_
      obtain ⟨zr6, zhc5, k⟩ := k
      refine g_callS (cs' := 0) (sl' := 0) (as := [.int x3, .int 0, .int 62]) (st := []) hX zhc5 gX6_doSight_X6_in rfl rfl ydX6_in (by decide) (Nat.le_of_ble_eq_true rfl) (by decide) dX6_doSight_21 rfl rfl ?_
      refine g_if_ne (tgt := 30) hX dX6_doSight_24 (by decide) (fun h => ?_) (fun h => ?_)
      · replace k := k.1 h
        refine g_aload_n hX 0 rfl rfl dX6_doSight_30 ?_
        refine g_getR (k := 0) (r' := 97) hX hPW flX6_doSight_7 sn96 so96 rfl (k96_0 _) dX6_doSight_31 ?_
        refine g_iconst (v := 2) hX dX6_doSight_34 (by decide) ?_
        refine g_iald (j := 2) hX hPW sn97 sh97 rfl (by decide) (by decide) dX6_doSight_35 ?_
        refine g_bipush (v := 12) hX dX6_doSight_36 (by decide) ?_
        refine g_icmp_ne (tgt := 44) hX dX6_doSight_38 (by decide) (fun h => ?_) (fun h => ?_)
        · replace k := k.1 h
          refine g_bipush (v := 87) hX dX6_doSight_44 (by decide) ?_
          refine g_iconst (v := 3) hX dX6_doSight_46 (by decide) ?_
          refine g_aload_n hX 0 rfl rfl dX6_doSight_47 ?_
          refine g_getR (k := 0) (r' := 97) hX hPW flX6_doSight_7 sn96 so96 rfl (k96_0 _) dX6_doSight_48 ?_
          refine g_iconst (v := 2) hX dX6_doSight_51 (by decide) ?_
          refine g_iald (j := 2) hX hPW sn97 sh97 rfl (by decide) (by decide) dX6_doSight_52 ?_
          refine g_imul hX dX6_doSight_53 ?_
          refine g_iadd hX dX6_doSight_54 ?_
          refine g_istore (ls' := [(0, .ref 96), (1, .int x1), (2, .int x2), (3, .int x3), (4, .int (87 + (3 * (I 97 2))))]) hX dX6_doSight_55 (by decide) rfl ?_
          refine g_aload_n hX 0 rfl rfl dX6_doSight_57 ?_
          refine g_getR (k := 0) (r' := 97) hX hPW flX6_doSight_7 sn96 so96 rfl (k96_0 _) dX6_doSight_58 ?_
          refine g_iload hX 4 rfl dX6_doSight_61 ?_
          refine g_iload_n hX 1 rfl rfl dX6_doSight_63 ?_
          obtain ⟨zj10, zh9, zh11, k⟩ := k
          refine g_iast hX sn97 sh97 zh9 zh11 (by decide) dX6_doSight_64 ?_
          refine g_aload_n hX 0 rfl rfl dX6_doSight_65 ?_
          refine g_getR (k := 0) (r' := 97) hX hPW flX6_doSight_7 sn96 so96 rfl (k96_0 _) dX6_doSight_66 ?_
          refine g_iload hX 4 rfl dX6_doSight_69 ?_
          refine g_iconst (v := 1) hX dX6_doSight_71 (by decide) ?_
          refine g_iadd hX dX6_doSight_72 ?_
          refine g_iload_n hX 2 rfl rfl dX6_doSight_73 ?_
          obtain ⟨zj13, zh12, zh14, k⟩ := k
          refine g_iast hX sn97 sh97 zh12 zh14 (by decide) dX6_doSight_74 ?_
          refine g_aload_n hX 0 rfl rfl dX6_doSight_75 ?_
          refine g_getR (k := 0) (r' := 97) hX hPW flX6_doSight_7 sn96 so96 rfl (k96_0 _) dX6_doSight_76 ?_
          refine g_iload hX 4 rfl dX6_doSight_79 ?_
          refine g_iconst (v := 2) hX dX6_doSight_81 (by decide) ?_
          refine g_iadd hX dX6_doSight_82 ?_
          refine g_iload_n hX 3 rfl rfl dX6_doSight_83 ?_
          obtain ⟨zj16, zh15, zh17, k⟩ := k
          refine g_iast hX sn97 sh97 zh15 zh17 (by decide) dX6_doSight_84 ?_
          refine g_aload_n hX 0 rfl rfl dX6_doSight_85 ?_
          refine g_getR (k := 0) (r' := 97) hX hPW flX6_doSight_7 sn96 so96 rfl (k96_0 _) dX6_doSight_86 ?_
          refine g_iconst (v := 2) hX dX6_doSight_89 (by decide) ?_
          refine g_dup2 hX dX6_doSight_90 rfl rfl ?_
          refine g_iald (j := 2) hX hPW sn97 sh97 rfl (by decide) (by decide) dX6_doSight_91 ?_
          refine g_iconst (v := 1) hX dX6_doSight_92 (by decide) ?_
          refine g_iadd hX dX6_doSight_93 ?_
          refine g_iast (j := 2) hX sn97 sh97 rfl (by decide) (by decide) dX6_doSight_94 ?_
          refine g_aload_n hX 0 rfl rfl dX6_doSight_95 ?_
          refine g_getR (k := 0) (r' := 97) hX hPW flX6_doSight_7 sn96 so96 rfl (k96_0 _) dX6_doSight_96 ?_
          refine g_iconst (v := 2) hX dX6_doSight_99 (by decide) ?_
          refine g_iald (j := 2) hX hPW sn97 sh97 rfl (by decide) (by decide) dX6_doSight_100 ?_
          exact g_ireturn hX k rfl rfl dX6_doSight_101
        · replace k := k.2 h
          refine g_bipush (v := (-4)) hX dX6_doSight_41 (by decide) ?_
          exact g_ireturn hX k rfl rfl dX6_doSight_43
      · replace k := k.2 h
        refine g_bipush (v := (-2)) hX dX6_doSight_27 (by decide) ?_
        exact g_ireturn hX k rfl rfl dX6_doSight_29
set_option maxRecDepth 4000 in
theorem RX6_doForget_0 {X : XT} {I : MI} {L : ML} {p : Nat → Nat}  (hX : Cx X cX6_doForget 2 RX6 wsX6_doForget rmX6_doForget)  (k : Rt X (some .int) rmX6_doForget (some (.int (I 97 2))) (HM X (upI I 97 2 0) L p)) : G X 0 0 0 [(0, .ref 96)] [] (HM X I L p) := by
  refine g_aload_n hX 0 rfl rfl dX6_doForget_0 ?_
  refine g_getR (k := 0) (r' := 97) hX hPW flX6_doForget_7 sn96 so96 rfl (k96_0 _) dX6_doForget_1 ?_
  refine g_iconst (v := 2) hX dX6_doForget_4 (by decide) ?_
  refine g_iald (j := 2) hX hPW sn97 sh97 rfl (by decide) (by decide) dX6_doForget_5 ?_
  refine g_istore_n (ls' := [(0, .ref 96), (1, .int (I 97 2))]) hX dX6_doForget_6 rfl (by decide) rfl ?_
  refine g_aload_n hX 0 rfl rfl dX6_doForget_7 ?_
  refine g_getR (k := 0) (r' := 97) hX hPW flX6_doForget_7 sn96 so96 rfl (k96_0 _) dX6_doForget_8 ?_
  refine g_iconst (v := 2) hX dX6_doForget_11 (by decide) ?_
  refine g_iconst (v := 0) hX dX6_doForget_12 (by decide) ?_
  refine g_iast (j := 2) hX sn97 sh97 rfl (by decide) (by decide) dX6_doForget_13 ?_
  refine g_iload_n hX 1 rfl rfl dX6_doForget_14 ?_
  exact g_ireturn hX k rfl rfl dX6_doForget_15
set_option maxRecDepth 4000 in
theorem RX6_shaft_0 {X : XT} {I : MI} {L : ML} {p : Nat → Nat}  (hX : Cx X cX6_shaft 3 RX6 wsX6_shaft rmX6_shaft) (x1 : Int32) (x2 : Int32) (k : (∃ (zI2 : MI), Ct (xE X) (xl X) yX6_hold wsX6_hold rmX6_hold [.ref 96] (HM X I L p) none (HM X zI2 L p) ∧ (∃ (zr4 : Int32) (zI5 : MI), Ct (xE X) (xl X) yX6_doShaft wsX6_doShaft rmX6_doShaft [.ref 96, .int x1, .int x2] (HM X zI2 L p) (some (.int zr4)) (HM X zI5 L p) ∧ (∃ (zr7 : Int32) (zI8 : MI), Ct (xE X) (xl X) yX6_ends wsX6_ends rmX6_ends [.ref 96, .int zr4] (HM X zI5 L p) (some (.int zr7)) (HM X zI8 L p) ∧ Rt X (some .int) rmX6_shaft (some (.int zr7)) (HM X zI8 L p))))) : G X 0 0 0 [(0, .ref 96), (1, .int x1), (2, .int x2)] [] (HM X I L p) := by
  refine g_aload_n hX 0 rfl rfl dX6_shaft_0 ?_
  obtain ⟨zI2, zhc1, k⟩ := k
  refine g_callV (cs' := 0) (sl' := 0) (C := RX6) (as := []) (st := []) hX zhc1 hPW sn96 so96 rfl gX6_shaft_X6_hold rfl rfl rfl ydX6_hold (by decide) (Nat.le_of_ble_eq_true rfl) (by decide) dX6_shaft_1 rfl rfl ?_
  refine g_aload_n hX 0 rfl rfl dX6_shaft_4 ?_
  refine g_aload_n hX 0 rfl rfl dX6_shaft_5 ?_
  refine g_iload_n hX 1 rfl rfl dX6_shaft_6 ?_
  refine g_iload_n hX 2 rfl rfl dX6_shaft_7 ?_
  obtain ⟨zr4, zI5, zhc3, k⟩ := k
  refine g_callV (cs' := 0) (sl' := 0) (C := RX6) (as := [.int x1, .int x2]) (st := [.ref 96]) hX zhc3 hPW sn96 so96 rfl gX6_shaft_X6_doShaft rfl rfl rfl ydX6_doShaft (by decide) (Nat.le_of_ble_eq_true rfl) (by decide) dX6_shaft_8 rfl rfl ?_
  obtain ⟨zr7, zI8, zhc6, k⟩ := k
  refine g_callV (cs' := 0) (sl' := 0) (C := RX6) (as := [.int zr4]) (st := []) hX zhc6 hPW sn96 so96 rfl gX6_shaft_X6_ends rfl rfl rfl ydX6_ends (by decide) (Nat.le_of_ble_eq_true rfl) (by decide) dX6_shaft_11 rfl rfl ?_
  exact g_ireturn hX k rfl rfl dX6_shaft_14
set_option maxRecDepth 4000 in
theorem RX6_sets_0 {X : XT} {I : MI} {L : ML} {p : Nat → Nat}  (hX : Cx X cX6_sets 4 RX6 wsX6_sets rmX6_sets) (x1 : Int32) (x2 : Int32) (x3 : Int32) (k : (∃ (zI2 : MI), Ct (xE X) (xl X) yX6_hold wsX6_hold rmX6_hold [.ref 96] (HM X I L p) none (HM X zI2 L p) ∧ (∃ (zr4 : Int32) (zI5 : MI), Ct (xE X) (xl X) yX6_doSets wsX6_doSets rmX6_doSets [.ref 96, .int x1, .int x2, .int x3] (HM X zI2 L p) (some (.int zr4)) (HM X zI5 L p) ∧ (∃ (zr7 : Int32) (zI8 : MI), Ct (xE X) (xl X) yX6_ends wsX6_ends rmX6_ends [.ref 96, .int zr4] (HM X zI5 L p) (some (.int zr7)) (HM X zI8 L p) ∧ Rt X (some .int) rmX6_sets (some (.int zr7)) (HM X zI8 L p))))) : G X 0 0 0 [(0, .ref 96), (1, .int x1), (2, .int x2), (3, .int x3)] [] (HM X I L p) := by
  refine g_aload_n hX 0 rfl rfl dX6_sets_0 ?_
  obtain ⟨zI2, zhc1, k⟩ := k
  refine g_callV (cs' := 0) (sl' := 0) (C := RX6) (as := []) (st := []) hX zhc1 hPW sn96 so96 rfl gX6_sets_X6_hold rfl rfl rfl ydX6_hold (by decide) (Nat.le_of_ble_eq_true rfl) (by decide) dX6_sets_1 rfl rfl ?_
  refine g_aload_n hX 0 rfl rfl dX6_sets_4 ?_
  refine g_aload_n hX 0 rfl rfl dX6_sets_5 ?_
  refine g_iload_n hX 1 rfl rfl dX6_sets_6 ?_
  refine g_iload_n hX 2 rfl rfl dX6_sets_7 ?_
  refine g_iload_n hX 3 rfl rfl dX6_sets_8 ?_
  obtain ⟨zr4, zI5, zhc3, k⟩ := k
  refine g_callV (cs' := 0) (sl' := 0) (C := RX6) (as := [.int x1, .int x2, .int x3]) (st := [.ref 96]) hX zhc3 hPW sn96 so96 rfl gX6_sets_X6_doSets rfl rfl rfl ydX6_doSets (by decide) (Nat.le_of_ble_eq_true rfl) (by decide) dX6_sets_9 rfl rfl ?_
  obtain ⟨zr7, zI8, zhc6, k⟩ := k
  refine g_callV (cs' := 0) (sl' := 0) (C := RX6) (as := [.int zr4]) (st := []) hX zhc6 hPW sn96 so96 rfl gX6_sets_X6_ends rfl rfl rfl ydX6_ends (by decide) (Nat.le_of_ble_eq_true rfl) (by decide) dX6_sets_12 rfl rfl ?_
  exact g_ireturn hX k rfl rfl dX6_sets_15
set_option maxRecDepth 4000 in
theorem RX6_pipe_0 {X : XT} {I : MI} {L : ML} {p : Nat → Nat}  (hX : Cx X cX6_pipe 5 RX6 wsX6_pipe rmX6_pipe) (x1 : Int32) (x2 : Int32) (x3 : Int32) (x4 : Int32) (k : (∃ (zI2 : MI), Ct (xE X) (xl X) yX6_hold wsX6_hold rmX6_hold [.ref 96] (HM X I L p) none (HM X zI2 L p) ∧ (∃ (zr4 : Int32) (zI5 : MI), Ct (xE X) (xl X) yX6_doPipe wsX6_doPipe rmX6_doPipe [.ref 96, .int x1, .int x2, .int x3, .int x4] (HM X zI2 L p) (some (.int zr4)) (HM X zI5 L p) ∧ (∃ (zr7 : Int32) (zI8 : MI), Ct (xE X) (xl X) yX6_ends wsX6_ends rmX6_ends [.ref 96, .int zr4] (HM X zI5 L p) (some (.int zr7)) (HM X zI8 L p) ∧ Rt X (some .int) rmX6_pipe (some (.int zr7)) (HM X zI8 L p))))) : G X 0 0 0 [(0, .ref 96), (1, .int x1), (2, .int x2), (3, .int x3), (4, .int x4)] [] (HM X I L p) := by
  refine g_aload_n hX 0 rfl rfl dX6_pipe_0 ?_
  obtain ⟨zI2, zhc1, k⟩ := k
  refine g_callV (cs' := 0) (sl' := 0) (C := RX6) (as := []) (st := []) hX zhc1 hPW sn96 so96 rfl gX6_pipe_X6_hold rfl rfl rfl ydX6_hold (by decide) (Nat.le_of_ble_eq_true rfl) (by decide) dX6_pipe_1 rfl rfl ?_
  refine g_aload_n hX 0 rfl rfl dX6_pipe_4 ?_
  refine g_aload_n hX 0 rfl rfl dX6_pipe_5 ?_
  refine g_iload_n hX 1 rfl rfl dX6_pipe_6 ?_
  refine g_iload_n hX 2 rfl rfl dX6_pipe_7 ?_
  refine g_iload_n hX 3 rfl rfl dX6_pipe_8 ?_
  refine g_iload hX 4 rfl dX6_pipe_9 ?_
  obtain ⟨zr4, zI5, zhc3, k⟩ := k
  refine g_callV (cs' := 0) (sl' := 0) (C := RX6) (as := [.int x1, .int x2, .int x3, .int x4]) (st := [.ref 96]) hX zhc3 hPW sn96 so96 rfl gX6_pipe_X6_doPipe rfl rfl rfl ydX6_doPipe (by decide) (Nat.le_of_ble_eq_true rfl) (by decide) dX6_pipe_11 rfl rfl ?_
  obtain ⟨zr7, zI8, zhc6, k⟩ := k
  refine g_callV (cs' := 0) (sl' := 0) (C := RX6) (as := [.int zr4]) (st := []) hX zhc6 hPW sn96 so96 rfl gX6_pipe_X6_ends rfl rfl rfl ydX6_ends (by decide) (Nat.le_of_ble_eq_true rfl) (by decide) dX6_pipe_14 rfl rfl ?_
  exact g_ireturn hX k rfl rfl dX6_pipe_17
set_option maxRecDepth 4000 in
theorem RX6_drops_0 {X : XT} {I : MI} {L : ML} {p : Nat → Nat}  (hX : Cx X cX6_drops 2 RX6 wsX6_drops rmX6_drops) (x1 : Int32) (k : (∃ (zI2 : MI), Ct (xE X) (xl X) yX6_hold wsX6_hold rmX6_hold [.ref 96] (HM X I L p) none (HM X zI2 L p) ∧ (∃ (zr4 : Int32) (zI5 : MI), Ct (xE X) (xl X) yX6_doDrops wsX6_doDrops rmX6_doDrops [.ref 96, .int x1] (HM X zI2 L p) (some (.int zr4)) (HM X zI5 L p) ∧ (∃ (zr7 : Int32) (zI8 : MI), Ct (xE X) (xl X) yX6_ends wsX6_ends rmX6_ends [.ref 96, .int zr4] (HM X zI5 L p) (some (.int zr7)) (HM X zI8 L p) ∧ Rt X (some .int) rmX6_drops (some (.int zr7)) (HM X zI8 L p))))) : G X 0 0 0 [(0, .ref 96), (1, .int x1)] [] (HM X I L p) := by
  refine g_aload_n hX 0 rfl rfl dX6_drops_0 ?_
  obtain ⟨zI2, zhc1, k⟩ := k
  refine g_callV (cs' := 0) (sl' := 0) (C := RX6) (as := []) (st := []) hX zhc1 hPW sn96 so96 rfl gX6_drops_X6_hold rfl rfl rfl ydX6_hold (by decide) (Nat.le_of_ble_eq_true rfl) (by decide) dX6_drops_1 rfl rfl ?_
  refine g_aload_n hX 0 rfl rfl dX6_drops_4 ?_
  refine g_aload_n hX 0 rfl rfl dX6_drops_5 ?_
  refine g_iload_n hX 1 rfl rfl dX6_drops_6 ?_
  obtain ⟨zr4, zI5, zhc3, k⟩ := k
  refine g_callV (cs' := 0) (sl' := 0) (C := RX6) (as := [.int x1]) (st := [.ref 96]) hX zhc3 hPW sn96 so96 rfl gX6_drops_X6_doDrops rfl rfl rfl ydX6_doDrops (by decide) (Nat.le_of_ble_eq_true rfl) (by decide) dX6_drops_7 rfl rfl ?_
  obtain ⟨zr7, zI8, zhc6, k⟩ := k
  refine g_callV (cs' := 0) (sl' := 0) (C := RX6) (as := [.int zr4]) (st := []) hX zhc6 hPW sn96 so96 rfl gX6_drops_X6_ends rfl rfl rfl ydX6_ends (by decide) (Nat.le_of_ble_eq_true rfl) (by decide) dX6_drops_10 rfl rfl ?_
  exact g_ireturn hX k rfl rfl dX6_drops_13
set_option maxRecDepth 4000 in
theorem RX6_sight_0 {X : XT} {I : MI} {L : ML} {p : Nat → Nat}  (hX : Cx X cX6_sight 4 RX6 wsX6_sight rmX6_sight) (x1 : Int32) (x2 : Int32) (x3 : Int32) (k : (∃ (zI2 : MI), Ct (xE X) (xl X) yX6_hold wsX6_hold rmX6_hold [.ref 96] (HM X I L p) none (HM X zI2 L p) ∧ (∃ (zr4 : Int32) (zI5 : MI), Ct (xE X) (xl X) yX6_doSight wsX6_doSight rmX6_doSight [.ref 96, .int x1, .int x2, .int x3] (HM X zI2 L p) (some (.int zr4)) (HM X zI5 L p) ∧ (∃ (zr7 : Int32) (zI8 : MI), Ct (xE X) (xl X) yX6_ends wsX6_ends rmX6_ends [.ref 96, .int zr4] (HM X zI5 L p) (some (.int zr7)) (HM X zI8 L p) ∧ Rt X (some .int) rmX6_sight (some (.int zr7)) (HM X zI8 L p))))) : G X 0 0 0 [(0, .ref 96), (1, .int x1), (2, .int x2), (3, .int x3)] [] (HM X I L p) := by
  refine g_aload_n hX 0 rfl rfl dX6_sight_0 ?_
  obtain ⟨zI2, zhc1, k⟩ := k
  refine g_callV (cs' := 0) (sl' := 0) (C := RX6) (as := []) (st := []) hX zhc1 hPW sn96 so96 rfl gX6_sight_X6_hold rfl rfl rfl ydX6_hold (by decide) (Nat.le_of_ble_eq_true rfl) (by decide) dX6_sight_1 rfl rfl ?_
  refine g_aload_n hX 0 rfl rfl dX6_sight_4 ?_
  refine g_aload_n hX 0 rfl rfl dX6_sight_5 ?_
  refine g_iload_n hX 1 rfl rfl dX6_sight_6 ?_
  refine g_iload_n hX 2 rfl rfl dX6_sight_7 ?_
  refine g_iload_n hX 3 rfl rfl dX6_sight_8 ?_
  obtain ⟨zr4, zI5, zhc3, k⟩ := k
  refine g_callV (cs' := 0) (sl' := 0) (C := RX6) (as := [.int x1, .int x2, .int x3]) (st := [.ref 96]) hX zhc3 hPW sn96 so96 rfl gX6_sight_X6_doSight rfl rfl rfl ydX6_doSight (by decide) (Nat.le_of_ble_eq_true rfl) (by decide) dX6_sight_9 rfl rfl ?_
  obtain ⟨zr7, zI8, zhc6, k⟩ := k
  refine g_callV (cs' := 0) (sl' := 0) (C := RX6) (as := [.int zr4]) (st := []) hX zhc6 hPW sn96 so96 rfl gX6_sight_X6_ends rfl rfl rfl ydX6_ends (by decide) (Nat.le_of_ble_eq_true rfl) (by decide) dX6_sight_12 rfl rfl ?_
  exact g_ireturn hX k rfl rfl dX6_sight_15
set_option maxRecDepth 4000 in
theorem RX6_forget_0 {X : XT} {I : MI} {L : ML} {p : Nat → Nat}  (hX : Cx X cX6_forget 1 RX6 wsX6_forget rmX6_forget)  (k : (∃ (zI2 : MI), Ct (xE X) (xl X) yX6_hold wsX6_hold rmX6_hold [.ref 96] (HM X I L p) none (HM X zI2 L p) ∧ (∃ (zr4 : Int32) (zI5 : MI), Ct (xE X) (xl X) yX6_doForget wsX6_doForget rmX6_doForget [.ref 96] (HM X zI2 L p) (some (.int zr4)) (HM X zI5 L p) ∧ (∃ (zr7 : Int32) (zI8 : MI), Ct (xE X) (xl X) yX6_ends wsX6_ends rmX6_ends [.ref 96, .int zr4] (HM X zI5 L p) (some (.int zr7)) (HM X zI8 L p) ∧ Rt X (some .int) rmX6_forget (some (.int zr7)) (HM X zI8 L p))))) : G X 0 0 0 [(0, .ref 96)] [] (HM X I L p) := by
  refine g_aload_n hX 0 rfl rfl dX6_forget_0 ?_
  obtain ⟨zI2, zhc1, k⟩ := k
  refine g_callV (cs' := 0) (sl' := 0) (C := RX6) (as := []) (st := []) hX zhc1 hPW sn96 so96 rfl gX6_forget_X6_hold rfl rfl rfl ydX6_hold (by decide) (Nat.le_of_ble_eq_true rfl) (by decide) dX6_forget_1 rfl rfl ?_
  refine g_aload_n hX 0 rfl rfl dX6_forget_4 ?_
  refine g_aload_n hX 0 rfl rfl dX6_forget_5 ?_
  obtain ⟨zr4, zI5, zhc3, k⟩ := k
  refine g_callV (cs' := 0) (sl' := 0) (C := RX6) (as := []) (st := [.ref 96]) hX zhc3 hPW sn96 so96 rfl gX6_forget_X6_doForget rfl rfl rfl ydX6_doForget (by decide) (Nat.le_of_ble_eq_true rfl) (by decide) dX6_forget_6 rfl rfl ?_
  obtain ⟨zr7, zI8, zhc6, k⟩ := k
  refine g_callV (cs' := 0) (sl' := 0) (C := RX6) (as := [.int zr4]) (st := []) hX zhc6 hPW sn96 so96 rfl gX6_forget_X6_ends rfl rfl rfl ydX6_ends (by decide) (Nat.le_of_ble_eq_true rfl) (by decide) dX6_forget_9 rfl rfl ?_
  exact g_ireturn hX k rfl rfl dX6_forget_12
set_option maxRecDepth 4000 in
theorem RX6_ofShaft_0 {X : XT} {I : MI} {L : ML} {p : Nat → Nat}  (hX : Cx X cX6_ofShaft 7 RX6 wsX6_ofShaft rmX6_ofShaft) (x1 : Int32) (x2 : Int32) (k : G X 0 0 11 [(0, .ref 96), (1, .int x1), (2, .int x2), (3, .int 0), (4, .int 0), (5, .int 0), (6, .int 0)] [] (HM X I L p)) : G X 0 0 0 [(0, .ref 96), (1, .int x1), (2, .int x2)] [] (HM X I L p) := by
  refine g_iconst (v := 0) hX dX6_ofShaft_0 (by decide) ?_
  refine g_istore_n (ls' := [(0, .ref 96), (1, .int x1), (2, .int x2), (3, .int 0)]) hX dX6_ofShaft_1 rfl (by decide) rfl ?_
  refine g_iconst (v := 0) hX dX6_ofShaft_2 (by decide) ?_
  refine g_istore (ls' := [(0, .ref 96), (1, .int x1), (2, .int x2), (3, .int 0), (4, .int 0)]) hX dX6_ofShaft_3 (by decide) rfl ?_
  refine g_iconst (v := 0) hX dX6_ofShaft_5 (by decide) ?_
  refine g_istore (ls' := [(0, .ref 96), (1, .int x1), (2, .int x2), (3, .int 0), (4, .int 0), (5, .int 0)]) hX dX6_ofShaft_6 (by decide) rfl ?_
  refine g_iconst (v := 0) hX dX6_ofShaft_8 (by decide) ?_
  refine g_istore (ls' := [(0, .ref 96), (1, .int x1), (2, .int x2), (3, .int 0), (4, .int 0), (5, .int 0), (6, .int 0)]) hX dX6_ofShaft_9 (by decide) rfl ?_
  exact k
set_option maxRecDepth 4000 in
theorem RX6_ofShaft_11 {X : XT} {I : MI} {L : ML} {p : Nat → Nat}  (hX : Cx X cX6_ofShaft 7 RX6 wsX6_ofShaft rmX6_ofShaft) (x1 : Int32) (x2 : Int32) (x3 : Int32) (x4 : Int32) (x5 : Int32) (x6 : Int32) (k : (((I 97 1) ≤ x6 → G X 0 0 71 [(0, .ref 96), (1, .int x1), (2, .int x2), (3, .int x3), (4, .int x4), (5, .int x5), (6, .int 0)] [] (HM X I L p)) ∧ (¬ (I 97 1) ≤ x6 → (∃ (zr3 : Int32), Ct (xE X) (xl X) yX6_pipeOf wsX6_pipeOf rmX6_pipeOf [.ref 96, .int x6, .int 0] (HM X I L p) (some (.int zr3)) (HM X I L p) ∧ (∃ (zr5 : Int32), Ct (xE X) (xl X) yX6_pipeOf wsX6_pipeOf rmX6_pipeOf [.ref 96, .int x6, .int 1] (HM X I L p) (some (.int zr5)) (HM X I L p) ∧ G X 0 0 11 [(0, .ref 96), (1, .int x1), (2, .int x2), (3, .int (x3 + (if zr3 = x1 then 1 else 0 : Int32))), (4, .int (x4 + (if zr5 = x1 then 1 else 0 : Int32))), (5, .int x5), (6, .int (x6 + 1))] [] (HM X I L p)))))) : G X 0 0 11 [(0, .ref 96), (1, .int x1), (2, .int x2), (3, .int x3), (4, .int x4), (5, .int x5), (6, .int x6)] [] (HM X I L p) := by
  refine g_iload hX 6 rfl dX6_ofShaft_11 ?_
  refine g_aload_n hX 0 rfl rfl dX6_ofShaft_13 ?_
  refine g_getR (k := 0) (r' := 97) hX hPW flX6_ofShaft_7 sn96 so96 rfl (k96_0 _) dX6_ofShaft_14 ?_
  refine g_iconst (v := 1) hX dX6_ofShaft_17 (by decide) ?_
  refine g_iald (j := 1) hX hPW sn97 sh97 rfl (by decide) (by decide) dX6_ofShaft_18 ?_
  refine g_icmp_ge (tgt := 68) hX dX6_ofShaft_19 (by decide) (fun h => ?_) (fun h => ?_)
  · replace k := k.1 h
    refine g_iconst (v := 0) hX dX6_ofShaft_68 (by decide) ?_
    refine g_istore (ls' := [(0, .ref 96), (1, .int x1), (2, .int x2), (3, .int x3), (4, .int x4), (5, .int x5), (6, .int 0)]) hX dX6_ofShaft_69 (by decide) rfl ?_
    exact k
  · replace k := k.2 h
    refine g_iload_n hX 3 rfl rfl dX6_ofShaft_22 ?_
    refine g_aload_n hX 0 rfl rfl dX6_ofShaft_23 ?_
    refine g_iload hX 6 rfl dX6_ofShaft_24 ?_
    refine g_iconst (v := 0) hX dX6_ofShaft_26 (by decide) ?_
    obtain ⟨zr3, zhc2, k⟩ := k
    refine g_callV (cs' := 0) (sl' := 0) (C := RX6) (as := [.int x6, .int 0]) (st := [.int x3]) hX zhc2 hPW sn96 so96 rfl gX6_ofShaft_X6_pipeOf rfl rfl rfl ydX6_pipeOf (by decide) (Nat.le_of_ble_eq_true rfl) (by decide) dX6_ofShaft_27 rfl rfl ?_
    refine g_iload_n hX 1 rfl rfl dX6_ofShaft_30 ?_
    have kJ : G X 0 0 39 [(0, .ref 96), (1, .int x1), (2, .int x2), (3, .int x3), (4, .int x4), (5, .int x5), (6, .int x6)] [.int (if zr3 = x1 then 1 else 0 : Int32), .int x3] (HM X I L p) := by
      refine g_iadd hX dX6_ofShaft_39 ?_
      refine g_istore_n (ls' := [(0, .ref 96), (1, .int x1), (2, .int x2), (3, .int (x3 + (if zr3 = x1 then 1 else 0 : Int32))), (4, .int x4), (5, .int x5), (6, .int x6)]) hX dX6_ofShaft_40 rfl (by decide) rfl ?_
      refine g_iload hX 4 rfl dX6_ofShaft_41 ?_
      refine g_aload_n hX 0 rfl rfl dX6_ofShaft_43 ?_
      refine g_iload hX 6 rfl dX6_ofShaft_44 ?_
      refine g_iconst (v := 1) hX dX6_ofShaft_46 (by decide) ?_
      obtain ⟨zr5, zhc4, k⟩ := k
      refine g_callV (cs' := 0) (sl' := 0) (C := RX6) (as := [.int x6, .int 1]) (st := [.int x4]) hX zhc4 hPW sn96 so96 rfl gX6_ofShaft_X6_pipeOf rfl rfl rfl ydX6_pipeOf (by decide) (Nat.le_of_ble_eq_true rfl) (by decide) dX6_ofShaft_47 rfl rfl ?_
      refine g_iload_n hX 1 rfl rfl dX6_ofShaft_50 ?_
      have kJ : G X 0 0 59 [(0, .ref 96), (1, .int x1), (2, .int x2), (3, .int (x3 + (if zr3 = x1 then 1 else 0 : Int32))), (4, .int x4), (5, .int x5), (6, .int x6)] [.int (if zr5 = x1 then 1 else 0 : Int32), .int x4] (HM X I L p) := by
        refine g_iadd hX dX6_ofShaft_59 ?_
        refine g_istore (ls' := [(0, .ref 96), (1, .int x1), (2, .int x2), (3, .int (x3 + (if zr3 = x1 then 1 else 0 : Int32))), (4, .int (x4 + (if zr5 = x1 then 1 else 0 : Int32))), (5, .int x5), (6, .int x6)]) hX dX6_ofShaft_60 (by decide) rfl ?_
        refine g_iinc (v := x6 + 1) (ls' := [(0, .ref 96), (1, .int x1), (2, .int x2), (3, .int (x3 + (if zr3 = x1 then 1 else 0 : Int32))), (4, .int (x4 + (if zr5 = x1 then 1 else 0 : Int32))), (5, .int x5), (6, .int (x6 + 1))]) hX 6 rfl dX6_ofShaft_62 rfl (by decide) rfl ?_
        refine g_goto (tgt := 11) hX dX6_ofShaft_65 (by decide) ?_
        exact k
      refine g_icmp_ne (tgt := 58) hX dX6_ofShaft_51 (by decide) (fun h => ?_) (fun h => ?_)
      · rw [(show (if zr5 = x1 then 1 else 0 : Int32) = 0 from if_neg h)] at kJ
        refine g_iconst (v := 0) hX dX6_ofShaft_58 (by decide) ?_
        exact kJ
      · rw [(show (if zr5 = x1 then 1 else 0 : Int32) = 1 from if_pos h)] at kJ
        refine g_iconst (v := 1) hX dX6_ofShaft_54 (by decide) ?_
        refine g_goto (tgt := 59) hX dX6_ofShaft_55 (by decide) ?_
        exact kJ
    refine g_icmp_ne (tgt := 38) hX dX6_ofShaft_31 (by decide) (fun h => ?_) (fun h => ?_)
    · rw [(show (if zr3 = x1 then 1 else 0 : Int32) = 0 from if_neg h)] at kJ
      refine g_iconst (v := 0) hX dX6_ofShaft_38 (by decide) ?_
      exact kJ
    · rw [(show (if zr3 = x1 then 1 else 0 : Int32) = 1 from if_pos h)] at kJ
      refine g_iconst (v := 1) hX dX6_ofShaft_34 (by decide) ?_
      refine g_goto (tgt := 39) hX dX6_ofShaft_35 (by decide) ?_
      exact kJ
set_option maxRecDepth 4000 in
theorem RX6_ofShaft_71 {X : XT} {I : MI} {L : ML} {p : Nat → Nat}  (hX : Cx X cX6_ofShaft 7 RX6 wsX6_ofShaft rmX6_ofShaft) (x1 : Int32) (x2 : Int32) (x3 : Int32) (x4 : Int32) (x5 : Int32) (x6 : Int32) (k : (((I 97 0) ≤ x6 → ((x2 = 0 → (∃ (zr3 : Int32), Ct (xE X) (xl X) yX6_kindOf wsX6_kindOf rmX6_kindOf [.ref 96, .int x1] (HM X I L p) (some (.int zr3)) (HM X I L p) ∧ Rt X (some .int) rmX6_ofShaft (some (.int zr3)) (HM X I L p))) ∧ ((x2 = 1 → (∃ (zr5 : Int32), Ct (xE X) (xl X) yX6_numberOf wsX6_numberOf rmX6_numberOf [.ref 96, .int x1] (HM X I L p) (some (.int zr5)) (HM X I L p) ∧ Rt X (some .int) rmX6_ofShaft (some (.int zr5)) (HM X I L p))) ∧ ((x2 = 2 → Rt X (some .int) rmX6_ofShaft (some (.int x3)) (HM X I L p)) ∧ ((x2 = 3 → Rt X (some .int) rmX6_ofShaft (some (.int x4)) (HM X I L p)) ∧ ((x2 = 4 → (∃ (zr7 : Int32), Ct (xE X) (xl X) yX6_below wsX6_below rmX6_below [.ref 96, .int x1] (HM X I L p) (some (.int zr7)) (HM X I L p) ∧ Rt X (some .int) rmX6_ofShaft (some (.int zr7)) (HM X I L p))) ∧ (¬ x2 = 0 ∧ ¬ x2 = 1 ∧ ¬ x2 = 2 ∧ ¬ x2 = 3 ∧ ¬ x2 = 4 → Rt X (some .int) rmX6_ofShaft (some (.int x5)) (HM X I L p)))))))) ∧ (¬ (I 97 0) ≤ x6 → ((¬ x2 = 5 → ((x2 = 0 → (∃ (zr9 : Int32), Ct (xE X) (xl X) yX6_kindOf wsX6_kindOf rmX6_kindOf [.ref 96, .int x1] (HM X I L p) (some (.int zr9)) (HM X I L p) ∧ Rt X (some .int) rmX6_ofShaft (some (.int zr9)) (HM X I L p))) ∧ ((x2 = 1 → (∃ (zr11 : Int32), Ct (xE X) (xl X) yX6_numberOf wsX6_numberOf rmX6_numberOf [.ref 96, .int x1] (HM X I L p) (some (.int zr11)) (HM X I L p) ∧ Rt X (some .int) rmX6_ofShaft (some (.int zr11)) (HM X I L p))) ∧ ((x2 = 2 → Rt X (some .int) rmX6_ofShaft (some (.int x3)) (HM X I L p)) ∧ ((x2 = 3 → Rt X (some .int) rmX6_ofShaft (some (.int x4)) (HM X I L p)) ∧ ((x2 = 4 → (∃ (zr13 : Int32), Ct (xE X) (xl X) yX6_below wsX6_below rmX6_below [.ref 96, .int x1] (HM X I L p) (some (.int zr13)) (HM X I L p) ∧ Rt X (some .int) rmX6_ofShaft (some (.int zr13)) (HM X I L p))) ∧ (¬ x2 = 0 ∧ ¬ x2 = 1 ∧ ¬ x2 = 2 ∧ ¬ x2 = 3 ∧ ¬ x2 = 4 → Rt X (some .int) rmX6_ofShaft (some (.int x5)) (HM X I L p)))))))) ∧ (x2 = 5 → (∃ (zr15 : Int32), Ct (xE X) (xl X) yX6_below wsX6_below rmX6_below [.ref 96, .int x6] (HM X I L p) (some (.int zr15)) (HM X I L p) ∧ (∃ (zr17 : Int32), Ct (xE X) (xl X) yX6_has wsX6_has rmX6_has [.int zr15, .int x1] (HM X I L p) (some (.int zr17)) (HM X I L p) ∧ G X 0 0 71 [(0, .ref 96), (1, .int x1), (2, .int x2), (3, .int x3), (4, .int x4), (5, .int (x5 ||| (if zr17 = 0 then 0 else jshl 1 x6 : Int32))), (6, .int (x6 + 1))] [] (HM X I L p)))))))) : G X 0 0 71 [(0, .ref 96), (1, .int x1), (2, .int x2), (3, .int x3), (4, .int x4), (5, .int x5), (6, .int x6)] [] (HM X I L p) := by
  refine g_iload hX 6 rfl dX6_ofShaft_71 ?_
  refine g_aload_n hX 0 rfl rfl dX6_ofShaft_73 ?_
  refine g_getR (k := 0) (r' := 97) hX hPW flX6_ofShaft_7 sn96 so96 rfl (k96_0 _) dX6_ofShaft_74 ?_
  refine g_iconst (v := 0) hX dX6_ofShaft_77 (by decide) ?_
  refine g_iald (j := 0) hX hPW sn97 sh97 rfl (by decide) (by decide) dX6_ofShaft_78 ?_
  refine g_icmp_ge (tgt := 119) hX dX6_ofShaft_79 (by decide) (fun h => ?_) (fun h => ?_)
  · replace k := k.1 h
    refine g_iload_n hX 2 rfl rfl dX6_ofShaft_119 ?_
    by_cases c0 : x2 = 0
    · replace k := k.1 c0
      refine g_tableIn (off := 36) (tgt := 156) hX dX6_ofShaft_120 (by rw [c0]; decide) (by rw [c0]; decide) (by rw [c0]; rfl) (by decide) ?_
      refine g_aload_n hX 0 rfl rfl dX6_ofShaft_156 ?_
      refine g_iload_n hX 1 rfl rfl dX6_ofShaft_157 ?_
      obtain ⟨zr3, zhc2, k⟩ := k
      refine g_callV (cs' := 0) (sl' := 0) (C := RX6) (as := [.int x1]) (st := []) hX zhc2 hPW sn96 so96 rfl gX6_ofShaft_X6_kindOf rfl rfl rfl ydX6_kindOf (by decide) (Nat.le_of_ble_eq_true rfl) (by decide) dX6_ofShaft_158 rfl rfl ?_
      exact g_ireturn hX k rfl rfl dX6_ofShaft_161
    · replace k := k.2
      by_cases c1 : x2 = 1
      · replace k := k.1 c1
        refine g_tableIn (off := 42) (tgt := 162) hX dX6_ofShaft_120 (by rw [c1]; decide) (by rw [c1]; decide) (by rw [c1]; rfl) (by decide) ?_
        refine g_aload_n hX 0 rfl rfl dX6_ofShaft_162 ?_
        refine g_iload_n hX 1 rfl rfl dX6_ofShaft_163 ?_
        obtain ⟨zr5, zhc4, k⟩ := k
        refine g_callV (cs' := 0) (sl' := 0) (C := RX6) (as := [.int x1]) (st := []) hX zhc4 hPW sn96 so96 rfl gX6_ofShaft_X6_numberOf rfl rfl rfl ydX6_numberOf (by decide) (Nat.le_of_ble_eq_true rfl) (by decide) dX6_ofShaft_164 rfl rfl ?_
        exact g_ireturn hX k rfl rfl dX6_ofShaft_167
      · replace k := k.2
        by_cases c2 : x2 = 2
        · replace k := k.1 c2
          refine g_tableIn (off := 48) (tgt := 168) hX dX6_ofShaft_120 (by rw [c2]; decide) (by rw [c2]; decide) (by rw [c2]; rfl) (by decide) ?_
          refine g_iload_n hX 3 rfl rfl dX6_ofShaft_168 ?_
          exact g_ireturn hX k rfl rfl dX6_ofShaft_169
        · replace k := k.2
          by_cases c3 : x2 = 3
          · replace k := k.1 c3
            refine g_tableIn (off := 50) (tgt := 170) hX dX6_ofShaft_120 (by rw [c3]; decide) (by rw [c3]; decide) (by rw [c3]; rfl) (by decide) ?_
            refine g_iload hX 4 rfl dX6_ofShaft_170 ?_
            exact g_ireturn hX k rfl rfl dX6_ofShaft_172
          · replace k := k.2
            by_cases c4 : x2 = 4
            · replace k := k.1 c4
              refine g_tableIn (off := 53) (tgt := 173) hX dX6_ofShaft_120 (by rw [c4]; decide) (by rw [c4]; decide) (by rw [c4]; rfl) (by decide) ?_
              refine g_aload_n hX 0 rfl rfl dX6_ofShaft_173 ?_
              refine g_iload_n hX 1 rfl rfl dX6_ofShaft_174 ?_
              obtain ⟨zr7, zhc6, k⟩ := k
              refine g_callV (cs' := 0) (sl' := 0) (C := RX6) (as := [.int x1]) (st := []) hX zhc6 hPW sn96 so96 rfl gX6_ofShaft_X6_below rfl rfl rfl ydX6_below (by decide) (Nat.le_of_ble_eq_true rfl) (by decide) dX6_ofShaft_175 rfl rfl ?_
              exact g_ireturn hX k rfl rfl dX6_ofShaft_178
            · replace k := k.2
              replace k := k ⟨c0, c1, c2, c3, c4⟩
              refine g_tableOut (tgt := 179) hX dX6_ofShaft_120 (by have ec0 := lv_neT c0 (show (0 : Int32).toInt = 0 by decide); have ec1 := lv_neT c1 (show (1 : Int32).toInt = 1 by decide); have ec2 := lv_neT c2 (show (2 : Int32).toInt = 2 by decide); have ec3 := lv_neT c3 (show (3 : Int32).toInt = 3 by decide); have ec4 := lv_neT c4 (show (4 : Int32).toInt = 4 by decide); omega) (by decide) ?_
              refine g_iload hX 5 rfl dX6_ofShaft_179 ?_
              exact g_ireturn hX k rfl rfl dX6_ofShaft_181
  · replace k := k.2 h
    refine g_iload_n hX 2 rfl rfl dX6_ofShaft_82 ?_
    refine g_iconst (v := 5) hX dX6_ofShaft_83 (by decide) ?_
    refine g_icmp_ne (tgt := 119) hX dX6_ofShaft_84 (by decide) (fun h => ?_) (fun h => ?_)
    · replace k := k.1 h
      refine g_iload_n hX 2 rfl rfl dX6_ofShaft_119 ?_
      by_cases c0 : x2 = 0
      · replace k := k.1 c0
        refine g_tableIn (off := 36) (tgt := 156) hX dX6_ofShaft_120 (by rw [c0]; decide) (by rw [c0]; decide) (by rw [c0]; rfl) (by decide) ?_
        refine g_aload_n hX 0 rfl rfl dX6_ofShaft_156 ?_
        refine g_iload_n hX 1 rfl rfl dX6_ofShaft_157 ?_
        obtain ⟨zr9, zhc8, k⟩ := k
        refine g_callV (cs' := 0) (sl' := 0) (C := RX6) (as := [.int x1]) (st := []) hX zhc8 hPW sn96 so96 rfl gX6_ofShaft_X6_kindOf rfl rfl rfl ydX6_kindOf (by decide) (Nat.le_of_ble_eq_true rfl) (by decide) dX6_ofShaft_158 rfl rfl ?_
        exact g_ireturn hX k rfl rfl dX6_ofShaft_161
      · replace k := k.2
        by_cases c1 : x2 = 1
        · replace k := k.1 c1
          refine g_tableIn (off := 42) (tgt := 162) hX dX6_ofShaft_120 (by rw [c1]; decide) (by rw [c1]; decide) (by rw [c1]; rfl) (by decide) ?_
          refine g_aload_n hX 0 rfl rfl dX6_ofShaft_162 ?_
          refine g_iload_n hX 1 rfl rfl dX6_ofShaft_163 ?_
          obtain ⟨zr11, zhc10, k⟩ := k
          refine g_callV (cs' := 0) (sl' := 0) (C := RX6) (as := [.int x1]) (st := []) hX zhc10 hPW sn96 so96 rfl gX6_ofShaft_X6_numberOf rfl rfl rfl ydX6_numberOf (by decide) (Nat.le_of_ble_eq_true rfl) (by decide) dX6_ofShaft_164 rfl rfl ?_
          exact g_ireturn hX k rfl rfl dX6_ofShaft_167
        · replace k := k.2
          by_cases c2 : x2 = 2
          · replace k := k.1 c2
            refine g_tableIn (off := 48) (tgt := 168) hX dX6_ofShaft_120 (by rw [c2]; decide) (by rw [c2]; decide) (by rw [c2]; rfl) (by decide) ?_
            refine g_iload_n hX 3 rfl rfl dX6_ofShaft_168 ?_
            exact g_ireturn hX k rfl rfl dX6_ofShaft_169
          · replace k := k.2
            by_cases c3 : x2 = 3
            · replace k := k.1 c3
              refine g_tableIn (off := 50) (tgt := 170) hX dX6_ofShaft_120 (by rw [c3]; decide) (by rw [c3]; decide) (by rw [c3]; rfl) (by decide) ?_
              refine g_iload hX 4 rfl dX6_ofShaft_170 ?_
              exact g_ireturn hX k rfl rfl dX6_ofShaft_172
            · replace k := k.2
              by_cases c4 : x2 = 4
              · replace k := k.1 c4
                refine g_tableIn (off := 53) (tgt := 173) hX dX6_ofShaft_120 (by rw [c4]; decide) (by rw [c4]; decide) (by rw [c4]; rfl) (by decide) ?_
                refine g_aload_n hX 0 rfl rfl dX6_ofShaft_173 ?_
                refine g_iload_n hX 1 rfl rfl dX6_ofShaft_174 ?_
                obtain ⟨zr13, zhc12, k⟩ := k
                refine g_callV (cs' := 0) (sl' := 0) (C := RX6) (as := [.int x1]) (st := []) hX zhc12 hPW sn96 so96 rfl gX6_ofShaft_X6_below rfl rfl rfl ydX6_below (by decide) (Nat.le_of_ble_eq_true rfl) (by decide) dX6_ofShaft_175 rfl rfl ?_
                exact g_ireturn hX k rfl rfl dX6_ofShaft_178
              · replace k := k.2
                replace k := k ⟨c0, c1, c2, c3, c4⟩
                refine g_tableOut (tgt := 179) hX dX6_ofShaft_120 (by have ec0 := lv_neT c0 (show (0 : Int32).toInt = 0 by decide); have ec1 := lv_neT c1 (show (1 : Int32).toInt = 1 by decide); have ec2 := lv_neT c2 (show (2 : Int32).toInt = 2 by decide); have ec3 := lv_neT c3 (show (3 : Int32).toInt = 3 by decide); have ec4 := lv_neT c4 (show (4 : Int32).toInt = 4 by decide); omega) (by decide) ?_
                refine g_iload hX 5 rfl dX6_ofShaft_179 ?_
                exact g_ireturn hX k rfl rfl dX6_ofShaft_181
    · replace k := k.2 h
      refine g_iload hX 5 rfl dX6_ofShaft_87 ?_
      refine g_aload_n hX 0 rfl rfl dX6_ofShaft_89 ?_
      refine g_iload hX 6 rfl dX6_ofShaft_90 ?_
      obtain ⟨zr15, zhc14, k⟩ := k
      refine g_callV (cs' := 0) (sl' := 0) (C := RX6) (as := [.int x6]) (st := [.int x5]) hX zhc14 hPW sn96 so96 rfl gX6_ofShaft_X6_below rfl rfl rfl ydX6_below (by decide) (Nat.le_of_ble_eq_true rfl) (by decide) dX6_ofShaft_92 rfl rfl ?_
      refine g_iload_n hX 1 rfl rfl dX6_ofShaft_95 ?_
      obtain ⟨zr17, zhc16, k⟩ := k
      refine g_callS (cs' := 0) (sl' := 0) (as := [.int zr15, .int x1]) (st := [.int x5]) hX zhc16 gX6_ofShaft_X6_has rfl rfl ydX6_has (by decide) (Nat.le_of_ble_eq_true rfl) (by decide) dX6_ofShaft_96 rfl rfl ?_
      have kJ : G X 0 0 110 [(0, .ref 96), (1, .int x1), (2, .int x2), (3, .int x3), (4, .int x4), (5, .int x5), (6, .int x6)] [.int (if zr17 = 0 then 0 else jshl 1 x6 : Int32), .int x5] (HM X I L p) := by
        refine g_ior hX dX6_ofShaft_110 ?_
        refine g_istore (ls' := [(0, .ref 96), (1, .int x1), (2, .int x2), (3, .int x3), (4, .int x4), (5, .int (x5 ||| (if zr17 = 0 then 0 else jshl 1 x6 : Int32))), (6, .int x6)]) hX dX6_ofShaft_111 (by decide) rfl ?_
        refine g_iinc (v := x6 + 1) (ls' := [(0, .ref 96), (1, .int x1), (2, .int x2), (3, .int x3), (4, .int x4), (5, .int (x5 ||| (if zr17 = 0 then 0 else jshl 1 x6 : Int32))), (6, .int (x6 + 1))]) hX 6 rfl dX6_ofShaft_113 rfl (by decide) rfl ?_
        refine g_goto (tgt := 71) hX dX6_ofShaft_116 (by decide) ?_
        exact k
      refine g_if_eq (tgt := 109) hX dX6_ofShaft_99 (by decide) (fun h => ?_) (fun h => ?_)
      · rw [(show (if zr17 = 0 then 0 else jshl 1 x6 : Int32) = 0 from if_pos h)] at kJ
        refine g_iconst (v := 0) hX dX6_ofShaft_109 (by decide) ?_
        exact kJ
      · rw [(show (if zr17 = 0 then 0 else jshl 1 x6 : Int32) = (jshl 1 x6) from if_neg h)] at kJ
        refine g_iconst (v := 1) hX dX6_ofShaft_102 (by decide) ?_
        refine g_iload hX 6 rfl dX6_ofShaft_103 ?_
        refine g_ishl hX dX6_ofShaft_105 ?_
        refine g_goto (tgt := 110) hX dX6_ofShaft_106 (by decide) ?_
        exact kJ
set_option maxRecDepth 4000 in
theorem RX6_of_0 {X : XT} {I : MI} {L : ML} {p : Nat → Nat}  (hX : Cx X cX6_of 3 RX6 wsX6_of rmX6_of) (x1 : Int32) (x2 : Int32) (k : (∃ (zr2 : Int32), Ct (xE X) (xl X) yX6_isShaft wsX6_isShaft rmX6_isShaft [.ref 96, .int x1] (HM X I L p) (some (.int zr2)) (HM X I L p) ∧ ((zr2 = 0 → (∃ (zr4 : Int32) (zI5 : MI), Ct (xE X) (xl X) yX6_refuses wsX6_refuses rmX6_refuses [.ref 96, .int (-2)] (HM X I L p) (some (.int zr4)) (HM X zI5 L p) ∧ Rt X (some .int) rmX6_of (some (.int zr4)) (HM X zI5 L p))) ∧ (¬ zr2 = 0 → (∃ (zr7 : Int32), Ct (xE X) (xl X) yX6_in wsX6_in rmX6_in [.int x2, .int 0, .int 5] (HM X I L p) (some (.int zr7)) (HM X I L p) ∧ ((zr7 = 0 → (∃ (zr9 : Int32) (zI10 : MI), Ct (xE X) (xl X) yX6_refuses wsX6_refuses rmX6_refuses [.ref 96, .int (-2)] (HM X I L p) (some (.int zr9)) (HM X zI10 L p) ∧ Rt X (some .int) rmX6_of (some (.int zr9)) (HM X zI10 L p))) ∧ (¬ zr7 = 0 → (∃ (zr12 : Int32), Ct (xE X) (xl X) yX6_ofShaft wsX6_ofShaft rmX6_ofShaft [.ref 96, .int x1, .int x2] (HM X I L p) (some (.int zr12)) (HM X I L p) ∧ Rt X (some .int) rmX6_of (some (.int zr12)) (HM X I L p))))))))) : G X 0 0 0 [(0, .ref 96), (1, .int x1), (2, .int x2)] [] (HM X I L p) := by
  refine g_aload_n hX 0 rfl rfl dX6_of_0 ?_
  refine g_iload_n hX 1 rfl rfl dX6_of_1 ?_
  obtain ⟨zr2, zhc1, k⟩ := k
  refine g_callV (cs' := 0) (sl' := 0) (C := RX6) (as := [.int x1]) (st := []) hX zhc1 hPW sn96 so96 rfl gX6_of_X6_isShaft rfl rfl rfl ydX6_isShaft (by decide) (Nat.le_of_ble_eq_true rfl) (by decide) dX6_of_2 rfl rfl ?_
  refine g_if_eq (tgt := 26) hX dX6_of_5 (by decide) (fun h => ?_) (fun h => ?_)
  · replace k := k.1 h
    refine g_aload_n hX 0 rfl rfl dX6_of_26 ?_
    refine g_bipush (v := (-2)) hX dX6_of_27 (by decide) ?_
    obtain ⟨zr4, zI5, zhc3, k⟩ := k
    refine g_callV (cs' := 0) (sl' := 0) (C := RX6) (as := [.int (-2)]) (st := []) hX zhc3 hPW sn96 so96 rfl gX6_of_X6_refuses rfl rfl rfl ydX6_refuses (by decide) (Nat.le_of_ble_eq_true rfl) (by decide) dX6_of_29 rfl rfl ?_
    exact g_ireturn hX k rfl rfl dX6_of_32
  · replace k := k.2 h
    refine g_iload_n hX 2 rfl rfl dX6_of_8 ?_
    refine g_iconst (v := 0) hX dX6_of_9 (by decide) ?_
    refine g_iconst (v := 5) hX dX6_of_10 (by decide) ?_
    obtain ⟨zr7, zhc6, k⟩ := k
    refine g_callS (cs' := 0) (sl' := 0) (as := [.int x2, .int 0, .int 5]) (st := []) hX zhc6 gX6_of_X6_in rfl rfl ydX6_in (by decide) (Nat.le_of_ble_eq_true rfl) (by decide) dX6_of_11 rfl rfl ?_
    refine g_if_eq (tgt := 26) hX dX6_of_14 (by decide) (fun h => ?_) (fun h => ?_)
    · replace k := k.1 h
      refine g_aload_n hX 0 rfl rfl dX6_of_26 ?_
      refine g_bipush (v := (-2)) hX dX6_of_27 (by decide) ?_
      obtain ⟨zr9, zI10, zhc8, k⟩ := k
      refine g_callV (cs' := 0) (sl' := 0) (C := RX6) (as := [.int (-2)]) (st := []) hX zhc8 hPW sn96 so96 rfl gX6_of_X6_refuses rfl rfl rfl ydX6_refuses (by decide) (Nat.le_of_ble_eq_true rfl) (by decide) dX6_of_29 rfl rfl ?_
      exact g_ireturn hX k rfl rfl dX6_of_32
    · replace k := k.2 h
      refine g_aload_n hX 0 rfl rfl dX6_of_17 ?_
      refine g_iload_n hX 1 rfl rfl dX6_of_18 ?_
      refine g_iload_n hX 2 rfl rfl dX6_of_19 ?_
      obtain ⟨zr12, zhc11, k⟩ := k
      refine g_callV (cs' := 0) (sl' := 0) (C := RX6) (as := [.int x1, .int x2]) (st := []) hX zhc11 hPW sn96 so96 rfl gX6_of_X6_ofShaft rfl rfl rfl ydX6_ofShaft (by decide) (Nat.le_of_ble_eq_true rfl) (by decide) dX6_of_20 rfl rfl ?_
      refine g_goto (tgt := 32) hX dX6_of_23 (by decide) ?_
      exact g_ireturn hX k rfl rfl dX6_of_32
set_option maxRecDepth 4000 in
theorem RX6_about_0 {X : XT} {I : MI} {L : ML} {p : Nat → Nat}  (hX : Cx X cX6_about 3 RX6 wsX6_about rmX6_about) (x1 : Int32) (x2 : Int32) (k : (∃ (zr2 : Int32), Ct (xE X) (xl X) yX6_isPipe wsX6_isPipe rmX6_isPipe [.ref 96, .int x1] (HM X I L p) (some (.int zr2)) (HM X I L p) ∧ ((zr2 = 0 → (∃ (zr4 : Int32) (zI5 : MI), Ct (xE X) (xl X) yX6_refuses wsX6_refuses rmX6_refuses [.ref 96, .int (-2)] (HM X I L p) (some (.int zr4)) (HM X zI5 L p) ∧ Rt X (some .int) rmX6_about (some (.int zr4)) (HM X zI5 L p))) ∧ (¬ zr2 = 0 → (∃ (zr7 : Int32), Ct (xE X) (xl X) yX6_in wsX6_in rmX6_in [.int x2, .int 0, .int 3] (HM X I L p) (some (.int zr7)) (HM X I L p) ∧ ((zr7 = 0 → (∃ (zr9 : Int32) (zI10 : MI), Ct (xE X) (xl X) yX6_refuses wsX6_refuses rmX6_refuses [.ref 96, .int (-2)] (HM X I L p) (some (.int zr9)) (HM X zI10 L p) ∧ Rt X (some .int) rmX6_about (some (.int zr9)) (HM X zI10 L p))) ∧ (¬ zr7 = 0 → (∃ (zr12 : Int32), Ct (xE X) (xl X) yX6_pipeOf wsX6_pipeOf rmX6_pipeOf [.ref 96, .int x1, .int x2] (HM X I L p) (some (.int zr12)) (HM X I L p) ∧ Rt X (some .int) rmX6_about (some (.int zr12)) (HM X I L p))))))))) : G X 0 0 0 [(0, .ref 96), (1, .int x1), (2, .int x2)] [] (HM X I L p) := by
  refine g_aload_n hX 0 rfl rfl dX6_about_0 ?_
  refine g_iload_n hX 1 rfl rfl dX6_about_1 ?_
  obtain ⟨zr2, zhc1, k⟩ := k
  refine g_callV (cs' := 0) (sl' := 0) (C := RX6) (as := [.int x1]) (st := []) hX zhc1 hPW sn96 so96 rfl gX6_about_X6_isPipe rfl rfl rfl ydX6_isPipe (by decide) (Nat.le_of_ble_eq_true rfl) (by decide) dX6_about_2 rfl rfl ?_
  refine g_if_eq (tgt := 26) hX dX6_about_5 (by decide) (fun h => ?_) (fun h => ?_)
  · replace k := k.1 h
    refine g_aload_n hX 0 rfl rfl dX6_about_26 ?_
    refine g_bipush (v := (-2)) hX dX6_about_27 (by decide) ?_
    obtain ⟨zr4, zI5, zhc3, k⟩ := k
    refine g_callV (cs' := 0) (sl' := 0) (C := RX6) (as := [.int (-2)]) (st := []) hX zhc3 hPW sn96 so96 rfl gX6_about_X6_refuses rfl rfl rfl ydX6_refuses (by decide) (Nat.le_of_ble_eq_true rfl) (by decide) dX6_about_29 rfl rfl ?_
    exact g_ireturn hX k rfl rfl dX6_about_32
  · replace k := k.2 h
    refine g_iload_n hX 2 rfl rfl dX6_about_8 ?_
    refine g_iconst (v := 0) hX dX6_about_9 (by decide) ?_
    refine g_iconst (v := 3) hX dX6_about_10 (by decide) ?_
    obtain ⟨zr7, zhc6, k⟩ := k
    refine g_callS (cs' := 0) (sl' := 0) (as := [.int x2, .int 0, .int 3]) (st := []) hX zhc6 gX6_about_X6_in rfl rfl ydX6_in (by decide) (Nat.le_of_ble_eq_true rfl) (by decide) dX6_about_11 rfl rfl ?_
    refine g_if_eq (tgt := 26) hX dX6_about_14 (by decide) (fun h => ?_) (fun h => ?_)
    · replace k := k.1 h
      refine g_aload_n hX 0 rfl rfl dX6_about_26 ?_
      refine g_bipush (v := (-2)) hX dX6_about_27 (by decide) ?_
      obtain ⟨zr9, zI10, zhc8, k⟩ := k
      refine g_callV (cs' := 0) (sl' := 0) (C := RX6) (as := [.int (-2)]) (st := []) hX zhc8 hPW sn96 so96 rfl gX6_about_X6_refuses rfl rfl rfl ydX6_refuses (by decide) (Nat.le_of_ble_eq_true rfl) (by decide) dX6_about_29 rfl rfl ?_
      exact g_ireturn hX k rfl rfl dX6_about_32
    · replace k := k.2 h
      refine g_aload_n hX 0 rfl rfl dX6_about_17 ?_
      refine g_iload_n hX 1 rfl rfl dX6_about_18 ?_
      refine g_iload_n hX 2 rfl rfl dX6_about_19 ?_
      obtain ⟨zr12, zhc11, k⟩ := k
      refine g_callV (cs' := 0) (sl' := 0) (C := RX6) (as := [.int x1, .int x2]) (st := []) hX zhc11 hPW sn96 so96 rfl gX6_about_X6_pipeOf rfl rfl rfl ydX6_pipeOf (by decide) (Nat.le_of_ble_eq_true rfl) (by decide) dX6_about_20 rfl rfl ?_
      refine g_goto (tgt := 32) hX dX6_about_23 (by decide) ?_
      exact g_ireturn hX k rfl rfl dX6_about_32
set_option maxRecDepth 4000 in
theorem RX6_pumped_0 {X : XT} {I : MI} {L : ML} {p : Nat → Nat}  (hX : Cx X cX6_pumped 4 RX6 wsX6_pumped rmX6_pumped) (x1 : Int32) (x2 : Int32) (k : G X 0 0 2 [(0, .ref 96), (1, .int x1), (2, .int x2), (3, .int x2)] [] (HM X I L p)) : G X 0 0 0 [(0, .ref 96), (1, .int x1), (2, .int x2)] [] (HM X I L p) := by
  refine g_iload_n hX 2 rfl rfl dX6_pumped_0 ?_
  refine g_istore_n (ls' := [(0, .ref 96), (1, .int x1), (2, .int x2), (3, .int x2)]) hX dX6_pumped_1 rfl (by decide) rfl ?_
  exact k
set_option maxRecDepth 4000 in
theorem RX6_pumped_2 {X : XT} {I : MI} {L : ML} {p : Nat → Nat}  (hX : Cx X cX6_pumped 4 RX6 wsX6_pumped rmX6_pumped) (x1 : Int32) (x2 : Int32) (x3 : Int32) (k : (∃ (zr2 : Int32), Ct (xE X) (xl X) yX6_numberOf wsX6_numberOf rmX6_numberOf [.ref 96, .int x1] (HM X I L p) (some (.int zr2)) (HM X I L p) ∧ (¬ (zr2 : Int32) = 0) ∧ (((jrem x3 zr2) = 0 → Rt X (some .int) rmX6_pumped (some (.int x3)) (HM X I L p)) ∧ (¬ (jrem x3 zr2) = 0 → G X 0 0 2 [(0, .ref 96), (1, .int x1), (2, .int x2), (3, .int (x3 + 1))] [] (HM X I L p))))) : G X 0 0 2 [(0, .ref 96), (1, .int x1), (2, .int x2), (3, .int x3)] [] (HM X I L p) := by
  refine g_iload_n hX 3 rfl rfl dX6_pumped_2 ?_
  refine g_aload_n hX 0 rfl rfl dX6_pumped_3 ?_
  refine g_iload_n hX 1 rfl rfl dX6_pumped_4 ?_
  obtain ⟨zr2, zhc1, k⟩ := k
  refine g_callV (cs' := 0) (sl' := 0) (C := RX6) (as := [.int x1]) (st := [.int x3]) hX zhc1 hPW sn96 so96 rfl gX6_pumped_X6_numberOf rfl rfl rfl ydX6_numberOf (by decide) (Nat.le_of_ble_eq_true rfl) (by decide) dX6_pumped_5 rfl rfl ?_
  obtain ⟨zh3, k⟩ := k
  refine g_irem hX dX6_pumped_8 zh3 ?_
  refine g_if_eq (tgt := 18) hX dX6_pumped_9 (by decide) (fun h => ?_) (fun h => ?_)
  · replace k := k.1 h
    refine g_iload_n hX 3 rfl rfl dX6_pumped_18 ?_
    exact g_ireturn hX k rfl rfl dX6_pumped_19
  · replace k := k.2 h
    refine g_iinc (v := x3 + 1) (ls' := [(0, .ref 96), (1, .int x1), (2, .int x2), (3, .int (x3 + 1))]) hX 3 rfl dX6_pumped_12 rfl (by decide) rfl ?_
    refine g_goto (tgt := 2) hX dX6_pumped_15 (by decide) ?_
    exact k
set_option maxRecDepth 4000 in
theorem RX6_leavesAt_0 {X : XT} {I : MI} {L : ML} {p : Nat → Nat}  (hX : Cx X cX6_leavesAt 4 RX6 wsX6_leavesAt rmX6_leavesAt) (x1 : Int32) (x2 : Int32) (k : (∃ (zr2 : Int32), Ct (xE X) (xl X) yX6_kindOf wsX6_kindOf rmX6_kindOf [.ref 96, .int x1] (HM X I L p) (some (.int zr2)) (HM X I L p) ∧ ((zr2 = 1 → (∃ (zr4 : Int32), Ct (xE X) (xl X) yX6_pumped wsX6_pumped rmX6_pumped [.ref 96, .int x1, .int x2] (HM X I L p) (some (.int zr4)) (HM X I L p) ∧ Rt X (some .int) rmX6_leavesAt (some (.int (if zr4 ≤ 62 then zr4 else (-1) : Int32))) (HM X I L p))) ∧ ((zr2 = 2 → (∃ (zr6 : Int32), Ct (xE X) (xl X) yX6_numberOf wsX6_numberOf rmX6_numberOf [.ref 96, .int x1] (HM X I L p) (some (.int zr6)) (HM X I L p) ∧ Rt X (some .int) rmX6_leavesAt (some (.int (if (x2 + zr6) ≤ 62 then x2 + zr6 else (-1) : Int32))) (HM X I L p))) ∧ ((zr2 = 3 → (∃ (zr8 : Int32), Ct (xE X) (xl X) yX6_numberOf wsX6_numberOf rmX6_numberOf [.ref 96, .int x1] (HM X I L p) (some (.int zr8)) (HM X I L p) ∧ Rt X (some .int) rmX6_leavesAt (some (.int (if (if zr8 ≤ x2 then x2 else 63 : Int32) ≤ 62 then (if zr8 ≤ x2 then x2 else 63 : Int32) else (-1) : Int32))) (HM X I L p))) ∧ ((zr2 = 4 → (∃ (zr10 : Int32), Ct (xE X) (xl X) yX6_pumped wsX6_pumped rmX6_pumped [.ref 96, .int x1, .int x2] (HM X I L p) (some (.int zr10)) (HM X I L p) ∧ (∃ (zr12 : Int32), Ct (xE X) (xl X) yX6_numberOf wsX6_numberOf rmX6_numberOf [.ref 96, .int x1] (HM X I L p) (some (.int zr12)) (HM X I L p) ∧ (¬ (10 : Int32) = 0) ∧ Rt X (some .int) rmX6_leavesAt (some (.int (if ((zr10 + (zr12 / 10)) + 1) ≤ 62 then (zr10 + (zr12 / 10)) + 1 else (-1) : Int32))) (HM X I L p)))) ∧ (¬ zr2 = 1 ∧ ¬ zr2 = 2 ∧ ¬ zr2 = 3 ∧ ¬ zr2 = 4 → Rt X (some .int) rmX6_leavesAt (some (.int (if x2 ≤ 62 then x2 else (-1) : Int32))) (HM X I L p)))))))) : G X 0 0 0 [(0, .ref 96), (1, .int x1), (2, .int x2)] [] (HM X I L p) := by
  refine g_iload_n hX 2 rfl rfl dX6_leavesAt_0 ?_
  refine g_istore_n (ls' := [(0, .ref 96), (1, .int x1), (2, .int x2), (3, .int x2)]) hX dX6_leavesAt_1 rfl (by decide) rfl ?_
  refine g_aload_n hX 0 rfl rfl dX6_leavesAt_2 ?_
  refine g_iload_n hX 1 rfl rfl dX6_leavesAt_3 ?_
  obtain ⟨zr2, zhc1, k⟩ := k
  refine g_callV (cs' := 0) (sl' := 0) (C := RX6) (as := [.int x1]) (st := []) hX zhc1 hPW sn96 so96 rfl gX6_leavesAt_X6_kindOf rfl rfl rfl ydX6_kindOf (by decide) (Nat.le_of_ble_eq_true rfl) (by decide) dX6_leavesAt_4 rfl rfl ?_
  by_cases c0 : zr2 = 1
  · replace k := k.1 c0
    refine g_tableIn (off := 29) (tgt := 36) hX dX6_leavesAt_7 (by rw [c0]; decide) (by rw [c0]; decide) (by rw [c0]; rfl) (by decide) ?_
    refine g_aload_n hX 0 rfl rfl dX6_leavesAt_36 ?_
    refine g_iload_n hX 1 rfl rfl dX6_leavesAt_37 ?_
    refine g_iload_n hX 2 rfl rfl dX6_leavesAt_38 ?_
    obtain ⟨zr4, zhc3, k⟩ := k
    refine g_callV (cs' := 0) (sl' := 0) (C := RX6) (as := [.int x1, .int x2]) (st := []) hX zhc3 hPW sn96 so96 rfl gX6_leavesAt_X6_pumped rfl rfl rfl ydX6_pumped (by decide) (Nat.le_of_ble_eq_true rfl) (by decide) dX6_leavesAt_39 rfl rfl ?_
    refine g_istore_n (ls' := [(0, .ref 96), (1, .int x1), (2, .int x2), (3, .int zr4)]) hX dX6_leavesAt_42 rfl (by decide) rfl ?_
    refine g_goto (tgt := 97) hX dX6_leavesAt_43 (by decide) ?_
    refine g_iload_n hX 3 rfl rfl dX6_leavesAt_97 ?_
    refine g_bipush (v := 62) hX dX6_leavesAt_98 (by decide) ?_
    have kJ : G X 0 0 108 [(0, .ref 96), (1, .int x1), (2, .int x2), (3, .int zr4)] [.int (if zr4 ≤ 62 then zr4 else (-1) : Int32)] (HM X I L p) := by
      exact g_ireturn hX k rfl rfl dX6_leavesAt_108
    refine g_icmp_le (tgt := 107) hX dX6_leavesAt_100 (by decide) (fun h => ?_) (fun h => ?_)
    · rw [(show (if zr4 ≤ 62 then zr4 else (-1) : Int32) = zr4 from if_pos h)] at kJ
      refine g_iload_n hX 3 rfl rfl dX6_leavesAt_107 ?_
      exact kJ
    · rw [(show (if zr4 ≤ 62 then zr4 else (-1) : Int32) = (-1) from if_neg h)] at kJ
      refine g_iconst (v := (-1)) hX dX6_leavesAt_103 (by decide) ?_
      refine g_goto (tgt := 108) hX dX6_leavesAt_104 (by decide) ?_
      exact kJ
  · replace k := k.2
    by_cases c1 : zr2 = 2
    · replace k := k.1 c1
      refine g_tableIn (off := 39) (tgt := 46) hX dX6_leavesAt_7 (by rw [c1]; decide) (by rw [c1]; decide) (by rw [c1]; rfl) (by decide) ?_
      refine g_iload_n hX 2 rfl rfl dX6_leavesAt_46 ?_
      refine g_aload_n hX 0 rfl rfl dX6_leavesAt_47 ?_
      refine g_iload_n hX 1 rfl rfl dX6_leavesAt_48 ?_
      obtain ⟨zr6, zhc5, k⟩ := k
      refine g_callV (cs' := 0) (sl' := 0) (C := RX6) (as := [.int x1]) (st := [.int x2]) hX zhc5 hPW sn96 so96 rfl gX6_leavesAt_X6_numberOf rfl rfl rfl ydX6_numberOf (by decide) (Nat.le_of_ble_eq_true rfl) (by decide) dX6_leavesAt_49 rfl rfl ?_
      refine g_iadd hX dX6_leavesAt_52 ?_
      refine g_istore_n (ls' := [(0, .ref 96), (1, .int x1), (2, .int x2), (3, .int (x2 + zr6))]) hX dX6_leavesAt_53 rfl (by decide) rfl ?_
      refine g_goto (tgt := 97) hX dX6_leavesAt_54 (by decide) ?_
      refine g_iload_n hX 3 rfl rfl dX6_leavesAt_97 ?_
      refine g_bipush (v := 62) hX dX6_leavesAt_98 (by decide) ?_
      have kJ : G X 0 0 108 [(0, .ref 96), (1, .int x1), (2, .int x2), (3, .int (x2 + zr6))] [.int (if (x2 + zr6) ≤ 62 then x2 + zr6 else (-1) : Int32)] (HM X I L p) := by
        exact g_ireturn hX k rfl rfl dX6_leavesAt_108
      refine g_icmp_le (tgt := 107) hX dX6_leavesAt_100 (by decide) (fun h => ?_) (fun h => ?_)
      · rw [(show (if (x2 + zr6) ≤ 62 then x2 + zr6 else (-1) : Int32) = (x2 + zr6) from if_pos h)] at kJ
        refine g_iload_n hX 3 rfl rfl dX6_leavesAt_107 ?_
        exact kJ
      · rw [(show (if (x2 + zr6) ≤ 62 then x2 + zr6 else (-1) : Int32) = (-1) from if_neg h)] at kJ
        refine g_iconst (v := (-1)) hX dX6_leavesAt_103 (by decide) ?_
        refine g_goto (tgt := 108) hX dX6_leavesAt_104 (by decide) ?_
        exact kJ
    · replace k := k.2
      by_cases c2 : zr2 = 3
      · replace k := k.1 c2
        refine g_tableIn (off := 50) (tgt := 57) hX dX6_leavesAt_7 (by rw [c2]; decide) (by rw [c2]; decide) (by rw [c2]; rfl) (by decide) ?_
        refine g_iload_n hX 2 rfl rfl dX6_leavesAt_57 ?_
        refine g_aload_n hX 0 rfl rfl dX6_leavesAt_58 ?_
        refine g_iload_n hX 1 rfl rfl dX6_leavesAt_59 ?_
        obtain ⟨zr8, zhc7, k⟩ := k
        refine g_callV (cs' := 0) (sl' := 0) (C := RX6) (as := [.int x1]) (st := [.int x2]) hX zhc7 hPW sn96 so96 rfl gX6_leavesAt_X6_numberOf rfl rfl rfl ydX6_numberOf (by decide) (Nat.le_of_ble_eq_true rfl) (by decide) dX6_leavesAt_60 rfl rfl ?_
        have kJ : G X 0 0 72 [(0, .ref 96), (1, .int x1), (2, .int x2), (3, .int x2)] [.int (if zr8 ≤ x2 then x2 else 63 : Int32)] (HM X I L p) := by
          refine g_istore_n (ls' := [(0, .ref 96), (1, .int x1), (2, .int x2), (3, .int (if zr8 ≤ x2 then x2 else 63 : Int32))]) hX dX6_leavesAt_72 rfl (by decide) rfl ?_
          refine g_goto (tgt := 97) hX dX6_leavesAt_73 (by decide) ?_
          refine g_iload_n hX 3 rfl rfl dX6_leavesAt_97 ?_
          refine g_bipush (v := 62) hX dX6_leavesAt_98 (by decide) ?_
          have kJ : G X 0 0 108 [(0, .ref 96), (1, .int x1), (2, .int x2), (3, .int (if zr8 ≤ x2 then x2 else 63 : Int32))] [.int (if (if zr8 ≤ x2 then x2 else 63 : Int32) ≤ 62 then (if zr8 ≤ x2 then x2 else 63 : Int32) else (-1) : Int32)] (HM X I L p) := by
            exact g_ireturn hX k rfl rfl dX6_leavesAt_108
          refine g_icmp_le (tgt := 107) hX dX6_leavesAt_100 (by decide) (fun h => ?_) (fun h => ?_)
          · rw [(show (if (if zr8 ≤ x2 then x2 else 63 : Int32) ≤ 62 then (if zr8 ≤ x2 then x2 else 63 : Int32) else (-1) : Int32) = (if zr8 ≤ x2 then x2 else 63 : Int32) from if_pos h)] at kJ
            refine g_iload_n hX 3 rfl rfl dX6_leavesAt_107 ?_
            exact kJ
          · rw [(show (if (if zr8 ≤ x2 then x2 else 63 : Int32) ≤ 62 then (if zr8 ≤ x2 then x2 else 63 : Int32) else (-1) : Int32) = (-1) from if_neg h)] at kJ
            refine g_iconst (v := (-1)) hX dX6_leavesAt_103 (by decide) ?_
            refine g_goto (tgt := 108) hX dX6_leavesAt_104 (by decide) ?_
            exact kJ
        refine g_icmp_ge (tgt := 71) hX dX6_leavesAt_63 (by decide) (fun h => ?_) (fun h => ?_)
        · rw [(show (if zr8 ≤ x2 then x2 else 63 : Int32) = x2 from if_pos h)] at kJ
          refine g_iload_n hX 2 rfl rfl dX6_leavesAt_71 ?_
          exact kJ
        · rw [(show (if zr8 ≤ x2 then x2 else 63 : Int32) = 63 from if_neg h)] at kJ
          refine g_bipush (v := 63) hX dX6_leavesAt_66 (by decide) ?_
          refine g_goto (tgt := 72) hX dX6_leavesAt_68 (by decide) ?_
          exact kJ
      · replace k := k.2
        by_cases c3 : zr2 = 4
        · replace k := k.1 c3
          refine g_tableIn (off := 69) (tgt := 76) hX dX6_leavesAt_7 (by rw [c3]; decide) (by rw [c3]; decide) (by rw [c3]; rfl) (by decide) ?_
          refine g_aload_n hX 0 rfl rfl dX6_leavesAt_76 ?_
          refine g_iload_n hX 1 rfl rfl dX6_leavesAt_77 ?_
          refine g_iload_n hX 2 rfl rfl dX6_leavesAt_78 ?_
          obtain ⟨zr10, zhc9, k⟩ := k
          refine g_callV (cs' := 0) (sl' := 0) (C := RX6) (as := [.int x1, .int x2]) (st := []) hX zhc9 hPW sn96 so96 rfl gX6_leavesAt_X6_pumped rfl rfl rfl ydX6_pumped (by decide) (Nat.le_of_ble_eq_true rfl) (by decide) dX6_leavesAt_79 rfl rfl ?_
          refine g_aload_n hX 0 rfl rfl dX6_leavesAt_82 ?_
          refine g_iload_n hX 1 rfl rfl dX6_leavesAt_83 ?_
          obtain ⟨zr12, zhc11, k⟩ := k
          refine g_callV (cs' := 0) (sl' := 0) (C := RX6) (as := [.int x1]) (st := [.int zr10]) hX zhc11 hPW sn96 so96 rfl gX6_leavesAt_X6_numberOf rfl rfl rfl ydX6_numberOf (by decide) (Nat.le_of_ble_eq_true rfl) (by decide) dX6_leavesAt_84 rfl rfl ?_
          refine g_bipush (v := 10) hX dX6_leavesAt_87 (by decide) ?_
          obtain ⟨zh13, k⟩ := k
          refine g_idiv hX dX6_leavesAt_89 zh13 ?_
          refine g_iadd hX dX6_leavesAt_90 ?_
          refine g_iconst (v := 1) hX dX6_leavesAt_91 (by decide) ?_
          refine g_iadd hX dX6_leavesAt_92 ?_
          refine g_istore_n (ls' := [(0, .ref 96), (1, .int x1), (2, .int x2), (3, .int ((zr10 + (zr12 / 10)) + 1))]) hX dX6_leavesAt_93 rfl (by decide) rfl ?_
          refine g_goto (tgt := 97) hX dX6_leavesAt_94 (by decide) ?_
          refine g_iload_n hX 3 rfl rfl dX6_leavesAt_97 ?_
          refine g_bipush (v := 62) hX dX6_leavesAt_98 (by decide) ?_
          have kJ : G X 0 0 108 [(0, .ref 96), (1, .int x1), (2, .int x2), (3, .int ((zr10 + (zr12 / 10)) + 1))] [.int (if ((zr10 + (zr12 / 10)) + 1) ≤ 62 then (zr10 + (zr12 / 10)) + 1 else (-1) : Int32)] (HM X I L p) := by
            exact g_ireturn hX k rfl rfl dX6_leavesAt_108
          refine g_icmp_le (tgt := 107) hX dX6_leavesAt_100 (by decide) (fun h => ?_) (fun h => ?_)
          · rw [(show (if ((zr10 + (zr12 / 10)) + 1) ≤ 62 then (zr10 + (zr12 / 10)) + 1 else (-1) : Int32) = ((zr10 + (zr12 / 10)) + 1) from if_pos h)] at kJ
            refine g_iload_n hX 3 rfl rfl dX6_leavesAt_107 ?_
            exact kJ
          · rw [(show (if ((zr10 + (zr12 / 10)) + 1) ≤ 62 then (zr10 + (zr12 / 10)) + 1 else (-1) : Int32) = (-1) from if_neg h)] at kJ
            refine g_iconst (v := (-1)) hX dX6_leavesAt_103 (by decide) ?_
            refine g_goto (tgt := 108) hX dX6_leavesAt_104 (by decide) ?_
            exact kJ
        · replace k := k.2
          replace k := k ⟨c0, c1, c2, c3⟩
          refine g_tableOut (tgt := 97) hX dX6_leavesAt_7 (by have ec0 := lv_neT c0 (show (1 : Int32).toInt = 1 by decide); have ec1 := lv_neT c1 (show (2 : Int32).toInt = 2 by decide); have ec2 := lv_neT c2 (show (3 : Int32).toInt = 3 by decide); have ec3 := lv_neT c3 (show (4 : Int32).toInt = 4 by decide); omega) (by decide) ?_
          refine g_iload_n hX 3 rfl rfl dX6_leavesAt_97 ?_
          refine g_bipush (v := 62) hX dX6_leavesAt_98 (by decide) ?_
          have kJ : G X 0 0 108 [(0, .ref 96), (1, .int x1), (2, .int x2), (3, .int x2)] [.int (if x2 ≤ 62 then x2 else (-1) : Int32)] (HM X I L p) := by
            exact g_ireturn hX k rfl rfl dX6_leavesAt_108
          refine g_icmp_le (tgt := 107) hX dX6_leavesAt_100 (by decide) (fun h => ?_) (fun h => ?_)
          · rw [(show (if x2 ≤ 62 then x2 else (-1) : Int32) = x2 from if_pos h)] at kJ
            refine g_iload_n hX 3 rfl rfl dX6_leavesAt_107 ?_
            exact kJ
          · rw [(show (if x2 ≤ 62 then x2 else (-1) : Int32) = (-1) from if_neg h)] at kJ
            refine g_iconst (v := (-1)) hX dX6_leavesAt_103 (by decide) ?_
            refine g_goto (tgt := 108) hX dX6_leavesAt_104 (by decide) ?_
            exact kJ
set_option maxRecDepth 4000 in
theorem RX6_hasMinute_0 {X : XT} {I : MI} {L : ML} {p : Nat → Nat}  (hX : Cx X cX6_hasMinute 3 RX6 wsX6_hasMinute rmX6_hasMinute) (x0 : Int64) (x2 : Int32) (k : Rt X (some .boolean) rmX6_hasMinute (some (.int (if (jcmp ((jlshr x0 x2) &&& 1) 1) = 0 then 1 else 0 : Int32))) (HM X I L p)) : G X 0 0 0 [(0, .long x0), (2, .int x2)] [] (HM X I L p) := by
  refine g_lload_n hX 0 rfl rfl dX6_hasMinute_0 ?_
  refine g_iload_n hX 1 rfl rfl dX6_hasMinute_1 ?_
  refine g_lshr hX dX6_hasMinute_2 ?_
  refine g_lconst (v := 1) hX dX6_hasMinute_3 (by decide) ?_
  refine g_land hX dX6_hasMinute_4 ?_
  refine g_lconst (v := 1) hX dX6_hasMinute_5 (by decide) ?_
  refine g_lcmp hX dX6_hasMinute_6 ?_
  have kJ : G X 0 0 15 [(0, .long x0), (2, .int x2)] [.int (if (jcmp ((jlshr x0 x2) &&& 1) 1) = 0 then 1 else 0 : Int32)] (HM X I L p) := by
    exact g_zreturn hX k b01 rfl rfl dX6_hasMinute_15
  refine g_if_ne (tgt := 14) hX dX6_hasMinute_7 (by decide) (fun h => ?_) (fun h => ?_)
  · rw [(show (if (jcmp ((jlshr x0 x2) &&& 1) 1) = 0 then 1 else 0 : Int32) = 0 from if_neg h)] at kJ
    refine g_iconst (v := 0) hX dX6_hasMinute_14 (by decide) ?_
    exact kJ
  · rw [(show (if (jcmp ((jlshr x0 x2) &&& 1) 1) = 0 then 1 else 0 : Int32) = 1 from if_pos h)] at kJ
    refine g_iconst (v := 1) hX dX6_hasMinute_10 (by decide) ?_
    refine g_goto (tgt := 15) hX dX6_hasMinute_11 (by decide) ?_
    exact kJ
set_option maxRecDepth 4000 in
theorem RX6_carries_0 {X : XT} {I : MI} {L : ML} {p : Nat → Nat}  (hX : Cx X cX6_carries 9 RX6 wsX6_carries rmX6_carries) (x1 : Int32) (k : (∃ (zr2 : Int32), Ct (xE X) (xl X) yX6_pipeOf wsX6_pipeOf rmX6_pipeOf [.ref 96, .int x1, .int 0] (HM X I L p) (some (.int zr2)) (HM X I L p) ∧ (∃ (zr4 : Int32), Ct (xE X) (xl X) yX6_pipeOf wsX6_pipeOf rmX6_pipeOf [.ref 96, .int x1, .int 1] (HM X I L p) (some (.int zr4)) (HM X I L p) ∧ (∃ zj6 : Nat, zr4 = nI zj6 ∧ zj6 < 10 ∧ (∃ zj9 : Nat, zr2 = nI zj9 ∧ zj9 < 10 ∧ ((¬ (jcmp (L 101 zj9) 0) = 0 → G X 0 0 38 [(0, .ref 96), (1, .int x1), (2, .int zr2), (3, .int zr4), (4, .long (L 101 zj6)), (6, .int 0)] [] (HM X I L p)) ∧ ((jcmp (L 101 zj9) 0) = 0 → Rt X (some .boolean) rmX6_carries (some (.int 0)) (HM X I L p)))))))) : G X 0 0 0 [(0, .ref 96), (1, .int x1)] [] (HM X I L p) := by
  refine g_aload_n hX 0 rfl rfl dX6_carries_0 ?_
  refine g_iload_n hX 1 rfl rfl dX6_carries_1 ?_
  refine g_iconst (v := 0) hX dX6_carries_2 (by decide) ?_
  obtain ⟨zr2, zhc1, k⟩ := k
  refine g_callV (cs' := 0) (sl' := 0) (C := RX6) (as := [.int x1, .int 0]) (st := []) hX zhc1 hPW sn96 so96 rfl gX6_carries_X6_pipeOf rfl rfl rfl ydX6_pipeOf (by decide) (Nat.le_of_ble_eq_true rfl) (by decide) dX6_carries_3 rfl rfl ?_
  refine g_istore_n (ls' := [(0, .ref 96), (1, .int x1), (2, .int zr2)]) hX dX6_carries_6 rfl (by decide) rfl ?_
  refine g_aload_n hX 0 rfl rfl dX6_carries_7 ?_
  refine g_iload_n hX 1 rfl rfl dX6_carries_8 ?_
  refine g_iconst (v := 1) hX dX6_carries_9 (by decide) ?_
  obtain ⟨zr4, zhc3, k⟩ := k
  refine g_callV (cs' := 0) (sl' := 0) (C := RX6) (as := [.int x1, .int 1]) (st := []) hX zhc3 hPW sn96 so96 rfl gX6_carries_X6_pipeOf rfl rfl rfl ydX6_pipeOf (by decide) (Nat.le_of_ble_eq_true rfl) (by decide) dX6_carries_10 rfl rfl ?_
  refine g_istore_n (ls' := [(0, .ref 96), (1, .int x1), (2, .int zr2), (3, .int zr4)]) hX dX6_carries_13 rfl (by decide) rfl ?_
  refine g_aload_n hX 0 rfl rfl dX6_carries_14 ?_
  refine g_getR (k := 5) (r' := 101) hX hPW flX6_carries_22 sn96 so96 rfl (k96_5 _) dX6_carries_15 ?_
  refine g_iload_n hX 3 rfl rfl dX6_carries_18 ?_
  obtain ⟨zj6, zh5, zh7, k⟩ := k
  refine g_lald hX hPW sn101 sh101 zh5 zh7 (by decide) dX6_carries_19 ?_
  refine g_lstore (ls' := [(0, .ref 96), (1, .int x1), (2, .int zr2), (3, .int zr4), (4, .long (L 101 zj6))]) hX dX6_carries_20 (by decide) rfl ?_
  refine g_aload_n hX 0 rfl rfl dX6_carries_22 ?_
  refine g_getR (k := 5) (r' := 101) hX hPW flX6_carries_22 sn96 so96 rfl (k96_5 _) dX6_carries_23 ?_
  refine g_iload_n hX 2 rfl rfl dX6_carries_26 ?_
  obtain ⟨zj9, zh8, zh10, k⟩ := k
  refine g_lald hX hPW sn101 sh101 zh8 zh10 (by decide) dX6_carries_27 ?_
  refine g_lconst (v := 0) hX dX6_carries_28 (by decide) ?_
  refine g_lcmp hX dX6_carries_29 ?_
  refine g_if_ne (tgt := 35) hX dX6_carries_30 (by decide) (fun h => ?_) (fun h => ?_)
  · replace k := k.1 h
    refine g_iconst (v := 0) hX dX6_carries_35 (by decide) ?_
    refine g_istore (ls' := [(0, .ref 96), (1, .int x1), (2, .int zr2), (3, .int zr4), (4, .long (L 101 zj6)), (6, .int 0)]) hX dX6_carries_36 (by decide) rfl ?_
    exact k
  · replace k := k.2 h
    refine g_iconst (v := 0) hX dX6_carries_33 (by decide) ?_
    exact g_zreturn hX k (by decide) rfl rfl dX6_carries_34
set_option maxRecDepth 4000 in
theorem RX6_carries_38 {X : XT} {I : MI} {L : ML} {p : Nat → Nat}  (hX : Cx X cX6_carries 9 RX6 wsX6_carries rmX6_carries) (x1 : Int32) (x2 : Int32) (x3 : Int32) (x4 : Int64) (x6 : Int32) (k : ((62 < x6 → (∃ zj2 : Nat, x3 = nI zj2 ∧ zj2 < 10 ∧ Rt X (some .boolean) rmX6_carries (some (.int (if (jcmp (L 101 zj2) x4) = 0 then 0 else 1 : Int32))) (HM X I L p))) ∧ (¬ 62 < x6 → (∃ zj5 : Nat, x2 = nI zj5 ∧ zj5 < 10 ∧ (∃ (zr8 : Int32), Ct (xE X) (xl X) yX6_hasMinute wsX6_hasMinute rmX6_hasMinute [.long (L 101 zj5), .int x6] (HM X I L p) (some (.int zr8)) (HM X I L p) ∧ ((zr8 = 0 → (∃ (zr10 : Int32), Ct (xE X) (xl X) yX6_pipeOf wsX6_pipeOf rmX6_pipeOf [.ref 96, .int x1, .int 2] (HM X I L p) (some (.int zr10)) (HM X I L p) ∧ G X 0 0 80 [(0, .ref 96), (1, .int x1), (2, .int x2), (3, .int x3), (4, .long x4), (6, .int x6), (7, .int (-1)), (8, .int zr10)] [] (HM X I L p))) ∧ (¬ zr8 = 0 → (∃ (zr12 : Int32), Ct (xE X) (xl X) yX6_leavesAt wsX6_leavesAt rmX6_leavesAt [.ref 96, .int x2, .int x6] (HM X I L p) (some (.int zr12)) (HM X I L p) ∧ (∃ (zr14 : Int32), Ct (xE X) (xl X) yX6_pipeOf wsX6_pipeOf rmX6_pipeOf [.ref 96, .int x1, .int 2] (HM X I L p) (some (.int zr14)) (HM X I L p) ∧ G X 0 0 80 [(0, .ref 96), (1, .int x1), (2, .int x2), (3, .int x3), (4, .long x4), (6, .int x6), (7, .int zr12), (8, .int zr14)] [] (HM X I L p)))))))))) : G X 0 0 38 [(0, .ref 96), (1, .int x1), (2, .int x2), (3, .int x3), (4, .long x4), (6, .int x6)] [] (HM X I L p) := by
  refine g_iload hX 5 rfl dX6_carries_38 ?_
  refine g_bipush (v := 62) hX dX6_carries_40 (by decide) ?_
  refine g_icmp_gt (tgt := 135) hX dX6_carries_42 (by decide) (fun h => ?_) (fun h => ?_)
  · replace k := k.1 h
    refine g_aload_n hX 0 rfl rfl dX6_carries_135 ?_
    refine g_getR (k := 5) (r' := 101) hX hPW flX6_carries_22 sn96 so96 rfl (k96_5 _) dX6_carries_136 ?_
    refine g_iload_n hX 3 rfl rfl dX6_carries_139 ?_
    obtain ⟨zj2, zh1, zh3, k⟩ := k
    refine g_lald hX hPW sn101 sh101 zh1 zh3 (by decide) dX6_carries_140 ?_
    refine g_lload hX 4 rfl dX6_carries_141 ?_
    refine g_lcmp hX dX6_carries_143 ?_
    have kJ : G X 0 0 152 [(0, .ref 96), (1, .int x1), (2, .int x2), (3, .int x3), (4, .long x4), (6, .int x6)] [.int (if (jcmp (L 101 zj2) x4) = 0 then 0 else 1 : Int32)] (HM X I L p) := by
      exact g_zreturn hX k b10 rfl rfl dX6_carries_152
    refine g_if_eq (tgt := 151) hX dX6_carries_144 (by decide) (fun h => ?_) (fun h => ?_)
    · rw [(show (if (jcmp (L 101 zj2) x4) = 0 then 0 else 1 : Int32) = 0 from if_pos h)] at kJ
      refine g_iconst (v := 0) hX dX6_carries_151 (by decide) ?_
      exact kJ
    · rw [(show (if (jcmp (L 101 zj2) x4) = 0 then 0 else 1 : Int32) = 1 from if_neg h)] at kJ
      refine g_iconst (v := 1) hX dX6_carries_147 (by decide) ?_
      refine g_goto (tgt := 152) hX dX6_carries_148 (by decide) ?_
      exact kJ
  · replace k := k.2 h
    refine g_aload_n hX 0 rfl rfl dX6_carries_45 ?_
    refine g_getR (k := 5) (r' := 101) hX hPW flX6_carries_22 sn96 so96 rfl (k96_5 _) dX6_carries_46 ?_
    refine g_iload_n hX 2 rfl rfl dX6_carries_49 ?_
    obtain ⟨zj5, zh4, zh6, k⟩ := k
    refine g_lald hX hPW sn101 sh101 zh4 zh6 (by decide) dX6_carries_50 ?_
    refine g_iload hX 5 rfl dX6_carries_51 ?_
    obtain ⟨zr8, zhc7, k⟩ := k
    refine g_callS (cs' := 0) (sl' := 0) (as := [.long (L 101 zj5), .int x6]) (st := []) hX zhc7 gX6_carries_X6_hasMinute rfl rfl ydX6_hasMinute (by decide) (Nat.le_of_ble_eq_true rfl) (by decide) dX6_carries_53 rfl rfl ?_
    refine g_if_eq (tgt := 69) hX dX6_carries_56 (by decide) (fun h => ?_) (fun h => ?_)
    · replace k := k.1 h
      refine g_iconst (v := (-1)) hX dX6_carries_69 (by decide) ?_
      refine g_istore (ls' := [(0, .ref 96), (1, .int x1), (2, .int x2), (3, .int x3), (4, .long x4), (6, .int x6), (7, .int (-1))]) hX dX6_carries_70 (by decide) rfl ?_
      refine g_aload_n hX 0 rfl rfl dX6_carries_72 ?_
      refine g_iload_n hX 1 rfl rfl dX6_carries_73 ?_
      refine g_iconst (v := 2) hX dX6_carries_74 (by decide) ?_
      obtain ⟨zr10, zhc9, k⟩ := k
      refine g_callV (cs' := 0) (sl' := 0) (C := RX6) (as := [.int x1, .int 2]) (st := []) hX zhc9 hPW sn96 so96 rfl gX6_carries_X6_pipeOf rfl rfl rfl ydX6_pipeOf (by decide) (Nat.le_of_ble_eq_true rfl) (by decide) dX6_carries_75 rfl rfl ?_
      refine g_istore (ls' := [(0, .ref 96), (1, .int x1), (2, .int x2), (3, .int x3), (4, .long x4), (6, .int x6), (7, .int (-1)), (8, .int zr10)]) hX dX6_carries_78 (by decide) rfl ?_
      exact k
    · replace k := k.2 h
      refine g_aload_n hX 0 rfl rfl dX6_carries_59 ?_
      refine g_iload_n hX 2 rfl rfl dX6_carries_60 ?_
      refine g_iload hX 5 rfl dX6_carries_61 ?_
      obtain ⟨zr12, zhc11, k⟩ := k
      refine g_callV (cs' := 0) (sl' := 0) (C := RX6) (as := [.int x2, .int x6]) (st := []) hX zhc11 hPW sn96 so96 rfl gX6_carries_X6_leavesAt rfl rfl rfl ydX6_leavesAt (by decide) (Nat.le_of_ble_eq_true rfl) (by decide) dX6_carries_63 rfl rfl ?_
      refine g_goto (tgt := 70) hX dX6_carries_66 (by decide) ?_
      refine g_istore (ls' := [(0, .ref 96), (1, .int x1), (2, .int x2), (3, .int x3), (4, .long x4), (6, .int x6), (7, .int zr12)]) hX dX6_carries_70 (by decide) rfl ?_
      refine g_aload_n hX 0 rfl rfl dX6_carries_72 ?_
      refine g_iload_n hX 1 rfl rfl dX6_carries_73 ?_
      refine g_iconst (v := 2) hX dX6_carries_74 (by decide) ?_
      obtain ⟨zr14, zhc13, k⟩ := k
      refine g_callV (cs' := 0) (sl' := 0) (C := RX6) (as := [.int x1, .int 2]) (st := []) hX zhc13 hPW sn96 so96 rfl gX6_carries_X6_pipeOf rfl rfl rfl ydX6_pipeOf (by decide) (Nat.le_of_ble_eq_true rfl) (by decide) dX6_carries_75 rfl rfl ?_
      refine g_istore (ls' := [(0, .ref 96), (1, .int x1), (2, .int x2), (3, .int x3), (4, .long x4), (6, .int x6), (7, .int zr12), (8, .int zr14)]) hX dX6_carries_78 (by decide) rfl ?_
      exact k
set_option maxRecDepth 4000 in
theorem RX6_carries_80 {X : XT} {I : MI} {L : ML} {p : Nat → Nat}  (hX : Cx X cX6_carries 9 RX6 wsX6_carries rmX6_carries) (x1 : Int32) (x2 : Int32) (x3 : Int32) (x4 : Int64) (x6 : Int32) (x7 : Int32) (x8 : Int32) (k : (∃ (zr2 : Int32), Ct (xE X) (xl X) yX6_pipeOf wsX6_pipeOf rmX6_pipeOf [.ref 96, .int x1, .int 3] (HM X I L p) (some (.int zr2)) (HM X I L p) ∧ ((zr2 < x8 → G X 0 0 38 [(0, .ref 96), (1, .int x1), (2, .int x2), (3, .int x3), (4, .long x4), (6, .int (x6 + 1))] [] (HM X I L p)) ∧ (¬ zr2 < x8 → ((x7 = (-1) → G X 0 0 38 [(0, .ref 96), (1, .int x1), (2, .int x2), (3, .int x3), (4, .long x4), (6, .int (x6 + 1))] [] (HM X I L p)) ∧ (¬ x7 = (-1) → ((62 < (x7 + x8) → G X 0 0 38 [(0, .ref 96), (1, .int x1), (2, .int x2), (3, .int x3), (4, .long x4), (6, .int (x6 + 1))] [] (HM X I L p)) ∧ (¬ 62 < (x7 + x8) → (∃ zj4 : Nat, x3 = nI zj4 ∧ zj4 < 10 ∧ (∃ zj7 : Nat, x3 = nI zj7 ∧ zj7 < 10 ∧ G X 0 0 80 [(0, .ref 96), (1, .int x1), (2, .int x2), (3, .int x3), (4, .long x4), (6, .int x6), (7, .int x7), (8, .int (x8 + 1))] [] (HM X I (upL L 101 zj7 ((L 101 zj4) ||| (jlshl 1 (x7 + x8)))) p))))))))))) : G X 0 0 80 [(0, .ref 96), (1, .int x1), (2, .int x2), (3, .int x3), (4, .long x4), (6, .int x6), (7, .int x7), (8, .int x8)] [] (HM X I L p) := by
  refine g_iload hX 7 rfl dX6_carries_80 ?_
  refine g_aload_n hX 0 rfl rfl dX6_carries_82 ?_
  refine g_iload_n hX 1 rfl rfl dX6_carries_83 ?_
  refine g_iconst (v := 3) hX dX6_carries_84 (by decide) ?_
  obtain ⟨zr2, zhc1, k⟩ := k
  refine g_callV (cs' := 0) (sl' := 0) (C := RX6) (as := [.int x1, .int 3]) (st := [.int x8]) hX zhc1 hPW sn96 so96 rfl gX6_carries_X6_pipeOf rfl rfl rfl ydX6_pipeOf (by decide) (Nat.le_of_ble_eq_true rfl) (by decide) dX6_carries_85 rfl rfl ?_
  refine g_icmp_gt (tgt := 129) hX dX6_carries_88 (by decide) (fun h => ?_) (fun h => ?_)
  · replace k := k.1 h
    refine g_iinc (v := x6 + 1) (ls' := [(0, .ref 96), (1, .int x1), (2, .int x2), (3, .int x3), (4, .long x4), (6, .int (x6 + 1)), (7, .int x7), (8, .int x8)]) hX 5 rfl dX6_carries_129 rfl (by decide) rfl ?_
    refine g_goto (tgt := 38) hX dX6_carries_132 (by decide) ?_
    refine G.pick (ks := [0, 1, 2, 3, 4, 5]) (ls' := [(0, .ref 96), (1, .int x1), (2, .int x2), (3, .int x3), (4, .long x4), (6, .int (x6 + 1))]) rfl ?_
    exact k
  · replace k := k.2 h
    refine g_iload hX 6 rfl dX6_carries_91 ?_
    refine g_iconst (v := (-1)) hX dX6_carries_93 (by decide) ?_
    refine g_icmp_eq (tgt := 129) hX dX6_carries_94 (by decide) (fun h => ?_) (fun h => ?_)
    · replace k := k.1 h
      refine g_iinc (v := x6 + 1) (ls' := [(0, .ref 96), (1, .int x1), (2, .int x2), (3, .int x3), (4, .long x4), (6, .int (x6 + 1)), (7, .int x7), (8, .int x8)]) hX 5 rfl dX6_carries_129 rfl (by decide) rfl ?_
      refine g_goto (tgt := 38) hX dX6_carries_132 (by decide) ?_
      refine G.pick (ks := [0, 1, 2, 3, 4, 5]) (ls' := [(0, .ref 96), (1, .int x1), (2, .int x2), (3, .int x3), (4, .long x4), (6, .int (x6 + 1))]) rfl ?_
      exact k
    · replace k := k.2 h
      refine g_iload hX 6 rfl dX6_carries_97 ?_
      refine g_iload hX 7 rfl dX6_carries_99 ?_
      refine g_iadd hX dX6_carries_101 ?_
      refine g_bipush (v := 62) hX dX6_carries_102 (by decide) ?_
      refine g_icmp_gt (tgt := 129) hX dX6_carries_104 (by decide) (fun h => ?_) (fun h => ?_)
      · replace k := k.1 h
        refine g_iinc (v := x6 + 1) (ls' := [(0, .ref 96), (1, .int x1), (2, .int x2), (3, .int x3), (4, .long x4), (6, .int (x6 + 1)), (7, .int x7), (8, .int x8)]) hX 5 rfl dX6_carries_129 rfl (by decide) rfl ?_
        refine g_goto (tgt := 38) hX dX6_carries_132 (by decide) ?_
        refine G.pick (ks := [0, 1, 2, 3, 4, 5]) (ls' := [(0, .ref 96), (1, .int x1), (2, .int x2), (3, .int x3), (4, .long x4), (6, .int (x6 + 1))]) rfl ?_
        exact k
      · replace k := k.2 h
        refine g_aload_n hX 0 rfl rfl dX6_carries_107 ?_
        refine g_getR (k := 5) (r' := 101) hX hPW flX6_carries_22 sn96 so96 rfl (k96_5 _) dX6_carries_108 ?_
        refine g_iload_n hX 3 rfl rfl dX6_carries_111 ?_
        refine g_dup2 hX dX6_carries_112 rfl rfl ?_
        obtain ⟨zj4, zh3, zh5, k⟩ := k
        refine g_lald hX hPW sn101 sh101 zh3 zh5 (by decide) dX6_carries_113 ?_
        refine g_lconst (v := 1) hX dX6_carries_114 (by decide) ?_
        refine g_iload hX 6 rfl dX6_carries_115 ?_
        refine g_iload hX 7 rfl dX6_carries_117 ?_
        refine g_iadd hX dX6_carries_119 ?_
        refine g_lshl hX dX6_carries_120 ?_
        refine g_lor hX dX6_carries_121 ?_
        obtain ⟨zj7, zh6, zh8, k⟩ := k
        refine g_last hX sn101 sh101 zh6 zh8 (by decide) dX6_carries_122 ?_
        refine g_iinc (v := x8 + 1) (ls' := [(0, .ref 96), (1, .int x1), (2, .int x2), (3, .int x3), (4, .long x4), (6, .int x6), (7, .int x7), (8, .int (x8 + 1))]) hX 7 rfl dX6_carries_123 rfl (by decide) rfl ?_
        refine g_goto (tgt := 80) hX dX6_carries_126 (by decide) ?_
        exact k
set_option maxRecDepth 4000 in
theorem RX6_start_0 {X : XT} {I : MI} {L : ML} {p : Nat → Nat}  (hX : Cx X cX6_start 5 RX6 wsX6_start rmX6_start) (x1 : Int32) (x2 : Int32) (k : G X 0 0 2 [(0, .ref 96), (1, .int x1), (2, .int x2), (3, .int 0)] [] (HM X I L p)) : G X 0 0 0 [(0, .ref 96), (1, .int x1), (2, .int x2)] [] (HM X I L p) := by
  refine g_iconst (v := 0) hX dX6_start_0 (by decide) ?_
  refine g_istore_n (ls' := [(0, .ref 96), (1, .int x1), (2, .int x2), (3, .int 0)]) hX dX6_start_1 rfl (by decide) rfl ?_
  exact k
set_option maxRecDepth 4000 in
theorem RX6_start_2 {X : XT} {I : MI} {L : ML} {p : Nat → Nat}  (hX : Cx X cX6_start 5 RX6 wsX6_start rmX6_start) (x1 : Int32) (x2 : Int32) (x3 : Int32) (k : ((10 ≤ x3 → G X 0 0 34 [(0, .ref 96), (1, .int x1), (2, .int x2), (3, .int 1)] [] (HM X I L p)) ∧ (¬ 10 ≤ x3 → (∃ zj2 : Nat, x3 = nI zj2 ∧ zj2 < 10 ∧ G X 0 0 2 [(0, .ref 96), (1, .int x1), (2, .int x2), (3, .int (x3 + 1))] [] (HM X I (upL L 101 zj2 (if x3 = x1 then jlshl 1 x2 else 0 : Int64)) p))))) : G X 0 0 2 [(0, .ref 96), (1, .int x1), (2, .int x2), (3, .int x3)] [] (HM X I L p) := by
  refine g_iload_n hX 3 rfl rfl dX6_start_2 ?_
  refine g_bipush (v := 10) hX dX6_start_3 (by decide) ?_
  refine g_icmp_ge (tgt := 32) hX dX6_start_5 (by decide) (fun h => ?_) (fun h => ?_)
  · replace k := k.1 h
    refine g_iconst (v := 1) hX dX6_start_32 (by decide) ?_
    refine g_istore_n (ls' := [(0, .ref 96), (1, .int x1), (2, .int x2), (3, .int 1)]) hX dX6_start_33 rfl (by decide) rfl ?_
    exact k
  · replace k := k.2 h
    refine g_aload_n hX 0 rfl rfl dX6_start_8 ?_
    refine g_getR (k := 5) (r' := 101) hX hPW flX6_start_22 sn96 so96 rfl (k96_5 _) dX6_start_9 ?_
    refine g_iload_n hX 3 rfl rfl dX6_start_12 ?_
    refine g_iload_n hX 3 rfl rfl dX6_start_13 ?_
    refine g_iload_n hX 1 rfl rfl dX6_start_14 ?_
    have kJ : G X 0 0 25 [(0, .ref 96), (1, .int x1), (2, .int x2), (3, .int x3)] [.long (if x3 = x1 then jlshl 1 x2 else 0 : Int64), .int x3, .ref 101] (HM X I L p) := by
      obtain ⟨zj2, zh1, zh3, k⟩ := k
      refine g_last hX sn101 sh101 zh1 zh3 (by decide) dX6_start_25 ?_
      refine g_iinc (v := x3 + 1) (ls' := [(0, .ref 96), (1, .int x1), (2, .int x2), (3, .int (x3 + 1))]) hX 3 rfl dX6_start_26 rfl (by decide) rfl ?_
      refine g_goto (tgt := 2) hX dX6_start_29 (by decide) ?_
      exact k
    refine g_icmp_ne (tgt := 24) hX dX6_start_15 (by decide) (fun h => ?_) (fun h => ?_)
    · rw [(show (if x3 = x1 then jlshl 1 x2 else 0 : Int64) = 0 from if_neg h)] at kJ
      refine g_lconst (v := 0) hX dX6_start_24 (by decide) ?_
      exact kJ
    · rw [(show (if x3 = x1 then jlshl 1 x2 else 0 : Int64) = (jlshl 1 x2) from if_pos h)] at kJ
      refine g_lconst (v := 1) hX dX6_start_18 (by decide) ?_
      refine g_iload_n hX 2 rfl rfl dX6_start_19 ?_
      refine g_lshl hX dX6_start_20 ?_
      refine g_goto (tgt := 25) hX dX6_start_21 (by decide) ?_
      exact kJ
set_option maxRecDepth 4000 in
theorem RX6_start_34 {X : XT} {I : MI} {L : ML} {p : Nat → Nat}  (hX : Cx X cX6_start 5 RX6 wsX6_start rmX6_start) (x1 : Int32) (x2 : Int32) (x3 : Int32) (k : ((x3 = 0 → Rt X none rmX6_start none (HM X I L p)) ∧ (¬ x3 = 0 → G X 0 0 43 [(0, .ref 96), (1, .int x1), (2, .int x2), (3, .int 0), (4, .int 0)] [] (HM X I L p)))) : G X 0 0 34 [(0, .ref 96), (1, .int x1), (2, .int x2), (3, .int x3)] [] (HM X I L p) := by
  refine g_iload_n hX 3 rfl rfl dX6_start_34 ?_
  refine g_if_eq (tgt := 82) hX dX6_start_35 (by decide) (fun h => ?_) (fun h => ?_)
  · replace k := k.1 h
    exact g_return hX k rfl rfl dX6_start_82
  · replace k := k.2 h
    refine g_iconst (v := 0) hX dX6_start_38 (by decide) ?_
    refine g_istore_n (ls' := [(0, .ref 96), (1, .int x1), (2, .int x2), (3, .int 0)]) hX dX6_start_39 rfl (by decide) rfl ?_
    refine g_iconst (v := 0) hX dX6_start_40 (by decide) ?_
    refine g_istore (ls' := [(0, .ref 96), (1, .int x1), (2, .int x2), (3, .int 0), (4, .int 0)]) hX dX6_start_41 (by decide) rfl ?_
    exact k
set_option maxRecDepth 4000 in
theorem RX6_start_43 {X : XT} {I : MI} {L : ML} {p : Nat → Nat}  (hX : Cx X cX6_start 5 RX6 wsX6_start rmX6_start) (x1 : Int32) (x2 : Int32) (x3 : Int32) (x4 : Int32) (k : (((I 97 1) ≤ x4 → G X 0 0 34 [(0, .ref 96), (1, .int x1), (2, .int x2), (3, .int x3)] [] (HM X I L p)) ∧ (¬ (I 97 1) ≤ x4 → (∃ (zr3 : Int32) (zL4 : ML), Ct (xE X) (xl X) yX6_carries wsX6_carries rmX6_carries [.ref 96, .int x4] (HM X I L p) (some (.int zr3)) (HM X I zL4 p) ∧ ((¬ zr3 = 0 → G X 0 0 43 [(0, .ref 96), (1, .int x1), (2, .int x2), (3, .int 1), (4, .int (x4 + 1))] [] (HM X I zL4 p)) ∧ (zr3 = 0 → G X 0 0 43 [(0, .ref 96), (1, .int x1), (2, .int x2), (3, .int (if x3 = 0 then 0 else 1 : Int32)), (4, .int (x4 + 1))] [] (HM X I zL4 p))))))) : G X 0 0 43 [(0, .ref 96), (1, .int x1), (2, .int x2), (3, .int x3), (4, .int x4)] [] (HM X I L p) := by
  refine g_iload hX 4 rfl dX6_start_43 ?_
  refine g_aload_n hX 0 rfl rfl dX6_start_45 ?_
  refine g_getR (k := 0) (r' := 97) hX hPW flX6_start_7 sn96 so96 rfl (k96_0 _) dX6_start_46 ?_
  refine g_iconst (v := 1) hX dX6_start_49 (by decide) ?_
  refine g_iald (j := 1) hX hPW sn97 sh97 rfl (by decide) (by decide) dX6_start_50 ?_
  refine g_icmp_ge (tgt := 79) hX dX6_start_51 (by decide) (fun h => ?_) (fun h => ?_)
  · replace k := k.1 h
    refine g_goto (tgt := 34) hX dX6_start_79 (by decide) ?_
    refine G.pick (ks := [0, 1, 2, 3]) (ls' := [(0, .ref 96), (1, .int x1), (2, .int x2), (3, .int x3)]) rfl ?_
    exact k
  · replace k := k.2 h
    refine g_aload_n hX 0 rfl rfl dX6_start_54 ?_
    refine g_iload hX 4 rfl dX6_start_55 ?_
    obtain ⟨zr3, zL4, zhc2, k⟩ := k
    refine g_callV (cs' := 0) (sl' := 0) (C := RX6) (as := [.int x4]) (st := []) hX zhc2 hPW sn96 so96 rfl gX6_start_X6_carries rfl rfl rfl ydX6_carries (by decide) (Nat.le_of_ble_eq_true rfl) (by decide) dX6_start_57 rfl rfl ?_
    refine g_if_ne (tgt := 67) hX dX6_start_60 (by decide) (fun h => ?_) (fun h => ?_)
    · replace k := k.1 h
      refine g_iconst (v := 1) hX dX6_start_67 (by decide) ?_
      refine g_goto (tgt := 72) hX dX6_start_68 (by decide) ?_
      refine g_istore_n (ls' := [(0, .ref 96), (1, .int x1), (2, .int x2), (3, .int 1), (4, .int x4)]) hX dX6_start_72 rfl (by decide) rfl ?_
      refine g_iinc (v := x4 + 1) (ls' := [(0, .ref 96), (1, .int x1), (2, .int x2), (3, .int 1), (4, .int (x4 + 1))]) hX 4 rfl dX6_start_73 rfl (by decide) rfl ?_
      refine g_goto (tgt := 43) hX dX6_start_76 (by decide) ?_
      exact k
    · replace k := k.2 h
      refine g_iload_n hX 3 rfl rfl dX6_start_63 ?_
      have kJ : G X 0 0 72 [(0, .ref 96), (1, .int x1), (2, .int x2), (3, .int x3), (4, .int x4)] [.int (if x3 = 0 then 0 else 1 : Int32)] (HM X I zL4 p) := by
        refine g_istore_n (ls' := [(0, .ref 96), (1, .int x1), (2, .int x2), (3, .int (if x3 = 0 then 0 else 1 : Int32)), (4, .int x4)]) hX dX6_start_72 rfl (by decide) rfl ?_
        refine g_iinc (v := x4 + 1) (ls' := [(0, .ref 96), (1, .int x1), (2, .int x2), (3, .int (if x3 = 0 then 0 else 1 : Int32)), (4, .int (x4 + 1))]) hX 4 rfl dX6_start_73 rfl (by decide) rfl ?_
        refine g_goto (tgt := 43) hX dX6_start_76 (by decide) ?_
        exact k
      refine g_if_eq (tgt := 71) hX dX6_start_64 (by decide) (fun h => ?_) (fun h => ?_)
      · rw [(show (if x3 = 0 then 0 else 1 : Int32) = 0 from if_pos h)] at kJ
        refine g_iconst (v := 0) hX dX6_start_71 (by decide) ?_
        exact kJ
      · rw [(show (if x3 = 0 then 0 else 1 : Int32) = 1 from if_neg h)] at kJ
        refine g_iconst (v := 1) hX dX6_start_67 (by decide) ?_
        refine g_goto (tgt := 72) hX dX6_start_68 (by decide) ?_
        exact kJ
set_option maxRecDepth 4000 in
theorem RX6_isStart_0 {X : XT} {I : MI} {L : ML} {p : Nat → Nat}  (hX : Cx X cX6_isStart 3 RX6 wsX6_isStart rmX6_isStart) (x1 : Int32) (x2 : Int32) (k : (∃ (zr2 : Int32), Ct (xE X) (xl X) yX6_isShaft wsX6_isShaft rmX6_isShaft [.ref 96, .int x1] (HM X I L p) (some (.int zr2)) (HM X I L p) ∧ ((zr2 = 0 → Rt X (some .boolean) rmX6_isStart (some (.int 0)) (HM X I L p)) ∧ (¬ zr2 = 0 → (∃ (zr4 : Int32), Ct (xE X) (xl X) yX6_in wsX6_in rmX6_in [.int x2, .int 0, .int 30] (HM X I L p) (some (.int zr4)) (HM X I L p) ∧ Rt X (some .boolean) rmX6_isStart (some (.int (if zr4 = 0 then 0 else 1 : Int32))) (HM X I L p)))))) : G X 0 0 0 [(0, .ref 96), (1, .int x1), (2, .int x2)] [] (HM X I L p) := by
  refine g_aload_n hX 0 rfl rfl dX6_isStart_0 ?_
  refine g_iload_n hX 1 rfl rfl dX6_isStart_1 ?_
  obtain ⟨zr2, zhc1, k⟩ := k
  refine g_callV (cs' := 0) (sl' := 0) (C := RX6) (as := [.int x1]) (st := []) hX zhc1 hPW sn96 so96 rfl gX6_isStart_X6_isShaft rfl rfl rfl ydX6_isShaft (by decide) (Nat.le_of_ble_eq_true rfl) (by decide) dX6_isStart_2 rfl rfl ?_
  refine g_if_eq (tgt := 22) hX dX6_isStart_5 (by decide) (fun h => ?_) (fun h => ?_)
  · replace k := k.1 h
    refine g_iconst (v := 0) hX dX6_isStart_22 (by decide) ?_
    exact g_zreturn hX k (by decide) rfl rfl dX6_isStart_23
  · replace k := k.2 h
    refine g_iload_n hX 2 rfl rfl dX6_isStart_8 ?_
    refine g_iconst (v := 0) hX dX6_isStart_9 (by decide) ?_
    refine g_bipush (v := 30) hX dX6_isStart_10 (by decide) ?_
    obtain ⟨zr4, zhc3, k⟩ := k
    refine g_callS (cs' := 0) (sl' := 0) (as := [.int x2, .int 0, .int 30]) (st := []) hX zhc3 gX6_isStart_X6_in rfl rfl ydX6_in (by decide) (Nat.le_of_ble_eq_true rfl) (by decide) dX6_isStart_12 rfl rfl ?_
    have kJ : G X 0 0 23 [(0, .ref 96), (1, .int x1), (2, .int x2)] [.int (if zr4 = 0 then 0 else 1 : Int32)] (HM X I L p) := by
      exact g_zreturn hX k b10 rfl rfl dX6_isStart_23
    refine g_if_eq (tgt := 22) hX dX6_isStart_15 (by decide) (fun h => ?_) (fun h => ?_)
    · rw [(show (if zr4 = 0 then 0 else 1 : Int32) = 0 from if_pos h)] at kJ
      refine g_iconst (v := 0) hX dX6_isStart_22 (by decide) ?_
      exact kJ
    · rw [(show (if zr4 = 0 then 0 else 1 : Int32) = 1 from if_neg h)] at kJ
      refine g_iconst (v := 1) hX dX6_isStart_18 (by decide) ?_
      refine g_goto (tgt := 23) hX dX6_isStart_19 (by decide) ?_
      exact kJ
set_option maxRecDepth 4000 in
theorem RX6_comesOf_0 {X : XT} {I : MI} {L : ML} {p : Nat → Nat}  (hX : Cx X cX6_comesOf 4 RX6 wsX6_comesOf rmX6_comesOf) (x1 : Int32) (x2 : Int32) (x3 : Int32) (k : (∃ (zL2 : ML), Ct (xE X) (xl X) yX6_start wsX6_start rmX6_start [.ref 96, .int x1, .int x2] (HM X I L p) none (HM X I zL2 p) ∧ (∃ zj4 : Nat, x3 = nI zj4 ∧ zj4 < 10 ∧ Rt X (some .long) rmX6_comesOf (some (.long (zL2 101 zj4))) (HM X I zL2 p)))) : G X 0 0 0 [(0, .ref 96), (1, .int x1), (2, .int x2), (3, .int x3)] [] (HM X I L p) := by
  refine g_aload_n hX 0 rfl rfl dX6_comesOf_0 ?_
  refine g_iload_n hX 1 rfl rfl dX6_comesOf_1 ?_
  refine g_iload_n hX 2 rfl rfl dX6_comesOf_2 ?_
  obtain ⟨zL2, zhc1, k⟩ := k
  refine g_callV (cs' := 0) (sl' := 0) (C := RX6) (as := [.int x1, .int x2]) (st := []) hX zhc1 hPW sn96 so96 rfl gX6_comesOf_X6_start rfl rfl rfl ydX6_start (by decide) (Nat.le_of_ble_eq_true rfl) (by decide) dX6_comesOf_3 rfl rfl ?_
  refine g_aload_n hX 0 rfl rfl dX6_comesOf_6 ?_
  refine g_getR (k := 5) (r' := 101) hX hPW flX6_comesOf_22 sn96 so96 rfl (k96_5 _) dX6_comesOf_7 ?_
  refine g_iload_n hX 3 rfl rfl dX6_comesOf_10 ?_
  obtain ⟨zj4, zh3, zh5, k⟩ := k
  refine g_lald hX hPW sn101 sh101 zh3 zh5 (by decide) dX6_comesOf_11 ?_
  exact g_lreturn hX k rfl rfl dX6_comesOf_12
set_option maxRecDepth 4000 in
theorem RX6_comes_0 {X : XT} {I : MI} {L : ML} {p : Nat → Nat}  (hX : Cx X cX6_comes 4 RX6 wsX6_comes rmX6_comes) (x1 : Int32) (x2 : Int32) (x3 : Int32) (k : (∃ (zr2 : Int32), Ct (xE X) (xl X) yX6_isStart wsX6_isStart rmX6_isStart [.ref 96, .int x1, .int x2] (HM X I L p) (some (.int zr2)) (HM X I L p) ∧ ((zr2 = 0 → (∃ (zr4 : Int32) (zI5 : MI), Ct (xE X) (xl X) yX6_refuses wsX6_refuses rmX6_refuses [.ref 96, .int (-2)] (HM X I L p) (some (.int zr4)) (HM X zI5 L p) ∧ Rt X (some .long) rmX6_comes (some (.long zr4.toInt64)) (HM X zI5 L p))) ∧ (¬ zr2 = 0 → (∃ (zr7 : Int32), Ct (xE X) (xl X) yX6_isShaft wsX6_isShaft rmX6_isShaft [.ref 96, .int x3] (HM X I L p) (some (.int zr7)) (HM X I L p) ∧ ((zr7 = 0 → (∃ (zr9 : Int32) (zI10 : MI), Ct (xE X) (xl X) yX6_refuses wsX6_refuses rmX6_refuses [.ref 96, .int (-2)] (HM X I L p) (some (.int zr9)) (HM X zI10 L p) ∧ Rt X (some .long) rmX6_comes (some (.long zr9.toInt64)) (HM X zI10 L p))) ∧ (¬ zr7 = 0 → (∃ (zr12 : Int64) (zL13 : ML), Ct (xE X) (xl X) yX6_comesOf wsX6_comesOf rmX6_comesOf [.ref 96, .int x1, .int x2, .int x3] (HM X I L p) (some (.long zr12)) (HM X I zL13 p) ∧ Rt X (some .long) rmX6_comes (some (.long zr12)) (HM X I zL13 p))))))))) : G X 0 0 0 [(0, .ref 96), (1, .int x1), (2, .int x2), (3, .int x3)] [] (HM X I L p) := by
  refine g_aload_n hX 0 rfl rfl dX6_comes_0 ?_
  refine g_iload_n hX 1 rfl rfl dX6_comes_1 ?_
  refine g_iload_n hX 2 rfl rfl dX6_comes_2 ?_
  obtain ⟨zr2, zhc1, k⟩ := k
  refine g_callV (cs' := 0) (sl' := 0) (C := RX6) (as := [.int x1, .int x2]) (st := []) hX zhc1 hPW sn96 so96 rfl gX6_comes_X6_isStart rfl rfl rfl ydX6_isStart (by decide) (Nat.le_of_ble_eq_true rfl) (by decide) dX6_comes_3 rfl rfl ?_
  refine g_if_eq (tgt := 27) hX dX6_comes_6 (by decide) (fun h => ?_) (fun h => ?_)
  · replace k := k.1 h
    refine g_aload_n hX 0 rfl rfl dX6_comes_27 ?_
    refine g_bipush (v := (-2)) hX dX6_comes_28 (by decide) ?_
    obtain ⟨zr4, zI5, zhc3, k⟩ := k
    refine g_callV (cs' := 0) (sl' := 0) (C := RX6) (as := [.int (-2)]) (st := []) hX zhc3 hPW sn96 so96 rfl gX6_comes_X6_refuses rfl rfl rfl ydX6_refuses (by decide) (Nat.le_of_ble_eq_true rfl) (by decide) dX6_comes_30 rfl rfl ?_
    refine g_i2l hX dX6_comes_33 ?_
    exact g_lreturn hX k rfl rfl dX6_comes_34
  · replace k := k.2 h
    refine g_aload_n hX 0 rfl rfl dX6_comes_9 ?_
    refine g_iload_n hX 3 rfl rfl dX6_comes_10 ?_
    obtain ⟨zr7, zhc6, k⟩ := k
    refine g_callV (cs' := 0) (sl' := 0) (C := RX6) (as := [.int x3]) (st := []) hX zhc6 hPW sn96 so96 rfl gX6_comes_X6_isShaft rfl rfl rfl ydX6_isShaft (by decide) (Nat.le_of_ble_eq_true rfl) (by decide) dX6_comes_11 rfl rfl ?_
    refine g_if_eq (tgt := 27) hX dX6_comes_14 (by decide) (fun h => ?_) (fun h => ?_)
    · replace k := k.1 h
      refine g_aload_n hX 0 rfl rfl dX6_comes_27 ?_
      refine g_bipush (v := (-2)) hX dX6_comes_28 (by decide) ?_
      obtain ⟨zr9, zI10, zhc8, k⟩ := k
      refine g_callV (cs' := 0) (sl' := 0) (C := RX6) (as := [.int (-2)]) (st := []) hX zhc8 hPW sn96 so96 rfl gX6_comes_X6_refuses rfl rfl rfl ydX6_refuses (by decide) (Nat.le_of_ble_eq_true rfl) (by decide) dX6_comes_30 rfl rfl ?_
      refine g_i2l hX dX6_comes_33 ?_
      exact g_lreturn hX k rfl rfl dX6_comes_34
    · replace k := k.2 h
      refine g_aload_n hX 0 rfl rfl dX6_comes_17 ?_
      refine g_iload_n hX 1 rfl rfl dX6_comes_18 ?_
      refine g_iload_n hX 2 rfl rfl dX6_comes_19 ?_
      refine g_iload_n hX 3 rfl rfl dX6_comes_20 ?_
      obtain ⟨zr12, zL13, zhc11, k⟩ := k
      refine g_callV (cs' := 0) (sl' := 0) (C := RX6) (as := [.int x1, .int x2, .int x3]) (st := []) hX zhc11 hPW sn96 so96 rfl gX6_comes_X6_comesOf rfl rfl rfl ydX6_comesOf (by decide) (Nat.le_of_ble_eq_true rfl) (by decide) dX6_comes_21 rfl rfl ?_
      refine g_goto (tgt := 34) hX dX6_comes_24 (by decide) ?_
      exact g_lreturn hX k rfl rfl dX6_comes_34
set_option maxRecDepth 4000 in
theorem RX6_lastOf_0 {X : XT} {I : MI} {L : ML} {p : Nat → Nat}  (hX : Cx X cX6_lastOf 4 RX6 wsX6_lastOf rmX6_lastOf) (x0 : Int64) (k : G X 0 0 4 [(0, .long x0), (2, .int (-1)), (3, .int 0)] [] (HM X I L p)) : G X 0 0 0 [(0, .long x0)] [] (HM X I L p) := by
  refine g_iconst (v := (-1)) hX dX6_lastOf_0 (by decide) ?_
  refine g_istore_n (ls' := [(0, .long x0), (2, .int (-1))]) hX dX6_lastOf_1 rfl (by decide) rfl ?_
  refine g_iconst (v := 0) hX dX6_lastOf_2 (by decide) ?_
  refine g_istore_n (ls' := [(0, .long x0), (2, .int (-1)), (3, .int 0)]) hX dX6_lastOf_3 rfl (by decide) rfl ?_
  exact k
set_option maxRecDepth 4000 in
theorem RX6_lastOf_4 {X : XT} {I : MI} {L : ML} {p : Nat → Nat}  (hX : Cx X cX6_lastOf 4 RX6 wsX6_lastOf rmX6_lastOf) (x0 : Int64) (x2 : Int32) (x3 : Int32) (k : ((62 < x3 → Rt X (some .int) rmX6_lastOf (some (.int x2)) (HM X I L p)) ∧ (¬ 62 < x3 → (∃ (zr2 : Int32), Ct (xE X) (xl X) yX6_hasMinute wsX6_hasMinute rmX6_hasMinute [.long x0, .int x3] (HM X I L p) (some (.int zr2)) (HM X I L p) ∧ G X 0 0 4 [(0, .long x0), (2, .int (if zr2 = 0 then x2 else x3 : Int32)), (3, .int (x3 + 1))] [] (HM X I L p))))) : G X 0 0 4 [(0, .long x0), (2, .int x2), (3, .int x3)] [] (HM X I L p) := by
  refine g_iload_n hX 2 rfl rfl dX6_lastOf_4 ?_
  refine g_bipush (v := 62) hX dX6_lastOf_5 (by decide) ?_
  refine g_icmp_gt (tgt := 30) hX dX6_lastOf_7 (by decide) (fun h => ?_) (fun h => ?_)
  · replace k := k.1 h
    refine g_iload_n hX 1 rfl rfl dX6_lastOf_30 ?_
    exact g_ireturn hX k rfl rfl dX6_lastOf_31
  · replace k := k.2 h
    refine g_lload_n hX 0 rfl rfl dX6_lastOf_10 ?_
    refine g_iload_n hX 2 rfl rfl dX6_lastOf_11 ?_
    obtain ⟨zr2, zhc1, k⟩ := k
    refine g_callS (cs' := 0) (sl' := 0) (as := [.long x0, .int x3]) (st := []) hX zhc1 gX6_lastOf_X6_hasMinute rfl rfl ydX6_hasMinute (by decide) (Nat.le_of_ble_eq_true rfl) (by decide) dX6_lastOf_12 rfl rfl ?_
    have kJ : G X 0 0 23 [(0, .long x0), (2, .int x2), (3, .int x3)] [.int (if zr2 = 0 then x2 else x3 : Int32)] (HM X I L p) := by
      refine g_istore_n (ls' := [(0, .long x0), (2, .int (if zr2 = 0 then x2 else x3 : Int32)), (3, .int x3)]) hX dX6_lastOf_23 rfl (by decide) rfl ?_
      refine g_iinc (v := x3 + 1) (ls' := [(0, .long x0), (2, .int (if zr2 = 0 then x2 else x3 : Int32)), (3, .int (x3 + 1))]) hX 2 rfl dX6_lastOf_24 rfl (by decide) rfl ?_
      refine g_goto (tgt := 4) hX dX6_lastOf_27 (by decide) ?_
      exact k
    refine g_if_eq (tgt := 22) hX dX6_lastOf_15 (by decide) (fun h => ?_) (fun h => ?_)
    · rw [(show (if zr2 = 0 then x2 else x3 : Int32) = x2 from if_pos h)] at kJ
      refine g_iload_n hX 1 rfl rfl dX6_lastOf_22 ?_
      exact kJ
    · rw [(show (if zr2 = 0 then x2 else x3 : Int32) = x3 from if_neg h)] at kJ
      refine g_iload_n hX 2 rfl rfl dX6_lastOf_18 ?_
      refine g_goto (tgt := 23) hX dX6_lastOf_19 (by decide) ?_
      exact kJ
set_option maxRecDepth 4000 in
theorem RX6_times_0 {X : XT} {I : MI} {L : ML} {p : Nat → Nat}  (hX : Cx X cX6_times 10 RX6 wsX6_times rmX6_times) (x1 : Int32) (x2 : Int32) (x3 : Int32) (x4 : Int32) (k : (∃ (zr2 : Int32), Ct (xE X) (xl X) yX6_isStart wsX6_isStart rmX6_isStart [.ref 96, .int x1, .int x2] (HM X I L p) (some (.int zr2)) (HM X I L p) ∧ ((zr2 = 0 → (∃ (zr4 : Int32) (zI5 : MI), Ct (xE X) (xl X) yX6_refuses wsX6_refuses rmX6_refuses [.ref 96, .int (-2)] (HM X I L p) (some (.int zr4)) (HM X zI5 L p) ∧ Rt X (some .int) rmX6_times (some (.int zr4)) (HM X zI5 L p))) ∧ (¬ zr2 = 0 → (∃ (zr7 : Int32), Ct (xE X) (xl X) yX6_isShaft wsX6_isShaft rmX6_isShaft [.ref 96, .int x3] (HM X I L p) (some (.int zr7)) (HM X I L p) ∧ ((zr7 = 0 → (∃ (zr9 : Int32) (zI10 : MI), Ct (xE X) (xl X) yX6_refuses wsX6_refuses rmX6_refuses [.ref 96, .int (-2)] (HM X I L p) (some (.int zr9)) (HM X zI10 L p) ∧ Rt X (some .int) rmX6_times (some (.int zr9)) (HM X zI10 L p))) ∧ (¬ zr7 = 0 → (∃ (zr12 : Int32), Ct (xE X) (xl X) yX6_in wsX6_in rmX6_in [.int x4, .int 0, .int 2] (HM X I L p) (some (.int zr12)) (HM X I L p) ∧ ((¬ zr12 = 0 → (∃ (zr14 : Int64) (zL15 : ML), Ct (xE X) (xl X) yX6_comesOf wsX6_comesOf rmX6_comesOf [.ref 96, .int x1, .int x2, .int x3] (HM X I L p) (some (.long zr14)) (HM X I zL15 p) ∧ G X 0 0 53 [(0, .ref 96), (1, .int x1), (2, .int x2), (3, .int x3), (4, .int x4), (5, .long zr14), (7, .int 0), (8, .int (-1)), (9, .int 62)] [] (HM X I zL15 p))) ∧ (zr12 = 0 → (∃ (zr17 : Int32) (zI18 : MI), Ct (xE X) (xl X) yX6_refuses wsX6_refuses rmX6_refuses [.ref 96, .int (-2)] (HM X I L p) (some (.int zr17)) (HM X zI18 L p) ∧ Rt X (some .int) rmX6_times (some (.int zr17)) (HM X zI18 L p)))))))))))) : G X 0 0 0 [(0, .ref 96), (1, .int x1), (2, .int x2), (3, .int x3), (4, .int x4)] [] (HM X I L p) := by
  refine g_aload_n hX 0 rfl rfl dX6_times_0 ?_
  refine g_iload_n hX 1 rfl rfl dX6_times_1 ?_
  refine g_iload_n hX 2 rfl rfl dX6_times_2 ?_
  obtain ⟨zr2, zhc1, k⟩ := k
  refine g_callV (cs' := 0) (sl' := 0) (C := RX6) (as := [.int x1, .int x2]) (st := []) hX zhc1 hPW sn96 so96 rfl gX6_times_X6_isStart rfl rfl rfl ydX6_isStart (by decide) (Nat.le_of_ble_eq_true rfl) (by decide) dX6_times_3 rfl rfl ?_
  refine g_if_eq (tgt := 27) hX dX6_times_6 (by decide) (fun h => ?_) (fun h => ?_)
  · replace k := k.1 h
    refine g_aload_n hX 0 rfl rfl dX6_times_27 ?_
    refine g_bipush (v := (-2)) hX dX6_times_28 (by decide) ?_
    obtain ⟨zr4, zI5, zhc3, k⟩ := k
    refine g_callV (cs' := 0) (sl' := 0) (C := RX6) (as := [.int (-2)]) (st := []) hX zhc3 hPW sn96 so96 rfl gX6_times_X6_refuses rfl rfl rfl ydX6_refuses (by decide) (Nat.le_of_ble_eq_true rfl) (by decide) dX6_times_30 rfl rfl ?_
    exact g_ireturn hX k rfl rfl dX6_times_33
  · replace k := k.2 h
    refine g_aload_n hX 0 rfl rfl dX6_times_9 ?_
    refine g_iload_n hX 3 rfl rfl dX6_times_10 ?_
    obtain ⟨zr7, zhc6, k⟩ := k
    refine g_callV (cs' := 0) (sl' := 0) (C := RX6) (as := [.int x3]) (st := []) hX zhc6 hPW sn96 so96 rfl gX6_times_X6_isShaft rfl rfl rfl ydX6_isShaft (by decide) (Nat.le_of_ble_eq_true rfl) (by decide) dX6_times_11 rfl rfl ?_
    refine g_if_eq (tgt := 27) hX dX6_times_14 (by decide) (fun h => ?_) (fun h => ?_)
    · replace k := k.1 h
      refine g_aload_n hX 0 rfl rfl dX6_times_27 ?_
      refine g_bipush (v := (-2)) hX dX6_times_28 (by decide) ?_
      obtain ⟨zr9, zI10, zhc8, k⟩ := k
      refine g_callV (cs' := 0) (sl' := 0) (C := RX6) (as := [.int (-2)]) (st := []) hX zhc8 hPW sn96 so96 rfl gX6_times_X6_refuses rfl rfl rfl ydX6_refuses (by decide) (Nat.le_of_ble_eq_true rfl) (by decide) dX6_times_30 rfl rfl ?_
      exact g_ireturn hX k rfl rfl dX6_times_33
    · replace k := k.2 h
      refine g_iload hX 4 rfl dX6_times_17 ?_
      refine g_iconst (v := 0) hX dX6_times_19 (by decide) ?_
      refine g_iconst (v := 2) hX dX6_times_20 (by decide) ?_
      obtain ⟨zr12, zhc11, k⟩ := k
      refine g_callS (cs' := 0) (sl' := 0) (as := [.int x4, .int 0, .int 2]) (st := []) hX zhc11 gX6_times_X6_in rfl rfl ydX6_in (by decide) (Nat.le_of_ble_eq_true rfl) (by decide) dX6_times_21 rfl rfl ?_
      refine g_if_ne (tgt := 34) hX dX6_times_24 (by decide) (fun h => ?_) (fun h => ?_)
      · replace k := k.1 h
        refine g_aload_n hX 0 rfl rfl dX6_times_34 ?_
        refine g_iload_n hX 1 rfl rfl dX6_times_35 ?_
        refine g_iload_n hX 2 rfl rfl dX6_times_36 ?_
        refine g_iload_n hX 3 rfl rfl dX6_times_37 ?_
        obtain ⟨zr14, zL15, zhc13, k⟩ := k
        refine g_callV (cs' := 0) (sl' := 0) (C := RX6) (as := [.int x1, .int x2, .int x3]) (st := []) hX zhc13 hPW sn96 so96 rfl gX6_times_X6_comesOf rfl rfl rfl ydX6_comesOf (by decide) (Nat.le_of_ble_eq_true rfl) (by decide) dX6_times_38 rfl rfl ?_
        refine g_lstore (ls' := [(0, .ref 96), (1, .int x1), (2, .int x2), (3, .int x3), (4, .int x4), (5, .long zr14)]) hX dX6_times_41 (by decide) rfl ?_
        refine g_iconst (v := 0) hX dX6_times_43 (by decide) ?_
        refine g_istore (ls' := [(0, .ref 96), (1, .int x1), (2, .int x2), (3, .int x3), (4, .int x4), (5, .long zr14), (7, .int 0)]) hX dX6_times_44 (by decide) rfl ?_
        refine g_iconst (v := (-1)) hX dX6_times_46 (by decide) ?_
        refine g_istore (ls' := [(0, .ref 96), (1, .int x1), (2, .int x2), (3, .int x3), (4, .int x4), (5, .long zr14), (7, .int 0), (8, .int (-1))]) hX dX6_times_47 (by decide) rfl ?_
        refine g_bipush (v := 62) hX dX6_times_49 (by decide) ?_
        refine g_istore (ls' := [(0, .ref 96), (1, .int x1), (2, .int x2), (3, .int x3), (4, .int x4), (5, .long zr14), (7, .int 0), (8, .int (-1)), (9, .int 62)]) hX dX6_times_51 (by decide) rfl ?_
        exact k
      · replace k := k.2 h
        refine g_aload_n hX 0 rfl rfl dX6_times_27 ?_
        refine g_bipush (v := (-2)) hX dX6_times_28 (by decide) ?_
        obtain ⟨zr17, zI18, zhc16, k⟩ := k
        refine g_callV (cs' := 0) (sl' := 0) (C := RX6) (as := [.int (-2)]) (st := []) hX zhc16 hPW sn96 so96 rfl gX6_times_X6_refuses rfl rfl rfl ydX6_refuses (by decide) (Nat.le_of_ble_eq_true rfl) (by decide) dX6_times_30 rfl rfl ?_
        exact g_ireturn hX k rfl rfl dX6_times_33
set_option maxRecDepth 4000 in
theorem RX6_times_53 {X : XT} {I : MI} {L : ML} {p : Nat → Nat}  (hX : Cx X cX6_times 10 RX6 wsX6_times rmX6_times) (x1 : Int32) (x2 : Int32) (x3 : Int32) (x4 : Int32) (x5 : Int64) (x7 : Int32) (x8 : Int32) (x9 : Int32) (k : ((x9 < 0 → ((¬ x4 = 0 → ((¬ x4 = 1 → Rt X (some .int) rmX6_times (some (.int x7)) (HM X I L p)) ∧ (x4 = 1 → (∃ (zr2 : Int32), Ct (xE X) (xl X) yX6_lastOf wsX6_lastOf rmX6_lastOf [.long x5] (HM X I L p) (some (.int zr2)) (HM X I L p) ∧ Rt X (some .int) rmX6_times (some (.int zr2)) (HM X I L p))))) ∧ (x4 = 0 → Rt X (some .int) rmX6_times (some (.int x8)) (HM X I L p)))) ∧ (¬ x9 < 0 → (∃ (zr4 : Int32), Ct (xE X) (xl X) yX6_hasMinute wsX6_hasMinute rmX6_hasMinute [.long x5, .int x9] (HM X I L p) (some (.int zr4)) (HM X I L p) ∧ (∃ (zr6 : Int32), Ct (xE X) (xl X) yX6_hasMinute wsX6_hasMinute rmX6_hasMinute [.long x5, .int x9] (HM X I L p) (some (.int zr6)) (HM X I L p) ∧ G X 0 0 53 [(0, .ref 96), (1, .int x1), (2, .int x2), (3, .int x3), (4, .int x4), (5, .long x5), (7, .int (x7 + (if zr6 = 0 then 0 else 1 : Int32))), (8, .int (if zr4 = 0 then x8 else x9 : Int32)), (9, .int (x9 + (-1)))] [] (HM X I L p)))))) : G X 0 0 53 [(0, .ref 96), (1, .int x1), (2, .int x2), (3, .int x3), (4, .int x4), (5, .long x5), (7, .int x7), (8, .int x8), (9, .int x9)] [] (HM X I L p) := by
  refine g_iload hX 8 rfl dX6_times_53 ?_
  refine g_if_lt (tgt := 103) hX dX6_times_55 (by decide) (fun h => ?_) (fun h => ?_)
  · replace k := k.1 h
    refine g_iload hX 4 rfl dX6_times_103 ?_
    refine g_if_ne (tgt := 113) hX dX6_times_105 (by decide) (fun h => ?_) (fun h => ?_)
    · replace k := k.1 h
      refine g_iload hX 4 rfl dX6_times_113 ?_
      refine g_iconst (v := 1) hX dX6_times_115 (by decide) ?_
      refine g_icmp_ne (tgt := 127) hX dX6_times_116 (by decide) (fun h => ?_) (fun h => ?_)
      · replace k := k.1 h
        refine g_iload hX 6 rfl dX6_times_127 ?_
        exact g_ireturn hX k rfl rfl dX6_times_129
      · replace k := k.2 h
        refine g_lload hX 5 rfl dX6_times_119 ?_
        obtain ⟨zr2, zhc1, k⟩ := k
        refine g_callS (cs' := 0) (sl' := 0) (as := [.long x5]) (st := []) hX zhc1 gX6_times_X6_lastOf rfl rfl ydX6_lastOf (by decide) (Nat.le_of_ble_eq_true rfl) (by decide) dX6_times_121 rfl rfl ?_
        refine g_goto (tgt := 129) hX dX6_times_124 (by decide) ?_
        exact g_ireturn hX k rfl rfl dX6_times_129
    · replace k := k.2 h
      refine g_iload hX 7 rfl dX6_times_108 ?_
      refine g_goto (tgt := 129) hX dX6_times_110 (by decide) ?_
      exact g_ireturn hX k rfl rfl dX6_times_129
  · replace k := k.2 h
    refine g_lload hX 5 rfl dX6_times_58 ?_
    refine g_iload hX 8 rfl dX6_times_60 ?_
    obtain ⟨zr4, zhc3, k⟩ := k
    refine g_callS (cs' := 0) (sl' := 0) (as := [.long x5, .int x9]) (st := []) hX zhc3 gX6_times_X6_hasMinute rfl rfl ydX6_hasMinute (by decide) (Nat.le_of_ble_eq_true rfl) (by decide) dX6_times_62 rfl rfl ?_
    have kJ : G X 0 0 75 [(0, .ref 96), (1, .int x1), (2, .int x2), (3, .int x3), (4, .int x4), (5, .long x5), (7, .int x7), (8, .int x8), (9, .int x9)] [.int (if zr4 = 0 then x8 else x9 : Int32)] (HM X I L p) := by
      refine g_istore (ls' := [(0, .ref 96), (1, .int x1), (2, .int x2), (3, .int x3), (4, .int x4), (5, .long x5), (7, .int x7), (8, .int (if zr4 = 0 then x8 else x9 : Int32)), (9, .int x9)]) hX dX6_times_75 (by decide) rfl ?_
      refine g_iload hX 6 rfl dX6_times_77 ?_
      refine g_lload hX 5 rfl dX6_times_79 ?_
      refine g_iload hX 8 rfl dX6_times_81 ?_
      obtain ⟨zr6, zhc5, k⟩ := k
      refine g_callS (cs' := 0) (sl' := 0) (as := [.long x5, .int x9]) (st := [.int x7]) hX zhc5 gX6_times_X6_hasMinute rfl rfl ydX6_hasMinute (by decide) (Nat.le_of_ble_eq_true rfl) (by decide) dX6_times_83 rfl rfl ?_
      have kJ : G X 0 0 94 [(0, .ref 96), (1, .int x1), (2, .int x2), (3, .int x3), (4, .int x4), (5, .long x5), (7, .int x7), (8, .int (if zr4 = 0 then x8 else x9 : Int32)), (9, .int x9)] [.int (if zr6 = 0 then 0 else 1 : Int32), .int x7] (HM X I L p) := by
        refine g_iadd hX dX6_times_94 ?_
        refine g_istore (ls' := [(0, .ref 96), (1, .int x1), (2, .int x2), (3, .int x3), (4, .int x4), (5, .long x5), (7, .int (x7 + (if zr6 = 0 then 0 else 1 : Int32))), (8, .int (if zr4 = 0 then x8 else x9 : Int32)), (9, .int x9)]) hX dX6_times_95 (by decide) rfl ?_
        refine g_iinc (v := x9 + (-1)) (ls' := [(0, .ref 96), (1, .int x1), (2, .int x2), (3, .int x3), (4, .int x4), (5, .long x5), (7, .int (x7 + (if zr6 = 0 then 0 else 1 : Int32))), (8, .int (if zr4 = 0 then x8 else x9 : Int32)), (9, .int (x9 + (-1)))]) hX 8 rfl dX6_times_97 rfl (by decide) rfl ?_
        refine g_goto (tgt := 53) hX dX6_times_100 (by decide) ?_
        exact k
      refine g_if_eq (tgt := 93) hX dX6_times_86 (by decide) (fun h => ?_) (fun h => ?_)
      · rw [(show (if zr6 = 0 then 0 else 1 : Int32) = 0 from if_pos h)] at kJ
        refine g_iconst (v := 0) hX dX6_times_93 (by decide) ?_
        exact kJ
      · rw [(show (if zr6 = 0 then 0 else 1 : Int32) = 1 from if_neg h)] at kJ
        refine g_iconst (v := 1) hX dX6_times_89 (by decide) ?_
        refine g_goto (tgt := 94) hX dX6_times_90 (by decide) ?_
        exact kJ
    refine g_if_eq (tgt := 73) hX dX6_times_65 (by decide) (fun h => ?_) (fun h => ?_)
    · rw [(show (if zr4 = 0 then x8 else x9 : Int32) = x8 from if_pos h)] at kJ
      refine g_iload hX 7 rfl dX6_times_73 ?_
      exact kJ
    · rw [(show (if zr4 = 0 then x8 else x9 : Int32) = x9 from if_neg h)] at kJ
      refine g_iload hX 8 rfl dX6_times_68 ?_
      refine g_goto (tgt := 75) hX dX6_times_70 (by decide) ?_
      exact kJ
set_option maxRecDepth 4000 in
theorem RX6_leaves_0 {X : XT} {I : MI} {L : ML} {p : Nat → Nat}  (hX : Cx X cX6_leaves 3 RX6 wsX6_leaves rmX6_leaves) (x1 : Int32) (x2 : Int32) (k : (∃ (zr2 : Int32), Ct (xE X) (xl X) yX6_isShaft wsX6_isShaft rmX6_isShaft [.ref 96, .int x1] (HM X I L p) (some (.int zr2)) (HM X I L p) ∧ ((zr2 = 0 → (∃ (zr4 : Int32) (zI5 : MI), Ct (xE X) (xl X) yX6_refuses wsX6_refuses rmX6_refuses [.ref 96, .int (-2)] (HM X I L p) (some (.int zr4)) (HM X zI5 L p) ∧ Rt X (some .int) rmX6_leaves (some (.int zr4)) (HM X zI5 L p))) ∧ (¬ zr2 = 0 → (∃ (zr7 : Int32), Ct (xE X) (xl X) yX6_in wsX6_in rmX6_in [.int x2, .int 0, .int 62] (HM X I L p) (some (.int zr7)) (HM X I L p) ∧ ((zr7 = 0 → (∃ (zr9 : Int32) (zI10 : MI), Ct (xE X) (xl X) yX6_refuses wsX6_refuses rmX6_refuses [.ref 96, .int (-2)] (HM X I L p) (some (.int zr9)) (HM X zI10 L p) ∧ Rt X (some .int) rmX6_leaves (some (.int zr9)) (HM X zI10 L p))) ∧ (¬ zr7 = 0 → (∃ (zr12 : Int32), Ct (xE X) (xl X) yX6_leavesAt wsX6_leavesAt rmX6_leavesAt [.ref 96, .int x1, .int x2] (HM X I L p) (some (.int zr12)) (HM X I L p) ∧ Rt X (some .int) rmX6_leaves (some (.int zr12)) (HM X I L p))))))))) : G X 0 0 0 [(0, .ref 96), (1, .int x1), (2, .int x2)] [] (HM X I L p) := by
  refine g_aload_n hX 0 rfl rfl dX6_leaves_0 ?_
  refine g_iload_n hX 1 rfl rfl dX6_leaves_1 ?_
  obtain ⟨zr2, zhc1, k⟩ := k
  refine g_callV (cs' := 0) (sl' := 0) (C := RX6) (as := [.int x1]) (st := []) hX zhc1 hPW sn96 so96 rfl gX6_leaves_X6_isShaft rfl rfl rfl ydX6_isShaft (by decide) (Nat.le_of_ble_eq_true rfl) (by decide) dX6_leaves_2 rfl rfl ?_
  refine g_if_eq (tgt := 27) hX dX6_leaves_5 (by decide) (fun h => ?_) (fun h => ?_)
  · replace k := k.1 h
    refine g_aload_n hX 0 rfl rfl dX6_leaves_27 ?_
    refine g_bipush (v := (-2)) hX dX6_leaves_28 (by decide) ?_
    obtain ⟨zr4, zI5, zhc3, k⟩ := k
    refine g_callV (cs' := 0) (sl' := 0) (C := RX6) (as := [.int (-2)]) (st := []) hX zhc3 hPW sn96 so96 rfl gX6_leaves_X6_refuses rfl rfl rfl ydX6_refuses (by decide) (Nat.le_of_ble_eq_true rfl) (by decide) dX6_leaves_30 rfl rfl ?_
    exact g_ireturn hX k rfl rfl dX6_leaves_33
  · replace k := k.2 h
    refine g_iload_n hX 2 rfl rfl dX6_leaves_8 ?_
    refine g_iconst (v := 0) hX dX6_leaves_9 (by decide) ?_
    refine g_bipush (v := 62) hX dX6_leaves_10 (by decide) ?_
    obtain ⟨zr7, zhc6, k⟩ := k
    refine g_callS (cs' := 0) (sl' := 0) (as := [.int x2, .int 0, .int 62]) (st := []) hX zhc6 gX6_leaves_X6_in rfl rfl ydX6_in (by decide) (Nat.le_of_ble_eq_true rfl) (by decide) dX6_leaves_12 rfl rfl ?_
    refine g_if_eq (tgt := 27) hX dX6_leaves_15 (by decide) (fun h => ?_) (fun h => ?_)
    · replace k := k.1 h
      refine g_aload_n hX 0 rfl rfl dX6_leaves_27 ?_
      refine g_bipush (v := (-2)) hX dX6_leaves_28 (by decide) ?_
      obtain ⟨zr9, zI10, zhc8, k⟩ := k
      refine g_callV (cs' := 0) (sl' := 0) (C := RX6) (as := [.int (-2)]) (st := []) hX zhc8 hPW sn96 so96 rfl gX6_leaves_X6_refuses rfl rfl rfl ydX6_refuses (by decide) (Nat.le_of_ble_eq_true rfl) (by decide) dX6_leaves_30 rfl rfl ?_
      exact g_ireturn hX k rfl rfl dX6_leaves_33
    · replace k := k.2 h
      refine g_aload_n hX 0 rfl rfl dX6_leaves_18 ?_
      refine g_iload_n hX 1 rfl rfl dX6_leaves_19 ?_
      refine g_iload_n hX 2 rfl rfl dX6_leaves_20 ?_
      obtain ⟨zr12, zhc11, k⟩ := k
      refine g_callV (cs' := 0) (sl' := 0) (C := RX6) (as := [.int x1, .int x2]) (st := []) hX zhc11 hPW sn96 so96 rfl gX6_leaves_X6_leavesAt rfl rfl rfl ydX6_leavesAt (by decide) (Nat.le_of_ble_eq_true rfl) (by decide) dX6_leaves_21 rfl rfl ?_
      refine g_goto (tgt := 33) hX dX6_leaves_24 (by decide) ?_
      exact g_ireturn hX k rfl rfl dX6_leaves_33
set_option maxRecDepth 4000 in
theorem RX6_isFit_0 {X : XT} {I : MI} {L : ML} {p : Nat → Nat}  (hX : Cx X cX6_isFit 8 RX6 wsX6_isFit rmX6_isFit) (x1 : Int32) (x2 : Int32) (k : (∃ (zL2 : ML), Ct (xE X) (xl X) yX6_start wsX6_start rmX6_start [.ref 96, .int x1, .int x2] (HM X I L p) none (HM X I zL2 p) ∧ G X 0 0 11 [(0, .ref 96), (1, .int x1), (2, .int x2), (3, .int 1), (4, .int 0)] [] (HM X I zL2 p))) : G X 0 0 0 [(0, .ref 96), (1, .int x1), (2, .int x2)] [] (HM X I L p) := by
  refine g_aload_n hX 0 rfl rfl dX6_isFit_0 ?_
  refine g_iload_n hX 1 rfl rfl dX6_isFit_1 ?_
  refine g_iload_n hX 2 rfl rfl dX6_isFit_2 ?_
  obtain ⟨zL2, zhc1, k⟩ := k
  refine g_callV (cs' := 0) (sl' := 0) (C := RX6) (as := [.int x1, .int x2]) (st := []) hX zhc1 hPW sn96 so96 rfl gX6_isFit_X6_start rfl rfl rfl ydX6_start (by decide) (Nat.le_of_ble_eq_true rfl) (by decide) dX6_isFit_3 rfl rfl ?_
  refine g_iconst (v := 1) hX dX6_isFit_6 (by decide) ?_
  refine g_istore_n (ls' := [(0, .ref 96), (1, .int x1), (2, .int x2), (3, .int 1)]) hX dX6_isFit_7 rfl (by decide) rfl ?_
  refine g_iconst (v := 0) hX dX6_isFit_8 (by decide) ?_
  refine g_istore (ls' := [(0, .ref 96), (1, .int x1), (2, .int x2), (3, .int 1), (4, .int 0)]) hX dX6_isFit_9 (by decide) rfl ?_
  exact k
set_option maxRecDepth 4000 in
theorem RX6_isFit_11 {X : XT} {I : MI} {L : ML} {p : Nat → Nat}  (hX : Cx X cX6_isFit 8 RX6 wsX6_isFit rmX6_isFit) (x1 : Int32) (x2 : Int32) (x3 : Int32) (x4 : Int32) (k : (((I 97 2) ≤ x4 → ((x3 = 0 ∨ x3 = 1) ∧ Rt X (some .boolean) rmX6_isFit (some (.int x3)) (HM X I L p))) ∧ (¬ (I 97 2) ≤ x4 → (∃ zj3 : Nat, ((87 + (3 * x4)) + 1) = nI zj3 ∧ zj3 < 123 ∧ (∃ zj6 : Nat, (I 97 zj3) = nI zj6 ∧ zj6 < 10 ∧ ((x3 = 0 → G X 0 0 11 [(0, .ref 96), (1, .int x1), (2, .int x2), (3, .int 0), (4, .int (x4 + 1))] [] (HM X I L p)) ∧ (¬ x3 = 0 → (∃ zj9 : Nat, (87 + (3 * x4)) = nI zj9 ∧ zj9 < 123 ∧ ((¬ (I 97 zj9) = 1 → (((jcmp (L 101 zj6) 0) = 0 → G X 0 0 11 [(0, .ref 96), (1, .int x1), (2, .int x2), (3, .int 1), (4, .int (x4 + 1))] [] (HM X I L p)) ∧ (¬ (jcmp (L 101 zj6) 0) = 0 → (∃ (zr12 : Int32), Ct (xE X) (xl X) yX6_lastOf wsX6_lastOf rmX6_lastOf [.long (L 101 zj6)] (HM X I L p) (some (.int zr12)) (HM X I L p) ∧ (∃ zj14 : Nat, ((87 + (3 * x4)) + 2) = nI zj14 ∧ zj14 < 123 ∧ G X 0 0 11 [(0, .ref 96), (1, .int x1), (2, .int x2), (3, .int (if zr12 ≤ (I 97 zj14) then 0 else 1 : Int32)), (4, .int (x4 + 1))] [] (HM X I L p)))))) ∧ ((I 97 zj9) = 1 → (∃ zj17 : Nat, ((87 + (3 * x4)) + 2) = nI zj17 ∧ zj17 < 123 ∧ (∃ (zr20 : Int32), Ct (xE X) (xl X) yX6_hasMinute wsX6_hasMinute rmX6_hasMinute [.long (L 101 zj6), .int (I 97 zj17)] (HM X I L p) (some (.int zr20)) (HM X I L p) ∧ G X 0 0 11 [(0, .ref 96), (1, .int x1), (2, .int x2), (3, .int (if zr20 = 0 then 0 else 1 : Int32)), (4, .int (x4 + 1))] [] (HM X I L p))))))))))))) : G X 0 0 11 [(0, .ref 96), (1, .int x1), (2, .int x2), (3, .int x3), (4, .int x4)] [] (HM X I L p) := by
  refine g_iload hX 4 rfl dX6_isFit_11 ?_
  refine g_aload_n hX 0 rfl rfl dX6_isFit_13 ?_
  refine g_getR (k := 0) (r' := 97) hX hPW flX6_isFit_7 sn96 so96 rfl (k96_0 _) dX6_isFit_14 ?_
  refine g_iconst (v := 2) hX dX6_isFit_17 (by decide) ?_
  refine g_iald (j := 2) hX hPW sn97 sh97 rfl (by decide) (by decide) dX6_isFit_18 ?_
  refine g_icmp_ge (tgt := 118) hX dX6_isFit_19 (by decide) (fun h => ?_) (fun h => ?_)
  · replace k := k.1 h
    refine g_iload_n hX 3 rfl rfl dX6_isFit_118 ?_
    exact g_zreturn hX k.2 k.1 rfl rfl dX6_isFit_119
  · replace k := k.2 h
    refine g_bipush (v := 87) hX dX6_isFit_22 (by decide) ?_
    refine g_iconst (v := 3) hX dX6_isFit_24 (by decide) ?_
    refine g_iload hX 4 rfl dX6_isFit_25 ?_
    refine g_imul hX dX6_isFit_27 ?_
    refine g_iadd hX dX6_isFit_28 ?_
    refine g_istore (ls' := [(0, .ref 96), (1, .int x1), (2, .int x2), (3, .int x3), (4, .int x4), (5, .int (87 + (3 * x4)))]) hX dX6_isFit_29 (by decide) rfl ?_
    refine g_aload_n hX 0 rfl rfl dX6_isFit_31 ?_
    refine g_getR (k := 5) (r' := 101) hX hPW flX6_isFit_22 sn96 so96 rfl (k96_5 _) dX6_isFit_32 ?_
    refine g_aload_n hX 0 rfl rfl dX6_isFit_35 ?_
    refine g_getR (k := 0) (r' := 97) hX hPW flX6_isFit_7 sn96 so96 rfl (k96_0 _) dX6_isFit_36 ?_
    refine g_iload hX 5 rfl dX6_isFit_39 ?_
    refine g_iconst (v := 1) hX dX6_isFit_41 (by decide) ?_
    refine g_iadd hX dX6_isFit_42 ?_
    obtain ⟨zj3, zh2, zh4, k⟩ := k
    refine g_iald hX hPW sn97 sh97 zh2 zh4 (by decide) dX6_isFit_43 ?_
    obtain ⟨zj6, zh5, zh7, k⟩ := k
    refine g_lald hX hPW sn101 sh101 zh5 zh7 (by decide) dX6_isFit_44 ?_
    refine g_lstore (ls' := [(0, .ref 96), (1, .int x1), (2, .int x2), (3, .int x3), (4, .int x4), (5, .int (87 + (3 * x4))), (6, .long (L 101 zj6))]) hX dX6_isFit_45 (by decide) rfl ?_
    refine g_iload_n hX 3 rfl rfl dX6_isFit_47 ?_
    refine g_if_eq (tgt := 110) hX dX6_isFit_48 (by decide) (fun h => ?_) (fun h => ?_)
    · replace k := k.1 h
      refine g_iconst (v := 0) hX dX6_isFit_110 (by decide) ?_
      refine g_istore_n (ls' := [(0, .ref 96), (1, .int x1), (2, .int x2), (3, .int 0), (4, .int x4), (5, .int (87 + (3 * x4))), (6, .long (L 101 zj6))]) hX dX6_isFit_111 rfl (by decide) rfl ?_
      refine g_iinc (v := x4 + 1) (ls' := [(0, .ref 96), (1, .int x1), (2, .int x2), (3, .int 0), (4, .int (x4 + 1)), (5, .int (87 + (3 * x4))), (6, .long (L 101 zj6))]) hX 4 rfl dX6_isFit_112 rfl (by decide) rfl ?_
      refine g_goto (tgt := 11) hX dX6_isFit_115 (by decide) ?_
      refine G.pick (ks := [0, 1, 2, 3, 4]) (ls' := [(0, .ref 96), (1, .int x1), (2, .int x2), (3, .int 0), (4, .int (x4 + 1))]) rfl ?_
      exact k
    · replace k := k.2 h
      refine g_aload_n hX 0 rfl rfl dX6_isFit_51 ?_
      refine g_getR (k := 0) (r' := 97) hX hPW flX6_isFit_7 sn96 so96 rfl (k96_0 _) dX6_isFit_52 ?_
      refine g_iload hX 5 rfl dX6_isFit_55 ?_
      obtain ⟨zj9, zh8, zh10, k⟩ := k
      refine g_iald hX hPW sn97 sh97 zh8 zh10 (by decide) dX6_isFit_57 ?_
      refine g_iconst (v := 1) hX dX6_isFit_58 (by decide) ?_
      refine g_icmp_ne (tgt := 82) hX dX6_isFit_59 (by decide) (fun h => ?_) (fun h => ?_)
      · replace k := k.1 h
        refine g_lload hX 6 rfl dX6_isFit_82 ?_
        refine g_lconst (v := 0) hX dX6_isFit_84 (by decide) ?_
        refine g_lcmp hX dX6_isFit_85 ?_
        refine g_if_eq (tgt := 106) hX dX6_isFit_86 (by decide) (fun h => ?_) (fun h => ?_)
        · replace k := k.1 h
          refine g_iconst (v := 1) hX dX6_isFit_106 (by decide) ?_
          refine g_goto (tgt := 111) hX dX6_isFit_107 (by decide) ?_
          refine g_istore_n (ls' := [(0, .ref 96), (1, .int x1), (2, .int x2), (3, .int 1), (4, .int x4), (5, .int (87 + (3 * x4))), (6, .long (L 101 zj6))]) hX dX6_isFit_111 rfl (by decide) rfl ?_
          refine g_iinc (v := x4 + 1) (ls' := [(0, .ref 96), (1, .int x1), (2, .int x2), (3, .int 1), (4, .int (x4 + 1)), (5, .int (87 + (3 * x4))), (6, .long (L 101 zj6))]) hX 4 rfl dX6_isFit_112 rfl (by decide) rfl ?_
          refine g_goto (tgt := 11) hX dX6_isFit_115 (by decide) ?_
          refine G.pick (ks := [0, 1, 2, 3, 4]) (ls' := [(0, .ref 96), (1, .int x1), (2, .int x2), (3, .int 1), (4, .int (x4 + 1))]) rfl ?_
          exact k
        · replace k := k.2 h
          refine g_lload hX 6 rfl dX6_isFit_89 ?_
          obtain ⟨zr12, zhc11, k⟩ := k
          refine g_callS (cs' := 0) (sl' := 0) (as := [.long (L 101 zj6)]) (st := []) hX zhc11 gX6_isFit_X6_lastOf rfl rfl ydX6_lastOf (by decide) (Nat.le_of_ble_eq_true rfl) (by decide) dX6_isFit_91 rfl rfl ?_
          refine g_aload_n hX 0 rfl rfl dX6_isFit_94 ?_
          refine g_getR (k := 0) (r' := 97) hX hPW flX6_isFit_7 sn96 so96 rfl (k96_0 _) dX6_isFit_95 ?_
          refine g_iload hX 5 rfl dX6_isFit_98 ?_
          refine g_iconst (v := 2) hX dX6_isFit_100 (by decide) ?_
          refine g_iadd hX dX6_isFit_101 ?_
          obtain ⟨zj14, zh13, zh15, k⟩ := k
          refine g_iald hX hPW sn97 sh97 zh13 zh15 (by decide) dX6_isFit_102 ?_
          have kJ : G X 0 0 111 [(0, .ref 96), (1, .int x1), (2, .int x2), (3, .int x3), (4, .int x4), (5, .int (87 + (3 * x4))), (6, .long (L 101 zj6))] [.int (if zr12 ≤ (I 97 zj14) then 0 else 1 : Int32)] (HM X I L p) := by
            refine g_istore_n (ls' := [(0, .ref 96), (1, .int x1), (2, .int x2), (3, .int (if zr12 ≤ (I 97 zj14) then 0 else 1 : Int32)), (4, .int x4), (5, .int (87 + (3 * x4))), (6, .long (L 101 zj6))]) hX dX6_isFit_111 rfl (by decide) rfl ?_
            refine g_iinc (v := x4 + 1) (ls' := [(0, .ref 96), (1, .int x1), (2, .int x2), (3, .int (if zr12 ≤ (I 97 zj14) then 0 else 1 : Int32)), (4, .int (x4 + 1)), (5, .int (87 + (3 * x4))), (6, .long (L 101 zj6))]) hX 4 rfl dX6_isFit_112 rfl (by decide) rfl ?_
            refine g_goto (tgt := 11) hX dX6_isFit_115 (by decide) ?_
            refine G.pick (ks := [0, 1, 2, 3, 4]) (ls' := [(0, .ref 96), (1, .int x1), (2, .int x2), (3, .int (if zr12 ≤ (I 97 zj14) then 0 else 1 : Int32)), (4, .int (x4 + 1))]) rfl ?_
            exact k
          refine g_icmp_le (tgt := 110) hX dX6_isFit_103 (by decide) (fun h => ?_) (fun h => ?_)
          · rw [(show (if zr12 ≤ (I 97 zj14) then 0 else 1 : Int32) = 0 from if_pos h)] at kJ
            refine g_iconst (v := 0) hX dX6_isFit_110 (by decide) ?_
            exact kJ
          · rw [(show (if zr12 ≤ (I 97 zj14) then 0 else 1 : Int32) = 1 from if_neg h)] at kJ
            refine g_iconst (v := 1) hX dX6_isFit_106 (by decide) ?_
            refine g_goto (tgt := 111) hX dX6_isFit_107 (by decide) ?_
            exact kJ
      · replace k := k.2 h
        refine g_lload hX 6 rfl dX6_isFit_62 ?_
        refine g_aload_n hX 0 rfl rfl dX6_isFit_64 ?_
        refine g_getR (k := 0) (r' := 97) hX hPW flX6_isFit_7 sn96 so96 rfl (k96_0 _) dX6_isFit_65 ?_
        refine g_iload hX 5 rfl dX6_isFit_68 ?_
        refine g_iconst (v := 2) hX dX6_isFit_70 (by decide) ?_
        refine g_iadd hX dX6_isFit_71 ?_
        obtain ⟨zj17, zh16, zh18, k⟩ := k
        refine g_iald hX hPW sn97 sh97 zh16 zh18 (by decide) dX6_isFit_72 ?_
        obtain ⟨zr20, zhc19, k⟩ := k
        refine g_callS (cs' := 0) (sl' := 0) (as := [.long (L 101 zj6), .int (I 97 zj17)]) (st := []) hX zhc19 gX6_isFit_X6_hasMinute rfl rfl ydX6_hasMinute (by decide) (Nat.le_of_ble_eq_true rfl) (by decide) dX6_isFit_73 rfl rfl ?_
        have kJ : G X 0 0 111 [(0, .ref 96), (1, .int x1), (2, .int x2), (3, .int x3), (4, .int x4), (5, .int (87 + (3 * x4))), (6, .long (L 101 zj6))] [.int (if zr20 = 0 then 0 else 1 : Int32)] (HM X I L p) := by
          refine g_istore_n (ls' := [(0, .ref 96), (1, .int x1), (2, .int x2), (3, .int (if zr20 = 0 then 0 else 1 : Int32)), (4, .int x4), (5, .int (87 + (3 * x4))), (6, .long (L 101 zj6))]) hX dX6_isFit_111 rfl (by decide) rfl ?_
          refine g_iinc (v := x4 + 1) (ls' := [(0, .ref 96), (1, .int x1), (2, .int x2), (3, .int (if zr20 = 0 then 0 else 1 : Int32)), (4, .int (x4 + 1)), (5, .int (87 + (3 * x4))), (6, .long (L 101 zj6))]) hX 4 rfl dX6_isFit_112 rfl (by decide) rfl ?_
          refine g_goto (tgt := 11) hX dX6_isFit_115 (by decide) ?_
          refine G.pick (ks := [0, 1, 2, 3, 4]) (ls' := [(0, .ref 96), (1, .int x1), (2, .int x2), (3, .int (if zr20 = 0 then 0 else 1 : Int32)), (4, .int (x4 + 1))]) rfl ?_
          exact k
        refine g_if_eq (tgt := 110) hX dX6_isFit_76 (by decide) (fun h => ?_) (fun h => ?_)
        · rw [(show (if zr20 = 0 then 0 else 1 : Int32) = 0 from if_pos h)] at kJ
          refine g_iconst (v := 0) hX dX6_isFit_110 (by decide) ?_
          exact kJ
        · rw [(show (if zr20 = 0 then 0 else 1 : Int32) = 1 from if_neg h)] at kJ
          refine g_goto (tgt := 106) hX dX6_isFit_79 (by decide) ?_
          refine g_iconst (v := 1) hX dX6_isFit_106 (by decide) ?_
          refine g_goto (tgt := 111) hX dX6_isFit_107 (by decide) ?_
          exact kJ
set_option maxRecDepth 4000 in
theorem RX6_fits_0 {X : XT} {I : MI} {L : ML} {p : Nat → Nat}  (hX : Cx X cX6_fits 3 RX6 wsX6_fits rmX6_fits) (x1 : Int32) (x2 : Int32) (k : (∃ (zr2 : Int32), Ct (xE X) (xl X) yX6_isStart wsX6_isStart rmX6_isStart [.ref 96, .int x1, .int x2] (HM X I L p) (some (.int zr2)) (HM X I L p) ∧ ((¬ zr2 = 0 → (∃ (zr4 : Int32) (zL5 : ML), Ct (xE X) (xl X) yX6_isFit wsX6_isFit rmX6_isFit [.ref 96, .int x1, .int x2] (HM X I L p) (some (.int zr4)) (HM X I zL5 p) ∧ Rt X (some .int) rmX6_fits (some (.int (if zr4 = 0 then 0 else 1 : Int32))) (HM X I zL5 p))) ∧ (zr2 = 0 → (∃ (zr7 : Int32) (zI8 : MI), Ct (xE X) (xl X) yX6_refuses wsX6_refuses rmX6_refuses [.ref 96, .int (-2)] (HM X I L p) (some (.int zr7)) (HM X zI8 L p) ∧ Rt X (some .int) rmX6_fits (some (.int zr7)) (HM X zI8 L p)))))) : G X 0 0 0 [(0, .ref 96), (1, .int x1), (2, .int x2)] [] (HM X I L p) := by
  refine g_aload_n hX 0 rfl rfl dX6_fits_0 ?_
  refine g_iload_n hX 1 rfl rfl dX6_fits_1 ?_
  refine g_iload_n hX 2 rfl rfl dX6_fits_2 ?_
  obtain ⟨zr2, zhc1, k⟩ := k
  refine g_callV (cs' := 0) (sl' := 0) (C := RX6) (as := [.int x1, .int x2]) (st := []) hX zhc1 hPW sn96 so96 rfl gX6_fits_X6_isStart rfl rfl rfl ydX6_isStart (by decide) (Nat.le_of_ble_eq_true rfl) (by decide) dX6_fits_3 rfl rfl ?_
  refine g_if_ne (tgt := 16) hX dX6_fits_6 (by decide) (fun h => ?_) (fun h => ?_)
  · replace k := k.1 h
    refine g_aload_n hX 0 rfl rfl dX6_fits_16 ?_
    refine g_iload_n hX 1 rfl rfl dX6_fits_17 ?_
    refine g_iload_n hX 2 rfl rfl dX6_fits_18 ?_
    obtain ⟨zr4, zL5, zhc3, k⟩ := k
    refine g_callV (cs' := 0) (sl' := 0) (C := RX6) (as := [.int x1, .int x2]) (st := []) hX zhc3 hPW sn96 so96 rfl gX6_fits_X6_isFit rfl rfl rfl ydX6_isFit (by decide) (Nat.le_of_ble_eq_true rfl) (by decide) dX6_fits_19 rfl rfl ?_
    have kJ : G X 0 0 30 [(0, .ref 96), (1, .int x1), (2, .int x2)] [.int (if zr4 = 0 then 0 else 1 : Int32)] (HM X I zL5 p) := by
      exact g_ireturn hX k rfl rfl dX6_fits_30
    refine g_if_eq (tgt := 29) hX dX6_fits_22 (by decide) (fun h => ?_) (fun h => ?_)
    · rw [(show (if zr4 = 0 then 0 else 1 : Int32) = 0 from if_pos h)] at kJ
      refine g_iconst (v := 0) hX dX6_fits_29 (by decide) ?_
      exact kJ
    · rw [(show (if zr4 = 0 then 0 else 1 : Int32) = 1 from if_neg h)] at kJ
      refine g_iconst (v := 1) hX dX6_fits_25 (by decide) ?_
      refine g_goto (tgt := 30) hX dX6_fits_26 (by decide) ?_
      exact kJ
  · replace k := k.2 h
    refine g_aload_n hX 0 rfl rfl dX6_fits_9 ?_
    refine g_bipush (v := (-2)) hX dX6_fits_10 (by decide) ?_
    obtain ⟨zr7, zI8, zhc6, k⟩ := k
    refine g_callV (cs' := 0) (sl' := 0) (C := RX6) (as := [.int (-2)]) (st := []) hX zhc6 hPW sn96 so96 rfl gX6_fits_X6_refuses rfl rfl rfl ydX6_refuses (by decide) (Nat.le_of_ble_eq_true rfl) (by decide) dX6_fits_12 rfl rfl ?_
    exact g_ireturn hX k rfl rfl dX6_fits_15
set_option maxRecDepth 4000 in
theorem RX6_whenOf_0 {X : XT} {I : MI} {L : ML} {p : Nat → Nat}  (hX : Cx X cX6_whenOf 4 RX6 wsX6_whenOf rmX6_whenOf) (x1 : Int32) (k : G X 0 0 4 [(0, .ref 96), (1, .int x1), (2, .int 0), (3, .int 0)] [] (HM X I L p)) : G X 0 0 0 [(0, .ref 96), (1, .int x1)] [] (HM X I L p) := by
  refine g_iconst (v := 0) hX dX6_whenOf_0 (by decide) ?_
  refine g_istore_n (ls' := [(0, .ref 96), (1, .int x1), (2, .int 0)]) hX dX6_whenOf_1 rfl (by decide) rfl ?_
  refine g_iconst (v := 0) hX dX6_whenOf_2 (by decide) ?_
  refine g_istore_n (ls' := [(0, .ref 96), (1, .int x1), (2, .int 0), (3, .int 0)]) hX dX6_whenOf_3 rfl (by decide) rfl ?_
  exact k
set_option maxRecDepth 4000 in
theorem RX6_whenOf_4 {X : XT} {I : MI} {L : ML} {p : Nat → Nat}  (hX : Cx X cX6_whenOf 4 RX6 wsX6_whenOf rmX6_whenOf) (x1 : Int32) (x2 : Int32) (x3 : Int32) (k : ((30 < x3 → Rt X (some .int) rmX6_whenOf (some (.int x2)) (HM X I L p)) ∧ (¬ 30 < x3 → (∃ (zr2 : Int32) (zL3 : ML), Ct (xE X) (xl X) yX6_isFit wsX6_isFit rmX6_isFit [.ref 96, .int x1, .int x3] (HM X I L p) (some (.int zr2)) (HM X I zL3 p) ∧ G X 0 0 4 [(0, .ref 96), (1, .int x1), (2, .int (x2 ||| (if zr2 = 0 then 0 else jshl 1 x3 : Int32))), (3, .int (x3 + 1))] [] (HM X I zL3 p))))) : G X 0 0 4 [(0, .ref 96), (1, .int x1), (2, .int x2), (3, .int x3)] [] (HM X I L p) := by
  refine g_iload_n hX 3 rfl rfl dX6_whenOf_4 ?_
  refine g_bipush (v := 30) hX dX6_whenOf_5 (by decide) ?_
  refine g_icmp_gt (tgt := 35) hX dX6_whenOf_7 (by decide) (fun h => ?_) (fun h => ?_)
  · replace k := k.1 h
    refine g_iload_n hX 2 rfl rfl dX6_whenOf_35 ?_
    exact g_ireturn hX k rfl rfl dX6_whenOf_36
  · replace k := k.2 h
    refine g_iload_n hX 2 rfl rfl dX6_whenOf_10 ?_
    refine g_aload_n hX 0 rfl rfl dX6_whenOf_11 ?_
    refine g_iload_n hX 1 rfl rfl dX6_whenOf_12 ?_
    refine g_iload_n hX 3 rfl rfl dX6_whenOf_13 ?_
    obtain ⟨zr2, zL3, zhc1, k⟩ := k
    refine g_callV (cs' := 0) (sl' := 0) (C := RX6) (as := [.int x1, .int x3]) (st := [.int x2]) hX zhc1 hPW sn96 so96 rfl gX6_whenOf_X6_isFit rfl rfl rfl ydX6_isFit (by decide) (Nat.le_of_ble_eq_true rfl) (by decide) dX6_whenOf_14 rfl rfl ?_
    have kJ : G X 0 0 27 [(0, .ref 96), (1, .int x1), (2, .int x2), (3, .int x3)] [.int (if zr2 = 0 then 0 else jshl 1 x3 : Int32), .int x2] (HM X I zL3 p) := by
      refine g_ior hX dX6_whenOf_27 ?_
      refine g_istore_n (ls' := [(0, .ref 96), (1, .int x1), (2, .int (x2 ||| (if zr2 = 0 then 0 else jshl 1 x3 : Int32))), (3, .int x3)]) hX dX6_whenOf_28 rfl (by decide) rfl ?_
      refine g_iinc (v := x3 + 1) (ls' := [(0, .ref 96), (1, .int x1), (2, .int (x2 ||| (if zr2 = 0 then 0 else jshl 1 x3 : Int32))), (3, .int (x3 + 1))]) hX 3 rfl dX6_whenOf_29 rfl (by decide) rfl ?_
      refine g_goto (tgt := 4) hX dX6_whenOf_32 (by decide) ?_
      exact k
    refine g_if_eq (tgt := 26) hX dX6_whenOf_17 (by decide) (fun h => ?_) (fun h => ?_)
    · rw [(show (if zr2 = 0 then 0 else jshl 1 x3 : Int32) = 0 from if_pos h)] at kJ
      refine g_iconst (v := 0) hX dX6_whenOf_26 (by decide) ?_
      exact kJ
    · rw [(show (if zr2 = 0 then 0 else jshl 1 x3 : Int32) = (jshl 1 x3) from if_neg h)] at kJ
      refine g_iconst (v := 1) hX dX6_whenOf_20 (by decide) ?_
      refine g_iload_n hX 3 rfl rfl dX6_whenOf_21 ?_
      refine g_ishl hX dX6_whenOf_22 ?_
      refine g_goto (tgt := 27) hX dX6_whenOf_23 (by decide) ?_
      exact kJ
set_option maxRecDepth 4000 in
theorem RX6_when_0 {X : XT} {I : MI} {L : ML} {p : Nat → Nat}  (hX : Cx X cX6_when 2 RX6 wsX6_when rmX6_when) (x1 : Int32) (k : (∃ (zr2 : Int32), Ct (xE X) (xl X) yX6_isShaft wsX6_isShaft rmX6_isShaft [.ref 96, .int x1] (HM X I L p) (some (.int zr2)) (HM X I L p) ∧ ((zr2 = 0 → (∃ (zr4 : Int32) (zI5 : MI), Ct (xE X) (xl X) yX6_refuses wsX6_refuses rmX6_refuses [.ref 96, .int (-2)] (HM X I L p) (some (.int zr4)) (HM X zI5 L p) ∧ Rt X (some .int) rmX6_when (some (.int zr4)) (HM X zI5 L p))) ∧ (¬ zr2 = 0 → (∃ (zr7 : Int32) (zL8 : ML), Ct (xE X) (xl X) yX6_whenOf wsX6_whenOf rmX6_whenOf [.ref 96, .int x1] (HM X I L p) (some (.int zr7)) (HM X I zL8 p) ∧ Rt X (some .int) rmX6_when (some (.int zr7)) (HM X I zL8 p)))))) : G X 0 0 0 [(0, .ref 96), (1, .int x1)] [] (HM X I L p) := by
  refine g_aload_n hX 0 rfl rfl dX6_when_0 ?_
  refine g_iload_n hX 1 rfl rfl dX6_when_1 ?_
  obtain ⟨zr2, zhc1, k⟩ := k
  refine g_callV (cs' := 0) (sl' := 0) (C := RX6) (as := [.int x1]) (st := []) hX zhc1 hPW sn96 so96 rfl gX6_when_X6_isShaft rfl rfl rfl ydX6_isShaft (by decide) (Nat.le_of_ble_eq_true rfl) (by decide) dX6_when_2 rfl rfl ?_
  refine g_if_eq (tgt := 16) hX dX6_when_5 (by decide) (fun h => ?_) (fun h => ?_)
  · replace k := k.1 h
    refine g_aload_n hX 0 rfl rfl dX6_when_16 ?_
    refine g_bipush (v := (-2)) hX dX6_when_17 (by decide) ?_
    obtain ⟨zr4, zI5, zhc3, k⟩ := k
    refine g_callV (cs' := 0) (sl' := 0) (C := RX6) (as := [.int (-2)]) (st := []) hX zhc3 hPW sn96 so96 rfl gX6_when_X6_refuses rfl rfl rfl ydX6_refuses (by decide) (Nat.le_of_ble_eq_true rfl) (by decide) dX6_when_19 rfl rfl ?_
    exact g_ireturn hX k rfl rfl dX6_when_22
  · replace k := k.2 h
    refine g_aload_n hX 0 rfl rfl dX6_when_8 ?_
    refine g_iload_n hX 1 rfl rfl dX6_when_9 ?_
    obtain ⟨zr7, zL8, zhc6, k⟩ := k
    refine g_callV (cs' := 0) (sl' := 0) (C := RX6) (as := [.int x1]) (st := []) hX zhc6 hPW sn96 so96 rfl gX6_when_X6_whenOf rfl rfl rfl ydX6_whenOf (by decide) (Nat.le_of_ble_eq_true rfl) (by decide) dX6_when_10 rfl rfl ?_
    refine g_goto (tgt := 22) hX dX6_when_13 (by decide) ?_
    exact g_ireturn hX k rfl rfl dX6_when_22
set_option maxRecDepth 4000 in
theorem RX6_suspectsNow_0 {X : XT} {I : MI} {L : ML} {p : Nat → Nat}  (hX : Cx X cX6_suspectsNow 3 RX6 wsX6_suspectsNow rmX6_suspectsNow)  (k : G X 0 0 4 [(0, .ref 96), (1, .int 0), (2, .int 0)] [] (HM X I L p)) : G X 0 0 0 [(0, .ref 96)] [] (HM X I L p) := by
  refine g_iconst (v := 0) hX dX6_suspectsNow_0 (by decide) ?_
  refine g_istore_n (ls' := [(0, .ref 96), (1, .int 0)]) hX dX6_suspectsNow_1 rfl (by decide) rfl ?_
  refine g_iconst (v := 0) hX dX6_suspectsNow_2 (by decide) ?_
  refine g_istore_n (ls' := [(0, .ref 96), (1, .int 0), (2, .int 0)]) hX dX6_suspectsNow_3 rfl (by decide) rfl ?_
  exact k
set_option maxRecDepth 4000 in
theorem RX6_suspectsNow_4 {X : XT} {I : MI} {L : ML} {p : Nat → Nat}  (hX : Cx X cX6_suspectsNow 3 RX6 wsX6_suspectsNow rmX6_suspectsNow) (x1 : Int32) (x2 : Int32) (k : (((I 97 0) ≤ x2 → Rt X (some .int) rmX6_suspectsNow (some (.int x1)) (HM X I L p)) ∧ (¬ (I 97 0) ≤ x2 → (∃ (zr3 : Int32) (zL4 : ML), Ct (xE X) (xl X) yX6_whenOf wsX6_whenOf rmX6_whenOf [.ref 96, .int x2] (HM X I L p) (some (.int zr3)) (HM X I zL4 p) ∧ G X 0 0 4 [(0, .ref 96), (1, .int (x1 ||| (if zr3 = 0 then 0 else jshl 1 x2 : Int32))), (2, .int (x2 + 1))] [] (HM X I zL4 p))))) : G X 0 0 4 [(0, .ref 96), (1, .int x1), (2, .int x2)] [] (HM X I L p) := by
  refine g_iload_n hX 2 rfl rfl dX6_suspectsNow_4 ?_
  refine g_aload_n hX 0 rfl rfl dX6_suspectsNow_5 ?_
  refine g_getR (k := 0) (r' := 97) hX hPW flX6_suspectsNow_7 sn96 so96 rfl (k96_0 _) dX6_suspectsNow_6 ?_
  refine g_iconst (v := 0) hX dX6_suspectsNow_9 (by decide) ?_
  refine g_iald (j := 0) hX hPW sn97 sh97 rfl (by decide) (by decide) dX6_suspectsNow_10 ?_
  refine g_icmp_ge (tgt := 38) hX dX6_suspectsNow_11 (by decide) (fun h => ?_) (fun h => ?_)
  · replace k := k.1 h
    refine g_iload_n hX 1 rfl rfl dX6_suspectsNow_38 ?_
    exact g_ireturn hX k rfl rfl dX6_suspectsNow_39
  · replace k := k.2 h
    refine g_iload_n hX 1 rfl rfl dX6_suspectsNow_14 ?_
    refine g_aload_n hX 0 rfl rfl dX6_suspectsNow_15 ?_
    refine g_iload_n hX 2 rfl rfl dX6_suspectsNow_16 ?_
    obtain ⟨zr3, zL4, zhc2, k⟩ := k
    refine g_callV (cs' := 0) (sl' := 0) (C := RX6) (as := [.int x2]) (st := [.int x1]) hX zhc2 hPW sn96 so96 rfl gX6_suspectsNow_X6_whenOf rfl rfl rfl ydX6_whenOf (by decide) (Nat.le_of_ble_eq_true rfl) (by decide) dX6_suspectsNow_17 rfl rfl ?_
    have kJ : G X 0 0 30 [(0, .ref 96), (1, .int x1), (2, .int x2)] [.int (if zr3 = 0 then 0 else jshl 1 x2 : Int32), .int x1] (HM X I zL4 p) := by
      refine g_ior hX dX6_suspectsNow_30 ?_
      refine g_istore_n (ls' := [(0, .ref 96), (1, .int (x1 ||| (if zr3 = 0 then 0 else jshl 1 x2 : Int32))), (2, .int x2)]) hX dX6_suspectsNow_31 rfl (by decide) rfl ?_
      refine g_iinc (v := x2 + 1) (ls' := [(0, .ref 96), (1, .int (x1 ||| (if zr3 = 0 then 0 else jshl 1 x2 : Int32))), (2, .int (x2 + 1))]) hX 2 rfl dX6_suspectsNow_32 rfl (by decide) rfl ?_
      refine g_goto (tgt := 4) hX dX6_suspectsNow_35 (by decide) ?_
      exact k
    refine g_if_ne (tgt := 27) hX dX6_suspectsNow_20 (by decide) (fun h => ?_) (fun h => ?_)
    · rw [(show (if zr3 = 0 then 0 else jshl 1 x2 : Int32) = (jshl 1 x2) from if_neg h)] at kJ
      refine g_iconst (v := 1) hX dX6_suspectsNow_27 (by decide) ?_
      refine g_iload_n hX 2 rfl rfl dX6_suspectsNow_28 ?_
      refine g_ishl hX dX6_suspectsNow_29 ?_
      exact kJ
    · rw [(show (if zr3 = 0 then 0 else jshl 1 x2 : Int32) = 0 from if_pos h)] at kJ
      refine g_iconst (v := 0) hX dX6_suspectsNow_23 (by decide) ?_
      refine g_goto (tgt := 30) hX dX6_suspectsNow_24 (by decide) ?_
      exact kJ
set_option maxRecDepth 4000 in
theorem RX6_suspects_0 {X : XT} {I : MI} {L : ML} {p : Nat → Nat}  (hX : Cx X cX6_suspects 1 RX6 wsX6_suspects rmX6_suspects)  (k : (∃ (zr2 : Int32) (zL3 : ML), Ct (xE X) (xl X) yX6_suspectsNow wsX6_suspectsNow rmX6_suspectsNow [.ref 96] (HM X I L p) (some (.int zr2)) (HM X I zL3 p) ∧ Rt X (some .int) rmX6_suspects (some (.int zr2)) (HM X I zL3 p))) : G X 0 0 0 [(0, .ref 96)] [] (HM X I L p) := by
  refine g_aload_n hX 0 rfl rfl dX6_suspects_0 ?_
  obtain ⟨zr2, zL3, zhc1, k⟩ := k
  refine g_callV (cs' := 0) (sl' := 0) (C := RX6) (as := []) (st := []) hX zhc1 hPW sn96 so96 rfl gX6_suspects_X6_suspectsNow rfl rfl rfl ydX6_suspectsNow (by decide) (Nat.le_of_ble_eq_true rfl) (by decide) dX6_suspects_1 rfl rfl ?_
  exact g_ireturn hX k rfl rfl dX6_suspects_4
set_option maxRecDepth 4000 in
theorem RX6_nextOf_0 {X : XT} {I : MI} {L : ML} {p : Nat → Nat}  (hX : Cx X cX6_nextOf 9 RX6 wsX6_nextOf rmX6_nextOf) (x1 : Int32) (k : (∃ (zr2 : Int32) (zL3 : ML), Ct (xE X) (xl X) yX6_suspectsNow wsX6_suspectsNow rmX6_suspectsNow [.ref 96] (HM X I L p) (some (.int zr2)) (HM X I zL3 p) ∧ G X 0 0 14 [(0, .ref 96), (1, .int x1), (2, .int zr2), (3, .int (-1)), (4, .int 11), (5, .int 0)] [] (HM X I zL3 p))) : G X 0 0 0 [(0, .ref 96), (1, .int x1)] [] (HM X I L p) := by
  refine g_aload_n hX 0 rfl rfl dX6_nextOf_0 ?_
  obtain ⟨zr2, zL3, zhc1, k⟩ := k
  refine g_callV (cs' := 0) (sl' := 0) (C := RX6) (as := []) (st := []) hX zhc1 hPW sn96 so96 rfl gX6_nextOf_X6_suspectsNow rfl rfl rfl ydX6_suspectsNow (by decide) (Nat.le_of_ble_eq_true rfl) (by decide) dX6_nextOf_1 rfl rfl ?_
  refine g_istore_n (ls' := [(0, .ref 96), (1, .int x1), (2, .int zr2)]) hX dX6_nextOf_4 rfl (by decide) rfl ?_
  refine g_iconst (v := (-1)) hX dX6_nextOf_5 (by decide) ?_
  refine g_istore_n (ls' := [(0, .ref 96), (1, .int x1), (2, .int zr2), (3, .int (-1))]) hX dX6_nextOf_6 rfl (by decide) rfl ?_
  refine g_bipush (v := 11) hX dX6_nextOf_7 (by decide) ?_
  refine g_istore (ls' := [(0, .ref 96), (1, .int x1), (2, .int zr2), (3, .int (-1)), (4, .int 11)]) hX dX6_nextOf_9 (by decide) rfl ?_
  refine g_iconst (v := 0) hX dX6_nextOf_11 (by decide) ?_
  refine g_istore (ls' := [(0, .ref 96), (1, .int x1), (2, .int zr2), (3, .int (-1)), (4, .int 11), (5, .int 0)]) hX dX6_nextOf_12 (by decide) rfl ?_
  exact k
set_option maxRecDepth 4000 in
theorem RX6_nextOf_14 {X : XT} {I : MI} {L : ML} {p : Nat → Nat}  (hX : Cx X cX6_nextOf 9 RX6 wsX6_nextOf rmX6_nextOf) (x1 : Int32) (x2 : Int32) (x3 : Int32) (x4 : Int32) (x5 : Int32) (k : (((I 97 0) ≤ x5 → ((x1 = 0 → Rt X (some .int) rmX6_nextOf (some (.int x3)) (HM X I L p)) ∧ (¬ x1 = 0 → Rt X (some .int) rmX6_nextOf (some (.int (if x3 = (-1) then x3 else x4 : Int32))) (HM X I L p)))) ∧ (¬ (I 97 0) ≤ x5 → G X 0 0 31 [(0, .ref 96), (1, .int x1), (2, .int x2), (3, .int x3), (4, .int x4), (5, .int x5), (6, .int 0), (7, .int 0)] [] (HM X I L p)))) : G X 0 0 14 [(0, .ref 96), (1, .int x1), (2, .int x2), (3, .int x3), (4, .int x4), (5, .int x5)] [] (HM X I L p) := by
  refine g_iload hX 5 rfl dX6_nextOf_14 ?_
  refine g_aload_n hX 0 rfl rfl dX6_nextOf_16 ?_
  refine g_getR (k := 0) (r' := 97) hX hPW flX6_nextOf_7 sn96 so96 rfl (k96_0 _) dX6_nextOf_17 ?_
  refine g_iconst (v := 0) hX dX6_nextOf_20 (by decide) ?_
  refine g_iald (j := 0) hX hPW sn97 sh97 rfl (by decide) (by decide) dX6_nextOf_21 ?_
  refine g_icmp_ge (tgt := 142) hX dX6_nextOf_22 (by decide) (fun h => ?_) (fun h => ?_)
  · replace k := k.1 h
    refine g_iload_n hX 1 rfl rfl dX6_nextOf_142 ?_
    refine g_if_eq (tgt := 151) hX dX6_nextOf_143 (by decide) (fun h => ?_) (fun h => ?_)
    · replace k := k.1 h
      refine g_iload_n hX 3 rfl rfl dX6_nextOf_151 ?_
      refine g_goto (tgt := 157) hX dX6_nextOf_152 (by decide) ?_
      exact g_ireturn hX k rfl rfl dX6_nextOf_157
    · replace k := k.2 h
      refine g_iload_n hX 3 rfl rfl dX6_nextOf_146 ?_
      refine g_iconst (v := (-1)) hX dX6_nextOf_147 (by decide) ?_
      have kJ : G X 0 0 157 [(0, .ref 96), (1, .int x1), (2, .int x2), (3, .int x3), (4, .int x4), (5, .int x5)] [.int (if x3 = (-1) then x3 else x4 : Int32)] (HM X I L p) := by
        exact g_ireturn hX k rfl rfl dX6_nextOf_157
      refine g_icmp_ne (tgt := 155) hX dX6_nextOf_148 (by decide) (fun h => ?_) (fun h => ?_)
      · rw [(show (if x3 = (-1) then x3 else x4 : Int32) = x4 from if_neg h)] at kJ
        refine g_iload hX 4 rfl dX6_nextOf_155 ?_
        exact kJ
      · rw [(show (if x3 = (-1) then x3 else x4 : Int32) = x3 from if_pos h)] at kJ
        refine g_iload_n hX 3 rfl rfl dX6_nextOf_151 ?_
        refine g_goto (tgt := 157) hX dX6_nextOf_152 (by decide) ?_
        exact kJ
  · replace k := k.2 h
    refine g_iconst (v := 0) hX dX6_nextOf_25 (by decide) ?_
    refine g_istore (ls' := [(0, .ref 96), (1, .int x1), (2, .int x2), (3, .int x3), (4, .int x4), (5, .int x5), (6, .int 0)]) hX dX6_nextOf_26 (by decide) rfl ?_
    refine g_iconst (v := 0) hX dX6_nextOf_28 (by decide) ?_
    refine g_istore (ls' := [(0, .ref 96), (1, .int x1), (2, .int x2), (3, .int x3), (4, .int x4), (5, .int x5), (6, .int 0), (7, .int 0)]) hX dX6_nextOf_29 (by decide) rfl ?_
    exact k
set_option maxRecDepth 4000 in
theorem RX6_nextOf_31 {X : XT} {I : MI} {L : ML} {p : Nat → Nat}  (hX : Cx X cX6_nextOf 9 RX6 wsX6_nextOf rmX6_nextOf) (x1 : Int32) (x2 : Int32) (x3 : Int32) (x4 : Int32) (x5 : Int32) (x6 : Int32) (x7 : Int32) (k : (((I 97 0) ≤ x7 → (∃ (zr3 : Int32), Ct (xE X) (xl X) yX6_ones wsX6_ones rmX6_ones [.int x2] (HM X I L p) (some (.int zr3)) (HM X I L p) ∧ G X 0 0 14 [(0, .ref 96), (1, .int x1), (2, .int x2), (3, .int (if x4 ≤ (if x6 ≤ (zr3 - x6) then zr3 - x6 else x6 : Int32) then x3 else x5 : Int32)), (4, .int (if x4 ≤ (if x6 ≤ (zr3 - x6) then zr3 - x6 else x6 : Int32) then x4 else (if x6 ≤ (zr3 - x6) then zr3 - x6 else x6 : Int32) : Int32)), (5, .int (x5 + 1))] [] (HM X I L p))) ∧ (¬ (I 97 0) ≤ x7 → (∃ (zr5 : Int32), Ct (xE X) (xl X) yX6_has wsX6_has rmX6_has [.int x2, .int x7] (HM X I L p) (some (.int zr5)) (HM X I L p) ∧ ((zr5 = 0 → G X 0 0 31 [(0, .ref 96), (1, .int x1), (2, .int x2), (3, .int x3), (4, .int x4), (5, .int x5), (6, .int (x6 + 0)), (7, .int (x7 + 1))] [] (HM X I L p)) ∧ (¬ zr5 = 0 → (∃ (zr7 : Int32), Ct (xE X) (xl X) yX6_below wsX6_below rmX6_below [.ref 96, .int x7] (HM X I L p) (some (.int zr7)) (HM X I L p) ∧ (∃ (zr9 : Int32), Ct (xE X) (xl X) yX6_has wsX6_has rmX6_has [.int zr7, .int x5] (HM X I L p) (some (.int zr9)) (HM X I L p) ∧ G X 0 0 31 [(0, .ref 96), (1, .int x1), (2, .int x2), (3, .int x3), (4, .int x4), (5, .int x5), (6, .int (x6 + (if zr9 = 0 then 0 else 1 : Int32))), (7, .int (x7 + 1))] [] (HM X I L p))))))))) : G X 0 0 31 [(0, .ref 96), (1, .int x1), (2, .int x2), (3, .int x3), (4, .int x4), (5, .int x5), (6, .int x6), (7, .int x7)] [] (HM X I L p) := by
  refine g_iload hX 7 rfl dX6_nextOf_31 ?_
  refine g_aload_n hX 0 rfl rfl dX6_nextOf_33 ?_
  refine g_getR (k := 0) (r' := 97) hX hPW flX6_nextOf_7 sn96 so96 rfl (k96_0 _) dX6_nextOf_34 ?_
  refine g_iconst (v := 0) hX dX6_nextOf_37 (by decide) ?_
  refine g_iald (j := 0) hX hPW sn97 sh97 rfl (by decide) (by decide) dX6_nextOf_38 ?_
  refine g_icmp_ge (tgt := 81) hX dX6_nextOf_39 (by decide) (fun h => ?_) (fun h => ?_)
  · replace k := k.1 h
    refine g_iload_n hX 2 rfl rfl dX6_nextOf_81 ?_
    obtain ⟨zr3, zhc2, k⟩ := k
    refine g_callS (cs' := 0) (sl' := 0) (as := [.int x2]) (st := []) hX zhc2 gX6_nextOf_X6_ones rfl rfl ydX6_ones (by decide) (Nat.le_of_ble_eq_true rfl) (by decide) dX6_nextOf_82 rfl rfl ?_
    refine g_iload hX 6 rfl dX6_nextOf_85 ?_
    refine g_isub hX dX6_nextOf_87 ?_
    refine g_istore (ls' := [(0, .ref 96), (1, .int x1), (2, .int x2), (3, .int x3), (4, .int x4), (5, .int x5), (6, .int x6), (7, .int (zr3 - x6))]) hX dX6_nextOf_88 (by decide) rfl ?_
    refine g_iload hX 6 rfl dX6_nextOf_90 ?_
    refine g_iload hX 7 rfl dX6_nextOf_92 ?_
    have kJ : G X 0 0 104 [(0, .ref 96), (1, .int x1), (2, .int x2), (3, .int x3), (4, .int x4), (5, .int x5), (6, .int x6), (7, .int (zr3 - x6))] [.int (if x6 ≤ (zr3 - x6) then zr3 - x6 else x6 : Int32)] (HM X I L p) := by
      refine g_istore (ls' := [(0, .ref 96), (1, .int x1), (2, .int x2), (3, .int x3), (4, .int x4), (5, .int x5), (6, .int x6), (7, .int (zr3 - x6)), (8, .int (if x6 ≤ (zr3 - x6) then zr3 - x6 else x6 : Int32))]) hX dX6_nextOf_104 (by decide) rfl ?_
      refine g_iload hX 8 rfl dX6_nextOf_106 ?_
      refine g_iload hX 4 rfl dX6_nextOf_108 ?_
      have kJ : G X 0 0 119 [(0, .ref 96), (1, .int x1), (2, .int x2), (3, .int x3), (4, .int x4), (5, .int x5), (6, .int x6), (7, .int (zr3 - x6)), (8, .int (if x6 ≤ (zr3 - x6) then zr3 - x6 else x6 : Int32))] [.int (if x4 ≤ (if x6 ≤ (zr3 - x6) then zr3 - x6 else x6 : Int32) then x3 else x5 : Int32)] (HM X I L p) := by
        refine g_istore_n (ls' := [(0, .ref 96), (1, .int x1), (2, .int x2), (3, .int (if x4 ≤ (if x6 ≤ (zr3 - x6) then zr3 - x6 else x6 : Int32) then x3 else x5 : Int32)), (4, .int x4), (5, .int x5), (6, .int x6), (7, .int (zr3 - x6)), (8, .int (if x6 ≤ (zr3 - x6) then zr3 - x6 else x6 : Int32))]) hX dX6_nextOf_119 rfl (by decide) rfl ?_
        refine g_iload hX 8 rfl dX6_nextOf_120 ?_
        refine g_iload hX 4 rfl dX6_nextOf_122 ?_
        have kJ : G X 0 0 134 [(0, .ref 96), (1, .int x1), (2, .int x2), (3, .int (if x4 ≤ (if x6 ≤ (zr3 - x6) then zr3 - x6 else x6 : Int32) then x3 else x5 : Int32)), (4, .int x4), (5, .int x5), (6, .int x6), (7, .int (zr3 - x6)), (8, .int (if x6 ≤ (zr3 - x6) then zr3 - x6 else x6 : Int32))] [.int (if x4 ≤ (if x6 ≤ (zr3 - x6) then zr3 - x6 else x6 : Int32) then x4 else (if x6 ≤ (zr3 - x6) then zr3 - x6 else x6 : Int32) : Int32)] (HM X I L p) := by
          refine g_istore (ls' := [(0, .ref 96), (1, .int x1), (2, .int x2), (3, .int (if x4 ≤ (if x6 ≤ (zr3 - x6) then zr3 - x6 else x6 : Int32) then x3 else x5 : Int32)), (4, .int (if x4 ≤ (if x6 ≤ (zr3 - x6) then zr3 - x6 else x6 : Int32) then x4 else (if x6 ≤ (zr3 - x6) then zr3 - x6 else x6 : Int32) : Int32)), (5, .int x5), (6, .int x6), (7, .int (zr3 - x6)), (8, .int (if x6 ≤ (zr3 - x6) then zr3 - x6 else x6 : Int32))]) hX dX6_nextOf_134 (by decide) rfl ?_
          refine g_iinc (v := x5 + 1) (ls' := [(0, .ref 96), (1, .int x1), (2, .int x2), (3, .int (if x4 ≤ (if x6 ≤ (zr3 - x6) then zr3 - x6 else x6 : Int32) then x3 else x5 : Int32)), (4, .int (if x4 ≤ (if x6 ≤ (zr3 - x6) then zr3 - x6 else x6 : Int32) then x4 else (if x6 ≤ (zr3 - x6) then zr3 - x6 else x6 : Int32) : Int32)), (5, .int (x5 + 1)), (6, .int x6), (7, .int (zr3 - x6)), (8, .int (if x6 ≤ (zr3 - x6) then zr3 - x6 else x6 : Int32))]) hX 5 rfl dX6_nextOf_136 rfl (by decide) rfl ?_
          refine g_goto (tgt := 14) hX dX6_nextOf_139 (by decide) ?_
          refine G.pick (ks := [0, 1, 2, 3, 4, 5]) (ls' := [(0, .ref 96), (1, .int x1), (2, .int x2), (3, .int (if x4 ≤ (if x6 ≤ (zr3 - x6) then zr3 - x6 else x6 : Int32) then x3 else x5 : Int32)), (4, .int (if x4 ≤ (if x6 ≤ (zr3 - x6) then zr3 - x6 else x6 : Int32) then x4 else (if x6 ≤ (zr3 - x6) then zr3 - x6 else x6 : Int32) : Int32)), (5, .int (x5 + 1))]) rfl ?_
          exact k
        refine g_icmp_ge (tgt := 132) hX dX6_nextOf_124 (by decide) (fun h => ?_) (fun h => ?_)
        · rw [(show (if x4 ≤ (if x6 ≤ (zr3 - x6) then zr3 - x6 else x6 : Int32) then x4 else (if x6 ≤ (zr3 - x6) then zr3 - x6 else x6 : Int32) : Int32) = x4 from if_pos h)] at kJ
          refine g_iload hX 4 rfl dX6_nextOf_132 ?_
          exact kJ
        · rw [(show (if x4 ≤ (if x6 ≤ (zr3 - x6) then zr3 - x6 else x6 : Int32) then x4 else (if x6 ≤ (zr3 - x6) then zr3 - x6 else x6 : Int32) : Int32) = (if x6 ≤ (zr3 - x6) then zr3 - x6 else x6 : Int32) from if_neg h)] at kJ
          refine g_iload hX 8 rfl dX6_nextOf_127 ?_
          refine g_goto (tgt := 134) hX dX6_nextOf_129 (by decide) ?_
          exact kJ
      refine g_icmp_ge (tgt := 118) hX dX6_nextOf_110 (by decide) (fun h => ?_) (fun h => ?_)
      · rw [(show (if x4 ≤ (if x6 ≤ (zr3 - x6) then zr3 - x6 else x6 : Int32) then x3 else x5 : Int32) = x3 from if_pos h)] at kJ
        refine g_iload_n hX 3 rfl rfl dX6_nextOf_118 ?_
        exact kJ
      · rw [(show (if x4 ≤ (if x6 ≤ (zr3 - x6) then zr3 - x6 else x6 : Int32) then x3 else x5 : Int32) = x5 from if_neg h)] at kJ
        refine g_iload hX 5 rfl dX6_nextOf_113 ?_
        refine g_goto (tgt := 119) hX dX6_nextOf_115 (by decide) ?_
        exact kJ
    refine g_icmp_le (tgt := 102) hX dX6_nextOf_94 (by decide) (fun h => ?_) (fun h => ?_)
    · rw [(show (if x6 ≤ (zr3 - x6) then zr3 - x6 else x6 : Int32) = (zr3 - x6) from if_pos h)] at kJ
      refine g_iload hX 7 rfl dX6_nextOf_102 ?_
      exact kJ
    · rw [(show (if x6 ≤ (zr3 - x6) then zr3 - x6 else x6 : Int32) = x6 from if_neg h)] at kJ
      refine g_iload hX 6 rfl dX6_nextOf_97 ?_
      refine g_goto (tgt := 104) hX dX6_nextOf_99 (by decide) ?_
      exact kJ
  · replace k := k.2 h
    refine g_iload hX 6 rfl dX6_nextOf_42 ?_
    refine g_iload_n hX 2 rfl rfl dX6_nextOf_44 ?_
    refine g_iload hX 7 rfl dX6_nextOf_45 ?_
    obtain ⟨zr5, zhc4, k⟩ := k
    refine g_callS (cs' := 0) (sl' := 0) (as := [.int x2, .int x7]) (st := [.int x6]) hX zhc4 gX6_nextOf_X6_has rfl rfl ydX6_has (by decide) (Nat.le_of_ble_eq_true rfl) (by decide) dX6_nextOf_47 rfl rfl ?_
    refine g_if_eq (tgt := 71) hX dX6_nextOf_50 (by decide) (fun h => ?_) (fun h => ?_)
    · replace k := k.1 h
      refine g_iconst (v := 0) hX dX6_nextOf_71 (by decide) ?_
      refine g_iadd hX dX6_nextOf_72 ?_
      refine g_istore (ls' := [(0, .ref 96), (1, .int x1), (2, .int x2), (3, .int x3), (4, .int x4), (5, .int x5), (6, .int (x6 + 0)), (7, .int x7)]) hX dX6_nextOf_73 (by decide) rfl ?_
      refine g_iinc (v := x7 + 1) (ls' := [(0, .ref 96), (1, .int x1), (2, .int x2), (3, .int x3), (4, .int x4), (5, .int x5), (6, .int (x6 + 0)), (7, .int (x7 + 1))]) hX 7 rfl dX6_nextOf_75 rfl (by decide) rfl ?_
      refine g_goto (tgt := 31) hX dX6_nextOf_78 (by decide) ?_
      exact k
    · replace k := k.2 h
      refine g_aload_n hX 0 rfl rfl dX6_nextOf_53 ?_
      refine g_iload hX 7 rfl dX6_nextOf_54 ?_
      obtain ⟨zr7, zhc6, k⟩ := k
      refine g_callV (cs' := 0) (sl' := 0) (C := RX6) (as := [.int x7]) (st := [.int x6]) hX zhc6 hPW sn96 so96 rfl gX6_nextOf_X6_below rfl rfl rfl ydX6_below (by decide) (Nat.le_of_ble_eq_true rfl) (by decide) dX6_nextOf_56 rfl rfl ?_
      refine g_iload hX 5 rfl dX6_nextOf_59 ?_
      obtain ⟨zr9, zhc8, k⟩ := k
      refine g_callS (cs' := 0) (sl' := 0) (as := [.int zr7, .int x5]) (st := [.int x6]) hX zhc8 gX6_nextOf_X6_has rfl rfl ydX6_has (by decide) (Nat.le_of_ble_eq_true rfl) (by decide) dX6_nextOf_61 rfl rfl ?_
      have kJ : G X 0 0 72 [(0, .ref 96), (1, .int x1), (2, .int x2), (3, .int x3), (4, .int x4), (5, .int x5), (6, .int x6), (7, .int x7)] [.int (if zr9 = 0 then 0 else 1 : Int32), .int x6] (HM X I L p) := by
        refine g_iadd hX dX6_nextOf_72 ?_
        refine g_istore (ls' := [(0, .ref 96), (1, .int x1), (2, .int x2), (3, .int x3), (4, .int x4), (5, .int x5), (6, .int (x6 + (if zr9 = 0 then 0 else 1 : Int32))), (7, .int x7)]) hX dX6_nextOf_73 (by decide) rfl ?_
        refine g_iinc (v := x7 + 1) (ls' := [(0, .ref 96), (1, .int x1), (2, .int x2), (3, .int x3), (4, .int x4), (5, .int x5), (6, .int (x6 + (if zr9 = 0 then 0 else 1 : Int32))), (7, .int (x7 + 1))]) hX 7 rfl dX6_nextOf_75 rfl (by decide) rfl ?_
        refine g_goto (tgt := 31) hX dX6_nextOf_78 (by decide) ?_
        exact k
      refine g_if_eq (tgt := 71) hX dX6_nextOf_64 (by decide) (fun h => ?_) (fun h => ?_)
      · rw [(show (if zr9 = 0 then 0 else 1 : Int32) = 0 from if_pos h)] at kJ
        refine g_iconst (v := 0) hX dX6_nextOf_71 (by decide) ?_
        exact kJ
      · rw [(show (if zr9 = 0 then 0 else 1 : Int32) = 1 from if_neg h)] at kJ
        refine g_iconst (v := 1) hX dX6_nextOf_67 (by decide) ?_
        refine g_goto (tgt := 72) hX dX6_nextOf_68 (by decide) ?_
        exact kJ
set_option maxRecDepth 4000 in
theorem RX6_next_0 {X : XT} {I : MI} {L : ML} {p : Nat → Nat}  (hX : Cx X cX6_next 2 RX6 wsX6_next rmX6_next) (x1 : Int32) (k : (∃ (zr2 : Int32), Ct (xE X) (xl X) yX6_in wsX6_in rmX6_in [.int x1, .int 0, .int 1] (HM X I L p) (some (.int zr2)) (HM X I L p) ∧ ((zr2 = 0 → (∃ (zr4 : Int32) (zI5 : MI), Ct (xE X) (xl X) yX6_refuses wsX6_refuses rmX6_refuses [.ref 96, .int (-2)] (HM X I L p) (some (.int zr4)) (HM X zI5 L p) ∧ Rt X (some .int) rmX6_next (some (.int zr4)) (HM X zI5 L p))) ∧ (¬ zr2 = 0 → (∃ (zr7 : Int32) (zL8 : ML), Ct (xE X) (xl X) yX6_nextOf wsX6_nextOf rmX6_nextOf [.ref 96, .int x1] (HM X I L p) (some (.int zr7)) (HM X I zL8 p) ∧ Rt X (some .int) rmX6_next (some (.int zr7)) (HM X I zL8 p)))))) : G X 0 0 0 [(0, .ref 96), (1, .int x1)] [] (HM X I L p) := by
  refine g_iload_n hX 1 rfl rfl dX6_next_0 ?_
  refine g_iconst (v := 0) hX dX6_next_1 (by decide) ?_
  refine g_iconst (v := 1) hX dX6_next_2 (by decide) ?_
  obtain ⟨zr2, zhc1, k⟩ := k
  refine g_callS (cs' := 0) (sl' := 0) (as := [.int x1, .int 0, .int 1]) (st := []) hX zhc1 gX6_next_X6_in rfl rfl ydX6_in (by decide) (Nat.le_of_ble_eq_true rfl) (by decide) dX6_next_3 rfl rfl ?_
  refine g_if_eq (tgt := 17) hX dX6_next_6 (by decide) (fun h => ?_) (fun h => ?_)
  · replace k := k.1 h
    refine g_aload_n hX 0 rfl rfl dX6_next_17 ?_
    refine g_bipush (v := (-2)) hX dX6_next_18 (by decide) ?_
    obtain ⟨zr4, zI5, zhc3, k⟩ := k
    refine g_callV (cs' := 0) (sl' := 0) (C := RX6) (as := [.int (-2)]) (st := []) hX zhc3 hPW sn96 so96 rfl gX6_next_X6_refuses rfl rfl rfl ydX6_refuses (by decide) (Nat.le_of_ble_eq_true rfl) (by decide) dX6_next_20 rfl rfl ?_
    exact g_ireturn hX k rfl rfl dX6_next_23
  · replace k := k.2 h
    refine g_aload_n hX 0 rfl rfl dX6_next_9 ?_
    refine g_iload_n hX 1 rfl rfl dX6_next_10 ?_
    obtain ⟨zr7, zL8, zhc6, k⟩ := k
    refine g_callV (cs' := 0) (sl' := 0) (C := RX6) (as := [.int x1]) (st := []) hX zhc6 hPW sn96 so96 rfl gX6_next_X6_nextOf rfl rfl rfl ydX6_nextOf (by decide) (Nat.le_of_ble_eq_true rfl) (by decide) dX6_next_11 rfl rfl ?_
    refine g_goto (tgt := 23) hX dX6_next_14 (by decide) ?_
    exact g_ireturn hX k rfl rfl dX6_next_23
set_option maxRecDepth 4000 in
theorem RX6_findBelows_0 {X : XT} {I : MI} {L : ML} {p : Nat → Nat}  (hX : Cx X cX6_findBelows 2 RX6 wsX6_findBelows rmX6_findBelows)  (k : G X 0 0 2 [(0, .ref 96), (1, .int 0)] [] (HM X I L p)) : G X 0 0 0 [(0, .ref 96)] [] (HM X I L p) := by
  refine g_iconst (v := 0) hX dX6_findBelows_0 (by decide) ?_
  refine g_istore_n (ls' := [(0, .ref 96), (1, .int 0)]) hX dX6_findBelows_1 rfl (by decide) rfl ?_
  exact k
set_option maxRecDepth 4000 in
theorem RX6_findBelows_2 {X : XT} {I : MI} {L : ML} {p : Nat → Nat}  (hX : Cx X cX6_findBelows 2 RX6 wsX6_findBelows rmX6_findBelows) (x1 : Int32) (k : (((I 97 0) ≤ x1 → Rt X none rmX6_findBelows none (HM X I L p)) ∧ (¬ (I 97 0) ≤ x1 → (∃ (zr3 : Int32), Ct (xE X) (xl X) yX6_below wsX6_below rmX6_below [.ref 96, .int x1] (HM X I L p) (some (.int zr3)) (HM X I L p) ∧ (∃ zj5 : Nat, x1 = nI zj5 ∧ zj5 < 10 ∧ G X 0 0 2 [(0, .ref 96), (1, .int (x1 + 1))] [] (HM X (upI I 102 zj5 zr3) L p)))))) : G X 0 0 2 [(0, .ref 96), (1, .int x1)] [] (HM X I L p) := by
  refine g_iload_n hX 1 rfl rfl dX6_findBelows_2 ?_
  refine g_aload_n hX 0 rfl rfl dX6_findBelows_3 ?_
  refine g_getR (k := 0) (r' := 97) hX hPW flX6_findBelows_7 sn96 so96 rfl (k96_0 _) dX6_findBelows_4 ?_
  refine g_iconst (v := 0) hX dX6_findBelows_7 (by decide) ?_
  refine g_iald (j := 0) hX hPW sn97 sh97 rfl (by decide) (by decide) dX6_findBelows_8 ?_
  refine g_icmp_ge (tgt := 29) hX dX6_findBelows_9 (by decide) (fun h => ?_) (fun h => ?_)
  · replace k := k.1 h
    exact g_return hX k rfl rfl dX6_findBelows_29
  · replace k := k.2 h
    refine g_aload_n hX 0 rfl rfl dX6_findBelows_12 ?_
    refine g_getR (k := 6) (r' := 102) hX hPW flX6_findBelows_26 sn96 so96 rfl (k96_6 _) dX6_findBelows_13 ?_
    refine g_iload_n hX 1 rfl rfl dX6_findBelows_16 ?_
    refine g_aload_n hX 0 rfl rfl dX6_findBelows_17 ?_
    refine g_iload_n hX 1 rfl rfl dX6_findBelows_18 ?_
    obtain ⟨zr3, zhc2, k⟩ := k
    refine g_callV (cs' := 0) (sl' := 0) (C := RX6) (as := [.int x1]) (st := [.int x1, .ref 102]) hX zhc2 hPW sn96 so96 rfl gX6_findBelows_X6_below rfl rfl rfl ydX6_below (by decide) (Nat.le_of_ble_eq_true rfl) (by decide) dX6_findBelows_19 rfl rfl ?_
    obtain ⟨zj5, zh4, zh6, k⟩ := k
    refine g_iast hX sn102 sh102 zh4 zh6 (by decide) dX6_findBelows_22 ?_
    refine g_iinc (v := x1 + 1) (ls' := [(0, .ref 96), (1, .int (x1 + 1))]) hX 1 rfl dX6_findBelows_23 rfl (by decide) rfl ?_
    refine g_goto (tgt := 2) hX dX6_findBelows_26 (by decide) ?_
    exact k
set_option maxRecDepth 4000 in
theorem RX6_alikeBy_0 {X : XT} {I : MI} {L : ML} {p : Nat → Nat}  (hX : Cx X cX6_alikeBy 5 RX6 wsX6_alikeBy rmX6_alikeBy) (x1 : Int32) (k : G X 0 0 4 [(0, .ref 96), (1, .int x1), (2, .int 0), (3, .int 0)] [] (HM X I L p)) : G X 0 0 0 [(0, .ref 96), (1, .int x1)] [] (HM X I L p) := by
  refine g_iconst (v := 0) hX dX6_alikeBy_0 (by decide) ?_
  refine g_istore_n (ls' := [(0, .ref 96), (1, .int x1), (2, .int 0)]) hX dX6_alikeBy_1 rfl (by decide) rfl ?_
  refine g_iconst (v := 0) hX dX6_alikeBy_2 (by decide) ?_
  refine g_istore_n (ls' := [(0, .ref 96), (1, .int x1), (2, .int 0), (3, .int 0)]) hX dX6_alikeBy_3 rfl (by decide) rfl ?_
  exact k
set_option maxRecDepth 4000 in
theorem RX6_alikeBy_4 {X : XT} {I : MI} {L : ML} {p : Nat → Nat}  (hX : Cx X cX6_alikeBy 5 RX6 wsX6_alikeBy rmX6_alikeBy) (x1 : Int32) (x2 : Int32) (x3 : Int32) (k : (((I 97 0) ≤ x3 → Rt X (some .int) rmX6_alikeBy (some (.int x2)) (HM X I L p)) ∧ (¬ (I 97 0) ≤ x3 → G X 0 0 19 [(0, .ref 96), (1, .int x1), (2, .int x2), (3, .int x3), (4, .int (x3 + 1))] [] (HM X I L p)))) : G X 0 0 4 [(0, .ref 96), (1, .int x1), (2, .int x2), (3, .int x3)] [] (HM X I L p) := by
  refine g_iload_n hX 3 rfl rfl dX6_alikeBy_4 ?_
  refine g_aload_n hX 0 rfl rfl dX6_alikeBy_5 ?_
  refine g_getR (k := 0) (r' := 97) hX hPW flX6_alikeBy_7 sn96 so96 rfl (k96_0 _) dX6_alikeBy_6 ?_
  refine g_iconst (v := 0) hX dX6_alikeBy_9 (by decide) ?_
  refine g_iald (j := 0) hX hPW sn97 sh97 rfl (by decide) (by decide) dX6_alikeBy_10 ?_
  refine g_icmp_ge (tgt := 70) hX dX6_alikeBy_11 (by decide) (fun h => ?_) (fun h => ?_)
  · replace k := k.1 h
    refine g_iload_n hX 2 rfl rfl dX6_alikeBy_70 ?_
    exact g_ireturn hX k rfl rfl dX6_alikeBy_71
  · replace k := k.2 h
    refine g_iload_n hX 3 rfl rfl dX6_alikeBy_14 ?_
    refine g_iconst (v := 1) hX dX6_alikeBy_15 (by decide) ?_
    refine g_iadd hX dX6_alikeBy_16 ?_
    refine g_istore (ls' := [(0, .ref 96), (1, .int x1), (2, .int x2), (3, .int x3), (4, .int (x3 + 1))]) hX dX6_alikeBy_17 (by decide) rfl ?_
    exact k
set_option maxRecDepth 4000 in
theorem RX6_alikeBy_19 {X : XT} {I : MI} {L : ML} {p : Nat → Nat}  (hX : Cx X cX6_alikeBy 5 RX6 wsX6_alikeBy rmX6_alikeBy) (x1 : Int32) (x2 : Int32) (x3 : Int32) (x4 : Int32) (k : (((I 97 0) ≤ x4 → G X 0 0 4 [(0, .ref 96), (1, .int x1), (2, .int x2), (3, .int (x3 + 1))] [] (HM X I L p)) ∧ (¬ (I 97 0) ≤ x4 → (∃ zj3 : Nat, x3 = nI zj3 ∧ zj3 < 10 ∧ (∃ zj6 : Nat, x4 = nI zj6 ∧ zj6 < 10 ∧ G X 0 0 19 [(0, .ref 96), (1, .int x1), (2, .int (x2 + (if ((I 102 zj3) &&& x1) = ((I 102 zj6) &&& x1) then 1 else 0 : Int32))), (3, .int x3), (4, .int (x4 + 1))] [] (HM X I L p)))))) : G X 0 0 19 [(0, .ref 96), (1, .int x1), (2, .int x2), (3, .int x3), (4, .int x4)] [] (HM X I L p) := by
  refine g_iload hX 4 rfl dX6_alikeBy_19 ?_
  refine g_aload_n hX 0 rfl rfl dX6_alikeBy_21 ?_
  refine g_getR (k := 0) (r' := 97) hX hPW flX6_alikeBy_7 sn96 so96 rfl (k96_0 _) dX6_alikeBy_22 ?_
  refine g_iconst (v := 0) hX dX6_alikeBy_25 (by decide) ?_
  refine g_iald (j := 0) hX hPW sn97 sh97 rfl (by decide) (by decide) dX6_alikeBy_26 ?_
  refine g_icmp_ge (tgt := 64) hX dX6_alikeBy_27 (by decide) (fun h => ?_) (fun h => ?_)
  · replace k := k.1 h
    refine g_iinc (v := x3 + 1) (ls' := [(0, .ref 96), (1, .int x1), (2, .int x2), (3, .int (x3 + 1)), (4, .int x4)]) hX 3 rfl dX6_alikeBy_64 rfl (by decide) rfl ?_
    refine g_goto (tgt := 4) hX dX6_alikeBy_67 (by decide) ?_
    refine G.pick (ks := [0, 1, 2, 3]) (ls' := [(0, .ref 96), (1, .int x1), (2, .int x2), (3, .int (x3 + 1))]) rfl ?_
    exact k
  · replace k := k.2 h
    refine g_iload_n hX 2 rfl rfl dX6_alikeBy_30 ?_
    refine g_aload_n hX 0 rfl rfl dX6_alikeBy_31 ?_
    refine g_getR (k := 6) (r' := 102) hX hPW flX6_alikeBy_26 sn96 so96 rfl (k96_6 _) dX6_alikeBy_32 ?_
    refine g_iload_n hX 3 rfl rfl dX6_alikeBy_35 ?_
    obtain ⟨zj3, zh2, zh4, k⟩ := k
    refine g_iald hX hPW sn102 sh102 zh2 zh4 (by decide) dX6_alikeBy_36 ?_
    refine g_iload_n hX 1 rfl rfl dX6_alikeBy_37 ?_
    refine g_iand hX dX6_alikeBy_38 ?_
    refine g_aload_n hX 0 rfl rfl dX6_alikeBy_39 ?_
    refine g_getR (k := 6) (r' := 102) hX hPW flX6_alikeBy_26 sn96 so96 rfl (k96_6 _) dX6_alikeBy_40 ?_
    refine g_iload hX 4 rfl dX6_alikeBy_43 ?_
    obtain ⟨zj6, zh5, zh7, k⟩ := k
    refine g_iald hX hPW sn102 sh102 zh5 zh7 (by decide) dX6_alikeBy_45 ?_
    refine g_iload_n hX 1 rfl rfl dX6_alikeBy_46 ?_
    refine g_iand hX dX6_alikeBy_47 ?_
    have kJ : G X 0 0 56 [(0, .ref 96), (1, .int x1), (2, .int x2), (3, .int x3), (4, .int x4)] [.int (if ((I 102 zj3) &&& x1) = ((I 102 zj6) &&& x1) then 1 else 0 : Int32), .int x2] (HM X I L p) := by
      refine g_iadd hX dX6_alikeBy_56 ?_
      refine g_istore_n (ls' := [(0, .ref 96), (1, .int x1), (2, .int (x2 + (if ((I 102 zj3) &&& x1) = ((I 102 zj6) &&& x1) then 1 else 0 : Int32))), (3, .int x3), (4, .int x4)]) hX dX6_alikeBy_57 rfl (by decide) rfl ?_
      refine g_iinc (v := x4 + 1) (ls' := [(0, .ref 96), (1, .int x1), (2, .int (x2 + (if ((I 102 zj3) &&& x1) = ((I 102 zj6) &&& x1) then 1 else 0 : Int32))), (3, .int x3), (4, .int (x4 + 1))]) hX 4 rfl dX6_alikeBy_58 rfl (by decide) rfl ?_
      refine g_goto (tgt := 19) hX dX6_alikeBy_61 (by decide) ?_
      exact k
    refine g_icmp_ne (tgt := 55) hX dX6_alikeBy_48 (by decide) (fun h => ?_) (fun h => ?_)
    · rw [(show (if ((I 102 zj3) &&& x1) = ((I 102 zj6) &&& x1) then 1 else 0 : Int32) = 0 from if_neg h)] at kJ
      refine g_iconst (v := 0) hX dX6_alikeBy_55 (by decide) ?_
      exact kJ
    · rw [(show (if ((I 102 zj3) &&& x1) = ((I 102 zj6) &&& x1) then 1 else 0 : Int32) = 1 from if_pos h)] at kJ
      refine g_iconst (v := 1) hX dX6_alikeBy_51 (by decide) ?_
      refine g_goto (tgt := 56) hX dX6_alikeBy_52 (by decide) ?_
      exact kJ
set_option maxRecDepth 4000 in
theorem RX6_alike_0 {X : XT} {I : MI} {L : ML} {p : Nat → Nat}  (hX : Cx X cX6_alike 2 RX6 wsX6_alike rmX6_alike) (x1 : Int32) (k : (∃ (zr3 : Int32), Ct (xE X) (xl X) yX6_in wsX6_in rmX6_in [.int x1, .int 0, .int ((jshl 1 (I 97 0)) - 1)] (HM X I L p) (some (.int zr3)) (HM X I L p) ∧ ((¬ zr3 = 0 → (∃ (zI5 : MI), Ct (xE X) (xl X) yX6_findBelows wsX6_findBelows rmX6_findBelows [.ref 96] (HM X I L p) none (HM X zI5 L p) ∧ (∃ (zr7 : Int32), Ct (xE X) (xl X) yX6_alikeBy wsX6_alikeBy rmX6_alikeBy [.ref 96, .int x1] (HM X zI5 L p) (some (.int zr7)) (HM X zI5 L p) ∧ Rt X (some .int) rmX6_alike (some (.int zr7)) (HM X zI5 L p)))) ∧ (zr3 = 0 → (∃ (zr9 : Int32) (zI10 : MI), Ct (xE X) (xl X) yX6_refuses wsX6_refuses rmX6_refuses [.ref 96, .int (-2)] (HM X I L p) (some (.int zr9)) (HM X zI10 L p) ∧ Rt X (some .int) rmX6_alike (some (.int zr9)) (HM X zI10 L p)))))) : G X 0 0 0 [(0, .ref 96), (1, .int x1)] [] (HM X I L p) := by
  refine g_iload_n hX 1 rfl rfl dX6_alike_0 ?_
  refine g_iconst (v := 0) hX dX6_alike_1 (by decide) ?_
  refine g_iconst (v := 1) hX dX6_alike_2 (by decide) ?_
  refine g_aload_n hX 0 rfl rfl dX6_alike_3 ?_
  refine g_getR (k := 0) (r' := 97) hX hPW flX6_alike_7 sn96 so96 rfl (k96_0 _) dX6_alike_4 ?_
  refine g_iconst (v := 0) hX dX6_alike_7 (by decide) ?_
  refine g_iald (j := 0) hX hPW sn97 sh97 rfl (by decide) (by decide) dX6_alike_8 ?_
  refine g_ishl hX dX6_alike_9 ?_
  refine g_iconst (v := 1) hX dX6_alike_10 (by decide) ?_
  refine g_isub hX dX6_alike_11 ?_
  obtain ⟨zr3, zhc2, k⟩ := k
  refine g_callS (cs' := 0) (sl' := 0) (as := [.int x1, .int 0, .int ((jshl 1 (I 97 0)) - 1)]) (st := []) hX zhc2 gX6_alike_X6_in rfl rfl ydX6_in (by decide) (Nat.le_of_ble_eq_true rfl) (by decide) dX6_alike_12 rfl rfl ?_
  refine g_if_ne (tgt := 25) hX dX6_alike_15 (by decide) (fun h => ?_) (fun h => ?_)
  · replace k := k.1 h
    refine g_aload_n hX 0 rfl rfl dX6_alike_25 ?_
    obtain ⟨zI5, zhc4, k⟩ := k
    refine g_callV (cs' := 0) (sl' := 0) (C := RX6) (as := []) (st := []) hX zhc4 hPW sn96 so96 rfl gX6_alike_X6_findBelows rfl rfl rfl ydX6_findBelows (by decide) (Nat.le_of_ble_eq_true rfl) (by decide) dX6_alike_26 rfl rfl ?_
    refine g_aload_n hX 0 rfl rfl dX6_alike_29 ?_
    refine g_iload_n hX 1 rfl rfl dX6_alike_30 ?_
    obtain ⟨zr7, zhc6, k⟩ := k
    refine g_callV (cs' := 0) (sl' := 0) (C := RX6) (as := [.int x1]) (st := []) hX zhc6 hPW sn96 so96 rfl gX6_alike_X6_alikeBy rfl rfl rfl ydX6_alikeBy (by decide) (Nat.le_of_ble_eq_true rfl) (by decide) dX6_alike_31 rfl rfl ?_
    exact g_ireturn hX k rfl rfl dX6_alike_34
  · replace k := k.2 h
    refine g_aload_n hX 0 rfl rfl dX6_alike_18 ?_
    refine g_bipush (v := (-2)) hX dX6_alike_19 (by decide) ?_
    obtain ⟨zr9, zI10, zhc8, k⟩ := k
    refine g_callV (cs' := 0) (sl' := 0) (C := RX6) (as := [.int (-2)]) (st := []) hX zhc8 hPW sn96 so96 rfl gX6_alike_X6_refuses rfl rfl rfl ydX6_refuses (by decide) (Nat.le_of_ble_eq_true rfl) (by decide) dX6_alike_21 rfl rfl ?_
    exact g_ireturn hX k rfl rfl dX6_alike_24
set_option maxRecDepth 4000 in
theorem RX6_sensorsOf_0 {X : XT} {I : MI} {L : ML} {p : Nat → Nat}  (hX : Cx X cX6_sensorsOf 5 RX6 wsX6_sensorsOf rmX6_sensorsOf) (x1 : Int32) (k : (∃ (zI2 : MI), Ct (xE X) (xl X) yX6_findBelows wsX6_findBelows rmX6_findBelows [.ref 96] (HM X I L p) none (HM X zI2 L p) ∧ G X 0 0 12 [(0, .ref 96), (1, .int x1), (2, .int (-1)), (3, .int 11), (4, .int 0)] [] (HM X zI2 L p))) : G X 0 0 0 [(0, .ref 96), (1, .int x1)] [] (HM X I L p) := by
  refine g_aload_n hX 0 rfl rfl dX6_sensorsOf_0 ?_
  obtain ⟨zI2, zhc1, k⟩ := k
  refine g_callV (cs' := 0) (sl' := 0) (C := RX6) (as := []) (st := []) hX zhc1 hPW sn96 so96 rfl gX6_sensorsOf_X6_findBelows rfl rfl rfl ydX6_findBelows (by decide) (Nat.le_of_ble_eq_true rfl) (by decide) dX6_sensorsOf_1 rfl rfl ?_
  refine g_iconst (v := (-1)) hX dX6_sensorsOf_4 (by decide) ?_
  refine g_istore_n (ls' := [(0, .ref 96), (1, .int x1), (2, .int (-1))]) hX dX6_sensorsOf_5 rfl (by decide) rfl ?_
  refine g_bipush (v := 11) hX dX6_sensorsOf_6 (by decide) ?_
  refine g_istore_n (ls' := [(0, .ref 96), (1, .int x1), (2, .int (-1)), (3, .int 11)]) hX dX6_sensorsOf_8 rfl (by decide) rfl ?_
  refine g_iconst (v := 0) hX dX6_sensorsOf_9 (by decide) ?_
  refine g_istore (ls' := [(0, .ref 96), (1, .int x1), (2, .int (-1)), (3, .int 11), (4, .int 0)]) hX dX6_sensorsOf_10 (by decide) rfl ?_
  exact k
set_option maxRecDepth 4000 in
theorem RX6_sensorsOf_12 {X : XT} {I : MI} {L : ML} {p : Nat → Nat}  (hX : Cx X cX6_sensorsOf 5 RX6 wsX6_sensorsOf rmX6_sensorsOf) (x1 : Int32) (x2 : Int32) (x3 : Int32) (x4 : Int32) (k : (((jshl 1 (I 97 0)) ≤ x4 → ((x1 = 0 → Rt X (some .int) rmX6_sensorsOf (some (.int x2)) (HM X I L p)) ∧ (¬ x1 = 0 → Rt X (some .int) rmX6_sensorsOf (some (.int (if x2 = (-1) then x2 else x3 : Int32))) (HM X I L p)))) ∧ (¬ (jshl 1 (I 97 0)) ≤ x4 → (∃ (zr3 : Int32), Ct (xE X) (xl X) yX6_ones wsX6_ones rmX6_ones [.int x4] (HM X I L p) (some (.int zr3)) (HM X I L p) ∧ ((x3 ≤ zr3 → G X 0 0 12 [(0, .ref 96), (1, .int x1), (2, .int x2), (3, .int x3), (4, .int (x4 + 1))] [] (HM X I L p)) ∧ (¬ x3 ≤ zr3 → (∃ (zr5 : Int32), Ct (xE X) (xl X) yX6_alikeBy wsX6_alikeBy rmX6_alikeBy [.ref 96, .int x4] (HM X I L p) (some (.int zr5)) (HM X I L p) ∧ ((¬ zr5 = 0 → G X 0 0 12 [(0, .ref 96), (1, .int x1), (2, .int x2), (3, .int x3), (4, .int (x4 + 1))] [] (HM X I L p)) ∧ (zr5 = 0 → (∃ (zr7 : Int32), Ct (xE X) (xl X) yX6_ones wsX6_ones rmX6_ones [.int x4] (HM X I L p) (some (.int zr7)) (HM X I L p) ∧ G X 0 0 12 [(0, .ref 96), (1, .int x1), (2, .int x4), (3, .int zr7), (4, .int (x4 + 1))] [] (HM X I L p))))))))))) : G X 0 0 12 [(0, .ref 96), (1, .int x1), (2, .int x2), (3, .int x3), (4, .int x4)] [] (HM X I L p) := by
  refine g_iload hX 4 rfl dX6_sensorsOf_12 ?_
  refine g_iconst (v := 1) hX dX6_sensorsOf_14 (by decide) ?_
  refine g_aload_n hX 0 rfl rfl dX6_sensorsOf_15 ?_
  refine g_getR (k := 0) (r' := 97) hX hPW flX6_sensorsOf_7 sn96 so96 rfl (k96_0 _) dX6_sensorsOf_16 ?_
  refine g_iconst (v := 0) hX dX6_sensorsOf_19 (by decide) ?_
  refine g_iald (j := 0) hX hPW sn97 sh97 rfl (by decide) (by decide) dX6_sensorsOf_20 ?_
  refine g_ishl hX dX6_sensorsOf_21 ?_
  refine g_icmp_ge (tgt := 58) hX dX6_sensorsOf_22 (by decide) (fun h => ?_) (fun h => ?_)
  · replace k := k.1 h
    refine g_iload_n hX 1 rfl rfl dX6_sensorsOf_58 ?_
    refine g_if_eq (tgt := 67) hX dX6_sensorsOf_59 (by decide) (fun h => ?_) (fun h => ?_)
    · replace k := k.1 h
      refine g_iload_n hX 2 rfl rfl dX6_sensorsOf_67 ?_
      refine g_goto (tgt := 72) hX dX6_sensorsOf_68 (by decide) ?_
      exact g_ireturn hX k rfl rfl dX6_sensorsOf_72
    · replace k := k.2 h
      refine g_iload_n hX 2 rfl rfl dX6_sensorsOf_62 ?_
      refine g_iconst (v := (-1)) hX dX6_sensorsOf_63 (by decide) ?_
      have kJ : G X 0 0 72 [(0, .ref 96), (1, .int x1), (2, .int x2), (3, .int x3), (4, .int x4)] [.int (if x2 = (-1) then x2 else x3 : Int32)] (HM X I L p) := by
        exact g_ireturn hX k rfl rfl dX6_sensorsOf_72
      refine g_icmp_ne (tgt := 71) hX dX6_sensorsOf_64 (by decide) (fun h => ?_) (fun h => ?_)
      · rw [(show (if x2 = (-1) then x2 else x3 : Int32) = x3 from if_neg h)] at kJ
        refine g_iload_n hX 3 rfl rfl dX6_sensorsOf_71 ?_
        exact kJ
      · rw [(show (if x2 = (-1) then x2 else x3 : Int32) = x2 from if_pos h)] at kJ
        refine g_iload_n hX 2 rfl rfl dX6_sensorsOf_67 ?_
        refine g_goto (tgt := 72) hX dX6_sensorsOf_68 (by decide) ?_
        exact kJ
  · replace k := k.2 h
    refine g_iload hX 4 rfl dX6_sensorsOf_25 ?_
    obtain ⟨zr3, zhc2, k⟩ := k
    refine g_callS (cs' := 0) (sl' := 0) (as := [.int x4]) (st := []) hX zhc2 gX6_sensorsOf_X6_ones rfl rfl ydX6_ones (by decide) (Nat.le_of_ble_eq_true rfl) (by decide) dX6_sensorsOf_27 rfl rfl ?_
    refine g_iload_n hX 3 rfl rfl dX6_sensorsOf_30 ?_
    refine g_icmp_ge (tgt := 52) hX dX6_sensorsOf_31 (by decide) (fun h => ?_) (fun h => ?_)
    · replace k := k.1 h
      refine g_iinc (v := x4 + 1) (ls' := [(0, .ref 96), (1, .int x1), (2, .int x2), (3, .int x3), (4, .int (x4 + 1))]) hX 4 rfl dX6_sensorsOf_52 rfl (by decide) rfl ?_
      refine g_goto (tgt := 12) hX dX6_sensorsOf_55 (by decide) ?_
      exact k
    · replace k := k.2 h
      refine g_aload_n hX 0 rfl rfl dX6_sensorsOf_34 ?_
      refine g_iload hX 4 rfl dX6_sensorsOf_35 ?_
      obtain ⟨zr5, zhc4, k⟩ := k
      refine g_callV (cs' := 0) (sl' := 0) (C := RX6) (as := [.int x4]) (st := []) hX zhc4 hPW sn96 so96 rfl gX6_sensorsOf_X6_alikeBy rfl rfl rfl ydX6_alikeBy (by decide) (Nat.le_of_ble_eq_true rfl) (by decide) dX6_sensorsOf_37 rfl rfl ?_
      refine g_if_ne (tgt := 52) hX dX6_sensorsOf_40 (by decide) (fun h => ?_) (fun h => ?_)
      · replace k := k.1 h
        refine g_iinc (v := x4 + 1) (ls' := [(0, .ref 96), (1, .int x1), (2, .int x2), (3, .int x3), (4, .int (x4 + 1))]) hX 4 rfl dX6_sensorsOf_52 rfl (by decide) rfl ?_
        refine g_goto (tgt := 12) hX dX6_sensorsOf_55 (by decide) ?_
        exact k
      · replace k := k.2 h
        refine g_iload hX 4 rfl dX6_sensorsOf_43 ?_
        refine g_istore_n (ls' := [(0, .ref 96), (1, .int x1), (2, .int x4), (3, .int x3), (4, .int x4)]) hX dX6_sensorsOf_45 rfl (by decide) rfl ?_
        refine g_iload hX 4 rfl dX6_sensorsOf_46 ?_
        obtain ⟨zr7, zhc6, k⟩ := k
        refine g_callS (cs' := 0) (sl' := 0) (as := [.int x4]) (st := []) hX zhc6 gX6_sensorsOf_X6_ones rfl rfl ydX6_ones (by decide) (Nat.le_of_ble_eq_true rfl) (by decide) dX6_sensorsOf_48 rfl rfl ?_
        refine g_istore_n (ls' := [(0, .ref 96), (1, .int x1), (2, .int x4), (3, .int zr7), (4, .int x4)]) hX dX6_sensorsOf_51 rfl (by decide) rfl ?_
        refine g_iinc (v := x4 + 1) (ls' := [(0, .ref 96), (1, .int x1), (2, .int x4), (3, .int zr7), (4, .int (x4 + 1))]) hX 4 rfl dX6_sensorsOf_52 rfl (by decide) rfl ?_
        refine g_goto (tgt := 12) hX dX6_sensorsOf_55 (by decide) ?_
        exact k
set_option maxRecDepth 4000 in
theorem RX6_sensors_0 {X : XT} {I : MI} {L : ML} {p : Nat → Nat}  (hX : Cx X cX6_sensors 2 RX6 wsX6_sensors rmX6_sensors) (x1 : Int32) (k : (∃ (zr2 : Int32), Ct (xE X) (xl X) yX6_in wsX6_in rmX6_in [.int x1, .int 0, .int 1] (HM X I L p) (some (.int zr2)) (HM X I L p) ∧ ((zr2 = 0 → (∃ (zr4 : Int32) (zI5 : MI), Ct (xE X) (xl X) yX6_refuses wsX6_refuses rmX6_refuses [.ref 96, .int (-2)] (HM X I L p) (some (.int zr4)) (HM X zI5 L p) ∧ Rt X (some .int) rmX6_sensors (some (.int zr4)) (HM X zI5 L p))) ∧ (¬ zr2 = 0 → (∃ (zr7 : Int32) (zI8 : MI), Ct (xE X) (xl X) yX6_sensorsOf wsX6_sensorsOf rmX6_sensorsOf [.ref 96, .int x1] (HM X I L p) (some (.int zr7)) (HM X zI8 L p) ∧ Rt X (some .int) rmX6_sensors (some (.int zr7)) (HM X zI8 L p)))))) : G X 0 0 0 [(0, .ref 96), (1, .int x1)] [] (HM X I L p) := by
  refine g_iload_n hX 1 rfl rfl dX6_sensors_0 ?_
  refine g_iconst (v := 0) hX dX6_sensors_1 (by decide) ?_
  refine g_iconst (v := 1) hX dX6_sensors_2 (by decide) ?_
  obtain ⟨zr2, zhc1, k⟩ := k
  refine g_callS (cs' := 0) (sl' := 0) (as := [.int x1, .int 0, .int 1]) (st := []) hX zhc1 gX6_sensors_X6_in rfl rfl ydX6_in (by decide) (Nat.le_of_ble_eq_true rfl) (by decide) dX6_sensors_3 rfl rfl ?_
  refine g_if_eq (tgt := 17) hX dX6_sensors_6 (by decide) (fun h => ?_) (fun h => ?_)
  · replace k := k.1 h
    refine g_aload_n hX 0 rfl rfl dX6_sensors_17 ?_
    refine g_bipush (v := (-2)) hX dX6_sensors_18 (by decide) ?_
    obtain ⟨zr4, zI5, zhc3, k⟩ := k
    refine g_callV (cs' := 0) (sl' := 0) (C := RX6) (as := [.int (-2)]) (st := []) hX zhc3 hPW sn96 so96 rfl gX6_sensors_X6_refuses rfl rfl rfl ydX6_refuses (by decide) (Nat.le_of_ble_eq_true rfl) (by decide) dX6_sensors_20 rfl rfl ?_
    exact g_ireturn hX k rfl rfl dX6_sensors_23
  · replace k := k.2 h
    refine g_aload_n hX 0 rfl rfl dX6_sensors_9 ?_
    refine g_iload_n hX 1 rfl rfl dX6_sensors_10 ?_
    obtain ⟨zr7, zI8, zhc6, k⟩ := k
    refine g_callV (cs' := 0) (sl' := 0) (C := RX6) (as := [.int x1]) (st := []) hX zhc6 hPW sn96 so96 rfl gX6_sensors_X6_sensorsOf rfl rfl rfl ydX6_sensorsOf (by decide) (Nat.le_of_ble_eq_true rfl) (by decide) dX6_sensors_11 rfl rfl ?_
    refine g_goto (tgt := 23) hX dX6_sensors_14 (by decide) ?_
    exact g_ireturn hX k rfl rfl dX6_sensors_23
set_option maxRecDepth 4000 in
theorem RX6_type_0 {X : XT} {I : MI} {L : ML} {p : Nat → Nat}  (hX : Cx X cX6_type 2 RX6 wsX6_type rmX6_type) (x1 : Int32) (k : (∃ (zr2 : Int32), Ct (xE X) (xl X) yX6_in wsX6_in rmX6_in [.int x1, .int 0, .int 127] (HM X I L p) (some (.int zr2)) (HM X I L p) ∧ ((¬ zr2 = 0 → ((¬ (I 96 8) = 120 → (∃ zj4 : Nat, (I 96 8) = nI zj4 ∧ zj4 < 120 ∧ Rt X (some .int) rmX6_type (some (.int ((upI (upI I 103 zj4 x1) 96 8 (((upI I 103 zj4 x1) 96 8) + 1)) 96 8))) (HM X (upI (upI I 103 zj4 x1) 96 8 (((upI I 103 zj4 x1) 96 8) + 1)) L p))) ∧ ((I 96 8) = 120 → (∃ (zr7 : Int32) (zI8 : MI), Ct (xE X) (xl X) yX6_refuses wsX6_refuses rmX6_refuses [.ref 96, .int (-4)] (HM X I L p) (some (.int zr7)) (HM X zI8 L p) ∧ Rt X (some .int) rmX6_type (some (.int zr7)) (HM X zI8 L p))))) ∧ (zr2 = 0 → (∃ (zr10 : Int32) (zI11 : MI), Ct (xE X) (xl X) yX6_refuses wsX6_refuses rmX6_refuses [.ref 96, .int (-2)] (HM X I L p) (some (.int zr10)) (HM X zI11 L p) ∧ Rt X (some .int) rmX6_type (some (.int zr10)) (HM X zI11 L p)))))) : G X 0 0 0 [(0, .ref 96), (1, .int x1)] [] (HM X I L p) := by
  refine g_iload_n hX 1 rfl rfl dX6_type_0 ?_
  refine g_iconst (v := 0) hX dX6_type_1 (by decide) ?_
  refine g_bipush (v := 127) hX dX6_type_2 (by decide) ?_
  obtain ⟨zr2, zhc1, k⟩ := k
  refine g_callS (cs' := 0) (sl' := 0) (as := [.int x1, .int 0, .int 127]) (st := []) hX zhc1 gX6_type_X6_in rfl rfl ydX6_in (by decide) (Nat.le_of_ble_eq_true rfl) (by decide) dX6_type_4 rfl rfl ?_
  refine g_if_ne (tgt := 17) hX dX6_type_7 (by decide) (fun h => ?_) (fun h => ?_)
  · replace k := k.1 h
    refine g_aload_n hX 0 rfl rfl dX6_type_17 ?_
    refine g_getI (k := 8) hX hPW flX6_type_162 sn96 so96 rfl dX6_type_18 ?_
    refine g_bipush (v := 120) hX dX6_type_21 (by decide) ?_
    refine g_icmp_ne (tgt := 33) hX dX6_type_23 (by decide) (fun h => ?_) (fun h => ?_)
    · replace k := k.1 h
      refine g_aload_n hX 0 rfl rfl dX6_type_33 ?_
      refine g_getR (k := 7) (r' := 103) hX hPW flX6_type_29 sn96 so96 rfl (k96_7 _) dX6_type_34 ?_
      refine g_aload_n hX 0 rfl rfl dX6_type_37 ?_
      refine g_getI (k := 8) hX hPW flX6_type_162 sn96 so96 rfl dX6_type_38 ?_
      refine g_iload_n hX 1 rfl rfl dX6_type_41 ?_
      obtain ⟨zj4, zh3, zh5, k⟩ := k
      refine g_iast hX sn103 sh103 zh3 zh5 (by decide) dX6_type_42 ?_
      refine g_aload_n hX 0 rfl rfl dX6_type_43 ?_
      refine g_dup hX dX6_type_44 rfl ?_
      refine g_getI (k := 8) hX hPW flX6_type_162 sn96 so96 rfl dX6_type_45 ?_
      refine g_iconst (v := 1) hX dX6_type_48 (by decide) ?_
      refine g_iadd hX dX6_type_49 ?_
      refine g_putI (k := 8) hX fpX6_type_162 sn96 so96 rfl rfl rfl dX6_type_50 ?_
      refine g_aload_n hX 0 rfl rfl dX6_type_53 ?_
      refine g_getI (k := 8) hX hPW flX6_type_162 sn96 so96 rfl dX6_type_54 ?_
      exact g_ireturn hX k rfl rfl dX6_type_57
    · replace k := k.2 h
      refine g_aload_n hX 0 rfl rfl dX6_type_26 ?_
      refine g_bipush (v := (-4)) hX dX6_type_27 (by decide) ?_
      obtain ⟨zr7, zI8, zhc6, k⟩ := k
      refine g_callV (cs' := 0) (sl' := 0) (C := RX6) (as := [.int (-4)]) (st := []) hX zhc6 hPW sn96 so96 rfl gX6_type_X6_refuses rfl rfl rfl ydX6_refuses (by decide) (Nat.le_of_ble_eq_true rfl) (by decide) dX6_type_29 rfl rfl ?_
      exact g_ireturn hX k rfl rfl dX6_type_32
  · replace k := k.2 h
    refine g_aload_n hX 0 rfl rfl dX6_type_10 ?_
    refine g_bipush (v := (-2)) hX dX6_type_11 (by decide) ?_
    obtain ⟨zr10, zI11, zhc9, k⟩ := k
    refine g_callV (cs' := 0) (sl' := 0) (C := RX6) (as := [.int (-2)]) (st := []) hX zhc9 hPW sn96 so96 rfl gX6_type_X6_refuses rfl rfl rfl ydX6_refuses (by decide) (Nat.le_of_ble_eq_true rfl) (by decide) dX6_type_13 rfl rfl ?_
    exact g_ireturn hX k rfl rfl dX6_type_16
set_option maxRecDepth 4000 in
theorem RX6_clear_0 {X : XT} {I : MI} {L : ML} {p : Nat → Nat}  (hX : Cx X cX6_clear 2 RX6 wsX6_clear rmX6_clear)  (k : Rt X (some .int) rmX6_clear (some (.int (I 96 8))) (HM X (upI I 96 8 0) L p)) : G X 0 0 0 [(0, .ref 96)] [] (HM X I L p) := by
  refine g_aload_n hX 0 rfl rfl dX6_clear_0 ?_
  refine g_getI (k := 8) hX hPW flX6_clear_162 sn96 so96 rfl dX6_clear_1 ?_
  refine g_istore_n (ls' := [(0, .ref 96), (1, .int (I 96 8))]) hX dX6_clear_4 rfl (by decide) rfl ?_
  refine g_aload_n hX 0 rfl rfl dX6_clear_5 ?_
  refine g_iconst (v := 0) hX dX6_clear_6 (by decide) ?_
  refine g_putI (k := 8) hX fpX6_clear_162 sn96 so96 rfl rfl rfl dX6_clear_7 ?_
  refine g_iload_n hX 1 rfl rfl dX6_clear_10 ?_
  exact g_ireturn hX k rfl rfl dX6_clear_11
set_option maxRecDepth 4000 in
theorem RX6_here_0 {X : XT} {I : MI} {L : ML} {p : Nat → Nat}  (hX : Cx X cX6_here 1 RX6 wsX6_here rmX6_here)  (k : (((I 96 8) ≤ (I 96 9) → (((I 96 8) ≤ (I 96 9) → Rt X (some .int) rmX6_here (some (.int (-1))) (HM X I L p)) ∧ (¬ (I 96 8) ≤ (I 96 9) → (∃ zj2 : Nat, (I 96 9) = nI zj2 ∧ zj2 < 120 ∧ Rt X (some .int) rmX6_here (some (.int (I 103 zj2))) (HM X I L p))))) ∧ (¬ (I 96 8) ≤ (I 96 9) → (∃ zj5 : Nat, (I 96 9) = nI zj5 ∧ zj5 < 120 ∧ ((¬ (I 103 zj5) = 32 → (((I 96 8) ≤ (I 96 9) → Rt X (some .int) rmX6_here (some (.int (-1))) (HM X I L p)) ∧ (¬ (I 96 8) ≤ (I 96 9) → (∃ zj8 : Nat, (I 96 9) = nI zj8 ∧ zj8 < 120 ∧ Rt X (some .int) rmX6_here (some (.int (I 103 zj8))) (HM X I L p))))) ∧ ((I 103 zj5) = 32 → G X 0 0 0 [(0, .ref 96)] [] (HM X (upI I 96 9 ((I 96 9) + 1)) L p))))))) : G X 0 0 0 [(0, .ref 96)] [] (HM X I L p) := by
  refine g_aload_n hX 0 rfl rfl dX6_here_0 ?_
  refine g_getI (k := 9) hX hPW flX6_here_165 sn96 so96 rfl dX6_here_1 ?_
  refine g_aload_n hX 0 rfl rfl dX6_here_4 ?_
  refine g_getI (k := 8) hX hPW flX6_here_162 sn96 so96 rfl dX6_here_5 ?_
  refine g_icmp_ge (tgt := 38) hX dX6_here_8 (by decide) (fun h => ?_) (fun h => ?_)
  · replace k := k.1 h
    refine g_aload_n hX 0 rfl rfl dX6_here_38 ?_
    refine g_getI (k := 9) hX hPW flX6_here_165 sn96 so96 rfl dX6_here_39 ?_
    refine g_aload_n hX 0 rfl rfl dX6_here_42 ?_
    refine g_getI (k := 8) hX hPW flX6_here_162 sn96 so96 rfl dX6_here_43 ?_
    refine g_icmp_ge (tgt := 61) hX dX6_here_46 (by decide) (fun h => ?_) (fun h => ?_)
    · replace k := k.1 h
      refine g_iconst (v := (-1)) hX dX6_here_61 (by decide) ?_
      exact g_ireturn hX k rfl rfl dX6_here_62
    · replace k := k.2 h
      refine g_aload_n hX 0 rfl rfl dX6_here_49 ?_
      refine g_getR (k := 7) (r' := 103) hX hPW flX6_here_29 sn96 so96 rfl (k96_7 _) dX6_here_50 ?_
      refine g_aload_n hX 0 rfl rfl dX6_here_53 ?_
      refine g_getI (k := 9) hX hPW flX6_here_165 sn96 so96 rfl dX6_here_54 ?_
      obtain ⟨zj2, zh1, zh3, k⟩ := k
      refine g_iald hX hPW sn103 sh103 zh1 zh3 (by decide) dX6_here_57 ?_
      refine g_goto (tgt := 62) hX dX6_here_58 (by decide) ?_
      exact g_ireturn hX k rfl rfl dX6_here_62
  · replace k := k.2 h
    refine g_aload_n hX 0 rfl rfl dX6_here_11 ?_
    refine g_getR (k := 7) (r' := 103) hX hPW flX6_here_29 sn96 so96 rfl (k96_7 _) dX6_here_12 ?_
    refine g_aload_n hX 0 rfl rfl dX6_here_15 ?_
    refine g_getI (k := 9) hX hPW flX6_here_165 sn96 so96 rfl dX6_here_16 ?_
    obtain ⟨zj5, zh4, zh6, k⟩ := k
    refine g_iald hX hPW sn103 sh103 zh4 zh6 (by decide) dX6_here_19 ?_
    refine g_bipush (v := 32) hX dX6_here_20 (by decide) ?_
    refine g_icmp_ne (tgt := 38) hX dX6_here_22 (by decide) (fun h => ?_) (fun h => ?_)
    · replace k := k.1 h
      refine g_aload_n hX 0 rfl rfl dX6_here_38 ?_
      refine g_getI (k := 9) hX hPW flX6_here_165 sn96 so96 rfl dX6_here_39 ?_
      refine g_aload_n hX 0 rfl rfl dX6_here_42 ?_
      refine g_getI (k := 8) hX hPW flX6_here_162 sn96 so96 rfl dX6_here_43 ?_
      refine g_icmp_ge (tgt := 61) hX dX6_here_46 (by decide) (fun h => ?_) (fun h => ?_)
      · replace k := k.1 h
        refine g_iconst (v := (-1)) hX dX6_here_61 (by decide) ?_
        exact g_ireturn hX k rfl rfl dX6_here_62
      · replace k := k.2 h
        refine g_aload_n hX 0 rfl rfl dX6_here_49 ?_
        refine g_getR (k := 7) (r' := 103) hX hPW flX6_here_29 sn96 so96 rfl (k96_7 _) dX6_here_50 ?_
        refine g_aload_n hX 0 rfl rfl dX6_here_53 ?_
        refine g_getI (k := 9) hX hPW flX6_here_165 sn96 so96 rfl dX6_here_54 ?_
        obtain ⟨zj8, zh7, zh9, k⟩ := k
        refine g_iald hX hPW sn103 sh103 zh7 zh9 (by decide) dX6_here_57 ?_
        refine g_goto (tgt := 62) hX dX6_here_58 (by decide) ?_
        exact g_ireturn hX k rfl rfl dX6_here_62
    · replace k := k.2 h
      refine g_aload_n hX 0 rfl rfl dX6_here_25 ?_
      refine g_dup hX dX6_here_26 rfl ?_
      refine g_getI (k := 9) hX hPW flX6_here_165 sn96 so96 rfl dX6_here_27 ?_
      refine g_iconst (v := 1) hX dX6_here_30 (by decide) ?_
      refine g_iadd hX dX6_here_31 ?_
      refine g_putI (k := 9) hX fpX6_here_165 sn96 so96 rfl rfl rfl dX6_here_32 ?_
      refine g_goto (tgt := 0) hX dX6_here_35 (by decide) ?_
      exact k
set_option maxRecDepth 4000 in
theorem RX6_must_0 {X : XT} {I : MI} {L : ML} {p : Nat → Nat}  (hX : Cx X cX6_must 2 RX6 wsX6_must rmX6_must) (x1 : Int32) (k : ((¬ (I 96 10) = (-1) → Rt X none rmX6_must none (HM X I L p)) ∧ ((I 96 10) = (-1) → ((x1 = 0 → Rt X none rmX6_must none (HM X (upI I 96 10 (I 96 9)) L p)) ∧ (¬ x1 = 0 → Rt X none rmX6_must none (HM X (upI I 96 9 ((I 96 9) + 1)) L p)))))) : G X 0 0 0 [(0, .ref 96), (1, .int x1)] [] (HM X I L p) := by
  refine g_aload_n hX 0 rfl rfl dX6_must_0 ?_
  refine g_getI (k := 10) hX hPW flX6_must_168 sn96 so96 rfl dX6_must_1 ?_
  refine g_iconst (v := (-1)) hX dX6_must_4 (by decide) ?_
  refine g_icmp_ne (tgt := 33) hX dX6_must_5 (by decide) (fun h => ?_) (fun h => ?_)
  · replace k := k.1 h
    exact g_return hX k rfl rfl dX6_must_33
  · replace k := k.2 h
    refine g_iload_n hX 1 rfl rfl dX6_must_8 ?_
    refine g_if_eq (tgt := 25) hX dX6_must_9 (by decide) (fun h => ?_) (fun h => ?_)
    · replace k := k.1 h
      refine g_aload_n hX 0 rfl rfl dX6_must_25 ?_
      refine g_aload_n hX 0 rfl rfl dX6_must_26 ?_
      refine g_getI (k := 9) hX hPW flX6_must_165 sn96 so96 rfl dX6_must_27 ?_
      refine g_putI (k := 10) hX fpX6_must_168 sn96 so96 rfl rfl rfl dX6_must_30 ?_
      exact g_return hX k rfl rfl dX6_must_33
    · replace k := k.2 h
      refine g_aload_n hX 0 rfl rfl dX6_must_12 ?_
      refine g_dup hX dX6_must_13 rfl ?_
      refine g_getI (k := 9) hX hPW flX6_must_165 sn96 so96 rfl dX6_must_14 ?_
      refine g_iconst (v := 1) hX dX6_must_17 (by decide) ?_
      refine g_iadd hX dX6_must_18 ?_
      refine g_putI (k := 9) hX fpX6_must_165 sn96 so96 rfl rfl rfl dX6_must_19 ?_
      refine g_goto (tgt := 33) hX dX6_must_22 (by decide) ?_
      exact g_return hX k rfl rfl dX6_must_33
set_option maxRecDepth 4000 in
theorem RX6_isFigure_0 {X : XT} {I : MI} {L : ML} {p : Nat → Nat}  (hX : Cx X cX6_isFigure 1 RX6 wsX6_isFigure rmX6_isFigure)  (k : (((I 96 8) ≤ (I 96 9) → Rt X (some .boolean) rmX6_isFigure (some (.int 0)) (HM X I L p)) ∧ (¬ (I 96 8) ≤ (I 96 9) → (∃ zj2 : Nat, (I 96 9) = nI zj2 ∧ zj2 < 120 ∧ (∃ (zr5 : Int32), Ct (xE X) (xl X) yX6_in wsX6_in rmX6_in [.int (I 103 zj2), .int 48, .int 57] (HM X I L p) (some (.int zr5)) (HM X I L p) ∧ Rt X (some .boolean) rmX6_isFigure (some (.int (if zr5 = 0 then 0 else 1 : Int32))) (HM X I L p)))))) : G X 0 0 0 [(0, .ref 96)] [] (HM X I L p) := by
  refine g_aload_n hX 0 rfl rfl dX6_isFigure_0 ?_
  refine g_getI (k := 9) hX hPW flX6_isFigure_165 sn96 so96 rfl dX6_isFigure_1 ?_
  refine g_aload_n hX 0 rfl rfl dX6_isFigure_4 ?_
  refine g_getI (k := 8) hX hPW flX6_isFigure_162 sn96 so96 rfl dX6_isFigure_5 ?_
  refine g_icmp_ge (tgt := 34) hX dX6_isFigure_8 (by decide) (fun h => ?_) (fun h => ?_)
  · replace k := k.1 h
    refine g_iconst (v := 0) hX dX6_isFigure_34 (by decide) ?_
    exact g_zreturn hX k (by decide) rfl rfl dX6_isFigure_35
  · replace k := k.2 h
    refine g_aload_n hX 0 rfl rfl dX6_isFigure_11 ?_
    refine g_getR (k := 7) (r' := 103) hX hPW flX6_isFigure_29 sn96 so96 rfl (k96_7 _) dX6_isFigure_12 ?_
    refine g_aload_n hX 0 rfl rfl dX6_isFigure_15 ?_
    refine g_getI (k := 9) hX hPW flX6_isFigure_165 sn96 so96 rfl dX6_isFigure_16 ?_
    obtain ⟨zj2, zh1, zh3, k⟩ := k
    refine g_iald hX hPW sn103 sh103 zh1 zh3 (by decide) dX6_isFigure_19 ?_
    refine g_bipush (v := 48) hX dX6_isFigure_20 (by decide) ?_
    refine g_bipush (v := 57) hX dX6_isFigure_22 (by decide) ?_
    obtain ⟨zr5, zhc4, k⟩ := k
    refine g_callS (cs' := 0) (sl' := 0) (as := [.int (I 103 zj2), .int 48, .int 57]) (st := []) hX zhc4 gX6_isFigure_X6_in rfl rfl ydX6_in (by decide) (Nat.le_of_ble_eq_true rfl) (by decide) dX6_isFigure_24 rfl rfl ?_
    have kJ : G X 0 0 35 [(0, .ref 96)] [.int (if zr5 = 0 then 0 else 1 : Int32)] (HM X I L p) := by
      exact g_zreturn hX k b10 rfl rfl dX6_isFigure_35
    refine g_if_eq (tgt := 34) hX dX6_isFigure_27 (by decide) (fun h => ?_) (fun h => ?_)
    · rw [(show (if zr5 = 0 then 0 else 1 : Int32) = 0 from if_pos h)] at kJ
      refine g_iconst (v := 0) hX dX6_isFigure_34 (by decide) ?_
      exact kJ
    · rw [(show (if zr5 = 0 then 0 else 1 : Int32) = 1 from if_neg h)] at kJ
      refine g_iconst (v := 1) hX dX6_isFigure_30 (by decide) ?_
      refine g_goto (tgt := 35) hX dX6_isFigure_31 (by decide) ?_
      exact kJ
set_option maxRecDepth 4000 in
theorem RX6_number_0 {X : XT} {I : MI} {L : ML} {p : Nat → Nat}  (hX : Cx X cX6_number 2 RX6 wsX6_number rmX6_number)  (k : (∃ (zr2 : Int32) (zI3 : MI), Ct (xE X) (xl X) yX6_here wsX6_here rmX6_here [.ref 96] (HM X I L p) (some (.int zr2)) (HM X zI3 L p) ∧ (∃ (zr5 : Int32), Ct (xE X) (xl X) yX6_in wsX6_in rmX6_in [.int zr2, .int 48, .int 57] (HM X zI3 L p) (some (.int zr5)) (HM X zI3 L p) ∧ (∃ (zI7 : MI), Ct (xE X) (xl X) yX6_must wsX6_must rmX6_must [.ref 96, .int zr5] (HM X zI3 L p) none (HM X zI7 L p) ∧ (((zI7 96 10) = (-1) → (∃ zj9 : Nat, ((zI7 96 9) - 1) = nI zj9 ∧ zj9 < 120 ∧ (∃ (zr12 : Int32), Ct (xE X) (xl X) yX6_isFigure wsX6_isFigure rmX6_isFigure [.ref 96] (HM X zI7 L p) (some (.int zr12)) (HM X zI7 L p) ∧ ((zr12 = 0 → (∃ (zr14 : Int32), Ct (xE X) (xl X) yX6_isFigure wsX6_isFigure rmX6_isFigure [.ref 96] (HM X zI7 L p) (some (.int zr14)) (HM X zI7 L p) ∧ ((zr14 = 0 → Rt X (some .int) rmX6_number (some (.int ((zI7 103 zj9) - 48))) (HM X zI7 L p)) ∧ (¬ zr14 = 0 → Rt X (some .int) rmX6_number (some (.int ((zI7 103 zj9) - 48))) (HM X (upI zI7 96 10 (zI7 96 9)) L p))))) ∧ (¬ zr12 = 0 → (∃ zj16 : Nat, (zI7 96 9) = nI zj16 ∧ zj16 < 120 ∧ (∃ (zr19 : Int32), Ct (xE X) (xl X) yX6_isFigure wsX6_isFigure rmX6_isFigure [.ref 96] (HM X (upI zI7 96 9 ((zI7 96 9) + 1)) L p) (some (.int zr19)) (HM X (upI zI7 96 9 ((zI7 96 9) + 1)) L p) ∧ ((zr19 = 0 → Rt X (some .int) rmX6_number (some (.int (((10 * ((zI7 103 zj9) - 48)) + (zI7 103 zj16)) - 48))) (HM X (upI zI7 96 9 ((zI7 96 9) + 1)) L p)) ∧ (¬ zr19 = 0 → Rt X (some .int) rmX6_number (some (.int (((10 * ((zI7 103 zj9) - 48)) + (zI7 103 zj16)) - 48))) (HM X (upI (upI zI7 96 9 ((zI7 96 9) + 1)) 96 10 ((upI zI7 96 9 ((zI7 96 9) + 1)) 96 9)) L p)))))))))) ∧ (¬ (zI7 96 10) = (-1) → Rt X (some .int) rmX6_number (some (.int 0)) (HM X zI7 L p))))))) : G X 0 0 0 [(0, .ref 96)] [] (HM X I L p) := by
  refine g_aload_n hX 0 rfl rfl dX6_number_0 ?_
  refine g_aload_n hX 0 rfl rfl dX6_number_1 ?_
  obtain ⟨zr2, zI3, zhc1, k⟩ := k
  refine g_callV (cs' := 0) (sl' := 0) (C := RX6) (as := []) (st := [.ref 96]) hX zhc1 hPW sn96 so96 rfl gX6_number_X6_here rfl rfl rfl ydX6_here (by decide) (Nat.le_of_ble_eq_true rfl) (by decide) dX6_number_2 rfl rfl ?_
  refine g_bipush (v := 48) hX dX6_number_5 (by decide) ?_
  refine g_bipush (v := 57) hX dX6_number_7 (by decide) ?_
  obtain ⟨zr5, zhc4, k⟩ := k
  refine g_callS (cs' := 0) (sl' := 0) (as := [.int zr2, .int 48, .int 57]) (st := [.ref 96]) hX zhc4 gX6_number_X6_in rfl rfl ydX6_in (by decide) (Nat.le_of_ble_eq_true rfl) (by decide) dX6_number_9 rfl rfl ?_
  obtain ⟨zI7, zhc6, k⟩ := k
  refine g_callV (cs' := 0) (sl' := 0) (C := RX6) (as := [.int zr5]) (st := []) hX zhc6 hPW sn96 so96 rfl gX6_number_X6_must rfl rfl rfl ydX6_must (by decide) (Nat.le_of_ble_eq_true rfl) (by decide) dX6_number_12 rfl rfl ?_
  refine g_aload_n hX 0 rfl rfl dX6_number_15 ?_
  refine g_getI (k := 10) hX hPW flX6_number_168 sn96 so96 rfl dX6_number_16 ?_
  refine g_iconst (v := (-1)) hX dX6_number_19 (by decide) ?_
  refine g_icmp_eq (tgt := 25) hX dX6_number_20 (by decide) (fun h => ?_) (fun h => ?_)
  · replace k := k.1 h
    refine g_aload_n hX 0 rfl rfl dX6_number_25 ?_
    refine g_getR (k := 7) (r' := 103) hX hPW flX6_number_29 sn96 so96 rfl (k96_7 _) dX6_number_26 ?_
    refine g_aload_n hX 0 rfl rfl dX6_number_29 ?_
    refine g_getI (k := 9) hX hPW flX6_number_165 sn96 so96 rfl dX6_number_30 ?_
    refine g_iconst (v := 1) hX dX6_number_33 (by decide) ?_
    refine g_isub hX dX6_number_34 ?_
    obtain ⟨zj9, zh8, zh10, k⟩ := k
    refine g_iald hX hPW sn103 sh103 zh8 zh10 (by decide) dX6_number_35 ?_
    refine g_bipush (v := 48) hX dX6_number_36 (by decide) ?_
    refine g_isub hX dX6_number_38 ?_
    refine g_istore_n (ls' := [(0, .ref 96), (1, .int ((zI7 103 zj9) - 48))]) hX dX6_number_39 rfl (by decide) rfl ?_
    refine g_aload_n hX 0 rfl rfl dX6_number_40 ?_
    obtain ⟨zr12, zhc11, k⟩ := k
    refine g_callV (cs' := 0) (sl' := 0) (C := RX6) (as := []) (st := []) hX zhc11 hPW sn96 so96 rfl gX6_number_X6_isFigure rfl rfl rfl ydX6_isFigure (by decide) (Nat.le_of_ble_eq_true rfl) (by decide) dX6_number_41 rfl rfl ?_
    refine g_if_eq (tgt := 75) hX dX6_number_44 (by decide) (fun h => ?_) (fun h => ?_)
    · replace k := k.1 h
      refine g_aload_n hX 0 rfl rfl dX6_number_75 ?_
      obtain ⟨zr14, zhc13, k⟩ := k
      refine g_callV (cs' := 0) (sl' := 0) (C := RX6) (as := []) (st := []) hX zhc13 hPW sn96 so96 rfl gX6_number_X6_isFigure rfl rfl rfl ydX6_isFigure (by decide) (Nat.le_of_ble_eq_true rfl) (by decide) dX6_number_76 rfl rfl ?_
      refine g_if_eq (tgt := 90) hX dX6_number_79 (by decide) (fun h => ?_) (fun h => ?_)
      · replace k := k.1 h
        refine g_iload_n hX 1 rfl rfl dX6_number_90 ?_
        exact g_ireturn hX k rfl rfl dX6_number_91
      · replace k := k.2 h
        refine g_aload_n hX 0 rfl rfl dX6_number_82 ?_
        refine g_aload_n hX 0 rfl rfl dX6_number_83 ?_
        refine g_getI (k := 9) hX hPW flX6_number_165 sn96 so96 rfl dX6_number_84 ?_
        refine g_putI (k := 10) hX fpX6_number_168 sn96 so96 rfl rfl rfl dX6_number_87 ?_
        refine g_iload_n hX 1 rfl rfl dX6_number_90 ?_
        exact g_ireturn hX k rfl rfl dX6_number_91
    · replace k := k.2 h
      refine g_bipush (v := 10) hX dX6_number_47 (by decide) ?_
      refine g_iload_n hX 1 rfl rfl dX6_number_49 ?_
      refine g_imul hX dX6_number_50 ?_
      refine g_aload_n hX 0 rfl rfl dX6_number_51 ?_
      refine g_getR (k := 7) (r' := 103) hX hPW flX6_number_29 sn96 so96 rfl (k96_7 _) dX6_number_52 ?_
      refine g_aload_n hX 0 rfl rfl dX6_number_55 ?_
      refine g_getI (k := 9) hX hPW flX6_number_165 sn96 so96 rfl dX6_number_56 ?_
      obtain ⟨zj16, zh15, zh17, k⟩ := k
      refine g_iald hX hPW sn103 sh103 zh15 zh17 (by decide) dX6_number_59 ?_
      refine g_iadd hX dX6_number_60 ?_
      refine g_bipush (v := 48) hX dX6_number_61 (by decide) ?_
      refine g_isub hX dX6_number_63 ?_
      refine g_istore_n (ls' := [(0, .ref 96), (1, .int (((10 * ((zI7 103 zj9) - 48)) + (zI7 103 zj16)) - 48))]) hX dX6_number_64 rfl (by decide) rfl ?_
      refine g_aload_n hX 0 rfl rfl dX6_number_65 ?_
      refine g_dup hX dX6_number_66 rfl ?_
      refine g_getI (k := 9) hX hPW flX6_number_165 sn96 so96 rfl dX6_number_67 ?_
      refine g_iconst (v := 1) hX dX6_number_70 (by decide) ?_
      refine g_iadd hX dX6_number_71 ?_
      refine g_putI (k := 9) hX fpX6_number_165 sn96 so96 rfl rfl rfl dX6_number_72 ?_
      refine g_aload_n hX 0 rfl rfl dX6_number_75 ?_
      obtain ⟨zr19, zhc18, k⟩ := k
      refine g_callV (cs' := 0) (sl' := 0) (C := RX6) (as := []) (st := []) hX zhc18 hPW sn96 so96 rfl gX6_number_X6_isFigure rfl rfl rfl ydX6_isFigure (by decide) (Nat.le_of_ble_eq_true rfl) (by decide) dX6_number_76 rfl rfl ?_
      refine g_if_eq (tgt := 90) hX dX6_number_79 (by decide) (fun h => ?_) (fun h => ?_)
      · replace k := k.1 h
        refine g_iload_n hX 1 rfl rfl dX6_number_90 ?_
        exact g_ireturn hX k rfl rfl dX6_number_91
      · replace k := k.2 h
        refine g_aload_n hX 0 rfl rfl dX6_number_82 ?_
        refine g_aload_n hX 0 rfl rfl dX6_number_83 ?_
        refine g_getI (k := 9) hX hPW flX6_number_165 sn96 so96 rfl dX6_number_84 ?_
        refine g_putI (k := 10) hX fpX6_number_168 sn96 so96 rfl rfl rfl dX6_number_87 ?_
        refine g_iload_n hX 1 rfl rfl dX6_number_90 ?_
        exact g_ireturn hX k rfl rfl dX6_number_91
  · replace k := k.2 h
    refine g_iconst (v := 0) hX dX6_number_23 (by decide) ?_
    exact g_ireturn hX k rfl rfl dX6_number_24
set_option maxRecDepth 4000 in
theorem RX6_numbersOf_0 {X : XT} {I : MI} {L : ML} {p : Nat → Nat}  (hX : Cx X cX6_numbersOf 1 RX6 wsX6_numbersOf rmX6_numbersOf) (x0 : Int32) (k : ((x0 = 99 → Rt X (some .int) rmX6_numbersOf (some (.int 2)) (HM X I L p)) ∧ ((x0 = 101 → Rt X (some .int) rmX6_numbersOf (some (.int 2)) (HM X I L p)) ∧ ((x0 = 112 → Rt X (some .int) rmX6_numbersOf (some (.int 4)) (HM X I L p)) ∧ ((x0 = 115 → Rt X (some .int) rmX6_numbersOf (some (.int 2)) (HM X I L p)) ∧ ((x0 = 120 → Rt X (some .int) rmX6_numbersOf (some (.int 1)) (HM X I L p)) ∧ (¬ x0 = 99 ∧ ¬ x0 = 101 ∧ ¬ x0 = 112 ∧ ¬ x0 = 115 ∧ ¬ x0 = 120 → Rt X (some .int) rmX6_numbersOf (some (.int (-1))) (HM X I L p)))))))) : G X 0 0 0 [(0, .int x0)] [] (HM X I L p) := by
  refine g_iload_n hX 0 rfl rfl dX6_numbersOf_0 ?_
  by_cases c0 : x0 = 99
  · replace k := k.1 c0
    refine g_lookup (off := 53) (tgt := 54) hX dX6_numbersOf_1 (by decide) (by rw [c0]; decide) (by decide) ?_
    refine g_iconst (v := 2) hX dX6_numbersOf_54 (by decide) ?_
    exact g_ireturn hX k rfl rfl dX6_numbersOf_55
  · replace k := k.2
    by_cases c1 : x0 = 101
    · replace k := k.1 c1
      refine g_lookup (off := 53) (tgt := 54) hX dX6_numbersOf_1 (by decide) (by rw [c1]; decide) (by decide) ?_
      refine g_iconst (v := 2) hX dX6_numbersOf_54 (by decide) ?_
      exact g_ireturn hX k rfl rfl dX6_numbersOf_55
    · replace k := k.2
      by_cases c2 : x0 = 112
      · replace k := k.1 c2
        refine g_lookup (off := 51) (tgt := 52) hX dX6_numbersOf_1 (by decide) (by rw [c2]; decide) (by decide) ?_
        refine g_iconst (v := 4) hX dX6_numbersOf_52 (by decide) ?_
        exact g_ireturn hX k rfl rfl dX6_numbersOf_53
      · replace k := k.2
        by_cases c3 : x0 = 115
        · replace k := k.1 c3
          refine g_lookup (off := 53) (tgt := 54) hX dX6_numbersOf_1 (by decide) (by rw [c3]; decide) (by decide) ?_
          refine g_iconst (v := 2) hX dX6_numbersOf_54 (by decide) ?_
          exact g_ireturn hX k rfl rfl dX6_numbersOf_55
        · replace k := k.2
          by_cases c4 : x0 = 120
          · replace k := k.1 c4
            refine g_lookup (off := 55) (tgt := 56) hX dX6_numbersOf_1 (by decide) (by rw [c4]; decide) (by decide) ?_
            refine g_iconst (v := 1) hX dX6_numbersOf_56 (by decide) ?_
            exact g_ireturn hX k rfl rfl dX6_numbersOf_57
          · replace k := k.2
            replace k := k ⟨c0, c1, c2, c3, c4⟩
            refine g_lookup (off := 57) (tgt := 58) hX dX6_numbersOf_1 (by decide) (by dsimp only; rw [lv_osw c0 (show (99 : Int32).toInt = 99 by decide), lv_osw c1 (show (101 : Int32).toInt = 101 by decide), lv_osw c2 (show (112 : Int32).toInt = 112 by decide), lv_osw c3 (show (115 : Int32).toInt = 115 by decide), lv_osw c4 (show (120 : Int32).toInt = 120 by decide)]; rfl) (by decide) ?_
            refine g_iconst (v := (-1)) hX dX6_numbersOf_58 (by decide) ?_
            exact g_ireturn hX k rfl rfl dX6_numbersOf_59
set_option maxRecDepth 4000 in
theorem RX6_readOrder_0 {X : XT} {I : MI} {L : ML} {p : Nat → Nat}  (hX : Cx X cX6_readOrder 4 RX6 wsX6_readOrder rmX6_readOrder)  (k : (∃ (zr2 : Int32) (zI3 : MI), Ct (xE X) (xl X) yX6_here wsX6_here rmX6_here [.ref 96] (HM X I L p) (some (.int zr2)) (HM X zI3 L p) ∧ (∃ (zr5 : Int32), Ct (xE X) (xl X) yX6_numbersOf wsX6_numbersOf rmX6_numbersOf [.int zr2] (HM X zI3 L p) (some (.int zr5)) (HM X zI3 L p) ∧ (∃ (zI7 : MI), Ct (xE X) (xl X) yX6_must wsX6_must rmX6_must [.ref 96, .int (if zr5 = (-1) then 0 else 1 : Int32)] (HM X zI3 L p) none (HM X zI7 L p) ∧ G X 0 0 26 [(0, .ref 96), (1, .int zr2), (2, .int zr5), (3, .int 0)] [] (HM X zI7 L p))))) : G X 0 0 0 [(0, .ref 96)] [] (HM X I L p) := by
  refine g_aload_n hX 0 rfl rfl dX6_readOrder_0 ?_
  obtain ⟨zr2, zI3, zhc1, k⟩ := k
  refine g_callV (cs' := 0) (sl' := 0) (C := RX6) (as := []) (st := []) hX zhc1 hPW sn96 so96 rfl gX6_readOrder_X6_here rfl rfl rfl ydX6_here (by decide) (Nat.le_of_ble_eq_true rfl) (by decide) dX6_readOrder_1 rfl rfl ?_
  refine g_istore_n (ls' := [(0, .ref 96), (1, .int zr2)]) hX dX6_readOrder_4 rfl (by decide) rfl ?_
  refine g_iload_n hX 1 rfl rfl dX6_readOrder_5 ?_
  obtain ⟨zr5, zhc4, k⟩ := k
  refine g_callS (cs' := 0) (sl' := 0) (as := [.int zr2]) (st := []) hX zhc4 gX6_readOrder_X6_numbersOf rfl rfl ydX6_numbersOf (by decide) (Nat.le_of_ble_eq_true rfl) (by decide) dX6_readOrder_6 rfl rfl ?_
  refine g_istore_n (ls' := [(0, .ref 96), (1, .int zr2), (2, .int zr5)]) hX dX6_readOrder_9 rfl (by decide) rfl ?_
  refine g_aload_n hX 0 rfl rfl dX6_readOrder_10 ?_
  refine g_iload_n hX 2 rfl rfl dX6_readOrder_11 ?_
  refine g_iconst (v := (-1)) hX dX6_readOrder_12 (by decide) ?_
  have kJ : G X 0 0 21 [(0, .ref 96), (1, .int zr2), (2, .int zr5)] [.int (if zr5 = (-1) then 0 else 1 : Int32), .ref 96] (HM X zI3 L p) := by
    obtain ⟨zI7, zhc6, k⟩ := k
    refine g_callV (cs' := 0) (sl' := 0) (C := RX6) (as := [.int (if zr5 = (-1) then 0 else 1 : Int32)]) (st := []) hX zhc6 hPW sn96 so96 rfl gX6_readOrder_X6_must rfl rfl rfl ydX6_must (by decide) (Nat.le_of_ble_eq_true rfl) (by decide) dX6_readOrder_21 rfl rfl ?_
    refine g_iconst (v := 0) hX dX6_readOrder_24 (by decide) ?_
    refine g_istore_n (ls' := [(0, .ref 96), (1, .int zr2), (2, .int zr5), (3, .int 0)]) hX dX6_readOrder_25 rfl (by decide) rfl ?_
    exact k
  refine g_icmp_eq (tgt := 20) hX dX6_readOrder_13 (by decide) (fun h => ?_) (fun h => ?_)
  · rw [(show (if zr5 = (-1) then 0 else 1 : Int32) = 0 from if_pos h)] at kJ
    refine g_iconst (v := 0) hX dX6_readOrder_20 (by decide) ?_
    exact kJ
  · rw [(show (if zr5 = (-1) then 0 else 1 : Int32) = 1 from if_neg h)] at kJ
    refine g_iconst (v := 1) hX dX6_readOrder_16 (by decide) ?_
    refine g_goto (tgt := 21) hX dX6_readOrder_17 (by decide) ?_
    exact kJ
set_option maxRecDepth 4000 in
theorem RX6_readOrder_26 {X : XT} {I : MI} {L : ML} {p : Nat → Nat}  (hX : Cx X cX6_readOrder 4 RX6 wsX6_readOrder rmX6_readOrder) (x1 : Int32) (x2 : Int32) (x3 : Int32) (k : ((x2 ≤ x3 → ((¬ (I 96 10) = (-1) → Rt X none rmX6_readOrder none (HM X I L p)) ∧ ((I 96 10) = (-1) → (∃ zj2 : Nat, (I 96 11) = nI zj2 ∧ zj2 < 40 ∧ (∃ (zr5 : Int32) (zI6 : MI), Ct (xE X) (xl X) yX6_here wsX6_here rmX6_here [.ref 96] (HM X (upI (upI I 104 zj2 x1) 96 11 (((upI I 104 zj2 x1) 96 11) + 1)) L p) (some (.int zr5)) (HM X zI6 L p) ∧ (∃ (zI8 : MI), Ct (xE X) (xl X) yX6_must wsX6_must rmX6_must [.ref 96, .int (if zr5 = 59 then 1 else 0 : Int32)] (HM X zI6 L p) none (HM X zI8 L p) ∧ Rt X none rmX6_readOrder none (HM X zI8 L p))))))) ∧ (¬ x2 ≤ x3 → ((¬ (I 96 10) = (-1) → ((¬ (I 96 10) = (-1) → Rt X none rmX6_readOrder none (HM X I L p)) ∧ ((I 96 10) = (-1) → (∃ zj10 : Nat, (I 96 11) = nI zj10 ∧ zj10 < 40 ∧ (∃ (zr13 : Int32) (zI14 : MI), Ct (xE X) (xl X) yX6_here wsX6_here rmX6_here [.ref 96] (HM X (upI (upI I 104 zj10 x1) 96 11 (((upI I 104 zj10 x1) 96 11) + 1)) L p) (some (.int zr13)) (HM X zI14 L p) ∧ (∃ (zI16 : MI), Ct (xE X) (xl X) yX6_must wsX6_must rmX6_must [.ref 96, .int (if zr13 = 59 then 1 else 0 : Int32)] (HM X zI14 L p) none (HM X zI16 L p) ∧ Rt X none rmX6_readOrder none (HM X zI16 L p))))))) ∧ ((I 96 10) = (-1) → (∃ (zr18 : Int32) (zI19 : MI), Ct (xE X) (xl X) yX6_number wsX6_number rmX6_number [.ref 96] (HM X I L p) (some (.int zr18)) (HM X zI19 L p) ∧ (∃ zj21 : Nat, ((4 * (I 96 11)) + x3) = nI zj21 ∧ zj21 < 160 ∧ G X 0 0 26 [(0, .ref 96), (1, .int x1), (2, .int x2), (3, .int (x3 + 1))] [] (HM X (upI zI19 105 zj21 zr18) L p)))))))) : G X 0 0 26 [(0, .ref 96), (1, .int x1), (2, .int x2), (3, .int x3)] [] (HM X I L p) := by
  refine g_iload_n hX 3 rfl rfl dX6_readOrder_26 ?_
  refine g_iload_n hX 2 rfl rfl dX6_readOrder_27 ?_
  refine g_icmp_ge (tgt := 62) hX dX6_readOrder_28 (by decide) (fun h => ?_) (fun h => ?_)
  · replace k := k.1 h
    refine g_aload_n hX 0 rfl rfl dX6_readOrder_62 ?_
    refine g_getI (k := 10) hX hPW flX6_readOrder_168 sn96 so96 rfl dX6_readOrder_63 ?_
    refine g_iconst (v := (-1)) hX dX6_readOrder_66 (by decide) ?_
    refine g_icmp_ne (tgt := 108) hX dX6_readOrder_67 (by decide) (fun h => ?_) (fun h => ?_)
    · replace k := k.1 h
      exact g_return hX k rfl rfl dX6_readOrder_108
    · replace k := k.2 h
      refine g_aload_n hX 0 rfl rfl dX6_readOrder_70 ?_
      refine g_getR (k := 12) (r' := 104) hX hPW flX6_readOrder_32 sn96 so96 rfl (k96_12 _) dX6_readOrder_71 ?_
      refine g_aload_n hX 0 rfl rfl dX6_readOrder_74 ?_
      refine g_getI (k := 11) hX hPW flX6_readOrder_185 sn96 so96 rfl dX6_readOrder_75 ?_
      refine g_iload_n hX 1 rfl rfl dX6_readOrder_78 ?_
      obtain ⟨zj2, zh1, zh3, k⟩ := k
      refine g_iast hX sn104 sh104 zh1 zh3 (by decide) dX6_readOrder_79 ?_
      refine g_aload_n hX 0 rfl rfl dX6_readOrder_80 ?_
      refine g_dup hX dX6_readOrder_81 rfl ?_
      refine g_getI (k := 11) hX hPW flX6_readOrder_185 sn96 so96 rfl dX6_readOrder_82 ?_
      refine g_iconst (v := 1) hX dX6_readOrder_85 (by decide) ?_
      refine g_iadd hX dX6_readOrder_86 ?_
      refine g_putI (k := 11) hX fpX6_readOrder_185 sn96 so96 rfl rfl rfl dX6_readOrder_87 ?_
      refine g_aload_n hX 0 rfl rfl dX6_readOrder_90 ?_
      refine g_aload_n hX 0 rfl rfl dX6_readOrder_91 ?_
      obtain ⟨zr5, zI6, zhc4, k⟩ := k
      refine g_callV (cs' := 0) (sl' := 0) (C := RX6) (as := []) (st := [.ref 96]) hX zhc4 hPW sn96 so96 rfl gX6_readOrder_X6_here rfl rfl rfl ydX6_here (by decide) (Nat.le_of_ble_eq_true rfl) (by decide) dX6_readOrder_92 rfl rfl ?_
      refine g_bipush (v := 59) hX dX6_readOrder_95 (by decide) ?_
      have kJ : G X 0 0 105 [(0, .ref 96), (1, .int x1), (2, .int x2), (3, .int x3)] [.int (if zr5 = 59 then 1 else 0 : Int32), .ref 96] (HM X zI6 L p) := by
        obtain ⟨zI8, zhc7, k⟩ := k
        refine g_callV (cs' := 0) (sl' := 0) (C := RX6) (as := [.int (if zr5 = 59 then 1 else 0 : Int32)]) (st := []) hX zhc7 hPW sn96 so96 rfl gX6_readOrder_X6_must rfl rfl rfl ydX6_must (by decide) (Nat.le_of_ble_eq_true rfl) (by decide) dX6_readOrder_105 rfl rfl ?_
        exact g_return hX k rfl rfl dX6_readOrder_108
      refine g_icmp_ne (tgt := 104) hX dX6_readOrder_97 (by decide) (fun h => ?_) (fun h => ?_)
      · rw [(show (if zr5 = 59 then 1 else 0 : Int32) = 0 from if_neg h)] at kJ
        refine g_iconst (v := 0) hX dX6_readOrder_104 (by decide) ?_
        exact kJ
      · rw [(show (if zr5 = 59 then 1 else 0 : Int32) = 1 from if_pos h)] at kJ
        refine g_iconst (v := 1) hX dX6_readOrder_100 (by decide) ?_
        refine g_goto (tgt := 105) hX dX6_readOrder_101 (by decide) ?_
        exact kJ
  · replace k := k.2 h
    refine g_aload_n hX 0 rfl rfl dX6_readOrder_31 ?_
    refine g_getI (k := 10) hX hPW flX6_readOrder_168 sn96 so96 rfl dX6_readOrder_32 ?_
    refine g_iconst (v := (-1)) hX dX6_readOrder_35 (by decide) ?_
    refine g_icmp_ne (tgt := 62) hX dX6_readOrder_36 (by decide) (fun h => ?_) (fun h => ?_)
    · replace k := k.1 h
      refine g_aload_n hX 0 rfl rfl dX6_readOrder_62 ?_
      refine g_getI (k := 10) hX hPW flX6_readOrder_168 sn96 so96 rfl dX6_readOrder_63 ?_
      refine g_iconst (v := (-1)) hX dX6_readOrder_66 (by decide) ?_
      refine g_icmp_ne (tgt := 108) hX dX6_readOrder_67 (by decide) (fun h => ?_) (fun h => ?_)
      · replace k := k.1 h
        exact g_return hX k rfl rfl dX6_readOrder_108
      · replace k := k.2 h
        refine g_aload_n hX 0 rfl rfl dX6_readOrder_70 ?_
        refine g_getR (k := 12) (r' := 104) hX hPW flX6_readOrder_32 sn96 so96 rfl (k96_12 _) dX6_readOrder_71 ?_
        refine g_aload_n hX 0 rfl rfl dX6_readOrder_74 ?_
        refine g_getI (k := 11) hX hPW flX6_readOrder_185 sn96 so96 rfl dX6_readOrder_75 ?_
        refine g_iload_n hX 1 rfl rfl dX6_readOrder_78 ?_
        obtain ⟨zj10, zh9, zh11, k⟩ := k
        refine g_iast hX sn104 sh104 zh9 zh11 (by decide) dX6_readOrder_79 ?_
        refine g_aload_n hX 0 rfl rfl dX6_readOrder_80 ?_
        refine g_dup hX dX6_readOrder_81 rfl ?_
        refine g_getI (k := 11) hX hPW flX6_readOrder_185 sn96 so96 rfl dX6_readOrder_82 ?_
        refine g_iconst (v := 1) hX dX6_readOrder_85 (by decide) ?_
        refine g_iadd hX dX6_readOrder_86 ?_
        refine g_putI (k := 11) hX fpX6_readOrder_185 sn96 so96 rfl rfl rfl dX6_readOrder_87 ?_
        refine g_aload_n hX 0 rfl rfl dX6_readOrder_90 ?_
        refine g_aload_n hX 0 rfl rfl dX6_readOrder_91 ?_
        obtain ⟨zr13, zI14, zhc12, k⟩ := k
        refine g_callV (cs' := 0) (sl' := 0) (C := RX6) (as := []) (st := [.ref 96]) hX zhc12 hPW sn96 so96 rfl gX6_readOrder_X6_here rfl rfl rfl ydX6_here (by decide) (Nat.le_of_ble_eq_true rfl) (by decide) dX6_readOrder_92 rfl rfl ?_
        refine g_bipush (v := 59) hX dX6_readOrder_95 (by decide) ?_
        have kJ : G X 0 0 105 [(0, .ref 96), (1, .int x1), (2, .int x2), (3, .int x3)] [.int (if zr13 = 59 then 1 else 0 : Int32), .ref 96] (HM X zI14 L p) := by
          obtain ⟨zI16, zhc15, k⟩ := k
          refine g_callV (cs' := 0) (sl' := 0) (C := RX6) (as := [.int (if zr13 = 59 then 1 else 0 : Int32)]) (st := []) hX zhc15 hPW sn96 so96 rfl gX6_readOrder_X6_must rfl rfl rfl ydX6_must (by decide) (Nat.le_of_ble_eq_true rfl) (by decide) dX6_readOrder_105 rfl rfl ?_
          exact g_return hX k rfl rfl dX6_readOrder_108
        refine g_icmp_ne (tgt := 104) hX dX6_readOrder_97 (by decide) (fun h => ?_) (fun h => ?_)
        · rw [(show (if zr13 = 59 then 1 else 0 : Int32) = 0 from if_neg h)] at kJ
          refine g_iconst (v := 0) hX dX6_readOrder_104 (by decide) ?_
          exact kJ
        · rw [(show (if zr13 = 59 then 1 else 0 : Int32) = 1 from if_pos h)] at kJ
          refine g_iconst (v := 1) hX dX6_readOrder_100 (by decide) ?_
          refine g_goto (tgt := 105) hX dX6_readOrder_101 (by decide) ?_
          exact kJ
    · replace k := k.2 h
      refine g_aload_n hX 0 rfl rfl dX6_readOrder_39 ?_
      refine g_getR (k := 13) (r' := 105) hX hPW flX6_readOrder_35 sn96 so96 rfl (k96_13 _) dX6_readOrder_40 ?_
      refine g_iconst (v := 4) hX dX6_readOrder_43 (by decide) ?_
      refine g_aload_n hX 0 rfl rfl dX6_readOrder_44 ?_
      refine g_getI (k := 11) hX hPW flX6_readOrder_185 sn96 so96 rfl dX6_readOrder_45 ?_
      refine g_imul hX dX6_readOrder_48 ?_
      refine g_iload_n hX 3 rfl rfl dX6_readOrder_49 ?_
      refine g_iadd hX dX6_readOrder_50 ?_
      refine g_aload_n hX 0 rfl rfl dX6_readOrder_51 ?_
      obtain ⟨zr18, zI19, zhc17, k⟩ := k
      refine g_callV (cs' := 0) (sl' := 0) (C := RX6) (as := []) (st := [.int ((4 * (I 96 11)) + x3), .ref 105]) hX zhc17 hPW sn96 so96 rfl gX6_readOrder_X6_number rfl rfl rfl ydX6_number (by decide) (Nat.le_of_ble_eq_true rfl) (by decide) dX6_readOrder_52 rfl rfl ?_
      obtain ⟨zj21, zh20, zh22, k⟩ := k
      refine g_iast hX sn105 sh105 zh20 zh22 (by decide) dX6_readOrder_55 ?_
      refine g_iinc (v := x3 + 1) (ls' := [(0, .ref 96), (1, .int x1), (2, .int x2), (3, .int (x3 + 1))]) hX 3 rfl dX6_readOrder_56 rfl (by decide) rfl ?_
      refine g_goto (tgt := 26) hX dX6_readOrder_59 (by decide) ?_
      exact k
set_option maxRecDepth 4000 in
theorem RX6_doOrder_0 {X : XT} {I : MI} {L : ML} {p : Nat → Nat}  (hX : Cx X cX6_doOrder 4 RX6 wsX6_doOrder rmX6_doOrder) (x1 : Int32) (k : (∃ zj2 : Nat, (4 * x1) = nI zj2 ∧ zj2 < 160 ∧ (∃ zj5 : Nat, ((4 * x1) + 1) = nI zj5 ∧ zj5 < 160 ∧ (∃ zj8 : Nat, x1 = nI zj8 ∧ zj8 < 40 ∧ (((I 104 zj8) = 99 → (∃ (zr11 : Int32) (zI12 : MI), Ct (xE X) (xl X) yX6_doSight wsX6_doSight rmX6_doSight [.ref 96, .int 0, .int (I 105 zj2), .int (I 105 zj5)] (HM X I L p) (some (.int zr11)) (HM X zI12 L p) ∧ Rt X (some .int) rmX6_doOrder (some (.int zr11)) (HM X zI12 L p))) ∧ (((I 104 zj8) = 101 → (∃ (zr14 : Int32) (zI15 : MI), Ct (xE X) (xl X) yX6_doSight wsX6_doSight rmX6_doSight [.ref 96, .int 1, .int (I 105 zj2), .int (I 105 zj5)] (HM X I L p) (some (.int zr14)) (HM X zI15 L p) ∧ Rt X (some .int) rmX6_doOrder (some (.int zr14)) (HM X zI15 L p))) ∧ (((I 104 zj8) = 112 → (∃ zj17 : Nat, ((4 * x1) + 2) = nI zj17 ∧ zj17 < 160 ∧ (∃ zj20 : Nat, ((4 * x1) + 3) = nI zj20 ∧ zj20 < 160 ∧ (∃ (zr23 : Int32) (zI24 : MI), Ct (xE X) (xl X) yX6_doPipe wsX6_doPipe rmX6_doPipe [.ref 96, .int (I 105 zj2), .int (I 105 zj5), .int (I 105 zj17), .int (I 105 zj20)] (HM X I L p) (some (.int zr23)) (HM X zI24 L p) ∧ Rt X (some .int) rmX6_doOrder (some (.int zr23)) (HM X zI24 L p))))) ∧ (((I 104 zj8) = 115 → (∃ (zr26 : Int32) (zI27 : MI), Ct (xE X) (xl X) yX6_doShaft wsX6_doShaft rmX6_doShaft [.ref 96, .int (I 105 zj2), .int (I 105 zj5)] (HM X I L p) (some (.int zr26)) (HM X zI27 L p) ∧ Rt X (some .int) rmX6_doOrder (some (.int zr26)) (HM X zI27 L p))) ∧ (¬ (I 104 zj8) = 99 ∧ ¬ (I 104 zj8) = 101 ∧ ¬ (I 104 zj8) = 112 ∧ ¬ (I 104 zj8) = 115 → (∃ (zr29 : Int32) (zI30 : MI), Ct (xE X) (xl X) yX6_doDrops wsX6_doDrops rmX6_doDrops [.ref 96, .int (I 105 zj2)] (HM X I L p) (some (.int zr29)) (HM X zI30 L p) ∧ Rt X (some .int) rmX6_doOrder (some (.int zr29)) (HM X zI30 L p))))))))))) : G X 0 0 0 [(0, .ref 96), (1, .int x1)] [] (HM X I L p) := by
  refine g_aload_n hX 0 rfl rfl dX6_doOrder_0 ?_
  refine g_getR (k := 13) (r' := 105) hX hPW flX6_doOrder_35 sn96 so96 rfl (k96_13 _) dX6_doOrder_1 ?_
  refine g_iconst (v := 4) hX dX6_doOrder_4 (by decide) ?_
  refine g_iload_n hX 1 rfl rfl dX6_doOrder_5 ?_
  refine g_imul hX dX6_doOrder_6 ?_
  obtain ⟨zj2, zh1, zh3, k⟩ := k
  refine g_iald hX hPW sn105 sh105 zh1 zh3 (by decide) dX6_doOrder_7 ?_
  refine g_istore_n (ls' := [(0, .ref 96), (1, .int x1), (2, .int (I 105 zj2))]) hX dX6_doOrder_8 rfl (by decide) rfl ?_
  refine g_aload_n hX 0 rfl rfl dX6_doOrder_9 ?_
  refine g_getR (k := 13) (r' := 105) hX hPW flX6_doOrder_35 sn96 so96 rfl (k96_13 _) dX6_doOrder_10 ?_
  refine g_iconst (v := 4) hX dX6_doOrder_13 (by decide) ?_
  refine g_iload_n hX 1 rfl rfl dX6_doOrder_14 ?_
  refine g_imul hX dX6_doOrder_15 ?_
  refine g_iconst (v := 1) hX dX6_doOrder_16 (by decide) ?_
  refine g_iadd hX dX6_doOrder_17 ?_
  obtain ⟨zj5, zh4, zh6, k⟩ := k
  refine g_iald hX hPW sn105 sh105 zh4 zh6 (by decide) dX6_doOrder_18 ?_
  refine g_istore_n (ls' := [(0, .ref 96), (1, .int x1), (2, .int (I 105 zj2)), (3, .int (I 105 zj5))]) hX dX6_doOrder_19 rfl (by decide) rfl ?_
  refine g_aload_n hX 0 rfl rfl dX6_doOrder_20 ?_
  refine g_getR (k := 12) (r' := 104) hX hPW flX6_doOrder_32 sn96 so96 rfl (k96_12 _) dX6_doOrder_21 ?_
  refine g_iload_n hX 1 rfl rfl dX6_doOrder_24 ?_
  obtain ⟨zj8, zh7, zh9, k⟩ := k
  refine g_iald hX hPW sn104 sh104 zh7 zh9 (by decide) dX6_doOrder_25 ?_
  by_cases c0 : (I 104 zj8) = 99
  · replace k := k.1 c0
    refine g_lookup (off := 84) (tgt := 110) hX dX6_doOrder_26 (by decide) (by rw [c0]; decide) (by decide) ?_
    refine g_aload_n hX 0 rfl rfl dX6_doOrder_110 ?_
    refine g_iconst (v := 0) hX dX6_doOrder_111 (by decide) ?_
    refine g_iload_n hX 2 rfl rfl dX6_doOrder_112 ?_
    refine g_iload_n hX 3 rfl rfl dX6_doOrder_113 ?_
    obtain ⟨zr11, zI12, zhc10, k⟩ := k
    refine g_callV (cs' := 0) (sl' := 0) (C := RX6) (as := [.int 0, .int (I 105 zj2), .int (I 105 zj5)]) (st := []) hX zhc10 hPW sn96 so96 rfl gX6_doOrder_X6_doSight rfl rfl rfl ydX6_doSight (by decide) (Nat.le_of_ble_eq_true rfl) (by decide) dX6_doOrder_114 rfl rfl ?_
    exact g_ireturn hX k rfl rfl dX6_doOrder_117
  · replace k := k.2
    by_cases c1 : (I 104 zj8) = 101
    · replace k := k.1 c1
      refine g_lookup (off := 76) (tgt := 102) hX dX6_doOrder_26 (by decide) (by rw [c1]; decide) (by decide) ?_
      refine g_aload_n hX 0 rfl rfl dX6_doOrder_102 ?_
      refine g_iconst (v := 1) hX dX6_doOrder_103 (by decide) ?_
      refine g_iload_n hX 2 rfl rfl dX6_doOrder_104 ?_
      refine g_iload_n hX 3 rfl rfl dX6_doOrder_105 ?_
      obtain ⟨zr14, zI15, zhc13, k⟩ := k
      refine g_callV (cs' := 0) (sl' := 0) (C := RX6) (as := [.int 1, .int (I 105 zj2), .int (I 105 zj5)]) (st := []) hX zhc13 hPW sn96 so96 rfl gX6_doOrder_X6_doSight rfl rfl rfl ydX6_doSight (by decide) (Nat.le_of_ble_eq_true rfl) (by decide) dX6_doOrder_106 rfl rfl ?_
      exact g_ireturn hX k rfl rfl dX6_doOrder_109
    · replace k := k.2
      by_cases c2 : (I 104 zj8) = 112
      · replace k := k.1 c2
        refine g_lookup (off := 49) (tgt := 75) hX dX6_doOrder_26 (by decide) (by rw [c2]; decide) (by decide) ?_
        refine g_aload_n hX 0 rfl rfl dX6_doOrder_75 ?_
        refine g_iload_n hX 2 rfl rfl dX6_doOrder_76 ?_
        refine g_iload_n hX 3 rfl rfl dX6_doOrder_77 ?_
        refine g_aload_n hX 0 rfl rfl dX6_doOrder_78 ?_
        refine g_getR (k := 13) (r' := 105) hX hPW flX6_doOrder_35 sn96 so96 rfl (k96_13 _) dX6_doOrder_79 ?_
        refine g_iconst (v := 4) hX dX6_doOrder_82 (by decide) ?_
        refine g_iload_n hX 1 rfl rfl dX6_doOrder_83 ?_
        refine g_imul hX dX6_doOrder_84 ?_
        refine g_iconst (v := 2) hX dX6_doOrder_85 (by decide) ?_
        refine g_iadd hX dX6_doOrder_86 ?_
        obtain ⟨zj17, zh16, zh18, k⟩ := k
        refine g_iald hX hPW sn105 sh105 zh16 zh18 (by decide) dX6_doOrder_87 ?_
        refine g_aload_n hX 0 rfl rfl dX6_doOrder_88 ?_
        refine g_getR (k := 13) (r' := 105) hX hPW flX6_doOrder_35 sn96 so96 rfl (k96_13 _) dX6_doOrder_89 ?_
        refine g_iconst (v := 4) hX dX6_doOrder_92 (by decide) ?_
        refine g_iload_n hX 1 rfl rfl dX6_doOrder_93 ?_
        refine g_imul hX dX6_doOrder_94 ?_
        refine g_iconst (v := 3) hX dX6_doOrder_95 (by decide) ?_
        refine g_iadd hX dX6_doOrder_96 ?_
        obtain ⟨zj20, zh19, zh21, k⟩ := k
        refine g_iald hX hPW sn105 sh105 zh19 zh21 (by decide) dX6_doOrder_97 ?_
        obtain ⟨zr23, zI24, zhc22, k⟩ := k
        refine g_callV (cs' := 0) (sl' := 0) (C := RX6) (as := [.int (I 105 zj2), .int (I 105 zj5), .int (I 105 zj17), .int (I 105 zj20)]) (st := []) hX zhc22 hPW sn96 so96 rfl gX6_doOrder_X6_doPipe rfl rfl rfl ydX6_doPipe (by decide) (Nat.le_of_ble_eq_true rfl) (by decide) dX6_doOrder_98 rfl rfl ?_
        exact g_ireturn hX k rfl rfl dX6_doOrder_101
      · replace k := k.2
        by_cases c3 : (I 104 zj8) = 115
        · replace k := k.1 c3
          refine g_lookup (off := 42) (tgt := 68) hX dX6_doOrder_26 (by decide) (by rw [c3]; decide) (by decide) ?_
          refine g_aload_n hX 0 rfl rfl dX6_doOrder_68 ?_
          refine g_iload_n hX 2 rfl rfl dX6_doOrder_69 ?_
          refine g_iload_n hX 3 rfl rfl dX6_doOrder_70 ?_
          obtain ⟨zr26, zI27, zhc25, k⟩ := k
          refine g_callV (cs' := 0) (sl' := 0) (C := RX6) (as := [.int (I 105 zj2), .int (I 105 zj5)]) (st := []) hX zhc25 hPW sn96 so96 rfl gX6_doOrder_X6_doShaft rfl rfl rfl ydX6_doShaft (by decide) (Nat.le_of_ble_eq_true rfl) (by decide) dX6_doOrder_71 rfl rfl ?_
          exact g_ireturn hX k rfl rfl dX6_doOrder_74
        · replace k := k.2
          replace k := k ⟨c0, c1, c2, c3⟩
          refine g_lookup (off := 92) (tgt := 118) hX dX6_doOrder_26 (by decide) (by dsimp only; rw [lv_osw c0 (show (99 : Int32).toInt = 99 by decide), lv_osw c1 (show (101 : Int32).toInt = 101 by decide), lv_osw c2 (show (112 : Int32).toInt = 112 by decide), lv_osw c3 (show (115 : Int32).toInt = 115 by decide)]; rfl) (by decide) ?_
          refine g_aload_n hX 0 rfl rfl dX6_doOrder_118 ?_
          refine g_iload_n hX 2 rfl rfl dX6_doOrder_119 ?_
          obtain ⟨zr29, zI30, zhc28, k⟩ := k
          refine g_callV (cs' := 0) (sl' := 0) (C := RX6) (as := [.int (I 105 zj2)]) (st := []) hX zhc28 hPW sn96 so96 rfl gX6_doOrder_X6_doDrops rfl rfl rfl ydX6_doDrops (by decide) (Nat.le_of_ble_eq_true rfl) (by decide) dX6_doOrder_120 rfl rfl ?_
          exact g_ireturn hX k rfl rfl dX6_doOrder_123
set_option maxRecDepth 4000 in
theorem RX6_reads_0 {X : XT} {I : MI} {L : ML} {p : Nat → Nat}  (hX : Cx X cX6_reads 3 RX6 wsX6_reads rmX6_reads)  (k : (∃ (zr2 : Int32) (zI3 : MI), Ct (xE X) (xl X) yX6_here wsX6_here rmX6_here [.ref 96] (HM X (upI (upI (upI I 96 9 0) 96 10 (-1)) 96 11 0) L p) (some (.int zr2)) (HM X zI3 L p) ∧ ((¬ zr2 = (-1) → G X 0 0 31 [(0, .ref 96)] [] (HM X zI3 L p)) ∧ (zr2 = (-1) → Rt X (some .int) rmX6_reads (some (.int ((-10) - (zI3 96 8)))) (HM X zI3 L p))))) : G X 0 0 0 [(0, .ref 96)] [] (HM X I L p) := by
  refine g_aload_n hX 0 rfl rfl dX6_reads_0 ?_
  refine g_iconst (v := 0) hX dX6_reads_1 (by decide) ?_
  refine g_putI (k := 9) hX fpX6_reads_165 sn96 so96 rfl rfl rfl dX6_reads_2 ?_
  refine g_aload_n hX 0 rfl rfl dX6_reads_5 ?_
  refine g_iconst (v := (-1)) hX dX6_reads_6 (by decide) ?_
  refine g_putI (k := 10) hX fpX6_reads_168 sn96 so96 rfl rfl rfl dX6_reads_7 ?_
  refine g_aload_n hX 0 rfl rfl dX6_reads_10 ?_
  refine g_iconst (v := 0) hX dX6_reads_11 (by decide) ?_
  refine g_putI (k := 11) hX fpX6_reads_185 sn96 so96 rfl rfl rfl dX6_reads_12 ?_
  refine g_aload_n hX 0 rfl rfl dX6_reads_15 ?_
  obtain ⟨zr2, zI3, zhc1, k⟩ := k
  refine g_callV (cs' := 0) (sl' := 0) (C := RX6) (as := []) (st := []) hX zhc1 hPW sn96 so96 rfl gX6_reads_X6_here rfl rfl rfl ydX6_here (by decide) (Nat.le_of_ble_eq_true rfl) (by decide) dX6_reads_16 rfl rfl ?_
  refine g_iconst (v := (-1)) hX dX6_reads_19 (by decide) ?_
  refine g_icmp_ne (tgt := 31) hX dX6_reads_20 (by decide) (fun h => ?_) (fun h => ?_)
  · replace k := k.1 h
    exact k
  · replace k := k.2 h
    refine g_bipush (v := (-10)) hX dX6_reads_23 (by decide) ?_
    refine g_aload_n hX 0 rfl rfl dX6_reads_25 ?_
    refine g_getI (k := 8) hX hPW flX6_reads_162 sn96 so96 rfl dX6_reads_26 ?_
    refine g_isub hX dX6_reads_29 ?_
    exact g_ireturn hX k rfl rfl dX6_reads_30
set_option maxRecDepth 4000 in
theorem RX6_reads_31 {X : XT} {I : MI} {L : ML} {p : Nat → Nat}  (hX : Cx X cX6_reads 3 RX6 wsX6_reads rmX6_reads)  (k : ((¬ (I 96 10) = (-1) → (((I 96 10) = (-1) → (∃ (zI2 : MI), Ct (xE X) (xl X) yX6_hold wsX6_hold rmX6_hold [.ref 96] (HM X I L p) none (HM X zI2 L p) ∧ G X 0 0 76 [(0, .ref 96), (1, .int 0)] [] (HM X zI2 L p))) ∧ (¬ (I 96 10) = (-1) → Rt X (some .int) rmX6_reads (some (.int ((-10) - (I 96 10)))) (HM X I L p)))) ∧ ((I 96 10) = (-1) → (∃ (zr4 : Int32) (zI5 : MI), Ct (xE X) (xl X) yX6_here wsX6_here rmX6_here [.ref 96] (HM X I L p) (some (.int zr4)) (HM X zI5 L p) ∧ ((zr4 = (-1) → (((zI5 96 10) = (-1) → (∃ (zI7 : MI), Ct (xE X) (xl X) yX6_hold wsX6_hold rmX6_hold [.ref 96] (HM X zI5 L p) none (HM X zI7 L p) ∧ G X 0 0 76 [(0, .ref 96), (1, .int 0)] [] (HM X zI7 L p))) ∧ (¬ (zI5 96 10) = (-1) → Rt X (some .int) rmX6_reads (some (.int ((-10) - (zI5 96 10)))) (HM X zI5 L p)))) ∧ (¬ zr4 = (-1) → (∃ (zI9 : MI), Ct (xE X) (xl X) yX6_readOrder wsX6_readOrder rmX6_readOrder [.ref 96] (HM X zI5 L p) none (HM X zI9 L p) ∧ G X 0 0 31 [(0, .ref 96)] [] (HM X zI9 L p)))))))) : G X 0 0 31 [(0, .ref 96)] [] (HM X I L p) := by
  refine g_aload_n hX 0 rfl rfl dX6_reads_31 ?_
  refine g_getI (k := 10) hX hPW flX6_reads_168 sn96 so96 rfl dX6_reads_32 ?_
  refine g_iconst (v := (-1)) hX dX6_reads_35 (by decide) ?_
  refine g_icmp_ne (tgt := 54) hX dX6_reads_36 (by decide) (fun h => ?_) (fun h => ?_)
  · replace k := k.1 h
    refine g_aload_n hX 0 rfl rfl dX6_reads_54 ?_
    refine g_getI (k := 10) hX hPW flX6_reads_168 sn96 so96 rfl dX6_reads_55 ?_
    refine g_iconst (v := (-1)) hX dX6_reads_58 (by decide) ?_
    refine g_icmp_eq (tgt := 70) hX dX6_reads_59 (by decide) (fun h => ?_) (fun h => ?_)
    · replace k := k.1 h
      refine g_aload_n hX 0 rfl rfl dX6_reads_70 ?_
      obtain ⟨zI2, zhc1, k⟩ := k
      refine g_callV (cs' := 0) (sl' := 0) (C := RX6) (as := []) (st := []) hX zhc1 hPW sn96 so96 rfl gX6_reads_X6_hold rfl rfl rfl ydX6_hold (by decide) (Nat.le_of_ble_eq_true rfl) (by decide) dX6_reads_71 rfl rfl ?_
      refine g_iconst (v := 0) hX dX6_reads_74 (by decide) ?_
      refine g_istore_n (ls' := [(0, .ref 96), (1, .int 0)]) hX dX6_reads_75 rfl (by decide) rfl ?_
      exact k
    · replace k := k.2 h
      refine g_bipush (v := (-10)) hX dX6_reads_62 (by decide) ?_
      refine g_aload_n hX 0 rfl rfl dX6_reads_64 ?_
      refine g_getI (k := 10) hX hPW flX6_reads_168 sn96 so96 rfl dX6_reads_65 ?_
      refine g_isub hX dX6_reads_68 ?_
      exact g_ireturn hX k rfl rfl dX6_reads_69
  · replace k := k.2 h
    refine g_aload_n hX 0 rfl rfl dX6_reads_39 ?_
    obtain ⟨zr4, zI5, zhc3, k⟩ := k
    refine g_callV (cs' := 0) (sl' := 0) (C := RX6) (as := []) (st := []) hX zhc3 hPW sn96 so96 rfl gX6_reads_X6_here rfl rfl rfl ydX6_here (by decide) (Nat.le_of_ble_eq_true rfl) (by decide) dX6_reads_40 rfl rfl ?_
    refine g_iconst (v := (-1)) hX dX6_reads_43 (by decide) ?_
    refine g_icmp_eq (tgt := 54) hX dX6_reads_44 (by decide) (fun h => ?_) (fun h => ?_)
    · replace k := k.1 h
      refine g_aload_n hX 0 rfl rfl dX6_reads_54 ?_
      refine g_getI (k := 10) hX hPW flX6_reads_168 sn96 so96 rfl dX6_reads_55 ?_
      refine g_iconst (v := (-1)) hX dX6_reads_58 (by decide) ?_
      refine g_icmp_eq (tgt := 70) hX dX6_reads_59 (by decide) (fun h => ?_) (fun h => ?_)
      · replace k := k.1 h
        refine g_aload_n hX 0 rfl rfl dX6_reads_70 ?_
        obtain ⟨zI7, zhc6, k⟩ := k
        refine g_callV (cs' := 0) (sl' := 0) (C := RX6) (as := []) (st := []) hX zhc6 hPW sn96 so96 rfl gX6_reads_X6_hold rfl rfl rfl ydX6_hold (by decide) (Nat.le_of_ble_eq_true rfl) (by decide) dX6_reads_71 rfl rfl ?_
        refine g_iconst (v := 0) hX dX6_reads_74 (by decide) ?_
        refine g_istore_n (ls' := [(0, .ref 96), (1, .int 0)]) hX dX6_reads_75 rfl (by decide) rfl ?_
        exact k
      · replace k := k.2 h
        refine g_bipush (v := (-10)) hX dX6_reads_62 (by decide) ?_
        refine g_aload_n hX 0 rfl rfl dX6_reads_64 ?_
        refine g_getI (k := 10) hX hPW flX6_reads_168 sn96 so96 rfl dX6_reads_65 ?_
        refine g_isub hX dX6_reads_68 ?_
        exact g_ireturn hX k rfl rfl dX6_reads_69
    · replace k := k.2 h
      refine g_aload_n hX 0 rfl rfl dX6_reads_47 ?_
      obtain ⟨zI9, zhc8, k⟩ := k
      refine g_callV (cs' := 0) (sl' := 0) (C := RX6) (as := []) (st := []) hX zhc8 hPW sn96 so96 rfl gX6_reads_X6_readOrder rfl rfl rfl ydX6_readOrder (by decide) (Nat.le_of_ble_eq_true rfl) (by decide) dX6_reads_48 rfl rfl ?_
      refine g_goto (tgt := 31) hX dX6_reads_51 (by decide) ?_
      exact k
set_option maxRecDepth 4000 in
theorem RX6_reads_76 {X : XT} {I : MI} {L : ML} {p : Nat → Nat}  (hX : Cx X cX6_reads 3 RX6 wsX6_reads rmX6_reads) (x1 : Int32) (k : (((I 96 11) ≤ x1 → (∃ (zI2 : MI), Ct (xE X) (xl X) yX6_push wsX6_push rmX6_push [.ref 96] (HM X I L p) none (HM X zI2 L p) ∧ Rt X (some .int) rmX6_reads (some (.int (zI2 96 11))) (HM X zI2 L p))) ∧ (¬ (I 96 11) ≤ x1 → (∃ (zr4 : Int32) (zI5 : MI), Ct (xE X) (xl X) yX6_doOrder wsX6_doOrder rmX6_doOrder [.ref 96, .int x1] (HM X I L p) (some (.int zr4)) (HM X zI5 L p) ∧ ((0 ≤ zr4 → G X 0 0 76 [(0, .ref 96), (1, .int (x1 + 1))] [] (HM X zI5 L p)) ∧ (¬ 0 ≤ zr4 → G X 0 0 94 [(0, .ref 96), (1, .int x1), (2, .int 0)] [] (HM X zI5 L p))))))) : G X 0 0 76 [(0, .ref 96), (1, .int x1)] [] (HM X I L p) := by
  refine g_iload_n hX 1 rfl rfl dX6_reads_76 ?_
  refine g_aload_n hX 0 rfl rfl dX6_reads_77 ?_
  refine g_getI (k := 11) hX hPW flX6_reads_185 sn96 so96 rfl dX6_reads_78 ?_
  refine g_icmp_ge (tgt := 130) hX dX6_reads_81 (by decide) (fun h => ?_) (fun h => ?_)
  · replace k := k.1 h
    refine g_aload_n hX 0 rfl rfl dX6_reads_130 ?_
    obtain ⟨zI2, zhc1, k⟩ := k
    refine g_callV (cs' := 0) (sl' := 0) (C := RX6) (as := []) (st := []) hX zhc1 hPW sn96 so96 rfl gX6_reads_X6_push rfl rfl rfl ydX6_push (by decide) (Nat.le_of_ble_eq_true rfl) (by decide) dX6_reads_131 rfl rfl ?_
    refine g_aload_n hX 0 rfl rfl dX6_reads_134 ?_
    refine g_getI (k := 11) hX hPW flX6_reads_185 sn96 so96 rfl dX6_reads_135 ?_
    exact g_ireturn hX k rfl rfl dX6_reads_138
  · replace k := k.2 h
    refine g_aload_n hX 0 rfl rfl dX6_reads_84 ?_
    refine g_iload_n hX 1 rfl rfl dX6_reads_85 ?_
    obtain ⟨zr4, zI5, zhc3, k⟩ := k
    refine g_callV (cs' := 0) (sl' := 0) (C := RX6) (as := [.int x1]) (st := []) hX zhc3 hPW sn96 so96 rfl gX6_reads_X6_doOrder rfl rfl rfl ydX6_doOrder (by decide) (Nat.le_of_ble_eq_true rfl) (by decide) dX6_reads_86 rfl rfl ?_
    refine g_if_ge (tgt := 124) hX dX6_reads_89 (by decide) (fun h => ?_) (fun h => ?_)
    · replace k := k.1 h
      refine g_iinc (v := x1 + 1) (ls' := [(0, .ref 96), (1, .int (x1 + 1))]) hX 1 rfl dX6_reads_124 rfl (by decide) rfl ?_
      refine g_goto (tgt := 76) hX dX6_reads_127 (by decide) ?_
      exact k
    · replace k := k.2 h
      refine g_iconst (v := 0) hX dX6_reads_92 (by decide) ?_
      refine g_istore_n (ls' := [(0, .ref 96), (1, .int x1), (2, .int 0)]) hX dX6_reads_93 rfl (by decide) rfl ?_
      exact k
set_option maxRecDepth 4000 in
theorem RX6_reads_94 {X : XT} {I : MI} {L : ML} {p : Nat → Nat}  (hX : Cx X cX6_reads 3 RX6 wsX6_reads rmX6_reads) (x1 : Int32) (x2 : Int32) (k : ((123 ≤ x2 → Rt X (some .int) rmX6_reads (some (.int ((-1000) - x1))) (HM X I L p)) ∧ (¬ 123 ≤ x2 → (∃ zj2 : Nat, x2 = nI zj2 ∧ zj2 < 123 ∧ (∃ zj5 : Nat, x2 = nI zj5 ∧ zj5 < 123 ∧ G X 0 0 94 [(0, .ref 96), (1, .int x1), (2, .int (x2 + 1))] [] (HM X (upI I 97 zj5 (I 98 zj2)) L p)))))) : G X 0 0 94 [(0, .ref 96), (1, .int x1), (2, .int x2)] [] (HM X I L p) := by
  refine g_iload_n hX 2 rfl rfl dX6_reads_94 ?_
  refine g_bipush (v := 123) hX dX6_reads_95 (by decide) ?_
  refine g_icmp_ge (tgt := 118) hX dX6_reads_97 (by decide) (fun h => ?_) (fun h => ?_)
  · replace k := k.1 h
    refine g_sipush (v := (-1000)) hX dX6_reads_118 (by decide) ?_
    refine g_iload_n hX 1 rfl rfl dX6_reads_121 ?_
    refine g_isub hX dX6_reads_122 ?_
    exact g_ireturn hX k rfl rfl dX6_reads_123
  · replace k := k.2 h
    refine g_aload_n hX 0 rfl rfl dX6_reads_100 ?_
    refine g_getR (k := 0) (r' := 97) hX hPW flX6_reads_7 sn96 so96 rfl (k96_0 _) dX6_reads_101 ?_
    refine g_iload_n hX 2 rfl rfl dX6_reads_104 ?_
    refine g_aload_n hX 0 rfl rfl dX6_reads_105 ?_
    refine g_getR (k := 1) (r' := 98) hX hPW flX6_reads_13 sn96 so96 rfl (k96_1 _) dX6_reads_106 ?_
    refine g_iload_n hX 2 rfl rfl dX6_reads_109 ?_
    obtain ⟨zj2, zh1, zh3, k⟩ := k
    refine g_iald hX hPW sn98 sh98 zh1 zh3 (by decide) dX6_reads_110 ?_
    obtain ⟨zj5, zh4, zh6, k⟩ := k
    refine g_iast hX sn97 sh97 zh4 zh6 (by decide) dX6_reads_111 ?_
    refine g_iinc (v := x2 + 1) (ls' := [(0, .ref 96), (1, .int x1), (2, .int (x2 + 1))]) hX 2 rfl dX6_reads_112 rfl (by decide) rfl ?_
    refine g_goto (tgt := 94) hX dX6_reads_115 (by decide) ?_
    exact k
set_option maxRecDepth 4000 in
theorem RX6_toldOf_0 {X : XT} {I : MI} {L : ML} {p : Nat → Nat}  (hX : Cx X cX6_toldOf 2 RX6 wsX6_toldOf rmX6_toldOf) (x1 : Int32) (k : ((3 ≤ x1 → ((¬ x1 = 3 → ((7 ≤ x1 → Rt X (some .int) rmX6_toldOf (some (.int (I 96 3))) (HM X I L p)) ∧ (¬ 7 ≤ x1 → (∃ zj2 : Nat, (x1 - 4) = nI zj2 ∧ zj2 < 123 ∧ Rt X (some .int) rmX6_toldOf (some (.int (I 97 zj2))) (HM X I L p))))) ∧ (x1 = 3 → Rt X (some .int) rmX6_toldOf (some (.int (I 96 8))) (HM X I L p)))) ∧ (¬ 3 ≤ x1 → (∃ zj5 : Nat, x1 = nI zj5 ∧ zj5 < 3 ∧ Rt X (some .int) rmX6_toldOf (some (.int (I 100 zj5))) (HM X I L p))))) : G X 0 0 0 [(0, .ref 96), (1, .int x1)] [] (HM X I L p) := by
  refine g_iload_n hX 1 rfl rfl dX6_toldOf_0 ?_
  refine g_iconst (v := 3) hX dX6_toldOf_1 (by decide) ?_
  refine g_icmp_ge (tgt := 14) hX dX6_toldOf_2 (by decide) (fun h => ?_) (fun h => ?_)
  · replace k := k.1 h
    refine g_iload_n hX 1 rfl rfl dX6_toldOf_14 ?_
    refine g_iconst (v := 3) hX dX6_toldOf_15 (by decide) ?_
    refine g_icmp_ne (tgt := 26) hX dX6_toldOf_16 (by decide) (fun h => ?_) (fun h => ?_)
    · replace k := k.1 h
      refine g_iload_n hX 1 rfl rfl dX6_toldOf_26 ?_
      refine g_bipush (v := 7) hX dX6_toldOf_27 (by decide) ?_
      refine g_icmp_ge (tgt := 43) hX dX6_toldOf_29 (by decide) (fun h => ?_) (fun h => ?_)
      · replace k := k.1 h
        refine g_aload_n hX 0 rfl rfl dX6_toldOf_43 ?_
        refine g_getI (k := 3) hX hPW flX6_toldOf_38 sn96 so96 rfl dX6_toldOf_44 ?_
        exact g_ireturn hX k rfl rfl dX6_toldOf_47
      · replace k := k.2 h
        refine g_aload_n hX 0 rfl rfl dX6_toldOf_32 ?_
        refine g_getR (k := 0) (r' := 97) hX hPW flX6_toldOf_7 sn96 so96 rfl (k96_0 _) dX6_toldOf_33 ?_
        refine g_iload_n hX 1 rfl rfl dX6_toldOf_36 ?_
        refine g_iconst (v := 4) hX dX6_toldOf_37 (by decide) ?_
        refine g_isub hX dX6_toldOf_38 ?_
        obtain ⟨zj2, zh1, zh3, k⟩ := k
        refine g_iald hX hPW sn97 sh97 zh1 zh3 (by decide) dX6_toldOf_39 ?_
        refine g_goto (tgt := 47) hX dX6_toldOf_40 (by decide) ?_
        exact g_ireturn hX k rfl rfl dX6_toldOf_47
    · replace k := k.2 h
      refine g_aload_n hX 0 rfl rfl dX6_toldOf_19 ?_
      refine g_getI (k := 8) hX hPW flX6_toldOf_162 sn96 so96 rfl dX6_toldOf_20 ?_
      refine g_goto (tgt := 47) hX dX6_toldOf_23 (by decide) ?_
      exact g_ireturn hX k rfl rfl dX6_toldOf_47
  · replace k := k.2 h
    refine g_aload_n hX 0 rfl rfl dX6_toldOf_5 ?_
    refine g_getR (k := 4) (r' := 100) hX hPW flX6_toldOf_19 sn96 so96 rfl (k96_4 _) dX6_toldOf_6 ?_
    refine g_iload_n hX 1 rfl rfl dX6_toldOf_9 ?_
    obtain ⟨zj5, zh4, zh6, k⟩ := k
    refine g_iald hX hPW sn100 sh100 zh4 zh6 (by decide) dX6_toldOf_10 ?_
    refine g_goto (tgt := 47) hX dX6_toldOf_11 (by decide) ?_
    exact g_ireturn hX k rfl rfl dX6_toldOf_47
set_option maxRecDepth 4000 in
theorem RX6_told_0 {X : XT} {I : MI} {L : ML} {p : Nat → Nat}  (hX : Cx X cX6_told 2 RX6 wsX6_told rmX6_told) (x1 : Int32) (k : (∃ (zr2 : Int32), Ct (xE X) (xl X) yX6_in wsX6_in rmX6_in [.int x1, .int 0, .int 7] (HM X I L p) (some (.int zr2)) (HM X I L p) ∧ ((zr2 = 0 → (∃ (zr4 : Int32) (zI5 : MI), Ct (xE X) (xl X) yX6_refuses wsX6_refuses rmX6_refuses [.ref 96, .int (-2)] (HM X I L p) (some (.int zr4)) (HM X zI5 L p) ∧ Rt X (some .int) rmX6_told (some (.int zr4)) (HM X zI5 L p))) ∧ (¬ zr2 = 0 → (∃ (zr7 : Int32), Ct (xE X) (xl X) yX6_toldOf wsX6_toldOf rmX6_toldOf [.ref 96, .int x1] (HM X I L p) (some (.int zr7)) (HM X I L p) ∧ Rt X (some .int) rmX6_told (some (.int zr7)) (HM X I L p)))))) : G X 0 0 0 [(0, .ref 96), (1, .int x1)] [] (HM X I L p) := by
  refine g_iload_n hX 1 rfl rfl dX6_told_0 ?_
  refine g_iconst (v := 0) hX dX6_told_1 (by decide) ?_
  refine g_bipush (v := 7) hX dX6_told_2 (by decide) ?_
  obtain ⟨zr2, zhc1, k⟩ := k
  refine g_callS (cs' := 0) (sl' := 0) (as := [.int x1, .int 0, .int 7]) (st := []) hX zhc1 gX6_told_X6_in rfl rfl ydX6_in (by decide) (Nat.le_of_ble_eq_true rfl) (by decide) dX6_told_4 rfl rfl ?_
  refine g_if_eq (tgt := 18) hX dX6_told_7 (by decide) (fun h => ?_) (fun h => ?_)
  · replace k := k.1 h
    refine g_aload_n hX 0 rfl rfl dX6_told_18 ?_
    refine g_bipush (v := (-2)) hX dX6_told_19 (by decide) ?_
    obtain ⟨zr4, zI5, zhc3, k⟩ := k
    refine g_callV (cs' := 0) (sl' := 0) (C := RX6) (as := [.int (-2)]) (st := []) hX zhc3 hPW sn96 so96 rfl gX6_told_X6_refuses rfl rfl rfl ydX6_refuses (by decide) (Nat.le_of_ble_eq_true rfl) (by decide) dX6_told_21 rfl rfl ?_
    exact g_ireturn hX k rfl rfl dX6_told_24
  · replace k := k.2 h
    refine g_aload_n hX 0 rfl rfl dX6_told_10 ?_
    refine g_iload_n hX 1 rfl rfl dX6_told_11 ?_
    obtain ⟨zr7, zhc6, k⟩ := k
    refine g_callV (cs' := 0) (sl' := 0) (C := RX6) (as := [.int x1]) (st := []) hX zhc6 hPW sn96 so96 rfl gX6_told_X6_toldOf rfl rfl rfl ydX6_toldOf (by decide) (Nat.le_of_ble_eq_true rfl) (by decide) dX6_told_12 rfl rfl ?_
    refine g_goto (tgt := 24) hX dX6_told_15 (by decide) ?_
    exact g_ireturn hX k rfl rfl dX6_told_24
set_option maxRecDepth 4000 in
theorem RX6_mix_0 {X : XT} {I : MI} {L : ML} {p : Nat → Nat}  (hX : Cx X cX6_mix 3 RX6 wsX6_mix rmX6_mix) (x1 : Int64) (k : Rt X none rmX6_mix none (HM X I (upL L 96 14 ((31 * (L 96 14)) + x1)) p)) : G X 0 0 0 [(0, .ref 96), (1, .long x1)] [] (HM X I L p) := by
  refine g_aload_n hX 0 rfl rfl dX6_mix_0 ?_
  refine g_ldc2 (v := 31) hX (by decide +kernel) dX6_mix_1 ?_
  refine g_aload_n hX 0 rfl rfl dX6_mix_4 ?_
  refine g_getL (k := 14) hX hPW flX6_mix_202 sn96 so96 rfl dX6_mix_5 ?_
  refine g_lmul hX dX6_mix_8 ?_
  refine g_lload_n hX 1 rfl rfl dX6_mix_9 ?_
  refine g_ladd hX dX6_mix_10 ?_
  refine g_putL (k := 14) hX fpX6_mix_202 sn96 so96 rfl dX6_mix_11 ?_
  exact g_return hX k rfl rfl dX6_mix_14
set_option maxRecDepth 4000 in
theorem RX6_digest_0 {X : XT} {I : MI} {L : ML} {p : Nat → Nat}  (hX : Cx X cX6_digest 4 RX6 wsX6_digest rmX6_digest)  (k : G X 0 0 9 [(0, .ref 96), (1, .int 0)] [] (HM X I (upL L 96 14 2557) p)) : G X 0 0 0 [(0, .ref 96)] [] (HM X I L p) := by
  refine g_aload_n hX 0 rfl rfl dX6_digest_0 ?_
  refine g_ldc2 (v := 2557) hX (by decide +kernel) dX6_digest_1 ?_
  refine g_putL (k := 14) hX fpX6_digest_202 sn96 so96 rfl dX6_digest_4 ?_
  refine g_iconst (v := 0) hX dX6_digest_7 (by decide) ?_
  refine g_istore_n (ls' := [(0, .ref 96), (1, .int 0)]) hX dX6_digest_8 rfl (by decide) rfl ?_
  exact k
set_option maxRecDepth 4000 in
theorem RX6_digest_9 {X : XT} {I : MI} {L : ML} {p : Nat → Nat}  (hX : Cx X cX6_digest 4 RX6 wsX6_digest rmX6_digest) (x1 : Int32) (k : ((8 ≤ x1 → G X 0 0 40 [(0, .ref 96), (1, .int (I 97 0)), (2, .int 0)] [] (HM X I L p)) ∧ (¬ 8 ≤ x1 → (∃ (zr3 : Int32), Ct (xE X) (xl X) yX6_toldOf wsX6_toldOf rmX6_toldOf [.ref 96, .int x1] (HM X I L p) (some (.int zr3)) (HM X I L p) ∧ (∃ (zL5 : ML), Ct (xE X) (xl X) yX6_mix wsX6_mix rmX6_mix [.ref 96, .long zr3.toInt64] (HM X I L p) none (HM X I zL5 p) ∧ G X 0 0 9 [(0, .ref 96), (1, .int (x1 + 1))] [] (HM X I zL5 p)))))) : G X 0 0 9 [(0, .ref 96), (1, .int x1)] [] (HM X I L p) := by
  refine g_iload_n hX 1 rfl rfl dX6_digest_9 ?_
  refine g_bipush (v := 8) hX dX6_digest_10 (by decide) ?_
  refine g_icmp_ge (tgt := 31) hX dX6_digest_12 (by decide) (fun h => ?_) (fun h => ?_)
  · replace k := k.1 h
    refine g_aload_n hX 0 rfl rfl dX6_digest_31 ?_
    refine g_getR (k := 0) (r' := 97) hX hPW flX6_digest_7 sn96 so96 rfl (k96_0 _) dX6_digest_32 ?_
    refine g_iconst (v := 0) hX dX6_digest_35 (by decide) ?_
    refine g_iald (j := 0) hX hPW sn97 sh97 rfl (by decide) (by decide) dX6_digest_36 ?_
    refine g_istore_n (ls' := [(0, .ref 96), (1, .int (I 97 0))]) hX dX6_digest_37 rfl (by decide) rfl ?_
    refine g_iconst (v := 0) hX dX6_digest_38 (by decide) ?_
    refine g_istore_n (ls' := [(0, .ref 96), (1, .int (I 97 0)), (2, .int 0)]) hX dX6_digest_39 rfl (by decide) rfl ?_
    exact k
  · replace k := k.2 h
    refine g_aload_n hX 0 rfl rfl dX6_digest_15 ?_
    refine g_aload_n hX 0 rfl rfl dX6_digest_16 ?_
    refine g_iload_n hX 1 rfl rfl dX6_digest_17 ?_
    obtain ⟨zr3, zhc2, k⟩ := k
    refine g_callV (cs' := 0) (sl' := 0) (C := RX6) (as := [.int x1]) (st := [.ref 96]) hX zhc2 hPW sn96 so96 rfl gX6_digest_X6_toldOf rfl rfl rfl ydX6_toldOf (by decide) (Nat.le_of_ble_eq_true rfl) (by decide) dX6_digest_18 rfl rfl ?_
    refine g_i2l hX dX6_digest_21 ?_
    obtain ⟨zL5, zhc4, k⟩ := k
    refine g_callV (cs' := 0) (sl' := 0) (C := RX6) (as := [.long zr3.toInt64]) (st := []) hX zhc4 hPW sn96 so96 rfl gX6_digest_X6_mix rfl rfl rfl ydX6_mix (by decide) (Nat.le_of_ble_eq_true rfl) (by decide) dX6_digest_22 rfl rfl ?_
    refine g_iinc (v := x1 + 1) (ls' := [(0, .ref 96), (1, .int (x1 + 1))]) hX 1 rfl dX6_digest_25 rfl (by decide) rfl ?_
    refine g_goto (tgt := 9) hX dX6_digest_28 (by decide) ?_
    exact k
set_option maxRecDepth 4000 in
theorem RX6_digest_40 {X : XT} {I : MI} {L : ML} {p : Nat → Nat}  (hX : Cx X cX6_digest 4 RX6 wsX6_digest rmX6_digest) (x1 : Int32) (x2 : Int32) (k : ((x1 ≤ x2 → G X 0 0 88 [(0, .ref 96), (1, .int x1), (2, .int 0)] [] (HM X I L p)) ∧ (¬ x1 ≤ x2 → G X 0 0 47 [(0, .ref 96), (1, .int x1), (2, .int x2), (3, .int 0)] [] (HM X I L p)))) : G X 0 0 40 [(0, .ref 96), (1, .int x1), (2, .int x2)] [] (HM X I L p) := by
  refine g_iload_n hX 2 rfl rfl dX6_digest_40 ?_
  refine g_iload_n hX 1 rfl rfl dX6_digest_41 ?_
  refine g_icmp_ge (tgt := 86) hX dX6_digest_42 (by decide) (fun h => ?_) (fun h => ?_)
  · replace k := k.1 h
    refine g_iconst (v := 0) hX dX6_digest_86 (by decide) ?_
    refine g_istore_n (ls' := [(0, .ref 96), (1, .int x1), (2, .int 0)]) hX dX6_digest_87 rfl (by decide) rfl ?_
    exact k
  · replace k := k.2 h
    refine g_iconst (v := 0) hX dX6_digest_45 (by decide) ?_
    refine g_istore_n (ls' := [(0, .ref 96), (1, .int x1), (2, .int x2), (3, .int 0)]) hX dX6_digest_46 rfl (by decide) rfl ?_
    exact k
set_option maxRecDepth 4000 in
theorem RX6_digest_47 {X : XT} {I : MI} {L : ML} {p : Nat → Nat}  (hX : Cx X cX6_digest 4 RX6 wsX6_digest rmX6_digest) (x1 : Int32) (x2 : Int32) (x3 : Int32) (k : ((6 ≤ x3 → (∃ (zr2 : Int32) (zL3 : ML), Ct (xE X) (xl X) yX6_whenOf wsX6_whenOf rmX6_whenOf [.ref 96, .int x2] (HM X I L p) (some (.int zr2)) (HM X I zL3 p) ∧ (∃ (zL5 : ML), Ct (xE X) (xl X) yX6_mix wsX6_mix rmX6_mix [.ref 96, .long zr2.toInt64] (HM X I zL3 p) none (HM X I zL5 p) ∧ G X 0 0 40 [(0, .ref 96), (1, .int x1), (2, .int (x2 + 1))] [] (HM X I zL5 p)))) ∧ (¬ 6 ≤ x3 → (∃ (zr7 : Int32), Ct (xE X) (xl X) yX6_ofShaft wsX6_ofShaft rmX6_ofShaft [.ref 96, .int x2, .int x3] (HM X I L p) (some (.int zr7)) (HM X I L p) ∧ (∃ (zL9 : ML), Ct (xE X) (xl X) yX6_mix wsX6_mix rmX6_mix [.ref 96, .long zr7.toInt64] (HM X I L p) none (HM X I zL9 p) ∧ G X 0 0 47 [(0, .ref 96), (1, .int x1), (2, .int x2), (3, .int (x3 + 1))] [] (HM X I zL9 p)))))) : G X 0 0 47 [(0, .ref 96), (1, .int x1), (2, .int x2), (3, .int x3)] [] (HM X I L p) := by
  refine g_iload_n hX 3 rfl rfl dX6_digest_47 ?_
  refine g_bipush (v := 6) hX dX6_digest_48 (by decide) ?_
  refine g_icmp_ge (tgt := 70) hX dX6_digest_50 (by decide) (fun h => ?_) (fun h => ?_)
  · replace k := k.1 h
    refine g_aload_n hX 0 rfl rfl dX6_digest_70 ?_
    refine g_aload_n hX 0 rfl rfl dX6_digest_71 ?_
    refine g_iload_n hX 2 rfl rfl dX6_digest_72 ?_
    obtain ⟨zr2, zL3, zhc1, k⟩ := k
    refine g_callV (cs' := 0) (sl' := 0) (C := RX6) (as := [.int x2]) (st := [.ref 96]) hX zhc1 hPW sn96 so96 rfl gX6_digest_X6_whenOf rfl rfl rfl ydX6_whenOf (by decide) (Nat.le_of_ble_eq_true rfl) (by decide) dX6_digest_73 rfl rfl ?_
    refine g_i2l hX dX6_digest_76 ?_
    obtain ⟨zL5, zhc4, k⟩ := k
    refine g_callV (cs' := 0) (sl' := 0) (C := RX6) (as := [.long zr2.toInt64]) (st := []) hX zhc4 hPW sn96 so96 rfl gX6_digest_X6_mix rfl rfl rfl ydX6_mix (by decide) (Nat.le_of_ble_eq_true rfl) (by decide) dX6_digest_77 rfl rfl ?_
    refine g_iinc (v := x2 + 1) (ls' := [(0, .ref 96), (1, .int x1), (2, .int (x2 + 1)), (3, .int x3)]) hX 2 rfl dX6_digest_80 rfl (by decide) rfl ?_
    refine g_goto (tgt := 40) hX dX6_digest_83 (by decide) ?_
    refine G.pick (ks := [0, 1, 2]) (ls' := [(0, .ref 96), (1, .int x1), (2, .int (x2 + 1))]) rfl ?_
    exact k
  · replace k := k.2 h
    refine g_aload_n hX 0 rfl rfl dX6_digest_53 ?_
    refine g_aload_n hX 0 rfl rfl dX6_digest_54 ?_
    refine g_iload_n hX 2 rfl rfl dX6_digest_55 ?_
    refine g_iload_n hX 3 rfl rfl dX6_digest_56 ?_
    obtain ⟨zr7, zhc6, k⟩ := k
    refine g_callV (cs' := 0) (sl' := 0) (C := RX6) (as := [.int x2, .int x3]) (st := [.ref 96]) hX zhc6 hPW sn96 so96 rfl gX6_digest_X6_ofShaft rfl rfl rfl ydX6_ofShaft (by decide) (Nat.le_of_ble_eq_true rfl) (by decide) dX6_digest_57 rfl rfl ?_
    refine g_i2l hX dX6_digest_60 ?_
    obtain ⟨zL9, zhc8, k⟩ := k
    refine g_callV (cs' := 0) (sl' := 0) (C := RX6) (as := [.long zr7.toInt64]) (st := []) hX zhc8 hPW sn96 so96 rfl gX6_digest_X6_mix rfl rfl rfl ydX6_mix (by decide) (Nat.le_of_ble_eq_true rfl) (by decide) dX6_digest_61 rfl rfl ?_
    refine g_iinc (v := x3 + 1) (ls' := [(0, .ref 96), (1, .int x1), (2, .int x2), (3, .int (x3 + 1))]) hX 3 rfl dX6_digest_64 rfl (by decide) rfl ?_
    refine g_goto (tgt := 47) hX dX6_digest_67 (by decide) ?_
    exact k
set_option maxRecDepth 4000 in
theorem RX6_digest_88 {X : XT} {I : MI} {L : ML} {p : Nat → Nat}  (hX : Cx X cX6_digest 4 RX6 wsX6_digest rmX6_digest) (x1 : Int32) (x2 : Int32) (k : (((4 * (I 97 1)) ≤ x2 → G X 0 0 123 [(0, .ref 96), (1, .int x1), (2, .int 0)] [] (HM X I L p)) ∧ (¬ (4 * (I 97 1)) ≤ x2 → (¬ (4 : Int32) = 0) ∧ (¬ (4 : Int32) = 0) ∧ (∃ (zr5 : Int32), Ct (xE X) (xl X) yX6_pipeOf wsX6_pipeOf rmX6_pipeOf [.ref 96, .int (x2 / 4), .int (jrem x2 4)] (HM X I L p) (some (.int zr5)) (HM X I L p) ∧ (∃ (zL7 : ML), Ct (xE X) (xl X) yX6_mix wsX6_mix rmX6_mix [.ref 96, .long zr5.toInt64] (HM X I L p) none (HM X I zL7 p) ∧ G X 0 0 88 [(0, .ref 96), (1, .int x1), (2, .int (x2 + 1))] [] (HM X I zL7 p)))))) : G X 0 0 88 [(0, .ref 96), (1, .int x1), (2, .int x2)] [] (HM X I L p) := by
  refine g_iload_n hX 2 rfl rfl dX6_digest_88 ?_
  refine g_iconst (v := 4) hX dX6_digest_89 (by decide) ?_
  refine g_aload_n hX 0 rfl rfl dX6_digest_90 ?_
  refine g_getR (k := 0) (r' := 97) hX hPW flX6_digest_7 sn96 so96 rfl (k96_0 _) dX6_digest_91 ?_
  refine g_iconst (v := 1) hX dX6_digest_94 (by decide) ?_
  refine g_iald (j := 1) hX hPW sn97 sh97 rfl (by decide) (by decide) dX6_digest_95 ?_
  refine g_imul hX dX6_digest_96 ?_
  refine g_icmp_ge (tgt := 121) hX dX6_digest_97 (by decide) (fun h => ?_) (fun h => ?_)
  · replace k := k.1 h
    refine g_iconst (v := 0) hX dX6_digest_121 (by decide) ?_
    refine g_istore_n (ls' := [(0, .ref 96), (1, .int x1), (2, .int 0)]) hX dX6_digest_122 rfl (by decide) rfl ?_
    exact k
  · replace k := k.2 h
    refine g_aload_n hX 0 rfl rfl dX6_digest_100 ?_
    refine g_aload_n hX 0 rfl rfl dX6_digest_101 ?_
    refine g_iload_n hX 2 rfl rfl dX6_digest_102 ?_
    refine g_iconst (v := 4) hX dX6_digest_103 (by decide) ?_
    obtain ⟨zh2, k⟩ := k
    refine g_idiv hX dX6_digest_104 zh2 ?_
    refine g_iload_n hX 2 rfl rfl dX6_digest_105 ?_
    refine g_iconst (v := 4) hX dX6_digest_106 (by decide) ?_
    obtain ⟨zh3, k⟩ := k
    refine g_irem hX dX6_digest_107 zh3 ?_
    obtain ⟨zr5, zhc4, k⟩ := k
    refine g_callV (cs' := 0) (sl' := 0) (C := RX6) (as := [.int (x2 / 4), .int (jrem x2 4)]) (st := [.ref 96]) hX zhc4 hPW sn96 so96 rfl gX6_digest_X6_pipeOf rfl rfl rfl ydX6_pipeOf (by decide) (Nat.le_of_ble_eq_true rfl) (by decide) dX6_digest_108 rfl rfl ?_
    refine g_i2l hX dX6_digest_111 ?_
    obtain ⟨zL7, zhc6, k⟩ := k
    refine g_callV (cs' := 0) (sl' := 0) (C := RX6) (as := [.long zr5.toInt64]) (st := []) hX zhc6 hPW sn96 so96 rfl gX6_digest_X6_mix rfl rfl rfl ydX6_mix (by decide) (Nat.le_of_ble_eq_true rfl) (by decide) dX6_digest_112 rfl rfl ?_
    refine g_iinc (v := x2 + 1) (ls' := [(0, .ref 96), (1, .int x1), (2, .int (x2 + 1))]) hX 2 rfl dX6_digest_115 rfl (by decide) rfl ?_
    refine g_goto (tgt := 88) hX dX6_digest_118 (by decide) ?_
    exact k
set_option maxRecDepth 4000 in
theorem RX6_digest_123 {X : XT} {I : MI} {L : ML} {p : Nat → Nat}  (hX : Cx X cX6_digest 4 RX6 wsX6_digest rmX6_digest) (x1 : Int32) (x2 : Int32) (k : ((x1 ≤ x2 → (∃ (zr2 : Int32) (zL3 : ML), Ct (xE X) (xl X) yX6_nextOf wsX6_nextOf rmX6_nextOf [.ref 96, .int 0] (HM X I L p) (some (.int zr2)) (HM X I zL3 p) ∧ (∃ (zL5 : ML), Ct (xE X) (xl X) yX6_mix wsX6_mix rmX6_mix [.ref 96, .long zr2.toInt64] (HM X I zL3 p) none (HM X I zL5 p) ∧ (∃ (zr7 : Int32) (zL8 : ML), Ct (xE X) (xl X) yX6_nextOf wsX6_nextOf rmX6_nextOf [.ref 96, .int 1] (HM X I zL5 p) (some (.int zr7)) (HM X I zL8 p) ∧ (∃ (zL10 : ML), Ct (xE X) (xl X) yX6_mix wsX6_mix rmX6_mix [.ref 96, .long zr7.toInt64] (HM X I zL8 p) none (HM X I zL10 p) ∧ (∃ (zr12 : Int32) (zI13 : MI), Ct (xE X) (xl X) yX6_sensorsOf wsX6_sensorsOf rmX6_sensorsOf [.ref 96, .int 0] (HM X I zL10 p) (some (.int zr12)) (HM X zI13 zL10 p) ∧ (∃ (zL15 : ML), Ct (xE X) (xl X) yX6_mix wsX6_mix rmX6_mix [.ref 96, .long zr12.toInt64] (HM X zI13 zL10 p) none (HM X zI13 zL15 p) ∧ Rt X (some .long) rmX6_digest (some (.long (zL15 96 14))) (HM X zI13 zL15 p)))))))) ∧ (¬ x1 ≤ x2 → G X 0 0 130 [(0, .ref 96), (1, .int x1), (2, .int x2), (3, .int 0)] [] (HM X I L p)))) : G X 0 0 123 [(0, .ref 96), (1, .int x1), (2, .int x2)] [] (HM X I L p) := by
  refine g_iload_n hX 2 rfl rfl dX6_digest_123 ?_
  refine g_iload_n hX 1 rfl rfl dX6_digest_124 ?_
  refine g_icmp_ge (tgt := 158) hX dX6_digest_125 (by decide) (fun h => ?_) (fun h => ?_)
  · replace k := k.1 h
    refine g_aload_n hX 0 rfl rfl dX6_digest_158 ?_
    refine g_aload_n hX 0 rfl rfl dX6_digest_159 ?_
    refine g_iconst (v := 0) hX dX6_digest_160 (by decide) ?_
    obtain ⟨zr2, zL3, zhc1, k⟩ := k
    refine g_callV (cs' := 0) (sl' := 0) (C := RX6) (as := [.int 0]) (st := [.ref 96]) hX zhc1 hPW sn96 so96 rfl gX6_digest_X6_nextOf rfl rfl rfl ydX6_nextOf (by decide) (Nat.le_of_ble_eq_true rfl) (by decide) dX6_digest_161 rfl rfl ?_
    refine g_i2l hX dX6_digest_164 ?_
    obtain ⟨zL5, zhc4, k⟩ := k
    refine g_callV (cs' := 0) (sl' := 0) (C := RX6) (as := [.long zr2.toInt64]) (st := []) hX zhc4 hPW sn96 so96 rfl gX6_digest_X6_mix rfl rfl rfl ydX6_mix (by decide) (Nat.le_of_ble_eq_true rfl) (by decide) dX6_digest_165 rfl rfl ?_
    refine g_aload_n hX 0 rfl rfl dX6_digest_168 ?_
    refine g_aload_n hX 0 rfl rfl dX6_digest_169 ?_
    refine g_iconst (v := 1) hX dX6_digest_170 (by decide) ?_
    obtain ⟨zr7, zL8, zhc6, k⟩ := k
    refine g_callV (cs' := 0) (sl' := 0) (C := RX6) (as := [.int 1]) (st := [.ref 96]) hX zhc6 hPW sn96 so96 rfl gX6_digest_X6_nextOf rfl rfl rfl ydX6_nextOf (by decide) (Nat.le_of_ble_eq_true rfl) (by decide) dX6_digest_171 rfl rfl ?_
    refine g_i2l hX dX6_digest_174 ?_
    obtain ⟨zL10, zhc9, k⟩ := k
    refine g_callV (cs' := 0) (sl' := 0) (C := RX6) (as := [.long zr7.toInt64]) (st := []) hX zhc9 hPW sn96 so96 rfl gX6_digest_X6_mix rfl rfl rfl ydX6_mix (by decide) (Nat.le_of_ble_eq_true rfl) (by decide) dX6_digest_175 rfl rfl ?_
    refine g_aload_n hX 0 rfl rfl dX6_digest_178 ?_
    refine g_aload_n hX 0 rfl rfl dX6_digest_179 ?_
    refine g_iconst (v := 0) hX dX6_digest_180 (by decide) ?_
    obtain ⟨zr12, zI13, zhc11, k⟩ := k
    refine g_callV (cs' := 0) (sl' := 0) (C := RX6) (as := [.int 0]) (st := [.ref 96]) hX zhc11 hPW sn96 so96 rfl gX6_digest_X6_sensorsOf rfl rfl rfl ydX6_sensorsOf (by decide) (Nat.le_of_ble_eq_true rfl) (by decide) dX6_digest_181 rfl rfl ?_
    refine g_i2l hX dX6_digest_184 ?_
    obtain ⟨zL15, zhc14, k⟩ := k
    refine g_callV (cs' := 0) (sl' := 0) (C := RX6) (as := [.long zr12.toInt64]) (st := []) hX zhc14 hPW sn96 so96 rfl gX6_digest_X6_mix rfl rfl rfl ydX6_mix (by decide) (Nat.le_of_ble_eq_true rfl) (by decide) dX6_digest_185 rfl rfl ?_
    refine g_aload_n hX 0 rfl rfl dX6_digest_188 ?_
    refine g_getL (k := 14) hX hPW flX6_digest_202 sn96 so96 rfl dX6_digest_189 ?_
    exact g_lreturn hX k rfl rfl dX6_digest_192
  · replace k := k.2 h
    refine g_iconst (v := 0) hX dX6_digest_128 (by decide) ?_
    refine g_istore_n (ls' := [(0, .ref 96), (1, .int x1), (2, .int x2), (3, .int 0)]) hX dX6_digest_129 rfl (by decide) rfl ?_
    exact k
set_option maxRecDepth 4000 in
theorem RX6_digest_130 {X : XT} {I : MI} {L : ML} {p : Nat → Nat}  (hX : Cx X cX6_digest 4 RX6 wsX6_digest rmX6_digest) (x1 : Int32) (x2 : Int32) (x3 : Int32) (k : ((x1 ≤ x3 → G X 0 0 123 [(0, .ref 96), (1, .int x1), (2, .int (x2 + 1))] [] (HM X I L p)) ∧ (¬ x1 ≤ x3 → (∃ (zr2 : Int64) (zL3 : ML), Ct (xE X) (xl X) yX6_comesOf wsX6_comesOf rmX6_comesOf [.ref 96, .int x3, .int 5, .int x2] (HM X I L p) (some (.long zr2)) (HM X I zL3 p) ∧ (∃ (zL5 : ML), Ct (xE X) (xl X) yX6_mix wsX6_mix rmX6_mix [.ref 96, .long zr2] (HM X I zL3 p) none (HM X I zL5 p) ∧ G X 0 0 130 [(0, .ref 96), (1, .int x1), (2, .int x2), (3, .int (x3 + 1))] [] (HM X I zL5 p)))))) : G X 0 0 130 [(0, .ref 96), (1, .int x1), (2, .int x2), (3, .int x3)] [] (HM X I L p) := by
  refine g_iload_n hX 3 rfl rfl dX6_digest_130 ?_
  refine g_iload_n hX 1 rfl rfl dX6_digest_131 ?_
  refine g_icmp_ge (tgt := 152) hX dX6_digest_132 (by decide) (fun h => ?_) (fun h => ?_)
  · replace k := k.1 h
    refine g_iinc (v := x2 + 1) (ls' := [(0, .ref 96), (1, .int x1), (2, .int (x2 + 1)), (3, .int x3)]) hX 2 rfl dX6_digest_152 rfl (by decide) rfl ?_
    refine g_goto (tgt := 123) hX dX6_digest_155 (by decide) ?_
    refine G.pick (ks := [0, 1, 2]) (ls' := [(0, .ref 96), (1, .int x1), (2, .int (x2 + 1))]) rfl ?_
    exact k
  · replace k := k.2 h
    refine g_aload_n hX 0 rfl rfl dX6_digest_135 ?_
    refine g_aload_n hX 0 rfl rfl dX6_digest_136 ?_
    refine g_iload_n hX 3 rfl rfl dX6_digest_137 ?_
    refine g_iconst (v := 5) hX dX6_digest_138 (by decide) ?_
    refine g_iload_n hX 2 rfl rfl dX6_digest_139 ?_
    obtain ⟨zr2, zL3, zhc1, k⟩ := k
    refine g_callV (cs' := 0) (sl' := 0) (C := RX6) (as := [.int x3, .int 5, .int x2]) (st := [.ref 96]) hX zhc1 hPW sn96 so96 rfl gX6_digest_X6_comesOf rfl rfl rfl ydX6_comesOf (by decide) (Nat.le_of_ble_eq_true rfl) (by decide) dX6_digest_140 rfl rfl ?_
    obtain ⟨zL5, zhc4, k⟩ := k
    refine g_callV (cs' := 0) (sl' := 0) (C := RX6) (as := [.long zr2]) (st := []) hX zhc4 hPW sn96 so96 rfl gX6_digest_X6_mix rfl rfl rfl ydX6_mix (by decide) (Nat.le_of_ble_eq_true rfl) (by decide) dX6_digest_143 rfl rfl ?_
    refine g_iinc (v := x3 + 1) (ls' := [(0, .ref 96), (1, .int x1), (2, .int x2), (3, .int (x3 + 1))]) hX 3 rfl dX6_digest_146 rfl (by decide) rfl ?_
    refine g_goto (tgt := 130) hX dX6_digest_149 (by decide) ?_
    exact k
