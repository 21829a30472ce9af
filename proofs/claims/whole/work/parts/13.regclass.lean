set_option maxRecDepth 4000 in
theorem RX0_hasShaft_0 {X : XT} {I : MI} {L : ML} {p : Nat → Nat}  (hX : Cx X cX0_hasShaft 2 RX0 wsX0_hasShaft rmX0_hasShaft) (x1 : Int32) (k : (∃ (zr2 : Int32), Ct (xE X) (xl X) yX5_within wsX5_within rmX5_within [.int x1, .int 0, .int ((I 1 0) - 1)] (HM X I L p) (some (.int zr2)) (HM X I L p) ∧ ((zr2 = 0 ∨ zr2 = 1) ∧ Rt X (some .boolean) rmX0_hasShaft (some (.int zr2)) (HM X I L p)))) : G X 0 0 0 [(0, .ref 1), (1, .int x1)] [] (HM X I L p) := by
  refine g_iload_n hX 1 rfl rfl dX0_hasShaft_0 ?_
  refine g_iconst (v := 0) hX dX0_hasShaft_1 (by decide) ?_
  refine g_aload_n hX 0 rfl rfl dX0_hasShaft_2 ?_
  refine g_getI (k := 0) hX hPW flX0_hasShaft_45 sn1 so1 rfl dX0_hasShaft_3 ?_
  refine g_iconst (v := 1) hX dX0_hasShaft_6 (by decide) ?_
  refine g_isub hX dX0_hasShaft_7 ?_
  obtain ⟨zr2, zhc1, k⟩ := k
  refine g_callSN (cs' := 0) (sl' := 0) (as := [.int x1, .int 0, .int ((I 1 0) - 1)]) (st := []) hX zhc1 gX0_hasShaft_X5_within_n49 (by decide +kernel) (by decide +kernel) (by decide +kernel) rfl rfl ydX5_within (by decide) (Nat.le_of_ble_eq_true rfl) (by decide) dX0_hasShaft_8 rfl rfl ?_
  exact g_zreturn hX k.2 k.1 rfl rfl dX0_hasShaft_11
set_option maxRecDepth 4000 in
theorem RX0_hasPipe_0 {X : XT} {I : MI} {L : ML} {p : Nat → Nat}  (hX : Cx X cX0_hasPipe 2 RX0 wsX0_hasPipe rmX0_hasPipe) (x1 : Int32) (k : (∃ (zr2 : Int32), Ct (xE X) (xl X) yX5_within wsX5_within rmX5_within [.int x1, .int 0, .int ((I 1 3) - 1)] (HM X I L p) (some (.int zr2)) (HM X I L p) ∧ ((zr2 = 0 ∨ zr2 = 1) ∧ Rt X (some .boolean) rmX0_hasPipe (some (.int zr2)) (HM X I L p)))) : G X 0 0 0 [(0, .ref 1), (1, .int x1)] [] (HM X I L p) := by
  refine g_iload_n hX 1 rfl rfl dX0_hasPipe_0 ?_
  refine g_iconst (v := 0) hX dX0_hasPipe_1 (by decide) ?_
  refine g_aload_n hX 0 rfl rfl dX0_hasPipe_2 ?_
  refine g_getI (k := 3) hX hPW flX0_hasPipe_53 sn1 so1 rfl dX0_hasPipe_3 ?_
  refine g_iconst (v := 1) hX dX0_hasPipe_6 (by decide) ?_
  refine g_isub hX dX0_hasPipe_7 ?_
  obtain ⟨zr2, zhc1, k⟩ := k
  refine g_callSN (cs' := 0) (sl' := 0) (as := [.int x1, .int 0, .int ((I 1 3) - 1)]) (st := []) hX zhc1 gX0_hasPipe_X5_within_n49 (by decide +kernel) (by decide +kernel) (by decide +kernel) rfl rfl ydX5_within (by decide) (Nat.le_of_ble_eq_true rfl) (by decide) dX0_hasPipe_8 rfl rfl ?_
  exact g_zreturn hX k.2 k.1 rfl rfl dX0_hasPipe_11
set_option maxRecDepth 4000 in
theorem RX0_addShaft_0 {X : XT} {I : MI} {L : ML} {p : Nat → Nat}  (hX : Cx X cX0_addShaft 4 RX0 wsX0_addShaft rmX0_addShaft) (x1 : Int32) (x2 : Int32) (k : (∃ (zr2 : Int32), Ct (xE X) (xl X) yX0_isKind wsX0_isKind rmX0_isKind [.int x1] (HM X I L p) (some (.int zr2)) (HM X I L p) ∧ ((zr2 = 0 → Rt X (some .int) rmX0_addShaft (some (.int (-2))) (HM X I L p)) ∧ (¬ zr2 = 0 → (∃ (zr4 : Int32), Ct (xE X) (xl X) yX0_isPace wsX0_isPace rmX0_isPace [.int x2] (HM X I L p) (some (.int zr4)) (HM X I L p) ∧ ((¬ zr4 = 0 → (((I 1 0) < 10 → (∃ zj6 : Nat, (I 1 0) = nI zj6 ∧ zj6 < 10 ∧ (∃ zj9 : Nat, (I 1 0) = nI zj9 ∧ zj9 < 10 ∧ (∃ (zI12 : MI), Ct (xE X) (xl X) yX0_findWays wsX0_findWays rmX0_findWays [.ref 1] (HM X (upI (upI (upI I 2 zj6 x1) 3 zj9 x2) 1 0 (((upI (upI I 2 zj6 x1) 3 zj9 x2) 1 0) + 1)) L p) none (HM X zI12 L p) ∧ Rt X (some .int) rmX0_addShaft (some (.int (I 1 0))) (HM X zI12 L p))))) ∧ (¬ (I 1 0) < 10 → Rt X (some .int) rmX0_addShaft (some (.int (-4))) (HM X I L p)))) ∧ (zr4 = 0 → Rt X (some .int) rmX0_addShaft (some (.int (-2))) (HM X I L p)))))))) : G X 0 0 0 [(0, .ref 1), (1, .int x1), (2, .int x2)] [] (HM X I L p) := by
  refine g_iload_n hX 1 rfl rfl dX0_addShaft_0 ?_
  obtain ⟨zr2, zhc1, k⟩ := k
  refine g_callS (cs' := 0) (sl' := 0) (as := [.int x1]) (st := []) hX zhc1 gX0_addShaft_X0_isKind rfl rfl ydX0_isKind (by decide) (Nat.le_of_ble_eq_true rfl) (by decide) dX0_addShaft_1 rfl rfl ?_
  refine g_if_eq (tgt := 14) hX dX0_addShaft_4 (by decide) (fun h => ?_) (fun h => ?_)
  · replace k := k.1 h
    refine g_bipush (v := (-2)) hX dX0_addShaft_14 (by decide) ?_
    exact g_ireturn hX k rfl rfl dX0_addShaft_16
  · replace k := k.2 h
    refine g_iload_n hX 2 rfl rfl dX0_addShaft_7 ?_
    obtain ⟨zr4, zhc3, k⟩ := k
    refine g_callS (cs' := 0) (sl' := 0) (as := [.int x2]) (st := []) hX zhc3 gX0_addShaft_X0_isPace rfl rfl ydX0_isPace (by decide) (Nat.le_of_ble_eq_true rfl) (by decide) dX0_addShaft_8 rfl rfl ?_
    refine g_if_ne (tgt := 17) hX dX0_addShaft_11 (by decide) (fun h => ?_) (fun h => ?_)
    · replace k := k.1 h
      refine g_aload_n hX 0 rfl rfl dX0_addShaft_17 ?_
      refine g_getI (k := 0) hX hPW flX0_addShaft_45 sn1 so1 rfl dX0_addShaft_18 ?_
      refine g_bipush (v := 10) hX dX0_addShaft_21 (by decide) ?_
      refine g_icmp_lt (tgt := 29) hX dX0_addShaft_23 (by decide) (fun h => ?_) (fun h => ?_)
      · replace k := k.1 h
        refine g_aload_n hX 0 rfl rfl dX0_addShaft_29 ?_
        refine g_getI (k := 0) hX hPW flX0_addShaft_45 sn1 so1 rfl dX0_addShaft_30 ?_
        refine g_istore_n (ls' := [(0, .ref 1), (1, .int x1), (2, .int x2), (3, .int (I 1 0))]) hX dX0_addShaft_33 rfl (by decide) rfl ?_
        refine g_aload_n hX 0 rfl rfl dX0_addShaft_34 ?_
        refine g_getR (k := 1) (r' := 2) hX hPW flX0_addShaft_9 sn1 so1 rfl (k1_1 _) dX0_addShaft_35 ?_
        refine g_iload_n hX 3 rfl rfl dX0_addShaft_38 ?_
        refine g_iload_n hX 1 rfl rfl dX0_addShaft_39 ?_
        obtain ⟨zj6, zh5, zh7, k⟩ := k
        refine g_iast hX sn2 sh2 zh5 zh7 (by decide) dX0_addShaft_40 ?_
        refine g_aload_n hX 0 rfl rfl dX0_addShaft_41 ?_
        refine g_getR (k := 2) (r' := 3) hX hPW flX0_addShaft_15 sn1 so1 rfl (k1_2 _) dX0_addShaft_42 ?_
        refine g_iload_n hX 3 rfl rfl dX0_addShaft_45 ?_
        refine g_iload_n hX 2 rfl rfl dX0_addShaft_46 ?_
        obtain ⟨zj9, zh8, zh10, k⟩ := k
        refine g_iast hX sn3 sh3 zh8 zh10 (by decide) dX0_addShaft_47 ?_
        refine g_aload_n hX 0 rfl rfl dX0_addShaft_48 ?_
        refine g_dup hX dX0_addShaft_49 rfl ?_
        refine g_getI (k := 0) hX hPW flX0_addShaft_45 sn1 so1 rfl dX0_addShaft_50 ?_
        refine g_iconst (v := 1) hX dX0_addShaft_53 (by decide) ?_
        refine g_iadd hX dX0_addShaft_54 ?_
        refine g_putI (k := 0) hX fpX0_addShaft_45 sn1 so1 rfl rfl rfl dX0_addShaft_55 ?_
        refine g_aload_n hX 0 rfl rfl dX0_addShaft_58 ?_
        obtain ⟨zI12, zhc11, k⟩ := k
        refine g_callV (cs' := 0) (sl' := 0) (C := RX0) (as := []) (st := []) hX zhc11 hPW sn1 so1 rfl gX0_addShaft_X0_findWays rfl rfl rfl ydX0_findWays (by decide) (Nat.le_of_ble_eq_true rfl) (by decide) dX0_addShaft_59 rfl rfl ?_
        refine g_iload_n hX 3 rfl rfl dX0_addShaft_62 ?_
        exact g_ireturn hX k rfl rfl dX0_addShaft_63
      · replace k := k.2 h
        refine g_bipush (v := (-4)) hX dX0_addShaft_26 (by decide) ?_
        exact g_ireturn hX k rfl rfl dX0_addShaft_28
    · replace k := k.2 h
      refine g_bipush (v := (-2)) hX dX0_addShaft_14 (by decide) ?_
      exact g_ireturn hX k rfl rfl dX0_addShaft_16
set_option maxRecDepth 4000 in
theorem RX0_changeShaft_0 {X : XT} {I : MI} {L : ML} {p : Nat → Nat}  (hX : Cx X cX0_changeShaft 5 RX0 wsX0_changeShaft rmX0_changeShaft) (x1 : Int32) (x2 : Int32) (x3 : Int32) (k : (∃ (zr2 : Int32), Ct (xE X) (xl X) yX0_hasShaft wsX0_hasShaft rmX0_hasShaft [.ref 1, .int x1] (HM X I L p) (some (.int zr2)) (HM X I L p) ∧ ((¬ zr2 = 0 → ((¬ x2 = 0 → ((¬ x2 = 1 → Rt X (some .int) rmX0_changeShaft (some (.int (-2))) (HM X I L p)) ∧ (x2 = 1 → (∃ (zr4 : Int32), Ct (xE X) (xl X) yX0_isPace wsX0_isPace rmX0_isPace [.int x3] (HM X I L p) (some (.int zr4)) (HM X I L p) ∧ ((zr4 = 0 → Rt X (some .int) rmX0_changeShaft (some (.int (-2))) (HM X I L p)) ∧ (¬ zr4 = 0 → (∃ zj6 : Nat, x1 = nI zj6 ∧ zj6 < 10 ∧ (∃ zj9 : Nat, x1 = nI zj9 ∧ zj9 < 10 ∧ Rt X (some .int) rmX0_changeShaft (some (.int (I 3 zj6))) (HM X (upI I 3 zj9 x3) L p))))))))) ∧ (x2 = 0 → (∃ (zr12 : Int32), Ct (xE X) (xl X) yX0_isKind wsX0_isKind rmX0_isKind [.int x3] (HM X I L p) (some (.int zr12)) (HM X I L p) ∧ ((zr12 = 0 → ((¬ x2 = 1 → Rt X (some .int) rmX0_changeShaft (some (.int (-2))) (HM X I L p)) ∧ (x2 = 1 → (∃ (zr14 : Int32), Ct (xE X) (xl X) yX0_isPace wsX0_isPace rmX0_isPace [.int x3] (HM X I L p) (some (.int zr14)) (HM X I L p) ∧ ((zr14 = 0 → Rt X (some .int) rmX0_changeShaft (some (.int (-2))) (HM X I L p)) ∧ (¬ zr14 = 0 → (∃ zj16 : Nat, x1 = nI zj16 ∧ zj16 < 10 ∧ (∃ zj19 : Nat, x1 = nI zj19 ∧ zj19 < 10 ∧ Rt X (some .int) rmX0_changeShaft (some (.int (I 3 zj16))) (HM X (upI I 3 zj19 x3) L p))))))))) ∧ (¬ zr12 = 0 → (∃ zj22 : Nat, x1 = nI zj22 ∧ zj22 < 10 ∧ (∃ zj25 : Nat, x1 = nI zj25 ∧ zj25 < 10 ∧ Rt X (some .int) rmX0_changeShaft (some (.int (I 2 zj22))) (HM X (upI I 2 zj25 x3) L p))))))))) ∧ (zr2 = 0 → Rt X (some .int) rmX0_changeShaft (some (.int (-2))) (HM X I L p))))) : G X 0 0 0 [(0, .ref 1), (1, .int x1), (2, .int x2), (3, .int x3)] [] (HM X I L p) := by
  refine g_aload_n hX 0 rfl rfl dX0_changeShaft_0 ?_
  refine g_iload_n hX 1 rfl rfl dX0_changeShaft_1 ?_
  obtain ⟨zr2, zhc1, k⟩ := k
  refine g_callV (cs' := 0) (sl' := 0) (C := RX0) (as := [.int x1]) (st := []) hX zhc1 hPW sn1 so1 rfl gX0_changeShaft_X0_hasShaft rfl rfl rfl ydX0_hasShaft (by decide) (Nat.le_of_ble_eq_true rfl) (by decide) dX0_changeShaft_2 rfl rfl ?_
  refine g_if_ne (tgt := 11) hX dX0_changeShaft_5 (by decide) (fun h => ?_) (fun h => ?_)
  · replace k := k.1 h
    refine g_iload_n hX 2 rfl rfl dX0_changeShaft_11 ?_
    refine g_if_ne (tgt := 40) hX dX0_changeShaft_12 (by decide) (fun h => ?_) (fun h => ?_)
    · replace k := k.1 h
      refine g_iload_n hX 2 rfl rfl dX0_changeShaft_40 ?_
      refine g_iconst (v := 1) hX dX0_changeShaft_41 (by decide) ?_
      refine g_icmp_ne (tgt := 70) hX dX0_changeShaft_42 (by decide) (fun h => ?_) (fun h => ?_)
      · replace k := k.1 h
        refine g_bipush (v := (-2)) hX dX0_changeShaft_70 (by decide) ?_
        exact g_ireturn hX k rfl rfl dX0_changeShaft_72
      · replace k := k.2 h
        refine g_iload_n hX 3 rfl rfl dX0_changeShaft_45 ?_
        obtain ⟨zr4, zhc3, k⟩ := k
        refine g_callS (cs' := 0) (sl' := 0) (as := [.int x3]) (st := []) hX zhc3 gX0_changeShaft_X0_isPace rfl rfl ydX0_isPace (by decide) (Nat.le_of_ble_eq_true rfl) (by decide) dX0_changeShaft_46 rfl rfl ?_
        refine g_if_eq (tgt := 70) hX dX0_changeShaft_49 (by decide) (fun h => ?_) (fun h => ?_)
        · replace k := k.1 h
          refine g_bipush (v := (-2)) hX dX0_changeShaft_70 (by decide) ?_
          exact g_ireturn hX k rfl rfl dX0_changeShaft_72
        · replace k := k.2 h
          refine g_aload_n hX 0 rfl rfl dX0_changeShaft_52 ?_
          refine g_getR (k := 2) (r' := 3) hX hPW flX0_changeShaft_15 sn1 so1 rfl (k1_2 _) dX0_changeShaft_53 ?_
          refine g_iload_n hX 1 rfl rfl dX0_changeShaft_56 ?_
          obtain ⟨zj6, zh5, zh7, k⟩ := k
          refine g_iald hX hPW sn3 sh3 zh5 zh7 (by decide) dX0_changeShaft_57 ?_
          refine g_istore (ls' := [(0, .ref 1), (1, .int x1), (2, .int x2), (3, .int x3), (4, .int (I 3 zj6))]) hX dX0_changeShaft_58 (by decide) rfl ?_
          refine g_aload_n hX 0 rfl rfl dX0_changeShaft_60 ?_
          refine g_getR (k := 2) (r' := 3) hX hPW flX0_changeShaft_15 sn1 so1 rfl (k1_2 _) dX0_changeShaft_61 ?_
          refine g_iload_n hX 1 rfl rfl dX0_changeShaft_64 ?_
          refine g_iload_n hX 3 rfl rfl dX0_changeShaft_65 ?_
          obtain ⟨zj9, zh8, zh10, k⟩ := k
          refine g_iast hX sn3 sh3 zh8 zh10 (by decide) dX0_changeShaft_66 ?_
          refine g_iload hX 4 rfl dX0_changeShaft_67 ?_
          exact g_ireturn hX k rfl rfl dX0_changeShaft_69
    · replace k := k.2 h
      refine g_iload_n hX 3 rfl rfl dX0_changeShaft_15 ?_
      obtain ⟨zr12, zhc11, k⟩ := k
      refine g_callS (cs' := 0) (sl' := 0) (as := [.int x3]) (st := []) hX zhc11 gX0_changeShaft_X0_isKind rfl rfl ydX0_isKind (by decide) (Nat.le_of_ble_eq_true rfl) (by decide) dX0_changeShaft_16 rfl rfl ?_
      refine g_if_eq (tgt := 40) hX dX0_changeShaft_19 (by decide) (fun h => ?_) (fun h => ?_)
      · replace k := k.1 h
        refine g_iload_n hX 2 rfl rfl dX0_changeShaft_40 ?_
        refine g_iconst (v := 1) hX dX0_changeShaft_41 (by decide) ?_
        refine g_icmp_ne (tgt := 70) hX dX0_changeShaft_42 (by decide) (fun h => ?_) (fun h => ?_)
        · replace k := k.1 h
          refine g_bipush (v := (-2)) hX dX0_changeShaft_70 (by decide) ?_
          exact g_ireturn hX k rfl rfl dX0_changeShaft_72
        · replace k := k.2 h
          refine g_iload_n hX 3 rfl rfl dX0_changeShaft_45 ?_
          obtain ⟨zr14, zhc13, k⟩ := k
          refine g_callS (cs' := 0) (sl' := 0) (as := [.int x3]) (st := []) hX zhc13 gX0_changeShaft_X0_isPace rfl rfl ydX0_isPace (by decide) (Nat.le_of_ble_eq_true rfl) (by decide) dX0_changeShaft_46 rfl rfl ?_
          refine g_if_eq (tgt := 70) hX dX0_changeShaft_49 (by decide) (fun h => ?_) (fun h => ?_)
          · replace k := k.1 h
            refine g_bipush (v := (-2)) hX dX0_changeShaft_70 (by decide) ?_
            exact g_ireturn hX k rfl rfl dX0_changeShaft_72
          · replace k := k.2 h
            refine g_aload_n hX 0 rfl rfl dX0_changeShaft_52 ?_
            refine g_getR (k := 2) (r' := 3) hX hPW flX0_changeShaft_15 sn1 so1 rfl (k1_2 _) dX0_changeShaft_53 ?_
            refine g_iload_n hX 1 rfl rfl dX0_changeShaft_56 ?_
            obtain ⟨zj16, zh15, zh17, k⟩ := k
            refine g_iald hX hPW sn3 sh3 zh15 zh17 (by decide) dX0_changeShaft_57 ?_
            refine g_istore (ls' := [(0, .ref 1), (1, .int x1), (2, .int x2), (3, .int x3), (4, .int (I 3 zj16))]) hX dX0_changeShaft_58 (by decide) rfl ?_
            refine g_aload_n hX 0 rfl rfl dX0_changeShaft_60 ?_
            refine g_getR (k := 2) (r' := 3) hX hPW flX0_changeShaft_15 sn1 so1 rfl (k1_2 _) dX0_changeShaft_61 ?_
            refine g_iload_n hX 1 rfl rfl dX0_changeShaft_64 ?_
            refine g_iload_n hX 3 rfl rfl dX0_changeShaft_65 ?_
            obtain ⟨zj19, zh18, zh20, k⟩ := k
            refine g_iast hX sn3 sh3 zh18 zh20 (by decide) dX0_changeShaft_66 ?_
            refine g_iload hX 4 rfl dX0_changeShaft_67 ?_
            exact g_ireturn hX k rfl rfl dX0_changeShaft_69
      · replace k := k.2 h
        refine g_aload_n hX 0 rfl rfl dX0_changeShaft_22 ?_
        refine g_getR (k := 1) (r' := 2) hX hPW flX0_changeShaft_9 sn1 so1 rfl (k1_1 _) dX0_changeShaft_23 ?_
        refine g_iload_n hX 1 rfl rfl dX0_changeShaft_26 ?_
        obtain ⟨zj22, zh21, zh23, k⟩ := k
        refine g_iald hX hPW sn2 sh2 zh21 zh23 (by decide) dX0_changeShaft_27 ?_
        refine g_istore (ls' := [(0, .ref 1), (1, .int x1), (2, .int x2), (3, .int x3), (4, .int (I 2 zj22))]) hX dX0_changeShaft_28 (by decide) rfl ?_
        refine g_aload_n hX 0 rfl rfl dX0_changeShaft_30 ?_
        refine g_getR (k := 1) (r' := 2) hX hPW flX0_changeShaft_9 sn1 so1 rfl (k1_1 _) dX0_changeShaft_31 ?_
        refine g_iload_n hX 1 rfl rfl dX0_changeShaft_34 ?_
        refine g_iload_n hX 3 rfl rfl dX0_changeShaft_35 ?_
        obtain ⟨zj25, zh24, zh26, k⟩ := k
        refine g_iast hX sn2 sh2 zh24 zh26 (by decide) dX0_changeShaft_36 ?_
        refine g_iload hX 4 rfl dX0_changeShaft_37 ?_
        exact g_ireturn hX k rfl rfl dX0_changeShaft_39
  · replace k := k.2 h
    refine g_bipush (v := (-2)) hX dX0_changeShaft_8 (by decide) ?_
    exact g_ireturn hX k rfl rfl dX0_changeShaft_10
set_option maxRecDepth 4000 in
theorem RX0_addPipe_0 {X : XT} {I : MI} {L : ML} {p : Nat → Nat}  (hX : Cx X cX0_addPipe 6 RX0 wsX0_addPipe rmX0_addPipe) (x1 : Int32) (x2 : Int32) (x3 : Int32) (x4 : Int32) (k : (∃ (zr2 : Int32), Ct (xE X) (xl X) yX0_hasShaft wsX0_hasShaft rmX0_hasShaft [.ref 1, .int x1] (HM X I L p) (some (.int zr2)) (HM X I L p) ∧ ((zr2 = 0 → Rt X (some .int) rmX0_addPipe (some (.int (-2))) (HM X I L p)) ∧ (¬ zr2 = 0 → (∃ (zr4 : Int32), Ct (xE X) (xl X) yX0_hasShaft wsX0_hasShaft rmX0_hasShaft [.ref 1, .int x2] (HM X I L p) (some (.int zr4)) (HM X I L p) ∧ ((zr4 = 0 → Rt X (some .int) rmX0_addPipe (some (.int (-2))) (HM X I L p)) ∧ (¬ zr4 = 0 → ((¬ x1 = x2 → ((x3 < 0 → Rt X (some .int) rmX0_addPipe (some (.int (-2))) (HM X I L p)) ∧ (¬ x3 < 0 → ((9 < x4 → Rt X (some .int) rmX0_addPipe (some (.int (-2))) (HM X I L p)) ∧ (¬ 9 < x4 → ((x3 ≤ x4 → (∃ (zr6 : Int32), Ct (xE X) (xl X) yX0_isBelow wsX0_isBelow rmX0_isBelow [.ref 1, .int x1, .int x2] (HM X I L p) (some (.int zr6)) (HM X I L p) ∧ ((zr6 = 0 → (((I 1 3) < 16 → (∃ zj8 : Nat, (I 1 3) = nI zj8 ∧ zj8 < 16 ∧ (∃ zj11 : Nat, (I 1 3) = nI zj11 ∧ zj11 < 16 ∧ (∃ zj14 : Nat, (I 1 3) = nI zj14 ∧ zj14 < 16 ∧ (∃ zj17 : Nat, (I 1 3) = nI zj17 ∧ zj17 < 16 ∧ (∃ (zI20 : MI), Ct (xE X) (xl X) yX0_findWays wsX0_findWays rmX0_findWays [.ref 1] (HM X (upI (upI (upI (upI (upI I 4 zj8 x1) 5 zj11 x2) 6 zj14 x3) 7 zj17 x4) 1 3 (((upI (upI (upI (upI I 4 zj8 x1) 5 zj11 x2) 6 zj14 x3) 7 zj17 x4) 1 3) + 1)) L p) none (HM X zI20 L p) ∧ Rt X (some .int) rmX0_addPipe (some (.int (I 1 3))) (HM X zI20 L p))))))) ∧ (¬ (I 1 3) < 16 → Rt X (some .int) rmX0_addPipe (some (.int (-4))) (HM X I L p)))) ∧ (¬ zr6 = 0 → Rt X (some .int) rmX0_addPipe (some (.int (-3))) (HM X I L p))))) ∧ (¬ x3 ≤ x4 → Rt X (some .int) rmX0_addPipe (some (.int (-2))) (HM X I L p)))))))) ∧ (x1 = x2 → Rt X (some .int) rmX0_addPipe (some (.int (-2))) (HM X I L p)))))))))) : G X 0 0 0 [(0, .ref 1), (1, .int x1), (2, .int x2), (3, .int x3), (4, .int x4)] [] (HM X I L p) := by
  refine g_aload_n hX 0 rfl rfl dX0_addPipe_0 ?_
  refine g_iload_n hX 1 rfl rfl dX0_addPipe_1 ?_
  obtain ⟨zr2, zhc1, k⟩ := k
  refine g_callV (cs' := 0) (sl' := 0) (C := RX0) (as := [.int x1]) (st := []) hX zhc1 hPW sn1 so1 rfl gX0_addPipe_X0_hasShaft rfl rfl rfl ydX0_hasShaft (by decide) (Nat.le_of_ble_eq_true rfl) (by decide) dX0_addPipe_2 rfl rfl ?_
  refine g_if_eq (tgt := 21) hX dX0_addPipe_5 (by decide) (fun h => ?_) (fun h => ?_)
  · replace k := k.1 h
    refine g_bipush (v := (-2)) hX dX0_addPipe_21 (by decide) ?_
    exact g_ireturn hX k rfl rfl dX0_addPipe_23
  · replace k := k.2 h
    refine g_aload_n hX 0 rfl rfl dX0_addPipe_8 ?_
    refine g_iload_n hX 2 rfl rfl dX0_addPipe_9 ?_
    obtain ⟨zr4, zhc3, k⟩ := k
    refine g_callV (cs' := 0) (sl' := 0) (C := RX0) (as := [.int x2]) (st := []) hX zhc3 hPW sn1 so1 rfl gX0_addPipe_X0_hasShaft rfl rfl rfl ydX0_hasShaft (by decide) (Nat.le_of_ble_eq_true rfl) (by decide) dX0_addPipe_10 rfl rfl ?_
    refine g_if_eq (tgt := 21) hX dX0_addPipe_13 (by decide) (fun h => ?_) (fun h => ?_)
    · replace k := k.1 h
      refine g_bipush (v := (-2)) hX dX0_addPipe_21 (by decide) ?_
      exact g_ireturn hX k rfl rfl dX0_addPipe_23
    · replace k := k.2 h
      refine g_iload_n hX 1 rfl rfl dX0_addPipe_16 ?_
      refine g_iload_n hX 2 rfl rfl dX0_addPipe_17 ?_
      refine g_icmp_ne (tgt := 24) hX dX0_addPipe_18 (by decide) (fun h => ?_) (fun h => ?_)
      · replace k := k.1 h
        refine g_iload_n hX 3 rfl rfl dX0_addPipe_24 ?_
        refine g_if_lt (tgt := 41) hX dX0_addPipe_25 (by decide) (fun h => ?_) (fun h => ?_)
        · replace k := k.1 h
          refine g_bipush (v := (-2)) hX dX0_addPipe_41 (by decide) ?_
          exact g_ireturn hX k rfl rfl dX0_addPipe_43
        · replace k := k.2 h
          refine g_iload hX 4 rfl dX0_addPipe_28 ?_
          refine g_bipush (v := 9) hX dX0_addPipe_30 (by decide) ?_
          refine g_icmp_gt (tgt := 41) hX dX0_addPipe_32 (by decide) (fun h => ?_) (fun h => ?_)
          · replace k := k.1 h
            refine g_bipush (v := (-2)) hX dX0_addPipe_41 (by decide) ?_
            exact g_ireturn hX k rfl rfl dX0_addPipe_43
          · replace k := k.2 h
            refine g_iload_n hX 3 rfl rfl dX0_addPipe_35 ?_
            refine g_iload hX 4 rfl dX0_addPipe_36 ?_
            refine g_icmp_le (tgt := 44) hX dX0_addPipe_38 (by decide) (fun h => ?_) (fun h => ?_)
            · replace k := k.1 h
              refine g_aload_n hX 0 rfl rfl dX0_addPipe_44 ?_
              refine g_iload_n hX 1 rfl rfl dX0_addPipe_45 ?_
              refine g_iload_n hX 2 rfl rfl dX0_addPipe_46 ?_
              obtain ⟨zr6, zhc5, k⟩ := k
              refine g_callV (cs' := 0) (sl' := 0) (C := RX0) (as := [.int x1, .int x2]) (st := []) hX zhc5 hPW sn1 so1 rfl gX0_addPipe_X0_isBelow rfl rfl rfl ydX0_isBelow (by decide) (Nat.le_of_ble_eq_true rfl) (by decide) dX0_addPipe_47 rfl rfl ?_
              refine g_if_eq (tgt := 56) hX dX0_addPipe_50 (by decide) (fun h => ?_) (fun h => ?_)
              · replace k := k.1 h
                refine g_aload_n hX 0 rfl rfl dX0_addPipe_56 ?_
                refine g_getI (k := 3) hX hPW flX0_addPipe_53 sn1 so1 rfl dX0_addPipe_57 ?_
                refine g_bipush (v := 16) hX dX0_addPipe_60 (by decide) ?_
                refine g_icmp_lt (tgt := 68) hX dX0_addPipe_62 (by decide) (fun h => ?_) (fun h => ?_)
                · replace k := k.1 h
                  refine g_aload_n hX 0 rfl rfl dX0_addPipe_68 ?_
                  refine g_getI (k := 3) hX hPW flX0_addPipe_53 sn1 so1 rfl dX0_addPipe_69 ?_
                  refine g_istore (ls' := [(0, .ref 1), (1, .int x1), (2, .int x2), (3, .int x3), (4, .int x4), (5, .int (I 1 3))]) hX dX0_addPipe_72 (by decide) rfl ?_
                  refine g_aload_n hX 0 rfl rfl dX0_addPipe_74 ?_
                  refine g_getR (k := 4) (r' := 4) hX hPW flX0_addPipe_18 sn1 so1 rfl (k1_4 _) dX0_addPipe_75 ?_
                  refine g_iload hX 5 rfl dX0_addPipe_78 ?_
                  refine g_iload_n hX 1 rfl rfl dX0_addPipe_80 ?_
                  obtain ⟨zj8, zh7, zh9, k⟩ := k
                  refine g_iast hX sn4 sh4 zh7 zh9 (by decide) dX0_addPipe_81 ?_
                  refine g_aload_n hX 0 rfl rfl dX0_addPipe_82 ?_
                  refine g_getR (k := 5) (r' := 5) hX hPW flX0_addPipe_21 sn1 so1 rfl (k1_5 _) dX0_addPipe_83 ?_
                  refine g_iload hX 5 rfl dX0_addPipe_86 ?_
                  refine g_iload_n hX 2 rfl rfl dX0_addPipe_88 ?_
                  obtain ⟨zj11, zh10, zh12, k⟩ := k
                  refine g_iast hX sn5 sh5 zh10 zh12 (by decide) dX0_addPipe_89 ?_
                  refine g_aload_n hX 0 rfl rfl dX0_addPipe_90 ?_
                  refine g_getR (k := 6) (r' := 6) hX hPW flX0_addPipe_24 sn1 so1 rfl (k1_6 _) dX0_addPipe_91 ?_
                  refine g_iload hX 5 rfl dX0_addPipe_94 ?_
                  refine g_iload_n hX 3 rfl rfl dX0_addPipe_96 ?_
                  obtain ⟨zj14, zh13, zh15, k⟩ := k
                  refine g_iast hX sn6 sh6 zh13 zh15 (by decide) dX0_addPipe_97 ?_
                  refine g_aload_n hX 0 rfl rfl dX0_addPipe_98 ?_
                  refine g_getR (k := 7) (r' := 7) hX hPW flX0_addPipe_27 sn1 so1 rfl (k1_7 _) dX0_addPipe_99 ?_
                  refine g_iload hX 5 rfl dX0_addPipe_102 ?_
                  refine g_iload hX 4 rfl dX0_addPipe_104 ?_
                  obtain ⟨zj17, zh16, zh18, k⟩ := k
                  refine g_iast hX sn7 sh7 zh16 zh18 (by decide) dX0_addPipe_106 ?_
                  refine g_aload_n hX 0 rfl rfl dX0_addPipe_107 ?_
                  refine g_dup hX dX0_addPipe_108 rfl ?_
                  refine g_getI (k := 3) hX hPW flX0_addPipe_53 sn1 so1 rfl dX0_addPipe_109 ?_
                  refine g_iconst (v := 1) hX dX0_addPipe_112 (by decide) ?_
                  refine g_iadd hX dX0_addPipe_113 ?_
                  refine g_putI (k := 3) hX fpX0_addPipe_53 sn1 so1 rfl rfl rfl dX0_addPipe_114 ?_
                  refine g_aload_n hX 0 rfl rfl dX0_addPipe_117 ?_
                  obtain ⟨zI20, zhc19, k⟩ := k
                  refine g_callV (cs' := 0) (sl' := 0) (C := RX0) (as := []) (st := []) hX zhc19 hPW sn1 so1 rfl gX0_addPipe_X0_findWays rfl rfl rfl ydX0_findWays (by decide) (Nat.le_of_ble_eq_true rfl) (by decide) dX0_addPipe_118 rfl rfl ?_
                  refine g_iload hX 5 rfl dX0_addPipe_121 ?_
                  exact g_ireturn hX k rfl rfl dX0_addPipe_123
                · replace k := k.2 h
                  refine g_bipush (v := (-4)) hX dX0_addPipe_65 (by decide) ?_
                  exact g_ireturn hX k rfl rfl dX0_addPipe_67
              · replace k := k.2 h
                refine g_bipush (v := (-3)) hX dX0_addPipe_53 (by decide) ?_
                exact g_ireturn hX k rfl rfl dX0_addPipe_55
            · replace k := k.2 h
              refine g_bipush (v := (-2)) hX dX0_addPipe_41 (by decide) ?_
              exact g_ireturn hX k rfl rfl dX0_addPipe_43
      · replace k := k.2 h
        refine g_bipush (v := (-2)) hX dX0_addPipe_21 (by decide) ?_
        exact g_ireturn hX k rfl rfl dX0_addPipe_23
set_option maxRecDepth 4000 in
theorem RX0_dropPipe_0 {X : XT} {I : MI} {L : ML} {p : Nat → Nat}  (hX : Cx X cX0_dropPipe 3 RX0 wsX0_dropPipe rmX0_dropPipe) (x1 : Int32) (k : (∃ (zr2 : Int32), Ct (xE X) (xl X) yX0_hasPipe wsX0_hasPipe rmX0_hasPipe [.ref 1, .int x1] (HM X I L p) (some (.int zr2)) (HM X I L p) ∧ ((¬ zr2 = 0 → G X 0 0 23 [(0, .ref 1), (1, .int x1), (2, .int x1)] [] (HM X (upI I 1 3 ((I 1 3) - 1)) L p)) ∧ (zr2 = 0 → Rt X (some .int) rmX0_dropPipe (some (.int (-2))) (HM X I L p))))) : G X 0 0 0 [(0, .ref 1), (1, .int x1)] [] (HM X I L p) := by
  refine g_aload_n hX 0 rfl rfl dX0_dropPipe_0 ?_
  refine g_iload_n hX 1 rfl rfl dX0_dropPipe_1 ?_
  obtain ⟨zr2, zhc1, k⟩ := k
  refine g_callV (cs' := 0) (sl' := 0) (C := RX0) (as := [.int x1]) (st := []) hX zhc1 hPW sn1 so1 rfl gX0_dropPipe_X0_hasPipe rfl rfl rfl ydX0_hasPipe (by decide) (Nat.le_of_ble_eq_true rfl) (by decide) dX0_dropPipe_2 rfl rfl ?_
  refine g_if_ne (tgt := 11) hX dX0_dropPipe_5 (by decide) (fun h => ?_) (fun h => ?_)
  · replace k := k.1 h
    refine g_aload_n hX 0 rfl rfl dX0_dropPipe_11 ?_
    refine g_dup hX dX0_dropPipe_12 rfl ?_
    refine g_getI (k := 3) hX hPW flX0_dropPipe_53 sn1 so1 rfl dX0_dropPipe_13 ?_
    refine g_iconst (v := 1) hX dX0_dropPipe_16 (by decide) ?_
    refine g_isub hX dX0_dropPipe_17 ?_
    refine g_putI (k := 3) hX fpX0_dropPipe_53 sn1 so1 rfl rfl rfl dX0_dropPipe_18 ?_
    refine g_iload_n hX 1 rfl rfl dX0_dropPipe_21 ?_
    refine g_istore_n (ls' := [(0, .ref 1), (1, .int x1), (2, .int x1)]) hX dX0_dropPipe_22 rfl (by decide) rfl ?_
    exact k
  · replace k := k.2 h
    refine g_bipush (v := (-2)) hX dX0_dropPipe_8 (by decide) ?_
    exact g_ireturn hX k rfl rfl dX0_dropPipe_10
set_option maxRecDepth 4000 in
theorem RX0_dropPipe_23 {X : XT} {I : MI} {L : ML} {p : Nat → Nat}  (hX : Cx X cX0_dropPipe 3 RX0 wsX0_dropPipe rmX0_dropPipe) (x1 : Int32) (x2 : Int32) (k : (((I 1 3) ≤ x2 → (∃ (zI2 : MI), Ct (xE X) (xl X) yX0_findWays wsX0_findWays rmX0_findWays [.ref 1] (HM X I L p) none (HM X zI2 L p) ∧ Rt X (some .int) rmX0_dropPipe (some (.int (zI2 1 3))) (HM X zI2 L p))) ∧ (¬ (I 1 3) ≤ x2 → (∃ zj4 : Nat, (x2 + 1) = nI zj4 ∧ zj4 < 16 ∧ (∃ zj7 : Nat, x2 = nI zj7 ∧ zj7 < 16 ∧ (∃ zj10 : Nat, (x2 + 1) = nI zj10 ∧ zj10 < 16 ∧ (∃ zj13 : Nat, x2 = nI zj13 ∧ zj13 < 16 ∧ (∃ zj16 : Nat, (x2 + 1) = nI zj16 ∧ zj16 < 16 ∧ (∃ zj19 : Nat, x2 = nI zj19 ∧ zj19 < 16 ∧ (∃ zj22 : Nat, (x2 + 1) = nI zj22 ∧ zj22 < 16 ∧ (∃ zj25 : Nat, x2 = nI zj25 ∧ zj25 < 16 ∧ G X 0 0 23 [(0, .ref 1), (1, .int x1), (2, .int (x2 + 1))] [] (HM X (upI (upI (upI (upI I 4 zj7 (I 4 zj4)) 5 zj13 ((upI I 4 zj7 (I 4 zj4)) 5 zj10)) 6 zj19 ((upI (upI I 4 zj7 (I 4 zj4)) 5 zj13 ((upI I 4 zj7 (I 4 zj4)) 5 zj10)) 6 zj16)) 7 zj25 ((upI (upI (upI I 4 zj7 (I 4 zj4)) 5 zj13 ((upI I 4 zj7 (I 4 zj4)) 5 zj10)) 6 zj19 ((upI (upI I 4 zj7 (I 4 zj4)) 5 zj13 ((upI I 4 zj7 (I 4 zj4)) 5 zj10)) 6 zj16)) 7 zj22)) L p)))))))))))) : G X 0 0 23 [(0, .ref 1), (1, .int x1), (2, .int x2)] [] (HM X I L p) := by
  refine g_iload_n hX 2 rfl rfl dX0_dropPipe_23 ?_
  refine g_aload_n hX 0 rfl rfl dX0_dropPipe_24 ?_
  refine g_getI (k := 3) hX hPW flX0_dropPipe_53 sn1 so1 rfl dX0_dropPipe_25 ?_
  refine g_icmp_ge (tgt := 93) hX dX0_dropPipe_28 (by decide) (fun h => ?_) (fun h => ?_)
  · replace k := k.1 h
    refine g_aload_n hX 0 rfl rfl dX0_dropPipe_93 ?_
    obtain ⟨zI2, zhc1, k⟩ := k
    refine g_callV (cs' := 0) (sl' := 0) (C := RX0) (as := []) (st := []) hX zhc1 hPW sn1 so1 rfl gX0_dropPipe_X0_findWays rfl rfl rfl ydX0_findWays (by decide) (Nat.le_of_ble_eq_true rfl) (by decide) dX0_dropPipe_94 rfl rfl ?_
    refine g_aload_n hX 0 rfl rfl dX0_dropPipe_97 ?_
    refine g_getI (k := 3) hX hPW flX0_dropPipe_53 sn1 so1 rfl dX0_dropPipe_98 ?_
    exact g_ireturn hX k rfl rfl dX0_dropPipe_101
  · replace k := k.2 h
    refine g_aload_n hX 0 rfl rfl dX0_dropPipe_31 ?_
    refine g_getR (k := 4) (r' := 4) hX hPW flX0_dropPipe_18 sn1 so1 rfl (k1_4 _) dX0_dropPipe_32 ?_
    refine g_iload_n hX 2 rfl rfl dX0_dropPipe_35 ?_
    refine g_aload_n hX 0 rfl rfl dX0_dropPipe_36 ?_
    refine g_getR (k := 4) (r' := 4) hX hPW flX0_dropPipe_18 sn1 so1 rfl (k1_4 _) dX0_dropPipe_37 ?_
    refine g_iload_n hX 2 rfl rfl dX0_dropPipe_40 ?_
    refine g_iconst (v := 1) hX dX0_dropPipe_41 (by decide) ?_
    refine g_iadd hX dX0_dropPipe_42 ?_
    obtain ⟨zj4, zh3, zh5, k⟩ := k
    refine g_iald hX hPW sn4 sh4 zh3 zh5 (by decide) dX0_dropPipe_43 ?_
    obtain ⟨zj7, zh6, zh8, k⟩ := k
    refine g_iast hX sn4 sh4 zh6 zh8 (by decide) dX0_dropPipe_44 ?_
    refine g_aload_n hX 0 rfl rfl dX0_dropPipe_45 ?_
    refine g_getR (k := 5) (r' := 5) hX hPW flX0_dropPipe_21 sn1 so1 rfl (k1_5 _) dX0_dropPipe_46 ?_
    refine g_iload_n hX 2 rfl rfl dX0_dropPipe_49 ?_
    refine g_aload_n hX 0 rfl rfl dX0_dropPipe_50 ?_
    refine g_getR (k := 5) (r' := 5) hX hPW flX0_dropPipe_21 sn1 so1 rfl (k1_5 _) dX0_dropPipe_51 ?_
    refine g_iload_n hX 2 rfl rfl dX0_dropPipe_54 ?_
    refine g_iconst (v := 1) hX dX0_dropPipe_55 (by decide) ?_
    refine g_iadd hX dX0_dropPipe_56 ?_
    obtain ⟨zj10, zh9, zh11, k⟩ := k
    refine g_iald hX hPW sn5 sh5 zh9 zh11 (by decide) dX0_dropPipe_57 ?_
    obtain ⟨zj13, zh12, zh14, k⟩ := k
    refine g_iast hX sn5 sh5 zh12 zh14 (by decide) dX0_dropPipe_58 ?_
    refine g_aload_n hX 0 rfl rfl dX0_dropPipe_59 ?_
    refine g_getR (k := 6) (r' := 6) hX hPW flX0_dropPipe_24 sn1 so1 rfl (k1_6 _) dX0_dropPipe_60 ?_
    refine g_iload_n hX 2 rfl rfl dX0_dropPipe_63 ?_
    refine g_aload_n hX 0 rfl rfl dX0_dropPipe_64 ?_
    refine g_getR (k := 6) (r' := 6) hX hPW flX0_dropPipe_24 sn1 so1 rfl (k1_6 _) dX0_dropPipe_65 ?_
    refine g_iload_n hX 2 rfl rfl dX0_dropPipe_68 ?_
    refine g_iconst (v := 1) hX dX0_dropPipe_69 (by decide) ?_
    refine g_iadd hX dX0_dropPipe_70 ?_
    obtain ⟨zj16, zh15, zh17, k⟩ := k
    refine g_iald hX hPW sn6 sh6 zh15 zh17 (by decide) dX0_dropPipe_71 ?_
    obtain ⟨zj19, zh18, zh20, k⟩ := k
    refine g_iast hX sn6 sh6 zh18 zh20 (by decide) dX0_dropPipe_72 ?_
    refine g_aload_n hX 0 rfl rfl dX0_dropPipe_73 ?_
    refine g_getR (k := 7) (r' := 7) hX hPW flX0_dropPipe_27 sn1 so1 rfl (k1_7 _) dX0_dropPipe_74 ?_
    refine g_iload_n hX 2 rfl rfl dX0_dropPipe_77 ?_
    refine g_aload_n hX 0 rfl rfl dX0_dropPipe_78 ?_
    refine g_getR (k := 7) (r' := 7) hX hPW flX0_dropPipe_27 sn1 so1 rfl (k1_7 _) dX0_dropPipe_79 ?_
    refine g_iload_n hX 2 rfl rfl dX0_dropPipe_82 ?_
    refine g_iconst (v := 1) hX dX0_dropPipe_83 (by decide) ?_
    refine g_iadd hX dX0_dropPipe_84 ?_
    obtain ⟨zj22, zh21, zh23, k⟩ := k
    refine g_iald hX hPW sn7 sh7 zh21 zh23 (by decide) dX0_dropPipe_85 ?_
    obtain ⟨zj25, zh24, zh26, k⟩ := k
    refine g_iast hX sn7 sh7 zh24 zh26 (by decide) dX0_dropPipe_86 ?_
    refine g_iinc (v := x2 + 1) (ls' := [(0, .ref 1), (1, .int x1), (2, .int (x2 + 1))]) hX 2 rfl dX0_dropPipe_87 rfl (by decide) rfl ?_
    refine g_goto (tgt := 23) hX dX0_dropPipe_90 (by decide) ?_
    exact k
set_option maxRecDepth 4000 in
theorem RX0_addSight_0 {X : XT} {I : MI} {L : ML} {p : Nat → Nat}  (hX : Cx X cX0_addSight 4 RX0 wsX0_addSight rmX0_addSight) (x1 : Int32) (x2 : Int32) (x3 : Int32) (k : (∃ (zr2 : Int32), Ct (xE X) (xl X) yX5_within wsX5_within rmX5_within [.int x1, .int 0, .int 1] (HM X I L p) (some (.int zr2)) (HM X I L p) ∧ ((zr2 = 0 → Rt X (some .int) rmX0_addSight (some (.int (-2))) (HM X I L p)) ∧ (¬ zr2 = 0 → (∃ (zr4 : Int32), Ct (xE X) (xl X) yX0_hasShaft wsX0_hasShaft rmX0_hasShaft [.ref 1, .int x2] (HM X I L p) (some (.int zr4)) (HM X I L p) ∧ ((zr4 = 0 → Rt X (some .int) rmX0_addSight (some (.int (-2))) (HM X I L p)) ∧ (¬ zr4 = 0 → (∃ (zr6 : Int32), Ct (xE X) (xl X) yX5_within wsX5_within rmX5_within [.int x3, .int 0, .int 62] (HM X I L p) (some (.int zr6)) (HM X I L p) ∧ ((¬ zr6 = 0 → (((I 1 8) < 12 → (∃ zj8 : Nat, (I 1 8) = nI zj8 ∧ zj8 < 12 ∧ (∃ zj11 : Nat, ((upI I 8 zj8 x1) 1 8) = nI zj11 ∧ zj11 < 12 ∧ (∃ zj14 : Nat, ((upI (upI I 8 zj8 x1) 9 zj11 x2) 1 8) = nI zj14 ∧ zj14 < 12 ∧ Rt X (some .int) rmX0_addSight (some (.int ((upI (upI (upI (upI I 8 zj8 x1) 9 zj11 x2) 10 zj14 x3) 1 8 (((upI (upI (upI I 8 zj8 x1) 9 zj11 x2) 10 zj14 x3) 1 8) + 1)) 1 8))) (HM X (upI (upI (upI (upI I 8 zj8 x1) 9 zj11 x2) 10 zj14 x3) 1 8 (((upI (upI (upI I 8 zj8 x1) 9 zj11 x2) 10 zj14 x3) 1 8) + 1)) L p))))) ∧ (¬ (I 1 8) < 12 → Rt X (some .int) rmX0_addSight (some (.int (-4))) (HM X I L p)))) ∧ (zr6 = 0 → Rt X (some .int) rmX0_addSight (some (.int (-2))) (HM X I L p))))))))))) : G X 0 0 0 [(0, .ref 1), (1, .int x1), (2, .int x2), (3, .int x3)] [] (HM X I L p) := by
  refine g_iload_n hX 1 rfl rfl dX0_addSight_0 ?_
  refine g_iconst (v := 0) hX dX0_addSight_1 (by decide) ?_
  refine g_iconst (v := 1) hX dX0_addSight_2 (by decide) ?_
  obtain ⟨zr2, zhc1, k⟩ := k
  refine g_callSN (cs' := 0) (sl' := 0) (as := [.int x1, .int 0, .int 1]) (st := []) hX zhc1 gX0_addSight_X5_within_n49 (by decide +kernel) (by decide +kernel) (by decide +kernel) rfl rfl ydX5_within (by decide) (Nat.le_of_ble_eq_true rfl) (by decide) dX0_addSight_3 rfl rfl ?_
  refine g_if_eq (tgt := 27) hX dX0_addSight_6 (by decide) (fun h => ?_) (fun h => ?_)
  · replace k := k.1 h
    refine g_bipush (v := (-2)) hX dX0_addSight_27 (by decide) ?_
    exact g_ireturn hX k rfl rfl dX0_addSight_29
  · replace k := k.2 h
    refine g_aload_n hX 0 rfl rfl dX0_addSight_9 ?_
    refine g_iload_n hX 2 rfl rfl dX0_addSight_10 ?_
    obtain ⟨zr4, zhc3, k⟩ := k
    refine g_callV (cs' := 0) (sl' := 0) (C := RX0) (as := [.int x2]) (st := []) hX zhc3 hPW sn1 so1 rfl gX0_addSight_X0_hasShaft rfl rfl rfl ydX0_hasShaft (by decide) (Nat.le_of_ble_eq_true rfl) (by decide) dX0_addSight_11 rfl rfl ?_
    refine g_if_eq (tgt := 27) hX dX0_addSight_14 (by decide) (fun h => ?_) (fun h => ?_)
    · replace k := k.1 h
      refine g_bipush (v := (-2)) hX dX0_addSight_27 (by decide) ?_
      exact g_ireturn hX k rfl rfl dX0_addSight_29
    · replace k := k.2 h
      refine g_iload_n hX 3 rfl rfl dX0_addSight_17 ?_
      refine g_iconst (v := 0) hX dX0_addSight_18 (by decide) ?_
      refine g_bipush (v := 62) hX dX0_addSight_19 (by decide) ?_
      obtain ⟨zr6, zhc5, k⟩ := k
      refine g_callSN (cs' := 0) (sl' := 0) (as := [.int x3, .int 0, .int 62]) (st := []) hX zhc5 gX0_addSight_X5_within_n49 (by decide +kernel) (by decide +kernel) (by decide +kernel) rfl rfl ydX5_within (by decide) (Nat.le_of_ble_eq_true rfl) (by decide) dX0_addSight_21 rfl rfl ?_
      refine g_if_ne (tgt := 30) hX dX0_addSight_24 (by decide) (fun h => ?_) (fun h => ?_)
      · replace k := k.1 h
        refine g_aload_n hX 0 rfl rfl dX0_addSight_30 ?_
        refine g_getI (k := 8) hX hPW flX0_addSight_76 sn1 so1 rfl dX0_addSight_31 ?_
        refine g_bipush (v := 12) hX dX0_addSight_34 (by decide) ?_
        refine g_icmp_lt (tgt := 42) hX dX0_addSight_36 (by decide) (fun h => ?_) (fun h => ?_)
        · replace k := k.1 h
          refine g_aload_n hX 0 rfl rfl dX0_addSight_42 ?_
          refine g_getR (k := 9) (r' := 8) hX hPW flX0_addSight_30 sn1 so1 rfl (k1_9 _) dX0_addSight_43 ?_
          refine g_aload_n hX 0 rfl rfl dX0_addSight_46 ?_
          refine g_getI (k := 8) hX hPW flX0_addSight_76 sn1 so1 rfl dX0_addSight_47 ?_
          refine g_iload_n hX 1 rfl rfl dX0_addSight_50 ?_
          obtain ⟨zj8, zh7, zh9, k⟩ := k
          refine g_iast hX sn8 sh8 zh7 zh9 (by decide) dX0_addSight_51 ?_
          refine g_aload_n hX 0 rfl rfl dX0_addSight_52 ?_
          refine g_getR (k := 10) (r' := 9) hX hPW flX0_addSight_33 sn1 so1 rfl (k1_10 _) dX0_addSight_53 ?_
          refine g_aload_n hX 0 rfl rfl dX0_addSight_56 ?_
          refine g_getI (k := 8) hX hPW flX0_addSight_76 sn1 so1 rfl dX0_addSight_57 ?_
          refine g_iload_n hX 2 rfl rfl dX0_addSight_60 ?_
          obtain ⟨zj11, zh10, zh12, k⟩ := k
          refine g_iast hX sn9 sh9 zh10 zh12 (by decide) dX0_addSight_61 ?_
          refine g_aload_n hX 0 rfl rfl dX0_addSight_62 ?_
          refine g_getR (k := 11) (r' := 10) hX hPW flX0_addSight_36 sn1 so1 rfl (k1_11 _) dX0_addSight_63 ?_
          refine g_aload_n hX 0 rfl rfl dX0_addSight_66 ?_
          refine g_getI (k := 8) hX hPW flX0_addSight_76 sn1 so1 rfl dX0_addSight_67 ?_
          refine g_iload_n hX 3 rfl rfl dX0_addSight_70 ?_
          obtain ⟨zj14, zh13, zh15, k⟩ := k
          refine g_iast hX sn10 sh10 zh13 zh15 (by decide) dX0_addSight_71 ?_
          refine g_aload_n hX 0 rfl rfl dX0_addSight_72 ?_
          refine g_dup hX dX0_addSight_73 rfl ?_
          refine g_getI (k := 8) hX hPW flX0_addSight_76 sn1 so1 rfl dX0_addSight_74 ?_
          refine g_iconst (v := 1) hX dX0_addSight_77 (by decide) ?_
          refine g_iadd hX dX0_addSight_78 ?_
          refine g_putI (k := 8) hX fpX0_addSight_76 sn1 so1 rfl rfl rfl dX0_addSight_79 ?_
          refine g_aload_n hX 0 rfl rfl dX0_addSight_82 ?_
          refine g_getI (k := 8) hX hPW flX0_addSight_76 sn1 so1 rfl dX0_addSight_83 ?_
          exact g_ireturn hX k rfl rfl dX0_addSight_86
        · replace k := k.2 h
          refine g_bipush (v := (-4)) hX dX0_addSight_39 (by decide) ?_
          exact g_ireturn hX k rfl rfl dX0_addSight_41
      · replace k := k.2 h
        refine g_bipush (v := (-2)) hX dX0_addSight_27 (by decide) ?_
        exact g_ireturn hX k rfl rfl dX0_addSight_29
set_option maxRecDepth 4000 in
theorem RX0_dropSights_0 {X : XT} {I : MI} {L : ML} {p : Nat → Nat}  (hX : Cx X cX0_dropSights 2 RX0 wsX0_dropSights rmX0_dropSights)  (k : Rt X (some .int) rmX0_dropSights (some (.int (I 1 8))) (HM X (upI I 1 8 0) L p)) : G X 0 0 0 [(0, .ref 1)] [] (HM X I L p) := by
  refine g_aload_n hX 0 rfl rfl dX0_dropSights_0 ?_
  refine g_getI (k := 8) hX hPW flX0_dropSights_76 sn1 so1 rfl dX0_dropSights_1 ?_
  refine g_istore_n (ls' := [(0, .ref 1), (1, .int (I 1 8))]) hX dX0_dropSights_4 rfl (by decide) rfl ?_
  refine g_aload_n hX 0 rfl rfl dX0_dropSights_5 ?_
  refine g_iconst (v := 0) hX dX0_dropSights_6 (by decide) ?_
  refine g_putI (k := 8) hX fpX0_dropSights_76 sn1 so1 rfl rfl rfl dX0_dropSights_7 ?_
  refine g_iload_n hX 1 rfl rfl dX0_dropSights_10 ?_
  exact g_ireturn hX k rfl rfl dX0_dropSights_11
set_option maxRecDepth 4000 in
theorem RX0_isBelow_0 {X : XT} {I : MI} {L : ML} {p : Nat → Nat}  (hX : Cx X cX0_isBelow 3 RX0 wsX0_isBelow rmX0_isBelow) (x1 : Int32) (x2 : Int32) (k : (∃ zj2 : Nat, x2 = nI zj2 ∧ zj2 < 10 ∧ Rt X (some .boolean) rmX0_isBelow (some (.int (if ((jshr (I 11 zj2) x1) &&& 1) = 1 then 1 else 0 : Int32))) (HM X I L p))) : G X 0 0 0 [(0, .ref 1), (1, .int x1), (2, .int x2)] [] (HM X I L p) := by
  refine g_aload_n hX 0 rfl rfl dX0_isBelow_0 ?_
  refine g_getR (k := 12) (r' := 11) hX hPW flX0_isBelow_39 sn1 so1 rfl (k1_12 _) dX0_isBelow_1 ?_
  refine g_iload_n hX 2 rfl rfl dX0_isBelow_4 ?_
  obtain ⟨zj2, zh1, zh3, k⟩ := k
  refine g_iald hX hPW sn11 sh11 zh1 zh3 (by decide) dX0_isBelow_5 ?_
  refine g_iload_n hX 1 rfl rfl dX0_isBelow_6 ?_
  refine g_ishr hX dX0_isBelow_7 ?_
  refine g_iconst (v := 1) hX dX0_isBelow_8 (by decide) ?_
  refine g_iand hX dX0_isBelow_9 ?_
  refine g_iconst (v := 1) hX dX0_isBelow_10 (by decide) ?_
  have kJ : G X 0 0 19 [(0, .ref 1), (1, .int x1), (2, .int x2)] [.int (if ((jshr (I 11 zj2) x1) &&& 1) = 1 then 1 else 0 : Int32)] (HM X I L p) := by
    exact g_zreturn hX k b01 rfl rfl dX0_isBelow_19
  refine g_icmp_ne (tgt := 18) hX dX0_isBelow_11 (by decide) (fun h => ?_) (fun h => ?_)
  · rw [(show (if ((jshr (I 11 zj2) x1) &&& 1) = 1 then 1 else 0 : Int32) = 0 from if_neg h)] at kJ
    refine g_iconst (v := 0) hX dX0_isBelow_18 (by decide) ?_
    exact kJ
  · rw [(show (if ((jshr (I 11 zj2) x1) &&& 1) = 1 then 1 else 0 : Int32) = 1 from if_pos h)] at kJ
    refine g_iconst (v := 1) hX dX0_isBelow_14 (by decide) ?_
    refine g_goto (tgt := 19) hX dX0_isBelow_15 (by decide) ?_
    exact kJ
set_option maxRecDepth 4000 in
theorem RX0_above_0 {X : XT} {I : MI} {L : ML} {p : Nat → Nat}  (hX : Cx X cX0_above 4 RX0 wsX0_above rmX0_above) (x1 : Int32) (k : G X 0 0 4 [(0, .ref 1), (1, .int x1), (2, .int 0), (3, .int 0)] [] (HM X I L p)) : G X 0 0 0 [(0, .ref 1), (1, .int x1)] [] (HM X I L p) := by
  refine g_iconst (v := 0) hX dX0_above_0 (by decide) ?_
  refine g_istore_n (ls' := [(0, .ref 1), (1, .int x1), (2, .int 0)]) hX dX0_above_1 rfl (by decide) rfl ?_
  refine g_iconst (v := 0) hX dX0_above_2 (by decide) ?_
  refine g_istore_n (ls' := [(0, .ref 1), (1, .int x1), (2, .int 0), (3, .int 0)]) hX dX0_above_3 rfl (by decide) rfl ?_
  exact k
set_option maxRecDepth 4000 in
theorem RX0_above_4 {X : XT} {I : MI} {L : ML} {p : Nat → Nat}  (hX : Cx X cX0_above 4 RX0 wsX0_above rmX0_above) (x1 : Int32) (x2 : Int32) (x3 : Int32) (k : (((I 1 0) ≤ x3 → Rt X (some .int) rmX0_above (some (.int x2)) (HM X I L p)) ∧ (¬ (I 1 0) ≤ x3 → (∃ (zr2 : Int32), Ct (xE X) (xl X) yX0_isBelow wsX0_isBelow rmX0_isBelow [.ref 1, .int x1, .int x3] (HM X I L p) (some (.int zr2)) (HM X I L p) ∧ G X 0 0 4 [(0, .ref 1), (1, .int x1), (2, .int (if zr2 = 0 then x2 else x2 ||| (jshl 1 x3) : Int32)), (3, .int (x3 + 1))] [] (HM X I L p))))) : G X 0 0 4 [(0, .ref 1), (1, .int x1), (2, .int x2), (3, .int x3)] [] (HM X I L p) := by
  refine g_iload_n hX 3 rfl rfl dX0_above_4 ?_
  refine g_aload_n hX 0 rfl rfl dX0_above_5 ?_
  refine g_getI (k := 0) hX hPW flX0_above_45 sn1 so1 rfl dX0_above_6 ?_
  refine g_icmp_ge (tgt := 33) hX dX0_above_9 (by decide) (fun h => ?_) (fun h => ?_)
  · replace k := k.1 h
    refine g_iload_n hX 2 rfl rfl dX0_above_33 ?_
    exact g_ireturn hX k rfl rfl dX0_above_34
  · replace k := k.2 h
    refine g_aload_n hX 0 rfl rfl dX0_above_12 ?_
    refine g_iload_n hX 1 rfl rfl dX0_above_13 ?_
    refine g_iload_n hX 3 rfl rfl dX0_above_14 ?_
    obtain ⟨zr2, zhc1, k⟩ := k
    refine g_callV (cs' := 0) (sl' := 0) (C := RX0) (as := [.int x1, .int x3]) (st := []) hX zhc1 hPW sn1 so1 rfl gX0_above_X0_isBelow rfl rfl rfl ydX0_isBelow (by decide) (Nat.le_of_ble_eq_true rfl) (by decide) dX0_above_15 rfl rfl ?_
    have kJ : G X 0 0 27 [(0, .ref 1), (1, .int x1), (2, .int (if zr2 = 0 then x2 else x2 ||| (jshl 1 x3) : Int32)), (3, .int x3)] [] (HM X I L p) := by
      refine g_iinc (v := x3 + 1) (ls' := [(0, .ref 1), (1, .int x1), (2, .int (if zr2 = 0 then x2 else x2 ||| (jshl 1 x3) : Int32)), (3, .int (x3 + 1))]) hX 3 rfl dX0_above_27 rfl (by decide) rfl ?_
      refine g_goto (tgt := 4) hX dX0_above_30 (by decide) ?_
      exact k
    refine g_if_eq (tgt := 27) hX dX0_above_18 (by decide) (fun h => ?_) (fun h => ?_)
    · rw [(show (if zr2 = 0 then x2 else x2 ||| (jshl 1 x3) : Int32) = x2 from if_pos h)] at kJ
      exact kJ
    · rw [(show (if zr2 = 0 then x2 else x2 ||| (jshl 1 x3) : Int32) = (x2 ||| (jshl 1 x3)) from if_neg h)] at kJ
      refine g_iload_n hX 2 rfl rfl dX0_above_21 ?_
      refine g_iconst (v := 1) hX dX0_above_22 (by decide) ?_
      refine g_iload_n hX 3 rfl rfl dX0_above_23 ?_
      refine g_ishl hX dX0_above_24 ?_
      refine g_ior hX dX0_above_25 ?_
      refine g_istore_n (ls' := [(0, .ref 1), (1, .int x1), (2, .int (x2 ||| (jshl 1 x3))), (3, .int x3)]) hX dX0_above_26 rfl (by decide) rfl ?_
      exact kJ
set_option maxRecDepth 4000 in
theorem RX0_pipesAt_0 {X : XT} {I : MI} {L : ML} {p : Nat → Nat} {a : Nat} (ha : a < 106) (hsa : shp a = (7, 16)) (hX : Cx X cX0_pipesAt 5 RX0 wsX0_pipesAt rmX0_pipesAt) (x2 : Int32) (k : G X 0 0 5 [(0, .ref 1), (1, .ref a), (2, .int x2), (3, .int 0), (4, .int 0)] [] (HM X I L p)) : G X 0 0 0 [(0, .ref 1), (1, .ref a), (2, .int x2)] [] (HM X I L p) := by
  refine g_iconst (v := 0) hX dX0_pipesAt_0 (by decide) ?_
  refine g_istore_n (ls' := [(0, .ref 1), (1, .ref a), (2, .int x2), (3, .int 0)]) hX dX0_pipesAt_1 rfl (by decide) rfl ?_
  refine g_iconst (v := 0) hX dX0_pipesAt_2 (by decide) ?_
  refine g_istore (ls' := [(0, .ref 1), (1, .ref a), (2, .int x2), (3, .int 0), (4, .int 0)]) hX dX0_pipesAt_3 (by decide) rfl ?_
  exact k
set_option maxRecDepth 4000 in
theorem RX0_pipesAt_5 {X : XT} {I : MI} {L : ML} {p : Nat → Nat} {a : Nat} (ha : a < 106) (hsa : shp a = (7, 16)) (hX : Cx X cX0_pipesAt 5 RX0 wsX0_pipesAt rmX0_pipesAt) (x2 : Int32) (x3 : Int32) (x4 : Int32) (k : (((I 1 3) ≤ x4 → Rt X (some .int) rmX0_pipesAt (some (.int x3)) (HM X I L p)) ∧ (¬ (I 1 3) ≤ x4 → (∃ zj2 : Nat, x4 = nI zj2 ∧ zj2 < 16 ∧ G X 0 0 5 [(0, .ref 1), (1, .ref a), (2, .int x2), (3, .int (if (I a zj2) = x2 then x3 + 1 else x3 : Int32)), (4, .int (x4 + 1))] [] (HM X I L p))))) : G X 0 0 5 [(0, .ref 1), (1, .ref a), (2, .int x2), (3, .int x3), (4, .int x4)] [] (HM X I L p) := by
  refine g_iload hX 4 rfl dX0_pipesAt_5 ?_
  refine g_aload_n hX 0 rfl rfl dX0_pipesAt_7 ?_
  refine g_getI (k := 3) hX hPW flX0_pipesAt_53 sn1 so1 rfl dX0_pipesAt_8 ?_
  refine g_icmp_ge (tgt := 31) hX dX0_pipesAt_11 (by decide) (fun h => ?_) (fun h => ?_)
  · replace k := k.1 h
    refine g_iload_n hX 3 rfl rfl dX0_pipesAt_31 ?_
    exact g_ireturn hX k rfl rfl dX0_pipesAt_32
  · replace k := k.2 h
    refine g_aload_n hX 1 rfl rfl dX0_pipesAt_14 ?_
    refine g_iload hX 4 rfl dX0_pipesAt_15 ?_
    obtain ⟨zj2, zh1, zh3, k⟩ := k
    refine g_iald hX hPW ha hsa zh1 zh3 (by decide) dX0_pipesAt_17 ?_
    refine g_iload_n hX 2 rfl rfl dX0_pipesAt_18 ?_
    have kJ : G X 0 0 25 [(0, .ref 1), (1, .ref a), (2, .int x2), (3, .int (if (I a zj2) = x2 then x3 + 1 else x3 : Int32)), (4, .int x4)] [] (HM X I L p) := by
      refine g_iinc (v := x4 + 1) (ls' := [(0, .ref 1), (1, .ref a), (2, .int x2), (3, .int (if (I a zj2) = x2 then x3 + 1 else x3 : Int32)), (4, .int (x4 + 1))]) hX 4 rfl dX0_pipesAt_25 rfl (by decide) rfl ?_
      refine g_goto (tgt := 5) hX dX0_pipesAt_28 (by decide) ?_
      exact k
    refine g_icmp_ne (tgt := 25) hX dX0_pipesAt_19 (by decide) (fun h => ?_) (fun h => ?_)
    · rw [(show (if (I a zj2) = x2 then x3 + 1 else x3 : Int32) = x3 from if_neg h)] at kJ
      exact kJ
    · rw [(show (if (I a zj2) = x2 then x3 + 1 else x3 : Int32) = (x3 + 1) from if_pos h)] at kJ
      refine g_iinc (v := x3 + 1) (ls' := [(0, .ref 1), (1, .ref a), (2, .int x2), (3, .int (x3 + 1)), (4, .int x4)]) hX 3 rfl dX0_pipesAt_22 rfl (by decide) rfl ?_
      exact kJ
set_option maxRecDepth 4000 in
theorem RX0_leaving_0 {X : XT} {I : MI} {L : ML} {p : Nat → Nat}  (hX : Cx X cX0_leaving 5 RX0 wsX0_leaving rmX0_leaving) (x1 : Int32) (x2 : Int64) (k : (∃ zj2 : Nat, x1 = nI zj2 ∧ zj2 < 10 ∧ (∃ zj5 : Nat, x1 = nI zj5 ∧ zj5 < 10 ∧ (((I 2 zj5) = 0 → Rt X (some .long) rmX0_leaving (some (.long x2)) (HM X I L p)) ∧ (((I 2 zj5) = 1 → (∃ (zr8 : Int64), Ct (xE X) (xl X) yX0_pumped wsX0_pumped rmX0_pumped [.long x2, .int (I 3 zj2)] (HM X I L p) (some (.long zr8)) (HM X I L p) ∧ Rt X (some .long) rmX0_leaving (some (.long zr8)) (HM X I L p))) ∧ (((I 2 zj5) = 2 → Rt X (some .long) rmX0_leaving (some (.long ((jlshl x2 (I 3 zj2)) &&& 9223372036854775807))) (HM X I L p)) ∧ (((I 2 zj5) = 3 → Rt X (some .long) rmX0_leaving (some (.long (x2 &&& (jlshl (-1) (I 3 zj2))))) (HM X I L p)) ∧ (((I 2 zj5) = 4 → (∃ (zr10 : Int64), Ct (xE X) (xl X) yX0_pumped wsX0_pumped rmX0_pumped [.long x2, .int (I 3 zj2)] (HM X I L p) (some (.long zr10)) (HM X I L p) ∧ (¬ (10 : Int32) = 0) ∧ Rt X (some .long) rmX0_leaving (some (.long ((jlshl zr10 (((I 3 zj2) / 10) + 1)) &&& 9223372036854775807))) (HM X I L p))) ∧ (¬ (I 2 zj5) = 0 ∧ ¬ (I 2 zj5) = 1 ∧ ¬ (I 2 zj5) = 2 ∧ ¬ (I 2 zj5) = 3 ∧ ¬ (I 2 zj5) = 4 → Rt X (some .long) rmX0_leaving (some (.long x2)) (HM X I L p)))))))))) : G X 0 0 0 [(0, .ref 1), (1, .int x1), (2, .long x2)] [] (HM X I L p) := by
  refine g_aload_n hX 0 rfl rfl dX0_leaving_0 ?_
  refine g_getR (k := 2) (r' := 3) hX hPW flX0_leaving_15 sn1 so1 rfl (k1_2 _) dX0_leaving_1 ?_
  refine g_iload_n hX 1 rfl rfl dX0_leaving_4 ?_
  obtain ⟨zj2, zh1, zh3, k⟩ := k
  refine g_iald hX hPW sn3 sh3 zh1 zh3 (by decide) dX0_leaving_5 ?_
  refine g_istore (ls' := [(0, .ref 1), (1, .int x1), (2, .long x2), (4, .int (I 3 zj2))]) hX dX0_leaving_6 (by decide) rfl ?_
  refine g_aload_n hX 0 rfl rfl dX0_leaving_8 ?_
  refine g_getR (k := 1) (r' := 2) hX hPW flX0_leaving_9 sn1 so1 rfl (k1_1 _) dX0_leaving_9 ?_
  refine g_iload_n hX 1 rfl rfl dX0_leaving_12 ?_
  obtain ⟨zj5, zh4, zh6, k⟩ := k
  refine g_iald hX hPW sn2 sh2 zh4 zh6 (by decide) dX0_leaving_13 ?_
  by_cases c0 : (I 2 zj5) = 0
  · replace k := k.1 c0
    refine g_tableIn (off := 78) (tgt := 92) hX dX0_leaving_14 (by rw [c0]; decide) (by rw [c0]; decide) (by rw [c0]; rfl) (by decide) ?_
    refine g_lload_n hX 2 rfl rfl dX0_leaving_92 ?_
    exact g_lreturn hX k rfl rfl dX0_leaving_93
  · replace k := k.2
    by_cases c1 : (I 2 zj5) = 1
    · replace k := k.1 c1
      refine g_tableIn (off := 34) (tgt := 48) hX dX0_leaving_14 (by rw [c1]; decide) (by rw [c1]; decide) (by rw [c1]; rfl) (by decide) ?_
      refine g_lload_n hX 2 rfl rfl dX0_leaving_48 ?_
      refine g_iload hX 3 rfl dX0_leaving_49 ?_
      obtain ⟨zr8, zhc7, k⟩ := k
      refine g_callS (cs' := 0) (sl' := 0) (as := [.long x2, .int (I 3 zj2)]) (st := []) hX zhc7 gX0_leaving_X0_pumped rfl rfl ydX0_pumped (by decide) (Nat.le_of_ble_eq_true rfl) (by decide) dX0_leaving_51 rfl rfl ?_
      exact g_lreturn hX k rfl rfl dX0_leaving_54
    · replace k := k.2
      by_cases c2 : (I 2 zj5) = 2
      · replace k := k.1 c2
        refine g_tableIn (off := 41) (tgt := 55) hX dX0_leaving_14 (by rw [c2]; decide) (by rw [c2]; decide) (by rw [c2]; rfl) (by decide) ?_
        refine g_lload_n hX 2 rfl rfl dX0_leaving_55 ?_
        refine g_iload hX 3 rfl dX0_leaving_56 ?_
        refine g_lshl hX dX0_leaving_58 ?_
        refine g_ldc2 (v := 9223372036854775807) hX (by decide +kernel) dX0_leaving_59 ?_
        refine g_land hX dX0_leaving_62 ?_
        exact g_lreturn hX k rfl rfl dX0_leaving_63
      · replace k := k.2
        by_cases c3 : (I 2 zj5) = 3
        · replace k := k.1 c3
          refine g_tableIn (off := 50) (tgt := 64) hX dX0_leaving_14 (by rw [c3]; decide) (by rw [c3]; decide) (by rw [c3]; rfl) (by decide) ?_
          refine g_lload_n hX 2 rfl rfl dX0_leaving_64 ?_
          refine g_ldc2 (v := (-1)) hX (by decide +kernel) dX0_leaving_65 ?_
          refine g_iload hX 3 rfl dX0_leaving_68 ?_
          refine g_lshl hX dX0_leaving_70 ?_
          refine g_land hX dX0_leaving_71 ?_
          exact g_lreturn hX k rfl rfl dX0_leaving_72
        · replace k := k.2
          by_cases c4 : (I 2 zj5) = 4
          · replace k := k.1 c4
            refine g_tableIn (off := 59) (tgt := 73) hX dX0_leaving_14 (by rw [c4]; decide) (by rw [c4]; decide) (by rw [c4]; rfl) (by decide) ?_
            refine g_lload_n hX 2 rfl rfl dX0_leaving_73 ?_
            refine g_iload hX 3 rfl dX0_leaving_74 ?_
            obtain ⟨zr10, zhc9, k⟩ := k
            refine g_callS (cs' := 0) (sl' := 0) (as := [.long x2, .int (I 3 zj2)]) (st := []) hX zhc9 gX0_leaving_X0_pumped rfl rfl ydX0_pumped (by decide) (Nat.le_of_ble_eq_true rfl) (by decide) dX0_leaving_76 rfl rfl ?_
            refine g_iload hX 3 rfl dX0_leaving_79 ?_
            refine g_bipush (v := 10) hX dX0_leaving_81 (by decide) ?_
            obtain ⟨zh11, k⟩ := k
            refine g_idiv hX dX0_leaving_83 zh11 ?_
            refine g_iconst (v := 1) hX dX0_leaving_84 (by decide) ?_
            refine g_iadd hX dX0_leaving_85 ?_
            refine g_lshl hX dX0_leaving_86 ?_
            refine g_ldc2 (v := 9223372036854775807) hX (by decide +kernel) dX0_leaving_87 ?_
            refine g_land hX dX0_leaving_90 ?_
            exact g_lreturn hX k rfl rfl dX0_leaving_91
          · replace k := k.2
            replace k := k ⟨c0, c1, c2, c3, c4⟩
            refine g_tableOut (tgt := 92) hX dX0_leaving_14 (by have ec0 := lv_neT c0 (show (0 : Int32).toInt = 0 by decide); have ec1 := lv_neT c1 (show (1 : Int32).toInt = 1 by decide); have ec2 := lv_neT c2 (show (2 : Int32).toInt = 2 by decide); have ec3 := lv_neT c3 (show (3 : Int32).toInt = 3 by decide); have ec4 := lv_neT c4 (show (4 : Int32).toInt = 4 by decide); omega) (by decide) ?_
            refine g_lload_n hX 2 rfl rfl dX0_leaving_92 ?_
            exact g_lreturn hX k rfl rfl dX0_leaving_93
set_option maxRecDepth 4000 in
theorem RX0_brought_0 {X : XT} {I : MI} {L : ML} {p : Nat → Nat}  (hX : Cx X cX0_brought 7 RX0 wsX0_brought rmX0_brought) (x1 : Int32) (x2 : Int64) (k : (∃ zj2 : Nat, x1 = nI zj2 ∧ zj2 < 16 ∧ G X 0 0 11 [(0, .ref 1), (1, .int x1), (2, .long x2), (4, .long 0), (6, .int (I 6 zj2))] [] (HM X I L p))) : G X 0 0 0 [(0, .ref 1), (1, .int x1), (2, .long x2)] [] (HM X I L p) := by
  refine g_lconst (v := 0) hX dX0_brought_0 (by decide) ?_
  refine g_lstore (ls' := [(0, .ref 1), (1, .int x1), (2, .long x2), (4, .long 0)]) hX dX0_brought_1 (by decide) rfl ?_
  refine g_aload_n hX 0 rfl rfl dX0_brought_3 ?_
  refine g_getR (k := 6) (r' := 6) hX hPW flX0_brought_24 sn1 so1 rfl (k1_6 _) dX0_brought_4 ?_
  refine g_iload_n hX 1 rfl rfl dX0_brought_7 ?_
  obtain ⟨zj2, zh1, zh3, k⟩ := k
  refine g_iald hX hPW sn6 sh6 zh1 zh3 (by decide) dX0_brought_8 ?_
  refine g_istore (ls' := [(0, .ref 1), (1, .int x1), (2, .long x2), (4, .long 0), (6, .int (I 6 zj2))]) hX dX0_brought_9 (by decide) rfl ?_
  exact k
set_option maxRecDepth 4000 in
theorem RX0_brought_11 {X : XT} {I : MI} {L : ML} {p : Nat → Nat}  (hX : Cx X cX0_brought 7 RX0 wsX0_brought rmX0_brought) (x1 : Int32) (x2 : Int64) (x4 : Int64) (x6 : Int32) (k : (∃ zj2 : Nat, x1 = nI zj2 ∧ zj2 < 16 ∧ (((I 7 zj2) < x6 → Rt X (some .long) rmX0_brought (some (.long (x4 &&& 9223372036854775807))) (HM X I L p)) ∧ (¬ (I 7 zj2) < x6 → G X 0 0 11 [(0, .ref 1), (1, .int x1), (2, .long x2), (4, .long (x4 ||| (jlshl x2 x6))), (6, .int (x6 + 1))] [] (HM X I L p))))) : G X 0 0 11 [(0, .ref 1), (1, .int x1), (2, .long x2), (4, .long x4), (6, .int x6)] [] (HM X I L p) := by
  refine g_iload hX 4 rfl dX0_brought_11 ?_
  refine g_aload_n hX 0 rfl rfl dX0_brought_13 ?_
  refine g_getR (k := 7) (r' := 7) hX hPW flX0_brought_27 sn1 so1 rfl (k1_7 _) dX0_brought_14 ?_
  refine g_iload_n hX 1 rfl rfl dX0_brought_17 ?_
  obtain ⟨zj2, zh1, zh3, k⟩ := k
  refine g_iald hX hPW sn7 sh7 zh1 zh3 (by decide) dX0_brought_18 ?_
  refine g_icmp_gt (tgt := 37) hX dX0_brought_19 (by decide) (fun h => ?_) (fun h => ?_)
  · replace k := k.1 h
    refine g_lload hX 3 rfl dX0_brought_37 ?_
    refine g_ldc2 (v := 9223372036854775807) hX (by decide +kernel) dX0_brought_39 ?_
    refine g_land hX dX0_brought_42 ?_
    exact g_lreturn hX k rfl rfl dX0_brought_43
  · replace k := k.2 h
    refine g_lload hX 3 rfl dX0_brought_22 ?_
    refine g_lload_n hX 2 rfl rfl dX0_brought_24 ?_
    refine g_iload hX 4 rfl dX0_brought_25 ?_
    refine g_lshl hX dX0_brought_27 ?_
    refine g_lor hX dX0_brought_28 ?_
    refine g_lstore (ls' := [(0, .ref 1), (1, .int x1), (2, .long x2), (4, .long (x4 ||| (jlshl x2 x6))), (6, .int x6)]) hX dX0_brought_29 (by decide) rfl ?_
    refine g_iinc (v := x6 + 1) (ls' := [(0, .ref 1), (1, .int x1), (2, .long x2), (4, .long (x4 ||| (jlshl x2 x6))), (6, .int (x6 + 1))]) hX 4 rfl dX0_brought_31 rfl (by decide) rfl ?_
    refine g_goto (tgt := 11) hX dX0_brought_34 (by decide) ?_
    exact k
set_option maxRecDepth 4000 in
theorem RX0_copyFrom_0 {X : XT} {I : MI} {L : ML} {p : Nat → Nat} {a b : Nat} (ha : a < 106) (hb : b < 106) (hsa : (shp a).1 = 0) (hsb : (shp b).1 = 0) (hKa : ∀ k o, (k, o) ∈ drO → KK p a k = some (a + o)) (hKb : ∀ k o, (k, o) ∈ drO → KK p b k = some (b + o)) (hX : Cx X cX0_copyFrom 2 RX0 wsX0_copyFrom rmX0_copyFrom)  (k : (∃ (zI2 : MI), Ct (xE X) (xl X) yX0_copyRow wsX0_copyRow rmX0_copyRow [.ref (b + 1), .ref (a + 1)] (HM X (upI I a 0 (I b 0)) L p) none (HM X zI2 L p) ∧ (∃ (zI4 : MI), Ct (xE X) (xl X) yX0_copyRow wsX0_copyRow rmX0_copyRow [.ref (b + 2), .ref (a + 2)] (HM X zI2 L p) none (HM X zI4 L p) ∧ (∃ (zI6 : MI), Ct (xE X) (xl X) yX0_copyRow wsX0_copyRow rmX0_copyRow [.ref (b + 10), .ref (a + 10)] (HM X zI4 L p) none (HM X zI6 L p) ∧ (∃ (zI8 : MI), Ct (xE X) (xl X) yX0_copyRow wsX0_copyRow rmX0_copyRow [.ref (b + 3), .ref (a + 3)] (HM X (upI zI6 a 3 (zI6 b 3)) L p) none (HM X zI8 L p) ∧ (∃ (zI10 : MI), Ct (xE X) (xl X) yX0_copyRow wsX0_copyRow rmX0_copyRow [.ref (b + 4), .ref (a + 4)] (HM X zI8 L p) none (HM X zI10 L p) ∧ (∃ (zI12 : MI), Ct (xE X) (xl X) yX0_copyRow wsX0_copyRow rmX0_copyRow [.ref (b + 5), .ref (a + 5)] (HM X zI10 L p) none (HM X zI12 L p) ∧ (∃ (zI14 : MI), Ct (xE X) (xl X) yX0_copyRow wsX0_copyRow rmX0_copyRow [.ref (b + 6), .ref (a + 6)] (HM X zI12 L p) none (HM X zI14 L p) ∧ (∃ (zI16 : MI), Ct (xE X) (xl X) yX0_copyRow wsX0_copyRow rmX0_copyRow [.ref (b + 11), .ref (a + 11)] (HM X zI14 L p) none (HM X zI16 L p) ∧ (∃ (zI18 : MI), Ct (xE X) (xl X) yX0_copyRow wsX0_copyRow rmX0_copyRow [.ref (b + 7), .ref (a + 7)] (HM X (upI zI16 a 8 (zI16 b 8)) L p) none (HM X zI18 L p) ∧ (∃ (zI20 : MI), Ct (xE X) (xl X) yX0_copyRow wsX0_copyRow rmX0_copyRow [.ref (b + 8), .ref (a + 8)] (HM X zI18 L p) none (HM X zI20 L p) ∧ (∃ (zI22 : MI), Ct (xE X) (xl X) yX0_copyRow wsX0_copyRow rmX0_copyRow [.ref (b + 9), .ref (a + 9)] (HM X zI20 L p) none (HM X zI22 L p) ∧ Rt X none rmX0_copyFrom none (HM X zI22 L p))))))))))))) : G X 0 0 0 [(0, .ref a), (1, .ref b)] [] (HM X I L p) := by
  refine g_aload_n hX 0 rfl rfl dX0_copyFrom_0 ?_
  refine g_aload_n hX 1 rfl rfl dX0_copyFrom_1 ?_
  refine g_getI (k := 0) hX hPW flX0_copyFrom_45 hb hsb rfl dX0_copyFrom_2 ?_
  refine g_putI (k := 0) hX fpX0_copyFrom_45 ha hsa rfl rfl rfl dX0_copyFrom_5 ?_
  refine g_aload_n hX 1 rfl rfl dX0_copyFrom_8 ?_
  refine g_getR (k := 1) (r' := (b + 1)) hX hPW flX0_copyFrom_9 hb hsb rfl (hKb 1 1 (by decide)) dX0_copyFrom_9 ?_
  refine g_aload_n hX 0 rfl rfl dX0_copyFrom_12 ?_
  refine g_getR (k := 1) (r' := (a + 1)) hX hPW flX0_copyFrom_9 ha hsa rfl (hKa 1 1 (by decide)) dX0_copyFrom_13 ?_
  obtain ⟨zI2, zhc1, k⟩ := k
  refine g_callS (cs' := 0) (sl' := 0) (as := [.ref (b + 1), .ref (a + 1)]) (st := []) hX zhc1 gX0_copyFrom_X0_copyRow rfl rfl ydX0_copyRow (by decide) (Nat.le_of_ble_eq_true rfl) (by decide) dX0_copyFrom_16 rfl rfl ?_
  refine g_aload_n hX 1 rfl rfl dX0_copyFrom_19 ?_
  refine g_getR (k := 2) (r' := (b + 2)) hX hPW flX0_copyFrom_15 hb hsb rfl (hKb 2 2 (by decide)) dX0_copyFrom_20 ?_
  refine g_aload_n hX 0 rfl rfl dX0_copyFrom_23 ?_
  refine g_getR (k := 2) (r' := (a + 2)) hX hPW flX0_copyFrom_15 ha hsa rfl (hKa 2 2 (by decide)) dX0_copyFrom_24 ?_
  obtain ⟨zI4, zhc3, k⟩ := k
  refine g_callS (cs' := 0) (sl' := 0) (as := [.ref (b + 2), .ref (a + 2)]) (st := []) hX zhc3 gX0_copyFrom_X0_copyRow rfl rfl ydX0_copyRow (by decide) (Nat.le_of_ble_eq_true rfl) (by decide) dX0_copyFrom_27 rfl rfl ?_
  refine g_aload_n hX 1 rfl rfl dX0_copyFrom_30 ?_
  refine g_getR (k := 12) (r' := (b + 10)) hX hPW flX0_copyFrom_39 hb hsb rfl (hKb 12 10 (by decide)) dX0_copyFrom_31 ?_
  refine g_aload_n hX 0 rfl rfl dX0_copyFrom_34 ?_
  refine g_getR (k := 12) (r' := (a + 10)) hX hPW flX0_copyFrom_39 ha hsa rfl (hKa 12 10 (by decide)) dX0_copyFrom_35 ?_
  obtain ⟨zI6, zhc5, k⟩ := k
  refine g_callS (cs' := 0) (sl' := 0) (as := [.ref (b + 10), .ref (a + 10)]) (st := []) hX zhc5 gX0_copyFrom_X0_copyRow rfl rfl ydX0_copyRow (by decide) (Nat.le_of_ble_eq_true rfl) (by decide) dX0_copyFrom_38 rfl rfl ?_
  refine g_aload_n hX 0 rfl rfl dX0_copyFrom_41 ?_
  refine g_aload_n hX 1 rfl rfl dX0_copyFrom_42 ?_
  refine g_getI (k := 3) hX hPW flX0_copyFrom_53 hb hsb rfl dX0_copyFrom_43 ?_
  refine g_putI (k := 3) hX fpX0_copyFrom_53 ha hsa rfl rfl rfl dX0_copyFrom_46 ?_
  refine g_aload_n hX 1 rfl rfl dX0_copyFrom_49 ?_
  refine g_getR (k := 4) (r' := (b + 3)) hX hPW flX0_copyFrom_18 hb hsb rfl (hKb 4 3 (by decide)) dX0_copyFrom_50 ?_
  refine g_aload_n hX 0 rfl rfl dX0_copyFrom_53 ?_
  refine g_getR (k := 4) (r' := (a + 3)) hX hPW flX0_copyFrom_18 ha hsa rfl (hKa 4 3 (by decide)) dX0_copyFrom_54 ?_
  obtain ⟨zI8, zhc7, k⟩ := k
  refine g_callS (cs' := 0) (sl' := 0) (as := [.ref (b + 3), .ref (a + 3)]) (st := []) hX zhc7 gX0_copyFrom_X0_copyRow rfl rfl ydX0_copyRow (by decide) (Nat.le_of_ble_eq_true rfl) (by decide) dX0_copyFrom_57 rfl rfl ?_
  refine g_aload_n hX 1 rfl rfl dX0_copyFrom_60 ?_
  refine g_getR (k := 5) (r' := (b + 4)) hX hPW flX0_copyFrom_21 hb hsb rfl (hKb 5 4 (by decide)) dX0_copyFrom_61 ?_
  refine g_aload_n hX 0 rfl rfl dX0_copyFrom_64 ?_
  refine g_getR (k := 5) (r' := (a + 4)) hX hPW flX0_copyFrom_21 ha hsa rfl (hKa 5 4 (by decide)) dX0_copyFrom_65 ?_
  obtain ⟨zI10, zhc9, k⟩ := k
  refine g_callS (cs' := 0) (sl' := 0) (as := [.ref (b + 4), .ref (a + 4)]) (st := []) hX zhc9 gX0_copyFrom_X0_copyRow rfl rfl ydX0_copyRow (by decide) (Nat.le_of_ble_eq_true rfl) (by decide) dX0_copyFrom_68 rfl rfl ?_
  refine g_aload_n hX 1 rfl rfl dX0_copyFrom_71 ?_
  refine g_getR (k := 6) (r' := (b + 5)) hX hPW flX0_copyFrom_24 hb hsb rfl (hKb 6 5 (by decide)) dX0_copyFrom_72 ?_
  refine g_aload_n hX 0 rfl rfl dX0_copyFrom_75 ?_
  refine g_getR (k := 6) (r' := (a + 5)) hX hPW flX0_copyFrom_24 ha hsa rfl (hKa 6 5 (by decide)) dX0_copyFrom_76 ?_
  obtain ⟨zI12, zhc11, k⟩ := k
  refine g_callS (cs' := 0) (sl' := 0) (as := [.ref (b + 5), .ref (a + 5)]) (st := []) hX zhc11 gX0_copyFrom_X0_copyRow rfl rfl ydX0_copyRow (by decide) (Nat.le_of_ble_eq_true rfl) (by decide) dX0_copyFrom_79 rfl rfl ?_
  refine g_aload_n hX 1 rfl rfl dX0_copyFrom_82 ?_
  refine g_getR (k := 7) (r' := (b + 6)) hX hPW flX0_copyFrom_27 hb hsb rfl (hKb 7 6 (by decide)) dX0_copyFrom_83 ?_
  refine g_aload_n hX 0 rfl rfl dX0_copyFrom_86 ?_
  refine g_getR (k := 7) (r' := (a + 6)) hX hPW flX0_copyFrom_27 ha hsa rfl (hKa 7 6 (by decide)) dX0_copyFrom_87 ?_
  obtain ⟨zI14, zhc13, k⟩ := k
  refine g_callS (cs' := 0) (sl' := 0) (as := [.ref (b + 6), .ref (a + 6)]) (st := []) hX zhc13 gX0_copyFrom_X0_copyRow rfl rfl ydX0_copyRow (by decide) (Nat.le_of_ble_eq_true rfl) (by decide) dX0_copyFrom_90 rfl rfl ?_
  refine g_aload_n hX 1 rfl rfl dX0_copyFrom_93 ?_
  refine g_getR (k := 13) (r' := (b + 11)) hX hPW flX0_copyFrom_42 hb hsb rfl (hKb 13 11 (by decide)) dX0_copyFrom_94 ?_
  refine g_aload_n hX 0 rfl rfl dX0_copyFrom_97 ?_
  refine g_getR (k := 13) (r' := (a + 11)) hX hPW flX0_copyFrom_42 ha hsa rfl (hKa 13 11 (by decide)) dX0_copyFrom_98 ?_
  obtain ⟨zI16, zhc15, k⟩ := k
  refine g_callS (cs' := 0) (sl' := 0) (as := [.ref (b + 11), .ref (a + 11)]) (st := []) hX zhc15 gX0_copyFrom_X0_copyRow rfl rfl ydX0_copyRow (by decide) (Nat.le_of_ble_eq_true rfl) (by decide) dX0_copyFrom_101 rfl rfl ?_
  refine g_aload_n hX 0 rfl rfl dX0_copyFrom_104 ?_
  refine g_aload_n hX 1 rfl rfl dX0_copyFrom_105 ?_
  refine g_getI (k := 8) hX hPW flX0_copyFrom_76 hb hsb rfl dX0_copyFrom_106 ?_
  refine g_putI (k := 8) hX fpX0_copyFrom_76 ha hsa rfl rfl rfl dX0_copyFrom_109 ?_
  refine g_aload_n hX 1 rfl rfl dX0_copyFrom_112 ?_
  refine g_getR (k := 9) (r' := (b + 7)) hX hPW flX0_copyFrom_30 hb hsb rfl (hKb 9 7 (by decide)) dX0_copyFrom_113 ?_
  refine g_aload_n hX 0 rfl rfl dX0_copyFrom_116 ?_
  refine g_getR (k := 9) (r' := (a + 7)) hX hPW flX0_copyFrom_30 ha hsa rfl (hKa 9 7 (by decide)) dX0_copyFrom_117 ?_
  obtain ⟨zI18, zhc17, k⟩ := k
  refine g_callS (cs' := 0) (sl' := 0) (as := [.ref (b + 7), .ref (a + 7)]) (st := []) hX zhc17 gX0_copyFrom_X0_copyRow rfl rfl ydX0_copyRow (by decide) (Nat.le_of_ble_eq_true rfl) (by decide) dX0_copyFrom_120 rfl rfl ?_
  refine g_aload_n hX 1 rfl rfl dX0_copyFrom_123 ?_
  refine g_getR (k := 10) (r' := (b + 8)) hX hPW flX0_copyFrom_33 hb hsb rfl (hKb 10 8 (by decide)) dX0_copyFrom_124 ?_
  refine g_aload_n hX 0 rfl rfl dX0_copyFrom_127 ?_
  refine g_getR (k := 10) (r' := (a + 8)) hX hPW flX0_copyFrom_33 ha hsa rfl (hKa 10 8 (by decide)) dX0_copyFrom_128 ?_
  obtain ⟨zI20, zhc19, k⟩ := k
  refine g_callS (cs' := 0) (sl' := 0) (as := [.ref (b + 8), .ref (a + 8)]) (st := []) hX zhc19 gX0_copyFrom_X0_copyRow rfl rfl ydX0_copyRow (by decide) (Nat.le_of_ble_eq_true rfl) (by decide) dX0_copyFrom_131 rfl rfl ?_
  refine g_aload_n hX 1 rfl rfl dX0_copyFrom_134 ?_
  refine g_getR (k := 11) (r' := (b + 9)) hX hPW flX0_copyFrom_36 hb hsb rfl (hKb 11 9 (by decide)) dX0_copyFrom_135 ?_
  refine g_aload_n hX 0 rfl rfl dX0_copyFrom_138 ?_
  refine g_getR (k := 11) (r' := (a + 9)) hX hPW flX0_copyFrom_36 ha hsa rfl (hKa 11 9 (by decide)) dX0_copyFrom_139 ?_
  obtain ⟨zI22, zhc21, k⟩ := k
  refine g_callS (cs' := 0) (sl' := 0) (as := [.ref (b + 9), .ref (a + 9)]) (st := []) hX zhc21 gX0_copyFrom_X0_copyRow rfl rfl ydX0_copyRow (by decide) (Nat.le_of_ble_eq_true rfl) (by decide) dX0_copyFrom_142 rfl rfl ?_
  exact g_return hX k rfl rfl dX0_copyFrom_145
set_option maxRecDepth 4000 in
theorem RX0_findWays_0 {X : XT} {I : MI} {L : ML} {p : Nat → Nat}  (hX : Cx X cX0_findWays 1 RX0 wsX0_findWays rmX0_findWays)  (k : (∃ (zI2 : MI), Ct (xE X) (xl X) yX0_findBelow wsX0_findBelow rmX0_findBelow [.ref 1] (HM X I L p) none (HM X zI2 L p) ∧ (∃ (zI4 : MI), Ct (xE X) (xl X) yX0_findRoute wsX0_findRoute rmX0_findRoute [.ref 1] (HM X zI2 L p) none (HM X zI4 L p) ∧ Rt X none rmX0_findWays none (HM X zI4 L p)))) : G X 0 0 0 [(0, .ref 1)] [] (HM X I L p) := by
  refine g_aload_n hX 0 rfl rfl dX0_findWays_0 ?_
  obtain ⟨zI2, zhc1, k⟩ := k
  refine g_callV (cs' := 0) (sl' := 0) (C := RX0) (as := []) (st := []) hX zhc1 hPW sn1 so1 rfl gX0_findWays_X0_findBelow rfl rfl rfl ydX0_findBelow (by decide) (Nat.le_of_ble_eq_true rfl) (by decide) dX0_findWays_1 rfl rfl ?_
  refine g_aload_n hX 0 rfl rfl dX0_findWays_4 ?_
  obtain ⟨zI4, zhc3, k⟩ := k
  refine g_callV (cs' := 0) (sl' := 0) (C := RX0) (as := []) (st := []) hX zhc3 hPW sn1 so1 rfl gX0_findWays_X0_findRoute rfl rfl rfl ydX0_findRoute (by decide) (Nat.le_of_ble_eq_true rfl) (by decide) dX0_findWays_5 rfl rfl ?_
  exact g_return hX k rfl rfl dX0_findWays_8
set_option maxRecDepth 4000 in
theorem RX0_findBelow_0 {X : XT} {I : MI} {L : ML} {p : Nat → Nat}  (hX : Cx X cX0_findBelow 3 RX0 wsX0_findBelow rmX0_findBelow)  (k : G X 0 0 2 [(0, .ref 1), (1, .int 0)] [] (HM X I L p)) : G X 0 0 0 [(0, .ref 1)] [] (HM X I L p) := by
  refine g_iconst (v := 0) hX dX0_findBelow_0 (by decide) ?_
  refine g_istore_n (ls' := [(0, .ref 1), (1, .int 0)]) hX dX0_findBelow_1 rfl (by decide) rfl ?_
  exact k
set_option maxRecDepth 4000 in
theorem RX0_findBelow_2 {X : XT} {I : MI} {L : ML} {p : Nat → Nat}  (hX : Cx X cX0_findBelow 3 RX0 wsX0_findBelow rmX0_findBelow) (x1 : Int32) (k : (((I 1 0) ≤ x1 → G X 0 0 27 [(0, .ref 1), (1, .int 1)] [] (HM X I L p)) ∧ (¬ (I 1 0) ≤ x1 → (∃ zj2 : Nat, x1 = nI zj2 ∧ zj2 < 10 ∧ G X 0 0 2 [(0, .ref 1), (1, .int (x1 + 1))] [] (HM X (upI I 11 zj2 (jshl 1 x1)) L p))))) : G X 0 0 2 [(0, .ref 1), (1, .int x1)] [] (HM X I L p) := by
  refine g_iload_n hX 1 rfl rfl dX0_findBelow_2 ?_
  refine g_aload_n hX 0 rfl rfl dX0_findBelow_3 ?_
  refine g_getI (k := 0) hX hPW flX0_findBelow_45 sn1 so1 rfl dX0_findBelow_4 ?_
  refine g_icmp_ge (tgt := 25) hX dX0_findBelow_7 (by decide) (fun h => ?_) (fun h => ?_)
  · replace k := k.1 h
    refine g_iconst (v := 1) hX dX0_findBelow_25 (by decide) ?_
    refine g_istore_n (ls' := [(0, .ref 1), (1, .int 1)]) hX dX0_findBelow_26 rfl (by decide) rfl ?_
    exact k
  · replace k := k.2 h
    refine g_aload_n hX 0 rfl rfl dX0_findBelow_10 ?_
    refine g_getR (k := 12) (r' := 11) hX hPW flX0_findBelow_39 sn1 so1 rfl (k1_12 _) dX0_findBelow_11 ?_
    refine g_iload_n hX 1 rfl rfl dX0_findBelow_14 ?_
    refine g_iconst (v := 1) hX dX0_findBelow_15 (by decide) ?_
    refine g_iload_n hX 1 rfl rfl dX0_findBelow_16 ?_
    refine g_ishl hX dX0_findBelow_17 ?_
    obtain ⟨zj2, zh1, zh3, k⟩ := k
    refine g_iast hX sn11 sh11 zh1 zh3 (by decide) dX0_findBelow_18 ?_
    refine g_iinc (v := x1 + 1) (ls' := [(0, .ref 1), (1, .int (x1 + 1))]) hX 1 rfl dX0_findBelow_19 rfl (by decide) rfl ?_
    refine g_goto (tgt := 2) hX dX0_findBelow_22 (by decide) ?_
    exact k
set_option maxRecDepth 4000 in
theorem RX0_findBelow_27 {X : XT} {I : MI} {L : ML} {p : Nat → Nat}  (hX : Cx X cX0_findBelow 3 RX0 wsX0_findBelow rmX0_findBelow) (x1 : Int32) (k : (((I 1 0) ≤ x1 → Rt X none rmX0_findBelow none (HM X I L p)) ∧ (¬ (I 1 0) ≤ x1 → G X 0 0 37 [(0, .ref 1), (1, .int x1), (2, .int 0)] [] (HM X I L p)))) : G X 0 0 27 [(0, .ref 1), (1, .int x1)] [] (HM X I L p) := by
  refine g_iload_n hX 1 rfl rfl dX0_findBelow_27 ?_
  refine g_aload_n hX 0 rfl rfl dX0_findBelow_28 ?_
  refine g_getI (k := 0) hX hPW flX0_findBelow_45 sn1 so1 rfl dX0_findBelow_29 ?_
  refine g_icmp_ge (tgt := 82) hX dX0_findBelow_32 (by decide) (fun h => ?_) (fun h => ?_)
  · replace k := k.1 h
    exact g_return hX k rfl rfl dX0_findBelow_82
  · replace k := k.2 h
    refine g_iconst (v := 0) hX dX0_findBelow_35 (by decide) ?_
    refine g_istore_n (ls' := [(0, .ref 1), (1, .int x1), (2, .int 0)]) hX dX0_findBelow_36 rfl (by decide) rfl ?_
    exact k
set_option maxRecDepth 4000 in
theorem RX0_findBelow_37 {X : XT} {I : MI} {L : ML} {p : Nat → Nat}  (hX : Cx X cX0_findBelow 3 RX0 wsX0_findBelow rmX0_findBelow) (x1 : Int32) (x2 : Int32) (k : (((I 1 3) ≤ x2 → G X 0 0 27 [(0, .ref 1), (1, .int (x1 + 1))] [] (HM X I L p)) ∧ (¬ (I 1 3) ≤ x2 → (∃ zj2 : Nat, x2 = nI zj2 ∧ zj2 < 16 ∧ (∃ zj5 : Nat, (I 4 zj2) = nI zj5 ∧ zj5 < 10 ∧ (∃ zj8 : Nat, x2 = nI zj8 ∧ zj8 < 16 ∧ (∃ zj11 : Nat, (I 5 zj8) = nI zj11 ∧ zj11 < 10 ∧ (∃ zj14 : Nat, (I 4 zj2) = nI zj14 ∧ zj14 < 10 ∧ G X 0 0 37 [(0, .ref 1), (1, .int x1), (2, .int (x2 + 1))] [] (HM X (upI I 11 zj14 ((I 11 zj5) ||| (I 11 zj11))) L p))))))))) : G X 0 0 37 [(0, .ref 1), (1, .int x1), (2, .int x2)] [] (HM X I L p) := by
  refine g_iload_n hX 2 rfl rfl dX0_findBelow_37 ?_
  refine g_aload_n hX 0 rfl rfl dX0_findBelow_38 ?_
  refine g_getI (k := 3) hX hPW flX0_findBelow_53 sn1 so1 rfl dX0_findBelow_39 ?_
  refine g_icmp_ge (tgt := 76) hX dX0_findBelow_42 (by decide) (fun h => ?_) (fun h => ?_)
  · replace k := k.1 h
    refine g_iinc (v := x1 + 1) (ls' := [(0, .ref 1), (1, .int (x1 + 1)), (2, .int x2)]) hX 1 rfl dX0_findBelow_76 rfl (by decide) rfl ?_
    refine g_goto (tgt := 27) hX dX0_findBelow_79 (by decide) ?_
    refine G.pick (ks := [0, 1]) (ls' := [(0, .ref 1), (1, .int (x1 + 1))]) rfl ?_
    exact k
  · replace k := k.2 h
    refine g_aload_n hX 0 rfl rfl dX0_findBelow_45 ?_
    refine g_getR (k := 12) (r' := 11) hX hPW flX0_findBelow_39 sn1 so1 rfl (k1_12 _) dX0_findBelow_46 ?_
    refine g_aload_n hX 0 rfl rfl dX0_findBelow_49 ?_
    refine g_getR (k := 4) (r' := 4) hX hPW flX0_findBelow_18 sn1 so1 rfl (k1_4 _) dX0_findBelow_50 ?_
    refine g_iload_n hX 2 rfl rfl dX0_findBelow_53 ?_
    obtain ⟨zj2, zh1, zh3, k⟩ := k
    refine g_iald hX hPW sn4 sh4 zh1 zh3 (by decide) dX0_findBelow_54 ?_
    refine g_dup2 hX dX0_findBelow_55 rfl rfl ?_
    obtain ⟨zj5, zh4, zh6, k⟩ := k
    refine g_iald hX hPW sn11 sh11 zh4 zh6 (by decide) dX0_findBelow_56 ?_
    refine g_aload_n hX 0 rfl rfl dX0_findBelow_57 ?_
    refine g_getR (k := 12) (r' := 11) hX hPW flX0_findBelow_39 sn1 so1 rfl (k1_12 _) dX0_findBelow_58 ?_
    refine g_aload_n hX 0 rfl rfl dX0_findBelow_61 ?_
    refine g_getR (k := 5) (r' := 5) hX hPW flX0_findBelow_21 sn1 so1 rfl (k1_5 _) dX0_findBelow_62 ?_
    refine g_iload_n hX 2 rfl rfl dX0_findBelow_65 ?_
    obtain ⟨zj8, zh7, zh9, k⟩ := k
    refine g_iald hX hPW sn5 sh5 zh7 zh9 (by decide) dX0_findBelow_66 ?_
    obtain ⟨zj11, zh10, zh12, k⟩ := k
    refine g_iald hX hPW sn11 sh11 zh10 zh12 (by decide) dX0_findBelow_67 ?_
    refine g_ior hX dX0_findBelow_68 ?_
    obtain ⟨zj14, zh13, zh15, k⟩ := k
    refine g_iast hX sn11 sh11 zh13 zh15 (by decide) dX0_findBelow_69 ?_
    refine g_iinc (v := x2 + 1) (ls' := [(0, .ref 1), (1, .int x1), (2, .int (x2 + 1))]) hX 2 rfl dX0_findBelow_70 rfl (by decide) rfl ?_
    refine g_goto (tgt := 37) hX dX0_findBelow_73 (by decide) ?_
    exact k
set_option maxRecDepth 4000 in
theorem RX0_findRoute_0 {X : XT} {I : MI} {L : ML} {p : Nat → Nat}  (hX : Cx X cX0_findRoute 4 RX0 wsX0_findRoute rmX0_findRoute)  (k : G X 0 0 7 [(0, .ref 1), (1, .int 0), (2, .int (I 1 0))] [] (HM X I L p)) : G X 0 0 0 [(0, .ref 1)] [] (HM X I L p) := by
  refine g_iconst (v := 0) hX dX0_findRoute_0 (by decide) ?_
  refine g_istore_n (ls' := [(0, .ref 1), (1, .int 0)]) hX dX0_findRoute_1 rfl (by decide) rfl ?_
  refine g_aload_n hX 0 rfl rfl dX0_findRoute_2 ?_
  refine g_getI (k := 0) hX hPW flX0_findRoute_45 sn1 so1 rfl dX0_findRoute_3 ?_
  refine g_istore_n (ls' := [(0, .ref 1), (1, .int 0), (2, .int (I 1 0))]) hX dX0_findRoute_6 rfl (by decide) rfl ?_
  exact k
set_option maxRecDepth 4000 in
theorem RX0_findRoute_7 {X : XT} {I : MI} {L : ML} {p : Nat → Nat}  (hX : Cx X cX0_findRoute 4 RX0 wsX0_findRoute rmX0_findRoute) (x1 : Int32) (x2 : Int32) (k : ((x2 ≤ 0 → Rt X none rmX0_findRoute none (HM X I L p)) ∧ (¬ x2 ≤ 0 → G X 0 0 13 [(0, .ref 1), (1, .int x1), (2, .int x2), (3, .int 0)] [] (HM X I L p)))) : G X 0 0 7 [(0, .ref 1), (1, .int x1), (2, .int x2)] [] (HM X I L p) := by
  refine g_iload_n hX 2 rfl rfl dX0_findRoute_7 ?_
  refine g_if_le (tgt := 67) hX dX0_findRoute_8 (by decide) (fun h => ?_) (fun h => ?_)
  · replace k := k.1 h
    exact g_return hX k rfl rfl dX0_findRoute_67
  · replace k := k.2 h
    refine g_iconst (v := 0) hX dX0_findRoute_11 (by decide) ?_
    refine g_istore_n (ls' := [(0, .ref 1), (1, .int x1), (2, .int x2), (3, .int 0)]) hX dX0_findRoute_12 rfl (by decide) rfl ?_
    exact k
set_option maxRecDepth 4000 in
theorem RX0_findRoute_13 {X : XT} {I : MI} {L : ML} {p : Nat → Nat}  (hX : Cx X cX0_findRoute 4 RX0 wsX0_findRoute rmX0_findRoute) (x1 : Int32) (x2 : Int32) (x3 : Int32) (k : (((I 1 3) ≤ x3 → G X 0 0 7 [(0, .ref 1), (1, .int x1), (2, .int (x2 + (-1)))] [] (HM X I L p)) ∧ (¬ (I 1 3) ≤ x3 → (∃ zj2 : Nat, x3 = nI zj2 ∧ zj2 < 16 ∧ (∃ zj5 : Nat, (I 4 zj2) = nI zj5 ∧ zj5 < 10 ∧ (∃ (zr8 : Int32), Ct (xE X) (xl X) yJ6_bitCount_0f7a4 wsJ6_bitCount_0f7a4 rmJ6_bitCount_0f7a4 [.int (I 11 zj5)] (HM X I L p) (some (.int zr8)) (HM X I L p) ∧ ((¬ zr8 = x2 → G X 0 0 13 [(0, .ref 1), (1, .int x1), (2, .int x2), (3, .int (x3 + 1))] [] (HM X I L p)) ∧ (zr8 = x2 → ((16 ≤ x1 → G X 0 0 13 [(0, .ref 1), (1, .int x1), (2, .int x2), (3, .int (x3 + 1))] [] (HM X I L p)) ∧ (¬ 16 ≤ x1 → (∃ zj10 : Nat, x1 = nI zj10 ∧ zj10 < 16 ∧ G X 0 0 13 [(0, .ref 1), (1, .int (x1 + 1)), (2, .int x2), (3, .int (x3 + 1))] [] (HM X (upI I 12 zj10 x3) L p)))))))))))) : G X 0 0 13 [(0, .ref 1), (1, .int x1), (2, .int x2), (3, .int x3)] [] (HM X I L p) := by
  refine g_iload_n hX 3 rfl rfl dX0_findRoute_13 ?_
  refine g_aload_n hX 0 rfl rfl dX0_findRoute_14 ?_
  refine g_getI (k := 3) hX hPW flX0_findRoute_53 sn1 so1 rfl dX0_findRoute_15 ?_
  refine g_icmp_ge (tgt := 61) hX dX0_findRoute_18 (by decide) (fun h => ?_) (fun h => ?_)
  · replace k := k.1 h
    refine g_iinc (v := x2 + (-1)) (ls' := [(0, .ref 1), (1, .int x1), (2, .int (x2 + (-1))), (3, .int x3)]) hX 2 rfl dX0_findRoute_61 rfl (by decide) rfl ?_
    refine g_goto (tgt := 7) hX dX0_findRoute_64 (by decide) ?_
    refine G.pick (ks := [0, 1, 2]) (ls' := [(0, .ref 1), (1, .int x1), (2, .int (x2 + (-1)))]) rfl ?_
    exact k
  · replace k := k.2 h
    refine g_aload_n hX 0 rfl rfl dX0_findRoute_21 ?_
    refine g_getR (k := 12) (r' := 11) hX hPW flX0_findRoute_39 sn1 so1 rfl (k1_12 _) dX0_findRoute_22 ?_
    refine g_aload_n hX 0 rfl rfl dX0_findRoute_25 ?_
    refine g_getR (k := 4) (r' := 4) hX hPW flX0_findRoute_18 sn1 so1 rfl (k1_4 _) dX0_findRoute_26 ?_
    refine g_iload_n hX 3 rfl rfl dX0_findRoute_29 ?_
    obtain ⟨zj2, zh1, zh3, k⟩ := k
    refine g_iald hX hPW sn4 sh4 zh1 zh3 (by decide) dX0_findRoute_30 ?_
    obtain ⟨zj5, zh4, zh6, k⟩ := k
    refine g_iald hX hPW sn11 sh11 zh4 zh6 (by decide) dX0_findRoute_31 ?_
    obtain ⟨zr8, zhc7, k⟩ := k
    refine g_callS (cs' := 0) (sl' := 0) (as := [.int (I 11 zj5)]) (st := []) hX zhc7 gX0_findRoute_J6_bitCount_0f7a4 rfl rfl ydJ6_bitCount_0f7a4 (by decide) (Nat.le_of_ble_eq_true rfl) (by decide) dX0_findRoute_32 rfl rfl ?_
    refine g_iload_n hX 2 rfl rfl dX0_findRoute_35 ?_
    refine g_icmp_ne (tgt := 55) hX dX0_findRoute_36 (by decide) (fun h => ?_) (fun h => ?_)
    · replace k := k.1 h
      refine g_iinc (v := x3 + 1) (ls' := [(0, .ref 1), (1, .int x1), (2, .int x2), (3, .int (x3 + 1))]) hX 3 rfl dX0_findRoute_55 rfl (by decide) rfl ?_
      refine g_goto (tgt := 13) hX dX0_findRoute_58 (by decide) ?_
      exact k
    · replace k := k.2 h
      refine g_iload_n hX 1 rfl rfl dX0_findRoute_39 ?_
      refine g_bipush (v := 16) hX dX0_findRoute_40 (by decide) ?_
      refine g_icmp_ge (tgt := 55) hX dX0_findRoute_42 (by decide) (fun h => ?_) (fun h => ?_)
      · replace k := k.1 h
        refine g_iinc (v := x3 + 1) (ls' := [(0, .ref 1), (1, .int x1), (2, .int x2), (3, .int (x3 + 1))]) hX 3 rfl dX0_findRoute_55 rfl (by decide) rfl ?_
        refine g_goto (tgt := 13) hX dX0_findRoute_58 (by decide) ?_
        exact k
      · replace k := k.2 h
        refine g_aload_n hX 0 rfl rfl dX0_findRoute_45 ?_
        refine g_getR (k := 13) (r' := 12) hX hPW flX0_findRoute_42 sn1 so1 rfl (k1_13 _) dX0_findRoute_46 ?_
        refine g_iload_n hX 1 rfl rfl dX0_findRoute_49 ?_
        refine g_iload_n hX 3 rfl rfl dX0_findRoute_50 ?_
        obtain ⟨zj10, zh9, zh11, k⟩ := k
        refine g_iast hX sn12 sh12 zh9 zh11 (by decide) dX0_findRoute_51 ?_
        refine g_iinc (v := x1 + 1) (ls' := [(0, .ref 1), (1, .int (x1 + 1)), (2, .int x2), (3, .int x3)]) hX 1 rfl dX0_findRoute_52 rfl (by decide) rfl ?_
        refine g_iinc (v := x3 + 1) (ls' := [(0, .ref 1), (1, .int (x1 + 1)), (2, .int x2), (3, .int (x3 + 1))]) hX 3 rfl dX0_findRoute_55 rfl (by decide) rfl ?_
        refine g_goto (tgt := 13) hX dX0_findRoute_58 (by decide) ?_
        exact k
set_option maxRecDepth 4000 in
theorem RX0_pumped_0 {X : XT} {I : MI} {L : ML} {p : Nat → Nat}  (hX : Cx X cX0_pumped 8 RX0 wsX0_pumped rmX0_pumped) (x0 : Int64) (x2 : Int32) (k : ((1 ≤ x2 → G X 0 0 14 [(0, .long x0), (2, .int x2), (3, .long (x0 &&& 1)), (5, .int x2)] [] (HM X I L p)) ∧ (¬ 1 ≤ x2 → Rt X (some .long) rmX0_pumped (some (.long 0)) (HM X I L p)))) : G X 0 0 0 [(0, .long x0), (2, .int x2)] [] (HM X I L p) := by
  refine g_iload_n hX 1 rfl rfl dX0_pumped_0 ?_
  refine g_iconst (v := 1) hX dX0_pumped_1 (by decide) ?_
  refine g_icmp_ge (tgt := 7) hX dX0_pumped_2 (by decide) (fun h => ?_) (fun h => ?_)
  · replace k := k.1 h
    refine g_lload_n hX 0 rfl rfl dX0_pumped_7 ?_
    refine g_lconst (v := 1) hX dX0_pumped_8 (by decide) ?_
    refine g_land hX dX0_pumped_9 ?_
    refine g_lstore_n (ls' := [(0, .long x0), (2, .int x2), (3, .long (x0 &&& 1))]) hX dX0_pumped_10 rfl (by decide) rfl ?_
    refine g_iload_n hX 1 rfl rfl dX0_pumped_11 ?_
    refine g_istore (ls' := [(0, .long x0), (2, .int x2), (3, .long (x0 &&& 1)), (5, .int x2)]) hX dX0_pumped_12 (by decide) rfl ?_
    exact k
  · replace k := k.2 h
    refine g_lconst (v := 0) hX dX0_pumped_5 (by decide) ?_
    exact g_lreturn hX k rfl rfl dX0_pumped_6
set_option maxRecDepth 4000 in
theorem RX0_pumped_14 {X : XT} {I : MI} {L : ML} {p : Nat → Nat}  (hX : Cx X cX0_pumped 8 RX0 wsX0_pumped rmX0_pumped) (x0 : Int64) (x2 : Int32) (x3 : Int64) (x5 : Int32) (k : ((62 < x5 → Rt X (some .long) rmX0_pumped (some (.long x3)) (HM X I L p)) ∧ (¬ 62 < x5 → (((jcmp (x0 &&& (jlshl ((jlshl 1 x2) - 1) ((x5 - x2) + 1))) 0) = 0 → G X 0 0 14 [(0, .long x0), (2, .int x2), (3, .long x3), (5, .int (x5 + x2))] [] (HM X I L p)) ∧ (¬ (jcmp (x0 &&& (jlshl ((jlshl 1 x2) - 1) ((x5 - x2) + 1))) 0) = 0 → G X 0 0 14 [(0, .long x0), (2, .int x2), (3, .long (x3 ||| (jlshl 1 x5))), (5, .int (x5 + x2))] [] (HM X I L p)))))) : G X 0 0 14 [(0, .long x0), (2, .int x2), (3, .long x3), (5, .int x5)] [] (HM X I L p) := by
  refine g_iload hX 3 rfl dX0_pumped_14 ?_
  refine g_bipush (v := 62) hX dX0_pumped_16 (by decide) ?_
  refine g_icmp_gt (tgt := 60) hX dX0_pumped_18 (by decide) (fun h => ?_) (fun h => ?_)
  · replace k := k.1 h
    refine g_lload_n hX 2 rfl rfl dX0_pumped_60 ?_
    exact g_lreturn hX k rfl rfl dX0_pumped_61
  · replace k := k.2 h
    refine g_lconst (v := 1) hX dX0_pumped_21 (by decide) ?_
    refine g_iload_n hX 1 rfl rfl dX0_pumped_22 ?_
    refine g_lshl hX dX0_pumped_23 ?_
    refine g_lconst (v := 1) hX dX0_pumped_24 (by decide) ?_
    refine g_lsub hX dX0_pumped_25 ?_
    refine g_iload hX 3 rfl dX0_pumped_26 ?_
    refine g_iload_n hX 1 rfl rfl dX0_pumped_28 ?_
    refine g_isub hX dX0_pumped_29 ?_
    refine g_iconst (v := 1) hX dX0_pumped_30 (by decide) ?_
    refine g_iadd hX dX0_pumped_31 ?_
    refine g_lshl hX dX0_pumped_32 ?_
    refine g_lstore (ls' := [(0, .long x0), (2, .int x2), (3, .long x3), (5, .int x5), (6, .long (jlshl ((jlshl 1 x2) - 1) ((x5 - x2) + 1)))]) hX dX0_pumped_33 (by decide) rfl ?_
    refine g_lload_n hX 0 rfl rfl dX0_pumped_35 ?_
    refine g_lload hX 4 rfl dX0_pumped_36 ?_
    refine g_land hX dX0_pumped_38 ?_
    refine g_lconst (v := 0) hX dX0_pumped_39 (by decide) ?_
    refine g_lcmp hX dX0_pumped_40 ?_
    refine g_if_eq (tgt := 51) hX dX0_pumped_41 (by decide) (fun h => ?_) (fun h => ?_)
    · replace k := k.1 h
      refine g_iload hX 3 rfl dX0_pumped_51 ?_
      refine g_iload_n hX 1 rfl rfl dX0_pumped_53 ?_
      refine g_iadd hX dX0_pumped_54 ?_
      refine g_istore (ls' := [(0, .long x0), (2, .int x2), (3, .long x3), (5, .int (x5 + x2)), (6, .long (jlshl ((jlshl 1 x2) - 1) ((x5 - x2) + 1)))]) hX dX0_pumped_55 (by decide) rfl ?_
      refine g_goto (tgt := 14) hX dX0_pumped_57 (by decide) ?_
      refine G.pick (ks := [0, 1, 2, 3]) (ls' := [(0, .long x0), (2, .int x2), (3, .long x3), (5, .int (x5 + x2))]) rfl ?_
      exact k
    · replace k := k.2 h
      refine g_lload_n hX 2 rfl rfl dX0_pumped_44 ?_
      refine g_lconst (v := 1) hX dX0_pumped_45 (by decide) ?_
      refine g_iload hX 3 rfl dX0_pumped_46 ?_
      refine g_lshl hX dX0_pumped_48 ?_
      refine g_lor hX dX0_pumped_49 ?_
      refine g_lstore_n (ls' := [(0, .long x0), (2, .int x2), (3, .long (x3 ||| (jlshl 1 x5))), (5, .int x5), (6, .long (jlshl ((jlshl 1 x2) - 1) ((x5 - x2) + 1)))]) hX dX0_pumped_50 rfl (by decide) rfl ?_
      refine g_iload hX 3 rfl dX0_pumped_51 ?_
      refine g_iload_n hX 1 rfl rfl dX0_pumped_53 ?_
      refine g_iadd hX dX0_pumped_54 ?_
      refine g_istore (ls' := [(0, .long x0), (2, .int x2), (3, .long (x3 ||| (jlshl 1 x5))), (5, .int (x5 + x2)), (6, .long (jlshl ((jlshl 1 x2) - 1) ((x5 - x2) + 1)))]) hX dX0_pumped_55 (by decide) rfl ?_
      refine g_goto (tgt := 14) hX dX0_pumped_57 (by decide) ?_
      refine G.pick (ks := [0, 1, 2, 3]) (ls' := [(0, .long x0), (2, .int x2), (3, .long (x3 ||| (jlshl 1 x5))), (5, .int (x5 + x2))]) rfl ?_
      exact k
set_option maxRecDepth 4000 in
theorem RX0_isKind_0 {X : XT} {I : MI} {L : ML} {p : Nat → Nat}  (hX : Cx X cX0_isKind 1 RX0 wsX0_isKind rmX0_isKind) (x0 : Int32) (k : (∃ (zr2 : Int32), Ct (xE X) (xl X) yX5_within wsX5_within rmX5_within [.int x0, .int 0, .int 4] (HM X I L p) (some (.int zr2)) (HM X I L p) ∧ ((zr2 = 0 ∨ zr2 = 1) ∧ Rt X (some .boolean) rmX0_isKind (some (.int zr2)) (HM X I L p)))) : G X 0 0 0 [(0, .int x0)] [] (HM X I L p) := by
  refine g_iload_n hX 0 rfl rfl dX0_isKind_0 ?_
  refine g_iconst (v := 0) hX dX0_isKind_1 (by decide) ?_
  refine g_iconst (v := 4) hX dX0_isKind_2 (by decide) ?_
  obtain ⟨zr2, zhc1, k⟩ := k
  refine g_callSN (cs' := 0) (sl' := 0) (as := [.int x0, .int 0, .int 4]) (st := []) hX zhc1 gX0_isKind_X5_within_n49 (by decide +kernel) (by decide +kernel) (by decide +kernel) rfl rfl ydX5_within (by decide) (Nat.le_of_ble_eq_true rfl) (by decide) dX0_isKind_3 rfl rfl ?_
  exact g_zreturn hX k.2 k.1 rfl rfl dX0_isKind_6
set_option maxRecDepth 4000 in
theorem RX0_isPace_0 {X : XT} {I : MI} {L : ML} {p : Nat → Nat}  (hX : Cx X cX0_isPace 1 RX0 wsX0_isPace rmX0_isPace) (x0 : Int32) (k : (∃ (zr2 : Int32), Ct (xE X) (xl X) yX5_within wsX5_within rmX5_within [.int x0, .int 1, .int 15] (HM X I L p) (some (.int zr2)) (HM X I L p) ∧ ((zr2 = 0 ∨ zr2 = 1) ∧ Rt X (some .boolean) rmX0_isPace (some (.int zr2)) (HM X I L p)))) : G X 0 0 0 [(0, .int x0)] [] (HM X I L p) := by
  refine g_iload_n hX 0 rfl rfl dX0_isPace_0 ?_
  refine g_iconst (v := 1) hX dX0_isPace_1 (by decide) ?_
  refine g_bipush (v := 15) hX dX0_isPace_2 (by decide) ?_
  obtain ⟨zr2, zhc1, k⟩ := k
  refine g_callSN (cs' := 0) (sl' := 0) (as := [.int x0, .int 1, .int 15]) (st := []) hX zhc1 gX0_isPace_X5_within_n49 (by decide +kernel) (by decide +kernel) (by decide +kernel) rfl rfl ydX5_within (by decide) (Nat.le_of_ble_eq_true rfl) (by decide) dX0_isPace_4 rfl rfl ?_
  exact g_zreturn hX k.2 k.1 rfl rfl dX0_isPace_7
set_option maxRecDepth 4000 in
theorem RX0_copyRow_0 {X : XT} {I : MI} {L : ML} {p : Nat → Nat} {a b na nb : Nat} (ha : a < 106) (hb : b < 106) (hsa : shp a = (7, na)) (hsb : shp b = (7, nb)) (hX : Cx X cX0_copyRow 2 RX0 wsX0_copyRow rmX0_copyRow)  (k : ¬ (0 : Int32) < 0 ∧ ¬ (0 : Int32) < 0 ∧ ¬ ((if (nI nb) < (nI na) then nI nb else nI na : Int32) : Int32) < 0 ∧ (0 : Int32).toNatClampNeg + ((if (nI nb) < (nI na) then nI nb else nI na : Int32) : Int32).toNatClampNeg ≤ na ∧ (0 : Int32).toNatClampNeg + ((if (nI nb) < (nI na) then nI nb else nI na : Int32) : Int32).toNatClampNeg ≤ nb ∧ Rt X none rmX0_copyRow none (HM X (fun q j => if q = b then va_cpy (I a) (I b) (0 : Int32).toNatClampNeg (0 : Int32).toNatClampNeg ((if (nI nb) < (nI na) then nI nb else nI na : Int32) : Int32).toNatClampNeg j else I q j) L p)) : G X 0 0 0 [(0, .ref a), (1, .ref b)] [] (HM X I L p) := by
  refine g_aload_n hX 0 rfl rfl dX0_copyRow_0 ?_
  refine g_iconst (v := 0) hX dX0_copyRow_1 (by decide) ?_
  refine g_aload_n hX 1 rfl rfl dX0_copyRow_2 ?_
  refine g_iconst (v := 0) hX dX0_copyRow_3 (by decide) ?_
  refine g_aload_n hX 0 rfl rfl dX0_copyRow_4 ?_
  refine g_alenI hX hPW ha hsa dX0_copyRow_5 ?_
  refine g_aload_n hX 1 rfl rfl dX0_copyRow_6 ?_
  refine g_alenI hX hPW hb hsb dX0_copyRow_7 ?_
  refine g_mmin hX (by decide +kernel) (by decide +kernel) (by decide +kernel) (by decide +kernel) (by decide) (Nat.le_of_ble_eq_true rfl) (by decide) (by decide) dX0_copyRow_8 ?_
  obtain ⟨h1, h2, h3, h4, h5, k⟩ := k
  refine g_copyi hX (by decide +kernel) (by decide +kernel) (by decide +kernel) (by decide +kernel) ha hb hsa hsb h1 h2 h3 h4 h5 (by decide) (Nat.le_of_ble_eq_true rfl) dX0_copyRow_11 ?_
  exact g_return hX k rfl rfl dX0_copyRow_14
set_option maxRecDepth 4000 in
theorem RX1_outdate_0 {X : XT} {I : MI} {L : ML} {p : Nat → Nat}  (hX : Cx X cX1_outdate 1 RX1 wsX1_outdate rmX1_outdate)  (k : Rt X none rmX1_outdate none (HM X (upI I 87 2 0) L p)) : G X 0 0 0 [(0, .ref 87)] [] (HM X I L p) := by
  refine g_aload_n hX 0 rfl rfl dX1_outdate_0 ?_
  refine g_iconst (v := 0) hX dX1_outdate_1 (by decide) ?_
  refine g_putI (k := 2) hX fpX1_outdate_19 sn87 so87 rfl rfl rfl dX1_outdate_2 ?_
  exact g_return hX k rfl rfl dX1_outdate_5
set_option maxRecDepth 4000 in
theorem RX1_walk_0 {X : XT} {I : MI} {L : ML} {p : Nat → Nat}  (hX : Cx X cX1_walk 7 RX1 wsX1_walk rmX1_walk) (x2 : Int32) (x3 : Int32) (k : (∃ (zL2 : ML), Ct (xE X) (xl X) yJ7_fill_d0a16 wsJ7_fill_d0a16 rmJ7_fill_d0a16 [.ref 88, .long 0] (HM X I L p) none (HM X I zL2 p) ∧ (∃ zj4 : Nat, x2 = nI zj4 ∧ zj4 < 10 ∧ G X 0 0 20 [(0, .ref 87), (1, .ref 1), (2, .int x2), (3, .int x3), (4, .int 0)] [] (HM X I (upL zL2 88 zj4 (jlshl 1 x3)) p)))) : G X 0 0 0 [(0, .ref 87), (1, .ref 1), (2, .int x2), (3, .int x3)] [] (HM X I L p) := by
  refine g_aload_n hX 0 rfl rfl dX1_walk_0 ?_
  refine g_getR (k := 0) (r' := 88) hX hPW flX1_walk_9 sn87 so87 rfl (k87_0 _) dX1_walk_1 ?_
  refine g_lconst (v := 0) hX dX1_walk_4 (by decide) ?_
  obtain ⟨zL2, zhc1, k⟩ := k
  refine g_callS (cs' := 0) (sl' := 0) (as := [.ref 88, .long 0]) (st := []) hX zhc1 gX1_walk_J7_fill_d0a16 rfl rfl ydJ7_fill_d0a16 (by decide) (Nat.le_of_ble_eq_true rfl) (by decide) dX1_walk_5 rfl rfl ?_
  refine g_aload_n hX 0 rfl rfl dX1_walk_8 ?_
  refine g_getR (k := 0) (r' := 88) hX hPW flX1_walk_9 sn87 so87 rfl (k87_0 _) dX1_walk_9 ?_
  refine g_iload_n hX 2 rfl rfl dX1_walk_12 ?_
  refine g_lconst (v := 1) hX dX1_walk_13 (by decide) ?_
  refine g_iload_n hX 3 rfl rfl dX1_walk_14 ?_
  refine g_lshl hX dX1_walk_15 ?_
  obtain ⟨zj4, zh3, zh5, k⟩ := k
  refine g_last hX sn88 sh88 zh3 zh5 (by decide) dX1_walk_16 ?_
  refine g_iconst (v := 0) hX dX1_walk_17 (by decide) ?_
  refine g_istore (ls' := [(0, .ref 87), (1, .ref 1), (2, .int x2), (3, .int x3), (4, .int 0)]) hX dX1_walk_18 (by decide) rfl ?_
  exact k
set_option maxRecDepth 4000 in
theorem RX1_walk_20 {X : XT} {I : MI} {L : ML} {p : Nat → Nat}  (hX : Cx X cX1_walk 7 RX1 wsX1_walk rmX1_walk) (x2 : Int32) (x3 : Int32) (x4 : Int32) (k : (((I 1 3) ≤ x4 → Rt X none rmX1_walk none (HM X I L p)) ∧ (¬ (I 1 3) ≤ x4 → (∃ zj2 : Nat, x4 = nI zj2 ∧ zj2 < 16 ∧ (∃ zj5 : Nat, (I 12 zj2) = nI zj5 ∧ zj5 < 16 ∧ (∃ zj8 : Nat, (I 4 zj5) = nI zj8 ∧ zj8 < 10 ∧ (((jcmp (L 88 zj8) 0) = 0 → G X 0 0 20 [(0, .ref 87), (1, .ref 1), (2, .int x2), (3, .int x3), (4, .int (x4 + 1))] [] (HM X I L p)) ∧ (¬ (jcmp (L 88 zj8) 0) = 0 → (∃ zj11 : Nat, (I 12 zj2) = nI zj11 ∧ zj11 < 16 ∧ (∃ zj14 : Nat, (I 5 zj11) = nI zj14 ∧ zj14 < 10 ∧ (∃ zj17 : Nat, (I 4 zj5) = nI zj17 ∧ zj17 < 10 ∧ (∃ (zr20 : Int64), Ct (xE X) (xl X) yX0_leaving wsX0_leaving rmX0_leaving [.ref 1, .int (I 4 zj5), .long (L 88 zj17)] (HM X I L p) (some (.long zr20)) (HM X I L p) ∧ (∃ (zr22 : Int64), Ct (xE X) (xl X) yX0_brought wsX0_brought rmX0_brought [.ref 1, .int (I 12 zj2), .long zr20] (HM X I L p) (some (.long zr22)) (HM X I L p) ∧ (∃ zj24 : Nat, (I 5 zj11) = nI zj24 ∧ zj24 < 10 ∧ G X 0 0 20 [(0, .ref 87), (1, .ref 1), (2, .int x2), (3, .int x3), (4, .int (x4 + 1))] [] (HM X I (upL L 88 zj24 ((L 88 zj14) ||| zr22)) p))))))))))))))) : G X 0 0 20 [(0, .ref 87), (1, .ref 1), (2, .int x2), (3, .int x3), (4, .int x4)] [] (HM X I L p) := by
  refine g_iload hX 4 rfl dX1_walk_20 ?_
  refine g_aload_n hX 1 rfl rfl dX1_walk_22 ?_
  refine g_getI (k := 3) hX hPW flX1_walk_29 sn1 so1 rfl dX1_walk_23 ?_
  refine g_icmp_ge (tgt := 99) hX dX1_walk_26 (by decide) (fun h => ?_) (fun h => ?_)
  · replace k := k.1 h
    exact g_return hX k rfl rfl dX1_walk_99
  · replace k := k.2 h
    refine g_aload_n hX 1 rfl rfl dX1_walk_29 ?_
    refine g_getR (k := 13) (r' := 12) hX hPW flX1_walk_34 sn1 so1 rfl (k1_13 _) dX1_walk_30 ?_
    refine g_iload hX 4 rfl dX1_walk_33 ?_
    obtain ⟨zj2, zh1, zh3, k⟩ := k
    refine g_iald hX hPW sn12 sh12 zh1 zh3 (by decide) dX1_walk_35 ?_
    refine g_istore (ls' := [(0, .ref 87), (1, .ref 1), (2, .int x2), (3, .int x3), (4, .int x4), (5, .int (I 12 zj2))]) hX dX1_walk_36 (by decide) rfl ?_
    refine g_aload_n hX 1 rfl rfl dX1_walk_38 ?_
    refine g_getR (k := 4) (r' := 4) hX hPW flX1_walk_37 sn1 so1 rfl (k1_4 _) dX1_walk_39 ?_
    refine g_iload hX 5 rfl dX1_walk_42 ?_
    obtain ⟨zj5, zh4, zh6, k⟩ := k
    refine g_iald hX hPW sn4 sh4 zh4 zh6 (by decide) dX1_walk_44 ?_
    refine g_istore (ls' := [(0, .ref 87), (1, .ref 1), (2, .int x2), (3, .int x3), (4, .int x4), (5, .int (I 12 zj2)), (6, .int (I 4 zj5))]) hX dX1_walk_45 (by decide) rfl ?_
    refine g_aload_n hX 0 rfl rfl dX1_walk_47 ?_
    refine g_getR (k := 0) (r' := 88) hX hPW flX1_walk_9 sn87 so87 rfl (k87_0 _) dX1_walk_48 ?_
    refine g_iload hX 6 rfl dX1_walk_51 ?_
    obtain ⟨zj8, zh7, zh9, k⟩ := k
    refine g_lald hX hPW sn88 sh88 zh7 zh9 (by decide) dX1_walk_53 ?_
    refine g_lconst (v := 0) hX dX1_walk_54 (by decide) ?_
    refine g_lcmp hX dX1_walk_55 ?_
    refine g_if_eq (tgt := 93) hX dX1_walk_56 (by decide) (fun h => ?_) (fun h => ?_)
    · replace k := k.1 h
      refine g_iinc (v := x4 + 1) (ls' := [(0, .ref 87), (1, .ref 1), (2, .int x2), (3, .int x3), (4, .int (x4 + 1)), (5, .int (I 12 zj2)), (6, .int (I 4 zj5))]) hX 4 rfl dX1_walk_93 rfl (by decide) rfl ?_
      refine g_goto (tgt := 20) hX dX1_walk_96 (by decide) ?_
      refine G.pick (ks := [0, 1, 2, 3, 4]) (ls' := [(0, .ref 87), (1, .ref 1), (2, .int x2), (3, .int x3), (4, .int (x4 + 1))]) rfl ?_
      exact k
    · replace k := k.2 h
      refine g_aload_n hX 0 rfl rfl dX1_walk_59 ?_
      refine g_getR (k := 0) (r' := 88) hX hPW flX1_walk_9 sn87 so87 rfl (k87_0 _) dX1_walk_60 ?_
      refine g_aload_n hX 1 rfl rfl dX1_walk_63 ?_
      refine g_getR (k := 5) (r' := 5) hX hPW flX1_walk_40 sn1 so1 rfl (k1_5 _) dX1_walk_64 ?_
      refine g_iload hX 5 rfl dX1_walk_67 ?_
      obtain ⟨zj11, zh10, zh12, k⟩ := k
      refine g_iald hX hPW sn5 sh5 zh10 zh12 (by decide) dX1_walk_69 ?_
      refine g_dup2 hX dX1_walk_70 rfl rfl ?_
      obtain ⟨zj14, zh13, zh15, k⟩ := k
      refine g_lald hX hPW sn88 sh88 zh13 zh15 (by decide) dX1_walk_71 ?_
      refine g_aload_n hX 1 rfl rfl dX1_walk_72 ?_
      refine g_iload hX 5 rfl dX1_walk_73 ?_
      refine g_aload_n hX 1 rfl rfl dX1_walk_75 ?_
      refine g_iload hX 6 rfl dX1_walk_76 ?_
      refine g_aload_n hX 0 rfl rfl dX1_walk_78 ?_
      refine g_getR (k := 0) (r' := 88) hX hPW flX1_walk_9 sn87 so87 rfl (k87_0 _) dX1_walk_79 ?_
      refine g_iload hX 6 rfl dX1_walk_82 ?_
      obtain ⟨zj17, zh16, zh18, k⟩ := k
      refine g_lald hX hPW sn88 sh88 zh16 zh18 (by decide) dX1_walk_84 ?_
      obtain ⟨zr20, zhc19, k⟩ := k
      refine g_callV (cs' := 0) (sl' := 0) (C := RX0) (as := [.int (I 4 zj5), .long (L 88 zj17)]) (st := [.int (I 12 zj2), .ref 1, .long (L 88 zj14), .int (I 5 zj11), .ref 88]) hX zhc19 hPW sn1 so1 rfl gX1_walk_X0_leaving rfl rfl rfl ydX0_leaving (by decide) (Nat.le_of_ble_eq_true rfl) (by decide) dX1_walk_85 rfl rfl ?_
      obtain ⟨zr22, zhc21, k⟩ := k
      refine g_callV (cs' := 0) (sl' := 0) (C := RX0) (as := [.int (I 12 zj2), .long zr20]) (st := [.long (L 88 zj14), .int (I 5 zj11), .ref 88]) hX zhc21 hPW sn1 so1 rfl gX1_walk_X0_brought rfl rfl rfl ydX0_brought (by decide) (Nat.le_of_ble_eq_true rfl) (by decide) dX1_walk_88 rfl rfl ?_
      refine g_lor hX dX1_walk_91 ?_
      obtain ⟨zj24, zh23, zh25, k⟩ := k
      refine g_last hX sn88 sh88 zh23 zh25 (by decide) dX1_walk_92 ?_
      refine g_iinc (v := x4 + 1) (ls' := [(0, .ref 87), (1, .ref 1), (2, .int x2), (3, .int x3), (4, .int (x4 + 1)), (5, .int (I 12 zj2)), (6, .int (I 4 zj5))]) hX 4 rfl dX1_walk_93 rfl (by decide) rfl ?_
      refine g_goto (tgt := 20) hX dX1_walk_96 (by decide) ?_
      refine G.pick (ks := [0, 1, 2, 3, 4]) (ls' := [(0, .ref 87), (1, .ref 1), (2, .int x2), (3, .int x3), (4, .int (x4 + 1))]) rfl ?_
      exact k
set_option maxRecDepth 4000 in
theorem RX1_agrees_0 {X : XT} {I : MI} {L : ML} {p : Nat → Nat}  (hX : Cx X cX1_agrees 3 RX1 wsX1_agrees rmX1_agrees)  (k : G X 0 0 2 [(0, .ref 87), (1, .ref 1), (2, .int 0)] [] (HM X I L p)) : G X 0 0 0 [(0, .ref 87), (1, .ref 1)] [] (HM X I L p) := by
  refine g_iconst (v := 0) hX dX1_agrees_0 (by decide) ?_
  refine g_istore_n (ls' := [(0, .ref 87), (1, .ref 1), (2, .int 0)]) hX dX1_agrees_1 rfl (by decide) rfl ?_
  exact k
set_option maxRecDepth 4000 in
theorem RX1_agrees_2 {X : XT} {I : MI} {L : ML} {p : Nat → Nat}  (hX : Cx X cX1_agrees 3 RX1 wsX1_agrees rmX1_agrees) (x2 : Int32) (k : (((I 1 8) ≤ x2 → Rt X (some .boolean) rmX1_agrees (some (.int 1)) (HM X I L p)) ∧ (¬ (I 1 8) ≤ x2 → (∃ (zr2 : Int32), Ct (xE X) (xl X) yX1_agreesWith wsX1_agreesWith rmX1_agreesWith [.ref 87, .ref 1, .int x2] (HM X I L p) (some (.int zr2)) (HM X I L p) ∧ ((¬ zr2 = 0 → G X 0 0 2 [(0, .ref 87), (1, .ref 1), (2, .int (x2 + 1))] [] (HM X I L p)) ∧ (zr2 = 0 → Rt X (some .boolean) rmX1_agrees (some (.int 0)) (HM X I L p))))))) : G X 0 0 2 [(0, .ref 87), (1, .ref 1), (2, .int x2)] [] (HM X I L p) := by
  refine g_iload_n hX 2 rfl rfl dX1_agrees_2 ?_
  refine g_aload_n hX 1 rfl rfl dX1_agrees_3 ?_
  refine g_getI (k := 8) hX hPW flX1_agrees_50 sn1 so1 rfl dX1_agrees_4 ?_
  refine g_icmp_ge (tgt := 27) hX dX1_agrees_7 (by decide) (fun h => ?_) (fun h => ?_)
  · replace k := k.1 h
    refine g_iconst (v := 1) hX dX1_agrees_27 (by decide) ?_
    exact g_zreturn hX k (by decide) rfl rfl dX1_agrees_28
  · replace k := k.2 h
    refine g_aload_n hX 0 rfl rfl dX1_agrees_10 ?_
    refine g_aload_n hX 1 rfl rfl dX1_agrees_11 ?_
    refine g_iload_n hX 2 rfl rfl dX1_agrees_12 ?_
    obtain ⟨zr2, zhc1, k⟩ := k
    refine g_callV (cs' := 0) (sl' := 0) (C := RX1) (as := [.ref 1, .int x2]) (st := []) hX zhc1 hPW sn87 so87 rfl gX1_agrees_X1_agreesWith rfl rfl rfl ydX1_agreesWith (by decide) (Nat.le_of_ble_eq_true rfl) (by decide) dX1_agrees_13 rfl rfl ?_
    refine g_if_ne (tgt := 21) hX dX1_agrees_16 (by decide) (fun h => ?_) (fun h => ?_)
    · replace k := k.1 h
      refine g_iinc (v := x2 + 1) (ls' := [(0, .ref 87), (1, .ref 1), (2, .int (x2 + 1))]) hX 2 rfl dX1_agrees_21 rfl (by decide) rfl ?_
      refine g_goto (tgt := 2) hX dX1_agrees_24 (by decide) ?_
      exact k
    · replace k := k.2 h
      refine g_iconst (v := 0) hX dX1_agrees_19 (by decide) ?_
      exact g_zreturn hX k (by decide) rfl rfl dX1_agrees_20
set_option maxRecDepth 4000 in
theorem RX1_startsAt_0 {X : XT} {I : MI} {L : ML} {p : Nat → Nat}  (hX : Cx X cX1_startsAt 5 RX1 wsX1_startsAt rmX1_startsAt) (x2 : Int32) (k : ((¬ ((jshr (I 87 2) x2) &&& 1) = 1 → G X 0 0 24 [(0, .ref 87), (1, .ref 1), (2, .int x2), (3, .int 0), (4, .int 0)] [] (HM X I L p)) ∧ (((jshr (I 87 2) x2) &&& 1) = 1 → (∃ zj2 : Nat, x2 = nI zj2 ∧ zj2 < 10 ∧ Rt X (some .int) rmX1_startsAt (some (.int (I 89 zj2))) (HM X I L p))))) : G X 0 0 0 [(0, .ref 87), (1, .ref 1), (2, .int x2)] [] (HM X I L p) := by
  refine g_aload_n hX 0 rfl rfl dX1_startsAt_0 ?_
  refine g_getI (k := 2) hX hPW flX1_startsAt_19 sn87 so87 rfl dX1_startsAt_1 ?_
  refine g_iload_n hX 2 rfl rfl dX1_startsAt_4 ?_
  refine g_ishr hX dX1_startsAt_5 ?_
  refine g_iconst (v := 1) hX dX1_startsAt_6 (by decide) ?_
  refine g_iand hX dX1_startsAt_7 ?_
  refine g_iconst (v := 1) hX dX1_startsAt_8 (by decide) ?_
  refine g_icmp_ne (tgt := 19) hX dX1_startsAt_9 (by decide) (fun h => ?_) (fun h => ?_)
  · replace k := k.1 h
    refine g_iconst (v := 0) hX dX1_startsAt_19 (by decide) ?_
    refine g_istore_n (ls' := [(0, .ref 87), (1, .ref 1), (2, .int x2), (3, .int 0)]) hX dX1_startsAt_20 rfl (by decide) rfl ?_
    refine g_iconst (v := 0) hX dX1_startsAt_21 (by decide) ?_
    refine g_istore (ls' := [(0, .ref 87), (1, .ref 1), (2, .int x2), (3, .int 0), (4, .int 0)]) hX dX1_startsAt_22 (by decide) rfl ?_
    exact k
  · replace k := k.2 h
    refine g_aload_n hX 0 rfl rfl dX1_startsAt_12 ?_
    refine g_getR (k := 1) (r' := 89) hX hPW flX1_startsAt_15 sn87 so87 rfl (k87_1 _) dX1_startsAt_13 ?_
    refine g_iload_n hX 2 rfl rfl dX1_startsAt_16 ?_
    obtain ⟨zj2, zh1, zh3, k⟩ := k
    refine g_iald hX hPW sn89 sh89 zh1 zh3 (by decide) dX1_startsAt_17 ?_
    exact g_ireturn hX k rfl rfl dX1_startsAt_18
set_option maxRecDepth 4000 in
theorem RX1_startsAt_24 {X : XT} {I : MI} {L : ML} {p : Nat → Nat}  (hX : Cx X cX1_startsAt 5 RX1 wsX1_startsAt rmX1_startsAt) (x2 : Int32) (x3 : Int32) (x4 : Int32) (k : ((30 < x4 → (∃ zj2 : Nat, x2 = nI zj2 ∧ zj2 < 10 ∧ Rt X (some .int) rmX1_startsAt (some (.int x3)) (HM X (upI (upI I 89 zj2 x3) 87 2 (((upI I 89 zj2 x3) 87 2) ||| (jshl 1 x2))) L p))) ∧ (¬ 30 < x4 → (∃ (zL5 : ML), Ct (xE X) (xl X) yX1_walk wsX1_walk rmX1_walk [.ref 87, .ref 1, .int x2, .int x4] (HM X I L p) none (HM X I zL5 p) ∧ (∃ (zr7 : Int32), Ct (xE X) (xl X) yX1_agrees wsX1_agrees rmX1_agrees [.ref 87, .ref 1] (HM X I zL5 p) (some (.int zr7)) (HM X I zL5 p) ∧ G X 0 0 24 [(0, .ref 87), (1, .ref 1), (2, .int x2), (3, .int (if zr7 = 0 then x3 else x3 ||| (jshl 1 x4) : Int32)), (4, .int (x4 + 1))] [] (HM X I zL5 p)))))) : G X 0 0 24 [(0, .ref 87), (1, .ref 1), (2, .int x2), (3, .int x3), (4, .int x4)] [] (HM X I L p) := by
  refine g_iload hX 4 rfl dX1_startsAt_24 ?_
  refine g_bipush (v := 30) hX dX1_startsAt_26 (by decide) ?_
  refine g_icmp_gt (tgt := 60) hX dX1_startsAt_28 (by decide) (fun h => ?_) (fun h => ?_)
  · replace k := k.1 h
    refine g_aload_n hX 0 rfl rfl dX1_startsAt_60 ?_
    refine g_getR (k := 1) (r' := 89) hX hPW flX1_startsAt_15 sn87 so87 rfl (k87_1 _) dX1_startsAt_61 ?_
    refine g_iload_n hX 2 rfl rfl dX1_startsAt_64 ?_
    refine g_iload_n hX 3 rfl rfl dX1_startsAt_65 ?_
    obtain ⟨zj2, zh1, zh3, k⟩ := k
    refine g_iast hX sn89 sh89 zh1 zh3 (by decide) dX1_startsAt_66 ?_
    refine g_aload_n hX 0 rfl rfl dX1_startsAt_67 ?_
    refine g_dup hX dX1_startsAt_68 rfl ?_
    refine g_getI (k := 2) hX hPW flX1_startsAt_19 sn87 so87 rfl dX1_startsAt_69 ?_
    refine g_iconst (v := 1) hX dX1_startsAt_72 (by decide) ?_
    refine g_iload_n hX 2 rfl rfl dX1_startsAt_73 ?_
    refine g_ishl hX dX1_startsAt_74 ?_
    refine g_ior hX dX1_startsAt_75 ?_
    refine g_putI (k := 2) hX fpX1_startsAt_19 sn87 so87 rfl rfl rfl dX1_startsAt_76 ?_
    refine g_iload_n hX 3 rfl rfl dX1_startsAt_79 ?_
    exact g_ireturn hX k rfl rfl dX1_startsAt_80
  · replace k := k.2 h
    refine g_aload_n hX 0 rfl rfl dX1_startsAt_31 ?_
    refine g_aload_n hX 1 rfl rfl dX1_startsAt_32 ?_
    refine g_iload_n hX 2 rfl rfl dX1_startsAt_33 ?_
    refine g_iload hX 4 rfl dX1_startsAt_34 ?_
    obtain ⟨zL5, zhc4, k⟩ := k
    refine g_callV (cs' := 0) (sl' := 0) (C := RX1) (as := [.ref 1, .int x2, .int x4]) (st := []) hX zhc4 hPW sn87 so87 rfl gX1_startsAt_X1_walk rfl rfl rfl ydX1_walk (by decide) (Nat.le_of_ble_eq_true rfl) (by decide) dX1_startsAt_36 rfl rfl ?_
    refine g_aload_n hX 0 rfl rfl dX1_startsAt_39 ?_
    refine g_aload_n hX 1 rfl rfl dX1_startsAt_40 ?_
    obtain ⟨zr7, zhc6, k⟩ := k
    refine g_callV (cs' := 0) (sl' := 0) (C := RX1) (as := [.ref 1]) (st := []) hX zhc6 hPW sn87 so87 rfl gX1_startsAt_X1_agrees rfl rfl rfl ydX1_agrees (by decide) (Nat.le_of_ble_eq_true rfl) (by decide) dX1_startsAt_41 rfl rfl ?_
    have kJ : G X 0 0 54 [(0, .ref 87), (1, .ref 1), (2, .int x2), (3, .int (if zr7 = 0 then x3 else x3 ||| (jshl 1 x4) : Int32)), (4, .int x4)] [] (HM X I zL5 p) := by
      refine g_iinc (v := x4 + 1) (ls' := [(0, .ref 87), (1, .ref 1), (2, .int x2), (3, .int (if zr7 = 0 then x3 else x3 ||| (jshl 1 x4) : Int32)), (4, .int (x4 + 1))]) hX 4 rfl dX1_startsAt_54 rfl (by decide) rfl ?_
      refine g_goto (tgt := 24) hX dX1_startsAt_57 (by decide) ?_
      exact k
    refine g_if_eq (tgt := 54) hX dX1_startsAt_44 (by decide) (fun h => ?_) (fun h => ?_)
    · rw [(show (if zr7 = 0 then x3 else x3 ||| (jshl 1 x4) : Int32) = x3 from if_pos h)] at kJ
      exact kJ
    · rw [(show (if zr7 = 0 then x3 else x3 ||| (jshl 1 x4) : Int32) = (x3 ||| (jshl 1 x4)) from if_neg h)] at kJ
      refine g_iload_n hX 3 rfl rfl dX1_startsAt_47 ?_
      refine g_iconst (v := 1) hX dX1_startsAt_48 (by decide) ?_
      refine g_iload hX 4 rfl dX1_startsAt_49 ?_
      refine g_ishl hX dX1_startsAt_51 ?_
      refine g_ior hX dX1_startsAt_52 ?_
      refine g_istore_n (ls' := [(0, .ref 87), (1, .ref 1), (2, .int x2), (3, .int (x3 ||| (jshl 1 x4))), (4, .int x4)]) hX dX1_startsAt_53 rfl (by decide) rfl ?_
      exact kJ
set_option maxRecDepth 4000 in
theorem RX1_suspicious_0 {X : XT} {I : MI} {L : ML} {p : Nat → Nat}  (hX : Cx X cX1_suspicious 4 RX1 wsX1_suspicious rmX1_suspicious)  (k : G X 0 0 4 [(0, .ref 87), (1, .ref 1), (2, .int 0), (3, .int 0)] [] (HM X I L p)) : G X 0 0 0 [(0, .ref 87), (1, .ref 1)] [] (HM X I L p) := by
  refine g_iconst (v := 0) hX dX1_suspicious_0 (by decide) ?_
  refine g_istore_n (ls' := [(0, .ref 87), (1, .ref 1), (2, .int 0)]) hX dX1_suspicious_1 rfl (by decide) rfl ?_
  refine g_iconst (v := 0) hX dX1_suspicious_2 (by decide) ?_
  refine g_istore_n (ls' := [(0, .ref 87), (1, .ref 1), (2, .int 0), (3, .int 0)]) hX dX1_suspicious_3 rfl (by decide) rfl ?_
  exact k
set_option maxRecDepth 4000 in
theorem RX1_suspicious_4 {X : XT} {I : MI} {L : ML} {p : Nat → Nat}  (hX : Cx X cX1_suspicious 4 RX1 wsX1_suspicious rmX1_suspicious) (x2 : Int32) (x3 : Int32) (k : (((I 1 0) ≤ x3 → Rt X (some .int) rmX1_suspicious (some (.int x2)) (HM X I L p)) ∧ (¬ (I 1 0) ≤ x3 → (∃ (zr2 : Int32) (zI3 : MI) (zL4 : ML), Ct (xE X) (xl X) yX1_startsAt wsX1_startsAt rmX1_startsAt [.ref 87, .ref 1, .int x3] (HM X I L p) (some (.int zr2)) (HM X zI3 zL4 p) ∧ G X 0 0 4 [(0, .ref 87), (1, .ref 1), (2, .int (if zr2 = 0 then x2 else x2 ||| (jshl 1 x3) : Int32)), (3, .int (x3 + 1))] [] (HM X zI3 zL4 p))))) : G X 0 0 4 [(0, .ref 87), (1, .ref 1), (2, .int x2), (3, .int x3)] [] (HM X I L p) := by
  refine g_iload_n hX 3 rfl rfl dX1_suspicious_4 ?_
  refine g_aload_n hX 1 rfl rfl dX1_suspicious_5 ?_
  refine g_getI (k := 0) hX hPW flX1_suspicious_65 sn1 so1 rfl dX1_suspicious_6 ?_
  refine g_icmp_ge (tgt := 33) hX dX1_suspicious_9 (by decide) (fun h => ?_) (fun h => ?_)
  · replace k := k.1 h
    refine g_iload_n hX 2 rfl rfl dX1_suspicious_33 ?_
    exact g_ireturn hX k rfl rfl dX1_suspicious_34
  · replace k := k.2 h
    refine g_aload_n hX 0 rfl rfl dX1_suspicious_12 ?_
    refine g_aload_n hX 1 rfl rfl dX1_suspicious_13 ?_
    refine g_iload_n hX 3 rfl rfl dX1_suspicious_14 ?_
    obtain ⟨zr2, zI3, zL4, zhc1, k⟩ := k
    refine g_callV (cs' := 0) (sl' := 0) (C := RX1) (as := [.ref 1, .int x3]) (st := []) hX zhc1 hPW sn87 so87 rfl gX1_suspicious_X1_startsAt rfl rfl rfl ydX1_startsAt (by decide) (Nat.le_of_ble_eq_true rfl) (by decide) dX1_suspicious_15 rfl rfl ?_
    have kJ : G X 0 0 27 [(0, .ref 87), (1, .ref 1), (2, .int (if zr2 = 0 then x2 else x2 ||| (jshl 1 x3) : Int32)), (3, .int x3)] [] (HM X zI3 zL4 p) := by
      refine g_iinc (v := x3 + 1) (ls' := [(0, .ref 87), (1, .ref 1), (2, .int (if zr2 = 0 then x2 else x2 ||| (jshl 1 x3) : Int32)), (3, .int (x3 + 1))]) hX 3 rfl dX1_suspicious_27 rfl (by decide) rfl ?_
      refine g_goto (tgt := 4) hX dX1_suspicious_30 (by decide) ?_
      exact k
    refine g_if_eq (tgt := 27) hX dX1_suspicious_18 (by decide) (fun h => ?_) (fun h => ?_)
    · rw [(show (if zr2 = 0 then x2 else x2 ||| (jshl 1 x3) : Int32) = x2 from if_pos h)] at kJ
      exact kJ
    · rw [(show (if zr2 = 0 then x2 else x2 ||| (jshl 1 x3) : Int32) = (x2 ||| (jshl 1 x3)) from if_neg h)] at kJ
      refine g_iload_n hX 2 rfl rfl dX1_suspicious_21 ?_
      refine g_iconst (v := 1) hX dX1_suspicious_22 (by decide) ?_
      refine g_iload_n hX 3 rfl rfl dX1_suspicious_23 ?_
      refine g_ishl hX dX1_suspicious_24 ?_
      refine g_ior hX dX1_suspicious_25 ?_
      refine g_istore_n (ls' := [(0, .ref 87), (1, .ref 1), (2, .int (x2 ||| (jshl 1 x3))), (3, .int x3)]) hX dX1_suspicious_26 rfl (by decide) rfl ?_
      exact kJ
set_option maxRecDepth 4000 in
theorem RX1_agreesWith_0 {X : XT} {I : MI} {L : ML} {p : Nat → Nat}  (hX : Cx X cX1_agreesWith 6 RX1 wsX1_agreesWith rmX1_agreesWith) (x2 : Int32) (k : (∃ zj2 : Nat, x2 = nI zj2 ∧ zj2 < 12 ∧ (∃ zj5 : Nat, (I 9 zj2) = nI zj5 ∧ zj5 < 10 ∧ (∃ zj8 : Nat, x2 = nI zj8 ∧ zj8 < 12 ∧ (∃ zj11 : Nat, x2 = nI zj11 ∧ zj11 < 12 ∧ ((¬ (I 8 zj11) = 1 → (((jcmp (L 88 zj5) 0) = 0 → Rt X (some .boolean) rmX1_agreesWith (some (.int 1)) (HM X I L p)) ∧ (¬ (jcmp (L 88 zj5) 0) = 0 → Rt X (some .boolean) rmX1_agreesWith (some (.int (if (jcmp (jlushr (L 88 zj5) ((I 10 zj8) + 1)) 0) = 0 then 0 else 1 : Int32))) (HM X I L p)))) ∧ ((I 8 zj11) = 1 → Rt X (some .boolean) rmX1_agreesWith (some (.int (if (jcmp ((jlushr (L 88 zj5) (I 10 zj8)) &&& 1) 1) = 0 then 1 else 0 : Int32))) (HM X I L p)))))))) : G X 0 0 0 [(0, .ref 87), (1, .ref 1), (2, .int x2)] [] (HM X I L p) := by
  refine g_aload_n hX 0 rfl rfl dX1_agreesWith_0 ?_
  refine g_getR (k := 0) (r' := 88) hX hPW flX1_agreesWith_9 sn87 so87 rfl (k87_0 _) dX1_agreesWith_1 ?_
  refine g_aload_n hX 1 rfl rfl dX1_agreesWith_4 ?_
  refine g_getR (k := 10) (r' := 9) hX hPW flX1_agreesWith_72 sn1 so1 rfl (k1_10 _) dX1_agreesWith_5 ?_
  refine g_iload_n hX 2 rfl rfl dX1_agreesWith_8 ?_
  obtain ⟨zj2, zh1, zh3, k⟩ := k
  refine g_iald hX hPW sn9 sh9 zh1 zh3 (by decide) dX1_agreesWith_9 ?_
  obtain ⟨zj5, zh4, zh6, k⟩ := k
  refine g_lald hX hPW sn88 sh88 zh4 zh6 (by decide) dX1_agreesWith_10 ?_
  refine g_lstore_n (ls' := [(0, .ref 87), (1, .ref 1), (2, .int x2), (3, .long (L 88 zj5))]) hX dX1_agreesWith_11 rfl (by decide) rfl ?_
  refine g_aload_n hX 1 rfl rfl dX1_agreesWith_12 ?_
  refine g_getR (k := 11) (r' := 10) hX hPW flX1_agreesWith_75 sn1 so1 rfl (k1_11 _) dX1_agreesWith_13 ?_
  refine g_iload_n hX 2 rfl rfl dX1_agreesWith_16 ?_
  obtain ⟨zj8, zh7, zh9, k⟩ := k
  refine g_iald hX hPW sn10 sh10 zh7 zh9 (by decide) dX1_agreesWith_17 ?_
  refine g_istore (ls' := [(0, .ref 87), (1, .ref 1), (2, .int x2), (3, .long (L 88 zj5)), (5, .int (I 10 zj8))]) hX dX1_agreesWith_18 (by decide) rfl ?_
  refine g_aload_n hX 1 rfl rfl dX1_agreesWith_20 ?_
  refine g_getR (k := 9) (r' := 8) hX hPW flX1_agreesWith_78 sn1 so1 rfl (k1_9 _) dX1_agreesWith_21 ?_
  refine g_iload_n hX 2 rfl rfl dX1_agreesWith_24 ?_
  obtain ⟨zj11, zh10, zh12, k⟩ := k
  refine g_iald hX hPW sn8 sh8 zh10 zh12 (by decide) dX1_agreesWith_25 ?_
  refine g_iconst (v := 1) hX dX1_agreesWith_26 (by decide) ?_
  refine g_icmp_ne (tgt := 47) hX dX1_agreesWith_27 (by decide) (fun h => ?_) (fun h => ?_)
  · replace k := k.1 h
    refine g_lload_n hX 3 rfl rfl dX1_agreesWith_47 ?_
    refine g_lconst (v := 0) hX dX1_agreesWith_48 (by decide) ?_
    refine g_lcmp hX dX1_agreesWith_49 ?_
    refine g_if_eq (tgt := 64) hX dX1_agreesWith_50 (by decide) (fun h => ?_) (fun h => ?_)
    · replace k := k.1 h
      refine g_iconst (v := 1) hX dX1_agreesWith_64 (by decide) ?_
      refine g_goto (tgt := 69) hX dX1_agreesWith_65 (by decide) ?_
      exact g_zreturn hX k (by decide) rfl rfl dX1_agreesWith_69
    · replace k := k.2 h
      refine g_lload_n hX 3 rfl rfl dX1_agreesWith_53 ?_
      refine g_iload hX 4 rfl dX1_agreesWith_54 ?_
      refine g_iconst (v := 1) hX dX1_agreesWith_56 (by decide) ?_
      refine g_iadd hX dX1_agreesWith_57 ?_
      refine g_lushr hX dX1_agreesWith_58 ?_
      refine g_lconst (v := 0) hX dX1_agreesWith_59 (by decide) ?_
      refine g_lcmp hX dX1_agreesWith_60 ?_
      have kJ : G X 0 0 69 [(0, .ref 87), (1, .ref 1), (2, .int x2), (3, .long (L 88 zj5)), (5, .int (I 10 zj8))] [.int (if (jcmp (jlushr (L 88 zj5) ((I 10 zj8) + 1)) 0) = 0 then 0 else 1 : Int32)] (HM X I L p) := by
        exact g_zreturn hX k b10 rfl rfl dX1_agreesWith_69
      refine g_if_eq (tgt := 68) hX dX1_agreesWith_61 (by decide) (fun h => ?_) (fun h => ?_)
      · rw [(show (if (jcmp (jlushr (L 88 zj5) ((I 10 zj8) + 1)) 0) = 0 then 0 else 1 : Int32) = 0 from if_pos h)] at kJ
        refine g_iconst (v := 0) hX dX1_agreesWith_68 (by decide) ?_
        exact kJ
      · rw [(show (if (jcmp (jlushr (L 88 zj5) ((I 10 zj8) + 1)) 0) = 0 then 0 else 1 : Int32) = 1 from if_neg h)] at kJ
        refine g_iconst (v := 1) hX dX1_agreesWith_64 (by decide) ?_
        refine g_goto (tgt := 69) hX dX1_agreesWith_65 (by decide) ?_
        exact kJ
  · replace k := k.2 h
    refine g_lload_n hX 3 rfl rfl dX1_agreesWith_30 ?_
    refine g_iload hX 4 rfl dX1_agreesWith_31 ?_
    refine g_lushr hX dX1_agreesWith_33 ?_
    refine g_lconst (v := 1) hX dX1_agreesWith_34 (by decide) ?_
    refine g_land hX dX1_agreesWith_35 ?_
    refine g_lconst (v := 1) hX dX1_agreesWith_36 (by decide) ?_
    refine g_lcmp hX dX1_agreesWith_37 ?_
    have kJ : G X 0 0 46 [(0, .ref 87), (1, .ref 1), (2, .int x2), (3, .long (L 88 zj5)), (5, .int (I 10 zj8))] [.int (if (jcmp ((jlushr (L 88 zj5) (I 10 zj8)) &&& 1) 1) = 0 then 1 else 0 : Int32)] (HM X I L p) := by
      exact g_zreturn hX k b01 rfl rfl dX1_agreesWith_46
    refine g_if_ne (tgt := 45) hX dX1_agreesWith_38 (by decide) (fun h => ?_) (fun h => ?_)
    · rw [(show (if (jcmp ((jlushr (L 88 zj5) (I 10 zj8)) &&& 1) 1) = 0 then 1 else 0 : Int32) = 0 from if_neg h)] at kJ
      refine g_iconst (v := 0) hX dX1_agreesWith_45 (by decide) ?_
      exact kJ
    · rw [(show (if (jcmp ((jlushr (L 88 zj5) (I 10 zj8)) &&& 1) 1) = 0 then 1 else 0 : Int32) = 1 from if_pos h)] at kJ
      refine g_iconst (v := 1) hX dX1_agreesWith_41 (by decide) ?_
      refine g_goto (tgt := 46) hX dX1_agreesWith_42 (by decide) ?_
      exact kJ
set_option maxRecDepth 4000 in
theorem RX2_parse_0 {X : XT} {I : MI} {L : ML} {p : Nat → Nat}  (hX : Cx X cX2_parse 4 RX2 wsX2_parse rmX2_parse) (x2 : Int32) (k : G X 0 0 12 [(0, .ref 92), (1, .ref 95), (2, .int x2), (3, .int 0)] [] (HM X (upI (upI I 92 2 0) 92 3 0) L p)) : G X 0 0 0 [(0, .ref 92), (1, .ref 95), (2, .int x2)] [] (HM X I L p) := by
  refine g_aload_n hX 0 rfl rfl dX2_parse_0 ?_
  refine g_iconst (v := 0) hX dX2_parse_1 (by decide) ?_
  refine g_putI (k := 2) hX fpX2_parse_18 sn92 so92 rfl rfl rfl dX2_parse_2 ?_
  refine g_aload_n hX 0 rfl rfl dX2_parse_5 ?_
  refine g_iconst (v := 0) hX dX2_parse_6 (by decide) ?_
  refine g_putI (k := 3) hX fpX2_parse_22 sn92 so92 rfl rfl rfl dX2_parse_7 ?_
  refine g_iconst (v := 0) hX dX2_parse_10 (by decide) ?_
  refine g_istore_n (ls' := [(0, .ref 92), (1, .ref 95), (2, .int x2), (3, .int 0)]) hX dX2_parse_11 rfl (by decide) rfl ?_
  exact k
set_option maxRecDepth 4000 in
theorem RX2_parse_12 {X : XT} {I : MI} {L : ML} {p : Nat → Nat}  (hX : Cx X cX2_parse 4 RX2 wsX2_parse rmX2_parse) (x2 : Int32) (x3 : Int32) (k : ((x2 ≤ x3 → ((¬ (I 92 3) = 0 → Rt X (some .int) rmX2_parse (some (.int x2)) (HM X I L p)) ∧ ((I 92 3) = 0 → Rt X (some .int) rmX2_parse (some (.int (if (I 92 2) = 0 then x2 else (-1) : Int32))) (HM X I L p)))) ∧ (¬ x2 ≤ x3 → (∃ zj2 : Nat, x3 = nI zj2 ∧ zj2 < 120 ∧ (∃ (zr5 : Int32) (zI6 : MI), Ct (xE X) (xl X) yX2_takes wsX2_takes rmX2_takes [.ref 92, .int (I 95 zj2)] (HM X I L p) (some (.int zr5)) (HM X zI6 L p) ∧ ((¬ zr5 = 0 → G X 0 0 12 [(0, .ref 92), (1, .ref 95), (2, .int x2), (3, .int (x3 + 1))] [] (HM X zI6 L p)) ∧ (zr5 = 0 → Rt X (some .int) rmX2_parse (some (.int x3)) (HM X zI6 L p)))))))) : G X 0 0 12 [(0, .ref 92), (1, .ref 95), (2, .int x2), (3, .int x3)] [] (HM X I L p) := by
  refine g_iload_n hX 3 rfl rfl dX2_parse_12 ?_
  refine g_iload_n hX 2 rfl rfl dX2_parse_13 ?_
  refine g_icmp_ge (tgt := 35) hX dX2_parse_14 (by decide) (fun h => ?_) (fun h => ?_)
  · replace k := k.1 h
    refine g_aload_n hX 0 rfl rfl dX2_parse_35 ?_
    refine g_getI (k := 3) hX hPW flX2_parse_22 sn92 so92 rfl dX2_parse_36 ?_
    refine g_if_ne (tgt := 49) hX dX2_parse_39 (by decide) (fun h => ?_) (fun h => ?_)
    · replace k := k.1 h
      refine g_iload_n hX 2 rfl rfl dX2_parse_49 ?_
      refine g_goto (tgt := 54) hX dX2_parse_50 (by decide) ?_
      exact g_ireturn hX k rfl rfl dX2_parse_54
    · replace k := k.2 h
      refine g_aload_n hX 0 rfl rfl dX2_parse_42 ?_
      refine g_getI (k := 2) hX hPW flX2_parse_18 sn92 so92 rfl dX2_parse_43 ?_
      have kJ : G X 0 0 54 [(0, .ref 92), (1, .ref 95), (2, .int x2), (3, .int x3)] [.int (if (I 92 2) = 0 then x2 else (-1) : Int32)] (HM X I L p) := by
        exact g_ireturn hX k rfl rfl dX2_parse_54
      refine g_if_ne (tgt := 53) hX dX2_parse_46 (by decide) (fun h => ?_) (fun h => ?_)
      · rw [(show (if (I 92 2) = 0 then x2 else (-1) : Int32) = (-1) from if_neg h)] at kJ
        refine g_iconst (v := (-1)) hX dX2_parse_53 (by decide) ?_
        exact kJ
      · rw [(show (if (I 92 2) = 0 then x2 else (-1) : Int32) = x2 from if_pos h)] at kJ
        refine g_iload_n hX 2 rfl rfl dX2_parse_49 ?_
        refine g_goto (tgt := 54) hX dX2_parse_50 (by decide) ?_
        exact kJ
  · replace k := k.2 h
    refine g_aload_n hX 0 rfl rfl dX2_parse_17 ?_
    refine g_aload_n hX 1 rfl rfl dX2_parse_18 ?_
    refine g_iload_n hX 3 rfl rfl dX2_parse_19 ?_
    obtain ⟨zj2, zh1, zh3, k⟩ := k
    refine g_bald hX hPW sn95 sh95 zh1 zh3 (by decide) dX2_parse_20 ?_
    obtain ⟨zr5, zI6, zhc4, k⟩ := k
    refine g_callV (cs' := 0) (sl' := 0) (C := RX2) (as := [.int (I 95 zj2)]) (st := []) hX zhc4 hPW sn92 so92 rfl gX2_parse_X2_takes rfl rfl rfl ydX2_takes (by decide) (Nat.le_of_ble_eq_true rfl) (by decide) dX2_parse_21 rfl rfl ?_
    refine g_if_ne (tgt := 29) hX dX2_parse_24 (by decide) (fun h => ?_) (fun h => ?_)
    · replace k := k.1 h
      refine g_iinc (v := x3 + 1) (ls' := [(0, .ref 92), (1, .ref 95), (2, .int x2), (3, .int (x3 + 1))]) hX 3 rfl dX2_parse_29 rfl (by decide) rfl ?_
      refine g_goto (tgt := 12) hX dX2_parse_32 (by decide) ?_
      exact k
    · replace k := k.2 h
      refine g_iload_n hX 3 rfl rfl dX2_parse_27 ?_
      exact g_ireturn hX k rfl rfl dX2_parse_28
set_option maxRecDepth 4000 in
theorem RX2_obey_0 {X : XT} {I : MI} {L : ML} {p : Nat → Nat}  (hX : Cx X cX2_obey 6 RX2 wsX2_obey rmX2_obey) (x1 : Int32) (k : (∃ zj2 : Nat, (x1 * 4) = nI zj2 ∧ zj2 < 160 ∧ (∃ zj5 : Nat, ((x1 * 4) + 1) = nI zj5 ∧ zj5 < 160 ∧ (∃ zj8 : Nat, x1 = nI zj8 ∧ zj8 < 40 ∧ (((I 93 zj8) = 99 → (∃ (zr11 : Int32) (zI12 : MI), Ct (xE X) (xl X) yX0_addSight wsX0_addSight rmX0_addSight [.ref 1, .int 0, .int (I 94 zj2), .int (I 94 zj5)] (HM X I L p) (some (.int zr11)) (HM X zI12 L p) ∧ Rt X (some .int) rmX2_obey (some (.int zr11)) (HM X zI12 L p))) ∧ (((I 93 zj8) = 101 → (∃ (zr14 : Int32) (zI15 : MI), Ct (xE X) (xl X) yX0_addSight wsX0_addSight rmX0_addSight [.ref 1, .int 1, .int (I 94 zj2), .int (I 94 zj5)] (HM X I L p) (some (.int zr14)) (HM X zI15 L p) ∧ Rt X (some .int) rmX2_obey (some (.int zr14)) (HM X zI15 L p))) ∧ (((I 93 zj8) = 112 → (∃ zj17 : Nat, ((x1 * 4) + 2) = nI zj17 ∧ zj17 < 160 ∧ (∃ zj20 : Nat, ((x1 * 4) + 3) = nI zj20 ∧ zj20 < 160 ∧ (∃ (zr23 : Int32) (zI24 : MI), Ct (xE X) (xl X) yX0_addPipe wsX0_addPipe rmX0_addPipe [.ref 1, .int (I 94 zj2), .int (I 94 zj5), .int (I 94 zj17), .int (I 94 zj20)] (HM X I L p) (some (.int zr23)) (HM X zI24 L p) ∧ Rt X (some .int) rmX2_obey (some (.int zr23)) (HM X zI24 L p))))) ∧ (((I 93 zj8) = 115 → (∃ (zr26 : Int32) (zI27 : MI), Ct (xE X) (xl X) yX0_addShaft wsX0_addShaft rmX0_addShaft [.ref 1, .int (I 94 zj2), .int (I 94 zj5)] (HM X I L p) (some (.int zr26)) (HM X zI27 L p) ∧ Rt X (some .int) rmX2_obey (some (.int zr26)) (HM X zI27 L p))) ∧ (((I 93 zj8) = 120 → (∃ (zr29 : Int32) (zI30 : MI), Ct (xE X) (xl X) yX0_dropPipe wsX0_dropPipe rmX0_dropPipe [.ref 1, .int (I 94 zj2)] (HM X I L p) (some (.int zr29)) (HM X zI30 L p) ∧ Rt X (some .int) rmX2_obey (some (.int zr29)) (HM X zI30 L p))) ∧ (¬ (I 93 zj8) = 99 ∧ ¬ (I 93 zj8) = 101 ∧ ¬ (I 93 zj8) = 112 ∧ ¬ (I 93 zj8) = 115 ∧ ¬ (I 93 zj8) = 120 → Rt X (some .int) rmX2_obey (some (.int (-2))) (HM X I L p))))))))))) : G X 0 0 0 [(0, .ref 92), (1, .int x1), (2, .ref 1)] [] (HM X I L p) := by
  refine g_iload_n hX 1 rfl rfl dX2_obey_0 ?_
  refine g_iconst (v := 4) hX dX2_obey_1 (by decide) ?_
  refine g_imul hX dX2_obey_2 ?_
  refine g_istore_n (ls' := [(0, .ref 92), (1, .int x1), (2, .ref 1), (3, .int (x1 * 4))]) hX dX2_obey_3 rfl (by decide) rfl ?_
  refine g_aload_n hX 0 rfl rfl dX2_obey_4 ?_
  refine g_getR (k := 1) (r' := 94) hX hPW flX2_obey_15 sn92 so92 rfl (k92_1 _) dX2_obey_5 ?_
  refine g_iload_n hX 3 rfl rfl dX2_obey_8 ?_
  obtain ⟨zj2, zh1, zh3, k⟩ := k
  refine g_iald hX hPW sn94 sh94 zh1 zh3 (by decide) dX2_obey_9 ?_
  refine g_istore (ls' := [(0, .ref 92), (1, .int x1), (2, .ref 1), (3, .int (x1 * 4)), (4, .int (I 94 zj2))]) hX dX2_obey_10 (by decide) rfl ?_
  refine g_aload_n hX 0 rfl rfl dX2_obey_12 ?_
  refine g_getR (k := 1) (r' := 94) hX hPW flX2_obey_15 sn92 so92 rfl (k92_1 _) dX2_obey_13 ?_
  refine g_iload_n hX 3 rfl rfl dX2_obey_16 ?_
  refine g_iconst (v := 1) hX dX2_obey_17 (by decide) ?_
  refine g_iadd hX dX2_obey_18 ?_
  obtain ⟨zj5, zh4, zh6, k⟩ := k
  refine g_iald hX hPW sn94 sh94 zh4 zh6 (by decide) dX2_obey_19 ?_
  refine g_istore (ls' := [(0, .ref 92), (1, .int x1), (2, .ref 1), (3, .int (x1 * 4)), (4, .int (I 94 zj2)), (5, .int (I 94 zj5))]) hX dX2_obey_20 (by decide) rfl ?_
  refine g_aload_n hX 0 rfl rfl dX2_obey_22 ?_
  refine g_getR (k := 0) (r' := 93) hX hPW flX2_obey_9 sn92 so92 rfl (k92_0 _) dX2_obey_23 ?_
  refine g_iload_n hX 1 rfl rfl dX2_obey_26 ?_
  obtain ⟨zj8, zh7, zh9, k⟩ := k
  refine g_iald hX hPW sn93 sh93 zh7 zh9 (by decide) dX2_obey_27 ?_
  by_cases c0 : (I 93 zj8) = 99
  · replace k := k.1 c0
    refine g_lookup (off := 96) (tgt := 124) hX dX2_obey_28 (by decide) (by rw [c0]; decide) (by decide) ?_
    refine g_aload_n hX 2 rfl rfl dX2_obey_124 ?_
    refine g_iconst (v := 0) hX dX2_obey_125 (by decide) ?_
    refine g_iload hX 4 rfl dX2_obey_126 ?_
    refine g_iload hX 5 rfl dX2_obey_128 ?_
    obtain ⟨zr11, zI12, zhc10, k⟩ := k
    refine g_callV (cs' := 0) (sl' := 0) (C := RX0) (as := [.int 0, .int (I 94 zj2), .int (I 94 zj5)]) (st := []) hX zhc10 hPW sn1 so1 rfl gX2_obey_X0_addSight rfl rfl rfl ydX0_addSight (by decide) (Nat.le_of_ble_eq_true rfl) (by decide) dX2_obey_130 rfl rfl ?_
    exact g_ireturn hX k rfl rfl dX2_obey_133
  · replace k := k.2
    by_cases c1 : (I 93 zj8) = 101
    · replace k := k.1 c1
      refine g_lookup (off := 86) (tgt := 114) hX dX2_obey_28 (by decide) (by rw [c1]; decide) (by decide) ?_
      refine g_aload_n hX 2 rfl rfl dX2_obey_114 ?_
      refine g_iconst (v := 1) hX dX2_obey_115 (by decide) ?_
      refine g_iload hX 4 rfl dX2_obey_116 ?_
      refine g_iload hX 5 rfl dX2_obey_118 ?_
      obtain ⟨zr14, zI15, zhc13, k⟩ := k
      refine g_callV (cs' := 0) (sl' := 0) (C := RX0) (as := [.int 1, .int (I 94 zj2), .int (I 94 zj5)]) (st := []) hX zhc13 hPW sn1 so1 rfl gX2_obey_X0_addSight rfl rfl rfl ydX0_addSight (by decide) (Nat.le_of_ble_eq_true rfl) (by decide) dX2_obey_120 rfl rfl ?_
      exact g_ireturn hX k rfl rfl dX2_obey_123
    · replace k := k.2
      by_cases c2 : (I 93 zj8) = 112
      · replace k := k.1 c2
        refine g_lookup (off := 61) (tgt := 89) hX dX2_obey_28 (by decide) (by rw [c2]; decide) (by decide) ?_
        refine g_aload_n hX 2 rfl rfl dX2_obey_89 ?_
        refine g_iload hX 4 rfl dX2_obey_90 ?_
        refine g_iload hX 5 rfl dX2_obey_92 ?_
        refine g_aload_n hX 0 rfl rfl dX2_obey_94 ?_
        refine g_getR (k := 1) (r' := 94) hX hPW flX2_obey_15 sn92 so92 rfl (k92_1 _) dX2_obey_95 ?_
        refine g_iload_n hX 3 rfl rfl dX2_obey_98 ?_
        refine g_iconst (v := 2) hX dX2_obey_99 (by decide) ?_
        refine g_iadd hX dX2_obey_100 ?_
        obtain ⟨zj17, zh16, zh18, k⟩ := k
        refine g_iald hX hPW sn94 sh94 zh16 zh18 (by decide) dX2_obey_101 ?_
        refine g_aload_n hX 0 rfl rfl dX2_obey_102 ?_
        refine g_getR (k := 1) (r' := 94) hX hPW flX2_obey_15 sn92 so92 rfl (k92_1 _) dX2_obey_103 ?_
        refine g_iload_n hX 3 rfl rfl dX2_obey_106 ?_
        refine g_iconst (v := 3) hX dX2_obey_107 (by decide) ?_
        refine g_iadd hX dX2_obey_108 ?_
        obtain ⟨zj20, zh19, zh21, k⟩ := k
        refine g_iald hX hPW sn94 sh94 zh19 zh21 (by decide) dX2_obey_109 ?_
        obtain ⟨zr23, zI24, zhc22, k⟩ := k
        refine g_callV (cs' := 0) (sl' := 0) (C := RX0) (as := [.int (I 94 zj2), .int (I 94 zj5), .int (I 94 zj17), .int (I 94 zj20)]) (st := []) hX zhc22 hPW sn1 so1 rfl gX2_obey_X0_addPipe rfl rfl rfl ydX0_addPipe (by decide) (Nat.le_of_ble_eq_true rfl) (by decide) dX2_obey_110 rfl rfl ?_
        exact g_ireturn hX k rfl rfl dX2_obey_113
      · replace k := k.2
        by_cases c3 : (I 93 zj8) = 115
        · replace k := k.1 c3
          refine g_lookup (off := 52) (tgt := 80) hX dX2_obey_28 (by decide) (by rw [c3]; decide) (by decide) ?_
          refine g_aload_n hX 2 rfl rfl dX2_obey_80 ?_
          refine g_iload hX 4 rfl dX2_obey_81 ?_
          refine g_iload hX 5 rfl dX2_obey_83 ?_
          obtain ⟨zr26, zI27, zhc25, k⟩ := k
          refine g_callV (cs' := 0) (sl' := 0) (C := RX0) (as := [.int (I 94 zj2), .int (I 94 zj5)]) (st := []) hX zhc25 hPW sn1 so1 rfl gX2_obey_X0_addShaft rfl rfl rfl ydX0_addShaft (by decide) (Nat.le_of_ble_eq_true rfl) (by decide) dX2_obey_85 rfl rfl ?_
          exact g_ireturn hX k rfl rfl dX2_obey_88
        · replace k := k.2
          by_cases c4 : (I 93 zj8) = 120
          · replace k := k.1 c4
            refine g_lookup (off := 106) (tgt := 134) hX dX2_obey_28 (by decide) (by rw [c4]; decide) (by decide) ?_
            refine g_aload_n hX 2 rfl rfl dX2_obey_134 ?_
            refine g_iload hX 4 rfl dX2_obey_135 ?_
            obtain ⟨zr29, zI30, zhc28, k⟩ := k
            refine g_callV (cs' := 0) (sl' := 0) (C := RX0) (as := [.int (I 94 zj2)]) (st := []) hX zhc28 hPW sn1 so1 rfl gX2_obey_X0_dropPipe rfl rfl rfl ydX0_dropPipe (by decide) (Nat.le_of_ble_eq_true rfl) (by decide) dX2_obey_137 rfl rfl ?_
            exact g_ireturn hX k rfl rfl dX2_obey_140
          · replace k := k.2
            replace k := k ⟨c0, c1, c2, c3, c4⟩
            refine g_lookup (off := 113) (tgt := 141) hX dX2_obey_28 (by decide) (by dsimp only; rw [lv_osw c0 (show (99 : Int32).toInt = 99 by decide), lv_osw c1 (show (101 : Int32).toInt = 101 by decide), lv_osw c2 (show (112 : Int32).toInt = 112 by decide), lv_osw c3 (show (115 : Int32).toInt = 115 by decide), lv_osw c4 (show (120 : Int32).toInt = 120 by decide)]; rfl) (by decide) ?_
            refine g_bipush (v := (-2)) hX dX2_obey_141 (by decide) ?_
            exact g_ireturn hX k rfl rfl dX2_obey_143
set_option maxRecDepth 4000 in
theorem RX2_takes_0 {X : XT} {I : MI} {L : ML} {p : Nat → Nat}  (hX : Cx X cX2_takes 2 RX2 wsX2_takes rmX2_takes) (x1 : Int32) (k : ((¬ x1 = 32 → ((¬ (I 92 3) = 0 → ((¬ x1 = 59 → (∃ (zr2 : Int32), Ct (xE X) (xl X) yX5_within wsX5_within rmX5_within [.int x1, .int 48, .int 57] (HM X I L p) (some (.int zr2)) (HM X I L p) ∧ ((zr2 = 0 → Rt X (some .boolean) rmX2_takes (some (.int 0)) (HM X I L p)) ∧ (¬ zr2 = 0 → (∃ (zr4 : Int32) (zI5 : MI), Ct (xE X) (xl X) yX2_takesFigure wsX2_takesFigure rmX2_takesFigure [.ref 92, .int (x1 - 48)] (HM X I L p) (some (.int zr4)) (HM X zI5 L p) ∧ Rt X (some .boolean) rmX2_takes (some (.int (if zr4 = 0 then 0 else 1 : Int32))) (HM X zI5 L p)))))) ∧ (x1 = 59 → (∃ (zr7 : Int32) (zI8 : MI), Ct (xE X) (xl X) yX2_closes wsX2_closes rmX2_closes [.ref 92] (HM X I L p) (some (.int zr7)) (HM X zI8 L p) ∧ ((zr7 = 0 ∨ zr7 = 1) ∧ Rt X (some .boolean) rmX2_takes (some (.int zr7)) (HM X zI8 L p)))))) ∧ ((I 92 3) = 0 → (∃ (zr10 : Int32) (zI11 : MI), Ct (xE X) (xl X) yX2_opens wsX2_opens rmX2_opens [.ref 92, .int x1] (HM X I L p) (some (.int zr10)) (HM X zI11 L p) ∧ ((zr10 = 0 ∨ zr10 = 1) ∧ Rt X (some .boolean) rmX2_takes (some (.int zr10)) (HM X zI11 L p)))))) ∧ (x1 = 32 → Rt X (some .boolean) rmX2_takes (some (.int 1)) (HM X (upI I 92 5 0) L p)))) : G X 0 0 0 [(0, .ref 92), (1, .int x1)] [] (HM X I L p) := by
  refine g_iload_n hX 1 rfl rfl dX2_takes_0 ?_
  refine g_bipush (v := 32) hX dX2_takes_1 (by decide) ?_
  refine g_icmp_ne (tgt := 13) hX dX2_takes_3 (by decide) (fun h => ?_) (fun h => ?_)
  · replace k := k.1 h
    refine g_aload_n hX 0 rfl rfl dX2_takes_13 ?_
    refine g_getI (k := 3) hX hPW flX2_takes_22 sn92 so92 rfl dX2_takes_14 ?_
    refine g_if_ne (tgt := 26) hX dX2_takes_17 (by decide) (fun h => ?_) (fun h => ?_)
    · replace k := k.1 h
      refine g_iload_n hX 1 rfl rfl dX2_takes_26 ?_
      refine g_bipush (v := 59) hX dX2_takes_27 (by decide) ?_
      refine g_icmp_ne (tgt := 37) hX dX2_takes_29 (by decide) (fun h => ?_) (fun h => ?_)
      · replace k := k.1 h
        refine g_iload_n hX 1 rfl rfl dX2_takes_37 ?_
        refine g_bipush (v := 48) hX dX2_takes_38 (by decide) ?_
        refine g_bipush (v := 57) hX dX2_takes_40 (by decide) ?_
        obtain ⟨zr2, zhc1, k⟩ := k
        refine g_callSN (cs' := 0) (sl' := 0) (as := [.int x1, .int 48, .int 57]) (st := []) hX zhc1 gX2_takes_X5_within_n58 (by decide +kernel) (by decide +kernel) (by decide +kernel) rfl rfl ydX5_within (by decide) (Nat.le_of_ble_eq_true rfl) (by decide) dX2_takes_42 rfl rfl ?_
        refine g_if_eq (tgt := 63) hX dX2_takes_45 (by decide) (fun h => ?_) (fun h => ?_)
        · replace k := k.1 h
          refine g_iconst (v := 0) hX dX2_takes_63 (by decide) ?_
          exact g_zreturn hX k (by decide) rfl rfl dX2_takes_64
        · replace k := k.2 h
          refine g_aload_n hX 0 rfl rfl dX2_takes_48 ?_
          refine g_iload_n hX 1 rfl rfl dX2_takes_49 ?_
          refine g_bipush (v := 48) hX dX2_takes_50 (by decide) ?_
          refine g_isub hX dX2_takes_52 ?_
          obtain ⟨zr4, zI5, zhc3, k⟩ := k
          refine g_callV (cs' := 0) (sl' := 0) (C := RX2) (as := [.int (x1 - 48)]) (st := []) hX zhc3 hPW sn92 so92 rfl gX2_takes_X2_takesFigure rfl rfl rfl ydX2_takesFigure (by decide) (Nat.le_of_ble_eq_true rfl) (by decide) dX2_takes_53 rfl rfl ?_
          have kJ : G X 0 0 64 [(0, .ref 92), (1, .int x1)] [.int (if zr4 = 0 then 0 else 1 : Int32)] (HM X zI5 L p) := by
            exact g_zreturn hX k b10 rfl rfl dX2_takes_64
          refine g_if_eq (tgt := 63) hX dX2_takes_56 (by decide) (fun h => ?_) (fun h => ?_)
          · rw [(show (if zr4 = 0 then 0 else 1 : Int32) = 0 from if_pos h)] at kJ
            refine g_iconst (v := 0) hX dX2_takes_63 (by decide) ?_
            exact kJ
          · rw [(show (if zr4 = 0 then 0 else 1 : Int32) = 1 from if_neg h)] at kJ
            refine g_iconst (v := 1) hX dX2_takes_59 (by decide) ?_
            refine g_goto (tgt := 64) hX dX2_takes_60 (by decide) ?_
            exact kJ
      · replace k := k.2 h
        refine g_aload_n hX 0 rfl rfl dX2_takes_32 ?_
        obtain ⟨zr7, zI8, zhc6, k⟩ := k
        refine g_callV (cs' := 0) (sl' := 0) (C := RX2) (as := []) (st := []) hX zhc6 hPW sn92 so92 rfl gX2_takes_X2_closes rfl rfl rfl ydX2_closes (by decide) (Nat.le_of_ble_eq_true rfl) (by decide) dX2_takes_33 rfl rfl ?_
        exact g_zreturn hX k.2 k.1 rfl rfl dX2_takes_36
    · replace k := k.2 h
      refine g_aload_n hX 0 rfl rfl dX2_takes_20 ?_
      refine g_iload_n hX 1 rfl rfl dX2_takes_21 ?_
      obtain ⟨zr10, zI11, zhc9, k⟩ := k
      refine g_callV (cs' := 0) (sl' := 0) (C := RX2) (as := [.int x1]) (st := []) hX zhc9 hPW sn92 so92 rfl gX2_takes_X2_opens rfl rfl rfl ydX2_opens (by decide) (Nat.le_of_ble_eq_true rfl) (by decide) dX2_takes_22 rfl rfl ?_
      exact g_zreturn hX k.2 k.1 rfl rfl dX2_takes_25
  · replace k := k.2 h
    refine g_aload_n hX 0 rfl rfl dX2_takes_6 ?_
    refine g_iconst (v := 0) hX dX2_takes_7 (by decide) ?_
    refine g_putI (k := 5) hX fpX2_takes_48 sn92 so92 rfl rfl rfl dX2_takes_8 ?_
    refine g_iconst (v := 1) hX dX2_takes_11 (by decide) ?_
    exact g_zreturn hX k (by decide) rfl rfl dX2_takes_12
set_option maxRecDepth 4000 in
theorem RX2_opens_0 {X : XT} {I : MI} {L : ML} {p : Nat → Nat}  (hX : Cx X cX2_opens 2 RX2 wsX2_opens rmX2_opens) (x1 : Int32) (k : (∃ (zr2 : Int32), Ct (xE X) (xl X) yX2_numbersOf wsX2_numbersOf rmX2_numbersOf [.int x1] (HM X I L p) (some (.int zr2)) (HM X I L p) ∧ ((zr2 = 0 → Rt X (some .boolean) rmX2_opens (some (.int 0)) (HM X I L p)) ∧ (¬ zr2 = 0 → (((I 92 2) < 40 → (∃ zj4 : Nat, (I 92 2) = nI zj4 ∧ zj4 < 40 ∧ Rt X (some .boolean) rmX2_opens (some (.int 1)) (HM X (upI (upI (upI (upI I 93 zj4 x1) 92 3 1) 92 4 0) 92 5 0) L p))) ∧ (¬ (I 92 2) < 40 → Rt X (some .boolean) rmX2_opens (some (.int 0)) (HM X I L p))))))) : G X 0 0 0 [(0, .ref 92), (1, .int x1)] [] (HM X I L p) := by
  refine g_iload_n hX 1 rfl rfl dX2_opens_0 ?_
  obtain ⟨zr2, zhc1, k⟩ := k
  refine g_callS (cs' := 0) (sl' := 0) (as := [.int x1]) (st := []) hX zhc1 gX2_opens_X2_numbersOf rfl rfl ydX2_numbersOf (by decide) (Nat.le_of_ble_eq_true rfl) (by decide) dX2_opens_1 rfl rfl ?_
  refine g_if_eq (tgt := 16) hX dX2_opens_4 (by decide) (fun h => ?_) (fun h => ?_)
  · replace k := k.1 h
    refine g_iconst (v := 0) hX dX2_opens_16 (by decide) ?_
    exact g_zreturn hX k (by decide) rfl rfl dX2_opens_17
  · replace k := k.2 h
    refine g_aload_n hX 0 rfl rfl dX2_opens_7 ?_
    refine g_getI (k := 2) hX hPW flX2_opens_18 sn92 so92 rfl dX2_opens_8 ?_
    refine g_bipush (v := 40) hX dX2_opens_11 (by decide) ?_
    refine g_icmp_lt (tgt := 18) hX dX2_opens_13 (by decide) (fun h => ?_) (fun h => ?_)
    · replace k := k.1 h
      refine g_aload_n hX 0 rfl rfl dX2_opens_18 ?_
      refine g_getR (k := 0) (r' := 93) hX hPW flX2_opens_9 sn92 so92 rfl (k92_0 _) dX2_opens_19 ?_
      refine g_aload_n hX 0 rfl rfl dX2_opens_22 ?_
      refine g_getI (k := 2) hX hPW flX2_opens_18 sn92 so92 rfl dX2_opens_23 ?_
      refine g_iload_n hX 1 rfl rfl dX2_opens_26 ?_
      obtain ⟨zj4, zh3, zh5, k⟩ := k
      refine g_iast hX sn93 sh93 zh3 zh5 (by decide) dX2_opens_27 ?_
      refine g_aload_n hX 0 rfl rfl dX2_opens_28 ?_
      refine g_iconst (v := 1) hX dX2_opens_29 (by decide) ?_
      refine g_putI (k := 3) hX fpX2_opens_22 sn92 so92 rfl rfl rfl dX2_opens_30 ?_
      refine g_aload_n hX 0 rfl rfl dX2_opens_33 ?_
      refine g_iconst (v := 0) hX dX2_opens_34 (by decide) ?_
      refine g_putI (k := 4) hX fpX2_opens_68 sn92 so92 rfl rfl rfl dX2_opens_35 ?_
      refine g_aload_n hX 0 rfl rfl dX2_opens_38 ?_
      refine g_iconst (v := 0) hX dX2_opens_39 (by decide) ?_
      refine g_putI (k := 5) hX fpX2_opens_48 sn92 so92 rfl rfl rfl dX2_opens_40 ?_
      refine g_iconst (v := 1) hX dX2_opens_43 (by decide) ?_
      exact g_zreturn hX k (by decide) rfl rfl dX2_opens_44
    · replace k := k.2 h
      refine g_iconst (v := 0) hX dX2_opens_16 (by decide) ?_
      exact g_zreturn hX k (by decide) rfl rfl dX2_opens_17
set_option maxRecDepth 4000 in
theorem RX2_closes_0 {X : XT} {I : MI} {L : ML} {p : Nat → Nat}  (hX : Cx X cX2_closes 1 RX2 wsX2_closes rmX2_closes)  (k : (∃ zj2 : Nat, (I 92 2) = nI zj2 ∧ zj2 < 40 ∧ (∃ (zr5 : Int32), Ct (xE X) (xl X) yX2_numbersOf wsX2_numbersOf rmX2_numbersOf [.int (I 93 zj2)] (HM X I L p) (some (.int zr5)) (HM X I L p) ∧ ((zr5 ≤ (I 92 4) → Rt X (some .boolean) rmX2_closes (some (.int 1)) (HM X (upI (upI I 92 3 0) 92 2 (((upI I 92 3 0) 92 2) + 1)) L p)) ∧ (¬ zr5 ≤ (I 92 4) → Rt X (some .boolean) rmX2_closes (some (.int 0)) (HM X I L p)))))) : G X 0 0 0 [(0, .ref 92)] [] (HM X I L p) := by
  refine g_aload_n hX 0 rfl rfl dX2_closes_0 ?_
  refine g_getI (k := 4) hX hPW flX2_closes_68 sn92 so92 rfl dX2_closes_1 ?_
  refine g_aload_n hX 0 rfl rfl dX2_closes_4 ?_
  refine g_getR (k := 0) (r' := 93) hX hPW flX2_closes_9 sn92 so92 rfl (k92_0 _) dX2_closes_5 ?_
  refine g_aload_n hX 0 rfl rfl dX2_closes_8 ?_
  refine g_getI (k := 2) hX hPW flX2_closes_18 sn92 so92 rfl dX2_closes_9 ?_
  obtain ⟨zj2, zh1, zh3, k⟩ := k
  refine g_iald hX hPW sn93 sh93 zh1 zh3 (by decide) dX2_closes_12 ?_
  obtain ⟨zr5, zhc4, k⟩ := k
  refine g_callS (cs' := 0) (sl' := 0) (as := [.int (I 93 zj2)]) (st := [.int (I 92 4)]) hX zhc4 gX2_closes_X2_numbersOf rfl rfl ydX2_numbersOf (by decide) (Nat.le_of_ble_eq_true rfl) (by decide) dX2_closes_13 rfl rfl ?_
  refine g_icmp_ge (tgt := 21) hX dX2_closes_16 (by decide) (fun h => ?_) (fun h => ?_)
  · replace k := k.1 h
    refine g_aload_n hX 0 rfl rfl dX2_closes_21 ?_
    refine g_iconst (v := 0) hX dX2_closes_22 (by decide) ?_
    refine g_putI (k := 3) hX fpX2_closes_22 sn92 so92 rfl rfl rfl dX2_closes_23 ?_
    refine g_aload_n hX 0 rfl rfl dX2_closes_26 ?_
    refine g_dup hX dX2_closes_27 rfl ?_
    refine g_getI (k := 2) hX hPW flX2_closes_18 sn92 so92 rfl dX2_closes_28 ?_
    refine g_iconst (v := 1) hX dX2_closes_31 (by decide) ?_
    refine g_iadd hX dX2_closes_32 ?_
    refine g_putI (k := 2) hX fpX2_closes_18 sn92 so92 rfl rfl rfl dX2_closes_33 ?_
    refine g_iconst (v := 1) hX dX2_closes_36 (by decide) ?_
    exact g_zreturn hX k (by decide) rfl rfl dX2_closes_37
  · replace k := k.2 h
    refine g_iconst (v := 0) hX dX2_closes_19 (by decide) ?_
    exact g_zreturn hX k (by decide) rfl rfl dX2_closes_20
set_option maxRecDepth 4000 in
theorem RX2_takesFigure_0 {X : XT} {I : MI} {L : ML} {p : Nat → Nat}  (hX : Cx X cX2_takesFigure 3 RX2 wsX2_takesFigure rmX2_takesFigure) (x1 : Int32) (k : (((I 92 5) < 2 → ((¬ (I 92 5) = 0 → (∃ zj2 : Nat, ((((I 92 2) * 4) + (I 92 4)) - 1) = nI zj2 ∧ zj2 < 160 ∧ (∃ zj5 : Nat, ((((I 92 2) * 4) + (I 92 4)) - 1) = nI zj5 ∧ zj5 < 160 ∧ Rt X (some .boolean) rmX2_takesFigure (some (.int 1)) (HM X (upI (upI I 94 zj5 ((10 * (I 94 zj2)) + x1)) 92 5 (((upI I 94 zj5 ((10 * (I 94 zj2)) + x1)) 92 5) + 1)) L p)))) ∧ ((I 92 5) = 0 → (∃ zj8 : Nat, (I 92 2) = nI zj8 ∧ zj8 < 40 ∧ (∃ (zr11 : Int32), Ct (xE X) (xl X) yX2_numbersOf wsX2_numbersOf rmX2_numbersOf [.int (I 93 zj8)] (HM X I L p) (some (.int zr11)) (HM X I L p) ∧ (((I 92 4) < zr11 → (∃ zj13 : Nat, (((I 92 2) * 4) + (I 92 4)) = nI zj13 ∧ zj13 < 160 ∧ (∃ zj16 : Nat, (((((upI (upI I 94 zj13 0) 92 4 (((upI I 94 zj13 0) 92 4) + 1)) 92 2) * 4) + ((upI (upI I 94 zj13 0) 92 4 (((upI I 94 zj13 0) 92 4) + 1)) 92 4)) - 1) = nI zj16 ∧ zj16 < 160 ∧ (∃ zj19 : Nat, (((((upI (upI I 94 zj13 0) 92 4 (((upI I 94 zj13 0) 92 4) + 1)) 92 2) * 4) + ((upI (upI I 94 zj13 0) 92 4 (((upI I 94 zj13 0) 92 4) + 1)) 92 4)) - 1) = nI zj19 ∧ zj19 < 160 ∧ Rt X (some .boolean) rmX2_takesFigure (some (.int 1)) (HM X (upI (upI (upI (upI I 94 zj13 0) 92 4 (((upI I 94 zj13 0) 92 4) + 1)) 94 zj19 ((10 * ((upI (upI I 94 zj13 0) 92 4 (((upI I 94 zj13 0) 92 4) + 1)) 94 zj16)) + x1)) 92 5 (((upI (upI (upI I 94 zj13 0) 92 4 (((upI I 94 zj13 0) 92 4) + 1)) 94 zj19 ((10 * ((upI (upI I 94 zj13 0) 92 4 (((upI I 94 zj13 0) 92 4) + 1)) 94 zj16)) + x1)) 92 5) + 1)) L p))))) ∧ (¬ (I 92 4) < zr11 → Rt X (some .boolean) rmX2_takesFigure (some (.int 0)) (HM X I L p)))))))) ∧ (¬ (I 92 5) < 2 → Rt X (some .boolean) rmX2_takesFigure (some (.int 0)) (HM X I L p)))) : G X 0 0 0 [(0, .ref 92), (1, .int x1)] [] (HM X I L p) := by
  refine g_aload_n hX 0 rfl rfl dX2_takesFigure_0 ?_
  refine g_getI (k := 5) hX hPW flX2_takesFigure_48 sn92 so92 rfl dX2_takesFigure_1 ?_
  refine g_iconst (v := 2) hX dX2_takesFigure_4 (by decide) ?_
  refine g_icmp_lt (tgt := 10) hX dX2_takesFigure_5 (by decide) (fun h => ?_) (fun h => ?_)
  · replace k := k.1 h
    refine g_aload_n hX 0 rfl rfl dX2_takesFigure_10 ?_
    refine g_getI (k := 5) hX hPW flX2_takesFigure_48 sn92 so92 rfl dX2_takesFigure_11 ?_
    refine g_if_ne (tgt := 65) hX dX2_takesFigure_14 (by decide) (fun h => ?_) (fun h => ?_)
    · replace k := k.1 h
      refine g_aload_n hX 0 rfl rfl dX2_takesFigure_65 ?_
      refine g_getI (k := 2) hX hPW flX2_takesFigure_18 sn92 so92 rfl dX2_takesFigure_66 ?_
      refine g_iconst (v := 4) hX dX2_takesFigure_69 (by decide) ?_
      refine g_imul hX dX2_takesFigure_70 ?_
      refine g_aload_n hX 0 rfl rfl dX2_takesFigure_71 ?_
      refine g_getI (k := 4) hX hPW flX2_takesFigure_68 sn92 so92 rfl dX2_takesFigure_72 ?_
      refine g_iadd hX dX2_takesFigure_75 ?_
      refine g_iconst (v := 1) hX dX2_takesFigure_76 (by decide) ?_
      refine g_isub hX dX2_takesFigure_77 ?_
      refine g_istore_n (ls' := [(0, .ref 92), (1, .int x1), (2, .int ((((I 92 2) * 4) + (I 92 4)) - 1))]) hX dX2_takesFigure_78 rfl (by decide) rfl ?_
      refine g_aload_n hX 0 rfl rfl dX2_takesFigure_79 ?_
      refine g_getR (k := 1) (r' := 94) hX hPW flX2_takesFigure_15 sn92 so92 rfl (k92_1 _) dX2_takesFigure_80 ?_
      refine g_iload_n hX 2 rfl rfl dX2_takesFigure_83 ?_
      refine g_bipush (v := 10) hX dX2_takesFigure_84 (by decide) ?_
      refine g_aload_n hX 0 rfl rfl dX2_takesFigure_86 ?_
      refine g_getR (k := 1) (r' := 94) hX hPW flX2_takesFigure_15 sn92 so92 rfl (k92_1 _) dX2_takesFigure_87 ?_
      refine g_iload_n hX 2 rfl rfl dX2_takesFigure_90 ?_
      obtain ⟨zj2, zh1, zh3, k⟩ := k
      refine g_iald hX hPW sn94 sh94 zh1 zh3 (by decide) dX2_takesFigure_91 ?_
      refine g_imul hX dX2_takesFigure_92 ?_
      refine g_iload_n hX 1 rfl rfl dX2_takesFigure_93 ?_
      refine g_iadd hX dX2_takesFigure_94 ?_
      obtain ⟨zj5, zh4, zh6, k⟩ := k
      refine g_iast hX sn94 sh94 zh4 zh6 (by decide) dX2_takesFigure_95 ?_
      refine g_aload_n hX 0 rfl rfl dX2_takesFigure_96 ?_
      refine g_dup hX dX2_takesFigure_97 rfl ?_
      refine g_getI (k := 5) hX hPW flX2_takesFigure_48 sn92 so92 rfl dX2_takesFigure_98 ?_
      refine g_iconst (v := 1) hX dX2_takesFigure_101 (by decide) ?_
      refine g_iadd hX dX2_takesFigure_102 ?_
      refine g_putI (k := 5) hX fpX2_takesFigure_48 sn92 so92 rfl rfl rfl dX2_takesFigure_103 ?_
      refine g_iconst (v := 1) hX dX2_takesFigure_106 (by decide) ?_
      exact g_zreturn hX k (by decide) rfl rfl dX2_takesFigure_107
    · replace k := k.2 h
      refine g_aload_n hX 0 rfl rfl dX2_takesFigure_17 ?_
      refine g_getI (k := 4) hX hPW flX2_takesFigure_68 sn92 so92 rfl dX2_takesFigure_18 ?_
      refine g_aload_n hX 0 rfl rfl dX2_takesFigure_21 ?_
      refine g_getR (k := 0) (r' := 93) hX hPW flX2_takesFigure_9 sn92 so92 rfl (k92_0 _) dX2_takesFigure_22 ?_
      refine g_aload_n hX 0 rfl rfl dX2_takesFigure_25 ?_
      refine g_getI (k := 2) hX hPW flX2_takesFigure_18 sn92 so92 rfl dX2_takesFigure_26 ?_
      obtain ⟨zj8, zh7, zh9, k⟩ := k
      refine g_iald hX hPW sn93 sh93 zh7 zh9 (by decide) dX2_takesFigure_29 ?_
      obtain ⟨zr11, zhc10, k⟩ := k
      refine g_callS (cs' := 0) (sl' := 0) (as := [.int (I 93 zj8)]) (st := [.int (I 92 4)]) hX zhc10 gX2_takesFigure_X2_numbersOf rfl rfl ydX2_numbersOf (by decide) (Nat.le_of_ble_eq_true rfl) (by decide) dX2_takesFigure_30 rfl rfl ?_
      refine g_icmp_lt (tgt := 38) hX dX2_takesFigure_33 (by decide) (fun h => ?_) (fun h => ?_)
      · replace k := k.1 h
        refine g_aload_n hX 0 rfl rfl dX2_takesFigure_38 ?_
        refine g_getR (k := 1) (r' := 94) hX hPW flX2_takesFigure_15 sn92 so92 rfl (k92_1 _) dX2_takesFigure_39 ?_
        refine g_aload_n hX 0 rfl rfl dX2_takesFigure_42 ?_
        refine g_getI (k := 2) hX hPW flX2_takesFigure_18 sn92 so92 rfl dX2_takesFigure_43 ?_
        refine g_iconst (v := 4) hX dX2_takesFigure_46 (by decide) ?_
        refine g_imul hX dX2_takesFigure_47 ?_
        refine g_aload_n hX 0 rfl rfl dX2_takesFigure_48 ?_
        refine g_getI (k := 4) hX hPW flX2_takesFigure_68 sn92 so92 rfl dX2_takesFigure_49 ?_
        refine g_iadd hX dX2_takesFigure_52 ?_
        refine g_iconst (v := 0) hX dX2_takesFigure_53 (by decide) ?_
        obtain ⟨zj13, zh12, zh14, k⟩ := k
        refine g_iast hX sn94 sh94 zh12 zh14 (by decide) dX2_takesFigure_54 ?_
        refine g_aload_n hX 0 rfl rfl dX2_takesFigure_55 ?_
        refine g_dup hX dX2_takesFigure_56 rfl ?_
        refine g_getI (k := 4) hX hPW flX2_takesFigure_68 sn92 so92 rfl dX2_takesFigure_57 ?_
        refine g_iconst (v := 1) hX dX2_takesFigure_60 (by decide) ?_
        refine g_iadd hX dX2_takesFigure_61 ?_
        refine g_putI (k := 4) hX fpX2_takesFigure_68 sn92 so92 rfl rfl rfl dX2_takesFigure_62 ?_
        refine g_aload_n hX 0 rfl rfl dX2_takesFigure_65 ?_
        refine g_getI (k := 2) hX hPW flX2_takesFigure_18 sn92 so92 rfl dX2_takesFigure_66 ?_
        refine g_iconst (v := 4) hX dX2_takesFigure_69 (by decide) ?_
        refine g_imul hX dX2_takesFigure_70 ?_
        refine g_aload_n hX 0 rfl rfl dX2_takesFigure_71 ?_
        refine g_getI (k := 4) hX hPW flX2_takesFigure_68 sn92 so92 rfl dX2_takesFigure_72 ?_
        refine g_iadd hX dX2_takesFigure_75 ?_
        refine g_iconst (v := 1) hX dX2_takesFigure_76 (by decide) ?_
        refine g_isub hX dX2_takesFigure_77 ?_
        refine g_istore_n (ls' := [(0, .ref 92), (1, .int x1), (2, .int (((((upI (upI I 94 zj13 0) 92 4 (((upI I 94 zj13 0) 92 4) + 1)) 92 2) * 4) + ((upI (upI I 94 zj13 0) 92 4 (((upI I 94 zj13 0) 92 4) + 1)) 92 4)) - 1))]) hX dX2_takesFigure_78 rfl (by decide) rfl ?_
        refine g_aload_n hX 0 rfl rfl dX2_takesFigure_79 ?_
        refine g_getR (k := 1) (r' := 94) hX hPW flX2_takesFigure_15 sn92 so92 rfl (k92_1 _) dX2_takesFigure_80 ?_
        refine g_iload_n hX 2 rfl rfl dX2_takesFigure_83 ?_
        refine g_bipush (v := 10) hX dX2_takesFigure_84 (by decide) ?_
        refine g_aload_n hX 0 rfl rfl dX2_takesFigure_86 ?_
        refine g_getR (k := 1) (r' := 94) hX hPW flX2_takesFigure_15 sn92 so92 rfl (k92_1 _) dX2_takesFigure_87 ?_
        refine g_iload_n hX 2 rfl rfl dX2_takesFigure_90 ?_
        obtain ⟨zj16, zh15, zh17, k⟩ := k
        refine g_iald hX hPW sn94 sh94 zh15 zh17 (by decide) dX2_takesFigure_91 ?_
        refine g_imul hX dX2_takesFigure_92 ?_
        refine g_iload_n hX 1 rfl rfl dX2_takesFigure_93 ?_
        refine g_iadd hX dX2_takesFigure_94 ?_
        obtain ⟨zj19, zh18, zh20, k⟩ := k
        refine g_iast hX sn94 sh94 zh18 zh20 (by decide) dX2_takesFigure_95 ?_
        refine g_aload_n hX 0 rfl rfl dX2_takesFigure_96 ?_
        refine g_dup hX dX2_takesFigure_97 rfl ?_
        refine g_getI (k := 5) hX hPW flX2_takesFigure_48 sn92 so92 rfl dX2_takesFigure_98 ?_
        refine g_iconst (v := 1) hX dX2_takesFigure_101 (by decide) ?_
        refine g_iadd hX dX2_takesFigure_102 ?_
        refine g_putI (k := 5) hX fpX2_takesFigure_48 sn92 so92 rfl rfl rfl dX2_takesFigure_103 ?_
        refine g_iconst (v := 1) hX dX2_takesFigure_106 (by decide) ?_
        exact g_zreturn hX k (by decide) rfl rfl dX2_takesFigure_107
      · replace k := k.2 h
        refine g_iconst (v := 0) hX dX2_takesFigure_36 (by decide) ?_
        exact g_zreturn hX k (by decide) rfl rfl dX2_takesFigure_37
  · replace k := k.2 h
    refine g_iconst (v := 0) hX dX2_takesFigure_8 (by decide) ?_
    exact g_zreturn hX k (by decide) rfl rfl dX2_takesFigure_9
set_option maxRecDepth 4000 in
theorem RX2_numbersOf_0 {X : XT} {I : MI} {L : ML} {p : Nat → Nat}  (hX : Cx X cX2_numbersOf 1 RX2 wsX2_numbersOf rmX2_numbersOf) (x0 : Int32) (k : ((x0 = 99 → Rt X (some .int) rmX2_numbersOf (some (.int 2)) (HM X I L p)) ∧ ((x0 = 101 → Rt X (some .int) rmX2_numbersOf (some (.int 2)) (HM X I L p)) ∧ ((x0 = 112 → Rt X (some .int) rmX2_numbersOf (some (.int 4)) (HM X I L p)) ∧ ((x0 = 115 → Rt X (some .int) rmX2_numbersOf (some (.int 2)) (HM X I L p)) ∧ ((x0 = 120 → Rt X (some .int) rmX2_numbersOf (some (.int 1)) (HM X I L p)) ∧ (¬ x0 = 99 ∧ ¬ x0 = 101 ∧ ¬ x0 = 112 ∧ ¬ x0 = 115 ∧ ¬ x0 = 120 → Rt X (some .int) rmX2_numbersOf (some (.int 0)) (HM X I L p)))))))) : G X 0 0 0 [(0, .int x0)] [] (HM X I L p) := by
  refine g_iload_n hX 0 rfl rfl dX2_numbersOf_0 ?_
  by_cases c0 : x0 = 99
  · replace k := k.1 c0
    refine g_lookup (off := 53) (tgt := 54) hX dX2_numbersOf_1 (by decide) (by rw [c0]; decide) (by decide) ?_
    refine g_iconst (v := 2) hX dX2_numbersOf_54 (by decide) ?_
    exact g_ireturn hX k rfl rfl dX2_numbersOf_55
  · replace k := k.2
    by_cases c1 : x0 = 101
    · replace k := k.1 c1
      refine g_lookup (off := 53) (tgt := 54) hX dX2_numbersOf_1 (by decide) (by rw [c1]; decide) (by decide) ?_
      refine g_iconst (v := 2) hX dX2_numbersOf_54 (by decide) ?_
      exact g_ireturn hX k rfl rfl dX2_numbersOf_55
    · replace k := k.2
      by_cases c2 : x0 = 112
      · replace k := k.1 c2
        refine g_lookup (off := 51) (tgt := 52) hX dX2_numbersOf_1 (by decide) (by rw [c2]; decide) (by decide) ?_
        refine g_iconst (v := 4) hX dX2_numbersOf_52 (by decide) ?_
        exact g_ireturn hX k rfl rfl dX2_numbersOf_53
      · replace k := k.2
        by_cases c3 : x0 = 115
        · replace k := k.1 c3
          refine g_lookup (off := 53) (tgt := 54) hX dX2_numbersOf_1 (by decide) (by rw [c3]; decide) (by decide) ?_
          refine g_iconst (v := 2) hX dX2_numbersOf_54 (by decide) ?_
          exact g_ireturn hX k rfl rfl dX2_numbersOf_55
        · replace k := k.2
          by_cases c4 : x0 = 120
          · replace k := k.1 c4
            refine g_lookup (off := 55) (tgt := 56) hX dX2_numbersOf_1 (by decide) (by rw [c4]; decide) (by decide) ?_
            refine g_iconst (v := 1) hX dX2_numbersOf_56 (by decide) ?_
            exact g_ireturn hX k rfl rfl dX2_numbersOf_57
          · replace k := k.2
            replace k := k ⟨c0, c1, c2, c3, c4⟩
            refine g_lookup (off := 57) (tgt := 58) hX dX2_numbersOf_1 (by decide) (by dsimp only; rw [lv_osw c0 (show (99 : Int32).toInt = 99 by decide), lv_osw c1 (show (101 : Int32).toInt = 101 by decide), lv_osw c2 (show (112 : Int32).toInt = 112 by decide), lv_osw c3 (show (115 : Int32).toInt = 115 by decide), lv_osw c4 (show (120 : Int32).toInt = 120 by decide)]; rfl) (by decide) ?_
            refine g_iconst (v := 0) hX dX2_numbersOf_58 (by decide) ?_
            exact g_ireturn hX k rfl rfl dX2_numbersOf_59
set_option maxRecDepth 4000 in
theorem RX3_mark_0 {X : XT} {I : MI} {L : ML} {p : Nat → Nat}  (hX : Cx X cX3_mark 2 RX3 wsX3_mark rmX3_mark)  (k : (∃ zj1 : Nat, (I 13 1) = nI zj1 ∧ zj1 < 6 ∧ ((p zj1) < 7 ∧ ∃ (zI5 : MI), Ct (xE X) (xl X) yX0_copyFrom wsX0_copyFrom rmX0_copyFrom [.ref (dr (p zj1)), .ref 1] (HM X I L p) none (HM X zI5 L p) ∧ Rt X none rmX3_mark none (HM X zI5 L p)))) : G X 0 0 0 [(0, .ref 13), (1, .ref 1)] [] (HM X I L p) := by
  refine g_aload_n hX 0 rfl rfl dX3_mark_0 ?_
  refine g_getR (k := 0) (r' := 14) hX hPW flX3_mark_11 sn13 so13 rfl (k13_0 _) dX3_mark_1 ?_
  refine g_aload_n hX 0 rfl rfl dX3_mark_4 ?_
  refine g_getI (k := 1) hX hPW flX3_mark_18 sn13 so13 rfl dX3_mark_5 ?_
  obtain ⟨zj1, zh2, zh3, k⟩ := k
  refine g_aald hX hPW sn14 sh14 zh2 zh3 (by decide) (kkept zh3) dX3_mark_8 ?_
  refine g_aload_n hX 1 rfl rfl dX3_mark_9 ?_
  obtain ⟨zh6, k⟩ := k
  obtain ⟨zI5, zhc4, k⟩ := k
  refine g_callV (cs' := 0) (sl' := 0) (C := RX0) (as := [.ref 1]) (st := []) hX zhc4 hPW (drlt zh6) (drso zh6) rfl gX3_mark_X0_copyFrom rfl rfl rfl ydX0_copyFrom (by decide) (Nat.le_of_ble_eq_true rfl) (by decide) dX3_mark_10 rfl rfl ?_
  exact g_return hX k rfl rfl dX3_mark_13
set_option maxRecDepth 4000 in
theorem RX3_toMark_0 {X : XT} {I : MI} {L : ML} {p : Nat → Nat}  (hX : Cx X cX3_toMark 2 RX3 wsX3_toMark rmX3_toMark)  (k : (∃ zj1 : Nat, (I 13 1) = nI zj1 ∧ zj1 < 6 ∧ (∃ (zI5 : MI), Ct (xE X) (xl X) yX0_copyFrom wsX0_copyFrom rmX0_copyFrom [.ref 1, .ref (dr (p zj1))] (HM X I L p) none (HM X zI5 L p) ∧ Rt X none rmX3_toMark none (HM X zI5 L p)))) : G X 0 0 0 [(0, .ref 13), (1, .ref 1)] [] (HM X I L p) := by
  refine g_aload_n hX 1 rfl rfl dX3_toMark_0 ?_
  refine g_aload_n hX 0 rfl rfl dX3_toMark_1 ?_
  refine g_getR (k := 0) (r' := 14) hX hPW flX3_toMark_11 sn13 so13 rfl (k13_0 _) dX3_toMark_2 ?_
  refine g_aload_n hX 0 rfl rfl dX3_toMark_5 ?_
  refine g_getI (k := 1) hX hPW flX3_toMark_18 sn13 so13 rfl dX3_toMark_6 ?_
  obtain ⟨zj1, zh2, zh3, k⟩ := k
  refine g_aald hX hPW sn14 sh14 zh2 zh3 (by decide) (kkept zh3) dX3_toMark_9 ?_
  obtain ⟨zI5, zhc4, k⟩ := k
  refine g_callV (cs' := 0) (sl' := 0) (C := RX0) (as := [.ref (dr (p zj1))]) (st := []) hX zhc4 hPW sn1 so1 rfl gX3_toMark_X0_copyFrom rfl rfl rfl ydX0_copyFrom (by decide) (Nat.le_of_ble_eq_true rfl) (by decide) dX3_toMark_10 rfl rfl ?_
  exact g_return hX k rfl rfl dX3_toMark_13
set_option maxRecDepth 4000 in
theorem RX3_keep_0 {X : XT} {I : MI} {L : ML} {p : Nat → Nat}  (hX : Cx X cX3_keep 3 RX3 wsX3_keep rmX3_keep)  (k : ((5 ≤ (I 13 1) → G X 0 0 28 [(0, .ref 13), (1, .ref (dr (p 0))), (2, .int 0)] [] (HM X I L p)) ∧ (¬ 5 ≤ (I 13 1) → Rt X none rmX3_keep none (HM X (upI I 13 1 ((I 13 1) + 1)) L p)))) : G X 0 0 0 [(0, .ref 13)] [] (HM X I L p) := by
  refine g_aload_n hX 0 rfl rfl dX3_keep_0 ?_
  refine g_getI (k := 1) hX hPW flX3_keep_18 sn13 so13 rfl dX3_keep_1 ?_
  refine g_iconst (v := 5) hX dX3_keep_4 (by decide) ?_
  refine g_icmp_ge (tgt := 19) hX dX3_keep_5 (by decide) (fun h => ?_) (fun h => ?_)
  · replace k := k.1 h
    refine g_aload_n hX 0 rfl rfl dX3_keep_19 ?_
    refine g_getR (k := 0) (r' := 14) hX hPW flX3_keep_11 sn13 so13 rfl (k13_0 _) dX3_keep_20 ?_
    refine g_iconst (v := 0) hX dX3_keep_23 (by decide) ?_
    refine g_aald (j := 0) hX hPW sn14 sh14 rfl (by decide) (by decide) (kkept (by decide)) dX3_keep_24 ?_
    refine g_astore_n (ls' := [(0, .ref 13), (1, .ref (dr (p 0)))]) hX dX3_keep_25 rfl (by decide) rfl ?_
    refine g_iconst (v := 0) hX dX3_keep_26 (by decide) ?_
    refine g_istore_n (ls' := [(0, .ref 13), (1, .ref (dr (p 0))), (2, .int 0)]) hX dX3_keep_27 rfl (by decide) rfl ?_
    exact k
  · replace k := k.2 h
    refine g_aload_n hX 0 rfl rfl dX3_keep_8 ?_
    refine g_dup hX dX3_keep_9 rfl ?_
    refine g_getI (k := 1) hX hPW flX3_keep_18 sn13 so13 rfl dX3_keep_10 ?_
    refine g_iconst (v := 1) hX dX3_keep_13 (by decide) ?_
    refine g_iadd hX dX3_keep_14 ?_
    refine g_putI (k := 1) hX fpX3_keep_18 sn13 so13 rfl rfl rfl dX3_keep_15 ?_
    exact g_return hX k rfl rfl dX3_keep_18
set_option maxRecDepth 4000 in
theorem RX3_keep_28 {X : XT} {I : MI} {L : ML} {p : Nat → Nat}  (hX : Cx X cX3_keep 3 RX3 wsX3_keep rmX3_keep) (d1 : Nat) (x2 : Int32) (k : ((5 ≤ x2 → (d1 < 7 ∧ Rt X none rmX3_keep none (HM X I L (va_up p 5 d1)))) ∧ (¬ 5 ≤ x2 → (∃ zj2 : Nat, (x2 + 1) = nI zj2 ∧ zj2 < 6 ∧ (∃ zj6 : Nat, x2 = nI zj6 ∧ zj6 < 6 ∧ (p zj2) < 7 ∧ G X 0 0 28 [(0, .ref 13), (1, .ref (dr d1)), (2, .int (x2 + 1))] [] (HM X I L (va_up p zj6 (p zj2)))))))) : G X 0 0 28 [(0, .ref 13), (1, .ref (dr d1)), (2, .int x2)] [] (HM X I L p) := by
  refine g_iload_n hX 2 rfl rfl dX3_keep_28 ?_
  refine g_iconst (v := 5) hX dX3_keep_29 (by decide) ?_
  refine g_icmp_ge (tgt := 53) hX dX3_keep_30 (by decide) (fun h => ?_) (fun h => ?_)
  · replace k := k.1 h
    refine g_aload_n hX 0 rfl rfl dX3_keep_53 ?_
    refine g_getR (k := 0) (r' := 14) hX hPW flX3_keep_11 sn13 so13 rfl (k13_0 _) dX3_keep_54 ?_
    refine g_iconst (v := 5) hX dX3_keep_57 (by decide) ?_
    refine g_aload_n hX 1 rfl rfl dX3_keep_58 ?_
    obtain ⟨zh1, k⟩ := k
    refine g_aastK (j := 5) hX rfl (by decide) zh1 dX3_keep_59 ?_
    exact g_return hX k rfl rfl dX3_keep_60
  · replace k := k.2 h
    refine g_aload_n hX 0 rfl rfl dX3_keep_33 ?_
    refine g_getR (k := 0) (r' := 14) hX hPW flX3_keep_11 sn13 so13 rfl (k13_0 _) dX3_keep_34 ?_
    refine g_iload_n hX 2 rfl rfl dX3_keep_37 ?_
    refine g_aload_n hX 0 rfl rfl dX3_keep_38 ?_
    refine g_getR (k := 0) (r' := 14) hX hPW flX3_keep_11 sn13 so13 rfl (k13_0 _) dX3_keep_39 ?_
    refine g_iload_n hX 2 rfl rfl dX3_keep_42 ?_
    refine g_iconst (v := 1) hX dX3_keep_43 (by decide) ?_
    refine g_iadd hX dX3_keep_44 ?_
    obtain ⟨zj2, zh3, zh4, k⟩ := k
    refine g_aald hX hPW sn14 sh14 zh3 zh4 (by decide) (kkept zh4) dX3_keep_45 ?_
    obtain ⟨zj6, zh7, zh8, zh5, k⟩ := k
    refine g_aastK hX zh7 zh8 zh5 dX3_keep_46 ?_
    refine g_iinc (v := x2 + 1) (ls' := [(0, .ref 13), (1, .ref (dr d1)), (2, .int (x2 + 1))]) hX 2 rfl dX3_keep_47 rfl (by decide) rfl ?_
    refine g_goto (tgt := 28) hX dX3_keep_50 (by decide) ?_
    exact k
set_option maxRecDepth 4000 in
theorem RX3_undo_0 {X : XT} {I : MI} {L : ML} {p : Nat → Nat}  (hX : Cx X cX3_undo 2 RX3 wsX3_undo rmX3_undo)  (k : (((I 13 1) ≤ 0 → Rt X none rmX3_undo none (HM X I L p)) ∧ (¬ (I 13 1) ≤ 0 → (∃ zj1 : Nat, ((upI I 13 1 ((I 13 1) - 1)) 13 1) = nI zj1 ∧ zj1 < 6 ∧ (∃ (zI5 : MI), Ct (xE X) (xl X) yX0_copyFrom wsX0_copyFrom rmX0_copyFrom [.ref 1, .ref (dr (p zj1))] (HM X (upI I 13 1 ((I 13 1) - 1)) L p) none (HM X zI5 L p) ∧ Rt X none rmX3_undo none (HM X zI5 L p)))))) : G X 0 0 0 [(0, .ref 13), (1, .ref 1)] [] (HM X I L p) := by
  refine g_aload_n hX 0 rfl rfl dX3_undo_0 ?_
  refine g_getI (k := 1) hX hPW flX3_undo_18 sn13 so13 rfl dX3_undo_1 ?_
  refine g_if_le (tgt := 30) hX dX3_undo_4 (by decide) (fun h => ?_) (fun h => ?_)
  · replace k := k.1 h
    exact g_return hX k rfl rfl dX3_undo_30
  · replace k := k.2 h
    refine g_aload_n hX 0 rfl rfl dX3_undo_7 ?_
    refine g_dup hX dX3_undo_8 rfl ?_
    refine g_getI (k := 1) hX hPW flX3_undo_18 sn13 so13 rfl dX3_undo_9 ?_
    refine g_iconst (v := 1) hX dX3_undo_12 (by decide) ?_
    refine g_isub hX dX3_undo_13 ?_
    refine g_putI (k := 1) hX fpX3_undo_18 sn13 so13 rfl rfl rfl dX3_undo_14 ?_
    refine g_aload_n hX 1 rfl rfl dX3_undo_17 ?_
    refine g_aload_n hX 0 rfl rfl dX3_undo_18 ?_
    refine g_getR (k := 0) (r' := 14) hX hPW flX3_undo_11 sn13 so13 rfl (k13_0 _) dX3_undo_19 ?_
    refine g_aload_n hX 0 rfl rfl dX3_undo_22 ?_
    refine g_getI (k := 1) hX hPW flX3_undo_18 sn13 so13 rfl dX3_undo_23 ?_
    obtain ⟨zj1, zh2, zh3, k⟩ := k
    refine g_aald hX hPW sn14 sh14 zh2 zh3 (by decide) (kkept zh3) dX3_undo_26 ?_
    obtain ⟨zI5, zhc4, k⟩ := k
    refine g_callV (cs' := 0) (sl' := 0) (C := RX0) (as := [.ref (dr (p zj1))]) (st := []) hX zhc4 hPW sn1 so1 rfl gX3_undo_X0_copyFrom rfl rfl rfl ydX0_copyFrom (by decide) (Nat.le_of_ble_eq_true rfl) (by decide) dX3_undo_27 rfl rfl ?_
    exact g_return hX k rfl rfl dX3_undo_30
set_option maxRecDepth 4000 in
theorem RX4_compare_0 {X : XT} {I : MI} {L : ML} {p : Nat → Nat}  (hX : Cx X cX4_compare 4 RX4 wsX4_compare rmX4_compare)  (k : G X 0 0 7 [(0, .ref 90), (1, .ref 1), (2, .int 0)] [] (HM X (upI I 90 1 0) L p)) : G X 0 0 0 [(0, .ref 90), (1, .ref 1)] [] (HM X I L p) := by
  refine g_aload_n hX 0 rfl rfl dX4_compare_0 ?_
  refine g_iconst (v := 0) hX dX4_compare_1 (by decide) ?_
  refine g_putI (k := 1) hX fpX4_compare_15 sn90 so90 rfl rfl rfl dX4_compare_2 ?_
  refine g_iconst (v := 0) hX dX4_compare_5 (by decide) ?_
  refine g_istore_n (ls' := [(0, .ref 90), (1, .ref 1), (2, .int 0)]) hX dX4_compare_6 rfl (by decide) rfl ?_
  exact k
set_option maxRecDepth 4000 in
theorem RX4_compare_7 {X : XT} {I : MI} {L : ML} {p : Nat → Nat}  (hX : Cx X cX4_compare 4 RX4 wsX4_compare rmX4_compare) (x2 : Int32) (k : (((I 1 0) ≤ x2 → Rt X none rmX4_compare none (HM X I L p)) ∧ (¬ (I 1 0) ≤ x2 → G X 0 0 19 [(0, .ref 90), (1, .ref 1), (2, .int x2), (3, .int (x2 + 1))] [] (HM X I L p)))) : G X 0 0 7 [(0, .ref 90), (1, .ref 1), (2, .int x2)] [] (HM X I L p) := by
  refine g_iload_n hX 2 rfl rfl dX4_compare_7 ?_
  refine g_aload_n hX 1 rfl rfl dX4_compare_8 ?_
  refine g_getI (k := 0) hX hPW flX4_compare_19 sn1 so1 rfl dX4_compare_9 ?_
  refine g_icmp_ge (tgt := 80) hX dX4_compare_12 (by decide) (fun h => ?_) (fun h => ?_)
  · replace k := k.1 h
    exact g_return hX k rfl rfl dX4_compare_80
  · replace k := k.2 h
    refine g_iload_n hX 2 rfl rfl dX4_compare_15 ?_
    refine g_iconst (v := 1) hX dX4_compare_16 (by decide) ?_
    refine g_iadd hX dX4_compare_17 ?_
    refine g_istore_n (ls' := [(0, .ref 90), (1, .ref 1), (2, .int x2), (3, .int (x2 + 1))]) hX dX4_compare_18 rfl (by decide) rfl ?_
    exact k
set_option maxRecDepth 4000 in
theorem RX4_compare_19 {X : XT} {I : MI} {L : ML} {p : Nat → Nat}  (hX : Cx X cX4_compare 4 RX4 wsX4_compare rmX4_compare) (x2 : Int32) (x3 : Int32) (k : (((I 1 0) ≤ x3 → G X 0 0 7 [(0, .ref 90), (1, .ref 1), (2, .int (x2 + 1))] [] (HM X I L p)) ∧ (¬ (I 1 0) ≤ x3 → ((45 ≤ (I 90 1) → G X 0 0 7 [(0, .ref 90), (1, .ref 1), (2, .int (x2 + 1))] [] (HM X I L p)) ∧ (¬ 45 ≤ (I 90 1) → (∃ zj2 : Nat, x2 = nI zj2 ∧ zj2 < 10 ∧ (∃ zj5 : Nat, x3 = nI zj5 ∧ zj5 < 10 ∧ (∃ zj8 : Nat, (I 90 1) = nI zj8 ∧ zj8 < 45 ∧ G X 0 0 19 [(0, .ref 90), (1, .ref 1), (2, .int x2), (3, .int (x3 + 1))] [] (HM X (upI (upI I 91 zj8 ((I 11 zj2) ^^^ (I 11 zj5))) 90 1 (((upI I 91 zj8 ((I 11 zj2) ^^^ (I 11 zj5))) 90 1) + 1)) L p))))))))) : G X 0 0 19 [(0, .ref 90), (1, .ref 1), (2, .int x2), (3, .int x3)] [] (HM X I L p) := by
  refine g_iload_n hX 3 rfl rfl dX4_compare_19 ?_
  refine g_aload_n hX 1 rfl rfl dX4_compare_20 ?_
  refine g_getI (k := 0) hX hPW flX4_compare_19 sn1 so1 rfl dX4_compare_21 ?_
  refine g_icmp_ge (tgt := 74) hX dX4_compare_24 (by decide) (fun h => ?_) (fun h => ?_)
  · replace k := k.1 h
    refine g_iinc (v := x2 + 1) (ls' := [(0, .ref 90), (1, .ref 1), (2, .int (x2 + 1)), (3, .int x3)]) hX 2 rfl dX4_compare_74 rfl (by decide) rfl ?_
    refine g_goto (tgt := 7) hX dX4_compare_77 (by decide) ?_
    refine G.pick (ks := [0, 1, 2]) (ls' := [(0, .ref 90), (1, .ref 1), (2, .int (x2 + 1))]) rfl ?_
    exact k
  · replace k := k.2 h
    refine g_aload_n hX 0 rfl rfl dX4_compare_27 ?_
    refine g_getI (k := 1) hX hPW flX4_compare_15 sn90 so90 rfl dX4_compare_28 ?_
    refine g_bipush (v := 45) hX dX4_compare_31 (by decide) ?_
    refine g_icmp_ge (tgt := 74) hX dX4_compare_33 (by decide) (fun h => ?_) (fun h => ?_)
    · replace k := k.1 h
      refine g_iinc (v := x2 + 1) (ls' := [(0, .ref 90), (1, .ref 1), (2, .int (x2 + 1)), (3, .int x3)]) hX 2 rfl dX4_compare_74 rfl (by decide) rfl ?_
      refine g_goto (tgt := 7) hX dX4_compare_77 (by decide) ?_
      refine G.pick (ks := [0, 1, 2]) (ls' := [(0, .ref 90), (1, .ref 1), (2, .int (x2 + 1))]) rfl ?_
      exact k
    · replace k := k.2 h
      refine g_aload_n hX 0 rfl rfl dX4_compare_36 ?_
      refine g_getR (k := 0) (r' := 91) hX hPW flX4_compare_9 sn90 so90 rfl (k90_0 _) dX4_compare_37 ?_
      refine g_aload_n hX 0 rfl rfl dX4_compare_40 ?_
      refine g_getI (k := 1) hX hPW flX4_compare_15 sn90 so90 rfl dX4_compare_41 ?_
      refine g_aload_n hX 1 rfl rfl dX4_compare_44 ?_
      refine g_getR (k := 12) (r' := 11) hX hPW flX4_compare_24 sn1 so1 rfl (k1_12 _) dX4_compare_45 ?_
      refine g_iload_n hX 2 rfl rfl dX4_compare_48 ?_
      obtain ⟨zj2, zh1, zh3, k⟩ := k
      refine g_iald hX hPW sn11 sh11 zh1 zh3 (by decide) dX4_compare_49 ?_
      refine g_aload_n hX 1 rfl rfl dX4_compare_50 ?_
      refine g_getR (k := 12) (r' := 11) hX hPW flX4_compare_24 sn1 so1 rfl (k1_12 _) dX4_compare_51 ?_
      refine g_iload_n hX 3 rfl rfl dX4_compare_54 ?_
      obtain ⟨zj5, zh4, zh6, k⟩ := k
      refine g_iald hX hPW sn11 sh11 zh4 zh6 (by decide) dX4_compare_55 ?_
      refine g_ixor hX dX4_compare_56 ?_
      obtain ⟨zj8, zh7, zh9, k⟩ := k
      refine g_iast hX sn91 sh91 zh7 zh9 (by decide) dX4_compare_57 ?_
      refine g_aload_n hX 0 rfl rfl dX4_compare_58 ?_
      refine g_dup hX dX4_compare_59 rfl ?_
      refine g_getI (k := 1) hX hPW flX4_compare_15 sn90 so90 rfl dX4_compare_60 ?_
      refine g_iconst (v := 1) hX dX4_compare_63 (by decide) ?_
      refine g_iadd hX dX4_compare_64 ?_
      refine g_putI (k := 1) hX fpX4_compare_15 sn90 so90 rfl rfl rfl dX4_compare_65 ?_
      refine g_iinc (v := x3 + 1) (ls' := [(0, .ref 90), (1, .ref 1), (2, .int x2), (3, .int (x3 + 1))]) hX 3 rfl dX4_compare_68 rfl (by decide) rfl ?_
      refine g_goto (tgt := 19) hX dX4_compare_71 (by decide) ?_
      exact k
set_option maxRecDepth 4000 in
theorem RX4_untold_0 {X : XT} {I : MI} {L : ML} {p : Nat → Nat}  (hX : Cx X cX4_untold 4 RX4 wsX4_untold rmX4_untold) (x1 : Int32) (k : G X 0 0 4 [(0, .ref 90), (1, .int x1), (2, .int 0), (3, .int 0)] [] (HM X I L p)) : G X 0 0 0 [(0, .ref 90), (1, .int x1)] [] (HM X I L p) := by
  refine g_iconst (v := 0) hX dX4_untold_0 (by decide) ?_
  refine g_istore_n (ls' := [(0, .ref 90), (1, .int x1), (2, .int 0)]) hX dX4_untold_1 rfl (by decide) rfl ?_
  refine g_iconst (v := 0) hX dX4_untold_2 (by decide) ?_
  refine g_istore_n (ls' := [(0, .ref 90), (1, .int x1), (2, .int 0), (3, .int 0)]) hX dX4_untold_3 rfl (by decide) rfl ?_
  exact k
set_option maxRecDepth 4000 in
theorem RX4_untold_4 {X : XT} {I : MI} {L : ML} {p : Nat → Nat}  (hX : Cx X cX4_untold 4 RX4 wsX4_untold rmX4_untold) (x1 : Int32) (x2 : Int32) (x3 : Int32) (k : (((I 90 1) ≤ x3 → Rt X (some .int) rmX4_untold (some (.int x2)) (HM X I L p)) ∧ (¬ (I 90 1) ≤ x3 → (∃ zj2 : Nat, x3 = nI zj2 ∧ zj2 < 45 ∧ G X 0 0 4 [(0, .ref 90), (1, .int x1), (2, .int (if ((I 91 zj2) &&& x1) = 0 then x2 + 1 else x2 : Int32)), (3, .int (x3 + 1))] [] (HM X I L p))))) : G X 0 0 4 [(0, .ref 90), (1, .int x1), (2, .int x2), (3, .int x3)] [] (HM X I L p) := by
  refine g_iload_n hX 3 rfl rfl dX4_untold_4 ?_
  refine g_aload_n hX 0 rfl rfl dX4_untold_5 ?_
  refine g_getI (k := 1) hX hPW flX4_untold_15 sn90 so90 rfl dX4_untold_6 ?_
  refine g_icmp_ge (tgt := 32) hX dX4_untold_9 (by decide) (fun h => ?_) (fun h => ?_)
  · replace k := k.1 h
    refine g_iload_n hX 2 rfl rfl dX4_untold_32 ?_
    exact g_ireturn hX k rfl rfl dX4_untold_33
  · replace k := k.2 h
    refine g_aload_n hX 0 rfl rfl dX4_untold_12 ?_
    refine g_getR (k := 0) (r' := 91) hX hPW flX4_untold_9 sn90 so90 rfl (k90_0 _) dX4_untold_13 ?_
    refine g_iload_n hX 3 rfl rfl dX4_untold_16 ?_
    obtain ⟨zj2, zh1, zh3, k⟩ := k
    refine g_iald hX hPW sn91 sh91 zh1 zh3 (by decide) dX4_untold_17 ?_
    refine g_iload_n hX 1 rfl rfl dX4_untold_18 ?_
    refine g_iand hX dX4_untold_19 ?_
    have kJ : G X 0 0 26 [(0, .ref 90), (1, .int x1), (2, .int (if ((I 91 zj2) &&& x1) = 0 then x2 + 1 else x2 : Int32)), (3, .int x3)] [] (HM X I L p) := by
      refine g_iinc (v := x3 + 1) (ls' := [(0, .ref 90), (1, .int x1), (2, .int (if ((I 91 zj2) &&& x1) = 0 then x2 + 1 else x2 : Int32)), (3, .int (x3 + 1))]) hX 3 rfl dX4_untold_26 rfl (by decide) rfl ?_
      refine g_goto (tgt := 4) hX dX4_untold_29 (by decide) ?_
      exact k
    refine g_if_ne (tgt := 26) hX dX4_untold_20 (by decide) (fun h => ?_) (fun h => ?_)
    · rw [(show (if ((I 91 zj2) &&& x1) = 0 then x2 + 1 else x2 : Int32) = x2 from if_neg h)] at kJ
      exact kJ
    · rw [(show (if ((I 91 zj2) &&& x1) = 0 then x2 + 1 else x2 : Int32) = (x2 + 1) from if_pos h)] at kJ
      refine g_iinc (v := x2 + 1) (ls' := [(0, .ref 90), (1, .int x1), (2, .int (x2 + 1)), (3, .int x3)]) hX 2 rfl dX4_untold_23 rfl (by decide) rfl ?_
      exact kJ
set_option maxRecDepth 4000 in
theorem RX4_fewest_0 {X : XT} {I : MI} {L : ML} {p : Nat → Nat}  (hX : Cx X cX4_fewest 6 RX4 wsX4_fewest rmX4_fewest) (x1 : Int32) (k : G X 0 0 9 [(0, .ref 90), (1, .int x1), (2, .int (-1)), (3, .int (x1 + 1)), (4, .int 0)] [] (HM X I L p)) : G X 0 0 0 [(0, .ref 90), (1, .int x1)] [] (HM X I L p) := by
  refine g_iconst (v := (-1)) hX dX4_fewest_0 (by decide) ?_
  refine g_istore_n (ls' := [(0, .ref 90), (1, .int x1), (2, .int (-1))]) hX dX4_fewest_1 rfl (by decide) rfl ?_
  refine g_iload_n hX 1 rfl rfl dX4_fewest_2 ?_
  refine g_iconst (v := 1) hX dX4_fewest_3 (by decide) ?_
  refine g_iadd hX dX4_fewest_4 ?_
  refine g_istore_n (ls' := [(0, .ref 90), (1, .int x1), (2, .int (-1)), (3, .int (x1 + 1))]) hX dX4_fewest_5 rfl (by decide) rfl ?_
  refine g_iconst (v := 0) hX dX4_fewest_6 (by decide) ?_
  refine g_istore (ls' := [(0, .ref 90), (1, .int x1), (2, .int (-1)), (3, .int (x1 + 1)), (4, .int 0)]) hX dX4_fewest_7 (by decide) rfl ?_
  exact k
set_option maxRecDepth 4000 in
theorem RX4_fewest_9 {X : XT} {I : MI} {L : ML} {p : Nat → Nat}  (hX : Cx X cX4_fewest 6 RX4 wsX4_fewest rmX4_fewest) (x1 : Int32) (x2 : Int32) (x3 : Int32) (x4 : Int32) (k : (((jshl 1 x1) ≤ x4 → Rt X (some .int) rmX4_fewest (some (.int x2)) (HM X I L p)) ∧ (¬ (jshl 1 x1) ≤ x4 → (∃ (zr2 : Int32), Ct (xE X) (xl X) yJ6_bitCount_0f7a4 wsJ6_bitCount_0f7a4 rmJ6_bitCount_0f7a4 [.int x4] (HM X I L p) (some (.int zr2)) (HM X I L p) ∧ ((x3 ≤ zr2 → G X 0 0 9 [(0, .ref 90), (1, .int x1), (2, .int x2), (3, .int x3), (4, .int (x4 + 1))] [] (HM X I L p)) ∧ (¬ x3 ≤ zr2 → (∃ (zr4 : Int32), Ct (xE X) (xl X) yX4_tellsAll wsX4_tellsAll rmX4_tellsAll [.ref 90, .int x4] (HM X I L p) (some (.int zr4)) (HM X I L p) ∧ G X 0 0 9 [(0, .ref 90), (1, .int x1), (2, .int (if zr4 = 0 then x2 else x4 : Int32)), (3, .int (if zr4 = 0 then x3 else zr2 : Int32)), (4, .int (x4 + 1))] [] (HM X I L p)))))))) : G X 0 0 9 [(0, .ref 90), (1, .int x1), (2, .int x2), (3, .int x3), (4, .int x4)] [] (HM X I L p) := by
  refine g_iload hX 4 rfl dX4_fewest_9 ?_
  refine g_iconst (v := 1) hX dX4_fewest_11 (by decide) ?_
  refine g_iload_n hX 1 rfl rfl dX4_fewest_12 ?_
  refine g_ishl hX dX4_fewest_13 ?_
  refine g_icmp_ge (tgt := 51) hX dX4_fewest_14 (by decide) (fun h => ?_) (fun h => ?_)
  · replace k := k.1 h
    refine g_iload_n hX 2 rfl rfl dX4_fewest_51 ?_
    exact g_ireturn hX k rfl rfl dX4_fewest_52
  · replace k := k.2 h
    refine g_iload hX 4 rfl dX4_fewest_17 ?_
    obtain ⟨zr2, zhc1, k⟩ := k
    refine g_callS (cs' := 0) (sl' := 0) (as := [.int x4]) (st := []) hX zhc1 gX4_fewest_J6_bitCount_0f7a4 rfl rfl ydJ6_bitCount_0f7a4 (by decide) (Nat.le_of_ble_eq_true rfl) (by decide) dX4_fewest_19 rfl rfl ?_
    refine g_istore (ls' := [(0, .ref 90), (1, .int x1), (2, .int x2), (3, .int x3), (4, .int x4), (5, .int zr2)]) hX dX4_fewest_22 (by decide) rfl ?_
    refine g_iload hX 5 rfl dX4_fewest_24 ?_
    refine g_iload_n hX 3 rfl rfl dX4_fewest_26 ?_
    refine g_icmp_ge (tgt := 45) hX dX4_fewest_27 (by decide) (fun h => ?_) (fun h => ?_)
    · replace k := k.1 h
      refine g_iinc (v := x4 + 1) (ls' := [(0, .ref 90), (1, .int x1), (2, .int x2), (3, .int x3), (4, .int (x4 + 1)), (5, .int zr2)]) hX 4 rfl dX4_fewest_45 rfl (by decide) rfl ?_
      refine g_goto (tgt := 9) hX dX4_fewest_48 (by decide) ?_
      refine G.pick (ks := [0, 1, 2, 3, 4]) (ls' := [(0, .ref 90), (1, .int x1), (2, .int x2), (3, .int x3), (4, .int (x4 + 1))]) rfl ?_
      exact k
    · replace k := k.2 h
      refine g_aload_n hX 0 rfl rfl dX4_fewest_30 ?_
      refine g_iload hX 4 rfl dX4_fewest_31 ?_
      obtain ⟨zr4, zhc3, k⟩ := k
      refine g_callV (cs' := 0) (sl' := 0) (C := RX4) (as := [.int x4]) (st := []) hX zhc3 hPW sn90 so90 rfl gX4_fewest_X4_tellsAll rfl rfl rfl ydX4_tellsAll (by decide) (Nat.le_of_ble_eq_true rfl) (by decide) dX4_fewest_33 rfl rfl ?_
      have kJ : G X 0 0 45 [(0, .ref 90), (1, .int x1), (2, .int (if zr4 = 0 then x2 else x4 : Int32)), (3, .int (if zr4 = 0 then x3 else zr2 : Int32)), (4, .int x4), (5, .int zr2)] [] (HM X I L p) := by
        refine g_iinc (v := x4 + 1) (ls' := [(0, .ref 90), (1, .int x1), (2, .int (if zr4 = 0 then x2 else x4 : Int32)), (3, .int (if zr4 = 0 then x3 else zr2 : Int32)), (4, .int (x4 + 1)), (5, .int zr2)]) hX 4 rfl dX4_fewest_45 rfl (by decide) rfl ?_
        refine g_goto (tgt := 9) hX dX4_fewest_48 (by decide) ?_
        refine G.pick (ks := [0, 1, 2, 3, 4]) (ls' := [(0, .ref 90), (1, .int x1), (2, .int (if zr4 = 0 then x2 else x4 : Int32)), (3, .int (if zr4 = 0 then x3 else zr2 : Int32)), (4, .int (x4 + 1))]) rfl ?_
        exact k
      refine g_if_eq (tgt := 45) hX dX4_fewest_36 (by decide) (fun h => ?_) (fun h => ?_)
      · rw [(show (if zr4 = 0 then x2 else x4 : Int32) = x2 from if_pos h), (show (if zr4 = 0 then x3 else zr2 : Int32) = x3 from if_pos h)] at kJ
        exact kJ
      · rw [(show (if zr4 = 0 then x2 else x4 : Int32) = x4 from if_neg h), (show (if zr4 = 0 then x3 else zr2 : Int32) = zr2 from if_neg h)] at kJ
        refine g_iload hX 4 rfl dX4_fewest_39 ?_
        refine g_istore_n (ls' := [(0, .ref 90), (1, .int x1), (2, .int x4), (3, .int x3), (4, .int x4), (5, .int zr2)]) hX dX4_fewest_41 rfl (by decide) rfl ?_
        refine g_iload hX 5 rfl dX4_fewest_42 ?_
        refine g_istore_n (ls' := [(0, .ref 90), (1, .int x1), (2, .int x4), (3, .int zr2), (4, .int x4), (5, .int zr2)]) hX dX4_fewest_44 rfl (by decide) rfl ?_
        exact kJ
set_option maxRecDepth 4000 in
theorem RX4_tellsAll_0 {X : XT} {I : MI} {L : ML} {p : Nat → Nat}  (hX : Cx X cX4_tellsAll 3 RX4 wsX4_tellsAll rmX4_tellsAll) (x1 : Int32) (k : G X 0 0 2 [(0, .ref 90), (1, .int x1), (2, .int 0)] [] (HM X I L p)) : G X 0 0 0 [(0, .ref 90), (1, .int x1)] [] (HM X I L p) := by
  refine g_iconst (v := 0) hX dX4_tellsAll_0 (by decide) ?_
  refine g_istore_n (ls' := [(0, .ref 90), (1, .int x1), (2, .int 0)]) hX dX4_tellsAll_1 rfl (by decide) rfl ?_
  exact k
set_option maxRecDepth 4000 in
theorem RX4_tellsAll_2 {X : XT} {I : MI} {L : ML} {p : Nat → Nat}  (hX : Cx X cX4_tellsAll 3 RX4 wsX4_tellsAll rmX4_tellsAll) (x1 : Int32) (x2 : Int32) (k : (((I 90 1) ≤ x2 → Rt X (some .boolean) rmX4_tellsAll (some (.int 1)) (HM X I L p)) ∧ (¬ (I 90 1) ≤ x2 → (∃ zj2 : Nat, x2 = nI zj2 ∧ zj2 < 45 ∧ ((¬ ((I 91 zj2) &&& x1) = 0 → G X 0 0 2 [(0, .ref 90), (1, .int x1), (2, .int (x2 + 1))] [] (HM X I L p)) ∧ (((I 91 zj2) &&& x1) = 0 → Rt X (some .boolean) rmX4_tellsAll (some (.int 0)) (HM X I L p))))))) : G X 0 0 2 [(0, .ref 90), (1, .int x1), (2, .int x2)] [] (HM X I L p) := by
  refine g_iload_n hX 2 rfl rfl dX4_tellsAll_2 ?_
  refine g_aload_n hX 0 rfl rfl dX4_tellsAll_3 ?_
  refine g_getI (k := 1) hX hPW flX4_tellsAll_15 sn90 so90 rfl dX4_tellsAll_4 ?_
  refine g_icmp_ge (tgt := 29) hX dX4_tellsAll_7 (by decide) (fun h => ?_) (fun h => ?_)
  · replace k := k.1 h
    refine g_iconst (v := 1) hX dX4_tellsAll_29 (by decide) ?_
    exact g_zreturn hX k (by decide) rfl rfl dX4_tellsAll_30
  · replace k := k.2 h
    refine g_aload_n hX 0 rfl rfl dX4_tellsAll_10 ?_
    refine g_getR (k := 0) (r' := 91) hX hPW flX4_tellsAll_9 sn90 so90 rfl (k90_0 _) dX4_tellsAll_11 ?_
    refine g_iload_n hX 2 rfl rfl dX4_tellsAll_14 ?_
    obtain ⟨zj2, zh1, zh3, k⟩ := k
    refine g_iald hX hPW sn91 sh91 zh1 zh3 (by decide) dX4_tellsAll_15 ?_
    refine g_iload_n hX 1 rfl rfl dX4_tellsAll_16 ?_
    refine g_iand hX dX4_tellsAll_17 ?_
    refine g_if_ne (tgt := 23) hX dX4_tellsAll_18 (by decide) (fun h => ?_) (fun h => ?_)
    · replace k := k.1 h
      refine g_iinc (v := x2 + 1) (ls' := [(0, .ref 90), (1, .int x1), (2, .int (x2 + 1))]) hX 2 rfl dX4_tellsAll_23 rfl (by decide) rfl ?_
      refine g_goto (tgt := 2) hX dX4_tellsAll_26 (by decide) ?_
      exact k
    · replace k := k.2 h
      refine g_iconst (v := 0) hX dX4_tellsAll_21 (by decide) ?_
      exact g_zreturn hX k (by decide) rfl rfl dX4_tellsAll_22
set_option maxRecDepth 4000 in
theorem RX5_shaft_0 {X : XT} {I : MI} {L : ML} {p : Nat → Nat}  (hX : Cx X cX5_shaft 3 RX5 wsX5_shaft rmX5_shaft) (x1 : Int32) (x2 : Int32) (k : (∃ (zI2 : MI), Ct (xE X) (xl X) yX3_mark wsX3_mark rmX3_mark [.ref 13, .ref 1] (HM X I L p) none (HM X zI2 L p) ∧ (∃ (zr4 : Int32) (zI5 : MI), Ct (xE X) (xl X) yX0_addShaft wsX0_addShaft rmX0_addShaft [.ref 1, .int x1, .int x2] (HM X zI2 L p) (some (.int zr4)) (HM X zI5 L p) ∧ (∃ (zr7 : Int32) (zI8 : MI) (zq9 : Nat → Nat), Ct (xE X) (xl X) yX5_settled wsX5_settled rmX5_settled [.ref 0, .int zr4] (HM X zI5 L p) (some (.int zr7)) (HM X zI8 L zq9) ∧ Rt X (some .int) rmX5_shaft (some (.int zr7)) (HM X zI8 L zq9))))) : G X 0 0 0 [(0, .ref 0), (1, .int x1), (2, .int x2)] [] (HM X I L p) := by
  refine g_aload_n hX 0 rfl rfl dX5_shaft_0 ?_
  refine g_getR (k := 1) (r' := 13) hX hPW flX5_shaft_19 sn0 so0 rfl (k0_1 _) dX5_shaft_1 ?_
  refine g_aload_n hX 0 rfl rfl dX5_shaft_4 ?_
  refine g_getR (k := 0) (r' := 1) hX hPW flX5_shaft_12 sn0 so0 rfl (k0_0 _) dX5_shaft_5 ?_
  obtain ⟨zI2, zhc1, k⟩ := k
  refine g_callV (cs' := 0) (sl' := 0) (C := RX3) (as := [.ref 1]) (st := []) hX zhc1 hPW sn13 so13 rfl gX5_shaft_X3_mark rfl rfl rfl ydX3_mark (by decide) (Nat.le_of_ble_eq_true rfl) (by decide) dX5_shaft_8 rfl rfl ?_
  refine g_aload_n hX 0 rfl rfl dX5_shaft_11 ?_
  refine g_aload_n hX 0 rfl rfl dX5_shaft_12 ?_
  refine g_getR (k := 0) (r' := 1) hX hPW flX5_shaft_12 sn0 so0 rfl (k0_0 _) dX5_shaft_13 ?_
  refine g_iload_n hX 1 rfl rfl dX5_shaft_16 ?_
  refine g_iload_n hX 2 rfl rfl dX5_shaft_17 ?_
  obtain ⟨zr4, zI5, zhc3, k⟩ := k
  refine g_callV (cs' := 0) (sl' := 0) (C := RX0) (as := [.int x1, .int x2]) (st := [.ref 0]) hX zhc3 hPW sn1 so1 rfl gX5_shaft_X0_addShaft rfl rfl rfl ydX0_addShaft (by decide) (Nat.le_of_ble_eq_true rfl) (by decide) dX5_shaft_18 rfl rfl ?_
  obtain ⟨zr7, zI8, zq9, zhc6, k⟩ := k
  refine g_callV (cs' := 0) (sl' := 0) (C := RX5) (as := [.int zr4]) (st := []) hX zhc6 hPW sn0 so0 rfl gX5_shaft_X5_settled rfl rfl rfl ydX5_settled (by decide) (Nat.le_of_ble_eq_true rfl) (by decide) dX5_shaft_21 rfl rfl ?_
  exact g_ireturn hX k rfl rfl dX5_shaft_24
set_option maxRecDepth 4000 in
theorem RX5_sets_0 {X : XT} {I : MI} {L : ML} {p : Nat → Nat}  (hX : Cx X cX5_sets 4 RX5 wsX5_sets rmX5_sets) (x1 : Int32) (x2 : Int32) (x3 : Int32) (k : (∃ (zI2 : MI), Ct (xE X) (xl X) yX3_mark wsX3_mark rmX3_mark [.ref 13, .ref 1] (HM X I L p) none (HM X zI2 L p) ∧ (∃ (zr4 : Int32) (zI5 : MI), Ct (xE X) (xl X) yX0_changeShaft wsX0_changeShaft rmX0_changeShaft [.ref 1, .int x1, .int x2, .int x3] (HM X zI2 L p) (some (.int zr4)) (HM X zI5 L p) ∧ (∃ (zr7 : Int32) (zI8 : MI) (zq9 : Nat → Nat), Ct (xE X) (xl X) yX5_settled wsX5_settled rmX5_settled [.ref 0, .int zr4] (HM X zI5 L p) (some (.int zr7)) (HM X zI8 L zq9) ∧ Rt X (some .int) rmX5_sets (some (.int zr7)) (HM X zI8 L zq9))))) : G X 0 0 0 [(0, .ref 0), (1, .int x1), (2, .int x2), (3, .int x3)] [] (HM X I L p) := by
  refine g_aload_n hX 0 rfl rfl dX5_sets_0 ?_
  refine g_getR (k := 1) (r' := 13) hX hPW flX5_sets_19 sn0 so0 rfl (k0_1 _) dX5_sets_1 ?_
  refine g_aload_n hX 0 rfl rfl dX5_sets_4 ?_
  refine g_getR (k := 0) (r' := 1) hX hPW flX5_sets_12 sn0 so0 rfl (k0_0 _) dX5_sets_5 ?_
  obtain ⟨zI2, zhc1, k⟩ := k
  refine g_callV (cs' := 0) (sl' := 0) (C := RX3) (as := [.ref 1]) (st := []) hX zhc1 hPW sn13 so13 rfl gX5_sets_X3_mark rfl rfl rfl ydX3_mark (by decide) (Nat.le_of_ble_eq_true rfl) (by decide) dX5_sets_8 rfl rfl ?_
  refine g_aload_n hX 0 rfl rfl dX5_sets_11 ?_
  refine g_aload_n hX 0 rfl rfl dX5_sets_12 ?_
  refine g_getR (k := 0) (r' := 1) hX hPW flX5_sets_12 sn0 so0 rfl (k0_0 _) dX5_sets_13 ?_
  refine g_iload_n hX 1 rfl rfl dX5_sets_16 ?_
  refine g_iload_n hX 2 rfl rfl dX5_sets_17 ?_
  refine g_iload_n hX 3 rfl rfl dX5_sets_18 ?_
  obtain ⟨zr4, zI5, zhc3, k⟩ := k
  refine g_callV (cs' := 0) (sl' := 0) (C := RX0) (as := [.int x1, .int x2, .int x3]) (st := [.ref 0]) hX zhc3 hPW sn1 so1 rfl gX5_sets_X0_changeShaft rfl rfl rfl ydX0_changeShaft (by decide) (Nat.le_of_ble_eq_true rfl) (by decide) dX5_sets_19 rfl rfl ?_
  obtain ⟨zr7, zI8, zq9, zhc6, k⟩ := k
  refine g_callV (cs' := 0) (sl' := 0) (C := RX5) (as := [.int zr4]) (st := []) hX zhc6 hPW sn0 so0 rfl gX5_sets_X5_settled rfl rfl rfl ydX5_settled (by decide) (Nat.le_of_ble_eq_true rfl) (by decide) dX5_sets_22 rfl rfl ?_
  exact g_ireturn hX k rfl rfl dX5_sets_25
set_option maxRecDepth 4000 in
theorem RX5_pipe_0 {X : XT} {I : MI} {L : ML} {p : Nat → Nat}  (hX : Cx X cX5_pipe 5 RX5 wsX5_pipe rmX5_pipe) (x1 : Int32) (x2 : Int32) (x3 : Int32) (x4 : Int32) (k : (∃ (zI2 : MI), Ct (xE X) (xl X) yX3_mark wsX3_mark rmX3_mark [.ref 13, .ref 1] (HM X I L p) none (HM X zI2 L p) ∧ (∃ (zr4 : Int32) (zI5 : MI), Ct (xE X) (xl X) yX0_addPipe wsX0_addPipe rmX0_addPipe [.ref 1, .int x1, .int x2, .int x3, .int x4] (HM X zI2 L p) (some (.int zr4)) (HM X zI5 L p) ∧ (∃ (zr7 : Int32) (zI8 : MI) (zq9 : Nat → Nat), Ct (xE X) (xl X) yX5_settled wsX5_settled rmX5_settled [.ref 0, .int zr4] (HM X zI5 L p) (some (.int zr7)) (HM X zI8 L zq9) ∧ Rt X (some .int) rmX5_pipe (some (.int zr7)) (HM X zI8 L zq9))))) : G X 0 0 0 [(0, .ref 0), (1, .int x1), (2, .int x2), (3, .int x3), (4, .int x4)] [] (HM X I L p) := by
  refine g_aload_n hX 0 rfl rfl dX5_pipe_0 ?_
  refine g_getR (k := 1) (r' := 13) hX hPW flX5_pipe_19 sn0 so0 rfl (k0_1 _) dX5_pipe_1 ?_
  refine g_aload_n hX 0 rfl rfl dX5_pipe_4 ?_
  refine g_getR (k := 0) (r' := 1) hX hPW flX5_pipe_12 sn0 so0 rfl (k0_0 _) dX5_pipe_5 ?_
  obtain ⟨zI2, zhc1, k⟩ := k
  refine g_callV (cs' := 0) (sl' := 0) (C := RX3) (as := [.ref 1]) (st := []) hX zhc1 hPW sn13 so13 rfl gX5_pipe_X3_mark rfl rfl rfl ydX3_mark (by decide) (Nat.le_of_ble_eq_true rfl) (by decide) dX5_pipe_8 rfl rfl ?_
  refine g_aload_n hX 0 rfl rfl dX5_pipe_11 ?_
  refine g_aload_n hX 0 rfl rfl dX5_pipe_12 ?_
  refine g_getR (k := 0) (r' := 1) hX hPW flX5_pipe_12 sn0 so0 rfl (k0_0 _) dX5_pipe_13 ?_
  refine g_iload_n hX 1 rfl rfl dX5_pipe_16 ?_
  refine g_iload_n hX 2 rfl rfl dX5_pipe_17 ?_
  refine g_iload_n hX 3 rfl rfl dX5_pipe_18 ?_
  refine g_iload hX 4 rfl dX5_pipe_19 ?_
  obtain ⟨zr4, zI5, zhc3, k⟩ := k
  refine g_callV (cs' := 0) (sl' := 0) (C := RX0) (as := [.int x1, .int x2, .int x3, .int x4]) (st := [.ref 0]) hX zhc3 hPW sn1 so1 rfl gX5_pipe_X0_addPipe rfl rfl rfl ydX0_addPipe (by decide) (Nat.le_of_ble_eq_true rfl) (by decide) dX5_pipe_21 rfl rfl ?_
  obtain ⟨zr7, zI8, zq9, zhc6, k⟩ := k
  refine g_callV (cs' := 0) (sl' := 0) (C := RX5) (as := [.int zr4]) (st := []) hX zhc6 hPW sn0 so0 rfl gX5_pipe_X5_settled rfl rfl rfl ydX5_settled (by decide) (Nat.le_of_ble_eq_true rfl) (by decide) dX5_pipe_24 rfl rfl ?_
  exact g_ireturn hX k rfl rfl dX5_pipe_27
set_option maxRecDepth 4000 in
theorem RX5_drops_0 {X : XT} {I : MI} {L : ML} {p : Nat → Nat}  (hX : Cx X cX5_drops 2 RX5 wsX5_drops rmX5_drops) (x1 : Int32) (k : (∃ (zI2 : MI), Ct (xE X) (xl X) yX3_mark wsX3_mark rmX3_mark [.ref 13, .ref 1] (HM X I L p) none (HM X zI2 L p) ∧ (∃ (zr4 : Int32) (zI5 : MI), Ct (xE X) (xl X) yX0_dropPipe wsX0_dropPipe rmX0_dropPipe [.ref 1, .int x1] (HM X zI2 L p) (some (.int zr4)) (HM X zI5 L p) ∧ (∃ (zr7 : Int32) (zI8 : MI) (zq9 : Nat → Nat), Ct (xE X) (xl X) yX5_settled wsX5_settled rmX5_settled [.ref 0, .int zr4] (HM X zI5 L p) (some (.int zr7)) (HM X zI8 L zq9) ∧ Rt X (some .int) rmX5_drops (some (.int zr7)) (HM X zI8 L zq9))))) : G X 0 0 0 [(0, .ref 0), (1, .int x1)] [] (HM X I L p) := by
  refine g_aload_n hX 0 rfl rfl dX5_drops_0 ?_
  refine g_getR (k := 1) (r' := 13) hX hPW flX5_drops_19 sn0 so0 rfl (k0_1 _) dX5_drops_1 ?_
  refine g_aload_n hX 0 rfl rfl dX5_drops_4 ?_
  refine g_getR (k := 0) (r' := 1) hX hPW flX5_drops_12 sn0 so0 rfl (k0_0 _) dX5_drops_5 ?_
  obtain ⟨zI2, zhc1, k⟩ := k
  refine g_callV (cs' := 0) (sl' := 0) (C := RX3) (as := [.ref 1]) (st := []) hX zhc1 hPW sn13 so13 rfl gX5_drops_X3_mark rfl rfl rfl ydX3_mark (by decide) (Nat.le_of_ble_eq_true rfl) (by decide) dX5_drops_8 rfl rfl ?_
  refine g_aload_n hX 0 rfl rfl dX5_drops_11 ?_
  refine g_aload_n hX 0 rfl rfl dX5_drops_12 ?_
  refine g_getR (k := 0) (r' := 1) hX hPW flX5_drops_12 sn0 so0 rfl (k0_0 _) dX5_drops_13 ?_
  refine g_iload_n hX 1 rfl rfl dX5_drops_16 ?_
  obtain ⟨zr4, zI5, zhc3, k⟩ := k
  refine g_callV (cs' := 0) (sl' := 0) (C := RX0) (as := [.int x1]) (st := [.ref 0]) hX zhc3 hPW sn1 so1 rfl gX5_drops_X0_dropPipe rfl rfl rfl ydX0_dropPipe (by decide) (Nat.le_of_ble_eq_true rfl) (by decide) dX5_drops_17 rfl rfl ?_
  obtain ⟨zr7, zI8, zq9, zhc6, k⟩ := k
  refine g_callV (cs' := 0) (sl' := 0) (C := RX5) (as := [.int zr4]) (st := []) hX zhc6 hPW sn0 so0 rfl gX5_drops_X5_settled rfl rfl rfl ydX5_settled (by decide) (Nat.le_of_ble_eq_true rfl) (by decide) dX5_drops_20 rfl rfl ?_
  exact g_ireturn hX k rfl rfl dX5_drops_23
set_option maxRecDepth 4000 in
theorem RX5_of_0 {X : XT} {I : MI} {L : ML} {p : Nat → Nat}  (hX : Cx X cX5_of 3 RX5 wsX5_of rmX5_of) (x1 : Int32) (x2 : Int32) (k : (∃ (zr2 : Int32), Ct (xE X) (xl X) yX0_hasShaft wsX0_hasShaft rmX0_hasShaft [.ref 1, .int x1] (HM X I L p) (some (.int zr2)) (HM X I L p) ∧ ((¬ zr2 = 0 → ((x2 = 0 → (∃ zj4 : Nat, x1 = nI zj4 ∧ zj4 < 10 ∧ Rt X (some .int) rmX5_of (some (.int (I 2 zj4))) (HM X I L p))) ∧ ((x2 = 1 → (∃ zj7 : Nat, x1 = nI zj7 ∧ zj7 < 10 ∧ Rt X (some .int) rmX5_of (some (.int (I 3 zj7))) (HM X I L p))) ∧ ((x2 = 2 → (∃ (zr10 : Int32), Ct (xE X) (xl X) yX0_pipesAt wsX0_pipesAt rmX0_pipesAt [.ref 1, .ref 4, .int x1] (HM X I L p) (some (.int zr10)) (HM X I L p) ∧ Rt X (some .int) rmX5_of (some (.int zr10)) (HM X I L p))) ∧ ((x2 = 3 → (∃ (zr12 : Int32), Ct (xE X) (xl X) yX0_pipesAt wsX0_pipesAt rmX0_pipesAt [.ref 1, .ref 5, .int x1] (HM X I L p) (some (.int zr12)) (HM X I L p) ∧ Rt X (some .int) rmX5_of (some (.int zr12)) (HM X I L p))) ∧ ((x2 = 4 → (∃ zj14 : Nat, x1 = nI zj14 ∧ zj14 < 10 ∧ Rt X (some .int) rmX5_of (some (.int (I 11 zj14))) (HM X I L p))) ∧ ((x2 = 5 → (∃ (zr17 : Int32), Ct (xE X) (xl X) yX0_above wsX0_above rmX0_above [.ref 1, .int x1] (HM X I L p) (some (.int zr17)) (HM X I L p) ∧ Rt X (some .int) rmX5_of (some (.int zr17)) (HM X I L p))) ∧ (¬ x2 = 0 ∧ ¬ x2 = 1 ∧ ¬ x2 = 2 ∧ ¬ x2 = 3 ∧ ¬ x2 = 4 ∧ ¬ x2 = 5 → (∃ (zr19 : Int32) (zI20 : MI), Ct (xE X) (xl X) yX5_refused wsX5_refused rmX5_refused [.ref 0, .int (-2)] (HM X I L p) (some (.int zr19)) (HM X zI20 L p) ∧ Rt X (some .int) rmX5_of (some (.int zr19)) (HM X zI20 L p)))))))))) ∧ (zr2 = 0 → (∃ (zr22 : Int32) (zI23 : MI), Ct (xE X) (xl X) yX5_refused wsX5_refused rmX5_refused [.ref 0, .int (-2)] (HM X I L p) (some (.int zr22)) (HM X zI23 L p) ∧ Rt X (some .int) rmX5_of (some (.int zr22)) (HM X zI23 L p)))))) : G X 0 0 0 [(0, .ref 0), (1, .int x1), (2, .int x2)] [] (HM X I L p) := by
  refine g_aload_n hX 0 rfl rfl dX5_of_0 ?_
  refine g_getR (k := 0) (r' := 1) hX hPW flX5_of_12 sn0 so0 rfl (k0_0 _) dX5_of_1 ?_
  refine g_iload_n hX 1 rfl rfl dX5_of_4 ?_
  obtain ⟨zr2, zhc1, k⟩ := k
  refine g_callV (cs' := 0) (sl' := 0) (C := RX0) (as := [.int x1]) (st := []) hX zhc1 hPW sn1 so1 rfl gX5_of_X0_hasShaft rfl rfl rfl ydX0_hasShaft (by decide) (Nat.le_of_ble_eq_true rfl) (by decide) dX5_of_5 rfl rfl ?_
  refine g_if_ne (tgt := 18) hX dX5_of_8 (by decide) (fun h => ?_) (fun h => ?_)
  · replace k := k.1 h
    refine g_iload_n hX 2 rfl rfl dX5_of_18 ?_
    by_cases c0 : x2 = 0
    · replace k := k.1 c0
      refine g_tableIn (off := 37) (tgt := 56) hX dX5_of_19 (by rw [c0]; decide) (by rw [c0]; decide) (by rw [c0]; rfl) (by decide) ?_
      refine g_aload_n hX 0 rfl rfl dX5_of_56 ?_
      refine g_getR (k := 0) (r' := 1) hX hPW flX5_of_12 sn0 so0 rfl (k0_0 _) dX5_of_57 ?_
      refine g_getR (k := 1) (r' := 2) hX hPW flX5_of_78 sn1 so1 rfl (k1_1 _) dX5_of_60 ?_
      refine g_iload_n hX 1 rfl rfl dX5_of_63 ?_
      obtain ⟨zj4, zh3, zh5, k⟩ := k
      refine g_iald hX hPW sn2 sh2 zh3 zh5 (by decide) dX5_of_64 ?_
      exact g_ireturn hX k rfl rfl dX5_of_65
    · replace k := k.2
      by_cases c1 : x2 = 1
      · replace k := k.1 c1
        refine g_tableIn (off := 47) (tgt := 66) hX dX5_of_19 (by rw [c1]; decide) (by rw [c1]; decide) (by rw [c1]; rfl) (by decide) ?_
        refine g_aload_n hX 0 rfl rfl dX5_of_66 ?_
        refine g_getR (k := 0) (r' := 1) hX hPW flX5_of_12 sn0 so0 rfl (k0_0 _) dX5_of_67 ?_
        refine g_getR (k := 2) (r' := 3) hX hPW flX5_of_82 sn1 so1 rfl (k1_2 _) dX5_of_70 ?_
        refine g_iload_n hX 1 rfl rfl dX5_of_73 ?_
        obtain ⟨zj7, zh6, zh8, k⟩ := k
        refine g_iald hX hPW sn3 sh3 zh6 zh8 (by decide) dX5_of_74 ?_
        exact g_ireturn hX k rfl rfl dX5_of_75
      · replace k := k.2
        by_cases c2 : x2 = 2
        · replace k := k.1 c2
          refine g_tableIn (off := 57) (tgt := 76) hX dX5_of_19 (by rw [c2]; decide) (by rw [c2]; decide) (by rw [c2]; rfl) (by decide) ?_
          refine g_aload_n hX 0 rfl rfl dX5_of_76 ?_
          refine g_getR (k := 0) (r' := 1) hX hPW flX5_of_12 sn0 so0 rfl (k0_0 _) dX5_of_77 ?_
          refine g_aload_n hX 0 rfl rfl dX5_of_80 ?_
          refine g_getR (k := 0) (r' := 1) hX hPW flX5_of_12 sn0 so0 rfl (k0_0 _) dX5_of_81 ?_
          refine g_getR (k := 4) (r' := 4) hX hPW flX5_of_85 sn1 so1 rfl (k1_4 _) dX5_of_84 ?_
          refine g_iload_n hX 1 rfl rfl dX5_of_87 ?_
          obtain ⟨zr10, zhc9, k⟩ := k
          refine g_callV (cs' := 0) (sl' := 0) (C := RX0) (as := [.ref 4, .int x1]) (st := []) hX zhc9 hPW sn1 so1 rfl gX5_of_X0_pipesAt rfl rfl rfl ydX0_pipesAt (by decide) (Nat.le_of_ble_eq_true rfl) (by decide) dX5_of_88 rfl rfl ?_
          exact g_ireturn hX k rfl rfl dX5_of_91
        · replace k := k.2
          by_cases c3 : x2 = 3
          · replace k := k.1 c3
            refine g_tableIn (off := 73) (tgt := 92) hX dX5_of_19 (by rw [c3]; decide) (by rw [c3]; decide) (by rw [c3]; rfl) (by decide) ?_
            refine g_aload_n hX 0 rfl rfl dX5_of_92 ?_
            refine g_getR (k := 0) (r' := 1) hX hPW flX5_of_12 sn0 so0 rfl (k0_0 _) dX5_of_93 ?_
            refine g_aload_n hX 0 rfl rfl dX5_of_96 ?_
            refine g_getR (k := 0) (r' := 1) hX hPW flX5_of_12 sn0 so0 rfl (k0_0 _) dX5_of_97 ?_
            refine g_getR (k := 5) (r' := 5) hX hPW flX5_of_92 sn1 so1 rfl (k1_5 _) dX5_of_100 ?_
            refine g_iload_n hX 1 rfl rfl dX5_of_103 ?_
            obtain ⟨zr12, zhc11, k⟩ := k
            refine g_callV (cs' := 0) (sl' := 0) (C := RX0) (as := [.ref 5, .int x1]) (st := []) hX zhc11 hPW sn1 so1 rfl gX5_of_X0_pipesAt rfl rfl rfl ydX0_pipesAt (by decide) (Nat.le_of_ble_eq_true rfl) (by decide) dX5_of_104 rfl rfl ?_
            exact g_ireturn hX k rfl rfl dX5_of_107
          · replace k := k.2
            by_cases c4 : x2 = 4
            · replace k := k.1 c4
              refine g_tableIn (off := 89) (tgt := 108) hX dX5_of_19 (by rw [c4]; decide) (by rw [c4]; decide) (by rw [c4]; rfl) (by decide) ?_
              refine g_aload_n hX 0 rfl rfl dX5_of_108 ?_
              refine g_getR (k := 0) (r' := 1) hX hPW flX5_of_12 sn0 so0 rfl (k0_0 _) dX5_of_109 ?_
              refine g_getR (k := 12) (r' := 11) hX hPW flX5_of_95 sn1 so1 rfl (k1_12 _) dX5_of_112 ?_
              refine g_iload_n hX 1 rfl rfl dX5_of_115 ?_
              obtain ⟨zj14, zh13, zh15, k⟩ := k
              refine g_iald hX hPW sn11 sh11 zh13 zh15 (by decide) dX5_of_116 ?_
              exact g_ireturn hX k rfl rfl dX5_of_117
            · replace k := k.2
              by_cases c5 : x2 = 5
              · replace k := k.1 c5
                refine g_tableIn (off := 99) (tgt := 118) hX dX5_of_19 (by rw [c5]; decide) (by rw [c5]; decide) (by rw [c5]; rfl) (by decide) ?_
                refine g_aload_n hX 0 rfl rfl dX5_of_118 ?_
                refine g_getR (k := 0) (r' := 1) hX hPW flX5_of_12 sn0 so0 rfl (k0_0 _) dX5_of_119 ?_
                refine g_iload_n hX 1 rfl rfl dX5_of_122 ?_
                obtain ⟨zr17, zhc16, k⟩ := k
                refine g_callV (cs' := 0) (sl' := 0) (C := RX0) (as := [.int x1]) (st := []) hX zhc16 hPW sn1 so1 rfl gX5_of_X0_above rfl rfl rfl ydX0_above (by decide) (Nat.le_of_ble_eq_true rfl) (by decide) dX5_of_123 rfl rfl ?_
                exact g_ireturn hX k rfl rfl dX5_of_126
              · replace k := k.2
                replace k := k ⟨c0, c1, c2, c3, c4, c5⟩
                refine g_tableOut (tgt := 127) hX dX5_of_19 (by have ec0 := lv_neT c0 (show (0 : Int32).toInt = 0 by decide); have ec1 := lv_neT c1 (show (1 : Int32).toInt = 1 by decide); have ec2 := lv_neT c2 (show (2 : Int32).toInt = 2 by decide); have ec3 := lv_neT c3 (show (3 : Int32).toInt = 3 by decide); have ec4 := lv_neT c4 (show (4 : Int32).toInt = 4 by decide); have ec5 := lv_neT c5 (show (5 : Int32).toInt = 5 by decide); omega) (by decide) ?_
                refine g_aload_n hX 0 rfl rfl dX5_of_127 ?_
                refine g_bipush (v := (-2)) hX dX5_of_128 (by decide) ?_
                obtain ⟨zr19, zI20, zhc18, k⟩ := k
                refine g_callV (cs' := 0) (sl' := 0) (C := RX5) (as := [.int (-2)]) (st := []) hX zhc18 hPW sn0 so0 rfl gX5_of_X5_refused rfl rfl rfl ydX5_refused (by decide) (Nat.le_of_ble_eq_true rfl) (by decide) dX5_of_130 rfl rfl ?_
                exact g_ireturn hX k rfl rfl dX5_of_133
  · replace k := k.2 h
    refine g_aload_n hX 0 rfl rfl dX5_of_11 ?_
    refine g_bipush (v := (-2)) hX dX5_of_12 (by decide) ?_
    obtain ⟨zr22, zI23, zhc21, k⟩ := k
    refine g_callV (cs' := 0) (sl' := 0) (C := RX5) (as := [.int (-2)]) (st := []) hX zhc21 hPW sn0 so0 rfl gX5_of_X5_refused rfl rfl rfl ydX5_refused (by decide) (Nat.le_of_ble_eq_true rfl) (by decide) dX5_of_14 rfl rfl ?_
    exact g_ireturn hX k rfl rfl dX5_of_17
set_option maxRecDepth 4000 in
theorem RX5_about_0 {X : XT} {I : MI} {L : ML} {p : Nat → Nat}  (hX : Cx X cX5_about 3 RX5 wsX5_about rmX5_about) (x1 : Int32) (x2 : Int32) (k : (∃ (zr2 : Int32), Ct (xE X) (xl X) yX0_hasPipe wsX0_hasPipe rmX0_hasPipe [.ref 1, .int x1] (HM X I L p) (some (.int zr2)) (HM X I L p) ∧ ((¬ zr2 = 0 → ((x2 = 0 → (∃ zj4 : Nat, x1 = nI zj4 ∧ zj4 < 16 ∧ Rt X (some .int) rmX5_about (some (.int (I 4 zj4))) (HM X I L p))) ∧ ((x2 = 1 → (∃ zj7 : Nat, x1 = nI zj7 ∧ zj7 < 16 ∧ Rt X (some .int) rmX5_about (some (.int (I 5 zj7))) (HM X I L p))) ∧ ((x2 = 2 → (∃ zj10 : Nat, x1 = nI zj10 ∧ zj10 < 16 ∧ Rt X (some .int) rmX5_about (some (.int (I 6 zj10))) (HM X I L p))) ∧ ((x2 = 3 → (∃ zj13 : Nat, x1 = nI zj13 ∧ zj13 < 16 ∧ Rt X (some .int) rmX5_about (some (.int (I 7 zj13))) (HM X I L p))) ∧ (¬ x2 = 0 ∧ ¬ x2 = 1 ∧ ¬ x2 = 2 ∧ ¬ x2 = 3 → (∃ (zr16 : Int32) (zI17 : MI), Ct (xE X) (xl X) yX5_refused wsX5_refused rmX5_refused [.ref 0, .int (-2)] (HM X I L p) (some (.int zr16)) (HM X zI17 L p) ∧ Rt X (some .int) rmX5_about (some (.int zr16)) (HM X zI17 L p)))))))) ∧ (zr2 = 0 → (∃ (zr19 : Int32) (zI20 : MI), Ct (xE X) (xl X) yX5_refused wsX5_refused rmX5_refused [.ref 0, .int (-2)] (HM X I L p) (some (.int zr19)) (HM X zI20 L p) ∧ Rt X (some .int) rmX5_about (some (.int zr19)) (HM X zI20 L p)))))) : G X 0 0 0 [(0, .ref 0), (1, .int x1), (2, .int x2)] [] (HM X I L p) := by
  refine g_aload_n hX 0 rfl rfl dX5_about_0 ?_
  refine g_getR (k := 0) (r' := 1) hX hPW flX5_about_12 sn0 so0 rfl (k0_0 _) dX5_about_1 ?_
  refine g_iload_n hX 1 rfl rfl dX5_about_4 ?_
  obtain ⟨zr2, zhc1, k⟩ := k
  refine g_callV (cs' := 0) (sl' := 0) (C := RX0) (as := [.int x1]) (st := []) hX zhc1 hPW sn1 so1 rfl gX5_about_X0_hasPipe rfl rfl rfl ydX0_hasPipe (by decide) (Nat.le_of_ble_eq_true rfl) (by decide) dX5_about_5 rfl rfl ?_
  refine g_if_ne (tgt := 18) hX dX5_about_8 (by decide) (fun h => ?_) (fun h => ?_)
  · replace k := k.1 h
    refine g_iload_n hX 2 rfl rfl dX5_about_18 ?_
    by_cases c0 : x2 = 0
    · replace k := k.1 c0
      refine g_tableIn (off := 29) (tgt := 48) hX dX5_about_19 (by rw [c0]; decide) (by rw [c0]; decide) (by rw [c0]; rfl) (by decide) ?_
      refine g_aload_n hX 0 rfl rfl dX5_about_48 ?_
      refine g_getR (k := 0) (r' := 1) hX hPW flX5_about_12 sn0 so0 rfl (k0_0 _) dX5_about_49 ?_
      refine g_getR (k := 4) (r' := 4) hX hPW flX5_about_85 sn1 so1 rfl (k1_4 _) dX5_about_52 ?_
      refine g_iload_n hX 1 rfl rfl dX5_about_55 ?_
      obtain ⟨zj4, zh3, zh5, k⟩ := k
      refine g_iald hX hPW sn4 sh4 zh3 zh5 (by decide) dX5_about_56 ?_
      exact g_ireturn hX k rfl rfl dX5_about_57
    · replace k := k.2
      by_cases c1 : x2 = 1
      · replace k := k.1 c1
        refine g_tableIn (off := 39) (tgt := 58) hX dX5_about_19 (by rw [c1]; decide) (by rw [c1]; decide) (by rw [c1]; rfl) (by decide) ?_
        refine g_aload_n hX 0 rfl rfl dX5_about_58 ?_
        refine g_getR (k := 0) (r' := 1) hX hPW flX5_about_12 sn0 so0 rfl (k0_0 _) dX5_about_59 ?_
        refine g_getR (k := 5) (r' := 5) hX hPW flX5_about_92 sn1 so1 rfl (k1_5 _) dX5_about_62 ?_
        refine g_iload_n hX 1 rfl rfl dX5_about_65 ?_
        obtain ⟨zj7, zh6, zh8, k⟩ := k
        refine g_iald hX hPW sn5 sh5 zh6 zh8 (by decide) dX5_about_66 ?_
        exact g_ireturn hX k rfl rfl dX5_about_67
      · replace k := k.2
        by_cases c2 : x2 = 2
        · replace k := k.1 c2
          refine g_tableIn (off := 49) (tgt := 68) hX dX5_about_19 (by rw [c2]; decide) (by rw [c2]; decide) (by rw [c2]; rfl) (by decide) ?_
          refine g_aload_n hX 0 rfl rfl dX5_about_68 ?_
          refine g_getR (k := 0) (r' := 1) hX hPW flX5_about_12 sn0 so0 rfl (k0_0 _) dX5_about_69 ?_
          refine g_getR (k := 6) (r' := 6) hX hPW flX5_about_104 sn1 so1 rfl (k1_6 _) dX5_about_72 ?_
          refine g_iload_n hX 1 rfl rfl dX5_about_75 ?_
          obtain ⟨zj10, zh9, zh11, k⟩ := k
          refine g_iald hX hPW sn6 sh6 zh9 zh11 (by decide) dX5_about_76 ?_
          exact g_ireturn hX k rfl rfl dX5_about_77
        · replace k := k.2
          by_cases c3 : x2 = 3
          · replace k := k.1 c3
            refine g_tableIn (off := 59) (tgt := 78) hX dX5_about_19 (by rw [c3]; decide) (by rw [c3]; decide) (by rw [c3]; rfl) (by decide) ?_
            refine g_aload_n hX 0 rfl rfl dX5_about_78 ?_
            refine g_getR (k := 0) (r' := 1) hX hPW flX5_about_12 sn0 so0 rfl (k0_0 _) dX5_about_79 ?_
            refine g_getR (k := 7) (r' := 7) hX hPW flX5_about_107 sn1 so1 rfl (k1_7 _) dX5_about_82 ?_
            refine g_iload_n hX 1 rfl rfl dX5_about_85 ?_
            obtain ⟨zj13, zh12, zh14, k⟩ := k
            refine g_iald hX hPW sn7 sh7 zh12 zh14 (by decide) dX5_about_86 ?_
            exact g_ireturn hX k rfl rfl dX5_about_87
          · replace k := k.2
            replace k := k ⟨c0, c1, c2, c3⟩
            refine g_tableOut (tgt := 88) hX dX5_about_19 (by have ec0 := lv_neT c0 (show (0 : Int32).toInt = 0 by decide); have ec1 := lv_neT c1 (show (1 : Int32).toInt = 1 by decide); have ec2 := lv_neT c2 (show (2 : Int32).toInt = 2 by decide); have ec3 := lv_neT c3 (show (3 : Int32).toInt = 3 by decide); omega) (by decide) ?_
            refine g_aload_n hX 0 rfl rfl dX5_about_88 ?_
            refine g_bipush (v := (-2)) hX dX5_about_89 (by decide) ?_
            obtain ⟨zr16, zI17, zhc15, k⟩ := k
            refine g_callV (cs' := 0) (sl' := 0) (C := RX5) (as := [.int (-2)]) (st := []) hX zhc15 hPW sn0 so0 rfl gX5_about_X5_refused rfl rfl rfl ydX5_refused (by decide) (Nat.le_of_ble_eq_true rfl) (by decide) dX5_about_91 rfl rfl ?_
            exact g_ireturn hX k rfl rfl dX5_about_94
  · replace k := k.2 h
    refine g_aload_n hX 0 rfl rfl dX5_about_11 ?_
    refine g_bipush (v := (-2)) hX dX5_about_12 (by decide) ?_
    obtain ⟨zr19, zI20, zhc18, k⟩ := k
    refine g_callV (cs' := 0) (sl' := 0) (C := RX5) (as := [.int (-2)]) (st := []) hX zhc18 hPW sn0 so0 rfl gX5_about_X5_refused rfl rfl rfl ydX5_refused (by decide) (Nat.le_of_ble_eq_true rfl) (by decide) dX5_about_14 rfl rfl ?_
    exact g_ireturn hX k rfl rfl dX5_about_17
set_option maxRecDepth 4000 in
theorem RX5_comes_0 {X : XT} {I : MI} {L : ML} {p : Nat → Nat}  (hX : Cx X cX5_comes 4 RX5 wsX5_comes rmX5_comes) (x1 : Int32) (x2 : Int32) (x3 : Int32) (k : (∃ (zr2 : Int32), Ct (xE X) (xl X) yX5_isStart wsX5_isStart rmX5_isStart [.ref 0, .int x1, .int x2] (HM X I L p) (some (.int zr2)) (HM X I L p) ∧ ((zr2 = 0 → (∃ (zr4 : Int32) (zI5 : MI), Ct (xE X) (xl X) yX5_refused wsX5_refused rmX5_refused [.ref 0, .int (-2)] (HM X I L p) (some (.int zr4)) (HM X zI5 L p) ∧ Rt X (some .long) rmX5_comes (some (.long zr4.toInt64)) (HM X zI5 L p))) ∧ (¬ zr2 = 0 → (∃ (zr7 : Int32), Ct (xE X) (xl X) yX0_hasShaft wsX0_hasShaft rmX0_hasShaft [.ref 1, .int x3] (HM X I L p) (some (.int zr7)) (HM X I L p) ∧ ((¬ zr7 = 0 → (∃ (zL9 : ML), Ct (xE X) (xl X) yX1_walk wsX1_walk rmX1_walk [.ref 87, .ref 1, .int x1, .int x2] (HM X I L p) none (HM X I zL9 p) ∧ (∃ zj11 : Nat, x3 = nI zj11 ∧ zj11 < 10 ∧ Rt X (some .long) rmX5_comes (some (.long (zL9 88 zj11))) (HM X I zL9 p)))) ∧ (zr7 = 0 → (∃ (zr14 : Int32) (zI15 : MI), Ct (xE X) (xl X) yX5_refused wsX5_refused rmX5_refused [.ref 0, .int (-2)] (HM X I L p) (some (.int zr14)) (HM X zI15 L p) ∧ Rt X (some .long) rmX5_comes (some (.long zr14.toInt64)) (HM X zI15 L p))))))))) : G X 0 0 0 [(0, .ref 0), (1, .int x1), (2, .int x2), (3, .int x3)] [] (HM X I L p) := by
  refine g_aload_n hX 0 rfl rfl dX5_comes_0 ?_
  refine g_iload_n hX 1 rfl rfl dX5_comes_1 ?_
  refine g_iload_n hX 2 rfl rfl dX5_comes_2 ?_
  obtain ⟨zr2, zhc1, k⟩ := k
  refine g_callV (cs' := 0) (sl' := 0) (C := RX5) (as := [.int x1, .int x2]) (st := []) hX zhc1 hPW sn0 so0 rfl gX5_comes_X5_isStart rfl rfl rfl ydX5_isStart (by decide) (Nat.le_of_ble_eq_true rfl) (by decide) dX5_comes_3 rfl rfl ?_
  refine g_if_eq (tgt := 20) hX dX5_comes_6 (by decide) (fun h => ?_) (fun h => ?_)
  · replace k := k.1 h
    refine g_aload_n hX 0 rfl rfl dX5_comes_20 ?_
    refine g_bipush (v := (-2)) hX dX5_comes_21 (by decide) ?_
    obtain ⟨zr4, zI5, zhc3, k⟩ := k
    refine g_callV (cs' := 0) (sl' := 0) (C := RX5) (as := [.int (-2)]) (st := []) hX zhc3 hPW sn0 so0 rfl gX5_comes_X5_refused rfl rfl rfl ydX5_refused (by decide) (Nat.le_of_ble_eq_true rfl) (by decide) dX5_comes_23 rfl rfl ?_
    refine g_i2l hX dX5_comes_26 ?_
    exact g_lreturn hX k rfl rfl dX5_comes_27
  · replace k := k.2 h
    refine g_aload_n hX 0 rfl rfl dX5_comes_9 ?_
    refine g_getR (k := 0) (r' := 1) hX hPW flX5_comes_12 sn0 so0 rfl (k0_0 _) dX5_comes_10 ?_
    refine g_iload_n hX 3 rfl rfl dX5_comes_13 ?_
    obtain ⟨zr7, zhc6, k⟩ := k
    refine g_callV (cs' := 0) (sl' := 0) (C := RX0) (as := [.int x3]) (st := []) hX zhc6 hPW sn1 so1 rfl gX5_comes_X0_hasShaft rfl rfl rfl ydX0_hasShaft (by decide) (Nat.le_of_ble_eq_true rfl) (by decide) dX5_comes_14 rfl rfl ?_
    refine g_if_ne (tgt := 28) hX dX5_comes_17 (by decide) (fun h => ?_) (fun h => ?_)
    · replace k := k.1 h
      refine g_aload_n hX 0 rfl rfl dX5_comes_28 ?_
      refine g_getR (k := 2) (r' := 87) hX hPW flX5_comes_26 sn0 so0 rfl (k0_2 _) dX5_comes_29 ?_
      refine g_aload_n hX 0 rfl rfl dX5_comes_32 ?_
      refine g_getR (k := 0) (r' := 1) hX hPW flX5_comes_12 sn0 so0 rfl (k0_0 _) dX5_comes_33 ?_
      refine g_iload_n hX 1 rfl rfl dX5_comes_36 ?_
      refine g_iload_n hX 2 rfl rfl dX5_comes_37 ?_
      obtain ⟨zL9, zhc8, k⟩ := k
      refine g_callV (cs' := 0) (sl' := 0) (C := RX1) (as := [.ref 1, .int x1, .int x2]) (st := []) hX zhc8 hPW sn87 so87 rfl gX5_comes_X1_walk rfl rfl rfl ydX1_walk (by decide) (Nat.le_of_ble_eq_true rfl) (by decide) dX5_comes_38 rfl rfl ?_
      refine g_aload_n hX 0 rfl rfl dX5_comes_41 ?_
      refine g_getR (k := 2) (r' := 87) hX hPW flX5_comes_26 sn0 so0 rfl (k0_2 _) dX5_comes_42 ?_
      refine g_getR (k := 0) (r' := 88) hX hPW flX5_comes_118 sn87 so87 rfl (k87_0 _) dX5_comes_45 ?_
      refine g_iload_n hX 3 rfl rfl dX5_comes_48 ?_
      obtain ⟨zj11, zh10, zh12, k⟩ := k
      refine g_lald hX hPW sn88 sh88 zh10 zh12 (by decide) dX5_comes_49 ?_
      exact g_lreturn hX k rfl rfl dX5_comes_50
    · replace k := k.2 h
      refine g_aload_n hX 0 rfl rfl dX5_comes_20 ?_
      refine g_bipush (v := (-2)) hX dX5_comes_21 (by decide) ?_
      obtain ⟨zr14, zI15, zhc13, k⟩ := k
      refine g_callV (cs' := 0) (sl' := 0) (C := RX5) (as := [.int (-2)]) (st := []) hX zhc13 hPW sn0 so0 rfl gX5_comes_X5_refused rfl rfl rfl ydX5_refused (by decide) (Nat.le_of_ble_eq_true rfl) (by decide) dX5_comes_23 rfl rfl ?_
      refine g_i2l hX dX5_comes_26 ?_
      exact g_lreturn hX k rfl rfl dX5_comes_27
set_option maxRecDepth 4000 in
theorem RX5_times_0 {X : XT} {I : MI} {L : ML} {p : Nat → Nat}  (hX : Cx X cX5_times 7 RX5 wsX5_times rmX5_times) (x1 : Int32) (x2 : Int32) (x3 : Int32) (x4 : Int32) (k : (∃ (zr2 : Int32), Ct (xE X) (xl X) yX5_isStart wsX5_isStart rmX5_isStart [.ref 0, .int x1, .int x2] (HM X I L p) (some (.int zr2)) (HM X I L p) ∧ ((zr2 = 0 → (∃ (zr4 : Int32) (zI5 : MI), Ct (xE X) (xl X) yX5_refused wsX5_refused rmX5_refused [.ref 0, .int (-2)] (HM X I L p) (some (.int zr4)) (HM X zI5 L p) ∧ Rt X (some .int) rmX5_times (some (.int zr4)) (HM X zI5 L p))) ∧ (¬ zr2 = 0 → (∃ (zr7 : Int32), Ct (xE X) (xl X) yX0_hasShaft wsX0_hasShaft rmX0_hasShaft [.ref 1, .int x3] (HM X I L p) (some (.int zr7)) (HM X I L p) ∧ ((zr7 = 0 → (∃ (zr9 : Int32) (zI10 : MI), Ct (xE X) (xl X) yX5_refused wsX5_refused rmX5_refused [.ref 0, .int (-2)] (HM X I L p) (some (.int zr9)) (HM X zI10 L p) ∧ Rt X (some .int) rmX5_times (some (.int zr9)) (HM X zI10 L p))) ∧ (¬ zr7 = 0 → (∃ (zr12 : Int32), Ct (xE X) (xl X) yX5_within wsX5_within rmX5_within [.int x4, .int 0, .int 2] (HM X I L p) (some (.int zr12)) (HM X I L p) ∧ ((¬ zr12 = 0 → (∃ (zL14 : ML), Ct (xE X) (xl X) yX1_walk wsX1_walk rmX1_walk [.ref 87, .ref 1, .int x1, .int x2] (HM X I L p) none (HM X I zL14 p) ∧ (∃ zj16 : Nat, x3 = nI zj16 ∧ zj16 < 10 ∧ ((¬ x4 = 2 → ((¬ (jcmp (zL14 88 zj16) 0) = 0 → ((¬ x4 = 0 → (∃ (zr19 : Int32), Ct (xE X) (xl X) yJ13_numberOfLeadingZeros_95d88 wsJ13_numberOfLeadingZeros_95d88 rmJ13_numberOfLeadingZeros_95d88 [.long (zL14 88 zj16)] (HM X I zL14 p) (some (.int zr19)) (HM X I zL14 p) ∧ Rt X (some .int) rmX5_times (some (.int (63 - zr19))) (HM X I zL14 p))) ∧ (x4 = 0 → (∃ (zr21 : Int32), Ct (xE X) (xl X) yJ13_numberOfTrailingZeros_95d88 wsJ13_numberOfTrailingZeros_95d88 rmJ13_numberOfTrailingZeros_95d88 [.long (zL14 88 zj16)] (HM X I zL14 p) (some (.int zr21)) (HM X I zL14 p) ∧ Rt X (some .int) rmX5_times (some (.int zr21)) (HM X I zL14 p))))) ∧ ((jcmp (zL14 88 zj16) 0) = 0 → Rt X (some .int) rmX5_times (some (.int (-1))) (HM X I zL14 p)))) ∧ (x4 = 2 → (∃ (zr23 : Int32), Ct (xE X) (xl X) yJ13_bitCount_95d88 wsJ13_bitCount_95d88 rmJ13_bitCount_95d88 [.long (zL14 88 zj16)] (HM X I zL14 p) (some (.int zr23)) (HM X I zL14 p) ∧ Rt X (some .int) rmX5_times (some (.int zr23)) (HM X I zL14 p))))))) ∧ (zr12 = 0 → (∃ (zr25 : Int32) (zI26 : MI), Ct (xE X) (xl X) yX5_refused wsX5_refused rmX5_refused [.ref 0, .int (-2)] (HM X I L p) (some (.int zr25)) (HM X zI26 L p) ∧ Rt X (some .int) rmX5_times (some (.int zr25)) (HM X zI26 L p)))))))))))) : G X 0 0 0 [(0, .ref 0), (1, .int x1), (2, .int x2), (3, .int x3), (4, .int x4)] [] (HM X I L p) := by
  refine g_aload_n hX 0 rfl rfl dX5_times_0 ?_
  refine g_iload_n hX 1 rfl rfl dX5_times_1 ?_
  refine g_iload_n hX 2 rfl rfl dX5_times_2 ?_
  obtain ⟨zr2, zhc1, k⟩ := k
  refine g_callV (cs' := 0) (sl' := 0) (C := RX5) (as := [.int x1, .int x2]) (st := []) hX zhc1 hPW sn0 so0 rfl gX5_times_X5_isStart rfl rfl rfl ydX5_isStart (by decide) (Nat.le_of_ble_eq_true rfl) (by decide) dX5_times_3 rfl rfl ?_
  refine g_if_eq (tgt := 30) hX dX5_times_6 (by decide) (fun h => ?_) (fun h => ?_)
  · replace k := k.1 h
    refine g_aload_n hX 0 rfl rfl dX5_times_30 ?_
    refine g_bipush (v := (-2)) hX dX5_times_31 (by decide) ?_
    obtain ⟨zr4, zI5, zhc3, k⟩ := k
    refine g_callV (cs' := 0) (sl' := 0) (C := RX5) (as := [.int (-2)]) (st := []) hX zhc3 hPW sn0 so0 rfl gX5_times_X5_refused rfl rfl rfl ydX5_refused (by decide) (Nat.le_of_ble_eq_true rfl) (by decide) dX5_times_33 rfl rfl ?_
    exact g_ireturn hX k rfl rfl dX5_times_36
  · replace k := k.2 h
    refine g_aload_n hX 0 rfl rfl dX5_times_9 ?_
    refine g_getR (k := 0) (r' := 1) hX hPW flX5_times_12 sn0 so0 rfl (k0_0 _) dX5_times_10 ?_
    refine g_iload_n hX 3 rfl rfl dX5_times_13 ?_
    obtain ⟨zr7, zhc6, k⟩ := k
    refine g_callV (cs' := 0) (sl' := 0) (C := RX0) (as := [.int x3]) (st := []) hX zhc6 hPW sn1 so1 rfl gX5_times_X0_hasShaft rfl rfl rfl ydX0_hasShaft (by decide) (Nat.le_of_ble_eq_true rfl) (by decide) dX5_times_14 rfl rfl ?_
    refine g_if_eq (tgt := 30) hX dX5_times_17 (by decide) (fun h => ?_) (fun h => ?_)
    · replace k := k.1 h
      refine g_aload_n hX 0 rfl rfl dX5_times_30 ?_
      refine g_bipush (v := (-2)) hX dX5_times_31 (by decide) ?_
      obtain ⟨zr9, zI10, zhc8, k⟩ := k
      refine g_callV (cs' := 0) (sl' := 0) (C := RX5) (as := [.int (-2)]) (st := []) hX zhc8 hPW sn0 so0 rfl gX5_times_X5_refused rfl rfl rfl ydX5_refused (by decide) (Nat.le_of_ble_eq_true rfl) (by decide) dX5_times_33 rfl rfl ?_
      exact g_ireturn hX k rfl rfl dX5_times_36
    · replace k := k.2 h
      refine g_iload hX 4 rfl dX5_times_20 ?_
      refine g_iconst (v := 0) hX dX5_times_22 (by decide) ?_
      refine g_iconst (v := 2) hX dX5_times_23 (by decide) ?_
      obtain ⟨zr12, zhc11, k⟩ := k
      refine g_callS (cs' := 0) (sl' := 0) (as := [.int x4, .int 0, .int 2]) (st := []) hX zhc11 gX5_times_X5_within rfl rfl ydX5_within (by decide) (Nat.le_of_ble_eq_true rfl) (by decide) dX5_times_24 rfl rfl ?_
      refine g_if_ne (tgt := 37) hX dX5_times_27 (by decide) (fun h => ?_) (fun h => ?_)
      · replace k := k.1 h
        refine g_aload_n hX 0 rfl rfl dX5_times_37 ?_
        refine g_getR (k := 2) (r' := 87) hX hPW flX5_times_26 sn0 so0 rfl (k0_2 _) dX5_times_38 ?_
        refine g_aload_n hX 0 rfl rfl dX5_times_41 ?_
        refine g_getR (k := 0) (r' := 1) hX hPW flX5_times_12 sn0 so0 rfl (k0_0 _) dX5_times_42 ?_
        refine g_iload_n hX 1 rfl rfl dX5_times_45 ?_
        refine g_iload_n hX 2 rfl rfl dX5_times_46 ?_
        obtain ⟨zL14, zhc13, k⟩ := k
        refine g_callV (cs' := 0) (sl' := 0) (C := RX1) (as := [.ref 1, .int x1, .int x2]) (st := []) hX zhc13 hPW sn87 so87 rfl gX5_times_X1_walk rfl rfl rfl ydX1_walk (by decide) (Nat.le_of_ble_eq_true rfl) (by decide) dX5_times_47 rfl rfl ?_
        refine g_aload_n hX 0 rfl rfl dX5_times_50 ?_
        refine g_getR (k := 2) (r' := 87) hX hPW flX5_times_26 sn0 so0 rfl (k0_2 _) dX5_times_51 ?_
        refine g_getR (k := 0) (r' := 88) hX hPW flX5_times_118 sn87 so87 rfl (k87_0 _) dX5_times_54 ?_
        refine g_iload_n hX 3 rfl rfl dX5_times_57 ?_
        obtain ⟨zj16, zh15, zh17, k⟩ := k
        refine g_lald hX hPW sn88 sh88 zh15 zh17 (by decide) dX5_times_58 ?_
        refine g_lstore (ls' := [(0, .ref 0), (1, .int x1), (2, .int x2), (3, .int x3), (4, .int x4), (5, .long (zL14 88 zj16))]) hX dX5_times_59 (by decide) rfl ?_
        refine g_iload hX 4 rfl dX5_times_61 ?_
        refine g_iconst (v := 2) hX dX5_times_63 (by decide) ?_
        refine g_icmp_ne (tgt := 73) hX dX5_times_64 (by decide) (fun h => ?_) (fun h => ?_)
        · replace k := k.1 h
          refine g_lload hX 5 rfl dX5_times_73 ?_
          refine g_lconst (v := 0) hX dX5_times_75 (by decide) ?_
          refine g_lcmp hX dX5_times_76 ?_
          refine g_if_ne (tgt := 82) hX dX5_times_77 (by decide) (fun h => ?_) (fun h => ?_)
          · replace k := k.1 h
            refine g_iload hX 4 rfl dX5_times_82 ?_
            refine g_if_ne (tgt := 95) hX dX5_times_84 (by decide) (fun h => ?_) (fun h => ?_)
            · replace k := k.1 h
              refine g_bipush (v := 63) hX dX5_times_95 (by decide) ?_
              refine g_lload hX 5 rfl dX5_times_97 ?_
              obtain ⟨zr19, zhc18, k⟩ := k
              refine g_callS (cs' := 0) (sl' := 0) (as := [.long (zL14 88 zj16)]) (st := [.int 63]) hX zhc18 gX5_times_J13_numberOfLeadingZeros_95d88 rfl rfl ydJ13_numberOfLeadingZeros_95d88 (by decide) (Nat.le_of_ble_eq_true rfl) (by decide) dX5_times_99 rfl rfl ?_
              refine g_isub hX dX5_times_102 ?_
              exact g_ireturn hX k rfl rfl dX5_times_103
            · replace k := k.2 h
              refine g_lload hX 5 rfl dX5_times_87 ?_
              obtain ⟨zr21, zhc20, k⟩ := k
              refine g_callS (cs' := 0) (sl' := 0) (as := [.long (zL14 88 zj16)]) (st := []) hX zhc20 gX5_times_J13_numberOfTrailingZeros_95d88 rfl rfl ydJ13_numberOfTrailingZeros_95d88 (by decide) (Nat.le_of_ble_eq_true rfl) (by decide) dX5_times_89 rfl rfl ?_
              refine g_goto (tgt := 103) hX dX5_times_92 (by decide) ?_
              exact g_ireturn hX k rfl rfl dX5_times_103
          · replace k := k.2 h
            refine g_iconst (v := (-1)) hX dX5_times_80 (by decide) ?_
            exact g_ireturn hX k rfl rfl dX5_times_81
        · replace k := k.2 h
          refine g_lload hX 5 rfl dX5_times_67 ?_
          obtain ⟨zr23, zhc22, k⟩ := k
          refine g_callS (cs' := 0) (sl' := 0) (as := [.long (zL14 88 zj16)]) (st := []) hX zhc22 gX5_times_J13_bitCount_95d88 rfl rfl ydJ13_bitCount_95d88 (by decide) (Nat.le_of_ble_eq_true rfl) (by decide) dX5_times_69 rfl rfl ?_
          exact g_ireturn hX k rfl rfl dX5_times_72
      · replace k := k.2 h
        refine g_aload_n hX 0 rfl rfl dX5_times_30 ?_
        refine g_bipush (v := (-2)) hX dX5_times_31 (by decide) ?_
        obtain ⟨zr25, zI26, zhc24, k⟩ := k
        refine g_callV (cs' := 0) (sl' := 0) (C := RX5) (as := [.int (-2)]) (st := []) hX zhc24 hPW sn0 so0 rfl gX5_times_X5_refused rfl rfl rfl ydX5_refused (by decide) (Nat.le_of_ble_eq_true rfl) (by decide) dX5_times_33 rfl rfl ?_
        exact g_ireturn hX k rfl rfl dX5_times_36
set_option maxRecDepth 4000 in
theorem RX5_leaves_0 {X : XT} {I : MI} {L : ML} {p : Nat → Nat}  (hX : Cx X cX5_leaves 5 RX5 wsX5_leaves rmX5_leaves) (x1 : Int32) (x2 : Int32) (k : (∃ (zr2 : Int32), Ct (xE X) (xl X) yX0_hasShaft wsX0_hasShaft rmX0_hasShaft [.ref 1, .int x1] (HM X I L p) (some (.int zr2)) (HM X I L p) ∧ ((zr2 = 0 → (∃ (zr4 : Int32) (zI5 : MI), Ct (xE X) (xl X) yX5_refused wsX5_refused rmX5_refused [.ref 0, .int (-2)] (HM X I L p) (some (.int zr4)) (HM X zI5 L p) ∧ Rt X (some .int) rmX5_leaves (some (.int zr4)) (HM X zI5 L p))) ∧ (¬ zr2 = 0 → (∃ (zr7 : Int32), Ct (xE X) (xl X) yX5_within wsX5_within rmX5_within [.int x2, .int 0, .int 62] (HM X I L p) (some (.int zr7)) (HM X I L p) ∧ ((¬ zr7 = 0 → (∃ (zr9 : Int64), Ct (xE X) (xl X) yX0_leaving wsX0_leaving rmX0_leaving [.ref 1, .int x1, .long (jlshl 1 x2)] (HM X I L p) (some (.long zr9)) (HM X I L p) ∧ ((¬ (jcmp zr9 0) = 0 → (∃ (zr11 : Int32), Ct (xE X) (xl X) yJ13_numberOfTrailingZeros_95d88 wsJ13_numberOfTrailingZeros_95d88 rmJ13_numberOfTrailingZeros_95d88 [.long zr9] (HM X I L p) (some (.int zr11)) (HM X I L p) ∧ Rt X (some .int) rmX5_leaves (some (.int zr11)) (HM X I L p))) ∧ ((jcmp zr9 0) = 0 → Rt X (some .int) rmX5_leaves (some (.int (-1))) (HM X I L p))))) ∧ (zr7 = 0 → (∃ (zr13 : Int32) (zI14 : MI), Ct (xE X) (xl X) yX5_refused wsX5_refused rmX5_refused [.ref 0, .int (-2)] (HM X I L p) (some (.int zr13)) (HM X zI14 L p) ∧ Rt X (some .int) rmX5_leaves (some (.int zr13)) (HM X zI14 L p))))))))) : G X 0 0 0 [(0, .ref 0), (1, .int x1), (2, .int x2)] [] (HM X I L p) := by
  refine g_aload_n hX 0 rfl rfl dX5_leaves_0 ?_
  refine g_getR (k := 0) (r' := 1) hX hPW flX5_leaves_12 sn0 so0 rfl (k0_0 _) dX5_leaves_1 ?_
  refine g_iload_n hX 1 rfl rfl dX5_leaves_4 ?_
  obtain ⟨zr2, zhc1, k⟩ := k
  refine g_callV (cs' := 0) (sl' := 0) (C := RX0) (as := [.int x1]) (st := []) hX zhc1 hPW sn1 so1 rfl gX5_leaves_X0_hasShaft rfl rfl rfl ydX0_hasShaft (by decide) (Nat.le_of_ble_eq_true rfl) (by decide) dX5_leaves_5 rfl rfl ?_
  refine g_if_eq (tgt := 21) hX dX5_leaves_8 (by decide) (fun h => ?_) (fun h => ?_)
  · replace k := k.1 h
    refine g_aload_n hX 0 rfl rfl dX5_leaves_21 ?_
    refine g_bipush (v := (-2)) hX dX5_leaves_22 (by decide) ?_
    obtain ⟨zr4, zI5, zhc3, k⟩ := k
    refine g_callV (cs' := 0) (sl' := 0) (C := RX5) (as := [.int (-2)]) (st := []) hX zhc3 hPW sn0 so0 rfl gX5_leaves_X5_refused rfl rfl rfl ydX5_refused (by decide) (Nat.le_of_ble_eq_true rfl) (by decide) dX5_leaves_24 rfl rfl ?_
    exact g_ireturn hX k rfl rfl dX5_leaves_27
  · replace k := k.2 h
    refine g_iload_n hX 2 rfl rfl dX5_leaves_11 ?_
    refine g_iconst (v := 0) hX dX5_leaves_12 (by decide) ?_
    refine g_bipush (v := 62) hX dX5_leaves_13 (by decide) ?_
    obtain ⟨zr7, zhc6, k⟩ := k
    refine g_callS (cs' := 0) (sl' := 0) (as := [.int x2, .int 0, .int 62]) (st := []) hX zhc6 gX5_leaves_X5_within rfl rfl ydX5_within (by decide) (Nat.le_of_ble_eq_true rfl) (by decide) dX5_leaves_15 rfl rfl ?_
    refine g_if_ne (tgt := 28) hX dX5_leaves_18 (by decide) (fun h => ?_) (fun h => ?_)
    · replace k := k.1 h
      refine g_aload_n hX 0 rfl rfl dX5_leaves_28 ?_
      refine g_getR (k := 0) (r' := 1) hX hPW flX5_leaves_12 sn0 so0 rfl (k0_0 _) dX5_leaves_29 ?_
      refine g_iload_n hX 1 rfl rfl dX5_leaves_32 ?_
      refine g_lconst (v := 1) hX dX5_leaves_33 (by decide) ?_
      refine g_iload_n hX 2 rfl rfl dX5_leaves_34 ?_
      refine g_lshl hX dX5_leaves_35 ?_
      obtain ⟨zr9, zhc8, k⟩ := k
      refine g_callV (cs' := 0) (sl' := 0) (C := RX0) (as := [.int x1, .long (jlshl 1 x2)]) (st := []) hX zhc8 hPW sn1 so1 rfl gX5_leaves_X0_leaving rfl rfl rfl ydX0_leaving (by decide) (Nat.le_of_ble_eq_true rfl) (by decide) dX5_leaves_36 rfl rfl ?_
      refine g_lstore_n (ls' := [(0, .ref 0), (1, .int x1), (2, .int x2), (3, .long zr9)]) hX dX5_leaves_39 rfl (by decide) rfl ?_
      refine g_lload_n hX 3 rfl rfl dX5_leaves_40 ?_
      refine g_lconst (v := 0) hX dX5_leaves_41 (by decide) ?_
      refine g_lcmp hX dX5_leaves_42 ?_
      refine g_if_ne (tgt := 50) hX dX5_leaves_43 (by decide) (fun h => ?_) (fun h => ?_)
      · replace k := k.1 h
        refine g_lload_n hX 3 rfl rfl dX5_leaves_50 ?_
        obtain ⟨zr11, zhc10, k⟩ := k
        refine g_callS (cs' := 0) (sl' := 0) (as := [.long zr9]) (st := []) hX zhc10 gX5_leaves_J13_numberOfTrailingZeros_95d88 rfl rfl ydJ13_numberOfTrailingZeros_95d88 (by decide) (Nat.le_of_ble_eq_true rfl) (by decide) dX5_leaves_51 rfl rfl ?_
        exact g_ireturn hX k rfl rfl dX5_leaves_54
      · replace k := k.2 h
        refine g_iconst (v := (-1)) hX dX5_leaves_46 (by decide) ?_
        refine g_goto (tgt := 54) hX dX5_leaves_47 (by decide) ?_
        exact g_ireturn hX k rfl rfl dX5_leaves_54
    · replace k := k.2 h
      refine g_aload_n hX 0 rfl rfl dX5_leaves_21 ?_
      refine g_bipush (v := (-2)) hX dX5_leaves_22 (by decide) ?_
      obtain ⟨zr13, zI14, zhc12, k⟩ := k
      refine g_callV (cs' := 0) (sl' := 0) (C := RX5) (as := [.int (-2)]) (st := []) hX zhc12 hPW sn0 so0 rfl gX5_leaves_X5_refused rfl rfl rfl ydX5_refused (by decide) (Nat.le_of_ble_eq_true rfl) (by decide) dX5_leaves_24 rfl rfl ?_
      exact g_ireturn hX k rfl rfl dX5_leaves_27
set_option maxRecDepth 4000 in
theorem RX5_sight_0 {X : XT} {I : MI} {L : ML} {p : Nat → Nat}  (hX : Cx X cX5_sight 4 RX5 wsX5_sight rmX5_sight) (x1 : Int32) (x2 : Int32) (x3 : Int32) (k : (∃ (zI2 : MI), Ct (xE X) (xl X) yX3_mark wsX3_mark rmX3_mark [.ref 13, .ref 1] (HM X I L p) none (HM X zI2 L p) ∧ (∃ (zr4 : Int32) (zI5 : MI), Ct (xE X) (xl X) yX0_addSight wsX0_addSight rmX0_addSight [.ref 1, .int x1, .int x2, .int x3] (HM X zI2 L p) (some (.int zr4)) (HM X zI5 L p) ∧ (∃ (zr7 : Int32) (zI8 : MI) (zq9 : Nat → Nat), Ct (xE X) (xl X) yX5_settled wsX5_settled rmX5_settled [.ref 0, .int zr4] (HM X zI5 L p) (some (.int zr7)) (HM X zI8 L zq9) ∧ Rt X (some .int) rmX5_sight (some (.int zr7)) (HM X zI8 L zq9))))) : G X 0 0 0 [(0, .ref 0), (1, .int x1), (2, .int x2), (3, .int x3)] [] (HM X I L p) := by
  refine g_aload_n hX 0 rfl rfl dX5_sight_0 ?_
  refine g_getR (k := 1) (r' := 13) hX hPW flX5_sight_19 sn0 so0 rfl (k0_1 _) dX5_sight_1 ?_
  refine g_aload_n hX 0 rfl rfl dX5_sight_4 ?_
  refine g_getR (k := 0) (r' := 1) hX hPW flX5_sight_12 sn0 so0 rfl (k0_0 _) dX5_sight_5 ?_
  obtain ⟨zI2, zhc1, k⟩ := k
  refine g_callV (cs' := 0) (sl' := 0) (C := RX3) (as := [.ref 1]) (st := []) hX zhc1 hPW sn13 so13 rfl gX5_sight_X3_mark rfl rfl rfl ydX3_mark (by decide) (Nat.le_of_ble_eq_true rfl) (by decide) dX5_sight_8 rfl rfl ?_
  refine g_aload_n hX 0 rfl rfl dX5_sight_11 ?_
  refine g_aload_n hX 0 rfl rfl dX5_sight_12 ?_
  refine g_getR (k := 0) (r' := 1) hX hPW flX5_sight_12 sn0 so0 rfl (k0_0 _) dX5_sight_13 ?_
  refine g_iload_n hX 1 rfl rfl dX5_sight_16 ?_
  refine g_iload_n hX 2 rfl rfl dX5_sight_17 ?_
  refine g_iload_n hX 3 rfl rfl dX5_sight_18 ?_
  obtain ⟨zr4, zI5, zhc3, k⟩ := k
  refine g_callV (cs' := 0) (sl' := 0) (C := RX0) (as := [.int x1, .int x2, .int x3]) (st := [.ref 0]) hX zhc3 hPW sn1 so1 rfl gX5_sight_X0_addSight rfl rfl rfl ydX0_addSight (by decide) (Nat.le_of_ble_eq_true rfl) (by decide) dX5_sight_19 rfl rfl ?_
  obtain ⟨zr7, zI8, zq9, zhc6, k⟩ := k
  refine g_callV (cs' := 0) (sl' := 0) (C := RX5) (as := [.int zr4]) (st := []) hX zhc6 hPW sn0 so0 rfl gX5_sight_X5_settled rfl rfl rfl ydX5_settled (by decide) (Nat.le_of_ble_eq_true rfl) (by decide) dX5_sight_22 rfl rfl ?_
  exact g_ireturn hX k rfl rfl dX5_sight_25
set_option maxRecDepth 4000 in
theorem RX5_forget_0 {X : XT} {I : MI} {L : ML} {p : Nat → Nat}  (hX : Cx X cX5_forget 1 RX5 wsX5_forget rmX5_forget)  (k : (∃ (zI2 : MI), Ct (xE X) (xl X) yX3_mark wsX3_mark rmX3_mark [.ref 13, .ref 1] (HM X I L p) none (HM X zI2 L p) ∧ (∃ (zr4 : Int32) (zI5 : MI), Ct (xE X) (xl X) yX0_dropSights wsX0_dropSights rmX0_dropSights [.ref 1] (HM X zI2 L p) (some (.int zr4)) (HM X zI5 L p) ∧ (∃ (zr7 : Int32) (zI8 : MI) (zq9 : Nat → Nat), Ct (xE X) (xl X) yX5_settled wsX5_settled rmX5_settled [.ref 0, .int zr4] (HM X zI5 L p) (some (.int zr7)) (HM X zI8 L zq9) ∧ Rt X (some .int) rmX5_forget (some (.int zr7)) (HM X zI8 L zq9))))) : G X 0 0 0 [(0, .ref 0)] [] (HM X I L p) := by
  refine g_aload_n hX 0 rfl rfl dX5_forget_0 ?_
  refine g_getR (k := 1) (r' := 13) hX hPW flX5_forget_19 sn0 so0 rfl (k0_1 _) dX5_forget_1 ?_
  refine g_aload_n hX 0 rfl rfl dX5_forget_4 ?_
  refine g_getR (k := 0) (r' := 1) hX hPW flX5_forget_12 sn0 so0 rfl (k0_0 _) dX5_forget_5 ?_
  obtain ⟨zI2, zhc1, k⟩ := k
  refine g_callV (cs' := 0) (sl' := 0) (C := RX3) (as := [.ref 1]) (st := []) hX zhc1 hPW sn13 so13 rfl gX5_forget_X3_mark rfl rfl rfl ydX3_mark (by decide) (Nat.le_of_ble_eq_true rfl) (by decide) dX5_forget_8 rfl rfl ?_
  refine g_aload_n hX 0 rfl rfl dX5_forget_11 ?_
  refine g_aload_n hX 0 rfl rfl dX5_forget_12 ?_
  refine g_getR (k := 0) (r' := 1) hX hPW flX5_forget_12 sn0 so0 rfl (k0_0 _) dX5_forget_13 ?_
  obtain ⟨zr4, zI5, zhc3, k⟩ := k
  refine g_callV (cs' := 0) (sl' := 0) (C := RX0) (as := []) (st := [.ref 0]) hX zhc3 hPW sn1 so1 rfl gX5_forget_X0_dropSights rfl rfl rfl ydX0_dropSights (by decide) (Nat.le_of_ble_eq_true rfl) (by decide) dX5_forget_16 rfl rfl ?_
  obtain ⟨zr7, zI8, zq9, zhc6, k⟩ := k
  refine g_callV (cs' := 0) (sl' := 0) (C := RX5) (as := [.int zr4]) (st := []) hX zhc6 hPW sn0 so0 rfl gX5_forget_X5_settled rfl rfl rfl ydX5_settled (by decide) (Nat.le_of_ble_eq_true rfl) (by decide) dX5_forget_19 rfl rfl ?_
  exact g_ireturn hX k rfl rfl dX5_forget_22
set_option maxRecDepth 4000 in
theorem RX5_fits_0 {X : XT} {I : MI} {L : ML} {p : Nat → Nat}  (hX : Cx X cX5_fits 3 RX5 wsX5_fits rmX5_fits) (x1 : Int32) (x2 : Int32) (k : (∃ (zr2 : Int32), Ct (xE X) (xl X) yX5_isStart wsX5_isStart rmX5_isStart [.ref 0, .int x1, .int x2] (HM X I L p) (some (.int zr2)) (HM X I L p) ∧ ((¬ zr2 = 0 → (∃ (zL4 : ML), Ct (xE X) (xl X) yX1_walk wsX1_walk rmX1_walk [.ref 87, .ref 1, .int x1, .int x2] (HM X I L p) none (HM X I zL4 p) ∧ (∃ (zr6 : Int32), Ct (xE X) (xl X) yX1_agrees wsX1_agrees rmX1_agrees [.ref 87, .ref 1] (HM X I zL4 p) (some (.int zr6)) (HM X I zL4 p) ∧ Rt X (some .int) rmX5_fits (some (.int (if zr6 = 0 then 0 else 1 : Int32))) (HM X I zL4 p)))) ∧ (zr2 = 0 → (∃ (zr8 : Int32) (zI9 : MI), Ct (xE X) (xl X) yX5_refused wsX5_refused rmX5_refused [.ref 0, .int (-2)] (HM X I L p) (some (.int zr8)) (HM X zI9 L p) ∧ Rt X (some .int) rmX5_fits (some (.int zr8)) (HM X zI9 L p)))))) : G X 0 0 0 [(0, .ref 0), (1, .int x1), (2, .int x2)] [] (HM X I L p) := by
  refine g_aload_n hX 0 rfl rfl dX5_fits_0 ?_
  refine g_iload_n hX 1 rfl rfl dX5_fits_1 ?_
  refine g_iload_n hX 2 rfl rfl dX5_fits_2 ?_
  obtain ⟨zr2, zhc1, k⟩ := k
  refine g_callV (cs' := 0) (sl' := 0) (C := RX5) (as := [.int x1, .int x2]) (st := []) hX zhc1 hPW sn0 so0 rfl gX5_fits_X5_isStart rfl rfl rfl ydX5_isStart (by decide) (Nat.le_of_ble_eq_true rfl) (by decide) dX5_fits_3 rfl rfl ?_
  refine g_if_ne (tgt := 16) hX dX5_fits_6 (by decide) (fun h => ?_) (fun h => ?_)
  · replace k := k.1 h
    refine g_aload_n hX 0 rfl rfl dX5_fits_16 ?_
    refine g_getR (k := 2) (r' := 87) hX hPW flX5_fits_26 sn0 so0 rfl (k0_2 _) dX5_fits_17 ?_
    refine g_aload_n hX 0 rfl rfl dX5_fits_20 ?_
    refine g_getR (k := 0) (r' := 1) hX hPW flX5_fits_12 sn0 so0 rfl (k0_0 _) dX5_fits_21 ?_
    refine g_iload_n hX 1 rfl rfl dX5_fits_24 ?_
    refine g_iload_n hX 2 rfl rfl dX5_fits_25 ?_
    obtain ⟨zL4, zhc3, k⟩ := k
    refine g_callV (cs' := 0) (sl' := 0) (C := RX1) (as := [.ref 1, .int x1, .int x2]) (st := []) hX zhc3 hPW sn87 so87 rfl gX5_fits_X1_walk rfl rfl rfl ydX1_walk (by decide) (Nat.le_of_ble_eq_true rfl) (by decide) dX5_fits_26 rfl rfl ?_
    refine g_aload_n hX 0 rfl rfl dX5_fits_29 ?_
    refine g_getR (k := 2) (r' := 87) hX hPW flX5_fits_26 sn0 so0 rfl (k0_2 _) dX5_fits_30 ?_
    refine g_aload_n hX 0 rfl rfl dX5_fits_33 ?_
    refine g_getR (k := 0) (r' := 1) hX hPW flX5_fits_12 sn0 so0 rfl (k0_0 _) dX5_fits_34 ?_
    obtain ⟨zr6, zhc5, k⟩ := k
    refine g_callV (cs' := 0) (sl' := 0) (C := RX1) (as := [.ref 1]) (st := []) hX zhc5 hPW sn87 so87 rfl gX5_fits_X1_agrees rfl rfl rfl ydX1_agrees (by decide) (Nat.le_of_ble_eq_true rfl) (by decide) dX5_fits_37 rfl rfl ?_
    have kJ : G X 0 0 48 [(0, .ref 0), (1, .int x1), (2, .int x2)] [.int (if zr6 = 0 then 0 else 1 : Int32)] (HM X I zL4 p) := by
      exact g_ireturn hX k rfl rfl dX5_fits_48
    refine g_if_eq (tgt := 47) hX dX5_fits_40 (by decide) (fun h => ?_) (fun h => ?_)
    · rw [(show (if zr6 = 0 then 0 else 1 : Int32) = 0 from if_pos h)] at kJ
      refine g_iconst (v := 0) hX dX5_fits_47 (by decide) ?_
      exact kJ
    · rw [(show (if zr6 = 0 then 0 else 1 : Int32) = 1 from if_neg h)] at kJ
      refine g_iconst (v := 1) hX dX5_fits_43 (by decide) ?_
      refine g_goto (tgt := 48) hX dX5_fits_44 (by decide) ?_
      exact kJ
  · replace k := k.2 h
    refine g_aload_n hX 0 rfl rfl dX5_fits_9 ?_
    refine g_bipush (v := (-2)) hX dX5_fits_10 (by decide) ?_
    obtain ⟨zr8, zI9, zhc7, k⟩ := k
    refine g_callV (cs' := 0) (sl' := 0) (C := RX5) (as := [.int (-2)]) (st := []) hX zhc7 hPW sn0 so0 rfl gX5_fits_X5_refused rfl rfl rfl ydX5_refused (by decide) (Nat.le_of_ble_eq_true rfl) (by decide) dX5_fits_12 rfl rfl ?_
    exact g_ireturn hX k rfl rfl dX5_fits_15
set_option maxRecDepth 4000 in
theorem RX5_when_0 {X : XT} {I : MI} {L : ML} {p : Nat → Nat}  (hX : Cx X cX5_when 2 RX5 wsX5_when rmX5_when) (x1 : Int32) (k : (∃ (zr2 : Int32), Ct (xE X) (xl X) yX0_hasShaft wsX0_hasShaft rmX0_hasShaft [.ref 1, .int x1] (HM X I L p) (some (.int zr2)) (HM X I L p) ∧ ((¬ zr2 = 0 → (∃ (zr4 : Int32) (zI5 : MI) (zL6 : ML), Ct (xE X) (xl X) yX1_startsAt wsX1_startsAt rmX1_startsAt [.ref 87, .ref 1, .int x1] (HM X I L p) (some (.int zr4)) (HM X zI5 zL6 p) ∧ Rt X (some .int) rmX5_when (some (.int zr4)) (HM X zI5 zL6 p))) ∧ (zr2 = 0 → (∃ (zr8 : Int32) (zI9 : MI), Ct (xE X) (xl X) yX5_refused wsX5_refused rmX5_refused [.ref 0, .int (-2)] (HM X I L p) (some (.int zr8)) (HM X zI9 L p) ∧ Rt X (some .int) rmX5_when (some (.int zr8)) (HM X zI9 L p)))))) : G X 0 0 0 [(0, .ref 0), (1, .int x1)] [] (HM X I L p) := by
  refine g_aload_n hX 0 rfl rfl dX5_when_0 ?_
  refine g_getR (k := 0) (r' := 1) hX hPW flX5_when_12 sn0 so0 rfl (k0_0 _) dX5_when_1 ?_
  refine g_iload_n hX 1 rfl rfl dX5_when_4 ?_
  obtain ⟨zr2, zhc1, k⟩ := k
  refine g_callV (cs' := 0) (sl' := 0) (C := RX0) (as := [.int x1]) (st := []) hX zhc1 hPW sn1 so1 rfl gX5_when_X0_hasShaft rfl rfl rfl ydX0_hasShaft (by decide) (Nat.le_of_ble_eq_true rfl) (by decide) dX5_when_5 rfl rfl ?_
  refine g_if_ne (tgt := 18) hX dX5_when_8 (by decide) (fun h => ?_) (fun h => ?_)
  · replace k := k.1 h
    refine g_aload_n hX 0 rfl rfl dX5_when_18 ?_
    refine g_getR (k := 2) (r' := 87) hX hPW flX5_when_26 sn0 so0 rfl (k0_2 _) dX5_when_19 ?_
    refine g_aload_n hX 0 rfl rfl dX5_when_22 ?_
    refine g_getR (k := 0) (r' := 1) hX hPW flX5_when_12 sn0 so0 rfl (k0_0 _) dX5_when_23 ?_
    refine g_iload_n hX 1 rfl rfl dX5_when_26 ?_
    obtain ⟨zr4, zI5, zL6, zhc3, k⟩ := k
    refine g_callV (cs' := 0) (sl' := 0) (C := RX1) (as := [.ref 1, .int x1]) (st := []) hX zhc3 hPW sn87 so87 rfl gX5_when_X1_startsAt rfl rfl rfl ydX1_startsAt (by decide) (Nat.le_of_ble_eq_true rfl) (by decide) dX5_when_27 rfl rfl ?_
    exact g_ireturn hX k rfl rfl dX5_when_30
  · replace k := k.2 h
    refine g_aload_n hX 0 rfl rfl dX5_when_11 ?_
    refine g_bipush (v := (-2)) hX dX5_when_12 (by decide) ?_
    obtain ⟨zr8, zI9, zhc7, k⟩ := k
    refine g_callV (cs' := 0) (sl' := 0) (C := RX5) (as := [.int (-2)]) (st := []) hX zhc7 hPW sn0 so0 rfl gX5_when_X5_refused rfl rfl rfl ydX5_refused (by decide) (Nat.le_of_ble_eq_true rfl) (by decide) dX5_when_14 rfl rfl ?_
    exact g_ireturn hX k rfl rfl dX5_when_17
set_option maxRecDepth 4000 in
theorem RX5_suspects_0 {X : XT} {I : MI} {L : ML} {p : Nat → Nat}  (hX : Cx X cX5_suspects 1 RX5 wsX5_suspects rmX5_suspects)  (k : (∃ (zr2 : Int32) (zI3 : MI) (zL4 : ML), Ct (xE X) (xl X) yX1_suspicious wsX1_suspicious rmX1_suspicious [.ref 87, .ref 1] (HM X I L p) (some (.int zr2)) (HM X zI3 zL4 p) ∧ Rt X (some .int) rmX5_suspects (some (.int zr2)) (HM X zI3 zL4 p))) : G X 0 0 0 [(0, .ref 0)] [] (HM X I L p) := by
  refine g_aload_n hX 0 rfl rfl dX5_suspects_0 ?_
  refine g_getR (k := 2) (r' := 87) hX hPW flX5_suspects_26 sn0 so0 rfl (k0_2 _) dX5_suspects_1 ?_
  refine g_aload_n hX 0 rfl rfl dX5_suspects_4 ?_
  refine g_getR (k := 0) (r' := 1) hX hPW flX5_suspects_12 sn0 so0 rfl (k0_0 _) dX5_suspects_5 ?_
  obtain ⟨zr2, zI3, zL4, zhc1, k⟩ := k
  refine g_callV (cs' := 0) (sl' := 0) (C := RX1) (as := [.ref 1]) (st := []) hX zhc1 hPW sn87 so87 rfl gX5_suspects_X1_suspicious rfl rfl rfl ydX1_suspicious (by decide) (Nat.le_of_ble_eq_true rfl) (by decide) dX5_suspects_8 rfl rfl ?_
  exact g_ireturn hX k rfl rfl dX5_suspects_11
set_option maxRecDepth 4000 in
theorem RX5_next_0 {X : XT} {I : MI} {L : ML} {p : Nat → Nat}  (hX : Cx X cX5_next 7 RX5 wsX5_next rmX5_next) (x1 : Int32) (k : (∃ (zr2 : Int32), Ct (xE X) (xl X) yX5_within wsX5_within rmX5_within [.int x1, .int 0, .int 1] (HM X I L p) (some (.int zr2)) (HM X I L p) ∧ ((¬ zr2 = 0 → (∃ (zr4 : Int32) (zI5 : MI) (zL6 : ML), Ct (xE X) (xl X) yX1_suspicious wsX1_suspicious rmX1_suspicious [.ref 87, .ref 1] (HM X I L p) (some (.int zr4)) (HM X zI5 zL6 p) ∧ G X 0 0 36 [(0, .ref 0), (1, .int x1), (2, .int zr4), (3, .int (-1)), (4, .int (-1)), (5, .int 0)] [] (HM X zI5 zL6 p))) ∧ (zr2 = 0 → (∃ (zr8 : Int32) (zI9 : MI), Ct (xE X) (xl X) yX5_refused wsX5_refused rmX5_refused [.ref 0, .int (-2)] (HM X I L p) (some (.int zr8)) (HM X zI9 L p) ∧ Rt X (some .int) rmX5_next (some (.int zr8)) (HM X zI9 L p)))))) : G X 0 0 0 [(0, .ref 0), (1, .int x1)] [] (HM X I L p) := by
  refine g_iload_n hX 1 rfl rfl dX5_next_0 ?_
  refine g_iconst (v := 0) hX dX5_next_1 (by decide) ?_
  refine g_iconst (v := 1) hX dX5_next_2 (by decide) ?_
  obtain ⟨zr2, zhc1, k⟩ := k
  refine g_callS (cs' := 0) (sl' := 0) (as := [.int x1, .int 0, .int 1]) (st := []) hX zhc1 gX5_next_X5_within rfl rfl ydX5_within (by decide) (Nat.le_of_ble_eq_true rfl) (by decide) dX5_next_3 rfl rfl ?_
  refine g_if_ne (tgt := 16) hX dX5_next_6 (by decide) (fun h => ?_) (fun h => ?_)
  · replace k := k.1 h
    refine g_aload_n hX 0 rfl rfl dX5_next_16 ?_
    refine g_getR (k := 2) (r' := 87) hX hPW flX5_next_26 sn0 so0 rfl (k0_2 _) dX5_next_17 ?_
    refine g_aload_n hX 0 rfl rfl dX5_next_20 ?_
    refine g_getR (k := 0) (r' := 1) hX hPW flX5_next_12 sn0 so0 rfl (k0_0 _) dX5_next_21 ?_
    obtain ⟨zr4, zI5, zL6, zhc3, k⟩ := k
    refine g_callV (cs' := 0) (sl' := 0) (C := RX1) (as := [.ref 1]) (st := []) hX zhc3 hPW sn87 so87 rfl gX5_next_X1_suspicious rfl rfl rfl ydX1_suspicious (by decide) (Nat.le_of_ble_eq_true rfl) (by decide) dX5_next_24 rfl rfl ?_
    refine g_istore_n (ls' := [(0, .ref 0), (1, .int x1), (2, .int zr4)]) hX dX5_next_27 rfl (by decide) rfl ?_
    refine g_iconst (v := (-1)) hX dX5_next_28 (by decide) ?_
    refine g_istore_n (ls' := [(0, .ref 0), (1, .int x1), (2, .int zr4), (3, .int (-1))]) hX dX5_next_29 rfl (by decide) rfl ?_
    refine g_iconst (v := (-1)) hX dX5_next_30 (by decide) ?_
    refine g_istore (ls' := [(0, .ref 0), (1, .int x1), (2, .int zr4), (3, .int (-1)), (4, .int (-1))]) hX dX5_next_31 (by decide) rfl ?_
    refine g_iconst (v := 0) hX dX5_next_33 (by decide) ?_
    refine g_istore (ls' := [(0, .ref 0), (1, .int x1), (2, .int zr4), (3, .int (-1)), (4, .int (-1)), (5, .int 0)]) hX dX5_next_34 (by decide) rfl ?_
    exact k
  · replace k := k.2 h
    refine g_aload_n hX 0 rfl rfl dX5_next_9 ?_
    refine g_bipush (v := (-2)) hX dX5_next_10 (by decide) ?_
    obtain ⟨zr8, zI9, zhc7, k⟩ := k
    refine g_callV (cs' := 0) (sl' := 0) (C := RX5) (as := [.int (-2)]) (st := []) hX zhc7 hPW sn0 so0 rfl gX5_next_X5_refused rfl rfl rfl ydX5_refused (by decide) (Nat.le_of_ble_eq_true rfl) (by decide) dX5_next_12 rfl rfl ?_
    exact g_ireturn hX k rfl rfl dX5_next_15
set_option maxRecDepth 4000 in
theorem RX5_next_36 {X : XT} {I : MI} {L : ML} {p : Nat → Nat}  (hX : Cx X cX5_next 7 RX5 wsX5_next rmX5_next) (x1 : Int32) (x2 : Int32) (x3 : Int32) (x4 : Int32) (x5 : Int32) (k : (((I 1 0) ≤ x5 → Rt X (some .int) rmX5_next (some (.int (if x1 = 0 then x3 else x4 : Int32))) (HM X I L p)) ∧ (¬ (I 1 0) ≤ x5 → (∃ (zr2 : Int32), Ct (xE X) (xl X) yX0_above wsX0_above rmX0_above [.ref 1, .int x5] (HM X I L p) (some (.int zr2)) (HM X I L p) ∧ (∃ (zr4 : Int32), Ct (xE X) (xl X) yX5_largerPart wsX5_largerPart rmX5_largerPart [.int x2, .int zr2] (HM X I L p) (some (.int zr4)) (HM X I L p) ∧ ((x3 = (-1) → G X 0 0 36 [(0, .ref 0), (1, .int x1), (2, .int x2), (3, .int x5), (4, .int zr4), (5, .int (x5 + 1))] [] (HM X I L p)) ∧ (¬ x3 = (-1) → G X 0 0 36 [(0, .ref 0), (1, .int x1), (2, .int x2), (3, .int (if x4 ≤ zr4 then x3 else x5 : Int32)), (4, .int (if x4 ≤ zr4 then x4 else zr4 : Int32)), (5, .int (x5 + 1))] [] (HM X I L p)))))))) : G X 0 0 36 [(0, .ref 0), (1, .int x1), (2, .int x2), (3, .int x3), (4, .int x4), (5, .int x5)] [] (HM X I L p) := by
  refine g_iload hX 5 rfl dX5_next_36 ?_
  refine g_aload_n hX 0 rfl rfl dX5_next_38 ?_
  refine g_getR (k := 0) (r' := 1) hX hPW flX5_next_12 sn0 so0 rfl (k0_0 _) dX5_next_39 ?_
  refine g_getI (k := 0) hX hPW flX5_next_161 sn1 so1 rfl dX5_next_42 ?_
  refine g_icmp_ge (tgt := 88) hX dX5_next_45 (by decide) (fun h => ?_) (fun h => ?_)
  · replace k := k.1 h
    refine g_iload_n hX 1 rfl rfl dX5_next_88 ?_
    have kJ : G X 0 0 98 [(0, .ref 0), (1, .int x1), (2, .int x2), (3, .int x3), (4, .int x4), (5, .int x5)] [.int (if x1 = 0 then x3 else x4 : Int32)] (HM X I L p) := by
      exact g_ireturn hX k rfl rfl dX5_next_98
    refine g_if_ne (tgt := 96) hX dX5_next_89 (by decide) (fun h => ?_) (fun h => ?_)
    · rw [(show (if x1 = 0 then x3 else x4 : Int32) = x4 from if_neg h)] at kJ
      refine g_iload hX 4 rfl dX5_next_96 ?_
      exact kJ
    · rw [(show (if x1 = 0 then x3 else x4 : Int32) = x3 from if_pos h)] at kJ
      refine g_iload_n hX 3 rfl rfl dX5_next_92 ?_
      refine g_goto (tgt := 98) hX dX5_next_93 (by decide) ?_
      exact kJ
  · replace k := k.2 h
    refine g_iload_n hX 2 rfl rfl dX5_next_48 ?_
    refine g_aload_n hX 0 rfl rfl dX5_next_49 ?_
    refine g_getR (k := 0) (r' := 1) hX hPW flX5_next_12 sn0 so0 rfl (k0_0 _) dX5_next_50 ?_
    refine g_iload hX 5 rfl dX5_next_53 ?_
    obtain ⟨zr2, zhc1, k⟩ := k
    refine g_callV (cs' := 0) (sl' := 0) (C := RX0) (as := [.int x5]) (st := [.int x2]) hX zhc1 hPW sn1 so1 rfl gX5_next_X0_above rfl rfl rfl ydX0_above (by decide) (Nat.le_of_ble_eq_true rfl) (by decide) dX5_next_55 rfl rfl ?_
    obtain ⟨zr4, zhc3, k⟩ := k
    refine g_callS (cs' := 0) (sl' := 0) (as := [.int x2, .int zr2]) (st := []) hX zhc3 gX5_next_X5_largerPart rfl rfl ydX5_largerPart (by decide) (Nat.le_of_ble_eq_true rfl) (by decide) dX5_next_58 rfl rfl ?_
    refine g_istore (ls' := [(0, .ref 0), (1, .int x1), (2, .int x2), (3, .int x3), (4, .int x4), (5, .int x5), (6, .int zr4)]) hX dX5_next_61 (by decide) rfl ?_
    refine g_iload_n hX 3 rfl rfl dX5_next_63 ?_
    refine g_iconst (v := (-1)) hX dX5_next_64 (by decide) ?_
    refine g_icmp_eq (tgt := 75) hX dX5_next_65 (by decide) (fun h => ?_) (fun h => ?_)
    · replace k := k.1 h
      refine g_iload hX 5 rfl dX5_next_75 ?_
      refine g_istore_n (ls' := [(0, .ref 0), (1, .int x1), (2, .int x2), (3, .int x5), (4, .int x4), (5, .int x5), (6, .int zr4)]) hX dX5_next_77 rfl (by decide) rfl ?_
      refine g_iload hX 6 rfl dX5_next_78 ?_
      refine g_istore (ls' := [(0, .ref 0), (1, .int x1), (2, .int x2), (3, .int x5), (4, .int zr4), (5, .int x5), (6, .int zr4)]) hX dX5_next_80 (by decide) rfl ?_
      refine g_iinc (v := x5 + 1) (ls' := [(0, .ref 0), (1, .int x1), (2, .int x2), (3, .int x5), (4, .int zr4), (5, .int (x5 + 1)), (6, .int zr4)]) hX 5 rfl dX5_next_82 rfl (by decide) rfl ?_
      refine g_goto (tgt := 36) hX dX5_next_85 (by decide) ?_
      refine G.pick (ks := [0, 1, 2, 3, 4, 5]) (ls' := [(0, .ref 0), (1, .int x1), (2, .int x2), (3, .int x5), (4, .int zr4), (5, .int (x5 + 1))]) rfl ?_
      exact k
    · replace k := k.2 h
      refine g_iload hX 6 rfl dX5_next_68 ?_
      refine g_iload hX 4 rfl dX5_next_70 ?_
      have kJ : G X 0 0 82 [(0, .ref 0), (1, .int x1), (2, .int x2), (3, .int (if x4 ≤ zr4 then x3 else x5 : Int32)), (4, .int (if x4 ≤ zr4 then x4 else zr4 : Int32)), (5, .int x5), (6, .int zr4)] [] (HM X I L p) := by
        refine g_iinc (v := x5 + 1) (ls' := [(0, .ref 0), (1, .int x1), (2, .int x2), (3, .int (if x4 ≤ zr4 then x3 else x5 : Int32)), (4, .int (if x4 ≤ zr4 then x4 else zr4 : Int32)), (5, .int (x5 + 1)), (6, .int zr4)]) hX 5 rfl dX5_next_82 rfl (by decide) rfl ?_
        refine g_goto (tgt := 36) hX dX5_next_85 (by decide) ?_
        refine G.pick (ks := [0, 1, 2, 3, 4, 5]) (ls' := [(0, .ref 0), (1, .int x1), (2, .int x2), (3, .int (if x4 ≤ zr4 then x3 else x5 : Int32)), (4, .int (if x4 ≤ zr4 then x4 else zr4 : Int32)), (5, .int (x5 + 1))]) rfl ?_
        exact k
      refine g_icmp_ge (tgt := 82) hX dX5_next_72 (by decide) (fun h => ?_) (fun h => ?_)
      · rw [(show (if x4 ≤ zr4 then x3 else x5 : Int32) = x3 from if_pos h), (show (if x4 ≤ zr4 then x4 else zr4 : Int32) = x4 from if_pos h)] at kJ
        exact kJ
      · rw [(show (if x4 ≤ zr4 then x3 else x5 : Int32) = x5 from if_neg h), (show (if x4 ≤ zr4 then x4 else zr4 : Int32) = zr4 from if_neg h)] at kJ
        refine g_iload hX 5 rfl dX5_next_75 ?_
        refine g_istore_n (ls' := [(0, .ref 0), (1, .int x1), (2, .int x2), (3, .int x5), (4, .int x4), (5, .int x5), (6, .int zr4)]) hX dX5_next_77 rfl (by decide) rfl ?_
        refine g_iload hX 6 rfl dX5_next_78 ?_
        refine g_istore (ls' := [(0, .ref 0), (1, .int x1), (2, .int x2), (3, .int x5), (4, .int zr4), (5, .int x5), (6, .int zr4)]) hX dX5_next_80 (by decide) rfl ?_
        exact kJ
set_option maxRecDepth 4000 in
theorem RX5_alike_0 {X : XT} {I : MI} {L : ML} {p : Nat → Nat}  (hX : Cx X cX5_alike 2 RX5 wsX5_alike rmX5_alike) (x1 : Int32) (k : (∃ (zr2 : Int32), Ct (xE X) (xl X) yX5_within wsX5_within rmX5_within [.int x1, .int 0, .int ((jshl 1 (I 1 0)) - 1)] (HM X I L p) (some (.int zr2)) (HM X I L p) ∧ ((¬ zr2 = 0 → (∃ (zI4 : MI), Ct (xE X) (xl X) yX4_compare wsX4_compare rmX4_compare [.ref 90, .ref 1] (HM X I L p) none (HM X zI4 L p) ∧ (∃ (zr6 : Int32), Ct (xE X) (xl X) yX4_untold wsX4_untold rmX4_untold [.ref 90, .int x1] (HM X zI4 L p) (some (.int zr6)) (HM X zI4 L p) ∧ Rt X (some .int) rmX5_alike (some (.int zr6)) (HM X zI4 L p)))) ∧ (zr2 = 0 → (∃ (zr8 : Int32) (zI9 : MI), Ct (xE X) (xl X) yX5_refused wsX5_refused rmX5_refused [.ref 0, .int (-2)] (HM X I L p) (some (.int zr8)) (HM X zI9 L p) ∧ Rt X (some .int) rmX5_alike (some (.int zr8)) (HM X zI9 L p)))))) : G X 0 0 0 [(0, .ref 0), (1, .int x1)] [] (HM X I L p) := by
  refine g_iload_n hX 1 rfl rfl dX5_alike_0 ?_
  refine g_iconst (v := 0) hX dX5_alike_1 (by decide) ?_
  refine g_iconst (v := 1) hX dX5_alike_2 (by decide) ?_
  refine g_aload_n hX 0 rfl rfl dX5_alike_3 ?_
  refine g_getR (k := 0) (r' := 1) hX hPW flX5_alike_12 sn0 so0 rfl (k0_0 _) dX5_alike_4 ?_
  refine g_getI (k := 0) hX hPW flX5_alike_161 sn1 so1 rfl dX5_alike_7 ?_
  refine g_ishl hX dX5_alike_10 ?_
  refine g_iconst (v := 1) hX dX5_alike_11 (by decide) ?_
  refine g_isub hX dX5_alike_12 ?_
  obtain ⟨zr2, zhc1, k⟩ := k
  refine g_callS (cs' := 0) (sl' := 0) (as := [.int x1, .int 0, .int ((jshl 1 (I 1 0)) - 1)]) (st := []) hX zhc1 gX5_alike_X5_within rfl rfl ydX5_within (by decide) (Nat.le_of_ble_eq_true rfl) (by decide) dX5_alike_13 rfl rfl ?_
  refine g_if_ne (tgt := 26) hX dX5_alike_16 (by decide) (fun h => ?_) (fun h => ?_)
  · replace k := k.1 h
    refine g_aload_n hX 0 rfl rfl dX5_alike_26 ?_
    refine g_getR (k := 3) (r' := 90) hX hPW flX5_alike_33 sn0 so0 rfl (k0_3 _) dX5_alike_27 ?_
    refine g_aload_n hX 0 rfl rfl dX5_alike_30 ?_
    refine g_getR (k := 0) (r' := 1) hX hPW flX5_alike_12 sn0 so0 rfl (k0_0 _) dX5_alike_31 ?_
    obtain ⟨zI4, zhc3, k⟩ := k
    refine g_callV (cs' := 0) (sl' := 0) (C := RX4) (as := [.ref 1]) (st := []) hX zhc3 hPW sn90 so90 rfl gX5_alike_X4_compare rfl rfl rfl ydX4_compare (by decide) (Nat.le_of_ble_eq_true rfl) (by decide) dX5_alike_34 rfl rfl ?_
    refine g_aload_n hX 0 rfl rfl dX5_alike_37 ?_
    refine g_getR (k := 3) (r' := 90) hX hPW flX5_alike_33 sn0 so0 rfl (k0_3 _) dX5_alike_38 ?_
    refine g_iload_n hX 1 rfl rfl dX5_alike_41 ?_
    obtain ⟨zr6, zhc5, k⟩ := k
    refine g_callV (cs' := 0) (sl' := 0) (C := RX4) (as := [.int x1]) (st := []) hX zhc5 hPW sn90 so90 rfl gX5_alike_X4_untold rfl rfl rfl ydX4_untold (by decide) (Nat.le_of_ble_eq_true rfl) (by decide) dX5_alike_42 rfl rfl ?_
    exact g_ireturn hX k rfl rfl dX5_alike_45
  · replace k := k.2 h
    refine g_aload_n hX 0 rfl rfl dX5_alike_19 ?_
    refine g_bipush (v := (-2)) hX dX5_alike_20 (by decide) ?_
    obtain ⟨zr8, zI9, zhc7, k⟩ := k
    refine g_callV (cs' := 0) (sl' := 0) (C := RX5) (as := [.int (-2)]) (st := []) hX zhc7 hPW sn0 so0 rfl gX5_alike_X5_refused rfl rfl rfl ydX5_refused (by decide) (Nat.le_of_ble_eq_true rfl) (by decide) dX5_alike_22 rfl rfl ?_
    exact g_ireturn hX k rfl rfl dX5_alike_25
set_option maxRecDepth 4000 in
theorem RX5_sensors_0 {X : XT} {I : MI} {L : ML} {p : Nat → Nat}  (hX : Cx X cX5_sensors 3 RX5 wsX5_sensors rmX5_sensors) (x1 : Int32) (k : (∃ (zr2 : Int32), Ct (xE X) (xl X) yX5_within wsX5_within rmX5_within [.int x1, .int 0, .int 1] (HM X I L p) (some (.int zr2)) (HM X I L p) ∧ ((¬ zr2 = 0 → (∃ (zI4 : MI), Ct (xE X) (xl X) yX4_compare wsX4_compare rmX4_compare [.ref 90, .ref 1] (HM X I L p) none (HM X zI4 L p) ∧ (∃ (zr6 : Int32), Ct (xE X) (xl X) yX4_fewest wsX4_fewest rmX4_fewest [.ref 90, .int (zI4 1 0)] (HM X zI4 L p) (some (.int zr6)) (HM X zI4 L p) ∧ ((x1 = 0 → Rt X (some .int) rmX5_sensors (some (.int zr6)) (HM X zI4 L p)) ∧ (¬ x1 = 0 → ((¬ zr6 = (-1) → (∃ (zr8 : Int32), Ct (xE X) (xl X) yJ6_bitCount_0f7a4 wsJ6_bitCount_0f7a4 rmJ6_bitCount_0f7a4 [.int zr6] (HM X zI4 L p) (some (.int zr8)) (HM X zI4 L p) ∧ Rt X (some .int) rmX5_sensors (some (.int zr8)) (HM X zI4 L p))) ∧ (zr6 = (-1) → Rt X (some .int) rmX5_sensors (some (.int zr6)) (HM X zI4 L p)))))))) ∧ (zr2 = 0 → (∃ (zr10 : Int32) (zI11 : MI), Ct (xE X) (xl X) yX5_refused wsX5_refused rmX5_refused [.ref 0, .int (-2)] (HM X I L p) (some (.int zr10)) (HM X zI11 L p) ∧ Rt X (some .int) rmX5_sensors (some (.int zr10)) (HM X zI11 L p)))))) : G X 0 0 0 [(0, .ref 0), (1, .int x1)] [] (HM X I L p) := by
  refine g_iload_n hX 1 rfl rfl dX5_sensors_0 ?_
  refine g_iconst (v := 0) hX dX5_sensors_1 (by decide) ?_
  refine g_iconst (v := 1) hX dX5_sensors_2 (by decide) ?_
  obtain ⟨zr2, zhc1, k⟩ := k
  refine g_callS (cs' := 0) (sl' := 0) (as := [.int x1, .int 0, .int 1]) (st := []) hX zhc1 gX5_sensors_X5_within rfl rfl ydX5_within (by decide) (Nat.le_of_ble_eq_true rfl) (by decide) dX5_sensors_3 rfl rfl ?_
  refine g_if_ne (tgt := 16) hX dX5_sensors_6 (by decide) (fun h => ?_) (fun h => ?_)
  · replace k := k.1 h
    refine g_aload_n hX 0 rfl rfl dX5_sensors_16 ?_
    refine g_getR (k := 3) (r' := 90) hX hPW flX5_sensors_33 sn0 so0 rfl (k0_3 _) dX5_sensors_17 ?_
    refine g_aload_n hX 0 rfl rfl dX5_sensors_20 ?_
    refine g_getR (k := 0) (r' := 1) hX hPW flX5_sensors_12 sn0 so0 rfl (k0_0 _) dX5_sensors_21 ?_
    obtain ⟨zI4, zhc3, k⟩ := k
    refine g_callV (cs' := 0) (sl' := 0) (C := RX4) (as := [.ref 1]) (st := []) hX zhc3 hPW sn90 so90 rfl gX5_sensors_X4_compare rfl rfl rfl ydX4_compare (by decide) (Nat.le_of_ble_eq_true rfl) (by decide) dX5_sensors_24 rfl rfl ?_
    refine g_aload_n hX 0 rfl rfl dX5_sensors_27 ?_
    refine g_getR (k := 3) (r' := 90) hX hPW flX5_sensors_33 sn0 so0 rfl (k0_3 _) dX5_sensors_28 ?_
    refine g_aload_n hX 0 rfl rfl dX5_sensors_31 ?_
    refine g_getR (k := 0) (r' := 1) hX hPW flX5_sensors_12 sn0 so0 rfl (k0_0 _) dX5_sensors_32 ?_
    refine g_getI (k := 0) hX hPW flX5_sensors_161 sn1 so1 rfl dX5_sensors_35 ?_
    obtain ⟨zr6, zhc5, k⟩ := k
    refine g_callV (cs' := 0) (sl' := 0) (C := RX4) (as := [.int (zI4 1 0)]) (st := []) hX zhc5 hPW sn90 so90 rfl gX5_sensors_X4_fewest rfl rfl rfl ydX4_fewest (by decide) (Nat.le_of_ble_eq_true rfl) (by decide) dX5_sensors_38 rfl rfl ?_
    refine g_istore_n (ls' := [(0, .ref 0), (1, .int x1), (2, .int zr6)]) hX dX5_sensors_41 rfl (by decide) rfl ?_
    refine g_iload_n hX 1 rfl rfl dX5_sensors_42 ?_
    refine g_if_eq (tgt := 51) hX dX5_sensors_43 (by decide) (fun h => ?_) (fun h => ?_)
    · replace k := k.1 h
      refine g_iload_n hX 2 rfl rfl dX5_sensors_51 ?_
      refine g_goto (tgt := 59) hX dX5_sensors_52 (by decide) ?_
      exact g_ireturn hX k rfl rfl dX5_sensors_59
    · replace k := k.2 h
      refine g_iload_n hX 2 rfl rfl dX5_sensors_46 ?_
      refine g_iconst (v := (-1)) hX dX5_sensors_47 (by decide) ?_
      refine g_icmp_ne (tgt := 55) hX dX5_sensors_48 (by decide) (fun h => ?_) (fun h => ?_)
      · replace k := k.1 h
        refine g_iload_n hX 2 rfl rfl dX5_sensors_55 ?_
        obtain ⟨zr8, zhc7, k⟩ := k
        refine g_callS (cs' := 0) (sl' := 0) (as := [.int zr6]) (st := []) hX zhc7 gX5_sensors_J6_bitCount_0f7a4 rfl rfl ydJ6_bitCount_0f7a4 (by decide) (Nat.le_of_ble_eq_true rfl) (by decide) dX5_sensors_56 rfl rfl ?_
        exact g_ireturn hX k rfl rfl dX5_sensors_59
      · replace k := k.2 h
        refine g_iload_n hX 2 rfl rfl dX5_sensors_51 ?_
        refine g_goto (tgt := 59) hX dX5_sensors_52 (by decide) ?_
        exact g_ireturn hX k rfl rfl dX5_sensors_59
  · replace k := k.2 h
    refine g_aload_n hX 0 rfl rfl dX5_sensors_9 ?_
    refine g_bipush (v := (-2)) hX dX5_sensors_10 (by decide) ?_
    obtain ⟨zr10, zI11, zhc9, k⟩ := k
    refine g_callV (cs' := 0) (sl' := 0) (C := RX5) (as := [.int (-2)]) (st := []) hX zhc9 hPW sn0 so0 rfl gX5_sensors_X5_refused rfl rfl rfl ydX5_refused (by decide) (Nat.le_of_ble_eq_true rfl) (by decide) dX5_sensors_12 rfl rfl ?_
    exact g_ireturn hX k rfl rfl dX5_sensors_15
set_option maxRecDepth 4000 in
theorem RX5_type_0 {X : XT} {I : MI} {L : ML} {p : Nat → Nat}  (hX : Cx X cX5_type 2 RX5 wsX5_type rmX5_type) (x1 : Int32) (k : (∃ (zr2 : Int32), Ct (xE X) (xl X) yX5_within wsX5_within rmX5_within [.int x1, .int 0, .int 127] (HM X I L p) (some (.int zr2)) (HM X I L p) ∧ ((¬ zr2 = 0 → (((I 0 6) < 120 → (∃ zj4 : Nat, (I 0 6) = nI zj4 ∧ zj4 < 120 ∧ Rt X (some .int) rmX5_type (some (.int ((upI (upI I 95 zj4 x1.toInt8.toInt32.toInt8.toInt32) 0 6 (((upI I 95 zj4 x1.toInt8.toInt32.toInt8.toInt32) 0 6) + 1)) 0 6))) (HM X (upI (upI I 95 zj4 x1.toInt8.toInt32.toInt8.toInt32) 0 6 (((upI I 95 zj4 x1.toInt8.toInt32.toInt8.toInt32) 0 6) + 1)) L p))) ∧ (¬ (I 0 6) < 120 → (∃ (zr7 : Int32) (zI8 : MI), Ct (xE X) (xl X) yX5_refused wsX5_refused rmX5_refused [.ref 0, .int (-4)] (HM X I L p) (some (.int zr7)) (HM X zI8 L p) ∧ Rt X (some .int) rmX5_type (some (.int zr7)) (HM X zI8 L p))))) ∧ (zr2 = 0 → (∃ (zr10 : Int32) (zI11 : MI), Ct (xE X) (xl X) yX5_refused wsX5_refused rmX5_refused [.ref 0, .int (-2)] (HM X I L p) (some (.int zr10)) (HM X zI11 L p) ∧ Rt X (some .int) rmX5_type (some (.int zr10)) (HM X zI11 L p)))))) : G X 0 0 0 [(0, .ref 0), (1, .int x1)] [] (HM X I L p) := by
  refine g_iload_n hX 1 rfl rfl dX5_type_0 ?_
  refine g_iconst (v := 0) hX dX5_type_1 (by decide) ?_
  refine g_bipush (v := 127) hX dX5_type_2 (by decide) ?_
  obtain ⟨zr2, zhc1, k⟩ := k
  refine g_callS (cs' := 0) (sl' := 0) (as := [.int x1, .int 0, .int 127]) (st := []) hX zhc1 gX5_type_X5_within rfl rfl ydX5_within (by decide) (Nat.le_of_ble_eq_true rfl) (by decide) dX5_type_4 rfl rfl ?_
  refine g_if_ne (tgt := 17) hX dX5_type_7 (by decide) (fun h => ?_) (fun h => ?_)
  · replace k := k.1 h
    refine g_aload_n hX 0 rfl rfl dX5_type_17 ?_
    refine g_getI (k := 6) hX hPW flX5_type_181 sn0 so0 rfl dX5_type_18 ?_
    refine g_bipush (v := 120) hX dX5_type_21 (by decide) ?_
    refine g_icmp_lt (tgt := 33) hX dX5_type_23 (by decide) (fun h => ?_) (fun h => ?_)
    · replace k := k.1 h
      refine g_aload_n hX 0 rfl rfl dX5_type_33 ?_
      refine g_getR (k := 5) (r' := 95) hX hPW flX5_type_44 sn0 so0 rfl (k0_5 _) dX5_type_34 ?_
      refine g_aload_n hX 0 rfl rfl dX5_type_37 ?_
      refine g_getI (k := 6) hX hPW flX5_type_181 sn0 so0 rfl dX5_type_38 ?_
      refine g_iload_n hX 1 rfl rfl dX5_type_41 ?_
      refine g_i2b hX dX5_type_42 ?_
      obtain ⟨zj4, zh3, zh5, k⟩ := k
      refine g_bast hX sn95 sh95 zh3 zh5 (by decide) dX5_type_43 ?_
      refine g_aload_n hX 0 rfl rfl dX5_type_44 ?_
      refine g_dup hX dX5_type_45 rfl ?_
      refine g_getI (k := 6) hX hPW flX5_type_181 sn0 so0 rfl dX5_type_46 ?_
      refine g_iconst (v := 1) hX dX5_type_49 (by decide) ?_
      refine g_iadd hX dX5_type_50 ?_
      refine g_putI (k := 6) hX fpX5_type_181 sn0 so0 rfl rfl rfl dX5_type_51 ?_
      refine g_aload_n hX 0 rfl rfl dX5_type_54 ?_
      refine g_getI (k := 6) hX hPW flX5_type_181 sn0 so0 rfl dX5_type_55 ?_
      exact g_ireturn hX k rfl rfl dX5_type_58
    · replace k := k.2 h
      refine g_aload_n hX 0 rfl rfl dX5_type_26 ?_
      refine g_bipush (v := (-4)) hX dX5_type_27 (by decide) ?_
      obtain ⟨zr7, zI8, zhc6, k⟩ := k
      refine g_callV (cs' := 0) (sl' := 0) (C := RX5) (as := [.int (-4)]) (st := []) hX zhc6 hPW sn0 so0 rfl gX5_type_X5_refused rfl rfl rfl ydX5_refused (by decide) (Nat.le_of_ble_eq_true rfl) (by decide) dX5_type_29 rfl rfl ?_
      exact g_ireturn hX k rfl rfl dX5_type_32
  · replace k := k.2 h
    refine g_aload_n hX 0 rfl rfl dX5_type_10 ?_
    refine g_bipush (v := (-2)) hX dX5_type_11 (by decide) ?_
    obtain ⟨zr10, zI11, zhc9, k⟩ := k
    refine g_callV (cs' := 0) (sl' := 0) (C := RX5) (as := [.int (-2)]) (st := []) hX zhc9 hPW sn0 so0 rfl gX5_type_X5_refused rfl rfl rfl ydX5_refused (by decide) (Nat.le_of_ble_eq_true rfl) (by decide) dX5_type_13 rfl rfl ?_
    exact g_ireturn hX k rfl rfl dX5_type_16
set_option maxRecDepth 4000 in
theorem RX5_clear_0 {X : XT} {I : MI} {L : ML} {p : Nat → Nat}  (hX : Cx X cX5_clear 2 RX5 wsX5_clear rmX5_clear)  (k : Rt X (some .int) rmX5_clear (some (.int (I 0 6))) (HM X (upI I 0 6 0) L p)) : G X 0 0 0 [(0, .ref 0)] [] (HM X I L p) := by
  refine g_aload_n hX 0 rfl rfl dX5_clear_0 ?_
  refine g_getI (k := 6) hX hPW flX5_clear_181 sn0 so0 rfl dX5_clear_1 ?_
  refine g_istore_n (ls' := [(0, .ref 0), (1, .int (I 0 6))]) hX dX5_clear_4 rfl (by decide) rfl ?_
  refine g_aload_n hX 0 rfl rfl dX5_clear_5 ?_
  refine g_iconst (v := 0) hX dX5_clear_6 (by decide) ?_
  refine g_putI (k := 6) hX fpX5_clear_181 sn0 so0 rfl rfl rfl dX5_clear_7 ?_
  refine g_iload_n hX 1 rfl rfl dX5_clear_10 ?_
  exact g_ireturn hX k rfl rfl dX5_clear_11
set_option maxRecDepth 4000 in
theorem RX5_reads_0 {X : XT} {I : MI} {L : ML} {p : Nat → Nat}  (hX : Cx X cX5_reads 3 RX5 wsX5_reads rmX5_reads)  (k : (∃ (zr2 : Int32) (zI3 : MI), Ct (xE X) (xl X) yX2_parse wsX2_parse rmX2_parse [.ref 92, .ref 95, .int (I 0 6)] (HM X I L p) (some (.int zr2)) (HM X zI3 L p) ∧ ((zr2 = (-1) → (∃ (zI5 : MI), Ct (xE X) (xl X) yX3_mark wsX3_mark rmX3_mark [.ref 13, .ref 1] (HM X zI3 L p) none (HM X zI5 L p) ∧ G X 0 0 39 [(0, .ref 0), (1, .int zr2), (2, .int 0)] [] (HM X zI5 L p))) ∧ (¬ zr2 = (-1) → Rt X (some .int) rmX5_reads (some (.int ((-10) - zr2))) (HM X zI3 L p))))) : G X 0 0 0 [(0, .ref 0)] [] (HM X I L p) := by
  refine g_aload_n hX 0 rfl rfl dX5_reads_0 ?_
  refine g_getR (k := 4) (r' := 92) hX hPW flX5_reads_40 sn0 so0 rfl (k0_4 _) dX5_reads_1 ?_
  refine g_aload_n hX 0 rfl rfl dX5_reads_4 ?_
  refine g_getR (k := 5) (r' := 95) hX hPW flX5_reads_44 sn0 so0 rfl (k0_5 _) dX5_reads_5 ?_
  refine g_aload_n hX 0 rfl rfl dX5_reads_8 ?_
  refine g_getI (k := 6) hX hPW flX5_reads_181 sn0 so0 rfl dX5_reads_9 ?_
  obtain ⟨zr2, zI3, zhc1, k⟩ := k
  refine g_callV (cs' := 0) (sl' := 0) (C := RX2) (as := [.ref 95, .int (I 0 6)]) (st := []) hX zhc1 hPW sn92 so92 rfl gX5_reads_X2_parse rfl rfl rfl ydX2_parse (by decide) (Nat.le_of_ble_eq_true rfl) (by decide) dX5_reads_12 rfl rfl ?_
  refine g_istore_n (ls' := [(0, .ref 0), (1, .int zr2)]) hX dX5_reads_15 rfl (by decide) rfl ?_
  refine g_iload_n hX 1 rfl rfl dX5_reads_16 ?_
  refine g_iconst (v := (-1)) hX dX5_reads_17 (by decide) ?_
  refine g_icmp_eq (tgt := 26) hX dX5_reads_18 (by decide) (fun h => ?_) (fun h => ?_)
  · replace k := k.1 h
    refine g_aload_n hX 0 rfl rfl dX5_reads_26 ?_
    refine g_getR (k := 1) (r' := 13) hX hPW flX5_reads_19 sn0 so0 rfl (k0_1 _) dX5_reads_27 ?_
    refine g_aload_n hX 0 rfl rfl dX5_reads_30 ?_
    refine g_getR (k := 0) (r' := 1) hX hPW flX5_reads_12 sn0 so0 rfl (k0_0 _) dX5_reads_31 ?_
    obtain ⟨zI5, zhc4, k⟩ := k
    refine g_callV (cs' := 0) (sl' := 0) (C := RX3) (as := [.ref 1]) (st := []) hX zhc4 hPW sn13 so13 rfl gX5_reads_X3_mark rfl rfl rfl ydX3_mark (by decide) (Nat.le_of_ble_eq_true rfl) (by decide) dX5_reads_34 rfl rfl ?_
    refine g_iconst (v := 0) hX dX5_reads_37 (by decide) ?_
    refine g_istore_n (ls' := [(0, .ref 0), (1, .int zr2), (2, .int 0)]) hX dX5_reads_38 rfl (by decide) rfl ?_
    exact k
  · replace k := k.2 h
    refine g_bipush (v := (-10)) hX dX5_reads_21 (by decide) ?_
    refine g_iload_n hX 1 rfl rfl dX5_reads_23 ?_
    refine g_isub hX dX5_reads_24 ?_
    exact g_ireturn hX k rfl rfl dX5_reads_25
set_option maxRecDepth 4000 in
theorem RX5_reads_39 {X : XT} {I : MI} {L : ML} {p : Nat → Nat}  (hX : Cx X cX5_reads 3 RX5 wsX5_reads rmX5_reads) (x1 : Int32) (x2 : Int32) (k : (((I 92 2) ≤ x2 → (∃ (zr2 : Int32) (zI3 : MI) (zq4 : Nat → Nat), Ct (xE X) (xl X) yX5_settled wsX5_settled rmX5_settled [.ref 0, .int (I 92 2)] (HM X I L p) (some (.int zr2)) (HM X zI3 L zq4) ∧ Rt X (some .int) rmX5_reads (some (.int zr2)) (HM X zI3 L zq4))) ∧ (¬ (I 92 2) ≤ x2 → (∃ (zr6 : Int32) (zI7 : MI), Ct (xE X) (xl X) yX2_obey wsX2_obey rmX2_obey [.ref 92, .int x2, .ref 1] (HM X I L p) (some (.int zr6)) (HM X zI7 L p) ∧ ((0 ≤ zr6 → G X 0 0 39 [(0, .ref 0), (1, .int x1), (2, .int (x2 + 1))] [] (HM X zI7 L p)) ∧ (¬ 0 ≤ zr6 → (∃ (zI9 : MI), Ct (xE X) (xl X) yX3_toMark wsX3_toMark rmX3_toMark [.ref 13, .ref 1] (HM X zI7 L p) none (HM X zI9 L p) ∧ Rt X (some .int) rmX5_reads (some (.int ((-1000) - x2))) (HM X zI9 L p)))))))) : G X 0 0 39 [(0, .ref 0), (1, .int x1), (2, .int x2)] [] (HM X I L p) := by
  refine g_iload_n hX 2 rfl rfl dX5_reads_39 ?_
  refine g_aload_n hX 0 rfl rfl dX5_reads_40 ?_
  refine g_getR (k := 4) (r' := 92) hX hPW flX5_reads_40 sn0 so0 rfl (k0_4 _) dX5_reads_41 ?_
  refine g_getI (k := 2) hX hPW flX5_reads_188 sn92 so92 rfl dX5_reads_44 ?_
  refine g_icmp_ge (tgt := 88) hX dX5_reads_47 (by decide) (fun h => ?_) (fun h => ?_)
  · replace k := k.1 h
    refine g_aload_n hX 0 rfl rfl dX5_reads_88 ?_
    refine g_aload_n hX 0 rfl rfl dX5_reads_89 ?_
    refine g_getR (k := 4) (r' := 92) hX hPW flX5_reads_40 sn0 so0 rfl (k0_4 _) dX5_reads_90 ?_
    refine g_getI (k := 2) hX hPW flX5_reads_188 sn92 so92 rfl dX5_reads_93 ?_
    obtain ⟨zr2, zI3, zq4, zhc1, k⟩ := k
    refine g_callV (cs' := 0) (sl' := 0) (C := RX5) (as := [.int (I 92 2)]) (st := []) hX zhc1 hPW sn0 so0 rfl gX5_reads_X5_settled rfl rfl rfl ydX5_settled (by decide) (Nat.le_of_ble_eq_true rfl) (by decide) dX5_reads_96 rfl rfl ?_
    exact g_ireturn hX k rfl rfl dX5_reads_99
  · replace k := k.2 h
    refine g_aload_n hX 0 rfl rfl dX5_reads_50 ?_
    refine g_getR (k := 4) (r' := 92) hX hPW flX5_reads_40 sn0 so0 rfl (k0_4 _) dX5_reads_51 ?_
    refine g_iload_n hX 2 rfl rfl dX5_reads_54 ?_
    refine g_aload_n hX 0 rfl rfl dX5_reads_55 ?_
    refine g_getR (k := 0) (r' := 1) hX hPW flX5_reads_12 sn0 so0 rfl (k0_0 _) dX5_reads_56 ?_
    obtain ⟨zr6, zI7, zhc5, k⟩ := k
    refine g_callV (cs' := 0) (sl' := 0) (C := RX2) (as := [.int x2, .ref 1]) (st := []) hX zhc5 hPW sn92 so92 rfl gX5_reads_X2_obey rfl rfl rfl ydX2_obey (by decide) (Nat.le_of_ble_eq_true rfl) (by decide) dX5_reads_59 rfl rfl ?_
    refine g_if_ge (tgt := 82) hX dX5_reads_62 (by decide) (fun h => ?_) (fun h => ?_)
    · replace k := k.1 h
      refine g_iinc (v := x2 + 1) (ls' := [(0, .ref 0), (1, .int x1), (2, .int (x2 + 1))]) hX 2 rfl dX5_reads_82 rfl (by decide) rfl ?_
      refine g_goto (tgt := 39) hX dX5_reads_85 (by decide) ?_
      exact k
    · replace k := k.2 h
      refine g_aload_n hX 0 rfl rfl dX5_reads_65 ?_
      refine g_getR (k := 1) (r' := 13) hX hPW flX5_reads_19 sn0 so0 rfl (k0_1 _) dX5_reads_66 ?_
      refine g_aload_n hX 0 rfl rfl dX5_reads_69 ?_
      refine g_getR (k := 0) (r' := 1) hX hPW flX5_reads_12 sn0 so0 rfl (k0_0 _) dX5_reads_70 ?_
      obtain ⟨zI9, zhc8, k⟩ := k
      refine g_callV (cs' := 0) (sl' := 0) (C := RX3) (as := [.ref 1]) (st := []) hX zhc8 hPW sn13 so13 rfl gX5_reads_X3_toMark rfl rfl rfl ydX3_toMark (by decide) (Nat.le_of_ble_eq_true rfl) (by decide) dX5_reads_73 rfl rfl ?_
      refine g_sipush (v := (-1000)) hX dX5_reads_76 (by decide) ?_
      refine g_iload_n hX 2 rfl rfl dX5_reads_79 ?_
      refine g_isub hX dX5_reads_80 ?_
      exact g_ireturn hX k rfl rfl dX5_reads_81
set_option maxRecDepth 4000 in
theorem RX5_back_0 {X : XT} {I : MI} {L : ML} {p : Nat → Nat}  (hX : Cx X cX5_back 1 RX5 wsX5_back rmX5_back)  (k : ((¬ (I 13 1) = 0 → (∃ (zI2 : MI), Ct (xE X) (xl X) yX3_undo wsX3_undo rmX3_undo [.ref 13, .ref 1] (HM X I L p) none (HM X zI2 L p) ∧ (∃ (zI4 : MI), Ct (xE X) (xl X) yX1_outdate wsX1_outdate rmX1_outdate [.ref 87] (HM X zI2 L p) none (HM X zI4 L p) ∧ Rt X (some .int) rmX5_back (some (.int (zI4 13 1))) (HM X zI4 L p)))) ∧ ((I 13 1) = 0 → (∃ (zr6 : Int32) (zI7 : MI), Ct (xE X) (xl X) yX5_refused wsX5_refused rmX5_refused [.ref 0, .int (-3)] (HM X I L p) (some (.int zr6)) (HM X zI7 L p) ∧ Rt X (some .int) rmX5_back (some (.int zr6)) (HM X zI7 L p))))) : G X 0 0 0 [(0, .ref 0)] [] (HM X I L p) := by
  refine g_aload_n hX 0 rfl rfl dX5_back_0 ?_
  refine g_getR (k := 1) (r' := 13) hX hPW flX5_back_19 sn0 so0 rfl (k0_1 _) dX5_back_1 ?_
  refine g_getI (k := 1) hX hPW flX5_back_198 sn13 so13 rfl dX5_back_4 ?_
  refine g_if_ne (tgt := 17) hX dX5_back_7 (by decide) (fun h => ?_) (fun h => ?_)
  · replace k := k.1 h
    refine g_aload_n hX 0 rfl rfl dX5_back_17 ?_
    refine g_getR (k := 1) (r' := 13) hX hPW flX5_back_19 sn0 so0 rfl (k0_1 _) dX5_back_18 ?_
    refine g_aload_n hX 0 rfl rfl dX5_back_21 ?_
    refine g_getR (k := 0) (r' := 1) hX hPW flX5_back_12 sn0 so0 rfl (k0_0 _) dX5_back_22 ?_
    obtain ⟨zI2, zhc1, k⟩ := k
    refine g_callV (cs' := 0) (sl' := 0) (C := RX3) (as := [.ref 1]) (st := []) hX zhc1 hPW sn13 so13 rfl gX5_back_X3_undo rfl rfl rfl ydX3_undo (by decide) (Nat.le_of_ble_eq_true rfl) (by decide) dX5_back_25 rfl rfl ?_
    refine g_aload_n hX 0 rfl rfl dX5_back_28 ?_
    refine g_getR (k := 2) (r' := 87) hX hPW flX5_back_26 sn0 so0 rfl (k0_2 _) dX5_back_29 ?_
    obtain ⟨zI4, zhc3, k⟩ := k
    refine g_callV (cs' := 0) (sl' := 0) (C := RX1) (as := []) (st := []) hX zhc3 hPW sn87 so87 rfl gX5_back_X1_outdate rfl rfl rfl ydX1_outdate (by decide) (Nat.le_of_ble_eq_true rfl) (by decide) dX5_back_32 rfl rfl ?_
    refine g_aload_n hX 0 rfl rfl dX5_back_35 ?_
    refine g_getR (k := 1) (r' := 13) hX hPW flX5_back_19 sn0 so0 rfl (k0_1 _) dX5_back_36 ?_
    refine g_getI (k := 1) hX hPW flX5_back_198 sn13 so13 rfl dX5_back_39 ?_
    exact g_ireturn hX k rfl rfl dX5_back_42
  · replace k := k.2 h
    refine g_aload_n hX 0 rfl rfl dX5_back_10 ?_
    refine g_bipush (v := (-3)) hX dX5_back_11 (by decide) ?_
    obtain ⟨zr6, zI7, zhc5, k⟩ := k
    refine g_callV (cs' := 0) (sl' := 0) (C := RX5) (as := [.int (-3)]) (st := []) hX zhc5 hPW sn0 so0 rfl gX5_back_X5_refused rfl rfl rfl ydX5_refused (by decide) (Nat.le_of_ble_eq_true rfl) (by decide) dX5_back_13 rfl rfl ?_
    exact g_ireturn hX k rfl rfl dX5_back_16
set_option maxRecDepth 4000 in
theorem RX5_told_0 {X : XT} {I : MI} {L : ML} {p : Nat → Nat}  (hX : Cx X cX5_told 2 RX5 wsX5_told rmX5_told) (x1 : Int32) (k : ((x1 = 0 → Rt X (some .int) rmX5_told (some (.int (I 0 7))) (HM X I L p)) ∧ ((x1 = 1 → Rt X (some .int) rmX5_told (some (.int (I 0 8))) (HM X I L p)) ∧ ((x1 = 2 → Rt X (some .int) rmX5_told (some (.int (I 0 9))) (HM X I L p)) ∧ ((x1 = 3 → Rt X (some .int) rmX5_told (some (.int (I 0 6))) (HM X I L p)) ∧ ((x1 = 4 → Rt X (some .int) rmX5_told (some (.int (I 1 0))) (HM X I L p)) ∧ ((x1 = 5 → Rt X (some .int) rmX5_told (some (.int (I 1 3))) (HM X I L p)) ∧ ((x1 = 6 → Rt X (some .int) rmX5_told (some (.int (I 1 8))) (HM X I L p)) ∧ ((x1 = 7 → Rt X (some .int) rmX5_told (some (.int (I 13 1))) (HM X I L p)) ∧ (¬ x1 = 0 ∧ ¬ x1 = 1 ∧ ¬ x1 = 2 ∧ ¬ x1 = 3 ∧ ¬ x1 = 4 ∧ ¬ x1 = 5 ∧ ¬ x1 = 6 ∧ ¬ x1 = 7 → (∃ (zr2 : Int32) (zI3 : MI), Ct (xE X) (xl X) yX5_refused wsX5_refused rmX5_refused [.ref 0, .int (-2)] (HM X I L p) (some (.int zr2)) (HM X zI3 L p) ∧ Rt X (some .int) rmX5_told (some (.int zr2)) (HM X zI3 L p)))))))))))) : G X 0 0 0 [(0, .ref 0), (1, .int x1)] [] (HM X I L p) := by
  refine g_iload_n hX 1 rfl rfl dX5_told_0 ?_
  by_cases c0 : x1 = 0
  · replace k := k.1 c0
    refine g_tableIn (off := 47) (tgt := 48) hX dX5_told_1 (by rw [c0]; decide) (by rw [c0]; decide) (by rw [c0]; rfl) (by decide) ?_
    refine g_aload_n hX 0 rfl rfl dX5_told_48 ?_
    refine g_getI (k := 7) hX hPW flX5_told_205 sn0 so0 rfl dX5_told_49 ?_
    exact g_ireturn hX k rfl rfl dX5_told_52
  · replace k := k.2
    by_cases c1 : x1 = 1
    · replace k := k.1 c1
      refine g_tableIn (off := 52) (tgt := 53) hX dX5_told_1 (by rw [c1]; decide) (by rw [c1]; decide) (by rw [c1]; rfl) (by decide) ?_
      refine g_aload_n hX 0 rfl rfl dX5_told_53 ?_
      refine g_getI (k := 8) hX hPW flX5_told_208 sn0 so0 rfl dX5_told_54 ?_
      exact g_ireturn hX k rfl rfl dX5_told_57
    · replace k := k.2
      by_cases c2 : x1 = 2
      · replace k := k.1 c2
        refine g_tableIn (off := 57) (tgt := 58) hX dX5_told_1 (by rw [c2]; decide) (by rw [c2]; decide) (by rw [c2]; rfl) (by decide) ?_
        refine g_aload_n hX 0 rfl rfl dX5_told_58 ?_
        refine g_getI (k := 9) hX hPW flX5_told_211 sn0 so0 rfl dX5_told_59 ?_
        exact g_ireturn hX k rfl rfl dX5_told_62
      · replace k := k.2
        by_cases c3 : x1 = 3
        · replace k := k.1 c3
          refine g_tableIn (off := 62) (tgt := 63) hX dX5_told_1 (by rw [c3]; decide) (by rw [c3]; decide) (by rw [c3]; rfl) (by decide) ?_
          refine g_aload_n hX 0 rfl rfl dX5_told_63 ?_
          refine g_getI (k := 6) hX hPW flX5_told_181 sn0 so0 rfl dX5_told_64 ?_
          exact g_ireturn hX k rfl rfl dX5_told_67
        · replace k := k.2
          by_cases c4 : x1 = 4
          · replace k := k.1 c4
            refine g_tableIn (off := 67) (tgt := 68) hX dX5_told_1 (by rw [c4]; decide) (by rw [c4]; decide) (by rw [c4]; rfl) (by decide) ?_
            refine g_aload_n hX 0 rfl rfl dX5_told_68 ?_
            refine g_getR (k := 0) (r' := 1) hX hPW flX5_told_12 sn0 so0 rfl (k0_0 _) dX5_told_69 ?_
            refine g_getI (k := 0) hX hPW flX5_told_161 sn1 so1 rfl dX5_told_72 ?_
            exact g_ireturn hX k rfl rfl dX5_told_75
          · replace k := k.2
            by_cases c5 : x1 = 5
            · replace k := k.1 c5
              refine g_tableIn (off := 75) (tgt := 76) hX dX5_told_1 (by rw [c5]; decide) (by rw [c5]; decide) (by rw [c5]; rfl) (by decide) ?_
              refine g_aload_n hX 0 rfl rfl dX5_told_76 ?_
              refine g_getR (k := 0) (r' := 1) hX hPW flX5_told_12 sn0 so0 rfl (k0_0 _) dX5_told_77 ?_
              refine g_getI (k := 3) hX hPW flX5_told_214 sn1 so1 rfl dX5_told_80 ?_
              exact g_ireturn hX k rfl rfl dX5_told_83
            · replace k := k.2
              by_cases c6 : x1 = 6
              · replace k := k.1 c6
                refine g_tableIn (off := 83) (tgt := 84) hX dX5_told_1 (by rw [c6]; decide) (by rw [c6]; decide) (by rw [c6]; rfl) (by decide) ?_
                refine g_aload_n hX 0 rfl rfl dX5_told_84 ?_
                refine g_getR (k := 0) (r' := 1) hX hPW flX5_told_12 sn0 so0 rfl (k0_0 _) dX5_told_85 ?_
                refine g_getI (k := 8) hX hPW flX5_told_217 sn1 so1 rfl dX5_told_88 ?_
                exact g_ireturn hX k rfl rfl dX5_told_91
              · replace k := k.2
                by_cases c7 : x1 = 7
                · replace k := k.1 c7
                  refine g_tableIn (off := 91) (tgt := 92) hX dX5_told_1 (by rw [c7]; decide) (by rw [c7]; decide) (by rw [c7]; rfl) (by decide) ?_
                  refine g_aload_n hX 0 rfl rfl dX5_told_92 ?_
                  refine g_getR (k := 1) (r' := 13) hX hPW flX5_told_19 sn0 so0 rfl (k0_1 _) dX5_told_93 ?_
                  refine g_getI (k := 1) hX hPW flX5_told_198 sn13 so13 rfl dX5_told_96 ?_
                  exact g_ireturn hX k rfl rfl dX5_told_99
                · replace k := k.2
                  replace k := k ⟨c0, c1, c2, c3, c4, c5, c6, c7⟩
                  refine g_tableOut (tgt := 100) hX dX5_told_1 (by have ec0 := lv_neT c0 (show (0 : Int32).toInt = 0 by decide); have ec1 := lv_neT c1 (show (1 : Int32).toInt = 1 by decide); have ec2 := lv_neT c2 (show (2 : Int32).toInt = 2 by decide); have ec3 := lv_neT c3 (show (3 : Int32).toInt = 3 by decide); have ec4 := lv_neT c4 (show (4 : Int32).toInt = 4 by decide); have ec5 := lv_neT c5 (show (5 : Int32).toInt = 5 by decide); have ec6 := lv_neT c6 (show (6 : Int32).toInt = 6 by decide); have ec7 := lv_neT c7 (show (7 : Int32).toInt = 7 by decide); omega) (by decide) ?_
                  refine g_aload_n hX 0 rfl rfl dX5_told_100 ?_
                  refine g_bipush (v := (-2)) hX dX5_told_101 (by decide) ?_
                  obtain ⟨zr2, zI3, zhc1, k⟩ := k
                  refine g_callV (cs' := 0) (sl' := 0) (C := RX5) (as := [.int (-2)]) (st := []) hX zhc1 hPW sn0 so0 rfl gX5_told_X5_refused rfl rfl rfl ydX5_refused (by decide) (Nat.le_of_ble_eq_true rfl) (by decide) dX5_told_103 rfl rfl ?_
                  exact g_ireturn hX k rfl rfl dX5_told_106
set_option maxRecDepth 4000 in
theorem RX5_digest_0 {X : XT} {I : MI} {L : ML} {p : Nat → Nat}  (hX : Cx X cX5_digest 5 RX5 wsX5_digest rmX5_digest)  (k : G X 0 0 6 [(0, .ref 0), (1, .long 2557), (3, .int 0)] [] (HM X I L p)) : G X 0 0 0 [(0, .ref 0)] [] (HM X I L p) := by
  refine g_ldc2 (v := 2557) hX (by decide +kernel) dX5_digest_0 ?_
  refine g_lstore_n (ls' := [(0, .ref 0), (1, .long 2557)]) hX dX5_digest_3 rfl (by decide) rfl ?_
  refine g_iconst (v := 0) hX dX5_digest_4 (by decide) ?_
  refine g_istore_n (ls' := [(0, .ref 0), (1, .long 2557), (3, .int 0)]) hX dX5_digest_5 rfl (by decide) rfl ?_
  exact k
set_option maxRecDepth 4000 in
theorem RX5_digest_6 {X : XT} {I : MI} {L : ML} {p : Nat → Nat}  (hX : Cx X cX5_digest 5 RX5 wsX5_digest rmX5_digest) (x1 : Int64) (x3 : Int32) (k : ((7 < x3 → (∃ (zr2 : Int64) (zI3 : MI) (zL4 : ML), Ct (xE X) (xl X) yX5_digestShafts wsX5_digestShafts rmX5_digestShafts [.ref 0, .long x1] (HM X I L p) (some (.long zr2)) (HM X zI3 zL4 p) ∧ (∃ (zr6 : Int64) (zI7 : MI), Ct (xE X) (xl X) yX5_digestPipes wsX5_digestPipes rmX5_digestPipes [.ref 0, .long zr2] (HM X zI3 zL4 p) (some (.long zr6)) (HM X zI7 zL4 p) ∧ G X 0 0 45 [(0, .ref 0), (1, .long zr6), (3, .int 0)] [] (HM X zI7 zL4 p)))) ∧ (¬ 7 < x3 → (∃ (zr9 : Int32) (zI10 : MI), Ct (xE X) (xl X) yX5_told wsX5_told rmX5_told [.ref 0, .int x3] (HM X I L p) (some (.int zr9)) (HM X zI10 L p) ∧ G X 0 0 6 [(0, .ref 0), (1, .long ((31 * x1) + zr9.toInt64)), (3, .int (x3 + 1))] [] (HM X zI10 L p))))) : G X 0 0 6 [(0, .ref 0), (1, .long x1), (3, .int x3)] [] (HM X I L p) := by
  refine g_iload_n hX 2 rfl rfl dX5_digest_6 ?_
  refine g_bipush (v := 7) hX dX5_digest_7 (by decide) ?_
  refine g_icmp_gt (tgt := 31) hX dX5_digest_9 (by decide) (fun h => ?_) (fun h => ?_)
  · replace k := k.1 h
    refine g_aload_n hX 0 rfl rfl dX5_digest_31 ?_
    refine g_lload_n hX 1 rfl rfl dX5_digest_32 ?_
    obtain ⟨zr2, zI3, zL4, zhc1, k⟩ := k
    refine g_callV (cs' := 0) (sl' := 0) (C := RX5) (as := [.long x1]) (st := []) hX zhc1 hPW sn0 so0 rfl gX5_digest_X5_digestShafts rfl rfl rfl ydX5_digestShafts (by decide) (Nat.le_of_ble_eq_true rfl) (by decide) dX5_digest_33 rfl rfl ?_
    refine g_lstore_n (ls' := [(0, .ref 0), (1, .long zr2), (3, .int x3)]) hX dX5_digest_36 rfl (by decide) rfl ?_
    refine g_aload_n hX 0 rfl rfl dX5_digest_37 ?_
    refine g_lload_n hX 1 rfl rfl dX5_digest_38 ?_
    obtain ⟨zr6, zI7, zhc5, k⟩ := k
    refine g_callV (cs' := 0) (sl' := 0) (C := RX5) (as := [.long zr2]) (st := []) hX zhc5 hPW sn0 so0 rfl gX5_digest_X5_digestPipes rfl rfl rfl ydX5_digestPipes (by decide) (Nat.le_of_ble_eq_true rfl) (by decide) dX5_digest_39 rfl rfl ?_
    refine g_lstore_n (ls' := [(0, .ref 0), (1, .long zr6), (3, .int x3)]) hX dX5_digest_42 rfl (by decide) rfl ?_
    refine g_iconst (v := 0) hX dX5_digest_43 (by decide) ?_
    refine g_istore_n (ls' := [(0, .ref 0), (1, .long zr6), (3, .int 0)]) hX dX5_digest_44 rfl (by decide) rfl ?_
    exact k
  · replace k := k.2 h
    refine g_ldc2 (v := 31) hX (by decide +kernel) dX5_digest_12 ?_
    refine g_lload_n hX 1 rfl rfl dX5_digest_15 ?_
    refine g_lmul hX dX5_digest_16 ?_
    refine g_aload_n hX 0 rfl rfl dX5_digest_17 ?_
    refine g_iload_n hX 2 rfl rfl dX5_digest_18 ?_
    obtain ⟨zr9, zI10, zhc8, k⟩ := k
    refine g_callV (cs' := 0) (sl' := 0) (C := RX5) (as := [.int x3]) (st := [.long (31 * x1)]) hX zhc8 hPW sn0 so0 rfl gX5_digest_X5_told rfl rfl rfl ydX5_told (by decide) (Nat.le_of_ble_eq_true rfl) (by decide) dX5_digest_19 rfl rfl ?_
    refine g_i2l hX dX5_digest_22 ?_
    refine g_ladd hX dX5_digest_23 ?_
    refine g_lstore_n (ls' := [(0, .ref 0), (1, .long ((31 * x1) + zr9.toInt64)), (3, .int x3)]) hX dX5_digest_24 rfl (by decide) rfl ?_
    refine g_iinc (v := x3 + 1) (ls' := [(0, .ref 0), (1, .long ((31 * x1) + zr9.toInt64)), (3, .int (x3 + 1))]) hX 2 rfl dX5_digest_25 rfl (by decide) rfl ?_
    refine g_goto (tgt := 6) hX dX5_digest_28 (by decide) ?_
    exact k
set_option maxRecDepth 4000 in
theorem RX5_digest_45 {X : XT} {I : MI} {L : ML} {p : Nat → Nat}  (hX : Cx X cX5_digest 5 RX5 wsX5_digest rmX5_digest) (x1 : Int64) (x3 : Int32) (k : (((I 1 0) ≤ x3 → (∃ (zr2 : Int32) (zI3 : MI) (zL4 : ML), Ct (xE X) (xl X) yX5_next wsX5_next rmX5_next [.ref 0, .int 0] (HM X I L p) (some (.int zr2)) (HM X zI3 zL4 p) ∧ (∃ (zr6 : Int32) (zI7 : MI) (zL8 : ML), Ct (xE X) (xl X) yX5_next wsX5_next rmX5_next [.ref 0, .int 1] (HM X zI3 zL4 p) (some (.int zr6)) (HM X zI7 zL8 p) ∧ (∃ (zr10 : Int32) (zI11 : MI), Ct (xE X) (xl X) yX5_sensors wsX5_sensors rmX5_sensors [.ref 0, .int 0] (HM X zI7 zL8 p) (some (.int zr10)) (HM X zI11 zL8 p) ∧ Rt X (some .long) rmX5_digest (some (.long ((31 * ((31 * ((31 * x1) + zr2.toInt64)) + zr6.toInt64)) + zr10.toInt64))) (HM X zI11 zL8 p))))) ∧ (¬ (I 1 0) ≤ x3 → G X 0 0 59 [(0, .ref 0), (1, .long x1), (3, .int x3), (4, .int 0)] [] (HM X I L p)))) : G X 0 0 45 [(0, .ref 0), (1, .long x1), (3, .int x3)] [] (HM X I L p) := by
  refine g_iload_n hX 2 rfl rfl dX5_digest_45 ?_
  refine g_aload_n hX 0 rfl rfl dX5_digest_46 ?_
  refine g_getR (k := 0) (r' := 1) hX hPW flX5_digest_12 sn0 so0 rfl (k0_0 _) dX5_digest_47 ?_
  refine g_getI (k := 0) hX hPW flX5_digest_161 sn1 so1 rfl dX5_digest_50 ?_
  refine g_icmp_ge (tgt := 98) hX dX5_digest_53 (by decide) (fun h => ?_) (fun h => ?_)
  · replace k := k.1 h
    refine g_ldc2 (v := 31) hX (by decide +kernel) dX5_digest_98 ?_
    refine g_lload_n hX 1 rfl rfl dX5_digest_101 ?_
    refine g_lmul hX dX5_digest_102 ?_
    refine g_aload_n hX 0 rfl rfl dX5_digest_103 ?_
    refine g_iconst (v := 0) hX dX5_digest_104 (by decide) ?_
    obtain ⟨zr2, zI3, zL4, zhc1, k⟩ := k
    refine g_callV (cs' := 0) (sl' := 0) (C := RX5) (as := [.int 0]) (st := [.long (31 * x1)]) hX zhc1 hPW sn0 so0 rfl gX5_digest_X5_next rfl rfl rfl ydX5_next (by decide) (Nat.le_of_ble_eq_true rfl) (by decide) dX5_digest_105 rfl rfl ?_
    refine g_i2l hX dX5_digest_108 ?_
    refine g_ladd hX dX5_digest_109 ?_
    refine g_lstore_n (ls' := [(0, .ref 0), (1, .long ((31 * x1) + zr2.toInt64)), (3, .int x3)]) hX dX5_digest_110 rfl (by decide) rfl ?_
    refine g_ldc2 (v := 31) hX (by decide +kernel) dX5_digest_111 ?_
    refine g_lload_n hX 1 rfl rfl dX5_digest_114 ?_
    refine g_lmul hX dX5_digest_115 ?_
    refine g_aload_n hX 0 rfl rfl dX5_digest_116 ?_
    refine g_iconst (v := 1) hX dX5_digest_117 (by decide) ?_
    obtain ⟨zr6, zI7, zL8, zhc5, k⟩ := k
    refine g_callV (cs' := 0) (sl' := 0) (C := RX5) (as := [.int 1]) (st := [.long (31 * ((31 * x1) + zr2.toInt64))]) hX zhc5 hPW sn0 so0 rfl gX5_digest_X5_next rfl rfl rfl ydX5_next (by decide) (Nat.le_of_ble_eq_true rfl) (by decide) dX5_digest_118 rfl rfl ?_
    refine g_i2l hX dX5_digest_121 ?_
    refine g_ladd hX dX5_digest_122 ?_
    refine g_lstore_n (ls' := [(0, .ref 0), (1, .long ((31 * ((31 * x1) + zr2.toInt64)) + zr6.toInt64)), (3, .int x3)]) hX dX5_digest_123 rfl (by decide) rfl ?_
    refine g_ldc2 (v := 31) hX (by decide +kernel) dX5_digest_124 ?_
    refine g_lload_n hX 1 rfl rfl dX5_digest_127 ?_
    refine g_lmul hX dX5_digest_128 ?_
    refine g_aload_n hX 0 rfl rfl dX5_digest_129 ?_
    refine g_iconst (v := 0) hX dX5_digest_130 (by decide) ?_
    obtain ⟨zr10, zI11, zhc9, k⟩ := k
    refine g_callV (cs' := 0) (sl' := 0) (C := RX5) (as := [.int 0]) (st := [.long (31 * ((31 * ((31 * x1) + zr2.toInt64)) + zr6.toInt64))]) hX zhc9 hPW sn0 so0 rfl gX5_digest_X5_sensors rfl rfl rfl ydX5_sensors (by decide) (Nat.le_of_ble_eq_true rfl) (by decide) dX5_digest_131 rfl rfl ?_
    refine g_i2l hX dX5_digest_134 ?_
    refine g_ladd hX dX5_digest_135 ?_
    exact g_lreturn hX k rfl rfl dX5_digest_136
  · replace k := k.2 h
    refine g_iconst (v := 0) hX dX5_digest_56 (by decide) ?_
    refine g_istore (ls' := [(0, .ref 0), (1, .long x1), (3, .int x3), (4, .int 0)]) hX dX5_digest_57 (by decide) rfl ?_
    exact k
set_option maxRecDepth 4000 in
theorem RX5_digest_59 {X : XT} {I : MI} {L : ML} {p : Nat → Nat}  (hX : Cx X cX5_digest 5 RX5 wsX5_digest rmX5_digest) (x1 : Int64) (x3 : Int32) (x4 : Int32) (k : (((I 1 0) ≤ x4 → G X 0 0 45 [(0, .ref 0), (1, .long x1), (3, .int (x3 + 1))] [] (HM X I L p)) ∧ (¬ (I 1 0) ≤ x4 → (∃ (zr2 : Int64) (zI3 : MI) (zL4 : ML), Ct (xE X) (xl X) yX5_comes wsX5_comes rmX5_comes [.ref 0, .int x4, .int 5, .int x3] (HM X I L p) (some (.long zr2)) (HM X zI3 zL4 p) ∧ G X 0 0 59 [(0, .ref 0), (1, .long ((31 * x1) + zr2)), (3, .int x3), (4, .int (x4 + 1))] [] (HM X zI3 zL4 p))))) : G X 0 0 59 [(0, .ref 0), (1, .long x1), (3, .int x3), (4, .int x4)] [] (HM X I L p) := by
  refine g_iload hX 3 rfl dX5_digest_59 ?_
  refine g_aload_n hX 0 rfl rfl dX5_digest_61 ?_
  refine g_getR (k := 0) (r' := 1) hX hPW flX5_digest_12 sn0 so0 rfl (k0_0 _) dX5_digest_62 ?_
  refine g_getI (k := 0) hX hPW flX5_digest_161 sn1 so1 rfl dX5_digest_65 ?_
  refine g_icmp_ge (tgt := 92) hX dX5_digest_68 (by decide) (fun h => ?_) (fun h => ?_)
  · replace k := k.1 h
    refine g_iinc (v := x3 + 1) (ls' := [(0, .ref 0), (1, .long x1), (3, .int (x3 + 1)), (4, .int x4)]) hX 2 rfl dX5_digest_92 rfl (by decide) rfl ?_
    refine g_goto (tgt := 45) hX dX5_digest_95 (by decide) ?_
    refine G.pick (ks := [0, 1, 2]) (ls' := [(0, .ref 0), (1, .long x1), (3, .int (x3 + 1))]) rfl ?_
    exact k
  · replace k := k.2 h
    refine g_ldc2 (v := 31) hX (by decide +kernel) dX5_digest_71 ?_
    refine g_lload_n hX 1 rfl rfl dX5_digest_74 ?_
    refine g_lmul hX dX5_digest_75 ?_
    refine g_aload_n hX 0 rfl rfl dX5_digest_76 ?_
    refine g_iload hX 3 rfl dX5_digest_77 ?_
    refine g_iconst (v := 5) hX dX5_digest_79 (by decide) ?_
    refine g_iload_n hX 2 rfl rfl dX5_digest_80 ?_
    obtain ⟨zr2, zI3, zL4, zhc1, k⟩ := k
    refine g_callV (cs' := 0) (sl' := 0) (C := RX5) (as := [.int x4, .int 5, .int x3]) (st := [.long (31 * x1)]) hX zhc1 hPW sn0 so0 rfl gX5_digest_X5_comes rfl rfl rfl ydX5_comes (by decide) (Nat.le_of_ble_eq_true rfl) (by decide) dX5_digest_81 rfl rfl ?_
    refine g_ladd hX dX5_digest_84 ?_
    refine g_lstore_n (ls' := [(0, .ref 0), (1, .long ((31 * x1) + zr2)), (3, .int x3), (4, .int x4)]) hX dX5_digest_85 rfl (by decide) rfl ?_
    refine g_iinc (v := x4 + 1) (ls' := [(0, .ref 0), (1, .long ((31 * x1) + zr2)), (3, .int x3), (4, .int (x4 + 1))]) hX 3 rfl dX5_digest_86 rfl (by decide) rfl ?_
    refine g_goto (tgt := 59) hX dX5_digest_89 (by decide) ?_
    exact k
set_option maxRecDepth 4000 in
theorem RX5_digestShafts_0 {X : XT} {I : MI} {L : ML} {p : Nat → Nat}  (hX : Cx X cX5_digestShafts 7 RX5 wsX5_digestShafts rmX5_digestShafts) (x1 : Int64) (k : G X 0 0 5 [(0, .ref 0), (1, .long x1), (3, .long x1), (5, .int 0)] [] (HM X I L p)) : G X 0 0 0 [(0, .ref 0), (1, .long x1)] [] (HM X I L p) := by
  refine g_lload_n hX 1 rfl rfl dX5_digestShafts_0 ?_
  refine g_lstore_n (ls' := [(0, .ref 0), (1, .long x1), (3, .long x1)]) hX dX5_digestShafts_1 rfl (by decide) rfl ?_
  refine g_iconst (v := 0) hX dX5_digestShafts_2 (by decide) ?_
  refine g_istore (ls' := [(0, .ref 0), (1, .long x1), (3, .long x1), (5, .int 0)]) hX dX5_digestShafts_3 (by decide) rfl ?_
  exact k
set_option maxRecDepth 4000 in
theorem RX5_digestShafts_5 {X : XT} {I : MI} {L : ML} {p : Nat → Nat}  (hX : Cx X cX5_digestShafts 7 RX5 wsX5_digestShafts rmX5_digestShafts) (x1 : Int64) (x3 : Int64) (x5 : Int32) (k : (((I 1 0) ≤ x5 → Rt X (some .long) rmX5_digestShafts (some (.long x3)) (HM X I L p)) ∧ (¬ (I 1 0) ≤ x5 → G X 0 0 20 [(0, .ref 0), (1, .long x1), (3, .long x3), (5, .int x5), (6, .int 0)] [] (HM X I L p)))) : G X 0 0 5 [(0, .ref 0), (1, .long x1), (3, .long x3), (5, .int x5)] [] (HM X I L p) := by
  refine g_iload hX 3 rfl dX5_digestShafts_5 ?_
  refine g_aload_n hX 0 rfl rfl dX5_digestShafts_7 ?_
  refine g_getR (k := 0) (r' := 1) hX hPW flX5_digestShafts_12 sn0 so0 rfl (k0_0 _) dX5_digestShafts_8 ?_
  refine g_getI (k := 0) hX hPW flX5_digestShafts_161 sn1 so1 rfl dX5_digestShafts_11 ?_
  refine g_icmp_ge (tgt := 68) hX dX5_digestShafts_14 (by decide) (fun h => ?_) (fun h => ?_)
  · replace k := k.1 h
    refine g_lload_n hX 2 rfl rfl dX5_digestShafts_68 ?_
    exact g_lreturn hX k rfl rfl dX5_digestShafts_69
  · replace k := k.2 h
    refine g_iconst (v := 0) hX dX5_digestShafts_17 (by decide) ?_
    refine g_istore (ls' := [(0, .ref 0), (1, .long x1), (3, .long x3), (5, .int x5), (6, .int 0)]) hX dX5_digestShafts_18 (by decide) rfl ?_
    exact k
set_option maxRecDepth 4000 in
theorem RX5_digestShafts_20 {X : XT} {I : MI} {L : ML} {p : Nat → Nat}  (hX : Cx X cX5_digestShafts 7 RX5 wsX5_digestShafts rmX5_digestShafts) (x1 : Int64) (x3 : Int64) (x5 : Int32) (x6 : Int32) (k : ((5 < x6 → (∃ (zr2 : Int32) (zI3 : MI) (zL4 : ML), Ct (xE X) (xl X) yX5_when wsX5_when rmX5_when [.ref 0, .int x5] (HM X I L p) (some (.int zr2)) (HM X zI3 zL4 p) ∧ G X 0 0 5 [(0, .ref 0), (1, .long x1), (3, .long ((31 * x3) + zr2.toInt64)), (5, .int (x5 + 1))] [] (HM X zI3 zL4 p))) ∧ (¬ 5 < x6 → (∃ (zr6 : Int32) (zI7 : MI), Ct (xE X) (xl X) yX5_of wsX5_of rmX5_of [.ref 0, .int x5, .int x6] (HM X I L p) (some (.int zr6)) (HM X zI7 L p) ∧ G X 0 0 20 [(0, .ref 0), (1, .long x1), (3, .long ((31 * x3) + zr6.toInt64)), (5, .int x5), (6, .int (x6 + 1))] [] (HM X zI7 L p))))) : G X 0 0 20 [(0, .ref 0), (1, .long x1), (3, .long x3), (5, .int x5), (6, .int x6)] [] (HM X I L p) := by
  refine g_iload hX 4 rfl dX5_digestShafts_20 ?_
  refine g_iconst (v := 5) hX dX5_digestShafts_22 (by decide) ?_
  refine g_icmp_gt (tgt := 48) hX dX5_digestShafts_23 (by decide) (fun h => ?_) (fun h => ?_)
  · replace k := k.1 h
    refine g_ldc2 (v := 31) hX (by decide +kernel) dX5_digestShafts_48 ?_
    refine g_lload_n hX 2 rfl rfl dX5_digestShafts_51 ?_
    refine g_lmul hX dX5_digestShafts_52 ?_
    refine g_aload_n hX 0 rfl rfl dX5_digestShafts_53 ?_
    refine g_iload hX 3 rfl dX5_digestShafts_54 ?_
    obtain ⟨zr2, zI3, zL4, zhc1, k⟩ := k
    refine g_callV (cs' := 0) (sl' := 0) (C := RX5) (as := [.int x5]) (st := [.long (31 * x3)]) hX zhc1 hPW sn0 so0 rfl gX5_digestShafts_X5_when rfl rfl rfl ydX5_when (by decide) (Nat.le_of_ble_eq_true rfl) (by decide) dX5_digestShafts_56 rfl rfl ?_
    refine g_i2l hX dX5_digestShafts_59 ?_
    refine g_ladd hX dX5_digestShafts_60 ?_
    refine g_lstore_n (ls' := [(0, .ref 0), (1, .long x1), (3, .long ((31 * x3) + zr2.toInt64)), (5, .int x5), (6, .int x6)]) hX dX5_digestShafts_61 rfl (by decide) rfl ?_
    refine g_iinc (v := x5 + 1) (ls' := [(0, .ref 0), (1, .long x1), (3, .long ((31 * x3) + zr2.toInt64)), (5, .int (x5 + 1)), (6, .int x6)]) hX 3 rfl dX5_digestShafts_62 rfl (by decide) rfl ?_
    refine g_goto (tgt := 5) hX dX5_digestShafts_65 (by decide) ?_
    refine G.pick (ks := [0, 1, 2, 3]) (ls' := [(0, .ref 0), (1, .long x1), (3, .long ((31 * x3) + zr2.toInt64)), (5, .int (x5 + 1))]) rfl ?_
    exact k
  · replace k := k.2 h
    refine g_ldc2 (v := 31) hX (by decide +kernel) dX5_digestShafts_26 ?_
    refine g_lload_n hX 2 rfl rfl dX5_digestShafts_29 ?_
    refine g_lmul hX dX5_digestShafts_30 ?_
    refine g_aload_n hX 0 rfl rfl dX5_digestShafts_31 ?_
    refine g_iload hX 3 rfl dX5_digestShafts_32 ?_
    refine g_iload hX 4 rfl dX5_digestShafts_34 ?_
    obtain ⟨zr6, zI7, zhc5, k⟩ := k
    refine g_callV (cs' := 0) (sl' := 0) (C := RX5) (as := [.int x5, .int x6]) (st := [.long (31 * x3)]) hX zhc5 hPW sn0 so0 rfl gX5_digestShafts_X5_of rfl rfl rfl ydX5_of (by decide) (Nat.le_of_ble_eq_true rfl) (by decide) dX5_digestShafts_36 rfl rfl ?_
    refine g_i2l hX dX5_digestShafts_39 ?_
    refine g_ladd hX dX5_digestShafts_40 ?_
    refine g_lstore_n (ls' := [(0, .ref 0), (1, .long x1), (3, .long ((31 * x3) + zr6.toInt64)), (5, .int x5), (6, .int x6)]) hX dX5_digestShafts_41 rfl (by decide) rfl ?_
    refine g_iinc (v := x6 + 1) (ls' := [(0, .ref 0), (1, .long x1), (3, .long ((31 * x3) + zr6.toInt64)), (5, .int x5), (6, .int (x6 + 1))]) hX 4 rfl dX5_digestShafts_42 rfl (by decide) rfl ?_
    refine g_goto (tgt := 20) hX dX5_digestShafts_45 (by decide) ?_
    exact k
set_option maxRecDepth 4000 in
theorem RX5_digestPipes_0 {X : XT} {I : MI} {L : ML} {p : Nat → Nat}  (hX : Cx X cX5_digestPipes 7 RX5 wsX5_digestPipes rmX5_digestPipes) (x1 : Int64) (k : G X 0 0 5 [(0, .ref 0), (1, .long x1), (3, .long x1), (5, .int 0)] [] (HM X I L p)) : G X 0 0 0 [(0, .ref 0), (1, .long x1)] [] (HM X I L p) := by
  refine g_lload_n hX 1 rfl rfl dX5_digestPipes_0 ?_
  refine g_lstore_n (ls' := [(0, .ref 0), (1, .long x1), (3, .long x1)]) hX dX5_digestPipes_1 rfl (by decide) rfl ?_
  refine g_iconst (v := 0) hX dX5_digestPipes_2 (by decide) ?_
  refine g_istore (ls' := [(0, .ref 0), (1, .long x1), (3, .long x1), (5, .int 0)]) hX dX5_digestPipes_3 (by decide) rfl ?_
  exact k
set_option maxRecDepth 4000 in
theorem RX5_digestPipes_5 {X : XT} {I : MI} {L : ML} {p : Nat → Nat}  (hX : Cx X cX5_digestPipes 7 RX5 wsX5_digestPipes rmX5_digestPipes) (x1 : Int64) (x3 : Int64) (x5 : Int32) (k : (((I 1 3) ≤ x5 → Rt X (some .long) rmX5_digestPipes (some (.long x3)) (HM X I L p)) ∧ (¬ (I 1 3) ≤ x5 → G X 0 0 20 [(0, .ref 0), (1, .long x1), (3, .long x3), (5, .int x5), (6, .int 0)] [] (HM X I L p)))) : G X 0 0 5 [(0, .ref 0), (1, .long x1), (3, .long x3), (5, .int x5)] [] (HM X I L p) := by
  refine g_iload hX 3 rfl dX5_digestPipes_5 ?_
  refine g_aload_n hX 0 rfl rfl dX5_digestPipes_7 ?_
  refine g_getR (k := 0) (r' := 1) hX hPW flX5_digestPipes_12 sn0 so0 rfl (k0_0 _) dX5_digestPipes_8 ?_
  refine g_getI (k := 3) hX hPW flX5_digestPipes_214 sn1 so1 rfl dX5_digestPipes_11 ?_
  refine g_icmp_ge (tgt := 54) hX dX5_digestPipes_14 (by decide) (fun h => ?_) (fun h => ?_)
  · replace k := k.1 h
    refine g_lload_n hX 2 rfl rfl dX5_digestPipes_54 ?_
    exact g_lreturn hX k rfl rfl dX5_digestPipes_55
  · replace k := k.2 h
    refine g_iconst (v := 0) hX dX5_digestPipes_17 (by decide) ?_
    refine g_istore (ls' := [(0, .ref 0), (1, .long x1), (3, .long x3), (5, .int x5), (6, .int 0)]) hX dX5_digestPipes_18 (by decide) rfl ?_
    exact k
set_option maxRecDepth 4000 in
theorem RX5_digestPipes_20 {X : XT} {I : MI} {L : ML} {p : Nat → Nat}  (hX : Cx X cX5_digestPipes 7 RX5 wsX5_digestPipes rmX5_digestPipes) (x1 : Int64) (x3 : Int64) (x5 : Int32) (x6 : Int32) (k : ((3 < x6 → G X 0 0 5 [(0, .ref 0), (1, .long x1), (3, .long x3), (5, .int (x5 + 1))] [] (HM X I L p)) ∧ (¬ 3 < x6 → (∃ (zr2 : Int32) (zI3 : MI), Ct (xE X) (xl X) yX5_about wsX5_about rmX5_about [.ref 0, .int x5, .int x6] (HM X I L p) (some (.int zr2)) (HM X zI3 L p) ∧ G X 0 0 20 [(0, .ref 0), (1, .long x1), (3, .long ((31 * x3) + zr2.toInt64)), (5, .int x5), (6, .int (x6 + 1))] [] (HM X zI3 L p))))) : G X 0 0 20 [(0, .ref 0), (1, .long x1), (3, .long x3), (5, .int x5), (6, .int x6)] [] (HM X I L p) := by
  refine g_iload hX 4 rfl dX5_digestPipes_20 ?_
  refine g_iconst (v := 3) hX dX5_digestPipes_22 (by decide) ?_
  refine g_icmp_gt (tgt := 48) hX dX5_digestPipes_23 (by decide) (fun h => ?_) (fun h => ?_)
  · replace k := k.1 h
    refine g_iinc (v := x5 + 1) (ls' := [(0, .ref 0), (1, .long x1), (3, .long x3), (5, .int (x5 + 1)), (6, .int x6)]) hX 3 rfl dX5_digestPipes_48 rfl (by decide) rfl ?_
    refine g_goto (tgt := 5) hX dX5_digestPipes_51 (by decide) ?_
    refine G.pick (ks := [0, 1, 2, 3]) (ls' := [(0, .ref 0), (1, .long x1), (3, .long x3), (5, .int (x5 + 1))]) rfl ?_
    exact k
  · replace k := k.2 h
    refine g_ldc2 (v := 31) hX (by decide +kernel) dX5_digestPipes_26 ?_
    refine g_lload_n hX 2 rfl rfl dX5_digestPipes_29 ?_
    refine g_lmul hX dX5_digestPipes_30 ?_
    refine g_aload_n hX 0 rfl rfl dX5_digestPipes_31 ?_
    refine g_iload hX 3 rfl dX5_digestPipes_32 ?_
    refine g_iload hX 4 rfl dX5_digestPipes_34 ?_
    obtain ⟨zr2, zI3, zhc1, k⟩ := k
    refine g_callV (cs' := 0) (sl' := 0) (C := RX5) (as := [.int x5, .int x6]) (st := [.long (31 * x3)]) hX zhc1 hPW sn0 so0 rfl gX5_digestPipes_X5_about rfl rfl rfl ydX5_about (by decide) (Nat.le_of_ble_eq_true rfl) (by decide) dX5_digestPipes_36 rfl rfl ?_
    refine g_i2l hX dX5_digestPipes_39 ?_
    refine g_ladd hX dX5_digestPipes_40 ?_
    refine g_lstore_n (ls' := [(0, .ref 0), (1, .long x1), (3, .long ((31 * x3) + zr2.toInt64)), (5, .int x5), (6, .int x6)]) hX dX5_digestPipes_41 rfl (by decide) rfl ?_
    refine g_iinc (v := x6 + 1) (ls' := [(0, .ref 0), (1, .long x1), (3, .long ((31 * x3) + zr2.toInt64)), (5, .int x5), (6, .int (x6 + 1))]) hX 4 rfl dX5_digestPipes_42 rfl (by decide) rfl ?_
    refine g_goto (tgt := 20) hX dX5_digestPipes_45 (by decide) ?_
    exact k
set_option maxRecDepth 4000 in
theorem RX5_isStart_0 {X : XT} {I : MI} {L : ML} {p : Nat → Nat}  (hX : Cx X cX5_isStart 3 RX5 wsX5_isStart rmX5_isStart) (x1 : Int32) (x2 : Int32) (k : (∃ (zr2 : Int32), Ct (xE X) (xl X) yX0_hasShaft wsX0_hasShaft rmX0_hasShaft [.ref 1, .int x1] (HM X I L p) (some (.int zr2)) (HM X I L p) ∧ ((zr2 = 0 → Rt X (some .boolean) rmX5_isStart (some (.int 0)) (HM X I L p)) ∧ (¬ zr2 = 0 → (∃ (zr4 : Int32), Ct (xE X) (xl X) yX5_within wsX5_within rmX5_within [.int x2, .int 0, .int 30] (HM X I L p) (some (.int zr4)) (HM X I L p) ∧ Rt X (some .boolean) rmX5_isStart (some (.int (if zr4 = 0 then 0 else 1 : Int32))) (HM X I L p)))))) : G X 0 0 0 [(0, .ref 0), (1, .int x1), (2, .int x2)] [] (HM X I L p) := by
  refine g_aload_n hX 0 rfl rfl dX5_isStart_0 ?_
  refine g_getR (k := 0) (r' := 1) hX hPW flX5_isStart_12 sn0 so0 rfl (k0_0 _) dX5_isStart_1 ?_
  refine g_iload_n hX 1 rfl rfl dX5_isStart_4 ?_
  obtain ⟨zr2, zhc1, k⟩ := k
  refine g_callV (cs' := 0) (sl' := 0) (C := RX0) (as := [.int x1]) (st := []) hX zhc1 hPW sn1 so1 rfl gX5_isStart_X0_hasShaft rfl rfl rfl ydX0_hasShaft (by decide) (Nat.le_of_ble_eq_true rfl) (by decide) dX5_isStart_5 rfl rfl ?_
  refine g_if_eq (tgt := 25) hX dX5_isStart_8 (by decide) (fun h => ?_) (fun h => ?_)
  · replace k := k.1 h
    refine g_iconst (v := 0) hX dX5_isStart_25 (by decide) ?_
    exact g_zreturn hX k (by decide) rfl rfl dX5_isStart_26
  · replace k := k.2 h
    refine g_iload_n hX 2 rfl rfl dX5_isStart_11 ?_
    refine g_iconst (v := 0) hX dX5_isStart_12 (by decide) ?_
    refine g_bipush (v := 30) hX dX5_isStart_13 (by decide) ?_
    obtain ⟨zr4, zhc3, k⟩ := k
    refine g_callS (cs' := 0) (sl' := 0) (as := [.int x2, .int 0, .int 30]) (st := []) hX zhc3 gX5_isStart_X5_within rfl rfl ydX5_within (by decide) (Nat.le_of_ble_eq_true rfl) (by decide) dX5_isStart_15 rfl rfl ?_
    have kJ : G X 0 0 26 [(0, .ref 0), (1, .int x1), (2, .int x2)] [.int (if zr4 = 0 then 0 else 1 : Int32)] (HM X I L p) := by
      exact g_zreturn hX k b10 rfl rfl dX5_isStart_26
    refine g_if_eq (tgt := 25) hX dX5_isStart_18 (by decide) (fun h => ?_) (fun h => ?_)
    · rw [(show (if zr4 = 0 then 0 else 1 : Int32) = 0 from if_pos h)] at kJ
      refine g_iconst (v := 0) hX dX5_isStart_25 (by decide) ?_
      exact kJ
    · rw [(show (if zr4 = 0 then 0 else 1 : Int32) = 1 from if_neg h)] at kJ
      refine g_iconst (v := 1) hX dX5_isStart_21 (by decide) ?_
      refine g_goto (tgt := 26) hX dX5_isStart_22 (by decide) ?_
      exact kJ
set_option maxRecDepth 4000 in
theorem RX5_settled_0 {X : XT} {I : MI} {L : ML} {p : Nat → Nat}  (hX : Cx X cX5_settled 2 RX5 wsX5_settled rmX5_settled) (x1 : Int32) (k : ((0 ≤ x1 → (∃ (zI2 : MI) (zq3 : Nat → Nat), Ct (xE X) (xl X) yX3_keep wsX3_keep rmX3_keep [.ref 13] (HM X I L p) none (HM X zI2 L zq3) ∧ (∃ (zI5 : MI), Ct (xE X) (xl X) yX1_outdate wsX1_outdate rmX1_outdate [.ref 87] (HM X zI2 L zq3) none (HM X zI5 L zq3) ∧ Rt X (some .int) rmX5_settled (some (.int x1)) (HM X zI5 L zq3)))) ∧ (¬ 0 ≤ x1 → (∃ (zr7 : Int32) (zI8 : MI), Ct (xE X) (xl X) yX5_refused wsX5_refused rmX5_refused [.ref 0, .int x1] (HM X I L p) (some (.int zr7)) (HM X zI8 L p) ∧ Rt X (some .int) rmX5_settled (some (.int zr7)) (HM X zI8 L p))))) : G X 0 0 0 [(0, .ref 0), (1, .int x1)] [] (HM X I L p) := by
  refine g_iload_n hX 1 rfl rfl dX5_settled_0 ?_
  refine g_if_ge (tgt := 10) hX dX5_settled_1 (by decide) (fun h => ?_) (fun h => ?_)
  · replace k := k.1 h
    refine g_aload_n hX 0 rfl rfl dX5_settled_10 ?_
    refine g_getR (k := 1) (r' := 13) hX hPW flX5_settled_19 sn0 so0 rfl (k0_1 _) dX5_settled_11 ?_
    obtain ⟨zI2, zq3, zhc1, k⟩ := k
    refine g_callV (cs' := 0) (sl' := 0) (C := RX3) (as := []) (st := []) hX zhc1 hPW sn13 so13 rfl gX5_settled_X3_keep rfl rfl rfl ydX3_keep (by decide) (Nat.le_of_ble_eq_true rfl) (by decide) dX5_settled_14 rfl rfl ?_
    refine g_aload_n hX 0 rfl rfl dX5_settled_17 ?_
    refine g_getR (k := 2) (r' := 87) hX hPW flX5_settled_26 sn0 so0 rfl (k0_2 _) dX5_settled_18 ?_
    obtain ⟨zI5, zhc4, k⟩ := k
    refine g_callV (cs' := 0) (sl' := 0) (C := RX1) (as := []) (st := []) hX zhc4 hPW sn87 so87 rfl gX5_settled_X1_outdate rfl rfl rfl ydX1_outdate (by decide) (Nat.le_of_ble_eq_true rfl) (by decide) dX5_settled_21 rfl rfl ?_
    refine g_iload_n hX 1 rfl rfl dX5_settled_24 ?_
    exact g_ireturn hX k rfl rfl dX5_settled_25
  · replace k := k.2 h
    refine g_aload_n hX 0 rfl rfl dX5_settled_4 ?_
    refine g_iload_n hX 1 rfl rfl dX5_settled_5 ?_
    obtain ⟨zr7, zI8, zhc6, k⟩ := k
    refine g_callV (cs' := 0) (sl' := 0) (C := RX5) (as := [.int x1]) (st := []) hX zhc6 hPW sn0 so0 rfl gX5_settled_X5_refused rfl rfl rfl ydX5_refused (by decide) (Nat.le_of_ble_eq_true rfl) (by decide) dX5_settled_6 rfl rfl ?_
    exact g_ireturn hX k rfl rfl dX5_settled_9
set_option maxRecDepth 4000 in
theorem RX5_refused_0 {X : XT} {I : MI} {L : ML} {p : Nat → Nat}  (hX : Cx X cX5_refused 2 RX5 wsX5_refused rmX5_refused) (x1 : Int32) (k : ((x1 = (-3) → Rt X (some .int) rmX5_refused (some (.int x1)) (HM X (upI I 0 8 ((I 0 8) + 1)) L p)) ∧ ((x1 = (-2) → Rt X (some .int) rmX5_refused (some (.int x1)) (HM X (upI I 0 7 ((I 0 7) + 1)) L p)) ∧ (¬ x1 = (-3) ∧ ¬ x1 = (-2) → Rt X (some .int) rmX5_refused (some (.int x1)) (HM X (upI I 0 9 ((I 0 9) + 1)) L p))))) : G X 0 0 0 [(0, .ref 0), (1, .int x1)] [] (HM X I L p) := by
  refine g_iload_n hX 1 rfl rfl dX5_refused_0 ?_
  by_cases c0 : x1 = (-3)
  · replace k := k.1 c0
    refine g_lookup (off := 40) (tgt := 41) hX dX5_refused_1 (by decide) (by rw [c0]; decide) (by decide) ?_
    refine g_aload_n hX 0 rfl rfl dX5_refused_41 ?_
    refine g_dup hX dX5_refused_42 rfl ?_
    refine g_getI (k := 8) hX hPW flX5_refused_208 sn0 so0 rfl dX5_refused_43 ?_
    refine g_iconst (v := 1) hX dX5_refused_46 (by decide) ?_
    refine g_iadd hX dX5_refused_47 ?_
    refine g_putI (k := 8) hX fpX5_refused_208 sn0 so0 rfl rfl rfl dX5_refused_48 ?_
    refine g_goto (tgt := 64) hX dX5_refused_51 (by decide) ?_
    refine g_iload_n hX 1 rfl rfl dX5_refused_64 ?_
    exact g_ireturn hX k rfl rfl dX5_refused_65
  · replace k := k.2
    by_cases c1 : x1 = (-2)
    · replace k := k.1 c1
      refine g_lookup (off := 27) (tgt := 28) hX dX5_refused_1 (by decide) (by rw [c1]; decide) (by decide) ?_
      refine g_aload_n hX 0 rfl rfl dX5_refused_28 ?_
      refine g_dup hX dX5_refused_29 rfl ?_
      refine g_getI (k := 7) hX hPW flX5_refused_205 sn0 so0 rfl dX5_refused_30 ?_
      refine g_iconst (v := 1) hX dX5_refused_33 (by decide) ?_
      refine g_iadd hX dX5_refused_34 ?_
      refine g_putI (k := 7) hX fpX5_refused_205 sn0 so0 rfl rfl rfl dX5_refused_35 ?_
      refine g_goto (tgt := 64) hX dX5_refused_38 (by decide) ?_
      refine g_iload_n hX 1 rfl rfl dX5_refused_64 ?_
      exact g_ireturn hX k rfl rfl dX5_refused_65
    · replace k := k.2
      replace k := k ⟨c0, c1⟩
      refine g_lookup (off := 53) (tgt := 54) hX dX5_refused_1 (by decide) (by dsimp only; rw [lv_osw c0 (show ((-3) : Int32).toInt = -3 by decide), lv_osw c1 (show ((-2) : Int32).toInt = -2 by decide)]; rfl) (by decide) ?_
      refine g_aload_n hX 0 rfl rfl dX5_refused_54 ?_
      refine g_dup hX dX5_refused_55 rfl ?_
      refine g_getI (k := 9) hX hPW flX5_refused_211 sn0 so0 rfl dX5_refused_56 ?_
      refine g_iconst (v := 1) hX dX5_refused_59 (by decide) ?_
      refine g_iadd hX dX5_refused_60 ?_
      refine g_putI (k := 9) hX fpX5_refused_211 sn0 so0 rfl rfl rfl dX5_refused_61 ?_
      refine g_iload_n hX 1 rfl rfl dX5_refused_64 ?_
      exact g_ireturn hX k rfl rfl dX5_refused_65
set_option maxRecDepth 4000 in
theorem RX5_largerPart_0 {X : XT} {I : MI} {L : ML} {p : Nat → Nat}  (hX : Cx X cX5_largerPart 3 RX5 wsX5_largerPart rmX5_largerPart) (x0 : Int32) (x1 : Int32) (k : (∃ (zr2 : Int32), Ct (xE X) (xl X) yJ6_bitCount_0f7a4 wsJ6_bitCount_0f7a4 rmJ6_bitCount_0f7a4 [.int (x0 &&& x1)] (HM X I L p) (some (.int zr2)) (HM X I L p) ∧ (∃ (zr4 : Int32), Ct (xE X) (xl X) yJ6_bitCount_0f7a4 wsJ6_bitCount_0f7a4 rmJ6_bitCount_0f7a4 [.int x0] (HM X I L p) (some (.int zr4)) (HM X I L p) ∧ Rt X (some .int) rmX5_largerPart (some (.int (if zr2 < (zr4 - zr2) then zr4 - zr2 else zr2 : Int32))) (HM X I L p)))) : G X 0 0 0 [(0, .int x0), (1, .int x1)] [] (HM X I L p) := by
  refine g_iload_n hX 0 rfl rfl dX5_largerPart_0 ?_
  refine g_iload_n hX 1 rfl rfl dX5_largerPart_1 ?_
  refine g_iand hX dX5_largerPart_2 ?_
  obtain ⟨zr2, zhc1, k⟩ := k
  refine g_callS (cs' := 0) (sl' := 0) (as := [.int (x0 &&& x1)]) (st := []) hX zhc1 gX5_largerPart_J6_bitCount_0f7a4 rfl rfl ydJ6_bitCount_0f7a4 (by decide) (Nat.le_of_ble_eq_true rfl) (by decide) dX5_largerPart_3 rfl rfl ?_
  refine g_istore_n (ls' := [(0, .int x0), (1, .int x1), (2, .int zr2)]) hX dX5_largerPart_6 rfl (by decide) rfl ?_
  refine g_iload_n hX 2 rfl rfl dX5_largerPart_7 ?_
  refine g_iload_n hX 0 rfl rfl dX5_largerPart_8 ?_
  obtain ⟨zr4, zhc3, k⟩ := k
  refine g_callS (cs' := 0) (sl' := 0) (as := [.int x0]) (st := [.int zr2]) hX zhc3 gX5_largerPart_J6_bitCount_0f7a4 rfl rfl ydJ6_bitCount_0f7a4 (by decide) (Nat.le_of_ble_eq_true rfl) (by decide) dX5_largerPart_9 rfl rfl ?_
  refine g_iload_n hX 2 rfl rfl dX5_largerPart_12 ?_
  refine g_isub hX dX5_largerPart_13 ?_
  refine g_mmax hX (by decide +kernel) (by decide +kernel) (by decide +kernel) (by decide +kernel) (by decide) (Nat.le_of_ble_eq_true rfl) (by decide) (by decide) dX5_largerPart_14 ?_
  exact g_ireturn hX k rfl rfl dX5_largerPart_17
set_option maxRecDepth 4000 in
theorem RX5_within_0 {X : XT} {I : MI} {L : ML} {p : Nat → Nat}  (hX : Cx X cX5_within 3 RX5 wsX5_within rmX5_within) (x0 : Int32) (x1 : Int32) (x2 : Int32) (k : ((x0 < x1 → Rt X (some .boolean) rmX5_within (some (.int 0)) (HM X I L p)) ∧ (¬ x0 < x1 → Rt X (some .boolean) rmX5_within (some (.int (if x2 < x0 then 0 else 1 : Int32))) (HM X I L p)))) : G X 0 0 0 [(0, .int x0), (1, .int x1), (2, .int x2)] [] (HM X I L p) := by
  refine g_iload_n hX 0 rfl rfl dX5_within_0 ?_
  refine g_iload_n hX 1 rfl rfl dX5_within_1 ?_
  refine g_icmp_lt (tgt := 14) hX dX5_within_2 (by decide) (fun h => ?_) (fun h => ?_)
  · replace k := k.1 h
    refine g_iconst (v := 0) hX dX5_within_14 (by decide) ?_
    exact g_zreturn hX k (by decide) rfl rfl dX5_within_15
  · replace k := k.2 h
    refine g_iload_n hX 0 rfl rfl dX5_within_5 ?_
    refine g_iload_n hX 2 rfl rfl dX5_within_6 ?_
    have kJ : G X 0 0 15 [(0, .int x0), (1, .int x1), (2, .int x2)] [.int (if x2 < x0 then 0 else 1 : Int32)] (HM X I L p) := by
      exact g_zreturn hX k b10 rfl rfl dX5_within_15
    refine g_icmp_gt (tgt := 14) hX dX5_within_7 (by decide) (fun h => ?_) (fun h => ?_)
    · rw [(show (if x2 < x0 then 0 else 1 : Int32) = 0 from if_pos h)] at kJ
      refine g_iconst (v := 0) hX dX5_within_14 (by decide) ?_
      exact kJ
    · rw [(show (if x2 < x0 then 0 else 1 : Int32) = 1 from if_neg h)] at kJ
      refine g_iconst (v := 1) hX dX5_within_10 (by decide) ?_
      refine g_goto (tgt := 15) hX dX5_within_11 (by decide) ?_
      exact kJ
set_option maxRecDepth 4000 in
theorem RJ6_numberOfLeadingZeros_0f7a4_0 {X : XT} {I : MI} {L : ML} {p : Nat → Nat}  (hX : Cx X cJ6_numberOfLeadingZeros_0f7a4 2 RJ6 wsJ6_numberOfLeadingZeros_0f7a4 rmJ6_numberOfLeadingZeros_0f7a4) (x0 : Int32) (k : ((0 < x0 → ((x0 < 65536 → ((x0 < 256 → ((x0 < 16 → ((x0 < 4 → Rt X (some .int) rmJ6_numberOfLeadingZeros_0f7a4 (some (.int (31 - (jushr x0 1)))) (HM X I L p)) ∧ (¬ x0 < 4 → Rt X (some .int) rmJ6_numberOfLeadingZeros_0f7a4 (some (.int ((31 + (-2)) - (jushr (jushr x0 2) 1)))) (HM X I L p)))) ∧ (¬ x0 < 16 → (((jushr x0 4) < 4 → Rt X (some .int) rmJ6_numberOfLeadingZeros_0f7a4 (some (.int ((31 + (-4)) - (jushr (jushr x0 4) 1)))) (HM X I L p)) ∧ (¬ (jushr x0 4) < 4 → Rt X (some .int) rmJ6_numberOfLeadingZeros_0f7a4 (some (.int (((31 + (-4)) + (-2)) - (jushr (jushr (jushr x0 4) 2) 1)))) (HM X I L p)))))) ∧ (¬ x0 < 256 → (((jushr x0 8) < 16 → (((jushr x0 8) < 4 → Rt X (some .int) rmJ6_numberOfLeadingZeros_0f7a4 (some (.int ((31 + (-8)) - (jushr (jushr x0 8) 1)))) (HM X I L p)) ∧ (¬ (jushr x0 8) < 4 → Rt X (some .int) rmJ6_numberOfLeadingZeros_0f7a4 (some (.int (((31 + (-8)) + (-2)) - (jushr (jushr (jushr x0 8) 2) 1)))) (HM X I L p)))) ∧ (¬ (jushr x0 8) < 16 → (((jushr (jushr x0 8) 4) < 4 → Rt X (some .int) rmJ6_numberOfLeadingZeros_0f7a4 (some (.int (((31 + (-8)) + (-4)) - (jushr (jushr (jushr x0 8) 4) 1)))) (HM X I L p)) ∧ (¬ (jushr (jushr x0 8) 4) < 4 → Rt X (some .int) rmJ6_numberOfLeadingZeros_0f7a4 (some (.int ((((31 + (-8)) + (-4)) + (-2)) - (jushr (jushr (jushr (jushr x0 8) 4) 2) 1)))) (HM X I L p)))))))) ∧ (¬ x0 < 65536 → (((jushr x0 16) < 256 → (((jushr x0 16) < 16 → (((jushr x0 16) < 4 → Rt X (some .int) rmJ6_numberOfLeadingZeros_0f7a4 (some (.int ((31 + (-16)) - (jushr (jushr x0 16) 1)))) (HM X I L p)) ∧ (¬ (jushr x0 16) < 4 → Rt X (some .int) rmJ6_numberOfLeadingZeros_0f7a4 (some (.int (((31 + (-16)) + (-2)) - (jushr (jushr (jushr x0 16) 2) 1)))) (HM X I L p)))) ∧ (¬ (jushr x0 16) < 16 → (((jushr (jushr x0 16) 4) < 4 → Rt X (some .int) rmJ6_numberOfLeadingZeros_0f7a4 (some (.int (((31 + (-16)) + (-4)) - (jushr (jushr (jushr x0 16) 4) 1)))) (HM X I L p)) ∧ (¬ (jushr (jushr x0 16) 4) < 4 → Rt X (some .int) rmJ6_numberOfLeadingZeros_0f7a4 (some (.int ((((31 + (-16)) + (-4)) + (-2)) - (jushr (jushr (jushr (jushr x0 16) 4) 2) 1)))) (HM X I L p)))))) ∧ (¬ (jushr x0 16) < 256 → (((jushr (jushr x0 16) 8) < 16 → (((jushr (jushr x0 16) 8) < 4 → Rt X (some .int) rmJ6_numberOfLeadingZeros_0f7a4 (some (.int (((31 + (-16)) + (-8)) - (jushr (jushr (jushr x0 16) 8) 1)))) (HM X I L p)) ∧ (¬ (jushr (jushr x0 16) 8) < 4 → Rt X (some .int) rmJ6_numberOfLeadingZeros_0f7a4 (some (.int ((((31 + (-16)) + (-8)) + (-2)) - (jushr (jushr (jushr (jushr x0 16) 8) 2) 1)))) (HM X I L p)))) ∧ (¬ (jushr (jushr x0 16) 8) < 16 → (((jushr (jushr (jushr x0 16) 8) 4) < 4 → Rt X (some .int) rmJ6_numberOfLeadingZeros_0f7a4 (some (.int ((((31 + (-16)) + (-8)) + (-4)) - (jushr (jushr (jushr (jushr x0 16) 8) 4) 1)))) (HM X I L p)) ∧ (¬ (jushr (jushr (jushr x0 16) 8) 4) < 4 → Rt X (some .int) rmJ6_numberOfLeadingZeros_0f7a4 (some (.int (((((31 + (-16)) + (-8)) + (-4)) + (-2)) - (jushr (jushr (jushr (jushr (jushr x0 16) 8) 4) 2) 1)))) (HM X I L p)))))))))) ∧ (¬ 0 < x0 → Rt X (some .int) rmJ6_numberOfLeadingZeros_0f7a4 (some (.int (if x0 = 0 then 32 else 0 : Int32))) (HM X I L p)))) : G X 0 0 0 [(0, .int x0)] [] (HM X I L p) := by
  refine g_iload_n hX 0 rfl rfl dJ6_numberOfLeadingZeros_0f7a4_0 ?_
  refine g_if_gt (tgt := 15) hX dJ6_numberOfLeadingZeros_0f7a4_1 (by decide) (fun h => ?_) (fun h => ?_)
  · replace k := k.1 h
    refine g_bipush (v := 31) hX dJ6_numberOfLeadingZeros_0f7a4_15 (by decide) ?_
    refine g_istore_n (ls' := [(0, .int x0), (1, .int 31)]) hX dJ6_numberOfLeadingZeros_0f7a4_17 rfl (by decide) rfl ?_
    refine g_iload_n hX 0 rfl rfl dJ6_numberOfLeadingZeros_0f7a4_18 ?_
    refine g_ldcw (v := 65536) hX (by decide +kernel) dJ6_numberOfLeadingZeros_0f7a4_19 ?_
    refine g_icmp_lt (tgt := 33) hX dJ6_numberOfLeadingZeros_0f7a4_22 (by decide) (fun h => ?_) (fun h => ?_)
    · replace k := k.1 h
      refine g_iload_n hX 0 rfl rfl dJ6_numberOfLeadingZeros_0f7a4_33 ?_
      refine g_sipush (v := 256) hX dJ6_numberOfLeadingZeros_0f7a4_34 (by decide) ?_
      refine g_icmp_lt (tgt := 48) hX dJ6_numberOfLeadingZeros_0f7a4_37 (by decide) (fun h => ?_) (fun h => ?_)
      · replace k := k.1 h
        refine g_iload_n hX 0 rfl rfl dJ6_numberOfLeadingZeros_0f7a4_48 ?_
        refine g_bipush (v := 16) hX dJ6_numberOfLeadingZeros_0f7a4_49 (by decide) ?_
        refine g_icmp_lt (tgt := 61) hX dJ6_numberOfLeadingZeros_0f7a4_51 (by decide) (fun h => ?_) (fun h => ?_)
        · replace k := k.1 h
          refine g_iload_n hX 0 rfl rfl dJ6_numberOfLeadingZeros_0f7a4_61 ?_
          refine g_iconst (v := 4) hX dJ6_numberOfLeadingZeros_0f7a4_62 (by decide) ?_
          refine g_icmp_lt (tgt := 73) hX dJ6_numberOfLeadingZeros_0f7a4_63 (by decide) (fun h => ?_) (fun h => ?_)
          · replace k := k.1 h
            refine g_iload_n hX 1 rfl rfl dJ6_numberOfLeadingZeros_0f7a4_73 ?_
            refine g_iload_n hX 0 rfl rfl dJ6_numberOfLeadingZeros_0f7a4_74 ?_
            refine g_iconst (v := 1) hX dJ6_numberOfLeadingZeros_0f7a4_75 (by decide) ?_
            refine g_iushr hX dJ6_numberOfLeadingZeros_0f7a4_76 ?_
            refine g_isub hX dJ6_numberOfLeadingZeros_0f7a4_77 ?_
            exact g_ireturn hX k rfl rfl dJ6_numberOfLeadingZeros_0f7a4_78
          · replace k := k.2 h
            refine g_iinc (v := 31 + (-2)) (ls' := [(0, .int x0), (1, .int (31 + (-2)))]) hX 1 rfl dJ6_numberOfLeadingZeros_0f7a4_66 rfl (by decide) rfl ?_
            refine g_iload_n hX 0 rfl rfl dJ6_numberOfLeadingZeros_0f7a4_69 ?_
            refine g_iconst (v := 2) hX dJ6_numberOfLeadingZeros_0f7a4_70 (by decide) ?_
            refine g_iushr hX dJ6_numberOfLeadingZeros_0f7a4_71 ?_
            refine g_istore_n (ls' := [(0, .int (jushr x0 2)), (1, .int (31 + (-2)))]) hX dJ6_numberOfLeadingZeros_0f7a4_72 rfl (by decide) rfl ?_
            refine g_iload_n hX 1 rfl rfl dJ6_numberOfLeadingZeros_0f7a4_73 ?_
            refine g_iload_n hX 0 rfl rfl dJ6_numberOfLeadingZeros_0f7a4_74 ?_
            refine g_iconst (v := 1) hX dJ6_numberOfLeadingZeros_0f7a4_75 (by decide) ?_
            refine g_iushr hX dJ6_numberOfLeadingZeros_0f7a4_76 ?_
            refine g_isub hX dJ6_numberOfLeadingZeros_0f7a4_77 ?_
            exact g_ireturn hX k rfl rfl dJ6_numberOfLeadingZeros_0f7a4_78
        · replace k := k.2 h
          refine g_iinc (v := 31 + (-4)) (ls' := [(0, .int x0), (1, .int (31 + (-4)))]) hX 1 rfl dJ6_numberOfLeadingZeros_0f7a4_54 rfl (by decide) rfl ?_
          refine g_iload_n hX 0 rfl rfl dJ6_numberOfLeadingZeros_0f7a4_57 ?_
          refine g_iconst (v := 4) hX dJ6_numberOfLeadingZeros_0f7a4_58 (by decide) ?_
          refine g_iushr hX dJ6_numberOfLeadingZeros_0f7a4_59 ?_
          refine g_istore_n (ls' := [(0, .int (jushr x0 4)), (1, .int (31 + (-4)))]) hX dJ6_numberOfLeadingZeros_0f7a4_60 rfl (by decide) rfl ?_
          refine g_iload_n hX 0 rfl rfl dJ6_numberOfLeadingZeros_0f7a4_61 ?_
          refine g_iconst (v := 4) hX dJ6_numberOfLeadingZeros_0f7a4_62 (by decide) ?_
          refine g_icmp_lt (tgt := 73) hX dJ6_numberOfLeadingZeros_0f7a4_63 (by decide) (fun h => ?_) (fun h => ?_)
          · replace k := k.1 h
            refine g_iload_n hX 1 rfl rfl dJ6_numberOfLeadingZeros_0f7a4_73 ?_
            refine g_iload_n hX 0 rfl rfl dJ6_numberOfLeadingZeros_0f7a4_74 ?_
            refine g_iconst (v := 1) hX dJ6_numberOfLeadingZeros_0f7a4_75 (by decide) ?_
            refine g_iushr hX dJ6_numberOfLeadingZeros_0f7a4_76 ?_
            refine g_isub hX dJ6_numberOfLeadingZeros_0f7a4_77 ?_
            exact g_ireturn hX k rfl rfl dJ6_numberOfLeadingZeros_0f7a4_78
          · replace k := k.2 h
            refine g_iinc (v := (31 + (-4)) + (-2)) (ls' := [(0, .int (jushr x0 4)), (1, .int ((31 + (-4)) + (-2)))]) hX 1 rfl dJ6_numberOfLeadingZeros_0f7a4_66 rfl (by decide) rfl ?_
            refine g_iload_n hX 0 rfl rfl dJ6_numberOfLeadingZeros_0f7a4_69 ?_
            refine g_iconst (v := 2) hX dJ6_numberOfLeadingZeros_0f7a4_70 (by decide) ?_
            refine g_iushr hX dJ6_numberOfLeadingZeros_0f7a4_71 ?_
            refine g_istore_n (ls' := [(0, .int (jushr (jushr x0 4) 2)), (1, .int ((31 + (-4)) + (-2)))]) hX dJ6_numberOfLeadingZeros_0f7a4_72 rfl (by decide) rfl ?_
            refine g_iload_n hX 1 rfl rfl dJ6_numberOfLeadingZeros_0f7a4_73 ?_
            refine g_iload_n hX 0 rfl rfl dJ6_numberOfLeadingZeros_0f7a4_74 ?_
            refine g_iconst (v := 1) hX dJ6_numberOfLeadingZeros_0f7a4_75 (by decide) ?_
            refine g_iushr hX dJ6_numberOfLeadingZeros_0f7a4_76 ?_
            refine g_isub hX dJ6_numberOfLeadingZeros_0f7a4_77 ?_
            exact g_ireturn hX k rfl rfl dJ6_numberOfLeadingZeros_0f7a4_78
      · replace k := k.2 h
        refine g_iinc (v := 31 + (-8)) (ls' := [(0, .int x0), (1, .int (31 + (-8)))]) hX 1 rfl dJ6_numberOfLeadingZeros_0f7a4_40 rfl (by decide) rfl ?_
        refine g_iload_n hX 0 rfl rfl dJ6_numberOfLeadingZeros_0f7a4_43 ?_
        refine g_bipush (v := 8) hX dJ6_numberOfLeadingZeros_0f7a4_44 (by decide) ?_
        refine g_iushr hX dJ6_numberOfLeadingZeros_0f7a4_46 ?_
        refine g_istore_n (ls' := [(0, .int (jushr x0 8)), (1, .int (31 + (-8)))]) hX dJ6_numberOfLeadingZeros_0f7a4_47 rfl (by decide) rfl ?_
        refine g_iload_n hX 0 rfl rfl dJ6_numberOfLeadingZeros_0f7a4_48 ?_
        refine g_bipush (v := 16) hX dJ6_numberOfLeadingZeros_0f7a4_49 (by decide) ?_
        refine g_icmp_lt (tgt := 61) hX dJ6_numberOfLeadingZeros_0f7a4_51 (by decide) (fun h => ?_) (fun h => ?_)
        · replace k := k.1 h
          refine g_iload_n hX 0 rfl rfl dJ6_numberOfLeadingZeros_0f7a4_61 ?_
          refine g_iconst (v := 4) hX dJ6_numberOfLeadingZeros_0f7a4_62 (by decide) ?_
          refine g_icmp_lt (tgt := 73) hX dJ6_numberOfLeadingZeros_0f7a4_63 (by decide) (fun h => ?_) (fun h => ?_)
          · replace k := k.1 h
            refine g_iload_n hX 1 rfl rfl dJ6_numberOfLeadingZeros_0f7a4_73 ?_
            refine g_iload_n hX 0 rfl rfl dJ6_numberOfLeadingZeros_0f7a4_74 ?_
            refine g_iconst (v := 1) hX dJ6_numberOfLeadingZeros_0f7a4_75 (by decide) ?_
            refine g_iushr hX dJ6_numberOfLeadingZeros_0f7a4_76 ?_
            refine g_isub hX dJ6_numberOfLeadingZeros_0f7a4_77 ?_
            exact g_ireturn hX k rfl rfl dJ6_numberOfLeadingZeros_0f7a4_78
          · replace k := k.2 h
            refine g_iinc (v := (31 + (-8)) + (-2)) (ls' := [(0, .int (jushr x0 8)), (1, .int ((31 + (-8)) + (-2)))]) hX 1 rfl dJ6_numberOfLeadingZeros_0f7a4_66 rfl (by decide) rfl ?_
            refine g_iload_n hX 0 rfl rfl dJ6_numberOfLeadingZeros_0f7a4_69 ?_
            refine g_iconst (v := 2) hX dJ6_numberOfLeadingZeros_0f7a4_70 (by decide) ?_
            refine g_iushr hX dJ6_numberOfLeadingZeros_0f7a4_71 ?_
            refine g_istore_n (ls' := [(0, .int (jushr (jushr x0 8) 2)), (1, .int ((31 + (-8)) + (-2)))]) hX dJ6_numberOfLeadingZeros_0f7a4_72 rfl (by decide) rfl ?_
            refine g_iload_n hX 1 rfl rfl dJ6_numberOfLeadingZeros_0f7a4_73 ?_
            refine g_iload_n hX 0 rfl rfl dJ6_numberOfLeadingZeros_0f7a4_74 ?_
            refine g_iconst (v := 1) hX dJ6_numberOfLeadingZeros_0f7a4_75 (by decide) ?_
            refine g_iushr hX dJ6_numberOfLeadingZeros_0f7a4_76 ?_
            refine g_isub hX dJ6_numberOfLeadingZeros_0f7a4_77 ?_
            exact g_ireturn hX k rfl rfl dJ6_numberOfLeadingZeros_0f7a4_78
        · replace k := k.2 h
          refine g_iinc (v := (31 + (-8)) + (-4)) (ls' := [(0, .int (jushr x0 8)), (1, .int ((31 + (-8)) + (-4)))]) hX 1 rfl dJ6_numberOfLeadingZeros_0f7a4_54 rfl (by decide) rfl ?_
          refine g_iload_n hX 0 rfl rfl dJ6_numberOfLeadingZeros_0f7a4_57 ?_
          refine g_iconst (v := 4) hX dJ6_numberOfLeadingZeros_0f7a4_58 (by decide) ?_
          refine g_iushr hX dJ6_numberOfLeadingZeros_0f7a4_59 ?_
          refine g_istore_n (ls' := [(0, .int (jushr (jushr x0 8) 4)), (1, .int ((31 + (-8)) + (-4)))]) hX dJ6_numberOfLeadingZeros_0f7a4_60 rfl (by decide) rfl ?_
          refine g_iload_n hX 0 rfl rfl dJ6_numberOfLeadingZeros_0f7a4_61 ?_
          refine g_iconst (v := 4) hX dJ6_numberOfLeadingZeros_0f7a4_62 (by decide) ?_
          refine g_icmp_lt (tgt := 73) hX dJ6_numberOfLeadingZeros_0f7a4_63 (by decide) (fun h => ?_) (fun h => ?_)
          · replace k := k.1 h
            refine g_iload_n hX 1 rfl rfl dJ6_numberOfLeadingZeros_0f7a4_73 ?_
            refine g_iload_n hX 0 rfl rfl dJ6_numberOfLeadingZeros_0f7a4_74 ?_
            refine g_iconst (v := 1) hX dJ6_numberOfLeadingZeros_0f7a4_75 (by decide) ?_
            refine g_iushr hX dJ6_numberOfLeadingZeros_0f7a4_76 ?_
            refine g_isub hX dJ6_numberOfLeadingZeros_0f7a4_77 ?_
            exact g_ireturn hX k rfl rfl dJ6_numberOfLeadingZeros_0f7a4_78
          · replace k := k.2 h
            refine g_iinc (v := ((31 + (-8)) + (-4)) + (-2)) (ls' := [(0, .int (jushr (jushr x0 8) 4)), (1, .int (((31 + (-8)) + (-4)) + (-2)))]) hX 1 rfl dJ6_numberOfLeadingZeros_0f7a4_66 rfl (by decide) rfl ?_
            refine g_iload_n hX 0 rfl rfl dJ6_numberOfLeadingZeros_0f7a4_69 ?_
            refine g_iconst (v := 2) hX dJ6_numberOfLeadingZeros_0f7a4_70 (by decide) ?_
            refine g_iushr hX dJ6_numberOfLeadingZeros_0f7a4_71 ?_
            refine g_istore_n (ls' := [(0, .int (jushr (jushr (jushr x0 8) 4) 2)), (1, .int (((31 + (-8)) + (-4)) + (-2)))]) hX dJ6_numberOfLeadingZeros_0f7a4_72 rfl (by decide) rfl ?_
            refine g_iload_n hX 1 rfl rfl dJ6_numberOfLeadingZeros_0f7a4_73 ?_
            refine g_iload_n hX 0 rfl rfl dJ6_numberOfLeadingZeros_0f7a4_74 ?_
            refine g_iconst (v := 1) hX dJ6_numberOfLeadingZeros_0f7a4_75 (by decide) ?_
            refine g_iushr hX dJ6_numberOfLeadingZeros_0f7a4_76 ?_
            refine g_isub hX dJ6_numberOfLeadingZeros_0f7a4_77 ?_
            exact g_ireturn hX k rfl rfl dJ6_numberOfLeadingZeros_0f7a4_78
    · replace k := k.2 h
      refine g_iinc (v := 31 + (-16)) (ls' := [(0, .int x0), (1, .int (31 + (-16)))]) hX 1 rfl dJ6_numberOfLeadingZeros_0f7a4_25 rfl (by decide) rfl ?_
      refine g_iload_n hX 0 rfl rfl dJ6_numberOfLeadingZeros_0f7a4_28 ?_
      refine g_bipush (v := 16) hX dJ6_numberOfLeadingZeros_0f7a4_29 (by decide) ?_
      refine g_iushr hX dJ6_numberOfLeadingZeros_0f7a4_31 ?_
      refine g_istore_n (ls' := [(0, .int (jushr x0 16)), (1, .int (31 + (-16)))]) hX dJ6_numberOfLeadingZeros_0f7a4_32 rfl (by decide) rfl ?_
      refine g_iload_n hX 0 rfl rfl dJ6_numberOfLeadingZeros_0f7a4_33 ?_
      refine g_sipush (v := 256) hX dJ6_numberOfLeadingZeros_0f7a4_34 (by decide) ?_
      refine g_icmp_lt (tgt := 48) hX dJ6_numberOfLeadingZeros_0f7a4_37 (by decide) (fun h => ?_) (fun h => ?_)
      · replace k := k.1 h
        refine g_iload_n hX 0 rfl rfl dJ6_numberOfLeadingZeros_0f7a4_48 ?_
        refine g_bipush (v := 16) hX dJ6_numberOfLeadingZeros_0f7a4_49 (by decide) ?_
        refine g_icmp_lt (tgt := 61) hX dJ6_numberOfLeadingZeros_0f7a4_51 (by decide) (fun h => ?_) (fun h => ?_)
        · replace k := k.1 h
          refine g_iload_n hX 0 rfl rfl dJ6_numberOfLeadingZeros_0f7a4_61 ?_
          refine g_iconst (v := 4) hX dJ6_numberOfLeadingZeros_0f7a4_62 (by decide) ?_
          refine g_icmp_lt (tgt := 73) hX dJ6_numberOfLeadingZeros_0f7a4_63 (by decide) (fun h => ?_) (fun h => ?_)
          · replace k := k.1 h
            refine g_iload_n hX 1 rfl rfl dJ6_numberOfLeadingZeros_0f7a4_73 ?_
            refine g_iload_n hX 0 rfl rfl dJ6_numberOfLeadingZeros_0f7a4_74 ?_
            refine g_iconst (v := 1) hX dJ6_numberOfLeadingZeros_0f7a4_75 (by decide) ?_
            refine g_iushr hX dJ6_numberOfLeadingZeros_0f7a4_76 ?_
            refine g_isub hX dJ6_numberOfLeadingZeros_0f7a4_77 ?_
            exact g_ireturn hX k rfl rfl dJ6_numberOfLeadingZeros_0f7a4_78
          · replace k := k.2 h
            refine g_iinc (v := (31 + (-16)) + (-2)) (ls' := [(0, .int (jushr x0 16)), (1, .int ((31 + (-16)) + (-2)))]) hX 1 rfl dJ6_numberOfLeadingZeros_0f7a4_66 rfl (by decide) rfl ?_
            refine g_iload_n hX 0 rfl rfl dJ6_numberOfLeadingZeros_0f7a4_69 ?_
            refine g_iconst (v := 2) hX dJ6_numberOfLeadingZeros_0f7a4_70 (by decide) ?_
            refine g_iushr hX dJ6_numberOfLeadingZeros_0f7a4_71 ?_
            refine g_istore_n (ls' := [(0, .int (jushr (jushr x0 16) 2)), (1, .int ((31 + (-16)) + (-2)))]) hX dJ6_numberOfLeadingZeros_0f7a4_72 rfl (by decide) rfl ?_
            refine g_iload_n hX 1 rfl rfl dJ6_numberOfLeadingZeros_0f7a4_73 ?_
            refine g_iload_n hX 0 rfl rfl dJ6_numberOfLeadingZeros_0f7a4_74 ?_
            refine g_iconst (v := 1) hX dJ6_numberOfLeadingZeros_0f7a4_75 (by decide) ?_
            refine g_iushr hX dJ6_numberOfLeadingZeros_0f7a4_76 ?_
            refine g_isub hX dJ6_numberOfLeadingZeros_0f7a4_77 ?_
            exact g_ireturn hX k rfl rfl dJ6_numberOfLeadingZeros_0f7a4_78
        · replace k := k.2 h
          refine g_iinc (v := (31 + (-16)) + (-4)) (ls' := [(0, .int (jushr x0 16)), (1, .int ((31 + (-16)) + (-4)))]) hX 1 rfl dJ6_numberOfLeadingZeros_0f7a4_54 rfl (by decide) rfl ?_
          refine g_iload_n hX 0 rfl rfl dJ6_numberOfLeadingZeros_0f7a4_57 ?_
          refine g_iconst (v := 4) hX dJ6_numberOfLeadingZeros_0f7a4_58 (by decide) ?_
          refine g_iushr hX dJ6_numberOfLeadingZeros_0f7a4_59 ?_
          refine g_istore_n (ls' := [(0, .int (jushr (jushr x0 16) 4)), (1, .int ((31 + (-16)) + (-4)))]) hX dJ6_numberOfLeadingZeros_0f7a4_60 rfl (by decide) rfl ?_
          refine g_iload_n hX 0 rfl rfl dJ6_numberOfLeadingZeros_0f7a4_61 ?_
          refine g_iconst (v := 4) hX dJ6_numberOfLeadingZeros_0f7a4_62 (by decide) ?_
          refine g_icmp_lt (tgt := 73) hX dJ6_numberOfLeadingZeros_0f7a4_63 (by decide) (fun h => ?_) (fun h => ?_)
          · replace k := k.1 h
            refine g_iload_n hX 1 rfl rfl dJ6_numberOfLeadingZeros_0f7a4_73 ?_
            refine g_iload_n hX 0 rfl rfl dJ6_numberOfLeadingZeros_0f7a4_74 ?_
            refine g_iconst (v := 1) hX dJ6_numberOfLeadingZeros_0f7a4_75 (by decide) ?_
            refine g_iushr hX dJ6_numberOfLeadingZeros_0f7a4_76 ?_
            refine g_isub hX dJ6_numberOfLeadingZeros_0f7a4_77 ?_
            exact g_ireturn hX k rfl rfl dJ6_numberOfLeadingZeros_0f7a4_78
          · replace k := k.2 h
            refine g_iinc (v := ((31 + (-16)) + (-4)) + (-2)) (ls' := [(0, .int (jushr (jushr x0 16) 4)), (1, .int (((31 + (-16)) + (-4)) + (-2)))]) hX 1 rfl dJ6_numberOfLeadingZeros_0f7a4_66 rfl (by decide) rfl ?_
            refine g_iload_n hX 0 rfl rfl dJ6_numberOfLeadingZeros_0f7a4_69 ?_
            refine g_iconst (v := 2) hX dJ6_numberOfLeadingZeros_0f7a4_70 (by decide) ?_
            refine g_iushr hX dJ6_numberOfLeadingZeros_0f7a4_71 ?_
            refine g_istore_n (ls' := [(0, .int (jushr (jushr (jushr x0 16) 4) 2)), (1, .int (((31 + (-16)) + (-4)) + (-2)))]) hX dJ6_numberOfLeadingZeros_0f7a4_72 rfl (by decide) rfl ?_
            refine g_iload_n hX 1 rfl rfl dJ6_numberOfLeadingZeros_0f7a4_73 ?_
            refine g_iload_n hX 0 rfl rfl dJ6_numberOfLeadingZeros_0f7a4_74 ?_
            refine g_iconst (v := 1) hX dJ6_numberOfLeadingZeros_0f7a4_75 (by decide) ?_
            refine g_iushr hX dJ6_numberOfLeadingZeros_0f7a4_76 ?_
            refine g_isub hX dJ6_numberOfLeadingZeros_0f7a4_77 ?_
            exact g_ireturn hX k rfl rfl dJ6_numberOfLeadingZeros_0f7a4_78
      · replace k := k.2 h
        refine g_iinc (v := (31 + (-16)) + (-8)) (ls' := [(0, .int (jushr x0 16)), (1, .int ((31 + (-16)) + (-8)))]) hX 1 rfl dJ6_numberOfLeadingZeros_0f7a4_40 rfl (by decide) rfl ?_
        refine g_iload_n hX 0 rfl rfl dJ6_numberOfLeadingZeros_0f7a4_43 ?_
        refine g_bipush (v := 8) hX dJ6_numberOfLeadingZeros_0f7a4_44 (by decide) ?_
        refine g_iushr hX dJ6_numberOfLeadingZeros_0f7a4_46 ?_
        refine g_istore_n (ls' := [(0, .int (jushr (jushr x0 16) 8)), (1, .int ((31 + (-16)) + (-8)))]) hX dJ6_numberOfLeadingZeros_0f7a4_47 rfl (by decide) rfl ?_
        refine g_iload_n hX 0 rfl rfl dJ6_numberOfLeadingZeros_0f7a4_48 ?_
        refine g_bipush (v := 16) hX dJ6_numberOfLeadingZeros_0f7a4_49 (by decide) ?_
        refine g_icmp_lt (tgt := 61) hX dJ6_numberOfLeadingZeros_0f7a4_51 (by decide) (fun h => ?_) (fun h => ?_)
        · replace k := k.1 h
          refine g_iload_n hX 0 rfl rfl dJ6_numberOfLeadingZeros_0f7a4_61 ?_
          refine g_iconst (v := 4) hX dJ6_numberOfLeadingZeros_0f7a4_62 (by decide) ?_
          refine g_icmp_lt (tgt := 73) hX dJ6_numberOfLeadingZeros_0f7a4_63 (by decide) (fun h => ?_) (fun h => ?_)
          · replace k := k.1 h
            refine g_iload_n hX 1 rfl rfl dJ6_numberOfLeadingZeros_0f7a4_73 ?_
            refine g_iload_n hX 0 rfl rfl dJ6_numberOfLeadingZeros_0f7a4_74 ?_
            refine g_iconst (v := 1) hX dJ6_numberOfLeadingZeros_0f7a4_75 (by decide) ?_
            refine g_iushr hX dJ6_numberOfLeadingZeros_0f7a4_76 ?_
            refine g_isub hX dJ6_numberOfLeadingZeros_0f7a4_77 ?_
            exact g_ireturn hX k rfl rfl dJ6_numberOfLeadingZeros_0f7a4_78
          · replace k := k.2 h
            refine g_iinc (v := ((31 + (-16)) + (-8)) + (-2)) (ls' := [(0, .int (jushr (jushr x0 16) 8)), (1, .int (((31 + (-16)) + (-8)) + (-2)))]) hX 1 rfl dJ6_numberOfLeadingZeros_0f7a4_66 rfl (by decide) rfl ?_
            refine g_iload_n hX 0 rfl rfl dJ6_numberOfLeadingZeros_0f7a4_69 ?_
            refine g_iconst (v := 2) hX dJ6_numberOfLeadingZeros_0f7a4_70 (by decide) ?_
            refine g_iushr hX dJ6_numberOfLeadingZeros_0f7a4_71 ?_
            refine g_istore_n (ls' := [(0, .int (jushr (jushr (jushr x0 16) 8) 2)), (1, .int (((31 + (-16)) + (-8)) + (-2)))]) hX dJ6_numberOfLeadingZeros_0f7a4_72 rfl (by decide) rfl ?_
            refine g_iload_n hX 1 rfl rfl dJ6_numberOfLeadingZeros_0f7a4_73 ?_
            refine g_iload_n hX 0 rfl rfl dJ6_numberOfLeadingZeros_0f7a4_74 ?_
            refine g_iconst (v := 1) hX dJ6_numberOfLeadingZeros_0f7a4_75 (by decide) ?_
            refine g_iushr hX dJ6_numberOfLeadingZeros_0f7a4_76 ?_
            refine g_isub hX dJ6_numberOfLeadingZeros_0f7a4_77 ?_
            exact g_ireturn hX k rfl rfl dJ6_numberOfLeadingZeros_0f7a4_78
        · replace k := k.2 h
          refine g_iinc (v := ((31 + (-16)) + (-8)) + (-4)) (ls' := [(0, .int (jushr (jushr x0 16) 8)), (1, .int (((31 + (-16)) + (-8)) + (-4)))]) hX 1 rfl dJ6_numberOfLeadingZeros_0f7a4_54 rfl (by decide) rfl ?_
          refine g_iload_n hX 0 rfl rfl dJ6_numberOfLeadingZeros_0f7a4_57 ?_
          refine g_iconst (v := 4) hX dJ6_numberOfLeadingZeros_0f7a4_58 (by decide) ?_
          refine g_iushr hX dJ6_numberOfLeadingZeros_0f7a4_59 ?_
          refine g_istore_n (ls' := [(0, .int (jushr (jushr (jushr x0 16) 8) 4)), (1, .int (((31 + (-16)) + (-8)) + (-4)))]) hX dJ6_numberOfLeadingZeros_0f7a4_60 rfl (by decide) rfl ?_
          refine g_iload_n hX 0 rfl rfl dJ6_numberOfLeadingZeros_0f7a4_61 ?_
          refine g_iconst (v := 4) hX dJ6_numberOfLeadingZeros_0f7a4_62 (by decide) ?_
          refine g_icmp_lt (tgt := 73) hX dJ6_numberOfLeadingZeros_0f7a4_63 (by decide) (fun h => ?_) (fun h => ?_)
          · replace k := k.1 h
            refine g_iload_n hX 1 rfl rfl dJ6_numberOfLeadingZeros_0f7a4_73 ?_
            refine g_iload_n hX 0 rfl rfl dJ6_numberOfLeadingZeros_0f7a4_74 ?_
            refine g_iconst (v := 1) hX dJ6_numberOfLeadingZeros_0f7a4_75 (by decide) ?_
            refine g_iushr hX dJ6_numberOfLeadingZeros_0f7a4_76 ?_
            refine g_isub hX dJ6_numberOfLeadingZeros_0f7a4_77 ?_
            exact g_ireturn hX k rfl rfl dJ6_numberOfLeadingZeros_0f7a4_78
          · replace k := k.2 h
            refine g_iinc (v := (((31 + (-16)) + (-8)) + (-4)) + (-2)) (ls' := [(0, .int (jushr (jushr (jushr x0 16) 8) 4)), (1, .int ((((31 + (-16)) + (-8)) + (-4)) + (-2)))]) hX 1 rfl dJ6_numberOfLeadingZeros_0f7a4_66 rfl (by decide) rfl ?_
            refine g_iload_n hX 0 rfl rfl dJ6_numberOfLeadingZeros_0f7a4_69 ?_
            refine g_iconst (v := 2) hX dJ6_numberOfLeadingZeros_0f7a4_70 (by decide) ?_
            refine g_iushr hX dJ6_numberOfLeadingZeros_0f7a4_71 ?_
            refine g_istore_n (ls' := [(0, .int (jushr (jushr (jushr (jushr x0 16) 8) 4) 2)), (1, .int ((((31 + (-16)) + (-8)) + (-4)) + (-2)))]) hX dJ6_numberOfLeadingZeros_0f7a4_72 rfl (by decide) rfl ?_
            refine g_iload_n hX 1 rfl rfl dJ6_numberOfLeadingZeros_0f7a4_73 ?_
            refine g_iload_n hX 0 rfl rfl dJ6_numberOfLeadingZeros_0f7a4_74 ?_
            refine g_iconst (v := 1) hX dJ6_numberOfLeadingZeros_0f7a4_75 (by decide) ?_
            refine g_iushr hX dJ6_numberOfLeadingZeros_0f7a4_76 ?_
            refine g_isub hX dJ6_numberOfLeadingZeros_0f7a4_77 ?_
            exact g_ireturn hX k rfl rfl dJ6_numberOfLeadingZeros_0f7a4_78
  · replace k := k.2 h
    refine g_iload_n hX 0 rfl rfl dJ6_numberOfLeadingZeros_0f7a4_4 ?_
    have kJ : G X 0 0 14 [(0, .int x0)] [.int (if x0 = 0 then 32 else 0 : Int32)] (HM X I L p) := by
      exact g_ireturn hX k rfl rfl dJ6_numberOfLeadingZeros_0f7a4_14
    refine g_if_ne (tgt := 13) hX dJ6_numberOfLeadingZeros_0f7a4_5 (by decide) (fun h => ?_) (fun h => ?_)
    · rw [(show (if x0 = 0 then 32 else 0 : Int32) = 0 from if_neg h)] at kJ
      refine g_iconst (v := 0) hX dJ6_numberOfLeadingZeros_0f7a4_13 (by decide) ?_
      exact kJ
    · rw [(show (if x0 = 0 then 32 else 0 : Int32) = 32 from if_pos h)] at kJ
      refine g_bipush (v := 32) hX dJ6_numberOfLeadingZeros_0f7a4_8 (by decide) ?_
      refine g_goto (tgt := 14) hX dJ6_numberOfLeadingZeros_0f7a4_10 (by decide) ?_
      exact kJ
set_option maxRecDepth 4000 in
theorem RJ6_numberOfTrailingZeros_0f7a4_0 {X : XT} {I : MI} {L : ML} {p : Nat → Nat}  (hX : Cx X cJ6_numberOfTrailingZeros_0f7a4 2 RJ6 wsJ6_numberOfTrailingZeros_0f7a4 rmJ6_numberOfTrailingZeros_0f7a4) (x0 : Int32) (k : ((0 < ((x0 ^^^ (-1)) &&& (x0 - 1)) → ((((x0 ^^^ (-1)) &&& (x0 - 1)) ≤ 65536 → ((((x0 ^^^ (-1)) &&& (x0 - 1)) ≤ 256 → ((((x0 ^^^ (-1)) &&& (x0 - 1)) ≤ 16 → ((((x0 ^^^ (-1)) &&& (x0 - 1)) ≤ 4 → Rt X (some .int) rmJ6_numberOfTrailingZeros_0f7a4 (some (.int (1 + (jushr ((x0 ^^^ (-1)) &&& (x0 - 1)) 1)))) (HM X I L p)) ∧ (¬ ((x0 ^^^ (-1)) &&& (x0 - 1)) ≤ 4 → Rt X (some .int) rmJ6_numberOfTrailingZeros_0f7a4 (some (.int ((1 + 2) + (jushr (jushr ((x0 ^^^ (-1)) &&& (x0 - 1)) 2) 1)))) (HM X I L p)))) ∧ (¬ ((x0 ^^^ (-1)) &&& (x0 - 1)) ≤ 16 → (((jushr ((x0 ^^^ (-1)) &&& (x0 - 1)) 4) ≤ 4 → Rt X (some .int) rmJ6_numberOfTrailingZeros_0f7a4 (some (.int ((1 + 4) + (jushr (jushr ((x0 ^^^ (-1)) &&& (x0 - 1)) 4) 1)))) (HM X I L p)) ∧ (¬ (jushr ((x0 ^^^ (-1)) &&& (x0 - 1)) 4) ≤ 4 → Rt X (some .int) rmJ6_numberOfTrailingZeros_0f7a4 (some (.int (((1 + 4) + 2) + (jushr (jushr (jushr ((x0 ^^^ (-1)) &&& (x0 - 1)) 4) 2) 1)))) (HM X I L p)))))) ∧ (¬ ((x0 ^^^ (-1)) &&& (x0 - 1)) ≤ 256 → (((jushr ((x0 ^^^ (-1)) &&& (x0 - 1)) 8) ≤ 16 → (((jushr ((x0 ^^^ (-1)) &&& (x0 - 1)) 8) ≤ 4 → Rt X (some .int) rmJ6_numberOfTrailingZeros_0f7a4 (some (.int ((1 + 8) + (jushr (jushr ((x0 ^^^ (-1)) &&& (x0 - 1)) 8) 1)))) (HM X I L p)) ∧ (¬ (jushr ((x0 ^^^ (-1)) &&& (x0 - 1)) 8) ≤ 4 → Rt X (some .int) rmJ6_numberOfTrailingZeros_0f7a4 (some (.int (((1 + 8) + 2) + (jushr (jushr (jushr ((x0 ^^^ (-1)) &&& (x0 - 1)) 8) 2) 1)))) (HM X I L p)))) ∧ (¬ (jushr ((x0 ^^^ (-1)) &&& (x0 - 1)) 8) ≤ 16 → (((jushr (jushr ((x0 ^^^ (-1)) &&& (x0 - 1)) 8) 4) ≤ 4 → Rt X (some .int) rmJ6_numberOfTrailingZeros_0f7a4 (some (.int (((1 + 8) + 4) + (jushr (jushr (jushr ((x0 ^^^ (-1)) &&& (x0 - 1)) 8) 4) 1)))) (HM X I L p)) ∧ (¬ (jushr (jushr ((x0 ^^^ (-1)) &&& (x0 - 1)) 8) 4) ≤ 4 → Rt X (some .int) rmJ6_numberOfTrailingZeros_0f7a4 (some (.int ((((1 + 8) + 4) + 2) + (jushr (jushr (jushr (jushr ((x0 ^^^ (-1)) &&& (x0 - 1)) 8) 4) 2) 1)))) (HM X I L p)))))))) ∧ (¬ ((x0 ^^^ (-1)) &&& (x0 - 1)) ≤ 65536 → (((jushr ((x0 ^^^ (-1)) &&& (x0 - 1)) 16) ≤ 256 → (((jushr ((x0 ^^^ (-1)) &&& (x0 - 1)) 16) ≤ 16 → (((jushr ((x0 ^^^ (-1)) &&& (x0 - 1)) 16) ≤ 4 → Rt X (some .int) rmJ6_numberOfTrailingZeros_0f7a4 (some (.int ((1 + 16) + (jushr (jushr ((x0 ^^^ (-1)) &&& (x0 - 1)) 16) 1)))) (HM X I L p)) ∧ (¬ (jushr ((x0 ^^^ (-1)) &&& (x0 - 1)) 16) ≤ 4 → Rt X (some .int) rmJ6_numberOfTrailingZeros_0f7a4 (some (.int (((1 + 16) + 2) + (jushr (jushr (jushr ((x0 ^^^ (-1)) &&& (x0 - 1)) 16) 2) 1)))) (HM X I L p)))) ∧ (¬ (jushr ((x0 ^^^ (-1)) &&& (x0 - 1)) 16) ≤ 16 → (((jushr (jushr ((x0 ^^^ (-1)) &&& (x0 - 1)) 16) 4) ≤ 4 → Rt X (some .int) rmJ6_numberOfTrailingZeros_0f7a4 (some (.int (((1 + 16) + 4) + (jushr (jushr (jushr ((x0 ^^^ (-1)) &&& (x0 - 1)) 16) 4) 1)))) (HM X I L p)) ∧ (¬ (jushr (jushr ((x0 ^^^ (-1)) &&& (x0 - 1)) 16) 4) ≤ 4 → Rt X (some .int) rmJ6_numberOfTrailingZeros_0f7a4 (some (.int ((((1 + 16) + 4) + 2) + (jushr (jushr (jushr (jushr ((x0 ^^^ (-1)) &&& (x0 - 1)) 16) 4) 2) 1)))) (HM X I L p)))))) ∧ (¬ (jushr ((x0 ^^^ (-1)) &&& (x0 - 1)) 16) ≤ 256 → (((jushr (jushr ((x0 ^^^ (-1)) &&& (x0 - 1)) 16) 8) ≤ 16 → (((jushr (jushr ((x0 ^^^ (-1)) &&& (x0 - 1)) 16) 8) ≤ 4 → Rt X (some .int) rmJ6_numberOfTrailingZeros_0f7a4 (some (.int (((1 + 16) + 8) + (jushr (jushr (jushr ((x0 ^^^ (-1)) &&& (x0 - 1)) 16) 8) 1)))) (HM X I L p)) ∧ (¬ (jushr (jushr ((x0 ^^^ (-1)) &&& (x0 - 1)) 16) 8) ≤ 4 → Rt X (some .int) rmJ6_numberOfTrailingZeros_0f7a4 (some (.int ((((1 + 16) + 8) + 2) + (jushr (jushr (jushr (jushr ((x0 ^^^ (-1)) &&& (x0 - 1)) 16) 8) 2) 1)))) (HM X I L p)))) ∧ (¬ (jushr (jushr ((x0 ^^^ (-1)) &&& (x0 - 1)) 16) 8) ≤ 16 → (((jushr (jushr (jushr ((x0 ^^^ (-1)) &&& (x0 - 1)) 16) 8) 4) ≤ 4 → Rt X (some .int) rmJ6_numberOfTrailingZeros_0f7a4 (some (.int ((((1 + 16) + 8) + 4) + (jushr (jushr (jushr (jushr ((x0 ^^^ (-1)) &&& (x0 - 1)) 16) 8) 4) 1)))) (HM X I L p)) ∧ (¬ (jushr (jushr (jushr ((x0 ^^^ (-1)) &&& (x0 - 1)) 16) 8) 4) ≤ 4 → Rt X (some .int) rmJ6_numberOfTrailingZeros_0f7a4 (some (.int (((((1 + 16) + 8) + 4) + 2) + (jushr (jushr (jushr (jushr (jushr ((x0 ^^^ (-1)) &&& (x0 - 1)) 16) 8) 4) 2) 1)))) (HM X I L p)))))))))) ∧ (¬ 0 < ((x0 ^^^ (-1)) &&& (x0 - 1)) → Rt X (some .int) rmJ6_numberOfTrailingZeros_0f7a4 (some (.int (((x0 ^^^ (-1)) &&& (x0 - 1)) &&& 32))) (HM X I L p)))) : G X 0 0 0 [(0, .int x0)] [] (HM X I L p) := by
  refine g_iload_n hX 0 rfl rfl dJ6_numberOfTrailingZeros_0f7a4_0 ?_
  refine g_iconst (v := (-1)) hX dJ6_numberOfTrailingZeros_0f7a4_1 (by decide) ?_
  refine g_ixor hX dJ6_numberOfTrailingZeros_0f7a4_2 ?_
  refine g_iload_n hX 0 rfl rfl dJ6_numberOfTrailingZeros_0f7a4_3 ?_
  refine g_iconst (v := 1) hX dJ6_numberOfTrailingZeros_0f7a4_4 (by decide) ?_
  refine g_isub hX dJ6_numberOfTrailingZeros_0f7a4_5 ?_
  refine g_iand hX dJ6_numberOfTrailingZeros_0f7a4_6 ?_
  refine g_istore_n (ls' := [(0, .int ((x0 ^^^ (-1)) &&& (x0 - 1)))]) hX dJ6_numberOfTrailingZeros_0f7a4_7 rfl (by decide) rfl ?_
  refine g_iload_n hX 0 rfl rfl dJ6_numberOfTrailingZeros_0f7a4_8 ?_
  refine g_if_gt (tgt := 17) hX dJ6_numberOfTrailingZeros_0f7a4_9 (by decide) (fun h => ?_) (fun h => ?_)
  · replace k := k.1 h
    refine g_iconst (v := 1) hX dJ6_numberOfTrailingZeros_0f7a4_17 (by decide) ?_
    refine g_istore_n (ls' := [(0, .int ((x0 ^^^ (-1)) &&& (x0 - 1))), (1, .int 1)]) hX dJ6_numberOfTrailingZeros_0f7a4_18 rfl (by decide) rfl ?_
    refine g_iload_n hX 0 rfl rfl dJ6_numberOfTrailingZeros_0f7a4_19 ?_
    refine g_ldcw (v := 65536) hX (by decide +kernel) dJ6_numberOfTrailingZeros_0f7a4_20 ?_
    refine g_icmp_le (tgt := 34) hX dJ6_numberOfTrailingZeros_0f7a4_23 (by decide) (fun h => ?_) (fun h => ?_)
    · replace k := k.1 h
      refine g_iload_n hX 0 rfl rfl dJ6_numberOfTrailingZeros_0f7a4_34 ?_
      refine g_sipush (v := 256) hX dJ6_numberOfTrailingZeros_0f7a4_35 (by decide) ?_
      refine g_icmp_le (tgt := 49) hX dJ6_numberOfTrailingZeros_0f7a4_38 (by decide) (fun h => ?_) (fun h => ?_)
      · replace k := k.1 h
        refine g_iload_n hX 0 rfl rfl dJ6_numberOfTrailingZeros_0f7a4_49 ?_
        refine g_bipush (v := 16) hX dJ6_numberOfTrailingZeros_0f7a4_50 (by decide) ?_
        refine g_icmp_le (tgt := 62) hX dJ6_numberOfTrailingZeros_0f7a4_52 (by decide) (fun h => ?_) (fun h => ?_)
        · replace k := k.1 h
          refine g_iload_n hX 0 rfl rfl dJ6_numberOfTrailingZeros_0f7a4_62 ?_
          refine g_iconst (v := 4) hX dJ6_numberOfTrailingZeros_0f7a4_63 (by decide) ?_
          refine g_icmp_le (tgt := 74) hX dJ6_numberOfTrailingZeros_0f7a4_64 (by decide) (fun h => ?_) (fun h => ?_)
          · replace k := k.1 h
            refine g_iload_n hX 1 rfl rfl dJ6_numberOfTrailingZeros_0f7a4_74 ?_
            refine g_iload_n hX 0 rfl rfl dJ6_numberOfTrailingZeros_0f7a4_75 ?_
            refine g_iconst (v := 1) hX dJ6_numberOfTrailingZeros_0f7a4_76 (by decide) ?_
            refine g_iushr hX dJ6_numberOfTrailingZeros_0f7a4_77 ?_
            refine g_iadd hX dJ6_numberOfTrailingZeros_0f7a4_78 ?_
            exact g_ireturn hX k rfl rfl dJ6_numberOfTrailingZeros_0f7a4_79
          · replace k := k.2 h
            refine g_iinc (v := 1 + 2) (ls' := [(0, .int ((x0 ^^^ (-1)) &&& (x0 - 1))), (1, .int (1 + 2))]) hX 1 rfl dJ6_numberOfTrailingZeros_0f7a4_67 rfl (by decide) rfl ?_
            refine g_iload_n hX 0 rfl rfl dJ6_numberOfTrailingZeros_0f7a4_70 ?_
            refine g_iconst (v := 2) hX dJ6_numberOfTrailingZeros_0f7a4_71 (by decide) ?_
            refine g_iushr hX dJ6_numberOfTrailingZeros_0f7a4_72 ?_
            refine g_istore_n (ls' := [(0, .int (jushr ((x0 ^^^ (-1)) &&& (x0 - 1)) 2)), (1, .int (1 + 2))]) hX dJ6_numberOfTrailingZeros_0f7a4_73 rfl (by decide) rfl ?_
            refine g_iload_n hX 1 rfl rfl dJ6_numberOfTrailingZeros_0f7a4_74 ?_
            refine g_iload_n hX 0 rfl rfl dJ6_numberOfTrailingZeros_0f7a4_75 ?_
            refine g_iconst (v := 1) hX dJ6_numberOfTrailingZeros_0f7a4_76 (by decide) ?_
            refine g_iushr hX dJ6_numberOfTrailingZeros_0f7a4_77 ?_
            refine g_iadd hX dJ6_numberOfTrailingZeros_0f7a4_78 ?_
            exact g_ireturn hX k rfl rfl dJ6_numberOfTrailingZeros_0f7a4_79
        · replace k := k.2 h
          refine g_iinc (v := 1 + 4) (ls' := [(0, .int ((x0 ^^^ (-1)) &&& (x0 - 1))), (1, .int (1 + 4))]) hX 1 rfl dJ6_numberOfTrailingZeros_0f7a4_55 rfl (by decide) rfl ?_
          refine g_iload_n hX 0 rfl rfl dJ6_numberOfTrailingZeros_0f7a4_58 ?_
          refine g_iconst (v := 4) hX dJ6_numberOfTrailingZeros_0f7a4_59 (by decide) ?_
          refine g_iushr hX dJ6_numberOfTrailingZeros_0f7a4_60 ?_
          refine g_istore_n (ls' := [(0, .int (jushr ((x0 ^^^ (-1)) &&& (x0 - 1)) 4)), (1, .int (1 + 4))]) hX dJ6_numberOfTrailingZeros_0f7a4_61 rfl (by decide) rfl ?_
          refine g_iload_n hX 0 rfl rfl dJ6_numberOfTrailingZeros_0f7a4_62 ?_
          refine g_iconst (v := 4) hX dJ6_numberOfTrailingZeros_0f7a4_63 (by decide) ?_
          refine g_icmp_le (tgt := 74) hX dJ6_numberOfTrailingZeros_0f7a4_64 (by decide) (fun h => ?_) (fun h => ?_)
          · replace k := k.1 h
            refine g_iload_n hX 1 rfl rfl dJ6_numberOfTrailingZeros_0f7a4_74 ?_
            refine g_iload_n hX 0 rfl rfl dJ6_numberOfTrailingZeros_0f7a4_75 ?_
            refine g_iconst (v := 1) hX dJ6_numberOfTrailingZeros_0f7a4_76 (by decide) ?_
            refine g_iushr hX dJ6_numberOfTrailingZeros_0f7a4_77 ?_
            refine g_iadd hX dJ6_numberOfTrailingZeros_0f7a4_78 ?_
            exact g_ireturn hX k rfl rfl dJ6_numberOfTrailingZeros_0f7a4_79
          · replace k := k.2 h
            refine g_iinc (v := (1 + 4) + 2) (ls' := [(0, .int (jushr ((x0 ^^^ (-1)) &&& (x0 - 1)) 4)), (1, .int ((1 + 4) + 2))]) hX 1 rfl dJ6_numberOfTrailingZeros_0f7a4_67 rfl (by decide) rfl ?_
            refine g_iload_n hX 0 rfl rfl dJ6_numberOfTrailingZeros_0f7a4_70 ?_
            refine g_iconst (v := 2) hX dJ6_numberOfTrailingZeros_0f7a4_71 (by decide) ?_
            refine g_iushr hX dJ6_numberOfTrailingZeros_0f7a4_72 ?_
            refine g_istore_n (ls' := [(0, .int (jushr (jushr ((x0 ^^^ (-1)) &&& (x0 - 1)) 4) 2)), (1, .int ((1 + 4) + 2))]) hX dJ6_numberOfTrailingZeros_0f7a4_73 rfl (by decide) rfl ?_
            refine g_iload_n hX 1 rfl rfl dJ6_numberOfTrailingZeros_0f7a4_74 ?_
            refine g_iload_n hX 0 rfl rfl dJ6_numberOfTrailingZeros_0f7a4_75 ?_
            refine g_iconst (v := 1) hX dJ6_numberOfTrailingZeros_0f7a4_76 (by decide) ?_
            refine g_iushr hX dJ6_numberOfTrailingZeros_0f7a4_77 ?_
            refine g_iadd hX dJ6_numberOfTrailingZeros_0f7a4_78 ?_
            exact g_ireturn hX k rfl rfl dJ6_numberOfTrailingZeros_0f7a4_79
      · replace k := k.2 h
        refine g_iinc (v := 1 + 8) (ls' := [(0, .int ((x0 ^^^ (-1)) &&& (x0 - 1))), (1, .int (1 + 8))]) hX 1 rfl dJ6_numberOfTrailingZeros_0f7a4_41 rfl (by decide) rfl ?_
        refine g_iload_n hX 0 rfl rfl dJ6_numberOfTrailingZeros_0f7a4_44 ?_
        refine g_bipush (v := 8) hX dJ6_numberOfTrailingZeros_0f7a4_45 (by decide) ?_
        refine g_iushr hX dJ6_numberOfTrailingZeros_0f7a4_47 ?_
        refine g_istore_n (ls' := [(0, .int (jushr ((x0 ^^^ (-1)) &&& (x0 - 1)) 8)), (1, .int (1 + 8))]) hX dJ6_numberOfTrailingZeros_0f7a4_48 rfl (by decide) rfl ?_
        refine g_iload_n hX 0 rfl rfl dJ6_numberOfTrailingZeros_0f7a4_49 ?_
        refine g_bipush (v := 16) hX dJ6_numberOfTrailingZeros_0f7a4_50 (by decide) ?_
        refine g_icmp_le (tgt := 62) hX dJ6_numberOfTrailingZeros_0f7a4_52 (by decide) (fun h => ?_) (fun h => ?_)
        · replace k := k.1 h
          refine g_iload_n hX 0 rfl rfl dJ6_numberOfTrailingZeros_0f7a4_62 ?_
          refine g_iconst (v := 4) hX dJ6_numberOfTrailingZeros_0f7a4_63 (by decide) ?_
          refine g_icmp_le (tgt := 74) hX dJ6_numberOfTrailingZeros_0f7a4_64 (by decide) (fun h => ?_) (fun h => ?_)
          · replace k := k.1 h
            refine g_iload_n hX 1 rfl rfl dJ6_numberOfTrailingZeros_0f7a4_74 ?_
            refine g_iload_n hX 0 rfl rfl dJ6_numberOfTrailingZeros_0f7a4_75 ?_
            refine g_iconst (v := 1) hX dJ6_numberOfTrailingZeros_0f7a4_76 (by decide) ?_
            refine g_iushr hX dJ6_numberOfTrailingZeros_0f7a4_77 ?_
            refine g_iadd hX dJ6_numberOfTrailingZeros_0f7a4_78 ?_
            exact g_ireturn hX k rfl rfl dJ6_numberOfTrailingZeros_0f7a4_79
          · replace k := k.2 h
            refine g_iinc (v := (1 + 8) + 2) (ls' := [(0, .int (jushr ((x0 ^^^ (-1)) &&& (x0 - 1)) 8)), (1, .int ((1 + 8) + 2))]) hX 1 rfl dJ6_numberOfTrailingZeros_0f7a4_67 rfl (by decide) rfl ?_
            refine g_iload_n hX 0 rfl rfl dJ6_numberOfTrailingZeros_0f7a4_70 ?_
            refine g_iconst (v := 2) hX dJ6_numberOfTrailingZeros_0f7a4_71 (by decide) ?_
            refine g_iushr hX dJ6_numberOfTrailingZeros_0f7a4_72 ?_
            refine g_istore_n (ls' := [(0, .int (jushr (jushr ((x0 ^^^ (-1)) &&& (x0 - 1)) 8) 2)), (1, .int ((1 + 8) + 2))]) hX dJ6_numberOfTrailingZeros_0f7a4_73 rfl (by decide) rfl ?_
            refine g_iload_n hX 1 rfl rfl dJ6_numberOfTrailingZeros_0f7a4_74 ?_
            refine g_iload_n hX 0 rfl rfl dJ6_numberOfTrailingZeros_0f7a4_75 ?_
            refine g_iconst (v := 1) hX dJ6_numberOfTrailingZeros_0f7a4_76 (by decide) ?_
            refine g_iushr hX dJ6_numberOfTrailingZeros_0f7a4_77 ?_
            refine g_iadd hX dJ6_numberOfTrailingZeros_0f7a4_78 ?_
            exact g_ireturn hX k rfl rfl dJ6_numberOfTrailingZeros_0f7a4_79
        · replace k := k.2 h
          refine g_iinc (v := (1 + 8) + 4) (ls' := [(0, .int (jushr ((x0 ^^^ (-1)) &&& (x0 - 1)) 8)), (1, .int ((1 + 8) + 4))]) hX 1 rfl dJ6_numberOfTrailingZeros_0f7a4_55 rfl (by decide) rfl ?_
          refine g_iload_n hX 0 rfl rfl dJ6_numberOfTrailingZeros_0f7a4_58 ?_
          refine g_iconst (v := 4) hX dJ6_numberOfTrailingZeros_0f7a4_59 (by decide) ?_
          refine g_iushr hX dJ6_numberOfTrailingZeros_0f7a4_60 ?_
          refine g_istore_n (ls' := [(0, .int (jushr (jushr ((x0 ^^^ (-1)) &&& (x0 - 1)) 8) 4)), (1, .int ((1 + 8) + 4))]) hX dJ6_numberOfTrailingZeros_0f7a4_61 rfl (by decide) rfl ?_
          refine g_iload_n hX 0 rfl rfl dJ6_numberOfTrailingZeros_0f7a4_62 ?_
          refine g_iconst (v := 4) hX dJ6_numberOfTrailingZeros_0f7a4_63 (by decide) ?_
          refine g_icmp_le (tgt := 74) hX dJ6_numberOfTrailingZeros_0f7a4_64 (by decide) (fun h => ?_) (fun h => ?_)
          · replace k := k.1 h
            refine g_iload_n hX 1 rfl rfl dJ6_numberOfTrailingZeros_0f7a4_74 ?_
            refine g_iload_n hX 0 rfl rfl dJ6_numberOfTrailingZeros_0f7a4_75 ?_
            refine g_iconst (v := 1) hX dJ6_numberOfTrailingZeros_0f7a4_76 (by decide) ?_
            refine g_iushr hX dJ6_numberOfTrailingZeros_0f7a4_77 ?_
            refine g_iadd hX dJ6_numberOfTrailingZeros_0f7a4_78 ?_
            exact g_ireturn hX k rfl rfl dJ6_numberOfTrailingZeros_0f7a4_79
          · replace k := k.2 h
            refine g_iinc (v := ((1 + 8) + 4) + 2) (ls' := [(0, .int (jushr (jushr ((x0 ^^^ (-1)) &&& (x0 - 1)) 8) 4)), (1, .int (((1 + 8) + 4) + 2))]) hX 1 rfl dJ6_numberOfTrailingZeros_0f7a4_67 rfl (by decide) rfl ?_
            refine g_iload_n hX 0 rfl rfl dJ6_numberOfTrailingZeros_0f7a4_70 ?_
            refine g_iconst (v := 2) hX dJ6_numberOfTrailingZeros_0f7a4_71 (by decide) ?_
            refine g_iushr hX dJ6_numberOfTrailingZeros_0f7a4_72 ?_
            refine g_istore_n (ls' := [(0, .int (jushr (jushr (jushr ((x0 ^^^ (-1)) &&& (x0 - 1)) 8) 4) 2)), (1, .int (((1 + 8) + 4) + 2))]) hX dJ6_numberOfTrailingZeros_0f7a4_73 rfl (by decide) rfl ?_
            refine g_iload_n hX 1 rfl rfl dJ6_numberOfTrailingZeros_0f7a4_74 ?_
            refine g_iload_n hX 0 rfl rfl dJ6_numberOfTrailingZeros_0f7a4_75 ?_
            refine g_iconst (v := 1) hX dJ6_numberOfTrailingZeros_0f7a4_76 (by decide) ?_
            refine g_iushr hX dJ6_numberOfTrailingZeros_0f7a4_77 ?_
            refine g_iadd hX dJ6_numberOfTrailingZeros_0f7a4_78 ?_
            exact g_ireturn hX k rfl rfl dJ6_numberOfTrailingZeros_0f7a4_79
    · replace k := k.2 h
      refine g_iinc (v := 1 + 16) (ls' := [(0, .int ((x0 ^^^ (-1)) &&& (x0 - 1))), (1, .int (1 + 16))]) hX 1 rfl dJ6_numberOfTrailingZeros_0f7a4_26 rfl (by decide) rfl ?_
      refine g_iload_n hX 0 rfl rfl dJ6_numberOfTrailingZeros_0f7a4_29 ?_
      refine g_bipush (v := 16) hX dJ6_numberOfTrailingZeros_0f7a4_30 (by decide) ?_
      refine g_iushr hX dJ6_numberOfTrailingZeros_0f7a4_32 ?_
      refine g_istore_n (ls' := [(0, .int (jushr ((x0 ^^^ (-1)) &&& (x0 - 1)) 16)), (1, .int (1 + 16))]) hX dJ6_numberOfTrailingZeros_0f7a4_33 rfl (by decide) rfl ?_
      refine g_iload_n hX 0 rfl rfl dJ6_numberOfTrailingZeros_0f7a4_34 ?_
      refine g_sipush (v := 256) hX dJ6_numberOfTrailingZeros_0f7a4_35 (by decide) ?_
      refine g_icmp_le (tgt := 49) hX dJ6_numberOfTrailingZeros_0f7a4_38 (by decide) (fun h => ?_) (fun h => ?_)
      · replace k := k.1 h
        refine g_iload_n hX 0 rfl rfl dJ6_numberOfTrailingZeros_0f7a4_49 ?_
        refine g_bipush (v := 16) hX dJ6_numberOfTrailingZeros_0f7a4_50 (by decide) ?_
        refine g_icmp_le (tgt := 62) hX dJ6_numberOfTrailingZeros_0f7a4_52 (by decide) (fun h => ?_) (fun h => ?_)
        · replace k := k.1 h
          refine g_iload_n hX 0 rfl rfl dJ6_numberOfTrailingZeros_0f7a4_62 ?_
          refine g_iconst (v := 4) hX dJ6_numberOfTrailingZeros_0f7a4_63 (by decide) ?_
          refine g_icmp_le (tgt := 74) hX dJ6_numberOfTrailingZeros_0f7a4_64 (by decide) (fun h => ?_) (fun h => ?_)
          · replace k := k.1 h
            refine g_iload_n hX 1 rfl rfl dJ6_numberOfTrailingZeros_0f7a4_74 ?_
            refine g_iload_n hX 0 rfl rfl dJ6_numberOfTrailingZeros_0f7a4_75 ?_
            refine g_iconst (v := 1) hX dJ6_numberOfTrailingZeros_0f7a4_76 (by decide) ?_
            refine g_iushr hX dJ6_numberOfTrailingZeros_0f7a4_77 ?_
            refine g_iadd hX dJ6_numberOfTrailingZeros_0f7a4_78 ?_
            exact g_ireturn hX k rfl rfl dJ6_numberOfTrailingZeros_0f7a4_79
          · replace k := k.2 h
            refine g_iinc (v := (1 + 16) + 2) (ls' := [(0, .int (jushr ((x0 ^^^ (-1)) &&& (x0 - 1)) 16)), (1, .int ((1 + 16) + 2))]) hX 1 rfl dJ6_numberOfTrailingZeros_0f7a4_67 rfl (by decide) rfl ?_
            refine g_iload_n hX 0 rfl rfl dJ6_numberOfTrailingZeros_0f7a4_70 ?_
            refine g_iconst (v := 2) hX dJ6_numberOfTrailingZeros_0f7a4_71 (by decide) ?_
            refine g_iushr hX dJ6_numberOfTrailingZeros_0f7a4_72 ?_
            refine g_istore_n (ls' := [(0, .int (jushr (jushr ((x0 ^^^ (-1)) &&& (x0 - 1)) 16) 2)), (1, .int ((1 + 16) + 2))]) hX dJ6_numberOfTrailingZeros_0f7a4_73 rfl (by decide) rfl ?_
            refine g_iload_n hX 1 rfl rfl dJ6_numberOfTrailingZeros_0f7a4_74 ?_
            refine g_iload_n hX 0 rfl rfl dJ6_numberOfTrailingZeros_0f7a4_75 ?_
            refine g_iconst (v := 1) hX dJ6_numberOfTrailingZeros_0f7a4_76 (by decide) ?_
            refine g_iushr hX dJ6_numberOfTrailingZeros_0f7a4_77 ?_
            refine g_iadd hX dJ6_numberOfTrailingZeros_0f7a4_78 ?_
            exact g_ireturn hX k rfl rfl dJ6_numberOfTrailingZeros_0f7a4_79
        · replace k := k.2 h
          refine g_iinc (v := (1 + 16) + 4) (ls' := [(0, .int (jushr ((x0 ^^^ (-1)) &&& (x0 - 1)) 16)), (1, .int ((1 + 16) + 4))]) hX 1 rfl dJ6_numberOfTrailingZeros_0f7a4_55 rfl (by decide) rfl ?_
          refine g_iload_n hX 0 rfl rfl dJ6_numberOfTrailingZeros_0f7a4_58 ?_
          refine g_iconst (v := 4) hX dJ6_numberOfTrailingZeros_0f7a4_59 (by decide) ?_
          refine g_iushr hX dJ6_numberOfTrailingZeros_0f7a4_60 ?_
          refine g_istore_n (ls' := [(0, .int (jushr (jushr ((x0 ^^^ (-1)) &&& (x0 - 1)) 16) 4)), (1, .int ((1 + 16) + 4))]) hX dJ6_numberOfTrailingZeros_0f7a4_61 rfl (by decide) rfl ?_
          refine g_iload_n hX 0 rfl rfl dJ6_numberOfTrailingZeros_0f7a4_62 ?_
          refine g_iconst (v := 4) hX dJ6_numberOfTrailingZeros_0f7a4_63 (by decide) ?_
          refine g_icmp_le (tgt := 74) hX dJ6_numberOfTrailingZeros_0f7a4_64 (by decide) (fun h => ?_) (fun h => ?_)
          · replace k := k.1 h
            refine g_iload_n hX 1 rfl rfl dJ6_numberOfTrailingZeros_0f7a4_74 ?_
            refine g_iload_n hX 0 rfl rfl dJ6_numberOfTrailingZeros_0f7a4_75 ?_
            refine g_iconst (v := 1) hX dJ6_numberOfTrailingZeros_0f7a4_76 (by decide) ?_
            refine g_iushr hX dJ6_numberOfTrailingZeros_0f7a4_77 ?_
            refine g_iadd hX dJ6_numberOfTrailingZeros_0f7a4_78 ?_
            exact g_ireturn hX k rfl rfl dJ6_numberOfTrailingZeros_0f7a4_79
          · replace k := k.2 h
            refine g_iinc (v := ((1 + 16) + 4) + 2) (ls' := [(0, .int (jushr (jushr ((x0 ^^^ (-1)) &&& (x0 - 1)) 16) 4)), (1, .int (((1 + 16) + 4) + 2))]) hX 1 rfl dJ6_numberOfTrailingZeros_0f7a4_67 rfl (by decide) rfl ?_
            refine g_iload_n hX 0 rfl rfl dJ6_numberOfTrailingZeros_0f7a4_70 ?_
            refine g_iconst (v := 2) hX dJ6_numberOfTrailingZeros_0f7a4_71 (by decide) ?_
            refine g_iushr hX dJ6_numberOfTrailingZeros_0f7a4_72 ?_
            refine g_istore_n (ls' := [(0, .int (jushr (jushr (jushr ((x0 ^^^ (-1)) &&& (x0 - 1)) 16) 4) 2)), (1, .int (((1 + 16) + 4) + 2))]) hX dJ6_numberOfTrailingZeros_0f7a4_73 rfl (by decide) rfl ?_
            refine g_iload_n hX 1 rfl rfl dJ6_numberOfTrailingZeros_0f7a4_74 ?_
            refine g_iload_n hX 0 rfl rfl dJ6_numberOfTrailingZeros_0f7a4_75 ?_
            refine g_iconst (v := 1) hX dJ6_numberOfTrailingZeros_0f7a4_76 (by decide) ?_
            refine g_iushr hX dJ6_numberOfTrailingZeros_0f7a4_77 ?_
            refine g_iadd hX dJ6_numberOfTrailingZeros_0f7a4_78 ?_
            exact g_ireturn hX k rfl rfl dJ6_numberOfTrailingZeros_0f7a4_79
      · replace k := k.2 h
        refine g_iinc (v := (1 + 16) + 8) (ls' := [(0, .int (jushr ((x0 ^^^ (-1)) &&& (x0 - 1)) 16)), (1, .int ((1 + 16) + 8))]) hX 1 rfl dJ6_numberOfTrailingZeros_0f7a4_41 rfl (by decide) rfl ?_
        refine g_iload_n hX 0 rfl rfl dJ6_numberOfTrailingZeros_0f7a4_44 ?_
        refine g_bipush (v := 8) hX dJ6_numberOfTrailingZeros_0f7a4_45 (by decide) ?_
        refine g_iushr hX dJ6_numberOfTrailingZeros_0f7a4_47 ?_
        refine g_istore_n (ls' := [(0, .int (jushr (jushr ((x0 ^^^ (-1)) &&& (x0 - 1)) 16) 8)), (1, .int ((1 + 16) + 8))]) hX dJ6_numberOfTrailingZeros_0f7a4_48 rfl (by decide) rfl ?_
        refine g_iload_n hX 0 rfl rfl dJ6_numberOfTrailingZeros_0f7a4_49 ?_
        refine g_bipush (v := 16) hX dJ6_numberOfTrailingZeros_0f7a4_50 (by decide) ?_
        refine g_icmp_le (tgt := 62) hX dJ6_numberOfTrailingZeros_0f7a4_52 (by decide) (fun h => ?_) (fun h => ?_)
        · replace k := k.1 h
          refine g_iload_n hX 0 rfl rfl dJ6_numberOfTrailingZeros_0f7a4_62 ?_
          refine g_iconst (v := 4) hX dJ6_numberOfTrailingZeros_0f7a4_63 (by decide) ?_
          refine g_icmp_le (tgt := 74) hX dJ6_numberOfTrailingZeros_0f7a4_64 (by decide) (fun h => ?_) (fun h => ?_)
          · replace k := k.1 h
            refine g_iload_n hX 1 rfl rfl dJ6_numberOfTrailingZeros_0f7a4_74 ?_
            refine g_iload_n hX 0 rfl rfl dJ6_numberOfTrailingZeros_0f7a4_75 ?_
            refine g_iconst (v := 1) hX dJ6_numberOfTrailingZeros_0f7a4_76 (by decide) ?_
            refine g_iushr hX dJ6_numberOfTrailingZeros_0f7a4_77 ?_
            refine g_iadd hX dJ6_numberOfTrailingZeros_0f7a4_78 ?_
            exact g_ireturn hX k rfl rfl dJ6_numberOfTrailingZeros_0f7a4_79
          · replace k := k.2 h
            refine g_iinc (v := ((1 + 16) + 8) + 2) (ls' := [(0, .int (jushr (jushr ((x0 ^^^ (-1)) &&& (x0 - 1)) 16) 8)), (1, .int (((1 + 16) + 8) + 2))]) hX 1 rfl dJ6_numberOfTrailingZeros_0f7a4_67 rfl (by decide) rfl ?_
            refine g_iload_n hX 0 rfl rfl dJ6_numberOfTrailingZeros_0f7a4_70 ?_
            refine g_iconst (v := 2) hX dJ6_numberOfTrailingZeros_0f7a4_71 (by decide) ?_
            refine g_iushr hX dJ6_numberOfTrailingZeros_0f7a4_72 ?_
            refine g_istore_n (ls' := [(0, .int (jushr (jushr (jushr ((x0 ^^^ (-1)) &&& (x0 - 1)) 16) 8) 2)), (1, .int (((1 + 16) + 8) + 2))]) hX dJ6_numberOfTrailingZeros_0f7a4_73 rfl (by decide) rfl ?_
            refine g_iload_n hX 1 rfl rfl dJ6_numberOfTrailingZeros_0f7a4_74 ?_
            refine g_iload_n hX 0 rfl rfl dJ6_numberOfTrailingZeros_0f7a4_75 ?_
            refine g_iconst (v := 1) hX dJ6_numberOfTrailingZeros_0f7a4_76 (by decide) ?_
            refine g_iushr hX dJ6_numberOfTrailingZeros_0f7a4_77 ?_
            refine g_iadd hX dJ6_numberOfTrailingZeros_0f7a4_78 ?_
            exact g_ireturn hX k rfl rfl dJ6_numberOfTrailingZeros_0f7a4_79
        · replace k := k.2 h
          refine g_iinc (v := ((1 + 16) + 8) + 4) (ls' := [(0, .int (jushr (jushr ((x0 ^^^ (-1)) &&& (x0 - 1)) 16) 8)), (1, .int (((1 + 16) + 8) + 4))]) hX 1 rfl dJ6_numberOfTrailingZeros_0f7a4_55 rfl (by decide) rfl ?_
          refine g_iload_n hX 0 rfl rfl dJ6_numberOfTrailingZeros_0f7a4_58 ?_
          refine g_iconst (v := 4) hX dJ6_numberOfTrailingZeros_0f7a4_59 (by decide) ?_
          refine g_iushr hX dJ6_numberOfTrailingZeros_0f7a4_60 ?_
          refine g_istore_n (ls' := [(0, .int (jushr (jushr (jushr ((x0 ^^^ (-1)) &&& (x0 - 1)) 16) 8) 4)), (1, .int (((1 + 16) + 8) + 4))]) hX dJ6_numberOfTrailingZeros_0f7a4_61 rfl (by decide) rfl ?_
          refine g_iload_n hX 0 rfl rfl dJ6_numberOfTrailingZeros_0f7a4_62 ?_
          refine g_iconst (v := 4) hX dJ6_numberOfTrailingZeros_0f7a4_63 (by decide) ?_
          refine g_icmp_le (tgt := 74) hX dJ6_numberOfTrailingZeros_0f7a4_64 (by decide) (fun h => ?_) (fun h => ?_)
          · replace k := k.1 h
            refine g_iload_n hX 1 rfl rfl dJ6_numberOfTrailingZeros_0f7a4_74 ?_
            refine g_iload_n hX 0 rfl rfl dJ6_numberOfTrailingZeros_0f7a4_75 ?_
            refine g_iconst (v := 1) hX dJ6_numberOfTrailingZeros_0f7a4_76 (by decide) ?_
            refine g_iushr hX dJ6_numberOfTrailingZeros_0f7a4_77 ?_
            refine g_iadd hX dJ6_numberOfTrailingZeros_0f7a4_78 ?_
            exact g_ireturn hX k rfl rfl dJ6_numberOfTrailingZeros_0f7a4_79
          · replace k := k.2 h
            refine g_iinc (v := (((1 + 16) + 8) + 4) + 2) (ls' := [(0, .int (jushr (jushr (jushr ((x0 ^^^ (-1)) &&& (x0 - 1)) 16) 8) 4)), (1, .int ((((1 + 16) + 8) + 4) + 2))]) hX 1 rfl dJ6_numberOfTrailingZeros_0f7a4_67 rfl (by decide) rfl ?_
            refine g_iload_n hX 0 rfl rfl dJ6_numberOfTrailingZeros_0f7a4_70 ?_
            refine g_iconst (v := 2) hX dJ6_numberOfTrailingZeros_0f7a4_71 (by decide) ?_
            refine g_iushr hX dJ6_numberOfTrailingZeros_0f7a4_72 ?_
            refine g_istore_n (ls' := [(0, .int (jushr (jushr (jushr (jushr ((x0 ^^^ (-1)) &&& (x0 - 1)) 16) 8) 4) 2)), (1, .int ((((1 + 16) + 8) + 4) + 2))]) hX dJ6_numberOfTrailingZeros_0f7a4_73 rfl (by decide) rfl ?_
            refine g_iload_n hX 1 rfl rfl dJ6_numberOfTrailingZeros_0f7a4_74 ?_
            refine g_iload_n hX 0 rfl rfl dJ6_numberOfTrailingZeros_0f7a4_75 ?_
            refine g_iconst (v := 1) hX dJ6_numberOfTrailingZeros_0f7a4_76 (by decide) ?_
            refine g_iushr hX dJ6_numberOfTrailingZeros_0f7a4_77 ?_
            refine g_iadd hX dJ6_numberOfTrailingZeros_0f7a4_78 ?_
            exact g_ireturn hX k rfl rfl dJ6_numberOfTrailingZeros_0f7a4_79
  · replace k := k.2 h
    refine g_iload_n hX 0 rfl rfl dJ6_numberOfTrailingZeros_0f7a4_12 ?_
    refine g_bipush (v := 32) hX dJ6_numberOfTrailingZeros_0f7a4_13 (by decide) ?_
    refine g_iand hX dJ6_numberOfTrailingZeros_0f7a4_15 ?_
    exact g_ireturn hX k rfl rfl dJ6_numberOfTrailingZeros_0f7a4_16
set_option maxRecDepth 4000 in
theorem RJ6_bitCount_0f7a4_0 {X : XT} {I : MI} {L : ML} {p : Nat → Nat}  (hX : Cx X cJ6_bitCount_0f7a4 1 RJ6 wsJ6_bitCount_0f7a4 rmJ6_bitCount_0f7a4) (x0 : Int32) (k : Rt X (some .int) rmJ6_bitCount_0f7a4 (some (.int ((((((((x0 - ((jushr x0 1) &&& 1431655765)) &&& 858993459) + ((jushr (x0 - ((jushr x0 1) &&& 1431655765)) 2) &&& 858993459)) + (jushr (((x0 - ((jushr x0 1) &&& 1431655765)) &&& 858993459) + ((jushr (x0 - ((jushr x0 1) &&& 1431655765)) 2) &&& 858993459)) 4)) &&& 252645135) + (jushr (((((x0 - ((jushr x0 1) &&& 1431655765)) &&& 858993459) + ((jushr (x0 - ((jushr x0 1) &&& 1431655765)) 2) &&& 858993459)) + (jushr (((x0 - ((jushr x0 1) &&& 1431655765)) &&& 858993459) + ((jushr (x0 - ((jushr x0 1) &&& 1431655765)) 2) &&& 858993459)) 4)) &&& 252645135) 8)) + (jushr ((((((x0 - ((jushr x0 1) &&& 1431655765)) &&& 858993459) + ((jushr (x0 - ((jushr x0 1) &&& 1431655765)) 2) &&& 858993459)) + (jushr (((x0 - ((jushr x0 1) &&& 1431655765)) &&& 858993459) + ((jushr (x0 - ((jushr x0 1) &&& 1431655765)) 2) &&& 858993459)) 4)) &&& 252645135) + (jushr (((((x0 - ((jushr x0 1) &&& 1431655765)) &&& 858993459) + ((jushr (x0 - ((jushr x0 1) &&& 1431655765)) 2) &&& 858993459)) + (jushr (((x0 - ((jushr x0 1) &&& 1431655765)) &&& 858993459) + ((jushr (x0 - ((jushr x0 1) &&& 1431655765)) 2) &&& 858993459)) 4)) &&& 252645135) 8)) 16)) &&& 63))) (HM X I L p)) : G X 0 0 0 [(0, .int x0)] [] (HM X I L p) := by
  refine g_iload_n hX 0 rfl rfl dJ6_bitCount_0f7a4_0 ?_
  refine g_iload_n hX 0 rfl rfl dJ6_bitCount_0f7a4_1 ?_
  refine g_iconst (v := 1) hX dJ6_bitCount_0f7a4_2 (by decide) ?_
  refine g_iushr hX dJ6_bitCount_0f7a4_3 ?_
  refine g_ldcw (v := 1431655765) hX (by decide +kernel) dJ6_bitCount_0f7a4_4 ?_
  refine g_iand hX dJ6_bitCount_0f7a4_7 ?_
  refine g_isub hX dJ6_bitCount_0f7a4_8 ?_
  refine g_istore_n (ls' := [(0, .int (x0 - ((jushr x0 1) &&& 1431655765)))]) hX dJ6_bitCount_0f7a4_9 rfl (by decide) rfl ?_
  refine g_iload_n hX 0 rfl rfl dJ6_bitCount_0f7a4_10 ?_
  refine g_ldcw (v := 858993459) hX (by decide +kernel) dJ6_bitCount_0f7a4_11 ?_
  refine g_iand hX dJ6_bitCount_0f7a4_14 ?_
  refine g_iload_n hX 0 rfl rfl dJ6_bitCount_0f7a4_15 ?_
  refine g_iconst (v := 2) hX dJ6_bitCount_0f7a4_16 (by decide) ?_
  refine g_iushr hX dJ6_bitCount_0f7a4_17 ?_
  refine g_ldcw (v := 858993459) hX (by decide +kernel) dJ6_bitCount_0f7a4_18 ?_
  refine g_iand hX dJ6_bitCount_0f7a4_21 ?_
  refine g_iadd hX dJ6_bitCount_0f7a4_22 ?_
  refine g_istore_n (ls' := [(0, .int (((x0 - ((jushr x0 1) &&& 1431655765)) &&& 858993459) + ((jushr (x0 - ((jushr x0 1) &&& 1431655765)) 2) &&& 858993459)))]) hX dJ6_bitCount_0f7a4_23 rfl (by decide) rfl ?_
  refine g_iload_n hX 0 rfl rfl dJ6_bitCount_0f7a4_24 ?_
  refine g_iload_n hX 0 rfl rfl dJ6_bitCount_0f7a4_25 ?_
  refine g_iconst (v := 4) hX dJ6_bitCount_0f7a4_26 (by decide) ?_
  refine g_iushr hX dJ6_bitCount_0f7a4_27 ?_
  refine g_iadd hX dJ6_bitCount_0f7a4_28 ?_
  refine g_ldcw (v := 252645135) hX (by decide +kernel) dJ6_bitCount_0f7a4_29 ?_
  refine g_iand hX dJ6_bitCount_0f7a4_32 ?_
  refine g_istore_n (ls' := [(0, .int (((((x0 - ((jushr x0 1) &&& 1431655765)) &&& 858993459) + ((jushr (x0 - ((jushr x0 1) &&& 1431655765)) 2) &&& 858993459)) + (jushr (((x0 - ((jushr x0 1) &&& 1431655765)) &&& 858993459) + ((jushr (x0 - ((jushr x0 1) &&& 1431655765)) 2) &&& 858993459)) 4)) &&& 252645135))]) hX dJ6_bitCount_0f7a4_33 rfl (by decide) rfl ?_
  refine g_iload_n hX 0 rfl rfl dJ6_bitCount_0f7a4_34 ?_
  refine g_iload_n hX 0 rfl rfl dJ6_bitCount_0f7a4_35 ?_
  refine g_bipush (v := 8) hX dJ6_bitCount_0f7a4_36 (by decide) ?_
  refine g_iushr hX dJ6_bitCount_0f7a4_38 ?_
  refine g_iadd hX dJ6_bitCount_0f7a4_39 ?_
  refine g_istore_n (ls' := [(0, .int ((((((x0 - ((jushr x0 1) &&& 1431655765)) &&& 858993459) + ((jushr (x0 - ((jushr x0 1) &&& 1431655765)) 2) &&& 858993459)) + (jushr (((x0 - ((jushr x0 1) &&& 1431655765)) &&& 858993459) + ((jushr (x0 - ((jushr x0 1) &&& 1431655765)) 2) &&& 858993459)) 4)) &&& 252645135) + (jushr (((((x0 - ((jushr x0 1) &&& 1431655765)) &&& 858993459) + ((jushr (x0 - ((jushr x0 1) &&& 1431655765)) 2) &&& 858993459)) + (jushr (((x0 - ((jushr x0 1) &&& 1431655765)) &&& 858993459) + ((jushr (x0 - ((jushr x0 1) &&& 1431655765)) 2) &&& 858993459)) 4)) &&& 252645135) 8)))]) hX dJ6_bitCount_0f7a4_40 rfl (by decide) rfl ?_
  refine g_iload_n hX 0 rfl rfl dJ6_bitCount_0f7a4_41 ?_
  refine g_iload_n hX 0 rfl rfl dJ6_bitCount_0f7a4_42 ?_
  refine g_bipush (v := 16) hX dJ6_bitCount_0f7a4_43 (by decide) ?_
  refine g_iushr hX dJ6_bitCount_0f7a4_45 ?_
  refine g_iadd hX dJ6_bitCount_0f7a4_46 ?_
  refine g_istore_n (ls' := [(0, .int (((((((x0 - ((jushr x0 1) &&& 1431655765)) &&& 858993459) + ((jushr (x0 - ((jushr x0 1) &&& 1431655765)) 2) &&& 858993459)) + (jushr (((x0 - ((jushr x0 1) &&& 1431655765)) &&& 858993459) + ((jushr (x0 - ((jushr x0 1) &&& 1431655765)) 2) &&& 858993459)) 4)) &&& 252645135) + (jushr (((((x0 - ((jushr x0 1) &&& 1431655765)) &&& 858993459) + ((jushr (x0 - ((jushr x0 1) &&& 1431655765)) 2) &&& 858993459)) + (jushr (((x0 - ((jushr x0 1) &&& 1431655765)) &&& 858993459) + ((jushr (x0 - ((jushr x0 1) &&& 1431655765)) 2) &&& 858993459)) 4)) &&& 252645135) 8)) + (jushr ((((((x0 - ((jushr x0 1) &&& 1431655765)) &&& 858993459) + ((jushr (x0 - ((jushr x0 1) &&& 1431655765)) 2) &&& 858993459)) + (jushr (((x0 - ((jushr x0 1) &&& 1431655765)) &&& 858993459) + ((jushr (x0 - ((jushr x0 1) &&& 1431655765)) 2) &&& 858993459)) 4)) &&& 252645135) + (jushr (((((x0 - ((jushr x0 1) &&& 1431655765)) &&& 858993459) + ((jushr (x0 - ((jushr x0 1) &&& 1431655765)) 2) &&& 858993459)) + (jushr (((x0 - ((jushr x0 1) &&& 1431655765)) &&& 858993459) + ((jushr (x0 - ((jushr x0 1) &&& 1431655765)) 2) &&& 858993459)) 4)) &&& 252645135) 8)) 16)))]) hX dJ6_bitCount_0f7a4_47 rfl (by decide) rfl ?_
  refine g_iload_n hX 0 rfl rfl dJ6_bitCount_0f7a4_48 ?_
  refine g_bipush (v := 63) hX dJ6_bitCount_0f7a4_49 (by decide) ?_
  refine g_iand hX dJ6_bitCount_0f7a4_51 ?_
  exact g_ireturn hX k rfl rfl dJ6_bitCount_0f7a4_52
set_option maxRecDepth 4000 in
theorem RJ13_numberOfLeadingZeros_95d88_0 {X : XT} {I : MI} {L : ML} {p : Nat → Nat}  (hX : Cx X cJ13_numberOfLeadingZeros_95d88 3 RJ13 wsJ13_numberOfLeadingZeros_95d88 rmJ13_numberOfLeadingZeros_95d88) (x0 : Int64) (k : ((¬ ((jlushr x0 32).toInt32) = 0 → (∃ (zr2 : Int32), Ct (xE X) (xl X) yJ6_numberOfLeadingZeros_0f7a4 wsJ6_numberOfLeadingZeros_0f7a4 rmJ6_numberOfLeadingZeros_0f7a4 [.int ((jlushr x0 32).toInt32)] (HM X I L p) (some (.int zr2)) (HM X I L p) ∧ Rt X (some .int) rmJ13_numberOfLeadingZeros_95d88 (some (.int zr2)) (HM X I L p))) ∧ (((jlushr x0 32).toInt32) = 0 → (∃ (zr4 : Int32), Ct (xE X) (xl X) yJ6_numberOfLeadingZeros_0f7a4 wsJ6_numberOfLeadingZeros_0f7a4 rmJ6_numberOfLeadingZeros_0f7a4 [.int x0.toInt32] (HM X I L p) (some (.int zr4)) (HM X I L p) ∧ Rt X (some .int) rmJ13_numberOfLeadingZeros_95d88 (some (.int (32 + zr4))) (HM X I L p))))) : G X 0 0 0 [(0, .long x0)] [] (HM X I L p) := by
  refine g_lload_n hX 0 rfl rfl dJ13_numberOfLeadingZeros_95d88_0 ?_
  refine g_bipush (v := 32) hX dJ13_numberOfLeadingZeros_95d88_1 (by decide) ?_
  refine g_lushr hX dJ13_numberOfLeadingZeros_95d88_3 ?_
  refine g_l2i hX dJ13_numberOfLeadingZeros_95d88_4 ?_
  refine g_istore_n (ls' := [(0, .long x0), (2, .int ((jlushr x0 32).toInt32))]) hX dJ13_numberOfLeadingZeros_95d88_5 rfl (by decide) rfl ?_
  refine g_iload_n hX 1 rfl rfl dJ13_numberOfLeadingZeros_95d88_6 ?_
  refine g_if_ne (tgt := 21) hX dJ13_numberOfLeadingZeros_95d88_7 (by decide) (fun h => ?_) (fun h => ?_)
  · replace k := k.1 h
    refine g_iload_n hX 1 rfl rfl dJ13_numberOfLeadingZeros_95d88_21 ?_
    obtain ⟨zr2, zhc1, k⟩ := k
    refine g_callS (cs' := 0) (sl' := 0) (as := [.int ((jlushr x0 32).toInt32)]) (st := []) hX zhc1 gJ13_numberOfLeadingZeros_95d88_J6_numberOfLeadingZeros_0f7a4 rfl rfl ydJ6_numberOfLeadingZeros_0f7a4 (by decide) (Nat.le_of_ble_eq_true rfl) (by decide) dJ13_numberOfLeadingZeros_95d88_22 rfl rfl ?_
    exact g_ireturn hX k rfl rfl dJ13_numberOfLeadingZeros_95d88_25
  · replace k := k.2 h
    refine g_bipush (v := 32) hX dJ13_numberOfLeadingZeros_95d88_10 (by decide) ?_
    refine g_lload_n hX 0 rfl rfl dJ13_numberOfLeadingZeros_95d88_12 ?_
    refine g_l2i hX dJ13_numberOfLeadingZeros_95d88_13 ?_
    obtain ⟨zr4, zhc3, k⟩ := k
    refine g_callS (cs' := 0) (sl' := 0) (as := [.int x0.toInt32]) (st := [.int 32]) hX zhc3 gJ13_numberOfLeadingZeros_95d88_J6_numberOfLeadingZeros_0f7a4 rfl rfl ydJ6_numberOfLeadingZeros_0f7a4 (by decide) (Nat.le_of_ble_eq_true rfl) (by decide) dJ13_numberOfLeadingZeros_95d88_14 rfl rfl ?_
    refine g_iadd hX dJ13_numberOfLeadingZeros_95d88_17 ?_
    refine g_goto (tgt := 25) hX dJ13_numberOfLeadingZeros_95d88_18 (by decide) ?_
    exact g_ireturn hX k rfl rfl dJ13_numberOfLeadingZeros_95d88_25
set_option maxRecDepth 4000 in
theorem RJ13_numberOfTrailingZeros_95d88_0 {X : XT} {I : MI} {L : ML} {p : Nat → Nat}  (hX : Cx X cJ13_numberOfTrailingZeros_95d88 3 RJ13 wsJ13_numberOfTrailingZeros_95d88 rmJ13_numberOfTrailingZeros_95d88) (x0 : Int64) (k : ((¬ x0.toInt32 = 0 → (∃ (zr2 : Int32), Ct (xE X) (xl X) yJ6_numberOfTrailingZeros_0f7a4 wsJ6_numberOfTrailingZeros_0f7a4 rmJ6_numberOfTrailingZeros_0f7a4 [.int x0.toInt32] (HM X I L p) (some (.int zr2)) (HM X I L p) ∧ Rt X (some .int) rmJ13_numberOfTrailingZeros_95d88 (some (.int zr2)) (HM X I L p))) ∧ (x0.toInt32 = 0 → (∃ (zr4 : Int32), Ct (xE X) (xl X) yJ6_numberOfTrailingZeros_0f7a4 wsJ6_numberOfTrailingZeros_0f7a4 rmJ6_numberOfTrailingZeros_0f7a4 [.int ((jlushr x0 32).toInt32)] (HM X I L p) (some (.int zr4)) (HM X I L p) ∧ Rt X (some .int) rmJ13_numberOfTrailingZeros_95d88 (some (.int (32 + zr4))) (HM X I L p))))) : G X 0 0 0 [(0, .long x0)] [] (HM X I L p) := by
  refine g_lload_n hX 0 rfl rfl dJ13_numberOfTrailingZeros_95d88_0 ?_
  refine g_l2i hX dJ13_numberOfTrailingZeros_95d88_1 ?_
  refine g_istore_n (ls' := [(0, .long x0), (2, .int x0.toInt32)]) hX dJ13_numberOfTrailingZeros_95d88_2 rfl (by decide) rfl ?_
  refine g_iload_n hX 1 rfl rfl dJ13_numberOfTrailingZeros_95d88_3 ?_
  refine g_if_ne (tgt := 21) hX dJ13_numberOfTrailingZeros_95d88_4 (by decide) (fun h => ?_) (fun h => ?_)
  · replace k := k.1 h
    refine g_iload_n hX 1 rfl rfl dJ13_numberOfTrailingZeros_95d88_21 ?_
    obtain ⟨zr2, zhc1, k⟩ := k
    refine g_callS (cs' := 0) (sl' := 0) (as := [.int x0.toInt32]) (st := []) hX zhc1 gJ13_numberOfTrailingZeros_95d88_J6_numberOfTrailingZeros_0f7a4 rfl rfl ydJ6_numberOfTrailingZeros_0f7a4 (by decide) (Nat.le_of_ble_eq_true rfl) (by decide) dJ13_numberOfTrailingZeros_95d88_22 rfl rfl ?_
    exact g_ireturn hX k rfl rfl dJ13_numberOfTrailingZeros_95d88_25
  · replace k := k.2 h
    refine g_bipush (v := 32) hX dJ13_numberOfTrailingZeros_95d88_7 (by decide) ?_
    refine g_lload_n hX 0 rfl rfl dJ13_numberOfTrailingZeros_95d88_9 ?_
    refine g_bipush (v := 32) hX dJ13_numberOfTrailingZeros_95d88_10 (by decide) ?_
    refine g_lushr hX dJ13_numberOfTrailingZeros_95d88_12 ?_
    refine g_l2i hX dJ13_numberOfTrailingZeros_95d88_13 ?_
    obtain ⟨zr4, zhc3, k⟩ := k
    refine g_callS (cs' := 0) (sl' := 0) (as := [.int ((jlushr x0 32).toInt32)]) (st := [.int 32]) hX zhc3 gJ13_numberOfTrailingZeros_95d88_J6_numberOfTrailingZeros_0f7a4 rfl rfl ydJ6_numberOfTrailingZeros_0f7a4 (by decide) (Nat.le_of_ble_eq_true rfl) (by decide) dJ13_numberOfTrailingZeros_95d88_14 rfl rfl ?_
    refine g_iadd hX dJ13_numberOfTrailingZeros_95d88_17 ?_
    refine g_goto (tgt := 25) hX dJ13_numberOfTrailingZeros_95d88_18 (by decide) ?_
    exact g_ireturn hX k rfl rfl dJ13_numberOfTrailingZeros_95d88_25
set_option maxRecDepth 4000 in
theorem RJ13_bitCount_95d88_0 {X : XT} {I : MI} {L : ML} {p : Nat → Nat}  (hX : Cx X cJ13_bitCount_95d88 2 RJ13 wsJ13_bitCount_95d88 rmJ13_bitCount_95d88) (x0 : Int64) (k : Rt X (some .int) rmJ13_bitCount_95d88 (some (.int ((((((((((x0 - ((jlushr x0 1) &&& 6148914691236517205)) &&& 3689348814741910323) + ((jlushr (x0 - ((jlushr x0 1) &&& 6148914691236517205)) 2) &&& 3689348814741910323)) + (jlushr (((x0 - ((jlushr x0 1) &&& 6148914691236517205)) &&& 3689348814741910323) + ((jlushr (x0 - ((jlushr x0 1) &&& 6148914691236517205)) 2) &&& 3689348814741910323)) 4)) &&& 1085102592571150095) + (jlushr (((((x0 - ((jlushr x0 1) &&& 6148914691236517205)) &&& 3689348814741910323) + ((jlushr (x0 - ((jlushr x0 1) &&& 6148914691236517205)) 2) &&& 3689348814741910323)) + (jlushr (((x0 - ((jlushr x0 1) &&& 6148914691236517205)) &&& 3689348814741910323) + ((jlushr (x0 - ((jlushr x0 1) &&& 6148914691236517205)) 2) &&& 3689348814741910323)) 4)) &&& 1085102592571150095) 8)) + (jlushr ((((((x0 - ((jlushr x0 1) &&& 6148914691236517205)) &&& 3689348814741910323) + ((jlushr (x0 - ((jlushr x0 1) &&& 6148914691236517205)) 2) &&& 3689348814741910323)) + (jlushr (((x0 - ((jlushr x0 1) &&& 6148914691236517205)) &&& 3689348814741910323) + ((jlushr (x0 - ((jlushr x0 1) &&& 6148914691236517205)) 2) &&& 3689348814741910323)) 4)) &&& 1085102592571150095) + (jlushr (((((x0 - ((jlushr x0 1) &&& 6148914691236517205)) &&& 3689348814741910323) + ((jlushr (x0 - ((jlushr x0 1) &&& 6148914691236517205)) 2) &&& 3689348814741910323)) + (jlushr (((x0 - ((jlushr x0 1) &&& 6148914691236517205)) &&& 3689348814741910323) + ((jlushr (x0 - ((jlushr x0 1) &&& 6148914691236517205)) 2) &&& 3689348814741910323)) 4)) &&& 1085102592571150095) 8)) 16)) + (jlushr (((((((x0 - ((jlushr x0 1) &&& 6148914691236517205)) &&& 3689348814741910323) + ((jlushr (x0 - ((jlushr x0 1) &&& 6148914691236517205)) 2) &&& 3689348814741910323)) + (jlushr (((x0 - ((jlushr x0 1) &&& 6148914691236517205)) &&& 3689348814741910323) + ((jlushr (x0 - ((jlushr x0 1) &&& 6148914691236517205)) 2) &&& 3689348814741910323)) 4)) &&& 1085102592571150095) + (jlushr (((((x0 - ((jlushr x0 1) &&& 6148914691236517205)) &&& 3689348814741910323) + ((jlushr (x0 - ((jlushr x0 1) &&& 6148914691236517205)) 2) &&& 3689348814741910323)) + (jlushr (((x0 - ((jlushr x0 1) &&& 6148914691236517205)) &&& 3689348814741910323) + ((jlushr (x0 - ((jlushr x0 1) &&& 6148914691236517205)) 2) &&& 3689348814741910323)) 4)) &&& 1085102592571150095) 8)) + (jlushr ((((((x0 - ((jlushr x0 1) &&& 6148914691236517205)) &&& 3689348814741910323) + ((jlushr (x0 - ((jlushr x0 1) &&& 6148914691236517205)) 2) &&& 3689348814741910323)) + (jlushr (((x0 - ((jlushr x0 1) &&& 6148914691236517205)) &&& 3689348814741910323) + ((jlushr (x0 - ((jlushr x0 1) &&& 6148914691236517205)) 2) &&& 3689348814741910323)) 4)) &&& 1085102592571150095) + (jlushr (((((x0 - ((jlushr x0 1) &&& 6148914691236517205)) &&& 3689348814741910323) + ((jlushr (x0 - ((jlushr x0 1) &&& 6148914691236517205)) 2) &&& 3689348814741910323)) + (jlushr (((x0 - ((jlushr x0 1) &&& 6148914691236517205)) &&& 3689348814741910323) + ((jlushr (x0 - ((jlushr x0 1) &&& 6148914691236517205)) 2) &&& 3689348814741910323)) 4)) &&& 1085102592571150095) 8)) 16)) 32)).toInt32) &&& 127))) (HM X I L p)) : G X 0 0 0 [(0, .long x0)] [] (HM X I L p) := by
  refine g_lload_n hX 0 rfl rfl dJ13_bitCount_95d88_0 ?_
  refine g_lload_n hX 0 rfl rfl dJ13_bitCount_95d88_1 ?_
  refine g_iconst (v := 1) hX dJ13_bitCount_95d88_2 (by decide) ?_
  refine g_lushr hX dJ13_bitCount_95d88_3 ?_
  refine g_ldc2 (v := 6148914691236517205) hX (by decide +kernel) dJ13_bitCount_95d88_4 ?_
  refine g_land hX dJ13_bitCount_95d88_7 ?_
  refine g_lsub hX dJ13_bitCount_95d88_8 ?_
  refine g_lstore_n (ls' := [(0, .long (x0 - ((jlushr x0 1) &&& 6148914691236517205)))]) hX dJ13_bitCount_95d88_9 rfl (by decide) rfl ?_
  refine g_lload_n hX 0 rfl rfl dJ13_bitCount_95d88_10 ?_
  refine g_ldc2 (v := 3689348814741910323) hX (by decide +kernel) dJ13_bitCount_95d88_11 ?_
  refine g_land hX dJ13_bitCount_95d88_14 ?_
  refine g_lload_n hX 0 rfl rfl dJ13_bitCount_95d88_15 ?_
  refine g_iconst (v := 2) hX dJ13_bitCount_95d88_16 (by decide) ?_
  refine g_lushr hX dJ13_bitCount_95d88_17 ?_
  refine g_ldc2 (v := 3689348814741910323) hX (by decide +kernel) dJ13_bitCount_95d88_18 ?_
  refine g_land hX dJ13_bitCount_95d88_21 ?_
  refine g_ladd hX dJ13_bitCount_95d88_22 ?_
  refine g_lstore_n (ls' := [(0, .long (((x0 - ((jlushr x0 1) &&& 6148914691236517205)) &&& 3689348814741910323) + ((jlushr (x0 - ((jlushr x0 1) &&& 6148914691236517205)) 2) &&& 3689348814741910323)))]) hX dJ13_bitCount_95d88_23 rfl (by decide) rfl ?_
  refine g_lload_n hX 0 rfl rfl dJ13_bitCount_95d88_24 ?_
  refine g_lload_n hX 0 rfl rfl dJ13_bitCount_95d88_25 ?_
  refine g_iconst (v := 4) hX dJ13_bitCount_95d88_26 (by decide) ?_
  refine g_lushr hX dJ13_bitCount_95d88_27 ?_
  refine g_ladd hX dJ13_bitCount_95d88_28 ?_
  refine g_ldc2 (v := 1085102592571150095) hX (by decide +kernel) dJ13_bitCount_95d88_29 ?_
  refine g_land hX dJ13_bitCount_95d88_32 ?_
  refine g_lstore_n (ls' := [(0, .long (((((x0 - ((jlushr x0 1) &&& 6148914691236517205)) &&& 3689348814741910323) + ((jlushr (x0 - ((jlushr x0 1) &&& 6148914691236517205)) 2) &&& 3689348814741910323)) + (jlushr (((x0 - ((jlushr x0 1) &&& 6148914691236517205)) &&& 3689348814741910323) + ((jlushr (x0 - ((jlushr x0 1) &&& 6148914691236517205)) 2) &&& 3689348814741910323)) 4)) &&& 1085102592571150095))]) hX dJ13_bitCount_95d88_33 rfl (by decide) rfl ?_
  refine g_lload_n hX 0 rfl rfl dJ13_bitCount_95d88_34 ?_
  refine g_lload_n hX 0 rfl rfl dJ13_bitCount_95d88_35 ?_
  refine g_bipush (v := 8) hX dJ13_bitCount_95d88_36 (by decide) ?_
  refine g_lushr hX dJ13_bitCount_95d88_38 ?_
  refine g_ladd hX dJ13_bitCount_95d88_39 ?_
  refine g_lstore_n (ls' := [(0, .long ((((((x0 - ((jlushr x0 1) &&& 6148914691236517205)) &&& 3689348814741910323) + ((jlushr (x0 - ((jlushr x0 1) &&& 6148914691236517205)) 2) &&& 3689348814741910323)) + (jlushr (((x0 - ((jlushr x0 1) &&& 6148914691236517205)) &&& 3689348814741910323) + ((jlushr (x0 - ((jlushr x0 1) &&& 6148914691236517205)) 2) &&& 3689348814741910323)) 4)) &&& 1085102592571150095) + (jlushr (((((x0 - ((jlushr x0 1) &&& 6148914691236517205)) &&& 3689348814741910323) + ((jlushr (x0 - ((jlushr x0 1) &&& 6148914691236517205)) 2) &&& 3689348814741910323)) + (jlushr (((x0 - ((jlushr x0 1) &&& 6148914691236517205)) &&& 3689348814741910323) + ((jlushr (x0 - ((jlushr x0 1) &&& 6148914691236517205)) 2) &&& 3689348814741910323)) 4)) &&& 1085102592571150095) 8)))]) hX dJ13_bitCount_95d88_40 rfl (by decide) rfl ?_
  refine g_lload_n hX 0 rfl rfl dJ13_bitCount_95d88_41 ?_
  refine g_lload_n hX 0 rfl rfl dJ13_bitCount_95d88_42 ?_
  refine g_bipush (v := 16) hX dJ13_bitCount_95d88_43 (by decide) ?_
  refine g_lushr hX dJ13_bitCount_95d88_45 ?_
  refine g_ladd hX dJ13_bitCount_95d88_46 ?_
  refine g_lstore_n (ls' := [(0, .long (((((((x0 - ((jlushr x0 1) &&& 6148914691236517205)) &&& 3689348814741910323) + ((jlushr (x0 - ((jlushr x0 1) &&& 6148914691236517205)) 2) &&& 3689348814741910323)) + (jlushr (((x0 - ((jlushr x0 1) &&& 6148914691236517205)) &&& 3689348814741910323) + ((jlushr (x0 - ((jlushr x0 1) &&& 6148914691236517205)) 2) &&& 3689348814741910323)) 4)) &&& 1085102592571150095) + (jlushr (((((x0 - ((jlushr x0 1) &&& 6148914691236517205)) &&& 3689348814741910323) + ((jlushr (x0 - ((jlushr x0 1) &&& 6148914691236517205)) 2) &&& 3689348814741910323)) + (jlushr (((x0 - ((jlushr x0 1) &&& 6148914691236517205)) &&& 3689348814741910323) + ((jlushr (x0 - ((jlushr x0 1) &&& 6148914691236517205)) 2) &&& 3689348814741910323)) 4)) &&& 1085102592571150095) 8)) + (jlushr ((((((x0 - ((jlushr x0 1) &&& 6148914691236517205)) &&& 3689348814741910323) + ((jlushr (x0 - ((jlushr x0 1) &&& 6148914691236517205)) 2) &&& 3689348814741910323)) + (jlushr (((x0 - ((jlushr x0 1) &&& 6148914691236517205)) &&& 3689348814741910323) + ((jlushr (x0 - ((jlushr x0 1) &&& 6148914691236517205)) 2) &&& 3689348814741910323)) 4)) &&& 1085102592571150095) + (jlushr (((((x0 - ((jlushr x0 1) &&& 6148914691236517205)) &&& 3689348814741910323) + ((jlushr (x0 - ((jlushr x0 1) &&& 6148914691236517205)) 2) &&& 3689348814741910323)) + (jlushr (((x0 - ((jlushr x0 1) &&& 6148914691236517205)) &&& 3689348814741910323) + ((jlushr (x0 - ((jlushr x0 1) &&& 6148914691236517205)) 2) &&& 3689348814741910323)) 4)) &&& 1085102592571150095) 8)) 16)))]) hX dJ13_bitCount_95d88_47 rfl (by decide) rfl ?_
  refine g_lload_n hX 0 rfl rfl dJ13_bitCount_95d88_48 ?_
  refine g_lload_n hX 0 rfl rfl dJ13_bitCount_95d88_49 ?_
  refine g_bipush (v := 32) hX dJ13_bitCount_95d88_50 (by decide) ?_
  refine g_lushr hX dJ13_bitCount_95d88_52 ?_
  refine g_ladd hX dJ13_bitCount_95d88_53 ?_
  refine g_lstore_n (ls' := [(0, .long ((((((((x0 - ((jlushr x0 1) &&& 6148914691236517205)) &&& 3689348814741910323) + ((jlushr (x0 - ((jlushr x0 1) &&& 6148914691236517205)) 2) &&& 3689348814741910323)) + (jlushr (((x0 - ((jlushr x0 1) &&& 6148914691236517205)) &&& 3689348814741910323) + ((jlushr (x0 - ((jlushr x0 1) &&& 6148914691236517205)) 2) &&& 3689348814741910323)) 4)) &&& 1085102592571150095) + (jlushr (((((x0 - ((jlushr x0 1) &&& 6148914691236517205)) &&& 3689348814741910323) + ((jlushr (x0 - ((jlushr x0 1) &&& 6148914691236517205)) 2) &&& 3689348814741910323)) + (jlushr (((x0 - ((jlushr x0 1) &&& 6148914691236517205)) &&& 3689348814741910323) + ((jlushr (x0 - ((jlushr x0 1) &&& 6148914691236517205)) 2) &&& 3689348814741910323)) 4)) &&& 1085102592571150095) 8)) + (jlushr ((((((x0 - ((jlushr x0 1) &&& 6148914691236517205)) &&& 3689348814741910323) + ((jlushr (x0 - ((jlushr x0 1) &&& 6148914691236517205)) 2) &&& 3689348814741910323)) + (jlushr (((x0 - ((jlushr x0 1) &&& 6148914691236517205)) &&& 3689348814741910323) + ((jlushr (x0 - ((jlushr x0 1) &&& 6148914691236517205)) 2) &&& 3689348814741910323)) 4)) &&& 1085102592571150095) + (jlushr (((((x0 - ((jlushr x0 1) &&& 6148914691236517205)) &&& 3689348814741910323) + ((jlushr (x0 - ((jlushr x0 1) &&& 6148914691236517205)) 2) &&& 3689348814741910323)) + (jlushr (((x0 - ((jlushr x0 1) &&& 6148914691236517205)) &&& 3689348814741910323) + ((jlushr (x0 - ((jlushr x0 1) &&& 6148914691236517205)) 2) &&& 3689348814741910323)) 4)) &&& 1085102592571150095) 8)) 16)) + (jlushr (((((((x0 - ((jlushr x0 1) &&& 6148914691236517205)) &&& 3689348814741910323) + ((jlushr (x0 - ((jlushr x0 1) &&& 6148914691236517205)) 2) &&& 3689348814741910323)) + (jlushr (((x0 - ((jlushr x0 1) &&& 6148914691236517205)) &&& 3689348814741910323) + ((jlushr (x0 - ((jlushr x0 1) &&& 6148914691236517205)) 2) &&& 3689348814741910323)) 4)) &&& 1085102592571150095) + (jlushr (((((x0 - ((jlushr x0 1) &&& 6148914691236517205)) &&& 3689348814741910323) + ((jlushr (x0 - ((jlushr x0 1) &&& 6148914691236517205)) 2) &&& 3689348814741910323)) + (jlushr (((x0 - ((jlushr x0 1) &&& 6148914691236517205)) &&& 3689348814741910323) + ((jlushr (x0 - ((jlushr x0 1) &&& 6148914691236517205)) 2) &&& 3689348814741910323)) 4)) &&& 1085102592571150095) 8)) + (jlushr ((((((x0 - ((jlushr x0 1) &&& 6148914691236517205)) &&& 3689348814741910323) + ((jlushr (x0 - ((jlushr x0 1) &&& 6148914691236517205)) 2) &&& 3689348814741910323)) + (jlushr (((x0 - ((jlushr x0 1) &&& 6148914691236517205)) &&& 3689348814741910323) + ((jlushr (x0 - ((jlushr x0 1) &&& 6148914691236517205)) 2) &&& 3689348814741910323)) 4)) &&& 1085102592571150095) + (jlushr (((((x0 - ((jlushr x0 1) &&& 6148914691236517205)) &&& 3689348814741910323) + ((jlushr (x0 - ((jlushr x0 1) &&& 6148914691236517205)) 2) &&& 3689348814741910323)) + (jlushr (((x0 - ((jlushr x0 1) &&& 6148914691236517205)) &&& 3689348814741910323) + ((jlushr (x0 - ((jlushr x0 1) &&& 6148914691236517205)) 2) &&& 3689348814741910323)) 4)) &&& 1085102592571150095) 8)) 16)) 32)))]) hX dJ13_bitCount_95d88_54 rfl (by decide) rfl ?_
  refine g_lload_n hX 0 rfl rfl dJ13_bitCount_95d88_55 ?_
  refine g_l2i hX dJ13_bitCount_95d88_56 ?_
  refine g_bipush (v := 127) hX dJ13_bitCount_95d88_57 (by decide) ?_
  refine g_iand hX dJ13_bitCount_95d88_59 ?_
  exact g_ireturn hX k rfl rfl dJ13_bitCount_95d88_60
set_option maxRecDepth 4000 in
theorem RJ7_fill_d0a16_0 {X : XT} {I : MI} {L : ML} {p : Nat → Nat}  (hX : Cx X cJ7_fill_d0a16 5 RJ7 wsJ7_fill_d0a16 rmJ7_fill_d0a16) (x1 : Int64) (k : G X 0 0 6 [(0, .ref 88), (1, .long x1), (3, .int 0), (4, .int (nI 10))] [] (HM X I L p)) : G X 0 0 0 [(0, .ref 88), (1, .long x1)] [] (HM X I L p) := by
  refine g_iconst (v := 0) hX dJ7_fill_d0a16_0 (by decide) ?_
  refine g_istore_n (ls' := [(0, .ref 88), (1, .long x1), (3, .int 0)]) hX dJ7_fill_d0a16_1 rfl (by decide) rfl ?_
  refine g_aload_n hX 0 rfl rfl dJ7_fill_d0a16_2 ?_
  refine g_alenL hX hPW sn88 sh88 dJ7_fill_d0a16_3 ?_
  refine g_istore (ls' := [(0, .ref 88), (1, .long x1), (3, .int 0), (4, .int (nI 10))]) hX dJ7_fill_d0a16_4 (by decide) rfl ?_
  exact k
set_option maxRecDepth 4000 in
theorem RJ7_fill_d0a16_6 {X : XT} {I : MI} {L : ML} {p : Nat → Nat}  (hX : Cx X cJ7_fill_d0a16 5 RJ7 wsJ7_fill_d0a16 rmJ7_fill_d0a16) (x1 : Int64) (x3 : Int32) (x4 : Int32) (k : ((x4 ≤ x3 → Rt X none rmJ7_fill_d0a16 none (HM X I L p)) ∧ (¬ x4 ≤ x3 → (∃ zj2 : Nat, x3 = nI zj2 ∧ zj2 < 10 ∧ G X 0 0 6 [(0, .ref 88), (1, .long x1), (3, .int (x3 + 1)), (4, .int x4)] [] (HM X I (upL L 88 zj2 x1) p))))) : G X 0 0 6 [(0, .ref 88), (1, .long x1), (3, .int x3), (4, .int x4)] [] (HM X I L p) := by
  refine g_iload_n hX 2 rfl rfl dJ7_fill_d0a16_6 ?_
  refine g_iload hX 3 rfl dJ7_fill_d0a16_7 ?_
  refine g_icmp_ge (tgt := 22) hX dJ7_fill_d0a16_9 (by decide) (fun h => ?_) (fun h => ?_)
  · replace k := k.1 h
    exact g_return hX k rfl rfl dJ7_fill_d0a16_22
  · replace k := k.2 h
    refine g_aload_n hX 0 rfl rfl dJ7_fill_d0a16_12 ?_
    refine g_iload_n hX 2 rfl rfl dJ7_fill_d0a16_13 ?_
    refine g_lload_n hX 1 rfl rfl dJ7_fill_d0a16_14 ?_
    obtain ⟨zj2, zh1, zh3, k⟩ := k
    refine g_last hX sn88 sh88 zh1 zh3 (by decide) dJ7_fill_d0a16_15 ?_
    refine g_iinc (v := x3 + 1) (ls' := [(0, .ref 88), (1, .long x1), (3, .int (x3 + 1)), (4, .int x4)]) hX 2 rfl dJ7_fill_d0a16_16 rfl (by decide) rfl ?_
    refine g_goto (tgt := 6) hX dJ7_fill_d0a16_19 (by decide) ?_
    exact k
