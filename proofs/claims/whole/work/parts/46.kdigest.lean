/-! digest: the class's side. -/
section
variable {E : ET} {l : Launch} {I : MI} {L : ML} {p : Nat → Nat} {D : Dr} {s : Sg}
theorem k_toldP (hV : VC whn I p s) (hW : GW s) {w : Nat} (hw : w ≤ 7) : Ct E l yX5_told wsX5_told rmX5_told [.ref 0, .int (nI w)] (HE E I L p) (some (.int (told s w))) (HE E I L p) := by
  obtain ⟨⟨h1, h2, h3, h4, h5, h6⟩, v1, v2, v3, v4, v5⟩ := id hV
  refine Ct.mk (by decide) rfl (Nat.le_of_ble_eq_true rfl) ?_
  rintro X rfl rfl hX - hRt
  have wq : ∀ j, j < 8 → (nI w = nI j ↔ w = j) := fun j hj => nI_eq (by omega) (by omega)
  have w0 : nI w = 0 ↔ w = 0 := wq 0 (by decide)
  have w1 : nI w = 1 ↔ w = 1 := wq 1 (by decide)
  have w2 : nI w = 2 ↔ w = 2 := wq 2 (by decide)
  have w3 : nI w = 3 ↔ w = 3 := wq 3 (by decide)
  have w4 : nI w = 4 ↔ w = 4 := wq 4 (by decide)
  have w5 : nI w = 5 ↔ w = 5 := wq 5 (by decide)
  have w6 : nI w = 6 ↔ w = 6 := wq 6 (by decide)
  have w7 : nI w = 7 ↔ w = 7 := wq 7 (by decide)
  refine RX5_told_0 hX _ ⟨fun q => ?_, fun q => ?_, fun q => ?_, fun q => ?_, fun q => ?_, fun q => ?_, fun q => ?_, fun q => ?_, fun q => ?_⟩
  · rw [w0] at q; rw [q] at hRt; exact hRt.toI v3.symm
  · rw [w1] at q; rw [q] at hRt; exact hRt.toI v4.symm
  · rw [w2] at q; rw [q] at hRt; exact hRt.toI v5.symm
  · rw [w3] at q; rw [q] at hRt; exact hRt.toI v1.symm
  · rw [w4] at q; rw [q] at hRt; exact hRt.toI h1.1.symm
  · rw [w5] at q; rw [q] at hRt; exact hRt.toI h1.2.1.symm
  · rw [w6] at q; rw [q] at hRt; exact hRt.toI h1.2.2.1.symm
  · rw [w7] at q; rw [q] at hRt; exact hRt.toI h3.symm
  · rw [w0, w1, w2, w3, w4, w5, w6, w7] at q; omega
theorem k_ofP (hV : VC whn I p s) (hW : GW s) {a w : Nat} (ha : a < gD s 0) (hw : w ≤ 5) : Ct E l yX5_of wsX5_of rmX5_of [.ref 0, .int (nI a), .int (nI w)] (HE E I L p) (some (.int (nI (ofN (gD s) a w)))) (HE E I L p) := by
  have hS := hW.1.S
  have hP := hW.1.P
  have hR := hV.1.1
  have hY := hV.1.2.1
  have h : ok (nI a) (gD s 0) ∧ btw (nI w) 0 5 := ⟨⟨a, ha, rfl⟩, w, rfl, Nat.zero_le _, hw⟩
  refine Ct.mk (by decide) rfl (Nat.le_of_ble_eq_true rfl) ?_
  rintro X rfl rfl hX - hRt
  have wq : ∀ j, j < 6 → (nI w = nI j ↔ w = j) := fun j hj => nI_eq (by omega) (by omega)
  have w0 : nI w = 0 ↔ w = 0 := wq 0 (by decide)
  have w1 : nI w = 1 ↔ w = 1 := wq 1 (by decide)
  have w2 : nI w = 2 ↔ w = 2 := wq 2 (by decide)
  have w3 : nI w = 3 ↔ w = 3 := wq 3 (by decide)
  have w4 : nI w = 4 ↔ w = 4 := wq 4 (by decide)
  have w5 : nI w = 5 ↔ w = 5 := wq 5 (by decide)
  refine RX5_of_0 hX _ _ ⟨_, k_hasShaft hR.1 hS _, fun _ => ⟨fun q => ⟨a, rfl, by omega, ?_⟩, fun q => ⟨a, rfl, by omega, ?_⟩, fun q => ⟨_, k_pipesAt (F := fr (gD s)) (by decide) (by decide) hR.2.1 hP (by omega) (fun i hi => ⟨(hR.2.2.2.2.1 i (by omega)).1, by have := (hW.1.pipe hi).1; omega⟩), ?_⟩, fun q => ⟨_, k_pipesAt (F := tt (gD s)) (by decide) (by decide) hR.2.1 hP (by omega) (fun i hi => ⟨(hR.2.2.2.2.1 i (by omega)).2.1, by have := (hW.1.pipe hi).2.1; omega⟩), ?_⟩, fun q => ⟨a, rfl, by omega, ?_⟩, fun q => ⟨_, k_above hR hY hW.1 (by omega), ?_⟩, fun q => ?_⟩, fun q => absurd h.1 (b2i_0.mp q)⟩
  · rw [w0] at q; rw [q] at hRt; exact hRt.toI (hR.2.2.2.1 a (by omega)).1.symm
  · rw [w1] at q; rw [q] at hRt; exact hRt.toI (hR.2.2.2.1 a (by omega)).2.symm
  · rw [w2] at q; rw [q] at hRt; exact hRt
  · rw [w3] at q; rw [q] at hRt; exact hRt
  · rw [w4] at q; rw [q] at hRt; exact hRt.toI (hY.1 a ha).symm
  · rw [w5] at q; rw [q] at hRt; exact hRt
  · rw [w0, w1, w2, w3, w4, w5] at q; omega
theorem k_aboutP (hV : VC whn I p s) (hW : GW s) {a w : Nat} (ha : a < gD s 1) (hw : w ≤ 3) : Ct E l yX5_about wsX5_about rmX5_about [.ref 0, .int (nI a), .int (nI w)] (HE E I L p) (some (.int (nI (gD s (23 + 4 * a + w))))) (HE E I L p) := by
  have hS := hW.1.S
  have hP := hW.1.P
  have hR := hV.1.1
  have hY := hV.1.2.1
  have h : ok (nI a) (gD s 1) ∧ btw (nI w) 0 3 := ⟨⟨a, ha, rfl⟩, w, rfl, Nat.zero_le _, hw⟩
  refine Ct.mk (by decide) rfl (Nat.le_of_ble_eq_true rfl) ?_
  rintro X rfl rfl hX - hRt
  obtain ⟨i1, i2, i3, i4⟩ := hR.2.2.2.2.1 a (by omega)
  have wq : ∀ j, j < 6 → (nI w = nI j ↔ w = j) := fun j hj => nI_eq (by omega) (by omega)
  have w0 : nI w = 0 ↔ w = 0 := wq 0 (by decide)
  have w1 : nI w = 1 ↔ w = 1 := wq 1 (by decide)
  have w2 : nI w = 2 ↔ w = 2 := wq 2 (by decide)
  have w3 : nI w = 3 ↔ w = 3 := wq 3 (by decide)
  refine RX5_about_0 hX _ _ ⟨_, k_hasPipe hR.2.1 hP _, fun _ => ⟨fun q => ⟨a, rfl, by omega, ?_⟩, fun q => ⟨a, rfl, by omega, ?_⟩, fun q => ⟨a, rfl, by omega, ?_⟩, fun q => ⟨a, rfl, by omega, ?_⟩, fun q => ?_⟩, fun q => absurd h.1 (b2i_0.mp q)⟩
  · rw [w0] at q; rw [q] at hRt; exact hRt.toI i1.symm
  · rw [w1] at q; rw [q, show 23 + 4 * a + 1 = 24 + 4 * a by omega] at hRt; exact hRt.toI i2.symm
  · rw [w2] at q; rw [q, show 23 + 4 * a + 2 = 25 + 4 * a by omega] at hRt; exact hRt.toI i3.symm
  · rw [w3] at q; rw [q, show 23 + 4 * a + 3 = 26 + 4 * a by omega] at hRt; exact hRt.toI i4.symm
  · rw [w0, w1, w2, w3] at q; omega
theorem k_comesP (hV : VC whn I p s) (hW : GW s) {a m b : Nat} (ha : a < gD s 0) (hm : m ≤ 30) (hb : b < gD s 0) : Ct E l yX5_comes wsX5_comes rmX5_comes [.ref 0, .int (nI a), .int (nI m), .int (nI b)] (HE E I L p) (some (.long (lN (cm (gD s) a m b)))) (HE E I (wy 88 10 L (cm (gD s) a m)) p) := by
  have hS := hW.1.S
  have hP := hW.1.P
  have hR := hV.1.1
  have hY := hV.1.2.1
  have h : (ok (nI a) (gD s 0) ∧ btw (nI m) 0 30) ∧ ok (nI b) (gD s 0) := ⟨⟨⟨a, ha, rfl⟩, m, rfl, Nat.zero_le _, hm⟩, b, hb, rfl⟩
  refine Ct.mk (by decide) rfl (Nat.le_of_ble_eq_true rfl) ?_
  rintro X rfl rfl hX - hRt
  refine RX5_comes_0 hX _ _ _ ⟨_, k_isStart hR.1 hS _ _, fun q => absurd h.1 (b2i_0.mp q), fun _ => ⟨_, k_hasShaft hR.1 hS _, fun _ => ⟨_, k_walk hR hY hW.1 ha (by omega), b, rfl, by omega, ?_⟩, fun q => absurd h.2 (b2i_0.mp q)⟩⟩
  rw [wy_s (by omega)]
  exact hRt
theorem k_whenP (hV : VC whn I p s) (hW : GW s) {a : Nat} (ha : a < gD s 0) : Ct E l yX5_when wsX5_when rmX5_when [.ref 0, .int (nI a)] (HE E I L p) (some (.int (nI (whn (gD s) a)))) (HE E (sI (gD s) a I) (sL (gD s) a I L) p) := by
  have hS := hW.1.S
  have hP := hW.1.P
  have hR := hV.1.1
  have hY := hV.1.2.1
  have h : ok (nI a) (gD s 0) := ⟨a, ha, rfl⟩
  refine Ct.mk (by decide) rfl (Nat.le_of_ble_eq_true rfl) ?_
  rintro X rfl rfl hX - hRt
  exact RX5_when_0 hX _ ⟨_, k_hasShaft hR.1 hS _, fun _ => ⟨_, _, _, k_startsAt hR hY hW.1 hV.kn ha, hRt⟩, fun q => absurd h (b2i_0.mp q)⟩
theorem k_nextP (hV : VC whn I p s) (hW : GW s) {w : Nat} (hw : w ≤ 1) : Ct E l yX5_next wsX5_next rmX5_next [.ref 0, .int (nI w)] (HE E I L p) (some (.int (nxv (gD s) w))) (HE E (sIn (gD s) I (gD s 0)) (sLn (gD s) I L (gD s 0)) p) := by
  have hS := hW.1.S
  have hP := hW.1.P
  have hR := hV.1.1
  have hY := hV.1.2.1
  have h : btw (nI w) 0 1 := ⟨w, rfl, Nat.zero_le _, hw⟩
  have hV2 := VC_sus hV hW
  refine Ct.mk (by decide) rfl (Nat.le_of_ble_eq_true rfl) ?_
  rintro X rfl rfl hX - hRt
  refine RX5_next_0 hX _ ⟨_, k_btw _ (a := 0) (b := 1) (by decide) (by decide), fun _ => ⟨_, _, _, k_suspicious hV.1.1 hV.1.2.1 hW.1 hV.kn, ?_⟩, fun q => absurd h (b2i_0.mp q)⟩
  generalize sIn (gD s) I (gD s 0) = J at hV2 hRt ⊢
  generalize sLn (gD s) I L (gD s 0) = M at hRt ⊢
  have r0 := hV2.1.1.1
  refine loop_up (N := gD s 0) (Q := fun i => G X 0 0 36 [(0, .ref 0), (1, .int (nI w)), (2, .int (nI (sus (gD s)))), (3, .int (nf (gD s) i).1), (4, .int (cx (gD s) i)), (5, .int (nI i))] [] (HM X J M p)) (fun i hi k => ?_) 0 (Nat.zero_le _) ?_
  · refine RX5_next_36 hX _ _ _ _ _ ⟨fun q => absurd q (by rw [r0]; exact nI_ge hi (by omega)), fun _ => ⟨_, k_above hV2.1.1 hV2.1.2.1 hW.1 (by omega), _, k_largerPart hW.1 i, fun q => ?_, fun q => ?_⟩⟩
    · have hm := mr_le hW.1 i
      have e0 : i = 0 := by
        rcases nf_inv hW.1 i with z | ⟨v, z1, z2⟩
        · exact z.2
        · rw [z2] at q; exact absurd q (nI_nm1 (by omega))
      have e1 : nf (gD s) (i + 1) = (nI i, mr (gD s) i) := by
        rw [nf, e0]
        exact if_neg (by rw [e0] at hm; show ¬ 11 ≤ mr (gD s) 0; omega)
      have e2 : cx (gD s) (i + 1) = nI (mr (gD s) i) := by
        unfold cx
        rw [e1]
        exact if_neg (nI_nm1 (by omega))
      rw [e2, e1] at k
      rw [nI_1]
      exact k
    · have hn := nf_le hW.1 i
      have hm := mr_le hW.1 i
      have e4 : cx (gD s) i = nI (nf (gD s) i).2 := if_neg q
      rw [e4, nI_1]
      have e1 : nf (gD s) (i + 1) = if (nf (gD s) i).2 ≤ mr (gD s) i then nf (gD s) i else (nI i, mr (gD s) i) := rfl
      by_cases c : (nf (gD s) i).2 ≤ mr (gD s) i
      · rw [if_pos c] at e1
        have e2 : cx (gD s) (i + 1) = nI (nf (gD s) i).2 := by
          unfold cx
          rw [e1]
          exact if_neg q
        rw [e2, e1] at k
        rw [if_pos ((nle (by omega) (by omega)).mpr c), if_pos ((nle (by omega) (by omega)).mpr c)]
        exact k
      · rw [if_neg c] at e1
        have e2 : cx (gD s) (i + 1) = nI (mr (gD s) i) := by
          unfold cx
          rw [e1]
          exact if_neg (nI_nm1 (by omega))
        rw [e2, e1] at k
        rw [if_neg (fun z => c ((nle (by omega) (by omega)).mp z)), if_neg (fun z => c ((nle (by omega) (by omega)).mp z))]
        exact k
  · refine RX5_next_36 hX _ _ _ _ _ ⟨fun _ => hRt.toI ?_, fun q => absurd (by rw [r0]; exact nI_le (Nat.le_refl _) (by omega)) q⟩
    unfold nxv
    by_cases c : w = 0
    · rw [if_pos c, c]; rfl
    · rw [if_neg c, if_neg (nI_ne0 (by omega) (by omega))]; rfl
theorem k_sensorsP (hV : VC whn I p s) (hW : GW s) {w : Nat} (hw : w ≤ 1) : Ct E l yX5_sensors wsX5_sensors rmX5_sensors [.ref 0, .int (nI w)] (HE E I L p) (some (.int (snv (gD s) w))) (HE E (co (gD s) I (gD s 0)) L p) := by
  have hS := hW.1.S
  have hP := hW.1.P
  have hR := hV.1.1
  have hY := hV.1.2.1
  obtain ⟨p1, p2⟩ := p10 hW.1
  have h : btw (nI w) 0 1 := ⟨w, rfl, Nat.zero_le _, hw⟩
  have e10 : co (gD s) I (gD s 0) 1 0 = nI (gD s 0) := by rw [co_r (by decide) (by decide)]; exact hV.1.1.1
  refine Ct.mk (by decide) rfl (Nat.le_of_ble_eq_true rfl) ?_
  rintro X rfl rfl hX - hRt
  unfold snv at hRt
  refine RX5_sensors_0 hX _ ⟨_, k_btw _ (a := 0) (b := 1) (by decide) (by decide), fun _ => ⟨_, k_compare hV.1.1 hV.1.2.1 hW.1, _, by rw [e10]; exact k_fewest hW.1 (co_PI hW.1 _ (Nat.le_refl _)), fun q => ?_, fun q => ?_⟩, fun q => absurd h (b2i_0.mp q)⟩
  · rw [if_pos ((nI_eq (b := 0) (by omega) (by decide)).mp q)] at hRt
    exact hRt
  · rw [if_neg (fun z => q (by rw [z]; rfl))] at hRt
    rcases sf_inv (gD s) (2 ^ gD s 0) with ⟨g1, g2⟩ | ⟨y, g0, g1, g2⟩
    · refine ⟨fun z => absurd g1 z, fun z => ?_⟩
      rw [if_pos z] at hRt
      exact hRt
    · refine ⟨fun z => ?_, fun z => absurd (g1.symm.trans z) (nI_nm1 (by omega))⟩
      rw [if_neg z, g2] at hRt
      rw [g1]
      exact ⟨_, j_bitCount (by omega), hRt⟩
theorem VC_sn (hV : VC whn I p s) (hW : GW s) {n : Nat} (hn : n ≤ 10) : VC whn (sIn (gD s) I n) p s := VC_kn hV hW.2.1 (fun q h1 h2 => sIn_r h1 h2 _) (KN_n hV.kn _ hn)
theorem k_digestShafts (hV : VC whn I p s) (hW : GW s) (h : Int64) : Ct E l yX5_digestShafts wsX5_digestShafts rmX5_digestShafts [.ref 0, .long h] (HE E I L p) (some (.long (hS (gD s) h (gD s 0)))) (HE E (sIn (gD s) I (gD s 0)) (sLn (gD s) I L (gD s 0)) p) := by
  have hS' := hW.1.S
  have r0 : ∀ n, sIn (gD s) I n 1 0 = nI (gD s 0) := fun n => by rw [sIn_r (by decide) (by decide)]; exact hV.1.1.1
  refine Ct.mk (by decide) rfl (Nat.le_of_ble_eq_true rfl) ?_
  rintro X rfl rfl hX - hRt
  refine RX5_digestShafts_0 hX _ ?_
  refine loop_up (N := gD s 0) (Q := fun a => G X 0 0 5 [(0, .ref 0), (1, .long h), (3, .long (hS (gD s) h a)), (5, .int (nI a))] [] (HM X (sIn (gD s) I a) (sLn (gD s) I L a) p)) (fun a ha k => ?_) 0 (Nat.zero_le _) ?_
  · have hVa := VC_sn hV hW (n := a) (by omega)
    refine RX5_digestShafts_5 hX _ _ _ ⟨fun z => absurd z (by rw [r0]; exact nI_ge ha (by omega)), fun _ => ?_⟩
    refine loop_up (N := 6) (Q := fun w => G X 0 0 20 [(0, .ref 0), (1, .long h), (3, .long (hO (gD s) a (hS (gD s) h a) w)), (5, .int (nI a)), (6, .int (nI w))] [] (HM X (sIn (gD s) I a) (sLn (gD s) I L a) p)) (fun w hw k2 => ?_) 0 (Nat.zero_le _) ?_
    · refine RX5_digestShafts_20 hX _ _ _ _ ⟨fun z => absurd ((nlt (a := 5) (by decide) (by omega)).mp z) (by omega), fun _ => ⟨_, _, k_ofP hVa hW ha (by omega), ?_⟩⟩
      rw [nI_1]
      exact k2
    · refine RX5_digestShafts_20 hX _ _ _ _ ⟨fun _ => ⟨_, _, _, k_whenP hVa hW ha, ?_⟩, fun z => absurd (by decide) z⟩
      rw [nI_1]
      exact k
  · exact RX5_digestShafts_5 hX _ _ _ ⟨fun _ => hRt, fun z => absurd (by rw [r0]; exact nI_le (Nat.le_refl _) (by omega)) z⟩
theorem k_digestPipes (hV : VC whn I p s) (hW : GW s) (h : Int64) : Ct E l yX5_digestPipes wsX5_digestPipes rmX5_digestPipes [.ref 0, .long h] (HE E I L p) (some (.long (hP (gD s) h (4 * gD s 1)))) (HE E I L p) := by
  have hP' := hW.1.P
  have r3 := hV.1.1.2.1
  refine Ct.mk (by decide) rfl (Nat.le_of_ble_eq_true rfl) ?_
  rintro X rfl rfl hX - hRt
  refine RX5_digestPipes_0 hX _ ?_
  refine loop_up (N := gD s 1) (Q := fun i => G X 0 0 5 [(0, .ref 0), (1, .long h), (3, .long (hP (gD s) h (4 * i))), (5, .int (nI i))] [] (HM X I L p)) (fun i hi k => ?_) 0 (Nat.zero_le _) ?_
  · refine RX5_digestPipes_5 hX _ _ _ ⟨fun z => absurd z (by rw [r3]; exact nI_ge hi (by omega)), fun _ => ?_⟩
    refine loop_up (N := 4) (Q := fun w => G X 0 0 20 [(0, .ref 0), (1, .long h), (3, .long (hP (gD s) h (4 * i + w))), (5, .int (nI i)), (6, .int (nI w))] [] (HM X I L p)) (fun w hw k2 => ?_) 0 (Nat.zero_le _) ?_
    · refine RX5_digestPipes_20 hX _ _ _ _ ⟨fun z => absurd ((nlt (a := 3) (by decide) (by omega)).mp z) (by omega), fun _ => ⟨_, _, k_aboutP hV hW hi (show w ≤ 3 by omega), ?_⟩⟩
      rw [nI_1, show 23 + 4 * i + w = 23 + (4 * i + w) by omega]
      exact k2
    · refine RX5_digestPipes_20 hX _ _ _ _ ⟨fun _ => ?_, fun z => absurd (by decide) z⟩
      rw [nI_1, show 4 * i + 4 = 4 * (i + 1) by omega]
      exact k
  · exact RX5_digestPipes_5 hX _ _ _ ⟨fun _ => hRt, fun z => absurd (by rw [r3]; exact nI_le (Nat.le_refl _) (by omega)) z⟩
/-- rows of minutes behind b rounds -/
noncomputable def lB (D : Dr) (L : ML) : Nat → ML
  | 0 => L
  | b + 1 => wz 88 (lB D L b) (fun a => cm D a 5) (D 0)
theorem lB_r {r : Nat} (h : r ≠ 88) : ∀ b, lB D L b r = L r
  | 0 => rfl
  | b + 1 => (wz_r h).trans (lB_r h b)
theorem k_digest (hV : VC whn I p s) (hW : GW s) : KPL E l yX5_digest wsX5_digest rmX5_digest [.ref 0] whn I L p (aDigest s) := by
  have hS' := hW.1.S
  let I1 : MI := sIn (gD s) I (gD s 0)
  let L1 : ML := sLn (gD s) I L (gD s 0)
  have hV1 : VC whn I1 p s := VC_sus hV hW
  let L2 : ML := lB (gD s) L1 (gD s 0)
  let I3 : MI := sIn (gD s) I1 (gD s 0)
  let L3 : ML := sLn (gD s) I1 L2 (gD s 0)
  have hV3 : VC whn I3 p s := VC_sus hV1 hW
  let I4 : MI := sIn (gD s) I3 (gD s 0)
  let L4 : ML := sLn (gD s) I3 L3 (gD s 0)
  have hV4 : VC whn I4 p s := VC_sus hV3 hW
  let I5 : MI := co (gD s) I4 (gD s 0)
  have hV5 : VC whn I5 p s := VC_co hV4 hW
  refine ⟨I5, L4, p, Ct.mk (by decide) rfl (Nat.le_of_ble_eq_true rfl) ?_, hV5, fun r hr => ?_, fun r hr => ?_⟩
  · rintro X rfl rfl hX - hRt
    refine RX5_digest_0 hX ?_
    refine loop_up (N := 8) (Q := fun w => G X 0 0 6 [(0, .ref 0), (1, .long (hT s w)), (3, .int (nI w))] [] (HM X I L p)) (fun w hw k => ?_) 0 (Nat.zero_le _) ?_
    · refine RX5_digest_6 hX _ _ ⟨fun z => absurd ((nlt (a := 7) (by decide) (by omega)).mp z) (by omega), fun _ => ⟨_, _, k_toldP hV hW (by omega), ?_⟩⟩
      rw [nI_1]
      exact k
    · refine RX5_digest_6 hX _ _ ⟨fun _ => ⟨_, _, _, k_digestShafts hV hW _, _, _, k_digestPipes hV1 hW _, ?_⟩, fun z => absurd (by decide) z⟩
      have r0 : I1 1 0 = nI (gD s 0) := hV1.1.1.1
      refine loop_up (N := gD s 0) (Q := fun b => G X 0 0 45 [(0, .ref 0), (1, .long (hC (gD s) (hX2 s) b)), (3, .int (nI b))] [] (HM X I1 (lB (gD s) L1 b) p)) (fun b hb k => ?_) 0 (Nat.zero_le _) ?_
      · refine RX5_digest_45 hX _ _ ⟨fun z => absurd z (by rw [r0]; exact nI_ge hb (by omega)), fun _ => ?_⟩
        refine loop_up (N := gD s 0) (Q := fun a => G X 0 0 59 [(0, .ref 0), (1, .long (hA (gD s) b (hC (gD s) (hX2 s) b) a)), (3, .int (nI b)), (4, .int (nI a))] [] (HM X I1 (wz 88 (lB (gD s) L1 b) (fun a => cm (gD s) a 5) a) p)) (fun a ha k2 => ?_) 0 (Nat.zero_le _) ?_
        · refine RX5_digest_59 hX _ _ _ ⟨fun z => absurd z (by rw [r0]; exact nI_ge ha (by omega)), fun _ => ⟨_, _, _, k_comesP hV1 hW ha (m := 5) (by decide) hb, ?_⟩⟩
          rw [nI_1, wz_s (F := fun a => cm (gD s) a 5)]
          exact k2
        · refine RX5_digest_59 hX _ _ _ ⟨fun _ => ?_, fun z => absurd (by rw [r0]; exact nI_le (Nat.le_refl _) (by omega)) z⟩
          rw [nI_1]
          exact k
      · exact RX5_digest_45 hX _ _ ⟨fun _ => ⟨_, _, _, k_nextP hV1 hW (w := 0) (by decide), _, _, _, k_nextP hV3 hW (w := 1) (by decide), _, _, k_sensorsP hV4 hW (w := 0) (by decide), hRt⟩, fun z => absurd (by rw [r0]; exact nI_le (Nat.le_refl _) (by omega)) z⟩
  · show co (gD s) (sIn (gD s) (sIn (gD s) (sIn (gD s) I (gD s 0)) (gD s 0)) (gD s 0)) (gD s 0) r = I r
    rw [co_r (by omega) (by omega), sIn_r (by omega) (by omega), sIn_r (by omega) (by omega), sIn_r (by omega) (by omega)]
  · show sLn (gD s) I3 (sLn (gD s) I1 (lB (gD s) (sLn (gD s) I L (gD s 0)) (gD s 0)) (gD s 0)) (gD s 0) r = L r
    rw [sLn_r (by omega), sLn_r (by omega), lB_r (by omega), sLn_r (by omega)]
end
