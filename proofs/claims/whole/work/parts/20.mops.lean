/-! The model's orders: their contracts. -/
theorem RM.up {I : MI} {D : Dr} (h : RM I D) (j v : Nat) : RM (upI I 97 j (nI v)) (va_up D j v) := by
  intro k hk
  unfold upI va_up
  by_cases e : k = j
  · simp [e]
  · simp [e, h k hk]
section
variable {E : ET} {l : Launch} {I : MI} {L : ML} {p : Nat → Nat} {D : Dr}
theorem m_doShaft (hR : RM I D) (hW : WF D) (x1 x2 : Int32) : ∃ I', Ct E l yX6_doShaft wsX6_doShaft rmX6_doShaft [.ref 96, .int x1, .int x2] (HE E I L p) (some (.int (aShaft x1 x2 D).1)) (HE E I' L p) ∧ RM I' (aShaft x1 x2 D).2 ∧ ∀ r, r ≠ 97 → I' r = I r := by
  unfold aShaft
  have hS := hW.S
  by_cases h : btw x1 0 4 ∧ btw x2 1 15
  · rw [bif_pos h]
    by_cases h2 : D 0 = 10
    · rw [if_pos h2]
      refine ⟨I, Ct.mk (by decide) rfl (Nat.le_of_ble_eq_true rfl) ?_, hR, fun _ _ => rfl⟩
      rintro X rfl rfl hX - hRt
      refine RX6_doShaft_0 hX _ _ ⟨_, m_isKind x1, fun q => absurd h.1 (b2i_0.mp q), fun _ => ⟨_, m_btw x2 (a := 1) (b := 15) (by decide) (by decide), fun _ => ⟨fun q => absurd ?_ q, fun _ => hRt⟩, fun q => absurd h.2 (b2i_0.mp q)⟩⟩
      rw [hR 0 (by decide), h2]; rfl
    · rw [if_neg h2]
      obtain ⟨-, a2, a3⟩ := h.1.cl (by decide)
      obtain ⟨b1, b2, b3⟩ := h.2.cl (by decide)
      generalize x1.toNatClampNeg = k at a2 a3 ⊢
      generalize x2.toNatClampNeg = q at b1 b2 b3 ⊢
      refine ⟨upI (upI (upI I 97 (3 + 2 * D 0) (nI k)) 97 (4 + 2 * D 0) (nI q)) 97 0 (nI (D 0 + 1)), Ct.mk (by decide) rfl (Nat.le_of_ble_eq_true rfl) ?_, ((hR.up _ _).up _ _).up _ _, fun r hr => by rw [upI_R hr, upI_R hr, upI_R hr]⟩
      rintro X rfl rfl hX - hRt
      refine RX6_doShaft_0 hX _ _ ⟨_, m_isKind x1, fun q => absurd h.1 (b2i_0.mp q), fun _ => ⟨_, m_btw x2 (a := 1) (b := 15) (by decide) (by decide), fun _ => ⟨fun _ => ⟨3 + 2 * D 0, ?_, by omega, 4 + 2 * D 0, ?_, by omega, ?_⟩, fun q => absurd ?_ h2⟩, fun q => absurd h.2 (b2i_0.mp q)⟩⟩
      · rw [hR 0 (by decide), ix2]
      · rw [hR 0 (by decide), ix2, nI_1]; congr 1; omega
      · have e := ((hR.up (3 + 2 * D 0) k).up (4 + 2 * D 0) q) 0 (by decide)
        rw [up_n _ _ (by omega), up_n _ _ (by omega)] at e
        rw [a3, b3, e, hR 0 (by decide), nI_1]
        exact hRt
      · rw [hR 0 (by decide)] at q
        exact (nI_eq (by omega) (by decide)).mp q
  · rw [bif_neg h]
    refine ⟨I, Ct.mk (by decide) rfl (Nat.le_of_ble_eq_true rfl) ?_, hR, fun _ _ => rfl⟩
    rintro X rfl rfl hX - hRt
    refine RX6_doShaft_0 hX _ _ ⟨_, m_isKind x1, fun _ => hRt, fun q1 => ⟨_, m_btw x2 (a := 1) (b := 15) (by decide) (by decide), fun q2 => absurd ⟨b2i_n0.mp q1, b2i_n0.mp q2⟩ h, fun _ => hRt⟩⟩
theorem m_doSets (hR : RM I D) (hW : WF D) (x1 x2 x3 : Int32) : ∃ I', Ct E l yX6_doSets wsX6_doSets rmX6_doSets [.ref 96, .int x1, .int x2, .int x3] (HE E I L p) (some (.int (aSets x1 x2 x3 D).1)) (HE E I' L p) ∧ RM I' (aSets x1 x2 x3 D).2 ∧ ∀ r, r ≠ 97 → I' r = I r := by
  unfold aSets
  have hS := hW.S
  by_cases h : ok x1 (D 0) ∧ (x2 = 0 ∧ btw x3 0 4 ∨ x2 = 1 ∧ btw x3 1 15)
  · rw [bif_pos h]
    obtain ⟨a1, a2⟩ := h.1.cl (by omega)
    generalize hk : x1.toNatClampNeg = k at a1 a2 ⊢
    rcases h.2 with ⟨rfl, h3⟩ | ⟨rfl, h3⟩
    · obtain ⟨-, b2, b3⟩ := h3.cl (by decide)
      generalize x3.toNatClampNeg = q at b2 b3 ⊢
      rw [show (0 : Int32).toNatClampNeg = 0 from rfl]
      refine ⟨upI I 97 (3 + 2 * k + 0) (nI q), Ct.mk (by decide) rfl (Nat.le_of_ble_eq_true rfl) ?_, hR.up _ _, fun r hr => by rw [upI_R hr]⟩
      rintro X rfl rfl hX - hRt
      have ei : 3 + 2 * x1 + 0 = nI (3 + 2 * k + 0) := by rw [a2]; exact ix2w k 0
      refine RX6_doSets_0 hX _ _ _ ⟨fun q => absurd rfl q, fun _ => ⟨_, m_isKind x3, _, m_isShaft hR hW x1, fun q => absurd h.1 (b2i_0.mp q), fun _ => ⟨fun _ => ⟨_, ei, by omega, _, ei, by omega, ?_⟩, fun q => absurd h3 (b2i_0.mp q)⟩⟩⟩
      rw [b3]
      exact hRt.toI (hR _ (by omega)).symm
    · obtain ⟨b1, b2, b3⟩ := h3.cl (by decide)
      generalize x3.toNatClampNeg = q at b1 b2 b3 ⊢
      rw [show (1 : Int32).toNatClampNeg = 1 from rfl]
      refine ⟨upI I 97 (3 + 2 * k + 1) (nI q), Ct.mk (by decide) rfl (Nat.le_of_ble_eq_true rfl) ?_, hR.up _ _, fun r hr => by rw [upI_R hr]⟩
      rintro X rfl rfl hX - hRt
      have ei : 3 + 2 * x1 + 1 = nI (3 + 2 * k + 1) := by rw [a2]; exact ix2w k 1
      refine RX6_doSets_0 hX _ _ _ ⟨fun _ => ⟨fun q => absurd rfl q, fun _ => ⟨_, m_btw x3 (a := 1) (b := 15) (by decide) (by decide), _, m_isShaft hR hW x1, fun q => absurd h.1 (b2i_0.mp q), fun _ => ⟨fun _ => ⟨_, ei, by omega, _, ei, by omega, ?_⟩, fun q => absurd q ?_⟩⟩⟩, fun q => absurd q (by decide)⟩
      · rw [b3]
        exact hRt.toI (hR _ (by omega)).symm
      · rw [b2i_pos h3]; decide
  · rw [bif_neg h]
    refine ⟨I, Ct.mk (by decide) rfl (Nat.le_of_ble_eq_true rfl) ?_, hR, fun _ _ => rfl⟩
    rintro X rfl rfl hX - hRt
    refine RX6_doSets_0 hX _ _ _ ⟨fun q => ⟨fun q1 => ⟨_, m_isShaft hR hW x1, fun _ => hRt, fun _ => hRt⟩, fun q1 => ⟨_, m_btw x3 (a := 1) (b := 15) (by decide) (by decide), _, m_isShaft hR hW x1, fun _ => hRt, fun q2 => ⟨fun q3 => absurd ⟨b2i_n0.mp q2, Or.inr ⟨q1, ?_⟩⟩ h, fun _ => hRt⟩⟩⟩, fun q1 => ⟨_, m_isKind x3, _, m_isShaft hR hW x1, fun _ => hRt, fun q2 => ⟨fun q3 => absurd ⟨b2i_n0.mp q2, Or.inl ⟨q1, b2i_n0.mp q3⟩⟩ h, fun _ => hRt⟩⟩⟩
    by_cases hb : btw x3 1 15
    · exact hb
    · rw [b2i_neg hb] at q3
      exact absurd rfl q3
theorem m_doForget (hR : RM I D) : ∃ I', Ct E l yX6_doForget wsX6_doForget rmX6_doForget [.ref 96] (HE E I L p) (some (.int (aForget D).1)) (HE E I' L p) ∧ RM I' (aForget D).2 ∧ ∀ r, r ≠ 97 → I' r = I r := by
  refine ⟨upI I 97 2 0, Ct.mk (by decide) rfl (Nat.le_of_ble_eq_true rfl) ?_, hR.up 2 0, fun r hr => by rw [upI_R hr]⟩
  rintro X rfl rfl hX - hRt
  exact RX6_doForget_0 hX (hRt.toI (hR 2 (by decide)).symm)
theorem m_doSight (hR : RM I D) (hW : WF D) (x1 x2 x3 : Int32) : ∃ I', Ct E l yX6_doSight wsX6_doSight rmX6_doSight [.ref 96, .int x1, .int x2, .int x3] (HE E I L p) (some (.int (aSight x1 x2 x3 D).1)) (HE E I' L p) ∧ RM I' (aSight x1 x2 x3 D).2 ∧ ∀ r, r ≠ 97 → I' r = I r := by
  unfold aSight
  have hS := hW.S
  have hT := hW.T
  by_cases h : btw x1 0 1 ∧ ok x2 (D 0) ∧ btw x3 0 62
  · rw [bif_pos h]
    by_cases h2 : D 2 = 12
    · rw [if_pos h2]
      refine ⟨I, Ct.mk (by decide) rfl (Nat.le_of_ble_eq_true rfl) ?_, hR, fun _ _ => rfl⟩
      rintro X rfl rfl hX - hRt
      refine RX6_doSight_0 hX _ _ _ ⟨_, m_btw x1 (a := 0) (b := 1) (by decide) (by decide), fun q => absurd h.1 (b2i_0.mp q), fun _ => ⟨_, m_isShaft hR hW x2, fun q => absurd h.2.1 (b2i_0.mp q), fun _ => ⟨_, m_btw x3 (a := 0) (b := 62) (by decide) (by decide), fun _ => ⟨fun q => absurd ?_ q, fun _ => hRt⟩, fun q => absurd h.2.2 (b2i_0.mp q)⟩⟩⟩
      rw [hR 2 (by decide), h2]; rfl
    · rw [if_neg h2]
      obtain ⟨-, a2, a3⟩ := h.1.cl (by decide)
      obtain ⟨b1, b2⟩ := h.2.1.cl (by omega)
      obtain ⟨-, c2, c3⟩ := h.2.2.cl (by decide)
      generalize x1.toNatClampNeg = k at a2 a3 ⊢
      generalize x2.toNatClampNeg = q at b1 b2 ⊢
      generalize x3.toNatClampNeg = m at c2 c3 ⊢
      refine ⟨upI (upI (upI (upI I 97 (87 + 3 * D 2) (nI k)) 97 (88 + 3 * D 2) (nI q)) 97 (89 + 3 * D 2) (nI m)) 97 2 (nI (D 2 + 1)), Ct.mk (by decide) rfl (Nat.le_of_ble_eq_true rfl) ?_, (((hR.up _ _).up _ _).up _ _).up _ _, fun r hr => by rw [upI_R hr, upI_R hr, upI_R hr, upI_R hr]⟩
      rintro X rfl rfl hX - hRt
      refine RX6_doSight_0 hX _ _ _ ⟨_, m_btw x1 (a := 0) (b := 1) (by decide) (by decide), fun q => absurd h.1 (b2i_0.mp q), fun _ => ⟨_, m_isShaft hR hW x2, fun q => absurd h.2.1 (b2i_0.mp q), fun _ => ⟨_, m_btw x3 (a := 0) (b := 62) (by decide) (by decide), fun _ => ⟨fun _ => ⟨87 + 3 * D 2, ?_, by omega, 88 + 3 * D 2, ?_, by omega, 89 + 3 * D 2, ?_, by omega, ?_⟩, fun q => absurd ?_ h2⟩, fun q => absurd h.2.2 (b2i_0.mp q)⟩⟩⟩
      · rw [hR 2 (by decide), ix3]
      · rw [hR 2 (by decide), ix3, nI_1]; congr 1; omega
      · rw [hR 2 (by decide), ix3, show (2 : Int32) = nI 2 from rfl, nI_add]; congr 1; omega
      · have e := (((hR.up (87 + 3 * D 2) k).up (88 + 3 * D 2) q).up (89 + 3 * D 2) m) 2 (by decide)
        rw [up_n _ _ (by omega), up_n _ _ (by omega), up_n _ _ (by omega)] at e
        rw [a3, b2, c3, e, nI_1, upI_s]
        exact hRt
      · rw [hR 2 (by decide)] at q
        exact (nI_eq (by omega) (by decide)).mp q
  · rw [bif_neg h]
    refine ⟨I, Ct.mk (by decide) rfl (Nat.le_of_ble_eq_true rfl) ?_, hR, fun _ _ => rfl⟩
    rintro X rfl rfl hX - hRt
    refine RX6_doSight_0 hX _ _ _ ⟨_, m_btw x1 (a := 0) (b := 1) (by decide) (by decide), fun _ => hRt, fun q1 => ⟨_, m_isShaft hR hW x2, fun _ => hRt, fun q2 => ⟨_, m_btw x3 (a := 0) (b := 62) (by decide) (by decide), fun q3 => absurd ⟨b2i_n0.mp q1, b2i_n0.mp q2, b2i_n0.mp q3⟩ h, fun _ => hRt⟩⟩⟩
theorem m_doPipe (hR : RM I D) (hW : WF D) (x1 x2 x3 x4 : Int32) : ∃ I', Ct E l yX6_doPipe wsX6_doPipe rmX6_doPipe [.ref 96, .int x1, .int x2, .int x3, .int x4] (HE E I L p) (some (.int (aPipe x1 x2 x3 x4 D).1)) (HE E I' L p) ∧ RM I' (aPipe x1 x2 x3 x4 D).2 ∧ ∀ r, r ≠ 97 → I' r = I r := by
  unfold aPipe
  have hS := hW.S
  have hP := hW.P
  by_cases h : ok x1 (D 0) ∧ ok x2 (D 0) ∧ ¬ x1 = x2 ∧ btw x3 0 9 ∧ x3 ≤ x4 ∧ x4 ≤ 9
  · rw [bif_pos h]
    obtain ⟨k1, k2, k3, k4, k5, k6⟩ := h
    obtain ⟨a1, a2⟩ := k1.cl (by omega)
    obtain ⟨b1, b2⟩ := k2.cl (by omega)
    obtain ⟨-, c2, c3⟩ := k4.cl (by decide)
    have hb4 : btw x4 x3.toNatClampNeg 9 := (inN (by omega) (by decide)).mp ⟨by rw [← c3]; exact k5, k6⟩
    obtain ⟨d1, d2, d3⟩ := hb4.cl (by decide)
    generalize x1.toNatClampNeg = a at a1 a2 ⊢
    generalize x2.toNatClampNeg = b at b1 b2 ⊢
    generalize x3.toNatClampNeg = x at c2 c3 d1 ⊢
    generalize x4.toNatClampNeg = y at d1 d2 d3 ⊢
    have hbl := bl_lt D b
    have hbit : (bl D b).testBit a = true ↔ Rc D b a := by rw [bl_bit]; exact ⟨fun q => q.2, fun q => ⟨by omega, q⟩⟩
    by_cases h2 : Rc D b a
    · rw [bif_pos h2]
      refine ⟨I, Ct.mk (by decide) rfl (Nat.le_of_ble_eq_true rfl) ?_, hR, fun _ _ => rfl⟩
      rintro X rfl rfl hX - hRt
      refine RX6_doPipe_0 hX _ _ _ _ ⟨_, m_isShaft hR hW x1, fun q => absurd k1 (b2i_0.mp q), fun _ => ⟨_, m_isShaft hR hW x2, fun q => absurd k2 (b2i_0.mp q), fun _ => ⟨fun q => absurd q k3, fun _ => ⟨_, m_btw x3 (a := 0) (b := 9) (by decide) (by decide), fun q => absurd k4 (b2i_0.mp q), fun _ => ⟨_, m_inP x4 (a := x3) (b := 9) (Q := True) ⟨fun _ => trivial, fun _ => ⟨k5, k6⟩⟩, fun _ => ⟨nI (bl D b), ?_, b2i (Rc D b a), ?_, fun q => absurd q ?_, fun _ => hRt⟩, fun q => absurd trivial (b2i_0.mp q)⟩⟩⟩⟩⟩
      · rw [b2]; exact m_below hR hW b1
      · rw [a2, ← b2i_if hbit]
        exact m_has (by omega) (by omega)
      · exact b2i_n0.mpr h2
    · rw [bif_neg h2]
      by_cases h3 : D 1 = 16
      · rw [if_pos h3]
        refine ⟨I, Ct.mk (by decide) rfl (Nat.le_of_ble_eq_true rfl) ?_, hR, fun _ _ => rfl⟩
        rintro X rfl rfl hX - hRt
        refine RX6_doPipe_0 hX _ _ _ _ ⟨_, m_isShaft hR hW x1, fun q => absurd k1 (b2i_0.mp q), fun _ => ⟨_, m_isShaft hR hW x2, fun q => absurd k2 (b2i_0.mp q), fun _ => ⟨fun q => absurd q k3, fun _ => ⟨_, m_btw x3 (a := 0) (b := 9) (by decide) (by decide), fun q => absurd k4 (b2i_0.mp q), fun _ => ⟨_, m_inP x4 (a := x3) (b := 9) (Q := True) ⟨fun _ => trivial, fun _ => ⟨k5, k6⟩⟩, fun _ => ⟨nI (bl D b), ?_, b2i (Rc D b a), ?_, fun _ => ⟨fun q => absurd ?_ q, fun _ => hRt⟩, fun q => absurd (b2i_n0.mp q) h2⟩, fun q => absurd trivial (b2i_0.mp q)⟩⟩⟩⟩⟩
        · rw [b2]; exact m_below hR hW b1
        · rw [a2, ← b2i_if hbit]
          exact m_has (by omega) (by omega)
        · rw [hR 1 (by decide), h3]; rfl
      · rw [if_neg h3]
        refine ⟨upI (upI (upI (upI (upI I 97 (23 + 4 * D 1) (nI a)) 97 (24 + 4 * D 1) (nI b)) 97 (25 + 4 * D 1) (nI x)) 97 (26 + 4 * D 1) (nI y)) 97 1 (nI (D 1 + 1)), Ct.mk (by decide) rfl (Nat.le_of_ble_eq_true rfl) ?_, ((((hR.up _ _).up _ _).up _ _).up _ _).up _ _, fun r hr => by rw [upI_R hr, upI_R hr, upI_R hr, upI_R hr, upI_R hr]⟩
        rintro X rfl rfl hX - hRt
        refine RX6_doPipe_0 hX _ _ _ _ ⟨_, m_isShaft hR hW x1, fun q => absurd k1 (b2i_0.mp q), fun _ => ⟨_, m_isShaft hR hW x2, fun q => absurd k2 (b2i_0.mp q), fun _ => ⟨fun q => absurd q k3, fun _ => ⟨_, m_btw x3 (a := 0) (b := 9) (by decide) (by decide), fun q => absurd k4 (b2i_0.mp q), fun _ => ⟨_, m_inP x4 (a := x3) (b := 9) (Q := True) ⟨fun _ => trivial, fun _ => ⟨k5, k6⟩⟩, fun _ => ⟨nI (bl D b), ?_, b2i (Rc D b a), ?_, fun _ => ⟨fun _ => ⟨23 + 4 * D 1, ?_, by omega, 24 + 4 * D 1, ?_, by omega, 25 + 4 * D 1, ?_, by omega, 26 + 4 * D 1, ?_, by omega, ?_⟩, fun q => absurd ?_ h3⟩, fun q => absurd (b2i_n0.mp q) h2⟩, fun q => absurd trivial (b2i_0.mp q)⟩⟩⟩⟩⟩
        · rw [b2]; exact m_below hR hW b1
        · rw [a2, ← b2i_if hbit]
          exact m_has (by omega) (by omega)
        · rw [hR 1 (by decide), ix4]
        · rw [hR 1 (by decide), ix4, nI_1]; congr 1; omega
        · rw [hR 1 (by decide), ix4, show (2 : Int32) = nI 2 from rfl, nI_add]; congr 1; omega
        · rw [hR 1 (by decide), ix4, show (3 : Int32) = nI 3 from rfl, nI_add]; congr 1; omega
        · have e := ((((hR.up (23 + 4 * D 1) a).up (24 + 4 * D 1) b).up (25 + 4 * D 1) x).up (26 + 4 * D 1) y) 1 (by decide)
          rw [up_n _ _ (by omega), up_n _ _ (by omega), up_n _ _ (by omega), up_n _ _ (by omega)] at e
          rw [a2, b2, c3, d3, e, nI_1, upI_s, nI_pred]
          exact hRt
        · rw [hR 1 (by decide)] at q
          exact (nI_eq (by omega) (by decide)).mp q
  · rw [bif_neg h]
    refine ⟨I, Ct.mk (by decide) rfl (Nat.le_of_ble_eq_true rfl) ?_, hR, fun _ _ => rfl⟩
    rintro X rfl rfl hX - hRt
    refine RX6_doPipe_0 hX _ _ _ _ ⟨_, m_isShaft hR hW x1, fun _ => hRt, fun q1 => ⟨_, m_isShaft hR hW x2, fun _ => hRt, fun q2 => ⟨fun _ => hRt, fun q3 => ⟨_, m_btw x3 (a := 0) (b := 9) (by decide) (by decide), fun _ => hRt, fun q4 => ⟨_, m_inP x4 (a := x3) (b := 9) (Q := x3 ≤ x4 ∧ x4 ≤ 9) Iff.rfl, fun q5 => absurd ⟨b2i_n0.mp q1, b2i_n0.mp q2, q3, b2i_n0.mp q4, b2i_n0.mp q5⟩ h, fun _ => hRt⟩⟩⟩⟩⟩
theorem m_doDrops (hR : RM I D) (hW : WF D) (x1 : Int32) : ∃ I', Ct E l yX6_doDrops wsX6_doDrops rmX6_doDrops [.ref 96, .int x1] (HE E I L p) (some (.int (aDrop x1 D).1)) (HE E I' L p) ∧ RM I' (aDrop x1 D).2 ∧ ∀ r, r ≠ 97 → I' r = I r := by
  unfold aDrop
  have hP := hW.P
  by_cases h : ok x1 (D 1)
  · rw [bif_pos h]
    obtain ⟨a1, a2⟩ := h.cl (by omega)
    generalize x1.toNatClampNeg = i at a1 a2 ⊢
    obtain ⟨P, hPe⟩ : ∃ P, D 1 = P + 1 := ⟨D 1 - 1, by omega⟩
    -- behind k steps of the loop
    let J : Nat → MI := fun k => fun r j => if r = 97 then (if j = 1 then nI P else if 23 + 4 * i ≤ j ∧ j < 23 + 4 * i + k then I 97 (j + 4) else I 97 j) else I r j
    have hJ0 : ∀ k, J k 97 1 = nI P := fun k => by simp [J]
    have hJs : ∀ k, k < 4 * (P - i) → upI (J k) 97 (23 + 4 * i + k) (J k 97 (23 + 4 * i + k + 4)) = J (k + 1) := by
      intro k hk
      funext r j
      unfold upI
      by_cases c : r = 97
      · subst c
        by_cases d : j = 23 + 4 * i + k
        · subst d
          simp only [J, if_true, and_self]
          rw [if_neg (by omega), if_neg (by omega), if_neg (by omega), if_pos (by omega)]
        · rw [if_neg (by simp [d])]
          simp only [J, if_true]
          by_cases f : j = 1
          · simp [f]
          · rw [if_neg f, if_neg f]
            by_cases g : 23 + 4 * i ≤ j ∧ j < 23 + 4 * i + k
            · rw [if_pos g, if_pos (by omega)]
            · rw [if_neg g, if_neg (by omega)]
      · simp [J, c]
    refine ⟨J (4 * (P - i)), Ct.mk (by decide) rfl (Nat.le_of_ble_eq_true rfl) ?_, ?_, fun r hr => by funext j; simp [J, hr]⟩
    · rintro X rfl rfl hX - hRt
      refine RX6_doDrops_0 hX _ ⟨_, m_isPipe hR hW x1, fun _ => ?_, fun q => absurd h (b2i_0.mp q)⟩
      have e0 : upI I 97 1 (I 97 1 - 1) = J 0 := by
        funext r j
        unfold upI
        by_cases c : r = 97
        · subst c
          by_cases d : j = 1
          · subst d
            simp only [J, if_true, and_self]
            rw [hR 1 (by decide), hPe, nI_pred]
          · simp only [J, if_true, d, and_false, if_false]
            rw [if_neg (by omega)]
        · simp [J, c]
      rw [e0, a2, ix4]
      refine loop_up (N := 4 * (P - i)) (Q := fun k => G X 0 0 28 [(0, .ref 96), (1, .int (nI i)), (2, .int (nI (23 + 4 * i + k)))] [] (HM X (J k) L p)) (fun k hk kk => ?_) 0 (Nat.zero_le _) ?_
      · refine RX6_doDrops_28 hX _ _ ⟨fun q => absurd q ?_, fun _ => ⟨23 + 4 * i + k + 4, ?_, by omega, 23 + 4 * i + k, rfl, by omega, ?_⟩⟩
        · rw [hJ0, ix4]
          exact nI_ge (by omega) (by omega)
        · rw [show (4 : Int32) = nI 4 from rfl, nI_add]
        · rw [nI_1, hJs k hk]
          exact kk
      · refine RX6_doDrops_28 hX _ _ ⟨fun _ => ?_, fun q => absurd ?_ q⟩
        · rw [hJ0]
          exact hRt.toI (by show nI (D 1 - 1) = nI P; congr 1; omega)
        · rw [hJ0, ix4]
          exact nI_le (by omega) (by omega)
    · intro k hk
      simp only [J, if_true]
      unfold dropD
      by_cases c : k = 1
      · simp [c, hPe]
      · rw [if_neg c, if_neg c]
        by_cases d : 23 + 4 * i ≤ k ∧ k < 23 + 4 * (D 1 - 1)
        · rw [if_pos d, if_pos (by omega)]
          exact hR _ (by omega)
        · rw [if_neg d, if_neg (by omega)]
          exact hR _ hk
  · rw [bif_neg h]
    refine ⟨I, Ct.mk (by decide) rfl (Nat.le_of_ble_eq_true rfl) ?_, hR, fun _ _ => rfl⟩
    rintro X rfl rfl hX - hRt
    exact RX6_doDrops_0 hX _ ⟨_, m_isPipe hR hW x1, fun q => absurd (b2i_n0.mp q) h, fun _ => hRt⟩
end
