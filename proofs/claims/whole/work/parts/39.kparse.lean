/-! The class takes the text apart. -/
def KA (I : MI) (q : Pa) : Prop := I 92 2 = nI (qc q) ∧ I 92 3 = nI (qo q) ∧ (qo q = 1 → I 92 4 = nI (qb q) ∧ I 92 5 = nI (qg q)) ∧ (∀ j, j < qc q ∨ (qo q = 1 ∧ j = qc q) → I 93 j = nI (ql q j)) ∧ NR 94 I q
def FR (I' I : MI) : Prop := ∀ r, r ≠ 92 → r ≠ 93 → r ≠ 94 → I' r = I r
theorem FR.refl (I : MI) : FR I I := fun _ _ _ _ => rfl
theorem FR.up {I' I : MI} (h : FR I' I) {r k : Nat} {v : Int32} (hr : r = 92 ∨ r = 93 ∨ r = 94) : FR (upI I' r k v) I := fun q a b c => by rw [upI_R (by omega)]; exact h q a b c
theorem ix4c (a b : Nat) : nI a * 4 + nI b = nI (4 * a + b) := by
  rw [show (4 : Int32) = nI 4 from rfl, pk_mul, nI_add, Nat.mul_comm]
section
variable {E : ET} {l : Launch} {I : MI} {L : ML} {p : Nat → Nat} {D : Dr} {s : Sg} {q : Pa}
theorem k_numbersOf {c : Nat} (hc : c < 2 ^ 31) : Ct E l yX2_numbersOf wsX2_numbersOf rmX2_numbersOf [.int (nI c)] (HE E I L p) (some (.int (nI (nof c)))) (HE E I L p) := by
  have e : ∀ j, j < 128 → (nI c = nI j ↔ c = j) := fun j hj => nI_eq hc (by omega)
  have e1 : nI c = 99 ↔ c = 99 := e 99 (by decide)
  have e2 : nI c = 101 ↔ c = 101 := e 101 (by decide)
  have e3 : nI c = 112 ↔ c = 112 := e 112 (by decide)
  have e4 : nI c = 115 ↔ c = 115 := e 115 (by decide)
  have e5 : nI c = 120 ↔ c = 120 := e 120 (by decide)
  refine Ct.mk (by decide) rfl (Nat.le_of_ble_eq_true rfl) ?_
  rintro X rfl rfl hX - hRt
  refine RX2_numbersOf_0 hX _ ⟨fun z => ?_, fun z => ?_, fun z => ?_, fun z => ?_, fun z => ?_, fun z => ?_⟩
  · rw [e1] at z; subst z; exact hRt
  · rw [e2] at z; subst z; exact hRt
  · rw [e3] at z; subst z; exact hRt
  · rw [e4] at z; subst z; exact hRt
  · rw [e5] at z; subst z; exact hRt
  · rw [e1, e2, e3, e4, e5] at z
    have : nof c = 0 := by unfold nof; rw [if_neg (by omega), if_neg (by omega), if_neg (by omega)]
    rw [this] at hRt
    exact hRt
theorem k_opens0 {c : Nat} (hc : c < 128) (hn : nof c = 0) : Ct E l yX2_opens wsX2_opens rmX2_opens [.ref 92, .int (nI c)] (HE E I L p) (some (.int 0)) (HE E I L p) := by
  refine Ct.mk (by decide) rfl (Nat.le_of_ble_eq_true rfl) ?_
  rintro X rfl rfl hX - hRt
  exact RX2_opens_0 hX _ ⟨_, k_numbersOf (by omega), fun _ => hRt, fun z => absurd (by rw [hn]; rfl) z⟩
theorem k_opens1 {c m : Nat} (hc : c < 128) (hn : nof c ≠ 0) (h2 : I 92 2 = nI m) (hm : m < 40) : Ct E l yX2_opens wsX2_opens rmX2_opens [.ref 92, .int (nI c)] (HE E I L p) (some (.int 1)) (HE E (upI (upI (upI (upI I 93 m (nI c)) 92 3 1) 92 4 0) 92 5 0) L p) := by
  have hle := nof_le c
  refine Ct.mk (by decide) rfl (Nat.le_of_ble_eq_true rfl) ?_
  rintro X rfl rfl hX - hRt
  exact RX2_opens_0 hX _ ⟨_, k_numbersOf (by omega), fun z => absurd z (nI_ne0 (by omega) (by omega)), fun _ => ⟨fun _ => ⟨m, h2, hm, hRt⟩, fun z => absurd (by rw [h2]; exact (nlt (b := 40) (by omega) (by decide)).mpr hm) z⟩⟩
theorem k_closes0 (hA : KA I q) (hc : qc q < 40) (ho : qo q = 1) (hl : ql q (qc q) < 2 ^ 31) (hb : qb q < qw q) : Ct E l yX2_closes wsX2_closes rmX2_closes [.ref 92] (HE E I L p) (some (.int 0)) (HE E I L p) := by
  have hw := nof_le (ql q (qc q))
  have hwe : qw q = nof (ql q (qc q)) := rfl
  refine Ct.mk (by decide) rfl (Nat.le_of_ble_eq_true rfl) ?_
  rintro X rfl rfl hX - hRt
  refine RX2_closes_0 hX ⟨qc q, hA.1, hc, _, by rw [hA.2.2.2.1 _ (Or.inr ⟨ho, rfl⟩)]; exact k_numbersOf hl, fun z => absurd z ?_, fun _ => hRt⟩
  rw [(hA.2.2.1 ho).1]
  exact fun z => absurd ((nle (by omega) (by omega)).mp z) (by omega)
theorem k_closes1 (hA : KA I q) (hc : qc q < 40) (ho : qo q = 1) (hl : ql q (qc q) < 2 ^ 31) (hb4 : qb q ≤ 4) (hb : ¬ qb q < qw q) : Ct E l yX2_closes wsX2_closes rmX2_closes [.ref 92] (HE E I L p) (some (.int 1)) (HE E (upI (upI I 92 3 0) 92 2 (nI (qc q + 1))) L p) := by
  have hw := nof_le (ql q (qc q))
  have hwe : qw q = nof (ql q (qc q)) := rfl
  refine Ct.mk (by decide) rfl (Nat.le_of_ble_eq_true rfl) ?_
  rintro X rfl rfl hX - hRt
  refine RX2_closes_0 hX ⟨qc q, hA.1, hc, _, by rw [hA.2.2.2.1 _ (Or.inr ⟨ho, rfl⟩)]; exact k_numbersOf hl, fun _ => ?_, fun z => absurd ?_ z⟩
  · rw [upI_k (show (2 : Nat) ≠ 3 by decide), hA.1, nI_1]
    exact hRt
  · rw [(hA.2.2.1 ho).1]
    exact (nle (by omega) (by omega)).mpr (by omega)
/-- one byte is taken, or is the fault -/
theorem k_takes {i c : Nat} (hA : KA I q) (hV : AV i q) (hi : i < 120) (hc : c < 128) (hql : ∀ j, j ≤ qc q → ql q j < 2 ^ 31) : (tk c q = none → Ct E l yX2_takes wsX2_takes rmX2_takes [.ref 92, .int (nI c)] (HE E I L p) (some (.int 0)) (HE E I L p)) ∧ ∀ q', tk c q = some q' → ∃ I', Ct E l yX2_takes wsX2_takes rmX2_takes [.ref 92, .int (nI c)] (HE E I L p) (some (.int 1)) (HE E I' L p) ∧ KA I' q' ∧ FR I' I := by
  obtain ⟨v1, v2, v3, v4, v5⟩ := hV
  obtain ⟨a1, a2, a3, a4, a5⟩ := id hA
  have hcnt : qc q < 40 := by omega
  have e : ∀ j, j < 128 → (nI c = nI j ↔ c = j) := fun j hj => nI_eq (by omega) (by omega)
  have e32 : nI c = 32 ↔ c = 32 := e 32 (by decide)
  have e59 : nI c = 59 ↔ c = 59 := e 59 (by decide)
  by_cases c32 : c = 32
  · subst c32
    rw [tk_32]
    refine ⟨fun h => absurd h (by simp), fun q' h => ?_⟩
    cases h
    refine ⟨upI I 92 5 0, Ct.mk (by decide) rfl (Nat.le_of_ble_eq_true rfl) ?_, ⟨?_, ?_, fun ho => ⟨?_, upI_s _ _ _ _⟩, fun j hj => ?_, fun j k hjk => ?_⟩, (FR.refl I).up (by omega)⟩
    · rintro X rfl rfl hX - hRt
      exact RX2_takes_0 hX _ ⟨fun z => absurd rfl z, fun _ => hRt⟩
    · rw [upI_k (by decide)]; exact a1
    · rw [upI_k (by decide)]; exact a2
    · rw [upI_k (by decide)]; exact (a3 ho).1
    · rw [upI_r (by decide)]; exact a4 j hj
    · rw [upI_r (by decide)]; exact a5 j k hjk
  · have n32 : ¬ nI c = 32 := fun z => c32 (e32.mp z)
    rcases v1 with ho | ho
    · have c3 : I 92 3 = 0 := by rw [a2, ho]; rfl
      by_cases hn : nof c = 0
      · rw [tk_o0 c32 ho hn]
        refine ⟨fun _ => Ct.mk (by decide) rfl (Nat.le_of_ble_eq_true rfl) ?_, fun q' h => absurd h (by simp)⟩
        rintro X rfl rfl hX - hRt
        exact RX2_takes_0 hX _ ⟨fun _ => ⟨fun z => absurd c3 z, fun _ => ⟨_, _, k_opens0 hc hn, Or.inl rfl, hRt⟩⟩, fun z => absurd z n32⟩
      · rw [tk_o c32 ho hn]
        refine ⟨fun h => absurd h (by simp), fun q' h => ?_⟩
        cases h
        refine ⟨_, Ct.mk (by decide) rfl (Nat.le_of_ble_eq_true rfl) ?_, ?_, ((((FR.refl I).up (r := 93) (k := qc q) (v := nI c) (by omega)).up (r := 92) (k := 3) (v := 1) (by omega)).up (r := 92) (k := 4) (v := 0) (by omega)).up (r := 92) (k := 5) (v := 0) (by omega)⟩
        · rintro X rfl rfl hX - hRt
          exact RX2_takes_0 hX _ ⟨fun _ => ⟨fun z => absurd c3 z, fun _ => ⟨_, _, k_opens1 hc hn a1 hcnt, Or.inr rfl, hRt⟩⟩, fun z => absurd z n32⟩
        · refine ⟨?_, ?_, fun _ => ⟨?_, upI_s _ _ _ _⟩, fun j hj => ?_, fun j k hjk => ?_⟩
          · rw [upI_k (by decide), upI_k (by decide), upI_k (by decide), upI_r (by decide)]; exact a1
          · rw [upI_k (by decide), upI_k (by decide), upI_s]; rfl
          · rw [upI_k (by decide), upI_s]; rfl
          · rw [upI_r (by decide), upI_r (by decide), upI_r (by decide)]
            show _ = nI (va_up (ql q) (qc q) c j)
            have hj' : j < qc q ∨ (1 : Nat) = 1 ∧ j = qc q := hj
            by_cases z : j = qc q
            · rw [z, upI_s, up_s]
            · rw [upI_k z, up_n _ _ z]; exact a4 j (Or.inl (by omega))
          · rw [upI_r (by decide), upI_r (by decide), upI_r (by decide), upI_r (by decide)]
            have hjk' : (j < qc q ∧ k < nof (va_up (ql q) (qc q) c j)) ∨ ((1 : Nat) = 1 ∧ j = qc q ∧ k < 0) := hjk
            have hj : j < qc q := by omega
            rw [up_n _ _ (by omega)] at hjk'
            exact a5 j k (Or.inl (by omega))
    · have c3 : ¬ I 92 3 = 0 := by rw [a2, ho]; decide
      obtain ⟨g1, g2, g3⟩ := v3 ho
      obtain ⟨b4, b5⟩ := a3 ho
      have hw := nof_le (ql q (qc q))
      have hwe : qw q = nof (ql q (qc q)) := rfl
      have hqb4 : qb q ≤ 4 := Nat.le_trans g2 hw
      by_cases c59 : c = 59
      · subst c59
        by_cases hn : qb q < qw q
        · rw [tk_e0 ho hn]
          refine ⟨fun _ => Ct.mk (by decide) rfl (Nat.le_of_ble_eq_true rfl) ?_, fun q' h => absurd h (by simp)⟩
          rintro X rfl rfl hX - hRt
          exact RX2_takes_0 hX _ ⟨fun _ => ⟨fun _ => ⟨fun z => absurd rfl z, fun _ => ⟨_, _, k_closes0 hA hcnt ho (hql _ (Nat.le_refl _)) hn, Or.inl rfl, hRt⟩⟩, fun z => absurd z c3⟩, fun z => absurd z n32⟩
        · rw [tk_e ho hn]
          refine ⟨fun h => absurd h (by simp), fun q' h => ?_⟩
          cases h
          refine ⟨_, Ct.mk (by decide) rfl (Nat.le_of_ble_eq_true rfl) ?_, ?_, ((FR.refl I).up (r := 92) (k := 3) (v := 0) (by omega)).up (r := 92) (k := 2) (v := nI (qc q + 1)) (by omega)⟩
          · rintro X rfl rfl hX - hRt
            exact RX2_takes_0 hX _ ⟨fun _ => ⟨fun _ => ⟨fun z => absurd rfl z, fun _ => ⟨_, _, k_closes1 hA hcnt ho (hql _ (Nat.le_refl _)) hqb4 hn, Or.inr rfl, hRt⟩⟩, fun z => absurd z c3⟩, fun z => absurd z n32⟩
          · refine ⟨upI_s _ _ _ _, ?_, fun z => absurd (show (0 : Nat) = 1 from z) (by decide), fun j hj => ?_, fun j k hjk => ?_⟩
            · rw [upI_k (by decide), upI_s]; rfl
            · rw [upI_r (by decide), upI_r (by decide)]
              have hj' : j < qc q + 1 ∨ (0 : Nat) = 1 ∧ j = qc q + 1 := hj
              exact a4 j (by omega)
            · rw [upI_r (by decide), upI_r (by decide)]
              have hjk' : (j < qc q + 1 ∧ k < nof (ql q j)) ∨ ((0 : Nat) = 1 ∧ j = qc q + 1 ∧ k < qb q) := hjk
              by_cases z : j = qc q
              · refine a5 j k (Or.inr ⟨ho, z, ?_⟩)
                rw [z] at hjk'
                have : k < qw q := by omega
                omega
              · exact a5 j k (Or.inl (by omega))
      · have n59 : ¬ nI c = 59 := fun z => c59 (e59.mp z)
        by_cases cd : 48 ≤ c ∧ c ≤ 57
        · have hbt : btw (nI c) 48 57 := ⟨c, rfl, cd.1, cd.2⟩
          have ec : nI c - 48 = nI (c - 48) := nI_sub (b := 48) cd.1
          -- the answer of takes, out of that of takesFigure
          have lift : ∀ (r : Int32) (I' : MI), (r = 0 ∨ r = 1) → Ct E l yX2_takesFigure wsX2_takesFigure rmX2_takesFigure [.ref 92, .int (nI (c - 48))] (HE E I L p) (some (.int r)) (HE E I' L p) → Ct E l yX2_takes wsX2_takes rmX2_takes [.ref 92, .int (nI c)] (HE E I L p) (some (.int r)) (HE E I' L p) := by
            intro r I' hr hC
            refine Ct.mk (by decide) rfl (Nat.le_of_ble_eq_true rfl) ?_
            rintro X rfl rfl hX - hRt
            refine RX2_takes_0 hX _ ⟨fun _ => ⟨fun _ => ⟨fun _ => ⟨_, k_btw _ (a := 48) (b := 57) (by decide) (by decide), fun z => absurd hbt (b2i_0.mp z), fun _ => ⟨r, I', by rw [ec]; exact hC, hRt.toI ?_⟩⟩, fun z => absurd z n59⟩, fun z => absurd z c3⟩, fun z => absurd z n32⟩
            rcases hr with z | z
            · rw [z]; rfl
            · rw [z]; rfl
          have gq : ∀ j, j < 4 → (I 92 5 = nI j ↔ qg q = j) := fun j hj => by rw [b5]; exact nI_eq (by omega) (by omega)
          have g0 : I 92 5 = 0 ↔ qg q = 0 := gq 0 (by decide)
          have lt2 : I 92 5 < 2 ↔ qg q < 2 := by rw [b5]; exact nlt (b := 2) (by omega) (by decide)
          have ix : I 92 2 * 4 + I 92 4 = nI (4 * qc q + qb q) := by rw [a1, b4, ix4c]
          have ql' : I 93 (qc q) = nI (ql q (qc q)) := a4 _ (Or.inr ⟨ho, rfl⟩)
          by_cases hg : qg q = 0
          · by_cases hn : qb q < qw q
            · rw [tk_f1 ho cd.1 cd.2 hg hn]
              refine ⟨fun h => absurd h (by simp), fun q' h => ?_⟩
              cases h
              have hb3 : qb q < 4 := by omega
              refine ⟨upI (upI (upI (upI I 94 (4 * qc q + qb q) 0) 92 4 (nI (qb q + 1))) 94 (4 * qc q + qb q) (nI (c - 48))) 92 5 1, lift 1 _ (Or.inr rfl) (Ct.mk (by decide) rfl (Nat.le_of_ble_eq_true rfl) ?_), ?_, ((((FR.refl I).up (by omega)).up (by omega)).up (by omega)).up (by omega)⟩
              · rintro X rfl rfl hX - hRt
                have u4 : upI I 94 (4 * qc q + qb q) 0 92 4 + 1 = nI (qb q + 1) := by rw [upI_r (by decide), b4, nI_1]
                have ix2 : (upI (upI I 94 (4 * qc q + qb q) 0) 92 4 (nI (qb q + 1)) 92 2 * 4 + upI (upI I 94 (4 * qc q + qb q) 0) 92 4 (nI (qb q + 1)) 92 4) - 1 = nI (4 * qc q + qb q) := by
                  rw [upI_k (show (2 : Nat) ≠ 4 by decide), upI_s, upI_r (by decide), a1, ix4c, ← Nat.add_assoc, nI_pred]
                refine RX2_takesFigure_0 hX _ ⟨fun _ => ⟨fun z => absurd (g0.mpr hg) z, fun _ => ⟨qc q, a1, hcnt, _, by rw [ql']; exact k_numbersOf (hql _ (Nat.le_refl _)), fun _ => ⟨4 * qc q + qb q, ix, by omega, 4 * qc q + qb q, by rw [u4]; exact ix2, by omega, 4 * qc q + qb q, by rw [u4]; exact ix2, by omega, ?_⟩, fun z => absurd (by rw [b4]; exact (nlt (by omega) (by omega)).mpr hn) z⟩⟩, fun z => absurd (lt2.mpr (by omega)) z⟩
                have v1 : (10 : Int32) * upI (upI I 94 (4 * qc q + qb q) 0) 92 4 (nI (qb q + 1)) 94 (4 * qc q + qb q) + nI (c - 48) = nI (c - 48) := by
                  rw [upI_r (by decide), upI_s]; simp
                have v2 : upI (upI (upI I 94 (4 * qc q + qb q) 0) 92 4 (nI (qb q + 1))) 94 (4 * qc q + qb q) (nI (c - 48)) 92 5 + 1 = 1 := by
                  rw [upI_r (by decide), upI_k (by decide), upI_r (by decide), g0.mpr hg]; rfl
                rw [u4, v1, v2]
                exact hRt
              · refine ⟨?_, ?_, fun _ => ⟨?_, upI_s _ _ _ _⟩, fun j hj => ?_, fun j k hjk => ?_⟩
                · rw [upI_k (by decide), upI_r (by decide), upI_k (by decide), upI_r (by decide)]; exact a1
                · rw [upI_k (by decide), upI_r (by decide), upI_k (by decide), upI_r (by decide), a2, ho]
                · rw [upI_k (by decide), upI_r (by decide), upI_s]
                · rw [upI_r (by decide), upI_r (by decide), upI_r (by decide), upI_r (by decide)]
                  have hj' : j < qc q ∨ (1 : Nat) = 1 ∧ j = qc q := hj
                  exact a4 j (by omega)
                · rw [upI_r (by decide)]
                  show _ = nI (va_up (qn q) (4 * qc q + qb q) (c - 48) (4 * j + k))
                  have hjk' : (j < qc q ∧ k < nof (ql q j)) ∨ ((1 : Nat) = 1 ∧ j = qc q ∧ k < qb q + 1) := hjk
                  have := nof_le (ql q j)
                  by_cases z : 4 * j + k = 4 * qc q + qb q
                  · rw [z, upI_s, up_s]
                  · rw [upI_k z, up_n _ _ z, upI_r (by decide), upI_k z]
                    exact a5 j k (by omega)
            · rw [tk_f0 ho cd.1 cd.2 hg hn]
              refine ⟨fun _ => lift 0 _ (Or.inl rfl) (Ct.mk (by decide) rfl (Nat.le_of_ble_eq_true rfl) ?_), fun q' h => absurd h (by simp)⟩
              rintro X rfl rfl hX - hRt
              refine RX2_takesFigure_0 hX _ ⟨fun _ => ⟨fun z => absurd (g0.mpr hg) z, fun _ => ⟨qc q, a1, hcnt, _, by rw [ql']; exact k_numbersOf (hql _ (Nat.le_refl _)), fun z => absurd z ?_, fun _ => hRt⟩⟩, fun z => absurd (lt2.mpr (by omega)) z⟩
              rw [b4]
              exact fun z => hn ((nlt (by omega) (by omega)).mp z)
          · by_cases hg1 : qg q = 1
            · rw [tk_f2 ho cd.1 cd.2 hg1]
              refine ⟨fun h => absurd h (by simp), fun q' h => ?_⟩
              cases h
              have hb1 := g3 (by omega)
              have ixp : I 92 2 * 4 + I 92 4 - 1 = nI (4 * qc q + qb q - 1) := by
                obtain ⟨n, hn⟩ : ∃ n, 4 * qc q + qb q = n + 1 := ⟨4 * qc q + qb q - 1, by omega⟩
                rw [ix, hn, nI_pred]; rfl
              have old : I 94 (4 * qc q + qb q - 1) = nI (qn q (4 * qc q + qb q - 1)) := by
                have := a5 (qc q) (qb q - 1) (Or.inr ⟨ho, rfl, by omega⟩)
                rw [show 4 * qc q + (qb q - 1) = 4 * qc q + qb q - 1 by omega] at this
                exact this
              refine ⟨upI (upI I 94 (4 * qc q + qb q - 1) (nI (10 * qn q (4 * qc q + qb q - 1) + (c - 48)))) 92 5 (nI 2), lift 1 _ (Or.inr rfl) (Ct.mk (by decide) rfl (Nat.le_of_ble_eq_true rfl) ?_), ?_, ((FR.refl I).up (by omega)).up (by omega)⟩
              · rintro X rfl rfl hX - hRt
                refine RX2_takesFigure_0 hX _ ⟨fun _ => ⟨fun _ => ⟨4 * qc q + qb q - 1, ixp, by omega, 4 * qc q + qb q - 1, ixp, by omega, ?_⟩, fun z => absurd (g0.mp z) hg⟩, fun z => absurd (lt2.mpr (by omega)) z⟩
                rw [old, show (10 : Int32) = nI 10 from rfl, pk_mul, nI_add, upI_r (show (92 : Nat) ≠ 94 by decide), b5, hg1, nI_1]
                exact hRt
              · refine ⟨?_, ?_, fun _ => ⟨?_, upI_s _ _ _ _⟩, fun j hj => ?_, fun j k hjk => ?_⟩
                · rw [upI_k (by decide), upI_r (by decide)]; exact a1
                · rw [upI_k (by decide), upI_r (by decide), a2, ho]
                · rw [upI_k (by decide), upI_r (by decide)]; exact b4
                · rw [upI_r (by decide), upI_r (by decide)]
                  have hj' : j < qc q ∨ (1 : Nat) = 1 ∧ j = qc q := hj
                  exact a4 j (by omega)
                · rw [upI_r (by decide)]
                  show _ = nI (va_up (qn q) (4 * qc q + qb q - 1) _ (4 * j + k))
                  have hjk' : (j < qc q ∧ k < nof (ql q j)) ∨ ((1 : Nat) = 1 ∧ j = qc q ∧ k < qb q) := hjk
                  by_cases z : 4 * j + k = 4 * qc q + qb q - 1
                  · rw [z, upI_s, up_s]
                  · rw [upI_k z, up_n _ _ z]
                    exact a5 j k (by omega)
            · rw [tk_f3 ho cd.1 cd.2 (by omega)]
              refine ⟨fun _ => lift 0 _ (Or.inl rfl) (Ct.mk (by decide) rfl (Nat.le_of_ble_eq_true rfl) ?_), fun q' h => absurd h (by simp)⟩
              rintro X rfl rfl hX - hRt
              exact RX2_takesFigure_0 hX _ ⟨fun z => absurd (lt2.mp z) (by omega), fun _ => hRt⟩
        · rw [tk_no ho c32 c59 cd]
          refine ⟨fun _ => Ct.mk (by decide) rfl (Nat.le_of_ble_eq_true rfl) ?_, fun q' h => absurd h (by simp)⟩
          rintro X rfl rfl hX - hRt
          refine RX2_takes_0 hX _ ⟨fun _ => ⟨fun _ => ⟨fun _ => ⟨_, k_btw _ (a := 48) (b := 57) (by decide) (by decide), fun _ => hRt, fun z => absurd (b2i_n0.mp z) ?_⟩, fun z => absurd z n59⟩, fun z => absurd z c3⟩, fun z => absurd z n32⟩
          rintro ⟨k, h1, h2⟩
          have := (nI_eq (by omega) (by omega)).mp h1
          omega
end
