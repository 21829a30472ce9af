/-! The class reads. -/
theorem tk_l {c : Nat} {q q' : Pa} (h : tk c q = some q') : ql q' = ql q ∨ ql q' = va_up (ql q) (qc q) c := by
  unfold tk at h
  split at h
  · cases h; exact Or.inl rfl
  · split at h
    · split at h
      · exact absurd h (by simp)
      · cases h; exact Or.inr rfl
    · split at h
      · split at h
        · exact absurd h (by simp)
        · cases h; exact Or.inl rfl
      · split at h
        · split at h
          · split at h
            · cases h; exact Or.inl rfl
            · exact absurd h (by simp)
          · split at h
            · cases h; exact Or.inl rfl
            · exact absurd h (by simp)
        · exact absurd h (by simp)
theorem rn_l {x : Nat → Nat} : ∀ {i : Nat} {q : Pa}, (∀ k, k < i → x k < 128) → rn x i = .inr q → ∀ j, ql q j < 128
  | 0, q, _, h => by
    have e : (Sum.inr q0 : Nat ⊕ Pa) = .inr q := h
    cases e
    exact fun _ => show (0 : Nat) < 128 by decide
  | i + 1, q, hx, h => by
    cases h1 : rn x i with
    | inl f => rw [rn, h1] at h; exact absurd h (by simp)
    | inr q1 =>
      cases h2 : tk (x i) q1 with
      | none => rw [rn_none h1 h2] at h; exact absurd h (by simp)
      | some q2 =>
        rw [rn_some h1 h2] at h
        cases h
        have ih := rn_l (fun k hk => hx k (by omega)) h1
        intro j
        rcases tk_l h2 with e | e
        · rw [e]; exact ih j
        · rw [e]
          by_cases z : j = qc q1
          · rw [z, up_s]; exact hx i (by omega)
          · rw [up_n _ _ z]; exact ih j
section
variable {E : ET} {l : Launch} {I : MI} {L : ML} {p : Nat → Nat} {D : Dr} {s : Sg} {q : Pa}
theorem k_parse {x : Nat → Nat} {n : Nat} (hn : n ≤ 120) (hx : ∀ k, k < 120 → I 95 k = nI (x k)) (hx2 : ∀ k, k < 120 → x k < 128) : ∃ I', FR I' I ∧ ((∃ F, PF x n F ∧ F ≤ n ∧ Ct E l yX2_parse wsX2_parse rmX2_parse [.ref 92, .ref 95, .int (nI n)] (HE E I L p) (some (.int (nI F))) (HE E I' L p)) ∨ ∃ q, rn x n = .inr q ∧ qo q = 0 ∧ qc q ≠ 0 ∧ KA I' q ∧ Ct E l yX2_parse wsX2_parse rmX2_parse [.ref 92, .ref 95, .int (nI n)] (HE E I L p) (some (.int (-1))) (HE E I' L p)) := by
  have loop : ∀ m i J q, i + m = n → rn x i = .inr q → KA J q → FR J I → ∃ I', FR I' I ∧ ((∃ F, PF x n F ∧ F ≤ n ∧ ∀ X, xE X = E → xl X = l → Cx X cX2_parse 4 RX2 wsX2_parse rmX2_parse → Rt X (some .int) rmX2_parse (some (.int (nI F))) (HM X I' L p) → G X 0 0 12 [(0, .ref 92), (1, .ref 95), (2, .int (nI n)), (3, .int (nI i))] [] (HM X J L p)) ∨ ∃ q, rn x n = .inr q ∧ qo q = 0 ∧ qc q ≠ 0 ∧ KA I' q ∧ ∀ X, xE X = E → xl X = l → Cx X cX2_parse 4 RX2 wsX2_parse rmX2_parse → Rt X (some .int) rmX2_parse (some (.int (-1))) (HM X I' L p) → G X 0 0 12 [(0, .ref 92), (1, .ref 95), (2, .int (nI n)), (3, .int (nI i))] [] (HM X J L p)) := by
    intro m
    induction m with
    | zero =>
      intro i J q hi hr hA hF
      have e : i = n := by omega
      subst e
      have hV := rn_AV hr
      refine ⟨J, hF, ?_⟩
      by_cases c : qo q = 1 ∨ qc q = 0
      · refine Or.inl ⟨i, Or.inr ⟨rfl, q, hr, c⟩, Nat.le_refl _, ?_⟩
        rintro X rfl rfl hX hRt
        refine RX2_parse_12 hX _ _ ⟨fun _ => ⟨fun _ => hRt, fun z => ?_⟩, fun z => absurd (nI_le (Nat.le_refl _) (by omega)) z⟩
        rw [hA.2.1] at z
        have c0 : qc q = 0 := by
          rcases c with c | c
          · rw [c] at z; exact absurd z (by decide)
          · exact c
        rw [if_pos (by rw [hA.1, c0]; rfl)]
        exact hRt
      · have c1 : qo q = 0 := by have := hV.1; omega
        have c2 : qc q ≠ 0 := by omega
        refine Or.inr ⟨q, hr, c1, c2, hA, ?_⟩
        rintro X rfl rfl hX hRt
        refine RX2_parse_12 hX _ _ ⟨fun _ => ⟨fun z => absurd (by rw [hA.2.1, c1]; rfl) z, fun _ => ?_⟩, fun z => absurd (nI_le (Nat.le_refl _) (by omega)) z⟩
        have := hV.2.2.2.1
        rw [if_neg (by rw [hA.1]; exact nI_ne0 (by omega) (by omega))]
        exact hRt
    | succ m ih =>
      intro i J q hi hr hA hF
      have hV := rn_AV hr
      have hql := rn_l (fun k hk => hx2 k (by omega)) hr
      have h95 : J 95 i = nI (x i) := by rw [hF 95 (by decide) (by decide) (by decide)]; exact hx i (by omega)
      obtain ⟨t0, t1⟩ := k_takes (E := E) (l := l) (L := L) (p := p) (c := x i) hA hV (by omega) (hx2 i (by omega)) (fun j _ => Nat.lt_of_lt_of_le (hql j) (by decide))
      cases ht : tk (x i) q with
      | none =>
        refine ⟨J, hF, Or.inl ⟨i, PF_at (by omega) hr ht, by omega, ?_⟩⟩
        have t0 := t0 ht
        rintro X rfl rfl hX hRt
        exact RX2_parse_12 hX _ _ ⟨fun z => absurd z (nI_ge (by omega) (by omega)), fun _ => ⟨i, rfl, by omega, _, _, by rw [h95]; exact t0, fun z => absurd rfl z, fun _ => hRt⟩⟩
      | some q' =>
        obtain ⟨J', hC, hA', hF'⟩ := t1 q' ht
        obtain ⟨I', g1, g2⟩ := ih (i + 1) J' q' (by omega) (rn_some hr ht) hA' (fun r a b c => (hF' r a b c).trans (hF r a b c))
        refine ⟨I', g1, ?_⟩
        rcases g2 with ⟨F, g2, g3, g4⟩ | ⟨q2, g2, g3, g4, g5, g6⟩
        · refine Or.inl ⟨F, g2, g3, ?_⟩
          rintro X rfl rfl hX hRt
          refine RX2_parse_12 hX _ _ ⟨fun z => absurd z (nI_ge (by omega) (by omega)), fun _ => ⟨i, rfl, by omega, _, _, by rw [h95]; exact hC, fun _ => ?_, fun z => absurd z (by decide)⟩⟩
          rw [nI_1]
          exact g4 X rfl rfl hX hRt
        · refine Or.inr ⟨q2, g2, g3, g4, g5, ?_⟩
          rintro X rfl rfl hX hRt
          refine RX2_parse_12 hX _ _ ⟨fun z => absurd z (nI_ge (by omega) (by omega)), fun _ => ⟨i, rfl, by omega, _, _, by rw [h95]; exact hC, fun _ => ?_, fun z => absurd z (by decide)⟩⟩
          rw [nI_1]
          exact g6 X rfl rfl hX hRt
  have hA0 : KA (upI (upI I 92 2 0) 92 3 0) q0 := by
    refine ⟨?_, upI_s _ _ _ _, fun z => absurd (show (0 : Nat) = 1 from z) (by decide), fun j hj => ?_, fun j k hjk => ?_⟩
    · rw [upI_k (by decide), upI_s]; rfl
    · have hj' : j < 0 ∨ (0 : Nat) = 1 ∧ j = 0 := hj
      omega
    · have hjk' : (j < 0 ∧ k < nof 0) ∨ ((0 : Nat) = 1 ∧ j = 0 ∧ k < 0) := hjk
      omega
  obtain ⟨I', g1, g2⟩ := loop n 0 (upI (upI I 92 2 0) 92 3 0) q0 (Nat.zero_add _) rfl hA0 (((FR.refl I).up (by omega)).up (by omega))
  refine ⟨I', g1, ?_⟩
  rcases g2 with ⟨F, g2, g3, g4⟩ | ⟨q2, g2, g3, g4, g5, g6⟩
  · refine Or.inl ⟨F, g2, g3, Ct.mk (by decide) rfl (Nat.le_of_ble_eq_true rfl) ?_⟩
    intro X hE hl hX _ hRt
    subst hE hl
    exact RX2_parse_0 hX _ (g4 X rfl rfl hX hRt)
  · refine Or.inr ⟨q2, g2, g3, g4, g5, Ct.mk (by decide) rfl (Nat.le_of_ble_eq_true rfl) ?_⟩
    intro X hE hl hX _ hRt
    subst hE hl
    exact RX2_parse_0 hX _ (g6 X rfl rfl hX hRt)
/-- one order of the text -/
theorem k_obey {k : Nat} (hR : RD I 1 D) (hY : RY I 1 D) (hW : WF D) (hA : KA I q) (hql : ∀ j, ql q j < 128) (h1 : ∀ j, j < qc q → 1 ≤ nof (ql q j)) (h40 : qc q ≤ 40) (hk : k < qc q) : KOp E l yX2_obey wsX2_obey rmX2_obey [.ref 92, .int (nI k), .ref 1] I L p (od q k D) := by
  have hl := hql k
  have e : ∀ j, j < 128 → (I 93 k = nI j ↔ ql q k = j) := fun j hj => by rw [hA.2.2.2.1 k (Or.inl hk)]; exact nI_eq (by omega) (by omega)
  have e1 : I 93 k = 99 ↔ ql q k = 99 := e 99 (by decide)
  have e2 : I 93 k = 101 ↔ ql q k = 101 := e 101 (by decide)
  have e3 : I 93 k = 112 ↔ ql q k = 112 := e 112 (by decide)
  have e4 : I 93 k = 115 ↔ ql q k = 115 := e 115 (by decide)
  have e5 : I 93 k = 120 ↔ ql q k = 120 := e 120 (by decide)
  have num : ∀ j, j < nof (ql q k) → I 94 (4 * k + j) = nI (qn q (4 * k + j)) := fun j hj => hA.2.2.2.2 k j (Or.inl ⟨hk, hj⟩)
  have ix0 : nI k * 4 = nI (4 * k) := by rw [show (4 : Int32) = nI 4 from rfl, pk_mul, Nat.mul_comm]
  have ix1 : nI k * 4 + 1 = nI (4 * k + 1) := by rw [ix0, nI_1]
  have ix2 : nI k * 4 + 2 = nI (4 * k + 2) := ix4c k 2
  have ix3 : nI k * 4 + 3 = nI (4 * k + 3) := ix4c k 3
  have fin : ∀ (A : Int32 × Dr) (y : MethodName) (ws : List Cond) (rm : Room) (as : List Value), KOp E l y ws rm as I L p A → (∀ I', Ct E l y ws rm as (HE E I L p) (some (.int A.1)) (HE E I' L p) → Ct E l yX2_obey wsX2_obey rmX2_obey [.ref 92, .int (nI k), .ref 1] (HE E I L p) (some (.int A.1)) (HE E I' L p)) → KOp E l yX2_obey wsX2_obey rmX2_obey [.ref 92, .int (nI k), .ref 1] I L p A := by
    rintro A y ws rm as ⟨I', c1, c2⟩ h
    exact ⟨I', h I' c1, c2⟩
  have hn1 := h1 k hk
  unfold od
  by_cases c1 : ql q k = 99
  · rw [if_pos c1]
    have n0 := num 0 (by rw [c1]; decide)
    have n1 := num 1 (by rw [c1]; decide)
    refine fin _ _ _ _ _ (k_addSight hR hY hW 0 _ _) fun I' hC => Ct.mk (by decide) rfl (Nat.le_of_ble_eq_true rfl) ?_
    rintro X rfl rfl hX - hRt
    exact RX2_obey_0 hX _ ⟨4 * k, ix0, by omega, 4 * k + 1, ix1, by omega, k, rfl, by omega, fun _ => ⟨_, I', by rw [show I 94 (4 * k) = _ from n0, n1]; exact hC, hRt⟩, fun z => absurd (e2.mp z) (by omega), fun z => absurd (e3.mp z) (by omega), fun z => absurd (e4.mp z) (by omega), fun z => absurd (e5.mp z) (by omega), fun z => absurd (e1.mpr c1) z.1⟩
  · rw [if_neg c1]
    by_cases c2 : ql q k = 101
    · rw [if_pos c2]
      have n0 := num 0 (by rw [c2]; decide)
      have n1 := num 1 (by rw [c2]; decide)
      refine fin _ _ _ _ _ (k_addSight hR hY hW 1 _ _) fun I' hC => Ct.mk (by decide) rfl (Nat.le_of_ble_eq_true rfl) ?_
      rintro X rfl rfl hX - hRt
      exact RX2_obey_0 hX _ ⟨4 * k, ix0, by omega, 4 * k + 1, ix1, by omega, k, rfl, by omega, fun z => absurd (e1.mp z) (by omega), fun _ => ⟨_, I', by rw [show I 94 (4 * k) = _ from n0, n1]; exact hC, hRt⟩, fun z => absurd (e3.mp z) (by omega), fun z => absurd (e4.mp z) (by omega), fun z => absurd (e5.mp z) (by omega), fun z => absurd (e2.mpr c2) z.2.1⟩
    · rw [if_neg c2]
      by_cases c3 : ql q k = 112
      · rw [if_pos c3]
        have n0 := num 0 (by rw [c3]; decide)
        have n1 := num 1 (by rw [c3]; decide)
        have n2 := num 2 (by rw [c3]; decide)
        have n3 := num 3 (by rw [c3]; decide)
        refine fin _ _ _ _ _ (k_addPipe hR hY hW _ _ _ _) fun I' hC => Ct.mk (by decide) rfl (Nat.le_of_ble_eq_true rfl) ?_
        rintro X rfl rfl hX - hRt
        exact RX2_obey_0 hX _ ⟨4 * k, ix0, by omega, 4 * k + 1, ix1, by omega, k, rfl, by omega, fun z => absurd (e1.mp z) (by omega), fun z => absurd (e2.mp z) (by omega), fun _ => ⟨4 * k + 2, ix2, by omega, 4 * k + 3, ix3, by omega, _, I', by rw [show I 94 (4 * k) = _ from n0, n1, n2, n3]; exact hC, hRt⟩, fun z => absurd (e4.mp z) (by omega), fun z => absurd (e5.mp z) (by omega), fun z => absurd (e3.mpr c3) z.2.2.1⟩
      · rw [if_neg c3]
        by_cases c4 : ql q k = 115
        · rw [if_pos c4]
          have n0 := num 0 (by rw [c4]; decide)
          have n1 := num 1 (by rw [c4]; decide)
          refine fin _ _ _ _ _ (k_addShaft hR hY hW _ _) fun I' hC => Ct.mk (by decide) rfl (Nat.le_of_ble_eq_true rfl) ?_
          rintro X rfl rfl hX - hRt
          exact RX2_obey_0 hX _ ⟨4 * k, ix0, by omega, 4 * k + 1, ix1, by omega, k, rfl, by omega, fun z => absurd (e1.mp z) (by omega), fun z => absurd (e2.mp z) (by omega), fun z => absurd (e3.mp z) (by omega), fun _ => ⟨_, I', by rw [show I 94 (4 * k) = _ from n0, n1]; exact hC, hRt⟩, fun z => absurd (e5.mp z) (by omega), fun z => absurd (e4.mpr c4) z.2.2.2.1⟩
        · rw [if_neg c4]
          have c5 : ql q k = 120 := by
            unfold nof at hn1
            rw [if_neg c3, if_neg (by omega)] at hn1
            by_cases z : ql q k = 120
            · exact z
            · rw [if_neg z] at hn1; omega
          have n0 := num 0 (by rw [c5]; decide)
          refine fin _ _ _ _ _ (k_dropPipe hR hY hW _) fun I' hC => Ct.mk (by decide) rfl (Nat.le_of_ble_eq_true rfl) ?_
          rintro X rfl rfl hX - hRt
          exact RX2_obey_0 hX _ ⟨4 * k, ix0, by omega, 4 * k + 1, ix1, by omega, k, rfl, by omega, fun z => absurd (e1.mp z) c1, fun z => absurd (e2.mp z) c2, fun z => absurd (e3.mp z) c3, fun z => absurd (e4.mp z) c4, fun _ => ⟨_, I', by rw [show I 94 (4 * k) = _ from n0]; exact hC, hRt⟩, fun z => absurd (e5.mpr c5) z.2.2.2.2⟩
end
