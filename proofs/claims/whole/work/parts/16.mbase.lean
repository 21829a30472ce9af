/-! Contracts of the model's small methods. -/
abbrev HE (E : ET) (I : MI) (L : ML) (p : Nat → Nat) : Heap → Prop := HW E 106 I L (KK p)
theorem Rt.toI {X : XT} {ret : Option FieldType} {rm : Room} {v v' : Int32} {P : Heap → Prop} (h : Rt X ret rm (some (.int v)) P) (e : v = v') : Rt X ret rm (some (.int v')) P := e ▸ h
theorem Rt.toL {X : XT} {ret : Option FieldType} {rm : Room} {v v' : Int64} {P : Heap → Prop} (h : Rt X ret rm (some (.long v)) P) (e : v = v') : Rt X ret rm (some (.long v')) P := e ▸ h
theorem Rt.toM {X : XT} {ret : Option FieldType} {rm : Room} {r : Option Value} {I I' : MI} {L L' : ML} {p : Nat → Nat} (h : Rt X ret rm r (HM X I L p)) (e : I = I') (e2 : L = L') : Rt X ret rm r (HM X I' L' p) := by subst e; subst e2; exact h
/-- a loop that counts up -/
theorem loop_up {Q : Nat → Prop} {N : Nat} (hs : ∀ i, i < N → Q (i + 1) → Q i) : ∀ i, i ≤ N → Q N → Q i := by
  intro i hi h
  obtain ⟨d, rfl⟩ : ∃ d, N = i + d := ⟨N - i, by omega⟩
  clear hi
  induction d generalizing i with
  | zero => exact h
  | succ d ih => exact hs i (by omega) (ih (i + 1) (fun j hj hq => hs j (by omega) hq) (by rw [show i + 1 + d = i + (d + 1) by omega]; exact h))
theorem m_in {E : ET} {l : Launch} {I : MI} {L : ML} {p : Nat → Nat} (v a b : Int32) : Ct E l yX6_in wsX6_in rmX6_in [.int v, .int a, .int b] (HE E I L p) (some (.int (if a ≤ v ∧ v ≤ b then 1 else 0))) (HE E I L p) := by
  refine Ct.mk (by decide) rfl (Nat.le_of_ble_eq_true rfl) ?_
  rintro X rfl rfl hX - hR
  refine RX6_in_0 hX v a b ⟨fun h => ?_, fun h => ?_⟩
  · refine hR.toI (if_neg fun q => ?_)
    rw [fa_lt] at h
    have := (fa_le _ _).mp q.1
    omega
  · refine hR.toI ?_
    rw [fa_lt] at h
    by_cases h2 : b < v
    · rw [if_pos h2]
      rw [fa_lt] at h2
      exact if_neg fun q => by have := (fa_le _ _).mp q.2; omega
    · rw [if_neg h2]
      rw [fa_lt] at h2
      exact if_pos ⟨(fa_le _ _).mpr (by omega), (fa_le _ _).mpr (by omega)⟩
/-- in range, by numbers: from a to b, of an int that may be anything -/
theorem inN {v : Int32} {a b : Nat} (ha : a < 2 ^ 31) (hb : b < 2 ^ 31) : (nI a ≤ v ∧ v ≤ nI b) ↔ ∃ n, v = nI n ∧ a ≤ n ∧ n ≤ b := by
  constructor
  · rintro ⟨h1, h2⟩
    have h0 : ¬ v < 0 := by
      rw [fa_lt]
      have := (fa_le _ _).mp h1
      rw [nI_toInt ha] at this
      rw [Int32.toInt_zero]
      omega
    obtain ⟨n, hn, rfl⟩ := nI_of h0
    exact ⟨n, rfl, (nle ha hn).mp h1, (nle hn hb).mp h2⟩
  · rintro ⟨n, rfl, h1, h2⟩
    exact ⟨(nle ha (by omega)).mpr h1, (nle (by omega) hb).mpr h2⟩
theorem m_has {E : ET} {l : Launch} {I : MI} {L : ML} {p : Nat → Nat} {s k : Nat} (hs : s < 2 ^ 31) (hk : k < 32) : Ct E l yX6_has wsX6_has rmX6_has [.int (nI s), .int (nI k)] (HE E I L p) (some (.int (if s.testBit k then 1 else 0))) (HE E I L p) := by
  refine Ct.mk (by decide) rfl (Nat.le_of_ble_eq_true rfl) ?_
  rintro X rfl rfl hX - hR
  refine RX6_has_0 hX _ _ (hR.toI ?_)
  by_cases h : s.testBit k = true
  · rw [if_pos h, if_pos ((jbit_iff hs hk).mpr h)]
  · rw [if_neg h, if_neg (fun q => h ((jbit_iff hs hk).mp q))]
theorem b01_0 {c : Prop} [Decidable c] : ((if c then (1 : Int32) else 0) = 0) = ¬ c := by
  by_cases h : c <;> simp [h]
theorem m_ones {E : ET} {l : Launch} {I : MI} {L : ML} {p : Nat → Nat} {s : Nat} (hs : s < 2 ^ 31) : Ct E l yX6_ones wsX6_ones rmX6_ones [.int (nI s)] (HE E I L p) (some (.int (nI (fb_ct s.testBit 10)))) (HE E I L p) := by
  refine Ct.mk (by decide) rfl (Nat.le_of_ble_eq_true rfl) ?_
  rintro X rfl rfl hX - hR
  refine RX6_ones_0 hX _ ?_
  refine loop_up (N := 10) (Q := fun i => G X 0 0 4 [(0, .int (nI s)), (1, .int (nI (fb_ct s.testBit i))), (2, .int (nI i))] [] (HM X I L p)) (fun i hi k => ?_) 0 (by decide) ?_
  · refine RX6_ones_4 hX _ _ _ ⟨fun h => absurd h (nI_ge hi (by decide)), fun _ => ⟨_, m_has hs (by omega), ?_⟩⟩
    have e : nI (fb_ct s.testBit i) + (if (if s.testBit i then (1 : Int32) else 0) = 0 then 0 else 1) = nI (fb_ct s.testBit (i + 1)) := by
      rw [fb_ct_succ]
      by_cases h : s.testBit i = true
      · simp [h, nI_1]
      · simp [h]
    rw [e, nI_1]
    exact k
  · exact RX6_ones_4 hX _ _ _ ⟨fun _ => hR, fun h => absurd (by decide) h⟩
