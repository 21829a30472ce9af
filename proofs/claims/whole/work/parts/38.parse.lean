/-! The text taken apart byte by byte: orders, open, begun, figures, letters, numbers. -/
abbrev Pa : Type := Nat × Nat × Nat × Nat × (Nat → Nat) × (Nat → Nat)
abbrev qc (q : Pa) : Nat := q.1
abbrev qo (q : Pa) : Nat := q.2.1
abbrev qb (q : Pa) : Nat := q.2.2.1
abbrev qg (q : Pa) : Nat := q.2.2.2.1
abbrev ql (q : Pa) : Nat → Nat := q.2.2.2.2.1
abbrev qn (q : Pa) : Nat → Nat := q.2.2.2.2.2
def nof (c : Nat) : Nat := if c = 112 then 4 else if c = 115 ∨ c = 101 ∨ c = 99 then 2 else if c = 120 then 1 else 0
theorem nof_le (c : Nat) : nof c ≤ 4 := by unfold nof; split; omega; split; omega; split <;> omega
/-- the number under way -/
abbrev qw (q : Pa) : Nat := nof (ql q (qc q))
def tk (c : Nat) (q : Pa) : Option Pa :=
  if c = 32 then some (qc q, qo q, qb q, 0, ql q, qn q)
  else if qo q = 0 then (if nof c = 0 then none else some (qc q, 1, 0, 0, va_up (ql q) (qc q) c, qn q))
  else if c = 59 then (if qb q < qw q then none else some (qc q + 1, 0, qb q, qg q, ql q, qn q))
  else if 48 ≤ c ∧ c ≤ 57 then
    (if qg q = 0 then (if qb q < qw q then some (qc q, 1, qb q + 1, 1, ql q, va_up (qn q) (4 * qc q + qb q) (c - 48)) else none)
    else if qg q = 1 then some (qc q, 1, qb q, 2, ql q, va_up (qn q) (4 * qc q + qb q - 1) (10 * qn q (4 * qc q + qb q - 1) + (c - 48))) else none)
  else none
theorem tk_32 (q : Pa) : tk 32 q = some (qc q, qo q, qb q, 0, ql q, qn q) := if_pos rfl
theorem tk_o0 {c : Nat} {q : Pa} (h : c ≠ 32) (ho : qo q = 0) (hn : nof c = 0) : tk c q = none := by unfold tk; rw [if_neg h, if_pos ho, if_pos hn]
theorem tk_o {c : Nat} {q : Pa} (h : c ≠ 32) (ho : qo q = 0) (hn : nof c ≠ 0) : tk c q = some (qc q, 1, 0, 0, va_up (ql q) (qc q) c, qn q) := by unfold tk; rw [if_neg h, if_pos ho, if_neg hn]
theorem tk_e0 {q : Pa} (ho : qo q = 1) (hn : qb q < qw q) : tk 59 q = none := by unfold tk; rw [if_neg (by decide), if_neg (by omega), if_pos rfl, if_pos hn]
theorem tk_e {q : Pa} (ho : qo q = 1) (hn : ¬ qb q < qw q) : tk 59 q = some (qc q + 1, 0, qb q, qg q, ql q, qn q) := by unfold tk; rw [if_neg (by decide), if_neg (by omega), if_pos rfl, if_neg hn]
theorem tk_f0 {c : Nat} {q : Pa} (ho : qo q = 1) (h1 : 48 ≤ c) (h2 : c ≤ 57) (hg : qg q = 0) (hn : ¬ qb q < qw q) : tk c q = none := by unfold tk; rw [if_neg (by omega), if_neg (by omega), if_neg (by omega), if_pos ⟨h1, h2⟩, if_pos hg, if_neg hn]
theorem tk_f1 {c : Nat} {q : Pa} (ho : qo q = 1) (h1 : 48 ≤ c) (h2 : c ≤ 57) (hg : qg q = 0) (hn : qb q < qw q) : tk c q = some (qc q, 1, qb q + 1, 1, ql q, va_up (qn q) (4 * qc q + qb q) (c - 48)) := by unfold tk; rw [if_neg (by omega), if_neg (by omega), if_neg (by omega), if_pos ⟨h1, h2⟩, if_pos hg, if_pos hn]
theorem tk_f2 {c : Nat} {q : Pa} (ho : qo q = 1) (h1 : 48 ≤ c) (h2 : c ≤ 57) (hg : qg q = 1) : tk c q = some (qc q, 1, qb q, 2, ql q, va_up (qn q) (4 * qc q + qb q - 1) (10 * qn q (4 * qc q + qb q - 1) + (c - 48))) := by unfold tk; rw [if_neg (by omega), if_neg (by omega), if_neg (by omega), if_pos ⟨h1, h2⟩, if_neg (by omega), if_pos hg]
theorem tk_f3 {c : Nat} {q : Pa} (ho : qo q = 1) (h1 : 48 ≤ c) (h2 : c ≤ 57) (hg : 2 ≤ qg q) : tk c q = none := by unfold tk; rw [if_neg (by omega), if_neg (by omega), if_neg (by omega), if_pos ⟨h1, h2⟩, if_neg (by omega), if_neg (by omega)]
theorem tk_no {c : Nat} {q : Pa} (ho : qo q = 1) (h0 : c ≠ 32) (h1 : c ≠ 59) (h2 : ¬ (48 ≤ c ∧ c ≤ 57)) : tk c q = none := by unfold tk; rw [if_neg h0, if_neg (by omega), if_neg h1, if_neg h2]
def q0 : Pa := (0, 0, 0, 0, fun _ => 0, fun _ => 0)
/-- the first i bytes: the place of the fault, or the state -/
def rn (x : Nat → Nat) : Nat → Nat ⊕ Pa
  | 0 => .inr q0
  | i + 1 => match rn x i with
    | .inl f => .inl f
    | .inr q => match tk (x i) q with
      | none => .inl i
      | some q' => .inr q'
theorem rn_some {x : Nat → Nat} {i : Nat} {q q' : Pa} (h : rn x i = .inr q) (h2 : tk (x i) q = some q') : rn x (i + 1) = .inr q' := by rw [rn, h]; simp only [h2]
theorem rn_none {x : Nat → Nat} {i : Nat} {q : Pa} (h : rn x i = .inr q) (h2 : tk (x i) q = none) : rn x (i + 1) = .inl i := by rw [rn, h]; simp only [h2]
theorem rn_stay {x : Nat → Nat} {i f : Nat} (h : rn x i = .inl f) : ∀ d, rn x (i + d) = .inl f
  | 0 => h
  | d + 1 => by rw [show i + (d + 1) = (i + d) + 1 by omega, rn, rn_stay h d]
/-- the fault is at F -/
def PF (x : Nat → Nat) (n F : Nat) : Prop := rn x n = .inl F ∨ F = n ∧ ∃ q, rn x n = .inr q ∧ (qo q = 1 ∨ qc q = 0)
theorem PF_at {x : Nat → Nat} {n i : Nat} {q : Pa} (hi : i < n) (h : rn x i = .inr q) (h2 : tk (x i) q = none) : PF x n i := by
  left
  have := rn_stay (rn_none h h2) (n - (i + 1))
  rw [show i + 1 + (n - (i + 1)) = n by omega] at this
  exact this
/-- what holds of a state at place i -/
def AV (i : Nat) (q : Pa) : Prop := (qo q = 0 ∨ qo q = 1) ∧ qg q ≤ 2 ∧ (qo q = 1 → 1 ≤ qw q ∧ qb q ≤ qw q ∧ (1 ≤ qg q → 1 ≤ qb q)) ∧ 3 * qc q + qo q * (1 + qb q) ≤ i ∧ ∀ j, j < qc q → 1 ≤ nof (ql q j)
theorem AV_0 : AV 0 q0 := ⟨Or.inl rfl, by decide, fun h => absurd h (by decide), by decide, fun j hj => absurd hj (Nat.not_lt_zero j)⟩
theorem AV.next {i c : Nat} {q q' : Pa} (h : AV i q) (ht : tk c q = some q') : AV (i + 1) q' := by
  obtain ⟨h1, h2, h3, h4, h5⟩ := h
  by_cases c32 : c = 32
  · subst c32
    rw [tk_32] at ht
    cases ht
    exact ⟨h1, show (0 : Nat) ≤ 2 by decide, fun ho => ⟨(h3 ho).1, (h3 ho).2.1, fun z => absurd (show (1 : Nat) ≤ 0 from z) (by decide)⟩, Nat.le_succ_of_le h4, h5⟩
  · rcases h1 with ho | ho
    · by_cases hn : nof c = 0
      · rw [tk_o0 c32 ho hn] at ht; exact absurd ht (by simp)
      · rw [tk_o c32 ho hn] at ht
        cases ht
        rw [ho] at h4
        refine ⟨Or.inr rfl, show (0 : Nat) ≤ 2 by decide, fun _ => ⟨?_, Nat.zero_le _, fun z => absurd (show (1 : Nat) ≤ 0 from z) (by decide)⟩, ?_, fun j hj => ?_⟩
        · show 1 ≤ nof (va_up (ql q) (qc q) c (qc q))
          rw [up_s]; omega
        · show 3 * qc q + 1 * (1 + 0) ≤ i + 1
          omega
        · show 1 ≤ nof (va_up (ql q) (qc q) c j)
          have hj' : j < qc q := hj
          rw [up_n _ _ (by omega)]; exact h5 j hj
    · obtain ⟨g1, g2, g3⟩ := h3 ho
      rw [ho] at h4
      by_cases c59 : c = 59
      · subst c59
        by_cases hn : qb q < qw q
        · rw [tk_e0 ho hn] at ht; exact absurd ht (by simp)
        · rw [tk_e ho hn] at ht
          cases ht
          refine ⟨Or.inl rfl, h2, fun z => absurd (show (0 : Nat) = 1 from z) (by decide), ?_, fun j hj => ?_⟩
          · show 3 * (qc q + 1) + 0 * (1 + qb q) ≤ i + 1
            omega
          · have hj' : j < qc q + 1 := hj
            by_cases e : j = qc q
            · subst e; exact g1
            · exact h5 j (by omega)
      · by_cases cd : 48 ≤ c ∧ c ≤ 57
        · by_cases hg : qg q = 0
          · by_cases hn : qb q < qw q
            · rw [tk_f1 ho cd.1 cd.2 hg hn] at ht
              cases ht
              refine ⟨Or.inr rfl, show (1 : Nat) ≤ 2 by decide, fun _ => ⟨g1, hn, fun _ => Nat.succ_le_succ (Nat.zero_le _)⟩, ?_, h5⟩
              show 3 * qc q + 1 * (1 + (qb q + 1)) ≤ i + 1
              omega
            · rw [tk_f0 ho cd.1 cd.2 hg hn] at ht; exact absurd ht (by simp)
          · by_cases hg1 : qg q = 1
            · rw [tk_f2 ho cd.1 cd.2 hg1] at ht
              cases ht
              refine ⟨Or.inr rfl, show (2 : Nat) ≤ 2 by decide, fun _ => ⟨g1, g2, fun _ => g3 (by omega)⟩, ?_, h5⟩
              show 3 * qc q + 1 * (1 + qb q) ≤ i + 1
              omega
            · rw [tk_f3 ho cd.1 cd.2 (by omega)] at ht; exact absurd ht (by simp)
        · rw [tk_no ho c32 c59 cd] at ht; exact absurd ht (by simp)
theorem rn_AV {x : Nat → Nat} : ∀ {i : Nat} {q : Pa}, rn x i = .inr q → AV i q
  | 0, q, h => by
    have e : Sum.inr q0 = (Sum.inr q : Nat ⊕ Pa) := h
    cases e
    exact AV_0
  | i + 1, q, h => by
    cases h1 : rn x i with
    | inl f => rw [rn, h1] at h; exact absurd h (by simp)
    | inr q1 =>
      cases h2 : tk (x i) q1 with
      | none => rw [rn_none h1 h2] at h; exact absurd h (by simp)
      | some q2 =>
        rw [rn_some h1 h2] at h
        cases h
        exact (rn_AV h1).next h2
theorem rn_inl {x : Nat → Nat} {n F : Nat} (h : rn x n = .inl F) : F < n := by
  induction n with
  | zero => exact absurd h (by show (Sum.inr q0 : Nat ⊕ Pa) = _ → False; intro z; cases z)
  | succ n ih =>
    cases h1 : rn x n with
    | inl f =>
      rw [rn_stay h1 1] at h
      cases h
      exact Nat.lt_succ_of_lt (ih h1)
    | inr q1 =>
      cases h2 : tk (x n) q1 with
      | none => rw [rn_none h1 h2] at h; cases h; omega
      | some q2 => rw [rn_some h1 h2] at h; exact absurd h (by simp)
/-- the numbers of the orders that are read, and of the one under way, lie in row R -/
def NR (R : Nat) (I : MI) (q : Pa) : Prop := ∀ j k, (j < qc q ∧ k < nof (ql q j)) ∨ (qo q = 1 ∧ j = qc q ∧ k < qb q) → I R (4 * j + k) = nI (qn q (4 * j + k))
def LR (R : Nat) (I : MI) (q : Pa) : Prop := ∀ j, j < qc q → I R j = nI (ql q j)
/-- order k of q, on the drains -/
noncomputable def od (q : Pa) (k : Nat) (D : Dr) : Int32 × Dr := if ql q k = 99 then aSight 0 (nI (qn q (4 * k))) (nI (qn q (4 * k + 1))) D else if ql q k = 101 then aSight 1 (nI (qn q (4 * k))) (nI (qn q (4 * k + 1))) D else if ql q k = 112 then aPipe (nI (qn q (4 * k))) (nI (qn q (4 * k + 1))) (nI (qn q (4 * k + 2))) (nI (qn q (4 * k + 3))) D else if ql q k = 115 then aShaft (nI (qn q (4 * k))) (nI (qn q (4 * k + 1))) D else aDrop (nI (qn q (4 * k))) D
noncomputable def ro (q : Pa) (D : Dr) : Nat → Nat ⊕ Dr
  | 0 => .inr D
  | k + 1 => match ro q D k with
    | .inl f => .inl f
    | .inr D' => if (od q k D').1 < 0 then .inl k else .inr (od q k D').2
theorem od_WF {q : Pa} {k : Nat} {D : Dr} (h : WF D) : WF (od q k D).2 := by
  unfold od
  split
  · exact aSight_WF h _ _ _
  · split
    · exact aSight_WF h _ _ _
    · split
      · exact aPipe_WF h _ _ _ _
      · split
        · exact aShaft_WF h _ _
        · exact aDrop_WF h _
theorem ro_WF {q : Pa} {D D' : Dr} (h : WF D) : ∀ {k : Nat}, ro q D k = .inr D' → WF D'
  | 0, e => by
    have e : (Sum.inr D : Nat ⊕ Dr) = .inr D' := e
    cases e; exact h
  | k + 1, e => by
    cases h1 : ro q D k with
    | inl f => rw [ro, h1] at e; exact absurd e (by simp)
    | inr D1 =>
      rw [ro, h1] at e
      by_cases c : (od q k D1).1 < 0
      · simp only [if_pos c] at e; exact absurd e (by simp)
      · simp only [if_neg c] at e
        cases e
        exact od_WF (ro_WF h h1)
/-- what reads answers, and the state behind it -/
noncomputable def aReads (s : Sg) : Int32 × Sg := match rn (gx s) (gt s) with
  | .inl F => (-10 - nI F, s)
  | .inr q => if qo q = 1 ∨ qc q = 0 then (-10 - nI (gt s), s) else match ro q (gD s) (qc q) with
    | .inl k => (-1000 - nI k, s)
    | .inr D => (nI (qc q), (D, qp (gQ s) (gc s) (gD s), cp (gc s), gx s, gt s, gf s))
theorem aReads_F {s : Sg} {F : Nat} (h : PF (gx s) (gt s) F) : aReads s = (-10 - nI F, s) := by
  unfold aReads
  rcases h with h | ⟨rfl, q, h, h2⟩
  · rw [h]
  · rw [h]
    exact if_pos h2
theorem aReads_k {s : Sg} {q : Pa} {k : Nat} (h : rn (gx s) (gt s) = .inr q) (h2 : qo q = 0) (h3 : qc q ≠ 0) (h4 : ro q (gD s) (qc q) = .inl k) : aReads s = (-1000 - nI k, s) := by
  unfold aReads
  rw [h]
  show (if qo q = 1 ∨ qc q = 0 then _ else _) = _
  rw [if_neg (by omega), h4]
theorem aReads_D {s : Sg} {q : Pa} {D : Dr} (h : rn (gx s) (gt s) = .inr q) (h2 : qo q = 0) (h3 : qc q ≠ 0) (h4 : ro q (gD s) (qc q) = .inr D) : aReads s = (nI (qc q), (D, qp (gQ s) (gc s) (gD s), cp (gc s), gx s, gt s, gf s)) := by
  unfold aReads
  rw [h]
  show (if qo q = 1 ∨ qc q = 0 then _ else _) = _
  rw [if_neg (by omega), h4]
theorem ro_stay {q : Pa} {D : Dr} {i f : Nat} (h : ro q D i = .inl f) : ∀ d, ro q D (i + d) = .inl f
  | 0 => h
  | d + 1 => by rw [show i + (d + 1) = (i + d) + 1 by omega, ro, ro_stay h d]
