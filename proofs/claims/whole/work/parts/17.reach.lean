/-! The drains as numbers: D is the model's row; ways by pipes. -/
abbrev fr (D : Nat → Nat) (i : Nat) : Nat := D (23 + 4 * i)
abbrev tt (D : Nat → Nat) (i : Nat) : Nat := D (24 + 4 * i)
abbrev lw (D : Nat → Nat) (i : Nat) : Nat := D (25 + 4 * i)
abbrev hg (D : Nat → Nat) (i : Nat) : Nat := D (26 + 4 * i)
def Rn (D : Nat → Nat) : Nat → Nat → Nat → Prop
  | 0, a, w => a = w
  | n + 1, a, w => ∃ i, i < D 1 ∧ fr D i = a ∧ Rn D n (tt D i) w
/-- w is below a -/
def Rc (D : Nat → Nat) (a w : Nat) : Prop := ∃ n, Rn D n a w
theorem Rc.self (D : Nat → Nat) (a : Nat) : Rc D a a := ⟨0, rfl⟩
theorem Rc.head {D : Nat → Nat} {i w : Nat} (hi : i < D 1) (h : Rc D (tt D i) w) : Rc D (fr D i) w := by
  obtain ⟨n, h⟩ := h
  exact ⟨n + 1, i, hi, rfl, h⟩
theorem Rn.trans {D : Nat → Nat} {m b c : Nat} (h2 : Rn D m b c) : ∀ (n a : Nat), Rn D n a b → Rn D (n + m) a c
  | 0, a, h => by
    have e : a = b := h
    subst e
    rw [Nat.zero_add]
    exact h2
  | n + 1, a, h => by
    obtain ⟨i, hi, h1, h3⟩ := h
    rw [Nat.add_right_comm]
    exact ⟨i, hi, h1, Rn.trans h2 n _ h3⟩
theorem Rc.trans {D : Nat → Nat} {a b c : Nat} (h : Rc D a b) (h2 : Rc D b c) : Rc D a c := by
  obtain ⟨n, h⟩ := h
  obtain ⟨m, h2⟩ := h2
  exact ⟨n + m, Rn.trans h2 n a h⟩
theorem Rc.edge {D : Nat → Nat} {i : Nat} (hi : i < D 1) : Rc D (fr D i) (tt D i) := Rc.head hi (Rc.self D _)
theorem Rc.tail {D : Nat → Nat} {a i : Nat} (h : Rc D a (fr D i)) (hi : i < D 1) : Rc D a (tt D i) := h.trans (Rc.edge hi)
/-- a set that holds a and is closed holds all that is below a -/
theorem Rn.closed {D : Nat → Nat} {s : Nat → Prop} (hc : ∀ i, i < D 1 → s (fr D i) → s (tt D i)) : ∀ (n a w : Nat), Rn D n a w → s a → s w
  | 0, a, w, h, ha => by
    have e : a = w := h
    subst e
    exact ha
  | n + 1, a, w, h, ha => by
    obtain ⟨i, hi, h1, h3⟩ := h
    exact Rn.closed hc n _ w h3 (hc i hi (by rw [h1]; exact ha))
theorem Rc.closed {D : Nat → Nat} {s : Nat → Prop} (hc : ∀ i, i < D 1 → s (fr D i) → s (tt D i)) {a w : Nat} (h : Rc D a w) (ha : s a) : s w := by
  obtain ⟨n, h⟩ := h
  exact Rn.closed hc n a w h ha
noncomputable def bdec (P : Prop) : Bool := @decide P (Classical.propDecidable P)
theorem bdec_iff (P : Prop) : bdec P = true ↔ P := by unfold bdec; exact @decide_eq_true_iff P (Classical.propDecidable P)
/-- the shafts below a, as bits -/
noncomputable def bl (D : Nat → Nat) (a : Nat) : Nat := mk (fun w => bdec (Rc D a w)) 10
theorem bl_lt (D : Nat → Nat) (a : Nat) : bl D a < 1024 := mk_lt _ 10
theorem bl_bit (D : Nat → Nat) (a w : Nat) : (bl D a).testBit w = true ↔ w < 10 ∧ Rc D a w := by
  rw [bl, mk_bit, Bool.and_eq_true, decide_eq_true_eq, bdec_iff]
theorem bl_of {D : Nat → Nat} {a s : Nat} (hs : s < 1024) (h : ∀ w, w < 10 → (s.testBit w = true ↔ Rc D a w)) : s = bl D a := by
  refine mk_of (n := 10) hs (fun k hk => ?_)
  have h1 := h k hk
  cases hb : s.testBit k with
  | true => rw [hb] at h1; exact ((bdec_iff _).mpr (h1.mp rfl)).symm
  | false =>
    cases hd : bdec (Rc D a k) with
    | false => rfl
    | true => rw [hb] at h1; exact absurd (h1.mpr ((bdec_iff _).mp hd)) (by simp)
-- no ring
def Ac (D : Nat → Nat) : Prop := ∀ i, i < D 1 → ¬ Rc D (tt D i) (fr D i)
def WF (D : Nat → Nat) : Prop := D 0 ≤ 10 ∧ D 1 ≤ 16 ∧ D 2 ≤ 12 ∧ (∀ k, k < 123 → D k < 128) ∧
  (∀ a, a < D 0 → D (3 + 2 * a) ≤ 4 ∧ 1 ≤ D (4 + 2 * a) ∧ D (4 + 2 * a) ≤ 15) ∧
  (∀ i, i < D 1 → fr D i < D 0 ∧ tt D i < D 0 ∧ lw D i ≤ hg D i ∧ hg D i ≤ 9) ∧
  (∀ t, t < D 2 → D (87 + 3 * t) ≤ 1 ∧ D (88 + 3 * t) < D 0 ∧ D (89 + 3 * t) ≤ 62) ∧ Ac D
theorem WF.S {D : Nat → Nat} (h : WF D) : D 0 ≤ 10 := h.1
theorem WF.P {D : Nat → Nat} (h : WF D) : D 1 ≤ 16 := h.2.1
theorem WF.T {D : Nat → Nat} (h : WF D) : D 2 ≤ 12 := h.2.2.1
theorem WF.all {D : Nat → Nat} (h : WF D) : ∀ k, k < 123 → D k < 128 := h.2.2.2.1
theorem WF.shaft {D : Nat → Nat} (h : WF D) {a : Nat} (ha : a < D 0) : D (3 + 2 * a) ≤ 4 ∧ 1 ≤ D (4 + 2 * a) ∧ D (4 + 2 * a) ≤ 15 := h.2.2.2.2.1 a ha
theorem WF.pipe {D : Nat → Nat} (h : WF D) {i : Nat} (hi : i < D 1) : fr D i < D 0 ∧ tt D i < D 0 ∧ lw D i ≤ hg D i ∧ hg D i ≤ 9 := h.2.2.2.2.2.1 i hi
theorem WF.sight {D : Nat → Nat} (h : WF D) {t : Nat} (ht : t < D 2) : D (87 + 3 * t) ≤ 1 ∧ D (88 + 3 * t) < D 0 ∧ D (89 + 3 * t) ≤ 62 := h.2.2.2.2.2.2.1 t ht
theorem WF.ac {D : Nat → Nat} (h : WF D) : Ac D := h.2.2.2.2.2.2.2
theorem Rc.lt {D : Nat → Nat} (hW : WF D) {a w : Nat} (h : Rc D a w) (ha : a < D 0) : w < D 0 := h.closed (s := fun w => w < D 0) (fun i hi _ => (hW.pipe hi).2.1) ha
theorem fr_ne_tt {D : Nat → Nat} (hW : WF D) {i : Nat} (hi : i < D 1) : fr D i ≠ tt D i := fun e => hW.ac i hi (by rw [e]; exact Rc.self D _)
-- the model's sweep over the pipes
def sw (D : Nat → Nat) (s : Nat) : Nat → Nat
  | 0 => s
  | i + 1 => if (sw D s i).testBit (fr D i) then sw D s i ||| 2 ^ tt D i else sw D s i
theorem sw_le (D : Nat → Nat) (s i : Nat) : sw D s i ≤ sw D s (i + 1) := by
  rw [sw]
  split
  · exact Nat.left_le_or
  · exact Nat.le_refl _
theorem sw_mono (D : Nat → Nat) (s : Nat) {i : Nat} : ∀ d, sw D s i ≤ sw D s (i + d)
  | 0 => Nat.le_refl _
  | d + 1 => Nat.le_trans (sw_mono D s d) (sw_le D s (i + d))
theorem sw_lt {D : Nat → Nat} (hW : WF D) {s : Nat} (hs : s < 1024) : ∀ i, i ≤ D 1 → sw D s i < 1024
  | 0, _ => hs
  | i + 1, hi => by
    have ih := sw_lt hW hs i (by omega)
    rw [sw]
    split
    · have h1 : tt D i < 10 := Nat.lt_of_lt_of_le (hW.pipe (show i < D 1 by omega)).2.1 hW.S
      exact Nat.or_lt_two_pow (n := 10) ih (Nat.pow_lt_pow_right (by decide) h1)
    · exact ih
theorem sw_fix {D : Nat → Nat} {s : Nat} (h : sw D s (D 1) = s) : ∀ i, i < D 1 → s.testBit (fr D i) = true → s.testBit (tt D i) = true := by
  intro i hi hb
  have h1 : sw D s i = s := by
    have a1 := sw_mono D s (i := 0) i
    have a2 := sw_mono D s (i := i) (D 1 - i)
    rw [show i + (D 1 - i) = D 1 by omega, h] at a2
    rw [Nat.zero_add] at a1
    exact Nat.le_antisymm a2 a1
  have h2 : sw D s (i + 1) = s := by
    have a1 := sw_mono D s (i := 0) (i + 1)
    have a2 := sw_mono D s (i := i + 1) (D 1 - (i + 1))
    rw [show i + 1 + (D 1 - (i + 1)) = D 1 by omega, h] at a2
    rw [Nat.zero_add] at a1
    exact Nat.le_antisymm a2 a1
  rw [sw, h1, if_pos hb] at h2
  rw [← h2, Nat.testBit_or, Nat.testBit_two_pow]
  simp
theorem sw_sound {D : Nat → Nat} {s a : Nat} (h : ∀ k, s.testBit k = true → Rc D a k) : ∀ i, i ≤ D 1 → ∀ k, (sw D s i).testBit k = true → Rc D a k
  | 0, _, k, hk => h k hk
  | i + 1, hi, k, hk => by
    have ih := sw_sound h i (by omega)
    rw [sw] at hk
    split at hk
    · next hb =>
      rw [Nat.testBit_or, Nat.testBit_two_pow, Bool.or_eq_true, decide_eq_true_eq] at hk
      rcases hk with hk | hk
      · exact ih k hk
      · rw [← hk]
        exact (ih _ hb).tail (by omega)
    · exact ih k hk
theorem sw_keeps {D : Nat → Nat} {s k : Nat} (hk : s.testBit k = true) : ∀ i, (sw D s i).testBit k = true
  | 0 => hk
  | i + 1 => by
    have ih := sw_keeps (D := D) hk i
    rw [sw]
    split
    · rw [Nat.testBit_or, ih, Bool.true_or]
    · exact ih
theorem sw_done {D : Nat → Nat} {s a : Nat} (hs : s < 1024) (ha : s.testBit a = true) (hsound : ∀ k, s.testBit k = true → Rc D a k) (hc : ∀ i, i < D 1 → s.testBit (fr D i) = true → s.testBit (tt D i) = true) : s = bl D a :=
  bl_of hs fun w _ => ⟨hsound w, fun h => h.closed (s := fun w => s.testBit w = true) hc ha⟩
