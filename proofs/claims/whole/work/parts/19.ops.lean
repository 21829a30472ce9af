/-! What the orders do to the drains, by numbers. -/
abbrev Dr : Type := Nat → Nat
noncomputable def aShaft (x1 x2 : Int32) (D : Dr) : Int32 × Dr := if bdec (btw x1 0 4 ∧ btw x2 1 15) then (if D 0 = 10 then (-4, D) else (nI (D 0), va_up (va_up (va_up D (3 + 2 * D 0) x1.toNatClampNeg) (4 + 2 * D 0) x2.toNatClampNeg) 0 (D 0 + 1))) else (-2, D)
noncomputable def aSets (x1 x2 x3 : Int32) (D : Dr) : Int32 × Dr := if bdec (ok x1 (D 0) ∧ (x2 = 0 ∧ btw x3 0 4 ∨ x2 = 1 ∧ btw x3 1 15)) then (nI (D (3 + 2 * x1.toNatClampNeg + x2.toNatClampNeg)), va_up D (3 + 2 * x1.toNatClampNeg + x2.toNatClampNeg) x3.toNatClampNeg) else (-2, D)
noncomputable def aPipe (x1 x2 x3 x4 : Int32) (D : Dr) : Int32 × Dr := if bdec (ok x1 (D 0) ∧ ok x2 (D 0) ∧ ¬ x1 = x2 ∧ btw x3 0 9 ∧ x3 ≤ x4 ∧ x4 ≤ 9) then (if bdec (Rc D x2.toNatClampNeg x1.toNatClampNeg) then (-3, D) else if D 1 = 16 then (-4, D) else (nI (D 1), va_up (va_up (va_up (va_up (va_up D (23 + 4 * D 1) x1.toNatClampNeg) (24 + 4 * D 1) x2.toNatClampNeg) (25 + 4 * D 1) x3.toNatClampNeg) (26 + 4 * D 1) x4.toNatClampNeg) 1 (D 1 + 1))) else (-2, D)
def dropD (D : Dr) (i : Nat) : Dr := fun k => if k = 1 then D 1 - 1 else if 23 + 4 * i ≤ k ∧ k < 23 + 4 * (D 1 - 1) then D (k + 4) else D k
noncomputable def aDrop (x1 : Int32) (D : Dr) : Int32 × Dr := if bdec (ok x1 (D 1)) then (nI (D 1 - 1), dropD D x1.toNatClampNeg) else (-2, D)
noncomputable def aSight (x1 x2 x3 : Int32) (D : Dr) : Int32 × Dr := if bdec (btw x1 0 1 ∧ ok x2 (D 0) ∧ btw x3 0 62) then (if D 2 = 12 then (-4, D) else (nI (D 2 + 1), va_up (va_up (va_up (va_up D (87 + 3 * D 2) x1.toNatClampNeg) (88 + 3 * D 2) x2.toNatClampNeg) (89 + 3 * D 2) x3.toNatClampNeg) 2 (D 2 + 1))) else (-2, D)
def aForget (D : Dr) : Int32 × Dr := (nI (D 2), va_up D 2 0)
theorem bif_pos {α : Type} {P : Prop} {a b : α} (h : P) : (if bdec P then a else b) = a := by rw [(bdec_iff P).mpr h]; rfl
theorem bif_neg {α : Type} {P : Prop} {a b : α} (h : ¬ P) : (if bdec P then a else b) = b := by
  cases hd : bdec P with
  | false => rfl
  | true => exact absurd ((bdec_iff P).mp hd) h
theorem ok.cl {v : Int32} {n : Nat} (h : ok v n) (hn : n < 2 ^ 31) : v.toNatClampNeg < n ∧ v = nI v.toNatClampNeg := by
  obtain ⟨a, ha, rfl⟩ := h
  rw [nI_clamp (by omega)]
  exact ⟨ha, rfl⟩
theorem btw.cl {v : Int32} {a b : Nat} (h : btw v a b) (hb : b < 2 ^ 31) : a ≤ v.toNatClampNeg ∧ v.toNatClampNeg ≤ b ∧ v = nI v.toNatClampNeg := by
  obtain ⟨n, rfl, h1, h2⟩ := h
  rw [nI_clamp (by omega)]
  exact ⟨h1, h2, rfl⟩
-- an order keeps the drains well formed
theorem up_s {α : Type} (f : Nat → α) (k : Nat) (v : α) : va_up f k v k = v := va_up_self f k v
theorem up_n {α : Type} (f : Nat → α) {k j : Nat} (v : α) (h : j ≠ k) : va_up f k v j = f j := va_up_ne f v h
theorem Rn.cong {D D' : Dr} (h1 : D' 1 = D 1) (h2 : ∀ i, i < D 1 → fr D' i = fr D i ∧ tt D' i = tt D i) : ∀ (n a w : Nat), Rn D' n a w → Rn D n a w
  | 0, _, _, h => h
  | n + 1, a, w, h => by
    obtain ⟨i, hi, e, h3⟩ := h
    rw [h1] at hi
    obtain ⟨e1, e2⟩ := h2 i hi
    exact ⟨i, hi, by rw [← e1]; exact e, by rw [← e2]; exact Rn.cong h1 h2 n _ w h3⟩
theorem Rc.cong {D D' : Dr} (h1 : D' 1 = D 1) (h2 : ∀ i, i < D 1 → fr D' i = fr D i ∧ tt D' i = tt D i) {a w : Nat} (h : Rc D' a w) : Rc D a w := by
  obtain ⟨n, h⟩ := h
  exact ⟨n, Rn.cong h1 h2 n a w h⟩
theorem Ac.cong {D D' : Dr} (h1 : D' 1 = D 1) (h2 : ∀ i, i < D 1 → fr D' i = fr D i ∧ tt D' i = tt D i) (h : Ac D) : Ac D' := by
  intro i hi hc
  rw [h1] at hi
  have := Rc.cong h1 h2 hc
  rw [(h2 i hi).1, (h2 i hi).2] at this
  exact h i hi this
/-- the same pipes, other shafts or sights -/
theorem Rc.congI {D D' : Dr} (h1 : D' 1 = D 1) (h2 : ∀ i, i < D 1 → fr D' i = fr D i ∧ tt D' i = tt D i) {a w : Nat} : Rc D' a w ↔ Rc D a w :=
  ⟨Rc.cong h1 h2, Rc.cong h1.symm (fun i hi => by rw [h1] at hi; exact ⟨(h2 i hi).1.symm, (h2 i hi).2.symm⟩)⟩
theorem WF_shaft {D : Dr} (hW : WF D) {k q : Nat} (hk : k ≤ 4) (hq1 : 1 ≤ q) (hq : q ≤ 15) (hS : D 0 ≠ 10) : WF (va_up (va_up (va_up D (3 + 2 * D 0) k) (4 + 2 * D 0) q) 0 (D 0 + 1)) := by
  have h0 := hW.S
  have hP := hW.P
  have hT := hW.T
  have e : ∀ j, j ≠ 0 → j ≠ 3 + 2 * D 0 → j ≠ 4 + 2 * D 0 → va_up (va_up (va_up D (3 + 2 * D 0) k) (4 + 2 * D 0) q) 0 (D 0 + 1) j = D j := fun j a b c => by rw [up_n _ _ a, up_n _ _ c, up_n _ _ b]
  have e0 : va_up (va_up (va_up D (3 + 2 * D 0) k) (4 + 2 * D 0) q) 0 (D 0 + 1) 0 = D 0 + 1 := up_s _ _ _
  have e1 : va_up (va_up (va_up D (3 + 2 * D 0) k) (4 + 2 * D 0) q) 0 (D 0 + 1) (3 + 2 * D 0) = k := by rw [up_n _ _ (by omega), up_n _ _ (by omega), up_s]
  have e2 : va_up (va_up (va_up D (3 + 2 * D 0) k) (4 + 2 * D 0) q) 0 (D 0 + 1) (4 + 2 * D 0) = q := by rw [up_n _ _ (by omega), up_s]
  generalize va_up (va_up (va_up D (3 + 2 * D 0) k) (4 + 2 * D 0) q) 0 (D 0 + 1) = D' at e e0 e1 e2
  have eP : D' 1 = D 1 := e 1 (by omega) (by omega) (by omega)
  have eT : D' 2 = D 2 := e 2 (by omega) (by omega) (by omega)
  refine ⟨by omega, by omega, by omega, ?_, ?_, ?_, ?_, ?_⟩
  · intro j hj
    by_cases a : j = 0
    · subst a; omega
    · by_cases b : j = 3 + 2 * D 0
      · rw [b, e1]; omega
      · by_cases c : j = 4 + 2 * D 0
        · rw [c, e2]; omega
        · rw [e j a b c]; exact hW.all j hj
  · intro a ha
    by_cases b : a = D 0
    · rw [b, e1, e2]; omega
    · rw [e (3 + 2 * a) (by omega) (by omega) (by omega), e (4 + 2 * a) (by omega) (by omega) (by omega)]
      exact hW.shaft (by omega)
  · intro i hi
    rw [eP] at hi
    have h := hW.pipe hi
    simp only [fr, tt, lw, hg] at h ⊢
    rw [e (23 + 4 * i) (by omega) (by omega) (by omega), e (24 + 4 * i) (by omega) (by omega) (by omega), e (25 + 4 * i) (by omega) (by omega) (by omega), e (26 + 4 * i) (by omega) (by omega) (by omega)]
    omega
  · intro t ht
    rw [eT] at ht
    have h := hW.sight ht
    rw [e (87 + 3 * t) (by omega) (by omega) (by omega), e (88 + 3 * t) (by omega) (by omega) (by omega), e (89 + 3 * t) (by omega) (by omega) (by omega)]
    omega
  · refine Ac.cong eP (fun i hi => ?_) hW.ac
    simp only [fr, tt]
    rw [e (23 + 4 * i) (by omega) (by omega) (by omega), e (24 + 4 * i) (by omega) (by omega) (by omega)]
    exact ⟨rfl, rfl⟩
theorem WF_sets {D : Dr} (hW : WF D) {a w v : Nat} (ha : a < D 0) (hv : w = 0 ∧ v ≤ 4 ∨ w = 1 ∧ 1 ≤ v ∧ v ≤ 15) : WF (va_up D (3 + 2 * a + w) v) := by
  have h0 := hW.S
  have hP := hW.P
  have hT := hW.T
  have e : ∀ j, j ≠ 3 + 2 * a + w → va_up D (3 + 2 * a + w) v j = D j := fun j b => up_n _ _ b
  have e1 : va_up D (3 + 2 * a + w) v (3 + 2 * a + w) = v := up_s _ _ _
  generalize va_up D (3 + 2 * a + w) v = D' at e e1
  have eS : D' 0 = D 0 := e 0 (by omega)
  have eP : D' 1 = D 1 := e 1 (by omega)
  have eT : D' 2 = D 2 := e 2 (by omega)
  refine ⟨by omega, by omega, by omega, ?_, ?_, ?_, ?_, ?_⟩
  · intro j hj
    by_cases b : j = 3 + 2 * a + w
    · rw [b, e1]; omega
    · rw [e j b]; exact hW.all j hj
  · intro b hb
    rw [eS] at hb
    have h := hW.shaft hb
    by_cases c : b = a
    · subst c
      rcases hv with ⟨rfl, hv⟩ | ⟨rfl, hv⟩
      · have e1' : D' (3 + 2 * b) = v := e1
        rw [e1', e (4 + 2 * b) (by omega)]; omega
      · have e1' : D' (4 + 2 * b) = v := by rw [← e1]; congr 1; omega
        rw [e1', e (3 + 2 * b) (by omega)]; omega
    · rw [e (3 + 2 * b) (by omega), e (4 + 2 * b) (by omega)]; exact h
  · intro i hi
    rw [eP] at hi
    have h := hW.pipe hi
    simp only [fr, tt, lw, hg] at h ⊢
    rw [e (23 + 4 * i) (by omega), e (24 + 4 * i) (by omega), e (25 + 4 * i) (by omega), e (26 + 4 * i) (by omega), eS]
    exact h
  · intro t ht
    rw [eT] at ht
    have h := hW.sight ht
    rw [e (87 + 3 * t) (by omega), e (88 + 3 * t) (by omega), e (89 + 3 * t) (by omega), eS]
    exact h
  · refine Ac.cong eP (fun i hi => ?_) hW.ac
    simp only [fr, tt]
    rw [e (23 + 4 * i) (by omega), e (24 + 4 * i) (by omega)]
    exact ⟨rfl, rfl⟩
theorem WF_sight {D : Dr} (hW : WF D) {s a m : Nat} (hs : s ≤ 1) (ha : a < D 0) (hm : m ≤ 62) (hT12 : D 2 ≠ 12) : WF (va_up (va_up (va_up (va_up D (87 + 3 * D 2) s) (88 + 3 * D 2) a) (89 + 3 * D 2) m) 2 (D 2 + 1)) := by
  have h0 := hW.S
  have hP := hW.P
  have hT := hW.T
  have e : ∀ j, j ≠ 2 → j ≠ 87 + 3 * D 2 → j ≠ 88 + 3 * D 2 → j ≠ 89 + 3 * D 2 → va_up (va_up (va_up (va_up D (87 + 3 * D 2) s) (88 + 3 * D 2) a) (89 + 3 * D 2) m) 2 (D 2 + 1) j = D j := fun j a b c d => by rw [up_n _ _ a, up_n _ _ d, up_n _ _ c, up_n _ _ b]
  have e0 : va_up (va_up (va_up (va_up D (87 + 3 * D 2) s) (88 + 3 * D 2) a) (89 + 3 * D 2) m) 2 (D 2 + 1) 2 = D 2 + 1 := up_s _ _ _
  have e1 : va_up (va_up (va_up (va_up D (87 + 3 * D 2) s) (88 + 3 * D 2) a) (89 + 3 * D 2) m) 2 (D 2 + 1) (87 + 3 * D 2) = s := by rw [up_n _ _ (by omega), up_n _ _ (by omega), up_n _ _ (by omega), up_s]
  have e2 : va_up (va_up (va_up (va_up D (87 + 3 * D 2) s) (88 + 3 * D 2) a) (89 + 3 * D 2) m) 2 (D 2 + 1) (88 + 3 * D 2) = a := by rw [up_n _ _ (by omega), up_n _ _ (by omega), up_s]
  have e3 : va_up (va_up (va_up (va_up D (87 + 3 * D 2) s) (88 + 3 * D 2) a) (89 + 3 * D 2) m) 2 (D 2 + 1) (89 + 3 * D 2) = m := by rw [up_n _ _ (by omega), up_s]
  generalize va_up (va_up (va_up (va_up D (87 + 3 * D 2) s) (88 + 3 * D 2) a) (89 + 3 * D 2) m) 2 (D 2 + 1) = D' at e e0 e1 e2 e3
  have eS : D' 0 = D 0 := e 0 (by omega) (by omega) (by omega) (by omega)
  have eP : D' 1 = D 1 := e 1 (by omega) (by omega) (by omega) (by omega)
  refine ⟨by omega, by omega, by omega, ?_, ?_, ?_, ?_, ?_⟩
  · intro j hj
    by_cases b0 : j = 2
    · subst b0; omega
    · by_cases b1 : j = 87 + 3 * D 2
      · rw [b1, e1]; omega
      · by_cases b2 : j = 88 + 3 * D 2
        · rw [b2, e2]; omega
        · by_cases b3 : j = 89 + 3 * D 2
          · rw [b3, e3]; omega
          · rw [e j b0 b1 b2 b3]; exact hW.all j hj
  · intro b hb
    rw [eS] at hb
    rw [e (3 + 2 * b) (by omega) (by omega) (by omega) (by omega), e (4 + 2 * b) (by omega) (by omega) (by omega) (by omega)]
    exact hW.shaft hb
  · intro i hi
    rw [eP] at hi
    have h := hW.pipe hi
    simp only [fr, tt, lw, hg] at h ⊢
    rw [e (23 + 4 * i) (by omega) (by omega) (by omega) (by omega), e (24 + 4 * i) (by omega) (by omega) (by omega) (by omega), e (25 + 4 * i) (by omega) (by omega) (by omega) (by omega), e (26 + 4 * i) (by omega) (by omega) (by omega) (by omega), eS]
    exact h
  · intro t ht
    by_cases b : t = D 2
    · rw [b, e1, e2, e3]; omega
    · have h := hW.sight (show t < D 2 by omega)
      rw [e (87 + 3 * t) (by omega) (by omega) (by omega) (by omega), e (88 + 3 * t) (by omega) (by omega) (by omega) (by omega), e (89 + 3 * t) (by omega) (by omega) (by omega) (by omega), eS]
      exact h
  · refine Ac.cong eP (fun i hi => ?_) hW.ac
    simp only [fr, tt]
    rw [e (23 + 4 * i) (by omega) (by omega) (by omega) (by omega), e (24 + 4 * i) (by omega) (by omega) (by omega) (by omega)]
    exact ⟨rfl, rfl⟩
theorem WF_forget {D : Dr} (hW : WF D) : WF (va_up D 2 0) := by
  have e : ∀ j, j ≠ 2 → va_up D 2 0 j = D j := fun j b => up_n _ _ b
  have e1 : va_up D 2 0 2 = 0 := up_s _ _ _
  generalize va_up D 2 0 = D' at e e1
  have eS : D' 0 = D 0 := e 0 (by omega)
  have eP : D' 1 = D 1 := e 1 (by omega)
  refine ⟨by rw [eS]; exact hW.S, by rw [eP]; exact hW.P, by omega, ?_, ?_, ?_, ?_, ?_⟩
  · intro j hj
    by_cases b : j = 2
    · rw [b, e1]; omega
    · rw [e j b]; exact hW.all j hj
  · intro b hb
    rw [eS] at hb
    rw [e _ (by omega), e _ (by omega)]
    exact hW.shaft hb
  · intro i hi
    rw [eP] at hi
    have h := hW.pipe hi
    simp only [fr, tt, lw, hg] at h ⊢
    rw [e _ (by omega), e _ (by omega), e _ (by omega), e _ (by omega), e _ (by omega)]
    exact h
  · intro t ht; omega
  · refine Ac.cong eP (fun i hi => ?_) hW.ac
    simp only [fr, tt]
    rw [e _ (by omega), e _ (by omega)]
    exact ⟨rfl, rfl⟩
/-- one pipe more: a way through it once, at most, where it closes no ring -/
theorem Rn.more {D D' : Dr} {a b : Nat} (h1 : D' 1 = D 1 + 1) (h2 : ∀ i, i < D 1 → fr D' i = fr D i ∧ tt D' i = tt D i) (ha : fr D' (D 1) = a) (hb : tt D' (D 1) = b) : ∀ (n x w : Nat), Rn D' n x w → Rc D x w ∨ (Rc D x a ∧ Rc D b w)
  | 0, x, w, h => by
    have e : x = w := h
    rw [e]
    exact Or.inl (Rc.self D w)
  | n + 1, x, w, h => by
    obtain ⟨i, hi, e, h3⟩ := h
    have ih := Rn.more h1 h2 ha hb n _ w h3
    by_cases c : i = D 1
    · subst c
      rw [hb] at ih
      rw [ha] at e
      subst e
      right
      refine ⟨Rc.self D a, ?_⟩
      rcases ih with ih | ih
      · exact ih
      · exact ih.2
    · have hi2 : i < D 1 := by omega
      obtain ⟨e1, e2⟩ := h2 i hi2
      rw [e1] at e
      subst e
      rw [e2] at ih
      rcases ih with ih | ih
      · exact Or.inl (Rc.head hi2 ih)
      · exact Or.inr ⟨Rc.head hi2 ih.1, ih.2⟩
theorem WF_pipe {D : Dr} (hW : WF D) {a b x y : Nat} (ha : a < D 0) (hb : b < D 0) (hxy : x ≤ y) (hy : y ≤ 9) (hr : ¬ Rc D b a) (hP16 : D 1 ≠ 16) : WF (va_up (va_up (va_up (va_up (va_up D (23 + 4 * D 1) a) (24 + 4 * D 1) b) (25 + 4 * D 1) x) (26 + 4 * D 1) y) 1 (D 1 + 1)) := by
  have h0 := hW.S
  have hP := hW.P
  have hT := hW.T
  have e : ∀ j, j ≠ 1 → j ≠ 23 + 4 * D 1 → j ≠ 24 + 4 * D 1 → j ≠ 25 + 4 * D 1 → j ≠ 26 + 4 * D 1 → va_up (va_up (va_up (va_up (va_up D (23 + 4 * D 1) a) (24 + 4 * D 1) b) (25 + 4 * D 1) x) (26 + 4 * D 1) y) 1 (D 1 + 1) j = D j := fun j a b c d f => by rw [up_n _ _ a, up_n _ _ f, up_n _ _ d, up_n _ _ c, up_n _ _ b]
  have e0 : va_up (va_up (va_up (va_up (va_up D (23 + 4 * D 1) a) (24 + 4 * D 1) b) (25 + 4 * D 1) x) (26 + 4 * D 1) y) 1 (D 1 + 1) 1 = D 1 + 1 := up_s _ _ _
  have e1 : va_up (va_up (va_up (va_up (va_up D (23 + 4 * D 1) a) (24 + 4 * D 1) b) (25 + 4 * D 1) x) (26 + 4 * D 1) y) 1 (D 1 + 1) (23 + 4 * D 1) = a := by rw [up_n _ _ (by omega), up_n _ _ (by omega), up_n _ _ (by omega), up_n _ _ (by omega), up_s]
  have e2 : va_up (va_up (va_up (va_up (va_up D (23 + 4 * D 1) a) (24 + 4 * D 1) b) (25 + 4 * D 1) x) (26 + 4 * D 1) y) 1 (D 1 + 1) (24 + 4 * D 1) = b := by rw [up_n _ _ (by omega), up_n _ _ (by omega), up_n _ _ (by omega), up_s]
  have e3 : va_up (va_up (va_up (va_up (va_up D (23 + 4 * D 1) a) (24 + 4 * D 1) b) (25 + 4 * D 1) x) (26 + 4 * D 1) y) 1 (D 1 + 1) (25 + 4 * D 1) = x := by rw [up_n _ _ (by omega), up_n _ _ (by omega), up_s]
  have e4 : va_up (va_up (va_up (va_up (va_up D (23 + 4 * D 1) a) (24 + 4 * D 1) b) (25 + 4 * D 1) x) (26 + 4 * D 1) y) 1 (D 1 + 1) (26 + 4 * D 1) = y := by rw [up_n _ _ (by omega), up_s]
  generalize va_up (va_up (va_up (va_up (va_up D (23 + 4 * D 1) a) (24 + 4 * D 1) b) (25 + 4 * D 1) x) (26 + 4 * D 1) y) 1 (D 1 + 1) = D' at e e0 e1 e2 e3 e4
  have eS : D' 0 = D 0 := e 0 (by omega) (by omega) (by omega) (by omega) (by omega)
  have eT : D' 2 = D 2 := e 2 (by omega) (by omega) (by omega) (by omega) (by omega)
  have old : ∀ i, i < D 1 → fr D' i = fr D i ∧ tt D' i = tt D i := fun i hi => ⟨e _ (by omega) (by omega) (by omega) (by omega) (by omega), e _ (by omega) (by omega) (by omega) (by omega) (by omega)⟩
  refine ⟨by omega, by omega, by omega, ?_, ?_, ?_, ?_, ?_⟩
  · intro j hj
    by_cases b0 : j = 1
    · subst b0; omega
    · by_cases b1 : j = 23 + 4 * D 1
      · rw [b1, e1]; omega
      · by_cases b2 : j = 24 + 4 * D 1
        · rw [b2, e2]; omega
        · by_cases b3 : j = 25 + 4 * D 1
          · rw [b3, e3]; omega
          · by_cases b4 : j = 26 + 4 * D 1
            · rw [b4, e4]; omega
            · rw [e j b0 b1 b2 b3 b4]; exact hW.all j hj
  · intro c hc
    rw [eS] at hc
    rw [e _ (by omega) (by omega) (by omega) (by omega) (by omega), e _ (by omega) (by omega) (by omega) (by omega) (by omega)]
    exact hW.shaft hc
  · intro i hi
    by_cases c : i = D 1
    · subst c
      simp only [fr, tt, lw, hg]
      rw [e1, e2, e3, e4, eS]
      omega
    · have h := hW.pipe (show i < D 1 by omega)
      simp only [fr, tt, lw, hg] at h ⊢
      rw [e _ (by omega) (by omega) (by omega) (by omega) (by omega), e _ (by omega) (by omega) (by omega) (by omega) (by omega), e _ (by omega) (by omega) (by omega) (by omega) (by omega), e _ (by omega) (by omega) (by omega) (by omega) (by omega), e _ (by omega) (by omega) (by omega) (by omega) (by omega)]
      exact h
  · intro t ht
    rw [eT] at ht
    have h := hW.sight ht
    rw [e _ (by omega) (by omega) (by omega) (by omega) (by omega), e _ (by omega) (by omega) (by omega) (by omega) (by omega), e _ (by omega) (by omega) (by omega) (by omega) (by omega), e _ (by omega) (by omega) (by omega) (by omega) (by omega)]
    exact h
  · rintro i hi ⟨n, hc⟩
    have hm := Rn.more e0 old e1 e2 n _ _ hc
    by_cases c : i = D 1
    · subst c
      simp only [fr, tt] at hm
      rw [e1, e2] at hm
      rcases hm with hm | hm
      · exact hr hm
      · exact hr hm.1
    · have hi2 : i < D 1 := by omega
      obtain ⟨f1, f2⟩ := old i hi2
      rw [f1, f2] at hm
      rcases hm with hm | ⟨h1, h2⟩
      · exact hW.ac i hi2 hm
      · exact hr ((h2.tail hi2).trans h1)
theorem Rn.fewer {D D' : Dr} {g : Nat → Nat} (h : ∀ i, i < D' 1 → g i < D 1 ∧ fr D' i = fr D (g i) ∧ tt D' i = tt D (g i)) : ∀ (n a w : Nat), Rn D' n a w → Rn D n a w
  | 0, _, _, q => q
  | n + 1, a, w, q => by
    obtain ⟨i, hi, e, h3⟩ := q
    obtain ⟨h1, h2, h4⟩ := h i hi
    exact ⟨g i, h1, by rw [← h2]; exact e, by rw [← h4]; exact Rn.fewer h n _ w h3⟩
theorem WF_drop {D : Dr} (hW : WF D) {i : Nat} (hi : i < D 1) : WF (dropD D i) := by
  have h0 := hW.S
  have hP := hW.P
  have hT := hW.T
  have e : ∀ j, j ≠ 1 → (j < 23 ∨ 87 ≤ j) → dropD D i j = D j := fun j a b => by unfold dropD; rw [if_neg a, if_neg (by omega)]
  have e0 : dropD D i 1 = D 1 - 1 := by unfold dropD; rw [if_pos rfl]
  have ep : ∀ j w, j < D 1 - 1 → w < 4 → dropD D i (23 + 4 * j + w) = D (23 + 4 * (if i ≤ j then j + 1 else j) + w) := by
    intro j w hj hw
    unfold dropD
    rw [if_neg (by omega)]
    by_cases c : i ≤ j
    · rw [if_pos (by omega), if_pos c]
      congr 1
      omega
    · rw [if_neg (by omega), if_neg c]
  have hg' : ∀ j, j < D 1 - 1 → (if i ≤ j then j + 1 else j) < D 1 := fun j hj => by split <;> omega
  have p0 : ∀ j, j < D 1 - 1 → fr (dropD D i) j = fr D (if i ≤ j then j + 1 else j) := fun j hj => ep j 0 hj (by decide)
  have p1 : ∀ j, j < D 1 - 1 → tt (dropD D i) j = tt D (if i ≤ j then j + 1 else j) := fun j hj => by
    have := ep j 1 hj (by decide)
    rw [show 23 + 4 * j + 1 = 24 + 4 * j by omega, show ∀ z, 23 + 4 * z + 1 = 24 + 4 * z from fun z => by omega] at this
    exact this
  have p2 : ∀ j, j < D 1 - 1 → lw (dropD D i) j = lw D (if i ≤ j then j + 1 else j) := fun j hj => by
    have := ep j 2 hj (by decide)
    rw [show 23 + 4 * j + 2 = 25 + 4 * j by omega, show ∀ z, 23 + 4 * z + 2 = 25 + 4 * z from fun z => by omega] at this
    exact this
  have p3 : ∀ j, j < D 1 - 1 → hg (dropD D i) j = hg D (if i ≤ j then j + 1 else j) := fun j hj => by
    have := ep j 3 hj (by decide)
    rw [show 23 + 4 * j + 3 = 26 + 4 * j by omega, show ∀ z, 23 + 4 * z + 3 = 26 + 4 * z from fun z => by omega] at this
    exact this
  have eall : ∀ j, j < 123 → dropD D i j < 128 := by
    intro j hj
    unfold dropD
    split
    · omega
    · split
      · exact hW.all (j + 4) (by omega)
      · exact hW.all j hj
  have e00 : dropD D i 0 = D 0 := e 0 (by omega) (by omega)
  have e02 : dropD D i 2 = D 2 := e 2 (by omega) (by omega)
  generalize dropD D i = D' at e e0 p0 p1 p2 p3 eall e00 e02
  refine ⟨by omega, by omega, by omega, eall, ?_, ?_, ?_, ?_⟩
  · intro c hc
    rw [e00] at hc
    rw [e _ (by omega) (by omega), e _ (by omega) (by omega)]
    exact hW.shaft hc
  · intro j hj
    rw [e0] at hj
    have h := hW.pipe (hg' j hj)
    rw [p0 j hj, p1 j hj, p2 j hj, p3 j hj, e00]
    exact h
  · intro t ht
    rw [e02] at ht
    have h := hW.sight ht
    rw [e _ (by omega) (by omega), e _ (by omega) (by omega), e _ (by omega) (by omega), e _ (by omega) (by omega)]
    exact h
  · rintro j hj ⟨n, hc⟩
    rw [e0] at hj
    have := Rn.fewer (D := D) (g := fun j => if i ≤ j then j + 1 else j) (fun q hq => by rw [e0] at hq; exact ⟨hg' q hq, p0 q hq, p1 q hq⟩) n _ _ hc
    rw [p0 j hj, p1 j hj] at this
    exact hW.ac _ (hg' j hj) ⟨n, this⟩
-- the orders as they are
theorem aShaft_WF {D : Dr} (hW : WF D) (x1 x2 : Int32) : WF (aShaft x1 x2 D).2 := by
  unfold aShaft
  by_cases h : btw x1 0 4 ∧ btw x2 1 15
  · rw [bif_pos h]
    by_cases h2 : D 0 = 10
    · rw [if_pos h2]; exact hW
    · rw [if_neg h2]
      have a1 := h.1.cl (by decide)
      have a2 := h.2.cl (by decide)
      exact WF_shaft hW a1.2.1 a2.1 a2.2.1 h2
  · rw [bif_neg h]; exact hW
theorem aSets_WF {D : Dr} (hW : WF D) (x1 x2 x3 : Int32) : WF (aSets x1 x2 x3 D).2 := by
  unfold aSets
  have hS := hW.S
  by_cases h : ok x1 (D 0) ∧ (x2 = 0 ∧ btw x3 0 4 ∨ x2 = 1 ∧ btw x3 1 15)
  · rw [bif_pos h]
    refine WF_sets hW (h.1.cl (by omega)).1 ?_
    rcases h.2 with ⟨rfl, h3⟩ | ⟨rfl, h3⟩
    · exact Or.inl ⟨by decide, (h3.cl (by decide)).2.1⟩
    · exact Or.inr ⟨by decide, (h3.cl (by decide)).1, (h3.cl (by decide)).2.1⟩
  · rw [bif_neg h]; exact hW
theorem aPipe_WF {D : Dr} (hW : WF D) (x1 x2 x3 x4 : Int32) : WF (aPipe x1 x2 x3 x4 D).2 := by
  unfold aPipe
  have hS := hW.S
  by_cases h : ok x1 (D 0) ∧ ok x2 (D 0) ∧ ¬ x1 = x2 ∧ btw x3 0 9 ∧ x3 ≤ x4 ∧ x4 ≤ 9
  · rw [bif_pos h]
    by_cases h2 : Rc D x2.toNatClampNeg x1.toNatClampNeg
    · rw [bif_pos h2]; exact hW
    · rw [bif_neg h2]
      by_cases h3 : D 1 = 16
      · rw [if_pos h3]; exact hW
      · rw [if_neg h3]
        obtain ⟨k1, k2, -, k3, k4, k5⟩ := h
        obtain ⟨c1, c2, c3⟩ := k3.cl (by decide)
        have hb : btw x4 x3.toNatClampNeg 9 := (inN (by omega) (by decide)).mp ⟨by rw [← c3]; exact k4, k5⟩
        exact WF_pipe hW (k1.cl (by omega)).1 (k2.cl (by omega)).1 (hb.cl (by decide)).1 (hb.cl (by decide)).2.1 h2 h3
  · rw [bif_neg h]; exact hW
theorem aDrop_WF {D : Dr} (hW : WF D) (x1 : Int32) : WF (aDrop x1 D).2 := by
  unfold aDrop
  have hP := hW.P
  by_cases h : ok x1 (D 1)
  · rw [bif_pos h]; exact WF_drop hW (h.cl (by omega)).1
  · rw [bif_neg h]; exact hW
theorem aSight_WF {D : Dr} (hW : WF D) (x1 x2 x3 : Int32) : WF (aSight x1 x2 x3 D).2 := by
  unfold aSight
  have hS := hW.S
  by_cases h : btw x1 0 1 ∧ ok x2 (D 0) ∧ btw x3 0 62
  · rw [bif_pos h]
    by_cases h2 : D 2 = 12
    · rw [if_pos h2]; exact hW
    · rw [if_neg h2]
      exact WF_sight hW (h.1.cl (by decide)).2.1 (h.2.1.cl (by omega)).1 (h.2.2.cl (by decide)).2.1 h2
  · rw [bif_neg h]; exact hW
theorem aForget_WF {D : Dr} (hW : WF D) : WF (aForget D).2 := WF_forget hW
