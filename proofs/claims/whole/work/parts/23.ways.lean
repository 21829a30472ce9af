/-! The class's rows 'below' and 'route', by numbers. -/
theorem ct_lt {p q : Nat → Bool} {n k : Nat} (hs : ∀ j, j < n → p j = true → q j = true) (hk : k < n) (hp : p k = false) (hq : q k = true) : fb_ct p n < fb_ct q n := by
  have e1 : fb_ct q n = fb_ct (fun j => p j || (q j && !p j)) n := fb_ct_cong fun j hj => by
    have := hs j hj
    cases h1 : p j <;> cases h2 : q j <;> simp_all
  have e2 : fb_ct (fun j => p j || (q j && !p j)) n = fb_ct p n + fb_ct (fun j => q j && !p j) n := fb_ct_or (p := p) (q := fun j => q j && !p j) fun j _ h => by
    obtain ⟨a, b⟩ := h
    simp [a] at b
  have e3 : 0 < fb_ct (fun j => q j && !p j) n := fb_ct_pos.mpr ⟨k, hk, by simp [hp, hq]⟩
  omega
/-- how many shafts are below -/
noncomputable def sz (D : Dr) (a : Nat) : Nat := fb_ct (bl D a).testBit 10
theorem sz_le {D : Dr} (hW : WF D) {a : Nat} (ha : a < D 0) : sz D a ≤ D 0 := by
  have hS := hW.S
  have h1 : sz D a ≤ fb_ct (fun k => decide (k < D 0)) 10 := fb_ct_sub fun k _ h => by
    rw [decide_eq_true_eq]
    exact ((bl_bit D a k).mp h).2.lt hW ha
  have h2 : ∀ n, fb_ct (fun k => decide (k < D 0)) n ≤ D 0 ∧ (n ≤ D 0 → fb_ct (fun k => decide (k < D 0)) n = n) := by
    intro n
    induction n with
    | zero => exact ⟨Nat.zero_le _, fun _ => rfl⟩
    | succ n ih =>
      rw [fb_ct_succ]
      by_cases c : n < D 0
      · have := ih.2 (by omega)
        simp only [c, decide_true, if_true]
        omega
      · have := ih.1
        simp only [c, decide_false, Bool.false_eq_true, if_false]
        omega
  have := (h2 10).1
  omega
theorem sz_pos {D : Dr} (hW : WF D) {a : Nat} (ha : a < D 0) : 1 ≤ sz D a := by
  have hS := hW.S
  exact fb_ct_pos.mpr ⟨a, by omega, (bl_bit D a a).mpr ⟨by omega, Rc.self D a⟩⟩
theorem sz_lt {D : Dr} (hW : WF D) {i : Nat} (hi : i < D 1) : sz D (tt D i) < sz D (fr D i) := by
  have hS := hW.S
  have h := hW.pipe hi
  refine ct_lt (k := fr D i) (fun j _ hj => ?_) (by omega) ?_ ((bl_bit _ _ _).mpr ⟨by omega, Rc.self D _⟩)
  · have := (bl_bit _ _ _).mp hj
    exact (bl_bit _ _ _).mpr ⟨this.1, Rc.head hi this.2⟩
  · cases hb : (bl D (tt D i)).testBit (fr D i) with
    | false => rfl
    | true => exact absurd ((bl_bit _ _ _).mp hb).2 (hW.ac i hi)
-- below, sweep by sweep
def bs (D : Dr) (B : Nat → Nat) : Nat → Nat → Nat
  | 0 => B
  | i + 1 => va_up (bs D B i) (fr D i) (bs D B i (fr D i) ||| bs D B i (tt D i))
def br (D : Dr) : Nat → Nat → Nat
  | 0 => fun a => 2 ^ a
  | n + 1 => bs D (br D n) (D 1)
theorem bs_mono {D : Dr} {B : Nat → Nat} {a w : Nat} : ∀ (i d : Nat), (bs D B i a).testBit w = true → (bs D B (i + d) a).testBit w = true
  | i, 0, h => h
  | i, d + 1, h => by
    have ih := bs_mono i d h
    show (va_up (bs D B (i + d)) (fr D (i + d)) (bs D B (i + d) (fr D (i + d)) ||| bs D B (i + d) (tt D (i + d))) a).testBit w = true
    by_cases c : a = fr D (i + d)
    · subst c
      rw [up_s, Nat.testBit_or, ih, Bool.true_or]
    · rw [up_n _ _ c]; exact ih
theorem bs_sound {D : Dr} {B : Nat → Nat} {w : Nat} (h : ∀ a, (B a).testBit w = true → Rc D a w) : ∀ i, i ≤ D 1 → ∀ a, (bs D B i a).testBit w = true → Rc D a w
  | 0, _, a, ha => h a ha
  | i + 1, hi, a, ha => by
    have ih := bs_sound h i (by omega)
    have ha' : (va_up (bs D B i) (fr D i) (bs D B i (fr D i) ||| bs D B i (tt D i)) a).testBit w = true := ha
    by_cases c : a = fr D i
    · subst c
      rw [up_s, Nat.testBit_or, Bool.or_eq_true] at ha'
      rcases ha' with q | q
      · exact ih _ q
      · exact Rc.head (by omega) (ih _ q)
    · rw [up_n _ _ c] at ha'
      exact ih a ha'
theorem bs_lt {D : Dr} (hW : WF D) {B : Nat → Nat} (h : ∀ a, a < D 0 → B a < 1024) : ∀ i, i ≤ D 1 → ∀ a, a < D 0 → bs D B i a < 1024
  | 0, _, a, ha => h a ha
  | i + 1, hi, a, ha => by
    have ih := bs_lt hW h i (by omega)
    have hp := hW.pipe (show i < D 1 by omega)
    show va_up (bs D B i) (fr D i) (bs D B i (fr D i) ||| bs D B i (tt D i)) a < 1024
    by_cases c : a = fr D i
    · subst c
      rw [up_s]
      exact Nat.or_lt_two_pow (n := 10) (ih _ hp.1) (ih _ hp.2.1)
    · rw [up_n _ _ c]; exact ih a ha
theorem br_lt {D : Dr} (hW : WF D) : ∀ n a, a < D 0 → br D n a < 1024
  | 0, a, ha => by
    have hS := hW.S
    have : 2 ^ a < 2 ^ 10 := Nat.pow_lt_pow_right (by decide) (by omega)
    exact this
  | n + 1, a, ha => bs_lt hW (br_lt hW n) (D 1) (Nat.le_refl _) a ha
theorem br_sound {D : Dr} {w : Nat} : ∀ n a, (br D n a).testBit w = true → Rc D a w
  | 0, a, h => by
    have h' : (2 ^ a).testBit w = true := h
    rw [Nat.testBit_two_pow, decide_eq_true_eq] at h'
    rw [h']; exact Rc.self D w
  | n + 1, a, h => bs_sound (br_sound n) (D 1) (Nat.le_refl _) a h
theorem br_self (D : Dr) (a : Nat) : ∀ n, (br D n a).testBit a = true
  | 0 => by show (2 ^ a).testBit a = true; simp
  | n + 1 => by
    have := bs_mono (D := D) (B := br D n) (a := a) (w := a) 0 (D 1) (br_self D a n)
    rw [Nat.zero_add] at this
    exact this
def Cw (D : Dr) (B : Nat → Nat) (w : Nat) : Prop := ∀ i, i < D 1 → (B (tt D i)).testBit w = true → (B (fr D i)).testBit w = true
theorem bs_closed {D : Dr} {B : Nat → Nat} {w : Nat} (h : Cw D B w) : ∀ i, i ≤ D 1 → ∀ a, (bs D B i a).testBit w = (B a).testBit w
  | 0, _, _ => rfl
  | i + 1, hi, a => by
    have ih := bs_closed h i (by omega)
    show (va_up (bs D B i) (fr D i) (bs D B i (fr D i) ||| bs D B i (tt D i)) a).testBit w = _
    by_cases c : a = fr D i
    · subst c
      rw [up_s, Nat.testBit_or, ih, ih]
      have := h i (by omega)
      cases h1 : (B (tt D i)).testBit w <;> cases h2 : (B (fr D i)).testBit w <;> simp_all
    · rw [up_n _ _ c]; exact ih a
theorem br_count {D : Dr} (hW : WF D) {w : Nat} (hw : w < D 0) : ∀ n, Cw D (br D n) w ∨ n + 1 ≤ fb_ct (fun a => (br D n a).testBit w) (D 0)
  | 0 => Or.inr (fb_ct_pos.mpr ⟨w, hw, br_self D w 0⟩)
  | n + 1 => by
    rcases br_count hW hw n with ih | ih
    · left
      intro i hi h
      rw [show br D (n + 1) = bs D (br D n) (D 1) from rfl, bs_closed ih _ (Nat.le_refl _)] at h ⊢
      exact ih i hi h
    · by_cases c : Cw D (br D n) w
      · left
        intro i hi h
        rw [show br D (n + 1) = bs D (br D n) (D 1) from rfl, bs_closed c _ (Nat.le_refl _)] at h ⊢
        exact c i hi h
      · right
        have hx : ∃ i, i < D 1 ∧ (br D n (tt D i)).testBit w = true ∧ ¬ (br D n (fr D i)).testBit w = true := by
          apply Classical.byContradiction
          intro hn
          exact c fun i hi h => Classical.byContradiction fun q => hn ⟨i, hi, h, q⟩
        obtain ⟨i, hi, h1, h2⟩ := hx
        have hlt : fb_ct (fun a => (br D n a).testBit w) (D 0) < fb_ct (fun a => (br D (n + 1) a).testBit w) (D 0) := by
          refine ct_lt (k := fr D i) (fun j _ hj => ?_) (hW.pipe hi).1 (by simpa using h2) ?_
          · have := bs_mono (D := D) (B := br D n) (a := j) (w := w) 0 (D 1) hj
            rw [Nat.zero_add] at this
            exact this
          · have a1 := bs_mono (D := D) (B := br D n) (a := tt D i) (w := w) 0 i h1
            rw [Nat.zero_add] at a1
            have a2 : (bs D (br D n) (i + 1) (fr D i)).testBit w = true := by
              show (va_up (bs D (br D n) i) (fr D i) (bs D (br D n) i (fr D i) ||| bs D (br D n) i (tt D i)) (fr D i)).testBit w = true
              rw [up_s, Nat.testBit_or, a1, Bool.or_true]
            have a3 := bs_mono (D := D) (B := br D n) (a := fr D i) (w := w) (i + 1) (D 1 - (i + 1)) a2
            rw [show i + 1 + (D 1 - (i + 1)) = D 1 by omega] at a3
            exact a3
        omega
theorem br_done {D : Dr} (hW : WF D) {a : Nat} (ha : a < D 0) : br D (D 0 - 1) a = bl D a := by
  have hS := hW.S
  refine bl_of (br_lt hW _ a ha) (fun w _ => ⟨br_sound _ a, fun h => ?_⟩)
  have hw : w < D 0 := h.lt hW ha
  have hc : Cw D (br D (D 0 - 1)) w := by
    rcases br_count hW hw (D 0 - 1) with q | q
    · exact q
    · have h1 := fb_ct_le (fun a => (br D (D 0 - 1) a).testBit w) (D 0)
      have h2 : fb_ct (fun a => (br D (D 0 - 1) a).testBit w) (D 0) = D 0 := by omega
      intro i hi _
      exact fb_ct_all.mp h2 _ (hW.pipe hi).1
  obtain ⟨n, h⟩ := h
  have key : ∀ (n a : Nat), Rn D n a w → (br D (D 0 - 1) a).testBit w = true := by
    intro n
    induction n with
    | zero =>
      intro a h
      have e : a = w := h
      rw [e]; exact br_self D w _
    | succ n ih =>
      intro a h
      obtain ⟨i, hi, e, h3⟩ := h
      rw [← e]
      exact hc i hi (ih _ h3)
  exact key n a h
-- the route
def RO (D : Dr) (f : Nat → Nat) : Prop := (∀ n, n < D 1 → f n < D 1) ∧ (∀ j, j < D 1 → ∃ n, n < D 1 ∧ f n = j) ∧ ∀ m n, m < n → n < D 1 → sz D (fr D (f n)) ≤ sz D (fr D (f m))
noncomputable def rp (D : Dr) (s : Nat) (q : Nat × (Nat → Nat)) : Nat → Nat × (Nat → Nat)
  | 0 => q
  | i + 1 => if sz D (fr D i) = s then ((rp D s q i).1 + 1, va_up (rp D s q i).2 (rp D s q i).1 i) else rp D s q i
noncomputable def rr (D : Dr) : Nat → Nat × (Nat → Nat)
  | 0 => (0, fun _ => 0)
  | n + 1 => rp D (D 0 - n) (rr D n) (D 1)
/-- which pipes are laid when the pass of size s stands at pipe i -/
noncomputable def ld (D : Dr) (s i j : Nat) : Bool := bdec (s < sz D (fr D j) ∨ (sz D (fr D j) = s ∧ j < i))
def RI (D : Dr) (s i : Nat) (q : Nat × (Nat → Nat)) : Prop := (∀ n, n < q.1 → q.2 n < D 1 ∧ ld D s i (q.2 n) = true) ∧ (∀ m n, m < n → n < q.1 → sz D (fr D (q.2 n)) ≤ sz D (fr D (q.2 m))) ∧ (∀ j, j < D 1 → ld D s i j = true → ∃ n, n < q.1 ∧ q.2 n = j) ∧ q.1 = fb_ct (ld D s i) (D 1)
theorem ld_iff (D : Dr) (s i j : Nat) : ld D s i j = true ↔ (s < sz D (fr D j) ∨ (sz D (fr D j) = s ∧ j < i)) := bdec_iff _
theorem ld_cong {D : Dr} {s i s' i' j : Nat} (h : (s < sz D (fr D j) ∨ (sz D (fr D j) = s ∧ j < i)) ↔ (s' < sz D (fr D j) ∨ (sz D (fr D j) = s' ∧ j < i'))) : ld D s i j = ld D s' i' j := by
  cases h1 : ld D s i j <;> cases h2 : ld D s' i' j
  · rfl
  · have := (ld_iff D s i j).mpr (h.mpr ((ld_iff D s' i' j).mp h2))
    rw [h1] at this; cases this
  · have := (ld_iff D s' i' j).mpr (h.mp ((ld_iff D s i j).mp h1))
    rw [h2] at this; cases this
  · rfl
theorem RI_cong {D : Dr} {s i s' i' : Nat} {q : Nat × (Nat → Nat)} (h : ∀ j, j < D 1 → ld D s i j = ld D s' i' j) (hq : RI D s i q) : RI D s' i' q := by
  obtain ⟨a, b, c, d⟩ := hq
  refine ⟨fun n hn => ⟨(a n hn).1, by rw [← h _ (a n hn).1]; exact (a n hn).2⟩, b, fun j hj hl => c j hj (by rw [h j hj]; exact hl), ?_⟩
  rw [d]; exact fb_ct_cong h
theorem RI_step {D : Dr} {s i : Nat} {q : Nat × (Nat → Nat)} (hi : i < D 1) (hq : RI D s i q) : RI D s (i + 1) (if sz D (fr D i) = s then (q.1 + 1, va_up q.2 q.1 i) else q) := by
  by_cases c : sz D (fr D i) = s
  · rw [if_pos c]
    obtain ⟨a, b, d, e⟩ := hq
    refine ⟨fun n hn => ?_, fun m n hmn hn => ?_, fun j hj hl => ?_, ?_⟩
    · dsimp only at hn ⊢
      by_cases f : n = q.1
      · subst f
        rw [up_s]
        exact ⟨hi, (ld_iff _ _ _ _).mpr (Or.inr ⟨c, by omega⟩)⟩
      · rw [up_n _ _ f]
        obtain ⟨a1, a2⟩ := a n (by omega)
        refine ⟨a1, (ld_iff _ _ _ _).mpr ?_⟩
        rcases (ld_iff _ _ _ _).mp a2 with x | x
        · exact Or.inl x
        · exact Or.inr ⟨x.1, by omega⟩
    · dsimp only at hn ⊢
      rw [up_n (j := m) _ _ (by omega)]
      by_cases f : n = q.1
      · subst f
        rw [up_s, c]
        rcases (ld_iff _ _ _ _).mp (a m (by omega)).2 with x | x
        · omega
        · omega
      · rw [up_n _ _ f]
        exact b m n hmn (by omega)
    · dsimp only
      by_cases f : j = i
      · subst f
        exact ⟨q.1, by omega, up_s _ _ _⟩
      · obtain ⟨n, hn, hnj⟩ := d j hj ((ld_iff _ _ _ _).mpr (by
          rcases (ld_iff _ _ _ _).mp hl with x | x
          · exact Or.inl x
          · exact Or.inr ⟨x.1, by omega⟩))
        exact ⟨n, by omega, by rw [up_n _ _ (by omega)]; exact hnj⟩
    · have e1 : fb_ct (ld D s (i + 1)) (D 1) = fb_ct (fun k => if k = i then true else ld D s i k) (D 1) := fb_ct_cong fun k _ => by
        by_cases f : k = i
        · subst f
          rw [if_pos rfl]
          exact (ld_iff _ _ _ _).mpr (Or.inr ⟨c, by omega⟩)
        · rw [if_neg f]
          refine ld_cong ?_
          constructor
          · rintro (x | x)
            · exact Or.inl x
            · exact Or.inr ⟨x.1, by omega⟩
          · rintro (x | x)
            · exact Or.inl x
            · exact Or.inr ⟨x.1, by omega⟩
      have e2 := fb_ct_upd (ld D s i) true hi
      have e3 : ld D s i i = false := by
        cases hb : ld D s i i with
        | false => rfl
        | true => rcases (ld_iff _ _ _ _).mp hb with x | x <;> omega
      rw [e3] at e2
      simp only [Bool.false_eq_true, if_false, if_true, Nat.add_zero] at e2
      show q.1 + 1 = _
      rw [e1, e2, e]
  · rw [if_neg c]
    refine RI_cong (fun j _ => ld_cong ?_) hq
    constructor
    · rintro (x | x)
      · exact Or.inl x
      · exact Or.inr ⟨x.1, by omega⟩
    · rintro (x | x)
      · exact Or.inl x
      · refine Or.inr ⟨x.1, ?_⟩
        by_cases f : j = i
        · subst f; exact absurd x.1 c
        · omega
theorem RI_pass {D : Dr} {s : Nat} {q : Nat × (Nat → Nat)} (hq : RI D s 0 q) : ∀ i, i ≤ D 1 → RI D s i (rp D s q i)
  | 0, _ => hq
  | i + 1, hi => RI_step (by omega) (RI_pass hq i (by omega))
theorem RI_all {D : Dr} (hW : WF D) : ∀ n, n < D 0 → RI D (D 0 - n) (D 1) (rr D (n + 1))
  | 0, h => by
    refine RI_pass (q := (0, fun _ => 0)) ?_ (D 1) (Nat.le_refl _)
    have hno : ∀ j, j < D 1 → ld D (D 0 - 0) 0 j = false := fun j hj => by
      cases hb : ld D (D 0 - 0) 0 j with
      | false => rfl
      | true =>
        have := sz_le hW (hW.pipe hj).1
        rcases (ld_iff _ _ _ _).mp hb with x | x <;> omega
    refine ⟨fun n hn => absurd hn (Nat.not_lt_zero n), fun m n _ hn => absurd hn (Nat.not_lt_zero n), fun j hj hl => ?_, ?_⟩
    · rw [hno j hj] at hl; cases hl
    · exact (fb_ct_zero.mpr hno).symm
  | n + 1, h => by
    refine RI_pass ?_ (D 1) (Nat.le_refl _)
    refine RI_cong (fun j hj => ld_cong ?_) (RI_all hW n (by omega))
    constructor
    · rintro (x | x)
      · exact Or.inl (by omega)
      · exact Or.inl (by omega)
    · rintro (x | x)
      · by_cases f : sz D (fr D j) = D 0 - n
        · exact Or.inr ⟨f, hj⟩
        · exact Or.inl (by omega)
      · omega
theorem rr_done {D : Dr} (hW : WF D) : (rr D (D 0)).1 = D 1 ∧ RO D (rr D (D 0)).2 := by
  rcases Nat.eq_zero_or_pos (D 0) with h | h
  · have hP : D 1 = 0 := by
      rcases Nat.eq_zero_or_pos (D 1) with q | q
      · exact q
      · have := (hW.pipe q).1; omega
    rw [h]
    exact ⟨hP.symm, fun n hn => by omega, fun j hj => by omega, fun m n _ hn => by omega⟩
  · obtain ⟨n, hn⟩ : ∃ n, D 0 = n + 1 := ⟨D 0 - 1, by omega⟩
    have hI := RI_all hW n (by omega)
    rw [← hn] at hI
    obtain ⟨a, b, c, d⟩ := hI
    have hall : ∀ j, j < D 1 → ld D (D 0 - n) (D 1) j = true := fun j hj => (ld_iff _ _ _ _).mpr (by
      have := sz_pos hW (hW.pipe hj).1
      by_cases f : sz D (fr D j) = D 0 - n
      · exact Or.inr ⟨f, hj⟩
      · exact Or.inl (by omega))
    have hl : (rr D (D 0)).1 = D 1 := by rw [d]; exact fb_ct_all.mpr hall
    exact ⟨hl, fun m hm => (a m (by omega)).1, fun j hj => by
      obtain ⟨m, h1, h2⟩ := c j hj (hall j hj)
      exact ⟨m, by omega, h2⟩, fun m k h1 h2 => b m k h1 (by omega)⟩
theorem RI_le {D : Dr} {s i : Nat} {q : Nat × (Nat → Nat)} (h : RI D s i q) : q.1 ≤ D 1 := by rw [h.2.2.2]; exact fb_ct_le _ _
theorem RI_room {D : Dr} {s i : Nat} {q : Nat × (Nat → Nat)} (hi : i < D 1) (c : sz D (fr D i) = s) (h : RI D s i q) : q.1 < D 1 := by
  have := RI_le (RI_step hi h)
  rw [if_pos c] at this
  exact this
