/-! What comes by: minutes as bits. -/
/-- the first minute from m on that p divides -/
def pu (p m : Nat) : Nat := (m + p - 1) / p * p
theorem pu_ok {p m : Nat} (hp : 1 ≤ p) : pu p m % p = 0 ∧ m ≤ pu p m ∧ pu p m < m + p := by
  unfold pu
  have h1 := Nat.div_add_mod (m + p - 1) p
  have h2 := Nat.mod_lt (m + p - 1) (show p > 0 by omega)
  rw [Nat.mul_comm] at h1
  exact ⟨Nat.mul_mod_left _ _, by omega, by omega⟩
theorem pu_one {p m v : Nat} (hp : 1 ≤ p) (h1 : v % p = 0) (h2 : m ≤ v) (h3 : v < m + p) : v = pu p m := by
  obtain ⟨a1, a2, a3⟩ := pu_ok (m := m) hp
  have b1 := Nat.div_add_mod v p
  have b2 := Nat.div_add_mod (pu p m) p
  rw [h1] at b1
  rw [a1] at b2
  have h : v / p = pu p m / p := by
    rcases Nat.lt_trichotomy (v / p) (pu p m / p) with c | c | c
    · have := Nat.mul_le_mul_left p (show v / p + 1 ≤ pu p m / p from c)
      rw [Nat.mul_add] at this
      omega
    · exact c
    · have := Nat.mul_le_mul_left p (show pu p m / p + 1 ≤ v / p from c)
      rw [Nat.mul_add] at this
      omega
  rw [h] at b1
  omega
/-- when shaft a lets out what comes at m -/
def lv (D : Dr) (a m : Nat) : Nat := if D (3 + 2 * a) = 1 then pu (D (4 + 2 * a)) m else if D (3 + 2 * a) = 2 then m + D (4 + 2 * a) else if D (3 + 2 * a) = 3 then (if m < D (4 + 2 * a) then 63 else m) else if D (3 + 2 * a) = 4 then pu (D (4 + 2 * a)) m + D (4 + 2 * a) / 10 + 1 else m
theorem lvD_lt {D : Dr} (hW : WF D) {a m : Nat} (ha : a < D 0) (hm : m ≤ 62) : lv D a m < 200 := by
  obtain ⟨h1, h2, h3⟩ := hW.shaft ha
  have := (pu_ok (m := m) h2).2.2
  unfold lv
  split
  · omega
  · split
    · omega
    · split
      · split <;> omega
      · split <;> omega
def Cn (D : Dr) (a m : Nat) : Nat → Nat → Nat → Prop
  | 0, b, t => b = a ∧ t = m
  | n + 1, b, t => ∃ i t' d, i < D 1 ∧ tt D i = b ∧ Cn D a m n (fr D i) t' ∧ lw D i ≤ d ∧ d ≤ hg D i ∧ t = lv D (fr D i) t' + d ∧ t < 63
/-- b is come to at t behind the start (a, m) -/
def Cm (D : Dr) (a m b t : Nat) : Prop := ∃ n, Cn D a m n b t
theorem Cm.go {D : Dr} {a m i t' d : Nat} (hi : i < D 1) (h : Cm D a m (fr D i) t') (h1 : lw D i ≤ d) (h2 : d ≤ hg D i) (h3 : lv D (fr D i) t' + d < 63) : Cm D a m (tt D i) (lv D (fr D i) t' + d) := by
  obtain ⟨n, h⟩ := h
  exact ⟨n + 1, i, t', d, hi, rfl, h, h1, h2, rfl, h3⟩
noncomputable def cm (D : Dr) (a m b : Nat) : Nat := mk (fun t => bdec (Cm D a m b t)) 63
theorem cm_lt (D : Dr) (a m b : Nat) : cm D a m b < 2 ^ 63 := mk_lt _ 63
/-- what goes by pipe i of the minutes x -/
noncomputable def cb (D : Dr) (i x : Nat) : Nat := mk (fun t => bdec (∃ m d, x.testBit m = true ∧ lw D i ≤ d ∧ d ≤ hg D i ∧ t = lv D (fr D i) m + d)) 63
theorem cb_lt (D : Dr) (i x : Nat) : cb D i x < 2 ^ 63 := mk_lt _ 63
theorem cb_bit (D : Dr) (i x t : Nat) : (cb D i x).testBit t = true ↔ t < 63 ∧ ∃ m d, x.testBit m = true ∧ lw D i ≤ d ∧ d ≤ hg D i ∧ t = lv D (fr D i) m + d := by
  rw [cb, mk_bit, Bool.and_eq_true, decide_eq_true_eq, bdec_iff]
theorem tb_eq {x y n : Nat} (hx : x < 2 ^ n) (hy : y < 2 ^ n) (h : ∀ k, k < n → (x.testBit k = true ↔ y.testBit k = true)) : x = y := by
  apply Nat.eq_of_testBit_eq
  intro k
  by_cases c : k < n
  · exact Bool.eq_iff_iff.mpr (h k c)
  · rw [Nat.testBit_lt_two_pow (Nat.lt_of_lt_of_le hx (Nat.pow_le_pow_right (by decide) (by omega))), Nat.testBit_lt_two_pow (Nat.lt_of_lt_of_le hy (Nat.pow_le_pow_right (by decide) (by omega)))]
theorem cb_0 (D : Dr) (i : Nat) : cb D i 0 = 0 := by
  refine tb_eq (n := 63) (cb_lt _ _ _) (by decide) (fun k _ => ?_)
  rw [cb_bit]
  simp
/-- sound rows -/
def SI (D : Dr) (a m : Nat) (Y : Nat → Nat) : Prop := (∀ b, Y b < 2 ^ 63) ∧ (Y a).testBit m = true ∧ ∀ b t, (Y b).testBit t = true → Cm D a m b t
theorem SI.done {D : Dr} {a m : Nat} {Y : Nat → Nat} (h : SI D a m Y) (hc : ∀ i, i < D 1 → ∀ t, (cb D i (Y (fr D i))).testBit t = true → (Y (tt D i)).testBit t = true) (b : Nat) : Y b = cm D a m b := by
  have key : ∀ n b t, Cn D a m n b t → (Y b).testBit t = true := by
    intro n
    induction n with
    | zero => rintro b t ⟨rfl, rfl⟩; exact h.2.1
    | succ n ih =>
      rintro b t ⟨i, t', d, hi, rfl, hn, h1, h2, h3, h4⟩
      exact hc i hi t ((cb_bit _ _ _ _).mpr ⟨h4, t', d, ih _ _ hn, h1, h2, h3⟩)
  refine tb_eq (h.1 b) (cm_lt _ _ _ _) (fun t ht => ?_)
  rw [cm, mk_bit, Bool.and_eq_true, decide_eq_true_eq, bdec_iff]
  exact ⟨fun q => ⟨ht, h.2.2 b t q⟩, fun q => by obtain ⟨-, n, q⟩ := q; exact key n b t q⟩
def y0 (a m : Nat) : Nat → Nat := fun b => if b = a then 2 ^ m else 0
theorem SI_0 (D : Dr) (a : Nat) {m : Nat} (hm : m ≤ 62) : SI D a m (y0 a m) := by
  refine ⟨fun b => ?_, ?_, fun b t q => ?_⟩
  · unfold y0
    split
    · exact Nat.pow_lt_pow_right (by decide) (by omega)
    · decide
  · unfold y0
    rw [if_pos rfl, Nat.testBit_two_pow]; simp
  · unfold y0 at q
    by_cases c : b = a
    · rw [if_pos c, Nat.testBit_two_pow, decide_eq_true_eq] at q
      exact ⟨0, c, q.symm⟩
    · rw [if_neg c, Nat.zero_testBit] at q
      exact absurd q (by simp)
/-- one pipe carried -/
noncomputable def st (D : Dr) (i : Nat) (Y : Nat → Nat) : Nat → Nat := va_up Y (tt D i) (Y (tt D i) ||| cb D i (Y (fr D i)))
theorem st_n {D : Dr} {i b : Nat} {Y : Nat → Nat} (h : b ≠ tt D i) : st D i Y b = Y b := up_n _ _ h
theorem st_s (D : Dr) (i : Nat) (Y : Nat → Nat) : st D i Y (tt D i) = Y (tt D i) ||| cb D i (Y (fr D i)) := up_s _ _ _
theorem st_mono {D : Dr} {i b t : Nat} {Y : Nat → Nat} (h : (Y b).testBit t = true) : (st D i Y b).testBit t = true := by
  by_cases c : b = tt D i
  · subst c; rw [st_s, Nat.testBit_or, h, Bool.true_or]
  · rw [st_n c]; exact h
theorem st_le {D : Dr} {i b : Nat} {Y : Nat → Nat} : Y b ≤ st D i Y b := by
  by_cases c : b = tt D i
  · subst c; rw [st_s]; exact Nat.left_le_or
  · rw [st_n c]; exact Nat.le_refl _
theorem SI.st {D : Dr} {a m i : Nat} {Y : Nat → Nat} (h : SI D a m Y) (hi : i < D 1) : SI D a m (st D i Y) := by
  refine ⟨fun b => ?_, st_mono h.2.1, fun b t q => ?_⟩
  · by_cases c : b = tt D i
    · subst c; rw [st_s]; exact Nat.or_lt_two_pow (h.1 _) (cb_lt _ _ _)
    · rw [st_n c]; exact h.1 b
  · by_cases c : b = tt D i
    · subst c
      rw [st_s, Nat.testBit_or, Bool.or_eq_true] at q
      rcases q with q | q
      · exact h.2.2 _ _ q
      · obtain ⟨h4, t', d, h5, h6, h7, rfl⟩ := (cb_bit _ _ _ _).mp q
        exact (h.2.2 _ _ h5).go hi h6 h7 h4
    · rw [st_n c] at q; exact h.2.2 b t q
theorem st_id {D : Dr} {i : Nat} {Y : Nat → Nat} (h : st D i Y (tt D i) = Y (tt D i)) : st D i Y = Y := by
  funext b
  by_cases c : b = tt D i
  · subst c; exact h
  · exact st_n c
/-- the model's sweep -/
noncomputable def ms (D : Dr) (Y : Nat → Nat) : Nat → Nat → Nat
  | 0 => Y
  | i + 1 => st D i (ms D Y i)
theorem ms_SI {D : Dr} {a m : Nat} {Y : Nat → Nat} (h : SI D a m Y) : ∀ i, i ≤ D 1 → SI D a m (ms D Y i)
  | 0, _ => h
  | i + 1, hi => (ms_SI h i (by omega)).st (by omega)
/-- the class's one pass along the route -/
noncomputable def ks (D : Dr) (f : Nat → Nat) (Y : Nat → Nat) : Nat → Nat → Nat
  | 0 => Y
  | n + 1 => st D (f n) (ks D f Y n)
theorem ks_SI {D : Dr} {a m : Nat} {f Y : Nat → Nat} (hf : ∀ n, n < D 1 → f n < D 1) (h : SI D a m Y) : ∀ n, n ≤ D 1 → SI D a m (ks D f Y n)
  | 0, _ => h
  | n + 1, hn => (ks_SI hf h n (by omega)).st (hf n (by omega))
theorem ks_mono {D : Dr} {f Y : Nat → Nat} {n b t : Nat} (h : (ks D f Y n b).testBit t = true) : ∀ d, (ks D f Y (n + d) b).testBit t = true
  | 0 => h
  | d + 1 => st_mono (ks_mono h d)
theorem ks_keep {D : Dr} {f Y : Nat → Nat} {n b : Nat} : ∀ d, (∀ k, n ≤ k → k < n + d → tt D (f k) ≠ b) → ks D f Y (n + d) b = ks D f Y n b
  | 0, _ => rfl
  | d + 1, h => (st_n (fun q => h (n + d) (by omega) (by omega) q.symm)).trans (ks_keep d (fun k h1 h2 => h k h1 (by omega)))
theorem ks_done {D : Dr} (hW : WF D) {a m : Nat} {f Y : Nat → Nat} (hf : RO D f) (h : SI D a m Y) (b : Nat) : ks D f Y (D 1) b = cm D a m b := by
  refine (ks_SI hf.1 h (D 1) (Nat.le_refl _)).done (fun i hi t q => ?_) b
  obtain ⟨n, hn, rfl⟩ := hf.2.1 i hi
  have e1 : ks D f Y (D 1) (fr D (f n)) = ks D f Y n (fr D (f n)) := by
    have := ks_keep (D := D) (f := f) (Y := Y) (n := n) (b := fr D (f n)) (D 1 - n) (fun k h1 h2 e => by
      have s1 := sz_lt hW (hf.1 k (by omega))
      rw [e] at s1
      by_cases c : k = n
      · subst c; omega
      · have := hf.2.2 n k (by omega) (by omega)
        omega)
    rw [show n + (D 1 - n) = D 1 by omega] at this
    exact this
  rw [e1] at q
  have e2 : (ks D f Y (n + 1) (tt D (f n))).testBit t = true := by
    show (st D (f n) (ks D f Y n) (tt D (f n))).testBit t = true
    rw [st_s, Nat.testBit_or, q, Bool.or_true]
  have := ks_mono e2 (D 1 - (n + 1))
  rw [show n + 1 + (D 1 - (n + 1)) = D 1 by omega] at this
  exact this
/-- leaving and brought, one after the other -/
noncomputable def lvs (D : Dr) (a x : Nat) : Nat := mk (fun v => bdec (∃ m, x.testBit m = true ∧ v = lv D a m)) 63
noncomputable def bro (D : Dr) (i y : Nat) : Nat := mk (fun t => bdec (∃ v d, y.testBit v = true ∧ lw D i ≤ d ∧ d ≤ hg D i ∧ t = v + d)) 63
theorem lvs_bit (D : Dr) (a x v : Nat) : (lvs D a x).testBit v = true ↔ v < 63 ∧ ∃ m, x.testBit m = true ∧ v = lv D a m := by
  rw [lvs, mk_bit, Bool.and_eq_true, decide_eq_true_eq, bdec_iff]
theorem bro_bit (D : Dr) (i y t : Nat) : (bro D i y).testBit t = true ↔ t < 63 ∧ ∃ v d, y.testBit v = true ∧ lw D i ≤ d ∧ d ≤ hg D i ∧ t = v + d := by
  rw [bro, mk_bit, Bool.and_eq_true, decide_eq_true_eq, bdec_iff]
theorem bro_lvs (D : Dr) (i x : Nat) : bro D i (lvs D (fr D i) x) = cb D i x := by
  refine tb_eq (n := 63) (mk_lt _ _) (mk_lt _ _) (fun t ht => ?_)
  show (bro D i _).testBit t = true ↔ (cb D i x).testBit t = true
  rw [bro_bit, cb_bit]
  constructor
  · rintro ⟨h1, v, d, h2, h3, h4, h5⟩
    obtain ⟨h6, m, h7, rfl⟩ := (lvs_bit _ _ _ _).mp h2
    exact ⟨h1, m, d, h7, h3, h4, h5⟩
  · rintro ⟨h1, m, d, h2, h3, h4, h5⟩
    exact ⟨h1, lv D (fr D i) m, d, (lvs_bit _ _ _ _).mpr ⟨by omega, m, h2, rfl⟩, h3, h4, h5⟩
theorem lvs_lt (D : Dr) (a x : Nat) : lvs D a x < 2 ^ 63 := mk_lt _ 63
theorem bro_lt (D : Dr) (i x : Nat) : bro D i x < 2 ^ 63 := mk_lt _ 63
/-- what was seen: does sight k fit minutes x -/
def sg (D : Dr) (k x : Nat) : Prop := if D (87 + 3 * k) = 1 then x.testBit (D (89 + 3 * k)) = true else x = 0 ∨ ∃ t, D (89 + 3 * k) < t ∧ x.testBit t = true
def ft (D : Dr) (a m : Nat) : Prop := ∀ k, k < D 2 → sg D k (cm D a m (D (88 + 3 * k)))
noncomputable def whn (D : Dr) (a : Nat) : Nat := mk (fun m => bdec (ft D a m)) 31
theorem whn_lt (D : Dr) (a : Nat) : whn D a < 2 ^ 31 := mk_lt _ 31
noncomputable def sus (D : Dr) : Nat := mk (fun a => bdec (whn D a ≠ 0)) (D 0)
noncomputable def ab (D : Dr) (w : Nat) : Nat := mk (fun a => bdec (Rc D a w)) (D 0)
theorem lt_p10 {D : Dr} (hW : WF D) {x : Nat} (h : x < 2 ^ D 0) : x < 1024 := Nat.lt_of_lt_of_le h (Nat.pow_le_pow_right (n := 2) (by decide) hW.S)
theorem sus_lt {D : Dr} (hW : WF D) : sus D < 1024 := lt_p10 hW (mk_lt _ _)
theorem ab_lt {D : Dr} (hW : WF D) (w : Nat) : ab D w < 1024 := lt_p10 hW (mk_lt _ _)
