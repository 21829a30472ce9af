/-! What comes by: the class's side. -/
theorem mul2_bit (x k t : Nat) : (x * 2 ^ k).testBit t = true ↔ k ≤ t ∧ x.testBit (t - k) = true := by
  rw [Nat.testBit_mul_two_pow, Bool.and_eq_true, decide_eq_true_eq]
theorem mod63_bit (x t : Nat) : (x % 2 ^ 63).testBit t = true ↔ t < 63 ∧ x.testBit t = true := by
  rw [Nat.testBit_mod_two_pow, Bool.and_eq_true, decide_eq_true_eq]
theorem and_n0 {x y n : Nat} (hx : x < 2 ^ n) : ¬ (x &&& y) = 0 ↔ ∃ m, x.testBit m = true ∧ y.testBit m = true := by
  constructor
  · intro h
    refine Classical.byContradiction fun q => h ?_
    apply Nat.eq_of_testBit_eq
    intro m
    rw [Nat.testBit_and, Nat.zero_testBit]
    cases h1 : x.testBit m <;> cases h2 : y.testBit m <;> first | rfl | exact absurd ⟨m, h1, h2⟩ q
  · rintro ⟨m, h1, h2⟩ h
    have : (x &&& y).testBit m = true := by rw [Nat.testBit_and, h1, h2]; rfl
    rw [h, Nat.zero_testBit] at this
    exact absurd this (by simp)
/-- what a pump lets out -/
noncomputable def pmp (p x : Nat) : Nat := mk (fun v => bdec (∃ m, x.testBit m = true ∧ v = pu p m)) 63
theorem pmp_bit (p x v : Nat) : (pmp p x).testBit v = true ↔ v < 63 ∧ ∃ m, x.testBit m = true ∧ v = pu p m := by
  rw [pmp, mk_bit, Bool.and_eq_true, decide_eq_true_eq, bdec_iff]
noncomputable def pmj (p x j : Nat) : Nat := mk (fun v => bdec (v < p * j ∧ ∃ m, x.testBit m = true ∧ v = pu p m)) 63
theorem pmj_bit (p x j v : Nat) : (pmj p x j).testBit v = true ↔ v < 63 ∧ v < p * j ∧ ∃ m, x.testBit m = true ∧ v = pu p m := by
  rw [pmj, mk_bit, Bool.and_eq_true, decide_eq_true_eq, bdec_iff]
theorem pmj_1 {p x : Nat} (hp : 1 ≤ p) : pmj p x 1 = x % 2 := by
  refine tb_eq (n := 63) (mk_lt _ _) (by omega) (fun v hv => ?_)
  show (pmj p x 1).testBit v = true ↔ _
  rw [pmj_bit, show x % 2 = x % 2 ^ 1 from rfl, Nat.testBit_mod_two_pow, Bool.and_eq_true, decide_eq_true_eq, Nat.mul_one]
  constructor
  · rintro ⟨h1, h2, m, h3, h4⟩
    obtain ⟨a1, a2, a3⟩ := pu_ok (m := m) hp
    rw [← h4, Nat.mod_eq_of_lt h2] at a1
    have : m = 0 := by omega
    rw [this] at h3
    rw [a1]
    exact ⟨by decide, h3⟩
  · rintro ⟨h1, h2⟩
    have : v = 0 := by omega
    subst this
    exact ⟨by decide, by omega, 0, h2, pu_one (m := 0) hp (Nat.zero_mod _) (Nat.le_refl _) (by omega)⟩
theorem pmj_end {p x j : Nat} (h : 63 ≤ p * j) : pmj p x j = pmp p x := by
  refine tb_eq (n := 63) (mk_lt _ _) (mk_lt _ _) (fun v hv => ?_)
  show (pmj p x j).testBit v = true ↔ (pmp p x).testBit v = true
  rw [pmj_bit, pmp_bit]
  exact ⟨fun h => ⟨h.1, h.2.2⟩, fun h => ⟨h.1, by omega, h.2⟩⟩
theorem pmj_next {p x j : Nat} (hp : 1 ≤ p) (hj : 1 ≤ j) (h62 : p * j ≤ 62) : pmj p x (j + 1) = if bdec (∃ m, x.testBit m = true ∧ p * j - p + 1 ≤ m ∧ m ≤ p * j) then pmj p x j ||| 2 ^ (p * j) else pmj p x j := by
  have hpj : p * (j + 1) = p * j + p := Nat.mul_succ p j
  have hle : p ≤ p * j := Nat.le_mul_of_pos_right p (by omega)
  have hm : p * j % p = 0 := Nat.mul_mod_right p j
  have one : ∀ m, pu p m = p * j ↔ (p * j - p + 1 ≤ m ∧ m ≤ p * j) := by
    intro m
    constructor
    · intro e
      obtain ⟨a1, a2, a3⟩ := pu_ok (m := m) hp
      rw [e] at a2 a3
      omega
    · rintro ⟨h1, h2⟩
      exact (pu_one hp hm h2 (by omega)).symm
  have lastm : ∀ m, p * j ≤ pu p m → pu p m < p * j + p → pu p m = p * j := by
    intro m h1 h2
    obtain ⟨a1, a2, a3⟩ := pu_ok (m := m) hp
    have e1 := pu_one (p := p) (m := p * j) hp a1 h1 h2
    have e2 := pu_one (p := p) (m := p * j) (v := p * j) hp hm (Nat.le_refl _) (by omega)
    omega
  by_cases c : ∃ m, x.testBit m = true ∧ p * j - p + 1 ≤ m ∧ m ≤ p * j
  · rw [bif_pos c]
    refine tb_eq (n := 63) (mk_lt _ _) (Nat.or_lt_two_pow (mk_lt _ _) (Nat.pow_lt_pow_right (by decide) (by omega))) (fun v hv => ?_)
    show (pmj p x (j + 1)).testBit v = true ↔ (pmj p x j ||| _).testBit v = true
    rw [Nat.testBit_or, Nat.testBit_two_pow, Bool.or_eq_true, decide_eq_true_eq, pmj_bit, pmj_bit]
    constructor
    · rintro ⟨h1, h2, m, h3, h4⟩
      by_cases d : v < p * j
      · exact Or.inl ⟨h1, d, m, h3, h4⟩
      · exact Or.inr (by rw [h4]; exact (lastm m (by omega) (by omega)).symm)
    · rintro (⟨h1, h2, h3⟩ | h)
      · exact ⟨h1, by omega, h3⟩
      · obtain ⟨m, c1, c2⟩ := c
        exact ⟨hv, by omega, m, c1, by rw [← h]; exact ((one m).mpr c2).symm⟩
  · rw [bif_neg c]
    refine tb_eq (n := 63) (mk_lt _ _) (mk_lt _ _) (fun v hv => ?_)
    show (pmj p x (j + 1)).testBit v = true ↔ (pmj p x j).testBit v = true
    rw [pmj_bit, pmj_bit]
    constructor
    · rintro ⟨h1, h2, m, h3, h4⟩
      refine ⟨h1, Nat.lt_of_not_le fun d => c ⟨m, h3, ?_⟩, m, h3, h4⟩
      exact (one m).mp (lastm m (by omega) (by omega))
    · rintro ⟨h1, h2, h3⟩
      exact ⟨h1, by omega, h3⟩
theorem lN_pred (n : Nat) : lN (n + 1) - 1 = lN n := by
  have : lN (n + 1) = lN n + 1 := by
    apply wb_inj
    rw [wb_tb]
    show _ = BitVec.ofNat 64 n + 1#64
    rw [BitVec.ofNat_add]
  rw [this]; simp
section
variable {E : ET} {l : Launch} {I : MI} {L : ML} {p : Nat → Nat} {D : Dr} {s : Sg}
theorem k_pumped {x r : Nat} (hx : x < 2 ^ 63) (hr : 1 ≤ r) (hr2 : r ≤ 15) : Ct E l yX0_pumped wsX0_pumped rmX0_pumped [.long (lN x), .int (nI r)] (HE E I L p) (some (.long (lN (pmp r x)))) (HE E I L p) := by
  refine Ct.mk (by decide) rfl (Nat.le_of_ble_eq_true rfl) ?_
  rintro X rfl rfl hX - hRt
  refine RX0_pumped_0 hX _ _ ⟨fun _ => ?_, fun q => absurd ((nle (a := 1) (by decide) (by omega)).mpr hr) q⟩
  have loop : ∀ n j, 63 ≤ j + n → 1 ≤ j → j ≤ 63 → G X 0 0 14 [(0, .long (lN x)), (2, .int (nI r)), (3, .long (lN (pmj r x j))), (5, .int (nI (r * j)))] [] (HM X I L p) := by
    intro n
    induction n with
    | zero =>
      intro j h1 h2 h3
      have hj : j = 63 := by omega
      subst hj
      refine RX0_pumped_14 hX _ _ _ _ ⟨fun _ => ?_, fun q => absurd ((nlt (a := 62) (by decide) (by omega)).mpr (by omega)) q⟩
      rw [pmj_end (by omega)]
      exact hRt
    | succ n ih =>
      intro j h1 h2 h3
      have hb : r * j ≤ 15 * 63 := Nat.mul_le_mul hr2 h3
      have hpj : r * (j + 1) = r * j + r := Nat.mul_succ r j
      have hle : r ≤ r * j := Nat.le_mul_of_pos_right r (by omega)
      have hjl : j ≤ r * j := Nat.le_mul_of_pos_left j (by omega)
      refine RX0_pumped_14 hX _ _ _ _ ⟨fun q => ?_, fun q => ?_⟩
      · have := (nlt (a := 62) (by decide) (by omega)).mp q
        rw [pmj_end (by omega)]
        exact hRt
      · have h62 : r * j ≤ 62 := Nat.le_of_not_lt fun z => q ((nlt (a := 62) (by decide) (by omega)).mpr z)
        have e1 : nI (r * j) - nI r + 1 = nI (r * j - r + 1) := by
          have e : r * j = (r * j - r) + r := by omega
          rw [← nI_1]
          congr 1
          rw [e, ← nI_add]
          simp
        have e2 : jlshl 1 (nI r) - 1 = lN (2 ^ r - 1) := by
          rw [jlshl_1 (by omega)]
          obtain ⟨k, hk⟩ : ∃ k, 2 ^ r = k + 1 := ⟨2 ^ r - 1, by have := Nat.two_pow_pos r; omega⟩
          rw [hk, lN_pred]; rfl
        have key : jcmp (lN x &&& jlshl (jlshl 1 (nI r) - 1) (nI (r * j) - nI r + 1)) 0 = 0 ↔ ¬ ∃ m, x.testBit m = true ∧ r * j - r + 1 ≤ m ∧ m ≤ r * j := by
          rw [e1, e2, jlshl_n _ (by omega), fb_andL, lN_0i (Nat.lt_of_le_of_lt Nat.and_le_left hx)]
          have z := and_n0 (y := (2 ^ r - 1) * 2 ^ (r * j - r + 1)) hx
          constructor
          · rintro h ⟨m, h1, h2, h3⟩
            refine z.mpr ⟨m, h1, ?_⟩ h
            rw [mul2_bit, Nat.testBit_two_pow_sub_one, decide_eq_true_eq]
            omega
          · intro h
            refine Classical.byContradiction fun q => h ?_
            obtain ⟨m, h1, h2⟩ := z.mp q
            rw [mul2_bit, Nat.testBit_two_pow_sub_one, decide_eq_true_eq] at h2
            exact ⟨m, h1, by omega, by omega⟩
        have nx := pmj_next (x := x) hr h2 h62
        have ihj := ih (j + 1) (by omega) (by omega) (by omega)
        rw [nI_add, ← hpj]
        refine ⟨fun c => ?_, fun c => ?_⟩
        · rw [bif_neg (key.mp c)] at nx
          rw [nx] at ihj
          exact ihj
        · rw [bif_pos (Classical.not_not.mp (fun z => c (key.mpr z)))] at nx
          rw [nx] at ihj
          rw [jlshl_1 (by omega), fb_orL]
          exact ihj
  have e0 : lN x &&& 1 = lN (pmj r x 1) := by
    rw [pmj_1 hr]
    exact wb_a1 (by omega)
  rw [e0]
  have := loop 62 1 (by decide) (by decide) (by decide)
  rw [Nat.mul_one] at this
  exact this
theorem lvs_of {a x y : Nat} (hy : y < 2 ^ 63) (h : ∀ v, v < 63 → (y.testBit v = true ↔ ∃ m, x.testBit m = true ∧ v = lv D a m)) : y = lvs D a x := by
  refine tb_eq (n := 63) hy (lvs_lt _ _ _) (fun v hv => ?_)
  rw [lvs_bit, h v hv]
  exact ⟨fun q => ⟨hv, q⟩, fun q => q.2⟩
theorem k_leaving (hR : RD I 1 D) (hW : WF D) {a x : Nat} (ha : a < D 0) (hx : x < 2 ^ 63) : Ct E l yX0_leaving wsX0_leaving rmX0_leaving [.ref 1, .int (nI a), .long (lN x)] (HE E I L p) (some (.long (lN (lvs D a x)))) (HE E I L p) := by
  have hS := hW.S
  obtain ⟨h1, h2, h3⟩ := hW.shaft ha
  obtain ⟨c1, c2⟩ := hR.2.2.2.1 a (by omega)
  refine Ct.mk (by decide) rfl (Nat.le_of_ble_eq_true rfl) ?_
  rintro X rfl rfl hX - hRt
  have kq : ∀ j, j < 5 → (I 2 a = nI j ↔ D (3 + 2 * a) = j) := fun j hj => by rw [c1]; exact nI_eq (by omega) (by omega)
  have k0 : I 2 a = 0 ↔ D (3 + 2 * a) = 0 := kq 0 (by decide)
  have k1 : I 2 a = 1 ↔ D (3 + 2 * a) = 1 := kq 1 (by decide)
  have k2 : I 2 a = 2 ↔ D (3 + 2 * a) = 2 := kq 2 (by decide)
  have k3 : I 2 a = 3 ↔ D (3 + 2 * a) = 3 := kq 3 (by decide)
  have k4 : I 2 a = 4 ↔ D (3 + 2 * a) = 4 := kq 4 (by decide)
  have pl : D (3 + 2 * a) = 0 → x = lvs D a x := by
    intro c
    refine lvs_of hx fun v hv => ?_
    have e : ∀ m, lv D a m = m := fun m => by unfold lv; rw [if_neg (by omega), if_neg (by omega), if_neg (by omega), if_neg (by omega)]
    constructor
    · intro h; exact ⟨v, h, (e v).symm⟩
    · rintro ⟨m, h, h4⟩; rw [e] at h4; rw [h4]; exact h
  have em : (9223372036854775807 : Int64) = lN (2 ^ 63 - 1) := rfl
  refine RX0_leaving_0 hX _ _ ⟨a, rfl, by omega, a, rfl, by omega, fun c => ?_, fun c => ⟨_, by rw [c2]; exact k_pumped hx h2 h3, ?_⟩, fun c => ?_, fun c => ?_, fun c => ⟨_, by rw [c2]; exact k_pumped hx h2 h3, by decide, ?_⟩, fun c => ?_⟩
  · rw [← pl (k0.mp c)] at hRt; exact hRt
  · rw [k1] at c
    refine hRt.toL (congrArg lN (lvs_of (mk_lt _ _) fun v hv => ?_).symm)
    show (pmp _ x).testBit v = true ↔ _
    have e : ∀ m, lv D a m = pu (D (4 + 2 * a)) m := fun m => by unfold lv; rw [if_pos c]
    rw [pmp_bit]
    simp only [e]
    exact ⟨fun q => q.2, fun q => ⟨hv, q⟩⟩
  · rw [k2] at c
    rw [c2, jlshl_n _ (by omega), em, fb_maskL]
    refine hRt.toL (congrArg lN (lvs_of (Nat.mod_lt _ (by decide)) fun v hv => ?_).symm)
    have e : ∀ m, lv D a m = m + D (4 + 2 * a) := fun m => by unfold lv; rw [if_neg (by omega), if_pos c]
    rw [mod63_bit, mul2_bit]
    simp only [e]
    constructor
    · rintro ⟨-, q1, q2⟩; exact ⟨_, q2, by omega⟩
    · rintro ⟨m, q1, q2⟩
      refine ⟨hv, by omega, ?_⟩
      rw [show v - D (4 + 2 * a) = m by omega]; exact q1
  · rw [k3] at c
    rw [c2, show (-1 : Int64) = lN (2 ^ 64 - 1) from rfl, jlshl_n _ (by omega), fb_andL]
    refine hRt.toL (congrArg lN (lvs_of (Nat.lt_of_le_of_lt Nat.and_le_left hx) fun v hv => ?_).symm)
    have e : ∀ m, lv D a m = if m < D (4 + 2 * a) then 63 else m := fun m => by unfold lv; rw [if_neg (by omega), if_neg (by omega), if_pos c]
    rw [Nat.testBit_and, Bool.and_eq_true, mul2_bit, Nat.testBit_two_pow_sub_one, decide_eq_true_eq]
    simp only [e]
    constructor
    · rintro ⟨q1, q2, q3⟩; exact ⟨v, q1, by rw [if_neg (by omega)]⟩
    · rintro ⟨m, q1, q2⟩
      by_cases d : m < D (4 + 2 * a)
      · rw [if_pos d] at q2; omega
      · rw [if_neg d] at q2
        subst q2
        exact ⟨q1, by omega, by omega⟩
  · rw [k4] at c
    rw [c2, show (10 : Int32) = nI 10 from rfl, pk_div (by omega) (by decide) (by decide), nI_1, jlshl_n _ (by omega), em, fb_maskL]
    refine hRt.toL (congrArg lN (lvs_of (Nat.mod_lt _ (by decide)) fun v hv => ?_).symm)
    have e : ∀ m, lv D a m = pu (D (4 + 2 * a)) m + D (4 + 2 * a) / 10 + 1 := fun m => by unfold lv; rw [if_neg (by omega), if_neg (by omega), if_neg (by omega), if_pos c]
    rw [mod63_bit, mul2_bit, pmp_bit]
    simp only [e]
    constructor
    · rintro ⟨-, q1, q2, m, q3, q4⟩; exact ⟨m, q3, by omega⟩
    · rintro ⟨m, q1, q2⟩
      exact ⟨hv, by omega, by omega, m, q1, by omega⟩
  · rw [k0, k1, k2, k3, k4] at c
    omega
/-- the minutes one pipe brings, till after n of its ways -/
def bc (y w : Nat) : Nat → Nat
  | 0 => 0
  | n + 1 => bc y w n ||| y * 2 ^ (w + n)
theorem bc_bit (y w t : Nat) : ∀ n, (bc y w n).testBit t = true ↔ ∃ d, w ≤ d ∧ d < w + n ∧ d ≤ t ∧ y.testBit (t - d) = true
  | 0 => by
    rw [bc, Nat.zero_testBit]
    exact ⟨fun h => absurd h (by simp), fun ⟨d, h1, h2, _⟩ => by omega⟩
  | n + 1 => by
    rw [bc, Nat.testBit_or, Bool.or_eq_true, bc_bit y w t n, mul2_bit]
    constructor
    · rintro (⟨d, h1, h2, h3⟩ | ⟨h1, h2⟩)
      · exact ⟨d, h1, by omega, h3⟩
      · exact ⟨w + n, by omega, by omega, h1, h2⟩
    · rintro ⟨d, h1, h2, h3, h4⟩
      by_cases c : d = w + n
      · subst c; exact Or.inr ⟨h3, h4⟩
      · exact Or.inl ⟨d, h1, by omega, h3, h4⟩
theorem k_brought (hR : RD I 1 D) (hW : WF D) {i y : Nat} (hi : i < D 1) : Ct E l yX0_brought wsX0_brought rmX0_brought [.ref 1, .int (nI i), .long (lN y)] (HE E I L p) (some (.long (lN (bro D i y)))) (HE E I L p) := by
  have hP := hW.P
  obtain ⟨hf, ht, hlh, hh⟩ := hW.pipe hi
  obtain ⟨-, -, c3, c4⟩ := hR.2.2.2.2.1 i (by omega)
  refine Ct.mk (by decide) rfl (Nat.le_of_ble_eq_true rfl) ?_
  rintro X rfl rfl hX - hRt
  refine RX0_brought_0 hX _ _ ⟨i, rfl, by omega, ?_⟩
  rw [show I 6 i = nI (lw D i) from c3]
  refine loop_up (N := hg D i + 1 - lw D i) (Q := fun n => G X 0 0 11 [(0, .ref 1), (1, .int (nI i)), (2, .long (lN y)), (4, .long (lN (bc y (lw D i) n))), (6, .int (nI (lw D i + n)))] [] (HM X I L p)) (fun n hn k => ?_) 0 (Nat.zero_le _) ?_
  · refine RX0_brought_11 hX _ _ _ _ ⟨i, rfl, by omega, fun q => absurd q ?_, fun _ => ?_⟩
    · rw [show I 7 i = nI (hg D i) from c4]
      exact fun q => absurd ((nlt (by omega) (by omega)).mp q) (by omega)
    · rw [jlshl_n _ (by omega), fb_orL, nI_1]
      exact k
  · refine RX0_brought_11 hX _ _ _ _ ⟨i, rfl, by omega, fun _ => ?_, fun q => absurd ?_ q⟩
    · rw [show (9223372036854775807 : Int64) = lN (2 ^ 63 - 1) from rfl, fb_maskL]
      refine hRt.toL (congrArg lN ?_)
      refine tb_eq (n := 63) (bro_lt _ _ _) (Nat.mod_lt _ (by decide)) (fun t ht => ?_)
      rw [bro_bit, mod63_bit, bc_bit]
      constructor
      · rintro ⟨-, v, d, h1, h2, h3, h4⟩
        exact ⟨ht, d, h2, by omega, by omega, by rw [show t - d = v by omega]; exact h1⟩
      · rintro ⟨-, d, h1, h2, h3, h4⟩
        exact ⟨ht, t - d, d, h4, h1, by omega, by omega⟩
    · rw [show I 7 i = nI (hg D i) from c4]
      exact (nlt (by omega) (by omega)).mpr (by omega)
theorem k_fill : Ct E l yJ7_fill_d0a16 wsJ7_fill_d0a16 rmJ7_fill_d0a16 [.ref 88, .long 0] (HE E I L p) none (HE E I (wy 88 10 L (fun _ => 0)) p) := by
  refine Ct.mk (by decide) rfl (Nat.le_of_ble_eq_true rfl) ?_
  rintro X rfl rfl hX - hRt
  refine RJ7_fill_d0a16_0 hX _ ?_
  have key := loop_up (N := 10) (Q := fun i => G X 0 0 6 [(0, .ref 88), (1, .long 0), (3, .int (nI i)), (4, .int (nI 10))] [] (HM X I (wy 88 i L (fun _ => 0)) p)) (fun i hi k => ?_) 0 (Nat.zero_le _) ?_
  · rw [wy_0] at key
    exact key
  · refine RJ7_fill_d0a16_6 hX _ _ _ ⟨fun q => absurd q (nI_ge hi (by decide)), fun _ => ⟨i, rfl, hi, ?_⟩⟩
    rw [show (0 : Int64) = lN 0 from rfl, wy_next rfl, nI_1]
    exact k
  · exact RJ7_fill_d0a16_6 hX _ _ _ ⟨fun _ => hRt, fun q => absurd (nI_le (Nat.le_refl _) (by decide)) q⟩
theorem k_walk (hR : RD I 1 D) (hY : RY I 1 D) (hW : WF D) {a m : Nat} (ha : a < D 0) (hm : m ≤ 62) : Ct E l yX1_walk wsX1_walk rmX1_walk [.ref 87, .ref 1, .int (nI a), .int (nI m)] (HE E I L p) none (HE E I (wy 88 10 L (cm D a m)) p) := by
  have hS := hW.S
  have hP := hW.P
  obtain ⟨-, f, hf, hO⟩ := hY
  have r3 := hR.2.1
  refine Ct.mk (by decide) rfl (Nat.le_of_ble_eq_true rfl) ?_
  rintro X rfl rfl hX - hRt
  refine RX1_walk_0 hX _ _ ⟨_, k_fill, a, rfl, by omega, ?_⟩
  rw [jlshl_1 (by omega), wy_up (by omega), show va_up (fun _ => 0) a (2 ^ m) = y0 a m from rfl]
  refine loop_up (N := D 1) (Q := fun n => G X 0 0 20 [(0, .ref 87), (1, .ref 1), (2, .int (nI a)), (3, .int (nI m)), (4, .int (nI n))] [] (HM X I (wy 88 10 L (ks D f (y0 a m) n)) p)) (fun n hn k => ?_) 0 (Nat.zero_le _) ?_
  · have hfn := hO.1 n hn
    obtain ⟨hp1, hp2, hp3, hp4⟩ := hW.pipe hfn
    obtain ⟨i1, i2, -, -⟩ := hR.2.2.2.2.1 (f n) (by omega)
    have e12 : I 12 n = nI (f n) := hf n hn
    have e4 : I 4 (f n) = nI (fr D (f n)) := i1
    have e5 : I 5 (f n) = nI (tt D (f n)) := i2
    have hs := (ks_SI hO.1 (SI_0 D a hm) n (by omega)).1
    have hl : wy 88 10 L (ks D f (y0 a m) n) 88 (fr D (f n)) = lN (ks D f (y0 a m) n (fr D (f n))) := wy_s (by omega)
    refine RX1_walk_20 hX _ _ _ ⟨fun q => absurd q (by rw [r3]; exact nI_ge hn (by omega)), fun _ => ⟨n, rfl, by omega, f n, e12, by omega, fr D (f n), e4, by omega, fun c => ?_, fun c => ⟨f n, e12, by omega, tt D (f n), e5, by omega, fr D (f n), e4, by omega, _, by rw [e4, hl]; exact k_leaving hR hW hp1 (hs _), _, by rw [e12]; exact k_brought hR hW hfn, tt D (f n), e5, by omega, ?_⟩⟩⟩
    · rw [hl, lN_0i (hs _)] at c
      have e : ks D f (y0 a m) (n + 1) = ks D f (y0 a m) n := st_id (by rw [st_s, c, cb_0, Nat.or_zero])
      rw [e] at k
      rw [nI_1]
      exact k
    · rw [wy_s (show tt D (f n) < 10 by omega), bro_lvs, fb_orL, wy_up (by omega), nI_1]
      exact k
  · refine RX1_walk_20 hX _ _ _ ⟨fun _ => ?_, fun q => absurd (by rw [r3]; exact nI_le (Nat.le_refl _) (by omega)) q⟩
    rw [wy_cong (Z := cm D a m) (fun k _ => ks_done hW hO (SI_0 D a hm) k)]
    exact hRt
theorem k_agreesWith (hR : RD I 1 D) (hW : WF D) {Y : Nat → Nat} (hY : ∀ b, Y b < 2 ^ 63) {t : Nat} (ht : t < D 2) : Ct E l yX1_agreesWith wsX1_agreesWith rmX1_agreesWith [.ref 87, .ref 1, .int (nI t)] (HE E I (wy 88 10 L Y) p) (some (.int (b2i (sg D t (Y (D (88 + 3 * t))))))) (HE E I (wy 88 10 L Y) p) := by
  have hS := hW.S
  have hT := hW.T
  obtain ⟨s1, s2, s3⟩ := hW.sight ht
  obtain ⟨i1, i2, i3⟩ := hR.2.2.2.2.2 t (by omega)
  have e8 : I 8 t = nI (D (87 + 3 * t)) := i1
  have e9 : I 9 t = nI (D (88 + 3 * t)) := i2
  have e10 : I 10 t = nI (D (89 + 3 * t)) := i3
  have hc := hY (D (88 + 3 * t))
  have hl : wy 88 10 L Y 88 (D (88 + 3 * t)) = lN (Y (D (88 + 3 * t))) := wy_s (by omega)
  refine Ct.mk (by decide) rfl (Nat.le_of_ble_eq_true rfl) ?_
  rintro X rfl rfl hX - hRt
  refine RX1_agreesWith_0 hX _ ⟨t, rfl, by omega, D (88 + 3 * t), e9, by omega, t, rfl, by omega, t, rfl, by omega, fun q => ⟨fun q2 => ?_, fun q2 => ?_⟩, fun q => ?_⟩
  · rw [e8] at q
    rw [hl, lN_0i hc] at q2
    have g : sg D t (Y (D (88 + 3 * t))) := by
      unfold sg
      rw [if_neg (fun e => q (by rw [e]; rfl))]
      exact Or.inl q2
    rw [b2i_pos g] at hRt
    exact hRt
  · rw [e8] at q
    rw [hl, lN_0i hc] at q2
    rw [hl, e10, nI_1, jlushr_n (by omega) (by omega)]
    have hd : Y (D (88 + 3 * t)) / 2 ^ (D (89 + 3 * t) + 1) < 2 ^ 63 := Nat.lt_of_le_of_lt (Nat.div_le_self _ _) hc
    have g : sg D t (Y (D (88 + 3 * t))) ↔ ¬ Y (D (88 + 3 * t)) / 2 ^ (D (89 + 3 * t) + 1) = 0 := by
      unfold sg
      rw [if_neg (fun e => q (by rw [e]; rfl))]
      constructor
      · rintro (h | ⟨u, h1, h2⟩) z
        · exact q2 h
        · have : (Y (D (88 + 3 * t)) / 2 ^ (D (89 + 3 * t) + 1)).testBit (u - (D (89 + 3 * t) + 1)) = true := by
            rw [Nat.testBit_div_two_pow, show u - (D (89 + 3 * t) + 1) + (D (89 + 3 * t) + 1) = u by omega]; exact h2
          rw [z, Nat.zero_testBit] at this
          exact absurd this (by simp)
      · intro h
        obtain ⟨u, hu⟩ := Nat.exists_testBit_of_ne_zero h
        rw [Nat.testBit_div_two_pow] at hu
        exact Or.inr ⟨_, by omega, hu⟩
    refine hRt.toI ?_
    by_cases c : Y (D (88 + 3 * t)) / 2 ^ (D (89 + 3 * t) + 1) = 0
    · rw [b2i_neg (fun h => g.mp h c), if_pos ((lN_0i hd).mpr c)]
    · rw [b2i_pos (g.mpr c), if_neg (fun h => c ((lN_0i hd).mp h))]
  · rw [e8] at q
    rw [hl, e10]
    have g : sg D t (Y (D (88 + 3 * t))) ↔ (Y (D (88 + 3 * t))).testBit (D (89 + 3 * t)) = true := by
      unfold sg
      rw [if_pos ((nI_eq (b := 1) (by omega) (by decide)).mp q)]
    have hj := jlubit_iff (n := Y (D (88 + 3 * t))) (k := D (89 + 3 * t)) (by omega) (by omega)
    refine hRt.toI ?_
    by_cases c : (Y (D (88 + 3 * t))).testBit (D (89 + 3 * t)) = true
    · rw [b2i_pos (g.mpr c), if_pos (jcmp_0.mpr (hj.mpr c))]
    · rw [b2i_neg (fun h => c (g.mp h)), if_neg (fun h => c (hj.mp (jcmp_0.mp h)))]
theorem k_agrees (hR : RD I 1 D) (hW : WF D) {a m : Nat} : Ct E l yX1_agrees wsX1_agrees rmX1_agrees [.ref 87, .ref 1] (HE E I (wy 88 10 L (cm D a m)) p) (some (.int (b2i (ft D a m)))) (HE E I (wy 88 10 L (cm D a m)) p) := by
  have hT := hW.T
  have r8 := hR.2.2.1
  refine Ct.mk (by decide) rfl (Nat.le_of_ble_eq_true rfl) ?_
  rintro X rfl rfl hX - hRt
  refine RX1_agrees_0 hX ?_
  have loop : ∀ n k, k + n = D 2 → (∀ j, j < k → sg D j (cm D a m (D (88 + 3 * j)))) → G X 0 0 2 [(0, .ref 87), (1, .ref 1), (2, .int (nI k))] [] (HM X I (wy 88 10 L (cm D a m)) p) := by
    intro n
    induction n with
    | zero =>
      intro k hk h
      refine RX1_agrees_2 hX _ ⟨fun _ => ?_, fun q => absurd (by rw [r8]; exact nI_le (by omega) (by omega)) q⟩
      have hft : ft D a m := fun j hj => h j (by omega)
      rw [b2i_pos hft] at hRt
      exact hRt
    | succ n ih =>
      intro k hk h
      refine RX1_agrees_2 hX _ ⟨fun q => absurd q (by rw [r8]; exact nI_ge (by omega) (by omega)), fun _ => ⟨_, k_agreesWith hR hW (fun b => cm_lt D a m b) (by omega), fun q => ?_, fun q => ?_⟩⟩
      · rw [nI_1]
        refine ih (k + 1) (by omega) (fun j hj => ?_)
        by_cases c : j = k
        · subst c; exact b2i_n0.mp q
        · exact h j (by omega)
      · have hft : ¬ ft D a m := fun z => b2i_0.mp q (z k (by omega))
        rw [b2i_neg hft] at hRt
        exact hRt
  exact loop (D 2) 0 (Nat.zero_add _) (fun j hj => by omega)
/-- the cache is right -/
def KN (I : MI) (D : Dr) : Prop := ∃ kn, kn < 1024 ∧ I 87 2 = nI kn ∧ ∀ a, a < 10 → kn.testBit a = true → I 89 a = nI (whn D a)
noncomputable def sI (D : Dr) (a : Nat) (I : MI) : MI := if (jshr (I 87 2) (nI a) &&& 1) = 1 then I else upI (upI I 89 a (nI (whn D a))) 87 2 (I 87 2 ||| nI (2 ^ a))
noncomputable def sL (D : Dr) (a : Nat) (I : MI) (L : ML) : ML := if (jshr (I 87 2) (nI a) &&& 1) = 1 then L else wy 88 10 L (cm D a 30)
theorem sI_r {a q : Nat} (h1 : q ≠ 87) (h2 : q ≠ 89) : sI D a I q = I q := by
  unfold sI
  split
  · rfl
  · rw [upI_R h1, upI_R h2]
theorem sL_r {a q : Nat} (h : q ≠ 88) : sL D a I L q = L q := by
  unfold sL
  split
  · rfl
  · exact wy_r h
theorem KN_sI {a : Nat} (h : KN I D) (ha : a < 10) : KN (sI D a I) D := by
  obtain ⟨kn, h1, h2, h3⟩ := h
  unfold sI
  split
  · exact ⟨kn, h1, h2, h3⟩
  · refine ⟨kn ||| 2 ^ a, Nat.or_lt_two_pow (n := 10) h1 (Nat.pow_lt_pow_right (by decide) ha), by rw [upI_s, h2, fa_or], fun b hb hbit => ?_⟩
    rw [upI_r (by decide)]
    rw [Nat.testBit_or, Nat.testBit_two_pow, Bool.or_eq_true, decide_eq_true_eq] at hbit
    by_cases c : b = a
    · subst c; rw [upI_s]
    · rw [upI_k c]
      rcases hbit with z | z
      · exact h3 b hb z
      · exact absurd z.symm c
theorem k_startsAt (hR : RD I 1 D) (hY : RY I 1 D) (hW : WF D) (hK : KN I D) {a : Nat} (ha : a < D 0) : Ct E l yX1_startsAt wsX1_startsAt rmX1_startsAt [.ref 87, .ref 1, .int (nI a)] (HE E I L p) (some (.int (nI (whn D a)))) (HE E (sI D a I) (sL D a I L) p) := by
  have hS := hW.S
  obtain ⟨kn, h1, h2, h3⟩ := hK
  refine Ct.mk (by decide) rfl (Nat.le_of_ble_eq_true rfl) ?_
  rintro X rfl rfl hX - hRt
  unfold sI sL at hRt
  refine RX1_startsAt_0 hX _ ⟨fun q => ?_, fun q => ⟨a, rfl, by omega, ?_⟩⟩
  · rw [if_neg q, if_neg q] at hRt
    refine loop_up (N := 31) (Q := fun i => G X 0 0 24 [(0, .ref 87), (1, .ref 1), (2, .int (nI a)), (3, .int (nI (mk (fun m => bdec (ft D a m)) i))), (4, .int (nI i))] [] (HM X I (wz 88 L (cm D a) i) p)) (fun i hi k => ?_) 0 (Nat.zero_le _) ?_
    · refine RX1_startsAt_24 hX _ _ _ ⟨fun q => absurd ((nlt (a := 30) (by decide) (by omega)).mp q) (by omega), fun _ => ⟨_, k_walk hR hY hW ha (by omega), _, k_agrees hR hW, ?_⟩⟩
      have e : (if b2i (ft D a i) = 0 then nI (mk (fun m => bdec (ft D a m)) i) else nI (mk (fun m => bdec (ft D a m)) i) ||| jshl 1 (nI i)) = nI (mk (fun m => bdec (ft D a m)) (i + 1)) := by
        rw [← mk_next (f := fun m => bdec (ft D a m)) hi, jshl_1 hi]
        by_cases c : ft D a i
        · rw [if_neg (b2i_n0.mpr c), bif_pos c]
        · rw [if_pos (b2i_0.mpr c), bif_neg c]; simp
      rw [e, nI_1, wz_s]
      exact k
    · refine RX1_startsAt_24 hX _ _ _ ⟨fun _ => ⟨a, rfl, by omega, ?_⟩, fun q => absurd (by decide) q⟩
      rw [upI_r (show (87 : Nat) ≠ 89 by decide), jshl_1 (by omega)]
      exact hRt
  · rw [if_pos q, if_pos q] at hRt
    rw [h2] at q
    rw [h3 a (by omega) ((jbit_iff (by omega) (by omega)).mp q)]
    exact hRt
noncomputable def sIn (D : Dr) (I : MI) : Nat → MI
  | 0 => I
  | n + 1 => sI D n (sIn D I n)
noncomputable def sLn (D : Dr) (I : MI) (L : ML) : Nat → ML
  | 0 => L
  | n + 1 => sL D n (sIn D I n) (sLn D I L n)
theorem sIn_r {q : Nat} (h1 : q ≠ 87) (h2 : q ≠ 89) : ∀ n, sIn D I n q = I q
  | 0 => rfl
  | n + 1 => (sI_r h1 h2).trans (sIn_r h1 h2 n)
theorem sLn_r {q : Nat} (h : q ≠ 88) : ∀ n, sLn D I L n q = L q
  | 0 => rfl
  | n + 1 => (sL_r h).trans (sLn_r h n)
theorem KN_n (h : KN I D) : ∀ n, n ≤ 10 → KN (sIn D I n) D
  | 0, _ => h
  | n + 1, hn => KN_sI (KN_n h n (by omega)) (by omega)
theorem k_suspicious (hR : RD I 1 D) (hY : RY I 1 D) (hW : WF D) (hK : KN I D) : Ct E l yX1_suspicious wsX1_suspicious rmX1_suspicious [.ref 87, .ref 1] (HE E I L p) (some (.int (nI (sus D)))) (HE E (sIn D I (D 0)) (sLn D I L (D 0)) p) := by
  have hS := hW.S
  have r0 : ∀ n, sIn D I n 1 0 = nI (D 0) := fun n => by rw [sIn_r (by decide) (by decide)]; exact hR.1
  refine Ct.mk (by decide) rfl (Nat.le_of_ble_eq_true rfl) ?_
  rintro X rfl rfl hX - hRt
  refine RX1_suspicious_0 hX ?_
  refine loop_up (N := D 0) (Q := fun i => G X 0 0 4 [(0, .ref 87), (1, .ref 1), (2, .int (nI (mk (fun a => bdec (whn D a ≠ 0)) i))), (3, .int (nI i))] [] (HM X (sIn D I i) (sLn D I L i) p)) (fun i hi k => ?_) 0 (Nat.zero_le _) ?_
  · refine RX1_suspicious_4 hX _ _ ⟨fun q => absurd q (by rw [r0]; exact nI_ge hi (by omega)), fun _ => ⟨_, _, _, k_startsAt (hR.cong fun q h1 h2 => sIn_r (by omega) (by omega) i) (hY.cong fun q h1 h2 => sIn_r (by omega) (by omega) i) hW (KN_n hK i (by omega)) hi, ?_⟩⟩
    have hw := whn_lt D i
    have e : (if nI (whn D i) = 0 then nI (mk (fun a => bdec (whn D a ≠ 0)) i) else nI (mk (fun a => bdec (whn D a ≠ 0)) i) ||| jshl 1 (nI i)) = nI (mk (fun a => bdec (whn D a ≠ 0)) (i + 1)) := by
      rw [← mk_next (f := fun a => bdec (whn D a ≠ 0)) (by omega), jshl_1 (by omega)]
      by_cases c : whn D i = 0
      · have z0 : nI (whn D i) = (0 : Int32) := by rw [c]; rfl
        rw [if_pos z0, bif_neg (fun q => q c)]; simp
      · rw [if_neg (nI_ne0 (by omega) hw), bif_pos c]
    rw [e, nI_1]
    exact k
  · exact RX1_suspicious_4 hX _ _ ⟨fun _ => hRt, fun q => absurd (by rw [r0]; exact nI_le (Nat.le_refl _) (by omega)) q⟩
end
