/-! Bits of ints and longs by numbers; masks. -/
/-- the number whose bits below n are f -/
def mk (f : Nat → Bool) : Nat → Nat
  | 0 => 0
  | n + 1 => mk f n + (if f n then 2 ^ n else 0)
theorem mk_lt (f : Nat → Bool) : ∀ n, mk f n < 2 ^ n
  | 0 => by simp [mk]
  | n + 1 => by
    have h := mk_lt f n
    rw [mk, Nat.pow_succ]
    split <;> omega
theorem mk_bit (f : Nat → Bool) : ∀ n k, (mk f n).testBit k = (decide (k < n) && f k)
  | 0, k => by simp [mk]
  | n + 1, k => by
    have ih := mk_bit f n k
    have hl := mk_lt f n
    rw [mk]
    by_cases hf : f n = true
    · rw [if_pos hf, Nat.add_comm]
      rcases Nat.lt_trichotomy k n with h | h | h
      · rw [Nat.testBit_two_pow_add_gt h, ih]
        simp [h, Nat.lt_succ_of_lt h]
      · subst h
        rw [Nat.testBit_two_pow_add_eq, ih]
        simp [hf]
      · have h1 : 2 ^ (n + 1) ≤ 2 ^ k := Nat.pow_le_pow_right (by decide) h
        rw [Nat.pow_succ] at h1
        rw [Nat.testBit_lt_two_pow (by omega)]
        simp [show ¬ k < n + 1 by omega]
    · rw [if_neg hf, Nat.add_zero, ih]
      by_cases h : k = n
      · subst h; simp [hf]
      · have : (k < n + 1) ↔ k < n := by omega
        simp [this]
theorem mk_ext {f g : Nat → Bool} : ∀ {n : Nat}, (∀ k, k < n → f k = g k) → mk f n = mk g n
  | 0, _ => rfl
  | n + 1, h => by
    rw [mk, mk, mk_ext (fun k hk => h k (Nat.lt_succ_of_lt hk)), h n (Nat.lt_succ_self n)]
theorem mk_of {x n : Nat} {f : Nat → Bool} (hx : x < 2 ^ n) (h : ∀ k, k < n → x.testBit k = f k) : x = mk f n := by
  apply Nat.eq_of_testBit_eq
  intro k
  rw [mk_bit]
  by_cases hk : k < n
  · simp [hk, h k hk]
  · have h1 : 2 ^ n ≤ 2 ^ k := Nat.pow_le_pow_right (by decide) (by omega)
    rw [Nat.testBit_lt_two_pow (by omega)]
    simp [hk]
theorem mk_or (f : Nat → Bool) (n : Nat) : mk f (n + 1) = mk f n ||| (if f n then 2 ^ n else 0) := by
  apply Nat.eq_of_testBit_eq
  intro k
  rw [Nat.testBit_or, mk_bit, mk_bit]
  by_cases hf : f n = true
  · rw [if_pos hf, Nat.testBit_two_pow]
    by_cases h : k = n
    · subst h; simp [hf]
    · have h2 : ¬ n = k := fun e => h e.symm
      have : (k < n + 1) ↔ k < n := by omega
      simp [this, h2]
  · rw [if_neg hf, Nat.zero_testBit, Bool.or_false]
    by_cases h : k = n
    · subst h; simp [hf]
    · have : (k < n + 1) ↔ k < n := by omega
      simp [this]
-- Int32
theorem c31 : ∀ k, k < 32 → ((nI k &&& 31).toBitVec.smod 32).toNat = k := by decide +kernel
theorem jshl_n {n k : Nat} (hk : k < 32) (h : n * 2 ^ k < 2 ^ 32) : jshl (nI n) (nI k) = nI (n * 2 ^ k) := pk_shlN _ k (c31 k hk) h
theorem jshl_1 {k : Nat} (hk : k < 31) : jshl 1 (nI k) = nI (2 ^ k) := by
  have h : 2 ^ k < 2 ^ 31 := Nat.pow_lt_pow_right (by decide) hk
  have := jshl_n (n := 1) (k := k) (by omega) (by omega)
  rw [Nat.one_mul] at this
  exact this
theorem jshr_n {n k : Nat} (hn : n < 2 ^ 31) (hk : k < 32) : jshr (nI n) (nI k) = nI (n / 2 ^ k) := pk_shrN hn _ k (c31 k hk)
theorem jbit {n k : Nat} (hn : n < 2 ^ 31) (hk : k < 32) : jshr (nI n) (nI k) &&& 1 = nI (n / 2 ^ k % 2) := by
  rw [jshr_n hn hk]
  exact fa_mask _ 1
theorem tb_iff (n k : Nat) : n / 2 ^ k % 2 = 1 ↔ n.testBit k = true := by
  rw [Nat.testBit_eq_decide_div_mod_eq, decide_eq_true_eq]
theorem jbit_iff {n k : Nat} (hn : n < 2 ^ 31) (hk : k < 32) : (jshr (nI n) (nI k) &&& 1) = 1 ↔ n.testBit k = true := by
  rw [jbit hn hk, show (1 : Int32) = nI 1 from rfl, nI_eq (by omega) (by decide), tb_iff]
theorem jbit_b {n k : Nat} (hn : n < 2 ^ 31) (hk : k < 32) : (jshr (nI n) (nI k) &&& 1) = if n.testBit k then 1 else 0 := by
  rw [jbit hn hk]
  by_cases h : n.testBit k = true
  · rw [if_pos h, (tb_iff n k).mpr h]; rfl
  · have h2 : ¬ n / 2 ^ k % 2 = 1 := fun e => h ((tb_iff n k).mp e)
    rw [if_neg h, show n / 2 ^ k % 2 = 0 by omega]; rfl
-- Int64
theorem jlshl_n (n : Nat) {k : Nat} (hk : k < 64) : jlshl (lN n) (nI k) = lN (n * 2 ^ k) := wb_shl n hk
theorem jlshl_1 {k : Nat} (hk : k < 64) : jlshl 1 (nI k) = lN (2 ^ k) := by
  have := jlshl_n 1 hk
  rw [Nat.one_mul] at this
  exact this
theorem jlushr_n {n k : Nat} (hn : n < 2 ^ 64) (hk : k < 64) : jlushr (lN n) (nI k) = lN (n / 2 ^ k) := wb_shr hn hk
theorem lN_eq' {a b : Nat} (ha : a < 2 ^ 64) (hb : b < 2 ^ 64) : lN a = lN b ↔ a = b := by
  constructor
  · intro h
    have h1 := wb_tn ha
    rw [h, wb_tn hb] at h1
    exact h1.symm
  · intro h; rw [h]
theorem jlshr_n {n k : Nat} (hn : n < 2 ^ 63) (hk : k < 64) : jlshr (lN n) (nI k) = lN (n / 2 ^ k) := by
  unfold jlshr
  rw [wb_c k hk]
  apply wb_inj
  rw [Int64.toBitVec_shiftRight, wb_tb, wb_tb, wb_tb, wb_sm k hk]
  have hk2 : (BitVec.ofNat 64 k).toNat = k := by rw [BitVec.toNat_ofNat, Nat.mod_eq_of_lt (by omega)]
  rw [BitVec.sshiftRight_eq']
  rw [hk2]
  have hm : (BitVec.ofNat 64 n).msb = false := by
    rw [BitVec.msb_eq_decide, BitVec.toNat_ofNat, Nat.mod_eq_of_lt (by omega)]
    simp; omega
  rw [BitVec.sshiftRight_eq_of_msb_false hm]
  apply BitVec.eq_of_toNat_eq
  rw [BitVec.toNat_ushiftRight, BitVec.toNat_ofNat, BitVec.toNat_ofNat, Nat.mod_eq_of_lt (by omega), Nat.shiftRight_eq_div_pow, Nat.mod_eq_of_lt (Nat.lt_of_le_of_lt (Nat.div_le_self _ _) (by omega))]
theorem jlbit {n k : Nat} (hn : n < 2 ^ 63) (hk : k < 64) : jlshr (lN n) (nI k) &&& 1 = lN (n / 2 ^ k % 2) := by
  rw [jlshr_n hn hk, wb_a1 (Nat.lt_of_le_of_lt (Nat.div_le_self _ _) (by omega))]
theorem jlbit_iff {n k : Nat} (hn : n < 2 ^ 63) (hk : k < 64) : (jlshr (lN n) (nI k) &&& 1) = 1 ↔ n.testBit k = true := by
  rw [jlbit hn hk, show (1 : Int64) = lN 1 from rfl, lN_eq' (by omega) (by decide), tb_iff]
theorem jlubit_iff {n k : Nat} (hn : n < 2 ^ 64) (hk : k < 64) : (jlushr (lN n) (nI k) &&& 1) = 1 ↔ n.testBit k = true := by
  rw [jlushr_n hn hk, wb_a1 (Nat.lt_of_le_of_lt (Nat.div_le_self _ _) hn), show (1 : Int64) = lN 1 from rfl, lN_eq' (by omega) (by decide), tb_iff]
theorem jcmp_0 {x y : Int64} : jcmp x y = 0 ↔ x = y := by
  unfold jcmp lg_cmp
  by_cases h1 : y < x
  · rw [if_pos h1]
    constructor
    · intro h; exact absurd h (by decide)
    · intro h; rw [h] at h1; exact absurd h1 (by rw [Int64.lt_iff_toInt_lt]; omega)
  · rw [if_neg h1]
    by_cases h2 : x = y
    · simp [h2]
    · simp [h2]
-- comparisons of numbers
theorem nlt {a b : Nat} (ha : a < 2 ^ 31) (hb : b < 2 ^ 31) : nI a < nI b ↔ a < b := nI_ltI ha hb
theorem nle {a b : Nat} (ha : a < 2 ^ 31) (hb : b < 2 ^ 31) : nI a ≤ nI b ↔ a ≤ b := nI_leI ha hb
