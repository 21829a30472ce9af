/-! How many bits, the first and the last: Integer and Long. -/
theorem liN (n : Nat) : (lN n).toInt32 = nI n := Int64.toInt32_ofNat'
theorem laN (a b : Nat) : lN a + lN b = lN (a + b) := (Int64.ofNat_add a b).symm
theorem lsN {a b : Nat} (h : b ≤ a) : lN a - lN b = lN (a - b) := by
  have e : a = (a - b) + b := by omega
  rw [e, ← laN]
  simp
theorem nI_sub {a b : Nat} (h : b ≤ a) : nI a - nI b = nI (a - b) := by
  have e : a = (a - b) + b := by omega
  rw [e, ← nI_add]
  simp
theorem nI_mod (n : Nat) : nI n = nI (n % 2 ^ 32) := Int32.toBitVec_inj.mp (by
  show BitVec.ofNat 32 n = BitVec.ofNat 32 (n % 2 ^ 32)
  apply BitVec.eq_of_toNat_eq
  rw [BitVec.toNat_ofNat, BitVec.toNat_ofNat, Nat.mod_mod])
theorem c31u : ∀ k, k < 32 → (((nI k).toUInt32 &&& Int32.toUInt32 31).toBitVec % 32).toNat = k := by decide +kernel
theorem jushr_n {n k : Nat} (hn : n < 2 ^ 32) (hk : k < 32) : jushr (nI n) (nI k) = nI (n / 2 ^ k) := pk_ushrN hn _ k (c31u k hk)
theorem jus {x s k : Nat} (hx : x < 2 ^ 32) (hk : k < 32) : jushr (nI (x / 2 ^ s)) (nI k) = nI (x / 2 ^ (s + k)) := by
  rw [jushr_n (Nat.lt_of_le_of_lt (Nat.div_le_self _ _) hx) hk, Nat.div_div_eq_div_mul, ← Nat.pow_add]
-- leading zeros
theorem lg_one {x h s : Nat} (h1 : 2 ^ h ≤ x) (h2 : x < 2 ^ (h + 1)) (h3 : 2 ^ s ≤ x) (h4 : x < 2 ^ (s + 1)) : h = s := by
  rcases Nat.lt_trichotomy h s with c | c | c
  · have := Nat.pow_le_pow_right (n := 2) (by decide) (show h + 1 ≤ s from c)
    omega
  · exact c
  · have := Nat.pow_le_pow_right (n := 2) (by decide) (show s + 1 ≤ h from c)
    omega
theorem leafz {x h s : Nat} (h1 : 2 ^ h ≤ x) (h2 : x < 2 ^ (h + 1)) (h3 : 2 ^ s ≤ x) (h4 : x < 2 ^ (s + 2)) (hs : s ≤ 30) : nI (31 - h) = nI (31 - s) - nI (x / 2 ^ (s + 1)) := by
  have hp : 2 ^ (s + 1) = 2 * 2 ^ s := by rw [Nat.pow_succ, Nat.mul_comm]
  have hp2 : 2 ^ (s + 2) = 2 * 2 ^ (s + 1) := by rw [Nat.pow_succ, Nat.mul_comm]
  by_cases c : x < 2 ^ (s + 1)
  · have e := lg_one h1 h2 h3 c
    subst e
    rw [Nat.div_eq_of_lt c, nI_sub (Nat.zero_le _)]; rfl
  · have e := lg_one h1 h2 (s := s + 1) (by omega) h4
    subst e
    have e2 : x / 2 ^ (s + 1) = 1 := by
      rw [Nat.div_eq_iff (Nat.two_pow_pos _)]
      omega
    by_cases c30 : s = 30
    · subst c30; rw [e2]; rfl
    · rw [e2, nI_sub (by omega)]
      congr 1
section
variable {E : ET} {l : Launch} {I : MI} {L : ML} {p : Nat → Nat} {D : Dr} {s : Sg}
theorem j_nlz {x h : Nat} (h1 : 2 ^ h ≤ x) (h2 : x < 2 ^ (h + 1)) (h31 : h ≤ 30) : Ct E l yJ6_numberOfLeadingZeros_0f7a4 wsJ6_numberOfLeadingZeros_0f7a4 rmJ6_numberOfLeadingZeros_0f7a4 [.int (nI x)] (HE E I L p) (some (.int (nI (31 - h)))) (HE E I L p) := by
  have hx0 : 1 ≤ x := Nat.le_trans (Nat.two_pow_pos h) h1
  have hx : x < 2 ^ 31 := Nat.lt_of_lt_of_le h2 (Nat.pow_le_pow_right (by decide) (by omega))
  refine Ct.mk (by decide) rfl (Nat.le_of_ble_eq_true rfl) ?_
  rintro X rfl rfl hX - hRt
  refine RJ6_numberOfLeadingZeros_0f7a4_0 hX _ ?_
  have e0_1 : jushr (nI x) 1 = nI (x / 2 ^ 1) := jushr_n (k := 1) (by omega) (by decide)
  have e0_2 : jushr (nI x) 2 = nI (x / 2 ^ 2) := jushr_n (k := 2) (by omega) (by decide)
  have e0_4 : jushr (nI x) 4 = nI (x / 2 ^ 4) := jushr_n (k := 4) (by omega) (by decide)
  have e0_8 : jushr (nI x) 8 = nI (x / 2 ^ 8) := jushr_n (k := 8) (by omega) (by decide)
  have e0_16 : jushr (nI x) 16 = nI (x / 2 ^ 16) := jushr_n (k := 16) (by omega) (by decide)
  have e2_1 : jushr (nI (x / 2 ^ 2)) 1 = nI (x / 2 ^ 3) := jus (s := 2) (k := 1) (by omega) (by decide)
  have e4_1 : jushr (nI (x / 2 ^ 4)) 1 = nI (x / 2 ^ 5) := jus (s := 4) (k := 1) (by omega) (by decide)
  have e4_2 : jushr (nI (x / 2 ^ 4)) 2 = nI (x / 2 ^ 6) := jus (s := 4) (k := 2) (by omega) (by decide)
  have e6_1 : jushr (nI (x / 2 ^ 6)) 1 = nI (x / 2 ^ 7) := jus (s := 6) (k := 1) (by omega) (by decide)
  have e8_1 : jushr (nI (x / 2 ^ 8)) 1 = nI (x / 2 ^ 9) := jus (s := 8) (k := 1) (by omega) (by decide)
  have e8_2 : jushr (nI (x / 2 ^ 8)) 2 = nI (x / 2 ^ 10) := jus (s := 8) (k := 2) (by omega) (by decide)
  have e8_4 : jushr (nI (x / 2 ^ 8)) 4 = nI (x / 2 ^ 12) := jus (s := 8) (k := 4) (by omega) (by decide)
  have e10_1 : jushr (nI (x / 2 ^ 10)) 1 = nI (x / 2 ^ 11) := jus (s := 10) (k := 1) (by omega) (by decide)
  have e12_1 : jushr (nI (x / 2 ^ 12)) 1 = nI (x / 2 ^ 13) := jus (s := 12) (k := 1) (by omega) (by decide)
  have e12_2 : jushr (nI (x / 2 ^ 12)) 2 = nI (x / 2 ^ 14) := jus (s := 12) (k := 2) (by omega) (by decide)
  have e14_1 : jushr (nI (x / 2 ^ 14)) 1 = nI (x / 2 ^ 15) := jus (s := 14) (k := 1) (by omega) (by decide)
  have e16_1 : jushr (nI (x / 2 ^ 16)) 1 = nI (x / 2 ^ 17) := jus (s := 16) (k := 1) (by omega) (by decide)
  have e16_2 : jushr (nI (x / 2 ^ 16)) 2 = nI (x / 2 ^ 18) := jus (s := 16) (k := 2) (by omega) (by decide)
  have e16_4 : jushr (nI (x / 2 ^ 16)) 4 = nI (x / 2 ^ 20) := jus (s := 16) (k := 4) (by omega) (by decide)
  have e16_8 : jushr (nI (x / 2 ^ 16)) 8 = nI (x / 2 ^ 24) := jus (s := 16) (k := 8) (by omega) (by decide)
  have e18_1 : jushr (nI (x / 2 ^ 18)) 1 = nI (x / 2 ^ 19) := jus (s := 18) (k := 1) (by omega) (by decide)
  have e20_1 : jushr (nI (x / 2 ^ 20)) 1 = nI (x / 2 ^ 21) := jus (s := 20) (k := 1) (by omega) (by decide)
  have e20_2 : jushr (nI (x / 2 ^ 20)) 2 = nI (x / 2 ^ 22) := jus (s := 20) (k := 2) (by omega) (by decide)
  have e22_1 : jushr (nI (x / 2 ^ 22)) 1 = nI (x / 2 ^ 23) := jus (s := 22) (k := 1) (by omega) (by decide)
  have e24_1 : jushr (nI (x / 2 ^ 24)) 1 = nI (x / 2 ^ 25) := jus (s := 24) (k := 1) (by omega) (by decide)
  have e24_2 : jushr (nI (x / 2 ^ 24)) 2 = nI (x / 2 ^ 26) := jus (s := 24) (k := 2) (by omega) (by decide)
  have e24_4 : jushr (nI (x / 2 ^ 24)) 4 = nI (x / 2 ^ 28) := jus (s := 24) (k := 4) (by omega) (by decide)
  have e26_1 : jushr (nI (x / 2 ^ 26)) 1 = nI (x / 2 ^ 27) := jus (s := 26) (k := 1) (by omega) (by decide)
  have e28_1 : jushr (nI (x / 2 ^ 28)) 1 = nI (x / 2 ^ 29) := jus (s := 28) (k := 1) (by omega) (by decide)
  have e28_2 : jushr (nI (x / 2 ^ 28)) 2 = nI (x / 2 ^ 30) := jus (s := 28) (k := 2) (by omega) (by decide)
  have e30_1 : jushr (nI (x / 2 ^ 30)) 1 = nI (x / 2 ^ 31) := jus (s := 30) (k := 1) (by omega) (by decide)
  rw [e0_1, e0_2, e0_4, e0_8, e0_16, e2_1, e4_1, e4_2, e6_1, e8_1, e8_2, e8_4, e10_1, e12_1, e12_2, e14_1, e16_1, e16_2, e16_4, e16_8, e18_1, e20_1, e20_2, e22_1, e24_1, e24_2, e24_4, e26_1, e28_1, e28_2, e30_1]
  refine ⟨fun _ => ?_, fun q => absurd ((nlt (a := 0) (by decide) (by omega)).mpr hx0) q⟩
  refine ⟨fun q => ?_, fun q => ?_⟩
  · replace q := (nlt (a := x) (b := 65536) (by omega) (by decide)).mp q
    refine ⟨fun q => ?_, fun q => ?_⟩
    · replace q := (nlt (a := x) (b := 256) (by omega) (by decide)).mp q
      refine ⟨fun q => ?_, fun q => ?_⟩
      · replace q := (nlt (a := x) (b := 16) (by omega) (by decide)).mp q
        refine ⟨fun q => ?_, fun q => ?_⟩
        · replace q := (nlt (a := x) (b := 4) (by omega) (by decide)).mp q
          exact hRt.toI (leafz (s := 0) h1 h2 (by omega) (by omega) (by decide))
        · replace q : ¬ x < 4 := fun z => q ((nlt (a := x) (b := 4) (by omega) (by decide)).mpr z)
          exact hRt.toI (leafz (s := 2) h1 h2 (by omega) (by omega) (by decide))
      · replace q : ¬ x < 16 := fun z => q ((nlt (a := x) (b := 16) (by omega) (by decide)).mpr z)
        refine ⟨fun q => ?_, fun q => ?_⟩
        · replace q := (nlt (a := x / 2 ^ 4) (b := 4) (Nat.lt_of_le_of_lt (Nat.div_le_self _ _) hx) (by decide)).mp q
          exact hRt.toI (leafz (s := 4) h1 h2 (by omega) (by omega) (by decide))
        · replace q : ¬ x / 2 ^ 4 < 4 := fun z => q ((nlt (a := x / 2 ^ 4) (b := 4) (Nat.lt_of_le_of_lt (Nat.div_le_self _ _) hx) (by decide)).mpr z)
          exact hRt.toI (leafz (s := 6) h1 h2 (by omega) (by omega) (by decide))
    · replace q : ¬ x < 256 := fun z => q ((nlt (a := x) (b := 256) (by omega) (by decide)).mpr z)
      refine ⟨fun q => ?_, fun q => ?_⟩
      · replace q := (nlt (a := x / 2 ^ 8) (b := 16) (Nat.lt_of_le_of_lt (Nat.div_le_self _ _) hx) (by decide)).mp q
        refine ⟨fun q => ?_, fun q => ?_⟩
        · replace q := (nlt (a := x / 2 ^ 8) (b := 4) (Nat.lt_of_le_of_lt (Nat.div_le_self _ _) hx) (by decide)).mp q
          exact hRt.toI (leafz (s := 8) h1 h2 (by omega) (by omega) (by decide))
        · replace q : ¬ x / 2 ^ 8 < 4 := fun z => q ((nlt (a := x / 2 ^ 8) (b := 4) (Nat.lt_of_le_of_lt (Nat.div_le_self _ _) hx) (by decide)).mpr z)
          exact hRt.toI (leafz (s := 10) h1 h2 (by omega) (by omega) (by decide))
      · replace q : ¬ x / 2 ^ 8 < 16 := fun z => q ((nlt (a := x / 2 ^ 8) (b := 16) (Nat.lt_of_le_of_lt (Nat.div_le_self _ _) hx) (by decide)).mpr z)
        refine ⟨fun q => ?_, fun q => ?_⟩
        · replace q := (nlt (a := x / 2 ^ 12) (b := 4) (Nat.lt_of_le_of_lt (Nat.div_le_self _ _) hx) (by decide)).mp q
          exact hRt.toI (leafz (s := 12) h1 h2 (by omega) (by omega) (by decide))
        · replace q : ¬ x / 2 ^ 12 < 4 := fun z => q ((nlt (a := x / 2 ^ 12) (b := 4) (Nat.lt_of_le_of_lt (Nat.div_le_self _ _) hx) (by decide)).mpr z)
          exact hRt.toI (leafz (s := 14) h1 h2 (by omega) (by omega) (by decide))
  · replace q : ¬ x < 65536 := fun z => q ((nlt (a := x) (b := 65536) (by omega) (by decide)).mpr z)
    refine ⟨fun q => ?_, fun q => ?_⟩
    · replace q := (nlt (a := x / 2 ^ 16) (b := 256) (Nat.lt_of_le_of_lt (Nat.div_le_self _ _) hx) (by decide)).mp q
      refine ⟨fun q => ?_, fun q => ?_⟩
      · replace q := (nlt (a := x / 2 ^ 16) (b := 16) (Nat.lt_of_le_of_lt (Nat.div_le_self _ _) hx) (by decide)).mp q
        refine ⟨fun q => ?_, fun q => ?_⟩
        · replace q := (nlt (a := x / 2 ^ 16) (b := 4) (Nat.lt_of_le_of_lt (Nat.div_le_self _ _) hx) (by decide)).mp q
          exact hRt.toI (leafz (s := 16) h1 h2 (by omega) (by omega) (by decide))
        · replace q : ¬ x / 2 ^ 16 < 4 := fun z => q ((nlt (a := x / 2 ^ 16) (b := 4) (Nat.lt_of_le_of_lt (Nat.div_le_self _ _) hx) (by decide)).mpr z)
          exact hRt.toI (leafz (s := 18) h1 h2 (by omega) (by omega) (by decide))
      · replace q : ¬ x / 2 ^ 16 < 16 := fun z => q ((nlt (a := x / 2 ^ 16) (b := 16) (Nat.lt_of_le_of_lt (Nat.div_le_self _ _) hx) (by decide)).mpr z)
        refine ⟨fun q => ?_, fun q => ?_⟩
        · replace q := (nlt (a := x / 2 ^ 20) (b := 4) (Nat.lt_of_le_of_lt (Nat.div_le_self _ _) hx) (by decide)).mp q
          exact hRt.toI (leafz (s := 20) h1 h2 (by omega) (by omega) (by decide))
        · replace q : ¬ x / 2 ^ 20 < 4 := fun z => q ((nlt (a := x / 2 ^ 20) (b := 4) (Nat.lt_of_le_of_lt (Nat.div_le_self _ _) hx) (by decide)).mpr z)
          exact hRt.toI (leafz (s := 22) h1 h2 (by omega) (by omega) (by decide))
    · replace q : ¬ x / 2 ^ 16 < 256 := fun z => q ((nlt (a := x / 2 ^ 16) (b := 256) (Nat.lt_of_le_of_lt (Nat.div_le_self _ _) hx) (by decide)).mpr z)
      refine ⟨fun q => ?_, fun q => ?_⟩
      · replace q := (nlt (a := x / 2 ^ 24) (b := 16) (Nat.lt_of_le_of_lt (Nat.div_le_self _ _) hx) (by decide)).mp q
        refine ⟨fun q => ?_, fun q => ?_⟩
        · replace q := (nlt (a := x / 2 ^ 24) (b := 4) (Nat.lt_of_le_of_lt (Nat.div_le_self _ _) hx) (by decide)).mp q
          exact hRt.toI (leafz (s := 24) h1 h2 (by omega) (by omega) (by decide))
        · replace q : ¬ x / 2 ^ 24 < 4 := fun z => q ((nlt (a := x / 2 ^ 24) (b := 4) (Nat.lt_of_le_of_lt (Nat.div_le_self _ _) hx) (by decide)).mpr z)
          exact hRt.toI (leafz (s := 26) h1 h2 (by omega) (by omega) (by decide))
      · replace q : ¬ x / 2 ^ 24 < 16 := fun z => q ((nlt (a := x / 2 ^ 24) (b := 16) (Nat.lt_of_le_of_lt (Nat.div_le_self _ _) hx) (by decide)).mpr z)
        refine ⟨fun q => ?_, fun q => ?_⟩
        · replace q := (nlt (a := x / 2 ^ 28) (b := 4) (Nat.lt_of_le_of_lt (Nat.div_le_self _ _) hx) (by decide)).mp q
          exact hRt.toI (leafz (s := 28) h1 h2 (by omega) (by omega) (by decide))
        · replace q : ¬ x / 2 ^ 28 < 4 := fun z => q ((nlt (a := x / 2 ^ 28) (b := 4) (Nat.lt_of_le_of_lt (Nat.div_le_self _ _) hx) (by decide)).mpr z)
          exact hRt.toI (leafz (s := 30) h1 h2 (by omega) (by omega) (by decide))
theorem j_nlz31 {x : Nat} (h1 : 2 ^ 31 ≤ x) (h2 : x < 2 ^ 32) : Ct E l yJ6_numberOfLeadingZeros_0f7a4 wsJ6_numberOfLeadingZeros_0f7a4 rmJ6_numberOfLeadingZeros_0f7a4 [.int (nI x)] (HE E I L p) (some (.int 0)) (HE E I L p) := by
  have hn : (nI x).toInt = (x : Int) - 2 ^ 32 := by
    show (BitVec.ofNat 32 x).toInt = _
    rw [BitVec.toInt_eq_toNat_cond, BitVec.toNat_ofNat, Nat.mod_eq_of_lt h2, if_neg (by omega)]
    rfl
  refine Ct.mk (by decide) rfl (Nat.le_of_ble_eq_true rfl) ?_
  rintro X rfl rfl hX - hRt
  refine RJ6_numberOfLeadingZeros_0f7a4_0 hX _ ⟨fun q => absurd ((fa_lt _ _).mp q) ?_, fun _ => ?_⟩
  · rw [hn]
    have : (0 : Int32).toInt = 0 := rfl
    omega
  · rw [if_neg]
    · exact hRt
    · intro q
      have := congrArg Int32.toInt q
      rw [hn] at this
      have z : (0 : Int32).toInt = 0 := rfl
      omega
-- trailing zeros
theorem low_and {x t : Nat} (hx : x < 2 ^ 32) (h1 : x.testBit t = true) (h2 : ∀ j, j < t → x.testBit j = false) : (x ^^^ (2 ^ 32 - 1)) &&& (x - 1) = 2 ^ t - 1 := by
  have hm : x % 2 ^ t = 0 := by
    apply Nat.eq_of_testBit_eq
    intro j
    rw [Nat.testBit_mod_two_pow, Nat.zero_testBit]
    by_cases c : j < t
    · rw [h2 j c, Bool.and_false]
    · rw [decide_eq_false c, Bool.false_and]
  have ho : (x / 2 ^ t) % 2 = 1 := (tb_iff x t).mpr h1
  obtain ⟨q, hq⟩ : ∃ q, x / 2 ^ t = 2 * q + 1 := ⟨x / 2 ^ t / 2, by omega⟩
  have hd := Nat.div_add_mod x (2 ^ t)
  rw [hm, hq, Nat.add_zero] at hd
  have hp := Nat.two_pow_pos t
  have hx1 : x - 1 = 2 ^ t * (2 * q) + (2 ^ t - 1) := by
    rw [← hd, Nat.mul_add, Nat.mul_one]
    omega
  apply Nat.eq_of_testBit_eq
  intro j
  rw [Nat.testBit_and, Nat.testBit_xor, Nat.testBit_two_pow_sub_one, Nat.testBit_two_pow_sub_one]
  by_cases c : j < t
  · rw [h2 j c, hx1, Nat.testBit_two_pow_mul_add _ (by omega), if_pos c, Nat.testBit_two_pow_sub_one, decide_eq_true c]
    have : j < 32 := by
      refine Nat.lt_of_not_le fun z => ?_
      rw [Nat.testBit_lt_two_pow (Nat.lt_of_lt_of_le hx (Nat.pow_le_pow_right (by decide) (show 32 ≤ t by omega)))] at h1
      exact absurd h1 (by simp)
    rw [decide_eq_true this]; rfl
  · rw [decide_eq_false c]
    by_cases d : j < 32
    · rw [decide_eq_true d]
      have e1 : x.testBit j = (2 * q + 1).testBit (j - t) := by
        rw [← hd]
        have := Nat.testBit_two_pow_mul_add (2 * q + 1) (b := 0) (i := t) hp j
        rw [if_neg c, Nat.add_zero] at this
        exact this
      have e2 : (x - 1).testBit j = (2 * q).testBit (j - t) := by
        rw [hx1, Nat.testBit_two_pow_mul_add _ (by omega), if_neg c]
      rw [e1, e2]
      cases hj : j - t with
      | zero =>
        have z1 : (2 * q).testBit 0 = false := by rw [Nat.testBit_zero]; simp
        rw [z1, Bool.and_false]
      | succ n =>
        rw [Nat.testBit_succ, Nat.testBit_succ, show (2 * q + 1) / 2 = q by omega, show 2 * q / 2 = q by omega]
        cases q.testBit n <;> rfl
    · have e1 : x.testBit j = false := Nat.testBit_lt_two_pow (Nat.lt_of_lt_of_le hx (Nat.pow_le_pow_right (by decide) (by omega)))
      rw [e1, decide_eq_false d]; rfl
theorem j_ntz {x t : Nat} (hx : x < 2 ^ 32) (h1 : x.testBit t = true) (h2 : ∀ j, j < t → x.testBit j = false) : Ct E l yJ6_numberOfTrailingZeros_0f7a4 wsJ6_numberOfTrailingZeros_0f7a4 rmJ6_numberOfTrailingZeros_0f7a4 [.int (nI x)] (HE E I L p) (some (.int (nI t))) (HE E I L p) := by
  have ht : t < 32 := by
    refine Nat.lt_of_not_le fun z => ?_
    rw [Nat.testBit_lt_two_pow (Nat.lt_of_lt_of_le hx (Nat.pow_le_pow_right (by decide) z))] at h1
    exact absurd h1 (by simp)
  have hx0 : 1 ≤ x := by
    refine Nat.pos_of_ne_zero fun z => ?_
    rw [z, Nat.zero_testBit] at h1
    exact absurd h1 (by simp)
  have ei : (nI x ^^^ (-1)) &&& (nI x - 1) = nI (2 ^ t - 1) := by
    rw [show (-1 : Int32) = nI (2 ^ 32 - 1) from rfl, fb_xorI, show (1 : Int32) = nI 1 from rfl, nI_sub hx0, fa_and, low_and hx h1 h2]
  refine Ct.mk (by decide) rfl (Nat.le_of_ble_eq_true rfl) ?_
  rintro X rfl rfl hX - hRt
  refine RJ6_numberOfTrailingZeros_0f7a4_0 hX _ ?_
  rw [ei]
  clear ei h1 h2 hx hx0
  have hc : t = 0 ∨ t = 1 ∨ t = 2 ∨ t = 3 ∨ t = 4 ∨ t = 5 ∨ t = 6 ∨ t = 7 ∨ t = 8 ∨ t = 9 ∨ t = 10 ∨ t = 11 ∨ t = 12 ∨ t = 13 ∨ t = 14 ∨ t = 15 ∨ t = 16 ∨ t = 17 ∨ t = 18 ∨ t = 19 ∨ t = 20 ∨ t = 21 ∨ t = 22 ∨ t = 23 ∨ t = 24 ∨ t = 25 ∨ t = 26 ∨ t = 27 ∨ t = 28 ∨ t = 29 ∨ t = 30 ∨ t = 31 := by omega
  rcases hc with rfl | rfl | rfl | rfl | rfl | rfl | rfl | rfl | rfl | rfl | rfl | rfl | rfl | rfl | rfl | rfl | rfl | rfl | rfl | rfl | rfl | rfl | rfl | rfl | rfl | rfl | rfl | rfl | rfl | rfl | rfl | rfl
  · exact ⟨fun q => absurd q (by decide +kernel), fun _ => hRt.toI (by decide +kernel)⟩
  · exact ⟨fun _ => ⟨fun _ => ⟨fun _ => ⟨fun _ => ⟨fun _ => hRt.toI (by decide +kernel), fun q => absurd (by decide +kernel) q⟩, fun q => absurd (by decide +kernel) q⟩, fun q => absurd (by decide +kernel) q⟩, fun q => absurd (by decide +kernel) q⟩, fun q => absurd (by decide +kernel) q⟩
  · exact ⟨fun _ => ⟨fun _ => ⟨fun _ => ⟨fun _ => ⟨fun _ => hRt.toI (by decide +kernel), fun q => absurd (by decide +kernel) q⟩, fun q => absurd (by decide +kernel) q⟩, fun q => absurd (by decide +kernel) q⟩, fun q => absurd (by decide +kernel) q⟩, fun q => absurd (by decide +kernel) q⟩
  · exact ⟨fun _ => ⟨fun _ => ⟨fun _ => ⟨fun _ => ⟨fun q => absurd q (by decide +kernel), fun _ => hRt.toI (by decide +kernel)⟩, fun q => absurd (by decide +kernel) q⟩, fun q => absurd (by decide +kernel) q⟩, fun q => absurd (by decide +kernel) q⟩, fun q => absurd (by decide +kernel) q⟩
  · exact ⟨fun _ => ⟨fun _ => ⟨fun _ => ⟨fun _ => ⟨fun q => absurd q (by decide +kernel), fun _ => hRt.toI (by decide +kernel)⟩, fun q => absurd (by decide +kernel) q⟩, fun q => absurd (by decide +kernel) q⟩, fun q => absurd (by decide +kernel) q⟩, fun q => absurd (by decide +kernel) q⟩
  · exact ⟨fun _ => ⟨fun _ => ⟨fun _ => ⟨fun q => absurd q (by decide +kernel), fun _ => ⟨fun _ => hRt.toI (by decide +kernel), fun q => absurd (by decide +kernel) q⟩⟩, fun q => absurd (by decide +kernel) q⟩, fun q => absurd (by decide +kernel) q⟩, fun q => absurd (by decide +kernel) q⟩
  · exact ⟨fun _ => ⟨fun _ => ⟨fun _ => ⟨fun q => absurd q (by decide +kernel), fun _ => ⟨fun _ => hRt.toI (by decide +kernel), fun q => absurd (by decide +kernel) q⟩⟩, fun q => absurd (by decide +kernel) q⟩, fun q => absurd (by decide +kernel) q⟩, fun q => absurd (by decide +kernel) q⟩
  · exact ⟨fun _ => ⟨fun _ => ⟨fun _ => ⟨fun q => absurd q (by decide +kernel), fun _ => ⟨fun q => absurd q (by decide +kernel), fun _ => hRt.toI (by decide +kernel)⟩⟩, fun q => absurd (by decide +kernel) q⟩, fun q => absurd (by decide +kernel) q⟩, fun q => absurd (by decide +kernel) q⟩
  · exact ⟨fun _ => ⟨fun _ => ⟨fun _ => ⟨fun q => absurd q (by decide +kernel), fun _ => ⟨fun q => absurd q (by decide +kernel), fun _ => hRt.toI (by decide +kernel)⟩⟩, fun q => absurd (by decide +kernel) q⟩, fun q => absurd (by decide +kernel) q⟩, fun q => absurd (by decide +kernel) q⟩
  · exact ⟨fun _ => ⟨fun _ => ⟨fun q => absurd q (by decide +kernel), fun _ => ⟨fun _ => ⟨fun _ => hRt.toI (by decide +kernel), fun q => absurd (by decide +kernel) q⟩, fun q => absurd (by decide +kernel) q⟩⟩, fun q => absurd (by decide +kernel) q⟩, fun q => absurd (by decide +kernel) q⟩
  · exact ⟨fun _ => ⟨fun _ => ⟨fun q => absurd q (by decide +kernel), fun _ => ⟨fun _ => ⟨fun _ => hRt.toI (by decide +kernel), fun q => absurd (by decide +kernel) q⟩, fun q => absurd (by decide +kernel) q⟩⟩, fun q => absurd (by decide +kernel) q⟩, fun q => absurd (by decide +kernel) q⟩
  · exact ⟨fun _ => ⟨fun _ => ⟨fun q => absurd q (by decide +kernel), fun _ => ⟨fun _ => ⟨fun q => absurd q (by decide +kernel), fun _ => hRt.toI (by decide +kernel)⟩, fun q => absurd (by decide +kernel) q⟩⟩, fun q => absurd (by decide +kernel) q⟩, fun q => absurd (by decide +kernel) q⟩
  · exact ⟨fun _ => ⟨fun _ => ⟨fun q => absurd q (by decide +kernel), fun _ => ⟨fun _ => ⟨fun q => absurd q (by decide +kernel), fun _ => hRt.toI (by decide +kernel)⟩, fun q => absurd (by decide +kernel) q⟩⟩, fun q => absurd (by decide +kernel) q⟩, fun q => absurd (by decide +kernel) q⟩
  · exact ⟨fun _ => ⟨fun _ => ⟨fun q => absurd q (by decide +kernel), fun _ => ⟨fun q => absurd q (by decide +kernel), fun _ => ⟨fun _ => hRt.toI (by decide +kernel), fun q => absurd (by decide +kernel) q⟩⟩⟩, fun q => absurd (by decide +kernel) q⟩, fun q => absurd (by decide +kernel) q⟩
  · exact ⟨fun _ => ⟨fun _ => ⟨fun q => absurd q (by decide +kernel), fun _ => ⟨fun q => absurd q (by decide +kernel), fun _ => ⟨fun _ => hRt.toI (by decide +kernel), fun q => absurd (by decide +kernel) q⟩⟩⟩, fun q => absurd (by decide +kernel) q⟩, fun q => absurd (by decide +kernel) q⟩
  · exact ⟨fun _ => ⟨fun _ => ⟨fun q => absurd q (by decide +kernel), fun _ => ⟨fun q => absurd q (by decide +kernel), fun _ => ⟨fun q => absurd q (by decide +kernel), fun _ => hRt.toI (by decide +kernel)⟩⟩⟩, fun q => absurd (by decide +kernel) q⟩, fun q => absurd (by decide +kernel) q⟩
  · exact ⟨fun _ => ⟨fun _ => ⟨fun q => absurd q (by decide +kernel), fun _ => ⟨fun q => absurd q (by decide +kernel), fun _ => ⟨fun q => absurd q (by decide +kernel), fun _ => hRt.toI (by decide +kernel)⟩⟩⟩, fun q => absurd (by decide +kernel) q⟩, fun q => absurd (by decide +kernel) q⟩
  · exact ⟨fun _ => ⟨fun q => absurd q (by decide +kernel), fun _ => ⟨fun _ => ⟨fun _ => ⟨fun _ => hRt.toI (by decide +kernel), fun q => absurd (by decide +kernel) q⟩, fun q => absurd (by decide +kernel) q⟩, fun q => absurd (by decide +kernel) q⟩⟩, fun q => absurd (by decide +kernel) q⟩
  · exact ⟨fun _ => ⟨fun q => absurd q (by decide +kernel), fun _ => ⟨fun _ => ⟨fun _ => ⟨fun _ => hRt.toI (by decide +kernel), fun q => absurd (by decide +kernel) q⟩, fun q => absurd (by decide +kernel) q⟩, fun q => absurd (by decide +kernel) q⟩⟩, fun q => absurd (by decide +kernel) q⟩
  · exact ⟨fun _ => ⟨fun q => absurd q (by decide +kernel), fun _ => ⟨fun _ => ⟨fun _ => ⟨fun q => absurd q (by decide +kernel), fun _ => hRt.toI (by decide +kernel)⟩, fun q => absurd (by decide +kernel) q⟩, fun q => absurd (by decide +kernel) q⟩⟩, fun q => absurd (by decide +kernel) q⟩
  · exact ⟨fun _ => ⟨fun q => absurd q (by decide +kernel), fun _ => ⟨fun _ => ⟨fun _ => ⟨fun q => absurd q (by decide +kernel), fun _ => hRt.toI (by decide +kernel)⟩, fun q => absurd (by decide +kernel) q⟩, fun q => absurd (by decide +kernel) q⟩⟩, fun q => absurd (by decide +kernel) q⟩
  · exact ⟨fun _ => ⟨fun q => absurd q (by decide +kernel), fun _ => ⟨fun _ => ⟨fun q => absurd q (by decide +kernel), fun _ => ⟨fun _ => hRt.toI (by decide +kernel), fun q => absurd (by decide +kernel) q⟩⟩, fun q => absurd (by decide +kernel) q⟩⟩, fun q => absurd (by decide +kernel) q⟩
  · exact ⟨fun _ => ⟨fun q => absurd q (by decide +kernel), fun _ => ⟨fun _ => ⟨fun q => absurd q (by decide +kernel), fun _ => ⟨fun _ => hRt.toI (by decide +kernel), fun q => absurd (by decide +kernel) q⟩⟩, fun q => absurd (by decide +kernel) q⟩⟩, fun q => absurd (by decide +kernel) q⟩
  · exact ⟨fun _ => ⟨fun q => absurd q (by decide +kernel), fun _ => ⟨fun _ => ⟨fun q => absurd q (by decide +kernel), fun _ => ⟨fun q => absurd q (by decide +kernel), fun _ => hRt.toI (by decide +kernel)⟩⟩, fun q => absurd (by decide +kernel) q⟩⟩, fun q => absurd (by decide +kernel) q⟩
  · exact ⟨fun _ => ⟨fun q => absurd q (by decide +kernel), fun _ => ⟨fun _ => ⟨fun q => absurd q (by decide +kernel), fun _ => ⟨fun q => absurd q (by decide +kernel), fun _ => hRt.toI (by decide +kernel)⟩⟩, fun q => absurd (by decide +kernel) q⟩⟩, fun q => absurd (by decide +kernel) q⟩
  · exact ⟨fun _ => ⟨fun q => absurd q (by decide +kernel), fun _ => ⟨fun q => absurd q (by decide +kernel), fun _ => ⟨fun _ => ⟨fun _ => hRt.toI (by decide +kernel), fun q => absurd (by decide +kernel) q⟩, fun q => absurd (by decide +kernel) q⟩⟩⟩, fun q => absurd (by decide +kernel) q⟩
  · exact ⟨fun _ => ⟨fun q => absurd q (by decide +kernel), fun _ => ⟨fun q => absurd q (by decide +kernel), fun _ => ⟨fun _ => ⟨fun _ => hRt.toI (by decide +kernel), fun q => absurd (by decide +kernel) q⟩, fun q => absurd (by decide +kernel) q⟩⟩⟩, fun q => absurd (by decide +kernel) q⟩
  · exact ⟨fun _ => ⟨fun q => absurd q (by decide +kernel), fun _ => ⟨fun q => absurd q (by decide +kernel), fun _ => ⟨fun _ => ⟨fun q => absurd q (by decide +kernel), fun _ => hRt.toI (by decide +kernel)⟩, fun q => absurd (by decide +kernel) q⟩⟩⟩, fun q => absurd (by decide +kernel) q⟩
  · exact ⟨fun _ => ⟨fun q => absurd q (by decide +kernel), fun _ => ⟨fun q => absurd q (by decide +kernel), fun _ => ⟨fun _ => ⟨fun q => absurd q (by decide +kernel), fun _ => hRt.toI (by decide +kernel)⟩, fun q => absurd (by decide +kernel) q⟩⟩⟩, fun q => absurd (by decide +kernel) q⟩
  · exact ⟨fun _ => ⟨fun q => absurd q (by decide +kernel), fun _ => ⟨fun q => absurd q (by decide +kernel), fun _ => ⟨fun q => absurd q (by decide +kernel), fun _ => ⟨fun _ => hRt.toI (by decide +kernel), fun q => absurd (by decide +kernel) q⟩⟩⟩⟩, fun q => absurd (by decide +kernel) q⟩
  · exact ⟨fun _ => ⟨fun q => absurd q (by decide +kernel), fun _ => ⟨fun q => absurd q (by decide +kernel), fun _ => ⟨fun q => absurd q (by decide +kernel), fun _ => ⟨fun _ => hRt.toI (by decide +kernel), fun q => absurd (by decide +kernel) q⟩⟩⟩⟩, fun q => absurd (by decide +kernel) q⟩
  · exact ⟨fun _ => ⟨fun q => absurd q (by decide +kernel), fun _ => ⟨fun q => absurd q (by decide +kernel), fun _ => ⟨fun q => absurd q (by decide +kernel), fun _ => ⟨fun q => absurd q (by decide +kernel), fun _ => hRt.toI (by decide +kernel)⟩⟩⟩⟩, fun q => absurd (by decide +kernel) q⟩
end
-- how many bits
theorem and_dig {a b r q k : Nat} (hr : r < 2 ^ k) (hq : q < 2 ^ k) : (2 ^ k * a + r) &&& (2 ^ k * b + q) = 2 ^ k * (a &&& b) + (r &&& q) := by
  apply Nat.eq_of_testBit_eq
  intro j
  rw [Nat.testBit_and, Nat.testBit_two_pow_mul_add _ hr, Nat.testBit_two_pow_mul_add _ hq, Nat.testBit_two_pow_mul_add _ (Nat.lt_of_le_of_lt Nat.and_le_left hr)]
  by_cases c : j < k
  · rw [if_pos c, if_pos c, if_pos c, Nat.testBit_and]
  · rw [if_neg c, if_neg c, if_neg c, Nat.testBit_and]
theorem and_256 {a b r q : Nat} (hr : r < 256) (hq : q < 256) : (256 * a + r) &&& (256 * b + q) = 256 * (a &&& b) + (r &&& q) := and_dig (k := 8) hr hq
def mkb (c : Nat) : Nat → Nat
  | 0 => 0
  | n + 1 => 256 * mkb c n + c
def f1 (n x : Nat) : Nat := x - ((x / 2) &&& mkb 85 n)
def f2 (n y : Nat) : Nat := (y &&& mkb 51 n) + ((y / 4) &&& mkb 51 n)
def f3 (n z : Nat) : Nat := (z + z / 16) &&& mkb 15 n
def g1 (r : Nat) : Nat := r - ((r / 2) &&& 85)
def g2 (r : Nat) : Nat := (r &&& 51) + ((r / 4) &&& 51)
theorem g1_m : ∀ r, r < 256 → ∀ c, c < 2 → ((c * 128 + r / 2) &&& 85) = ((r / 2) &&& 85) := by decide +kernel
theorem g2_m : ∀ r, r < 256 → ∀ c, c < 4 → ((c * 64 + r / 4) &&& 51) = ((r / 4) &&& 51) := by decide +kernel
theorem g_ok : ∀ r, r < 256 → g1 r < 256 ∧ g2 (g1 r) ≤ 68 ∧ g2 (g1 r) % 16 ≤ 4 ∧ ((g2 (g1 r) + g2 (g1 r) / 16) &&& 15) = fb_ct r.testBit 8 := by decide +kernel
theorem f1_s {n a r : Nat} (hr : r < 256) : f1 (n + 1) (256 * a + r) = 256 * f1 n a + g1 r := by
  have e : (256 * a + r) / 2 = 256 * (a / 2) + (a % 2 * 128 + r / 2) := by omega
  have h1 : (a / 2) &&& mkb 85 n ≤ a := Nat.le_trans Nat.and_le_left (Nat.div_le_self _ _)
  have h2 : (r / 2) &&& 85 ≤ r := Nat.le_trans Nat.and_le_left (Nat.div_le_self _ _)
  unfold f1 g1
  rw [e, mkb, and_256 (by omega) (by decide), g1_m r hr _ (Nat.mod_lt _ (by decide))]
  omega
theorem f2_s {n a r : Nat} (hr : r < 256) : f2 (n + 1) (256 * a + r) = 256 * f2 n a + g2 r := by
  have e : (256 * a + r) / 4 = 256 * (a / 4) + (a % 4 * 64 + r / 4) := by omega
  unfold f2 g2
  rw [e, mkb, and_256 hr (by decide), and_256 (by omega) (by decide), g2_m r hr _ (Nat.mod_lt _ (by decide))]
  omega
theorem and15 (y : Nat) : y &&& 15 = y % 16 := Nat.and_two_pow_sub_one_eq_mod y 4
theorem f3_s {n a r : Nat} (hr : r ≤ 68) (ha : a % 16 ≤ 4) : f3 (n + 1) (256 * a + r) = 256 * f3 n a + ((r + r / 16) &&& 15) := by
  have e : 256 * a + r + (256 * a + r) / 16 = 256 * (a + a / 16) + (r + (a % 16 * 16 + r / 16)) := by omega
  unfold f3
  rw [e, mkb, and_256 (by omega) (by decide), and15, and15]
  omega
/-- the bytes' counts, one byte each -/
def PB : Nat → Nat → Nat
  | 0, _ => 0
  | n + 1, x => 256 * PB n (x / 256) + fb_ct (x % 256).testBit 8
theorem f_ok : ∀ n x, x < 256 ^ n → f2 n (f1 n x) % 16 ≤ 4 ∧ f3 n (f2 n (f1 n x)) = PB n x
  | 0, x, h => by
    have : x = 0 := by simpa using h
    subst this
    decide
  | n + 1, x, h => by
    have hd : 256 * (x / 256) + x % 256 = x := Nat.div_add_mod x 256
    have hq : x / 256 < 256 ^ n := by
      rw [Nat.div_lt_iff_lt_mul (by decide), ← Nat.pow_succ]; exact h
    have hr := Nat.mod_lt x (show 256 > 0 by decide)
    obtain ⟨i1, i2⟩ := f_ok n _ hq
    obtain ⟨o1, o2, o3, o4⟩ := g_ok _ hr
    have e : f2 (n + 1) (f1 (n + 1) x) = 256 * f2 n (f1 n (x / 256)) + g2 (g1 (x % 256)) := by
      rw [← hd, f1_s hr, f2_s o1, hd]
    rw [e, f3_s o2 i1, i2, o4]
    exact ⟨by omega, rfl⟩
theorem PB_ct : ∀ n x, fb_ct x.testBit (8 * n) = fb_sm (fun i => fb_ct (x / 256 ^ i % 256).testBit 8) n
  | 0, _ => rfl
  | n + 1, x => by
    rw [show 8 * (n + 1) = 8 * n + 8 by omega, fb_ct_split, PB_ct n x, fb_sm_succ]
    congr 1
    refine fb_ct_cong fun k hk => ?_
    rw [show (256 : Nat) ^ n = 2 ^ (8 * n) by rw [Nat.pow_mul], show (256 : Nat) = 2 ^ 8 from rfl, Nat.testBit_mod_two_pow, decide_eq_true hk, Nat.testBit_div_two_pow, Bool.true_and, Nat.add_comm]
theorem lsh {n k : Nat} (hn : n < 2 ^ 64) (hk : k < 64) : jlushr (lN n) (nI k) = lN (n / 2 ^ k) := jlushr_n hn hk
theorem dv8 {d0 d1 d2 d3 d4 d5 d6 d7 : Nat} (b0 : d0 ≤ 64) (b1 : d1 ≤ 64) (b2 : d2 ≤ 64) (b3 : d3 ≤ 64) (b4 : d4 ≤ 64) (b5 : d5 ≤ 64) (b6 : d6 ≤ 64) (b7 : d7 ≤ 64) : (256 * (256 * (256 * (256 * (256 * (256 * (256 * (d7) + d6) + d5) + d4) + d3) + d2) + d1) + d0) / 2 ^ 8 = 256 * (256 * (256 * (256 * (256 * (256 * (d7) + d6) + d5) + d4) + d3) + d2) + d1 := by omega
theorem dv16 {d0 d1 d2 d3 d4 d5 d6 d7 : Nat} (b0 : d0 ≤ 64) (b1 : d1 ≤ 64) (b2 : d2 ≤ 64) (b3 : d3 ≤ 64) (b4 : d4 ≤ 64) (b5 : d5 ≤ 64) (b6 : d6 ≤ 64) (b7 : d7 ≤ 64) : (256 * (256 * (256 * (256 * (256 * (256 * (256 * (d7) + d6) + d5) + d4) + d3) + d2) + d1) + d0) / 2 ^ 16 = 256 * (256 * (256 * (256 * (256 * (d7) + d6) + d5) + d4) + d3) + d2 := by omega
theorem dv32 {d0 d1 d2 d3 d4 d5 d6 d7 : Nat} (b0 : d0 ≤ 64) (b1 : d1 ≤ 64) (b2 : d2 ≤ 64) (b3 : d3 ≤ 64) (b4 : d4 ≤ 64) (b5 : d5 ≤ 64) (b6 : d6 ≤ 64) (b7 : d7 ≤ 64) : (256 * (256 * (256 * (256 * (256 * (256 * (256 * (d7) + d6) + d5) + d4) + d3) + d2) + d1) + d0) / 2 ^ 32 = 256 * (256 * (256 * (d7) + d6) + d5) + d4 := by omega
theorem dlt {d0 d1 d2 d3 d4 d5 d6 d7 : Nat} (b0 : d0 ≤ 64) (b1 : d1 ≤ 64) (b2 : d2 ≤ 64) (b3 : d3 ≤ 64) (b4 : d4 ≤ 64) (b5 : d5 ≤ 64) (b6 : d6 ≤ 64) (b7 : d7 ≤ 64) : 256 * (256 * (256 * (256 * (256 * (256 * (256 * (d7) + d6) + d5) + d4) + d3) + d2) + d1) + d0 < 2 ^ 63 := by omega
theorem dlt2 {d0 d1 d2 d3 d4 d5 d6 d7 : Nat} (b0 : d0 ≤ 64) (b1 : d1 ≤ 64) (b2 : d2 ≤ 64) (b3 : d3 ≤ 64) (b4 : d4 ≤ 64) (b5 : d5 ≤ 64) (b6 : d6 ≤ 64) (b7 : d7 ≤ 64) (b8 : d7 ≤ 8) : 256 * (256 * (256 * (256 * (256 * (256 * (256 * (d7) + d6) + d5) + d4) + d3) + d2) + d1) + d0 < 2 ^ 62 := by omega
theorem dmod {d0 d1 d2 d3 d4 d5 d6 d7 : Nat} (b0 : d0 ≤ 64) (b1 : d1 ≤ 64) (b2 : d2 ≤ 64) (b3 : d3 ≤ 64) (b4 : d4 ≤ 64) (b5 : d5 ≤ 64) (b6 : d6 ≤ 64) (b7 : d7 ≤ 64) : (256 * (256 * (256 * (256 * (256 * (256 * (256 * (d7) + d6) + d5) + d4) + d3) + d2) + d1) + d0) % 128 = d0 := by
  have e : 256 * (256 * (256 * (256 * (256 * (256 * (256 * (d7) + d6) + d5) + d4) + d3) + d2) + d1) + d0 = 128 * (2 * (256 * (256 * (256 * (256 * (256 * (256 * (d7) + d6) + d5) + d4) + d3) + d2) + d1)) + d0 := by omega
  rw [e, Nat.mul_add_mod]
  exact Nat.mod_eq_of_lt (by omega)
theorem dad1 {d0 d1 d2 d3 d4 d5 d6 d7 : Nat} : (256 * (256 * (256 * (256 * (256 * (256 * (256 * (d7) + d6) + d5) + d4) + d3) + d2) + d1) + d0) + (256 * (256 * (256 * (256 * (256 * (256 * (d7) + d6) + d5) + d4) + d3) + d2) + d1) = 256 * (256 * (256 * (256 * (256 * (256 * (256 * (d7) + (d6 + d7)) + (d5 + d6)) + (d4 + d5)) + (d3 + d4)) + (d2 + d3)) + (d1 + d2)) + (d0 + d1) := by omega
theorem dad2 {d0 d1 d2 d3 d4 d5 d6 d7 : Nat} : (256 * (256 * (256 * (256 * (256 * (256 * (256 * (d7) + d6) + d5) + d4) + d3) + d2) + d1) + d0) + (256 * (256 * (256 * (256 * (256 * (d7) + d6) + d5) + d4) + d3) + d2) = 256 * (256 * (256 * (256 * (256 * (256 * (256 * (d7) + d6) + (d5 + d7)) + (d4 + d6)) + (d3 + d5)) + (d2 + d4)) + (d1 + d3)) + (d0 + d2) := by omega
theorem dad4 {d0 d1 d2 d3 d4 d5 d6 d7 : Nat} : (256 * (256 * (256 * (256 * (256 * (256 * (256 * (d7) + d6) + d5) + d4) + d3) + d2) + d1) + d0) + (256 * (256 * (256 * (d7) + d6) + d5) + d4) = 256 * (256 * (256 * (256 * (256 * (256 * (256 * (d7) + d6) + d5) + d4) + (d3 + d7)) + (d2 + d6)) + (d1 + d5)) + (d0 + d4) := by omega
theorem PB_8 (x : Nat) : ∃ u, PB 8 x = u ∧ u < 2 ^ 62 ∧ fb_ct x.testBit 64 < 128 ∧ (u + u / 2 ^ 8 < 2 ^ 63 ∧ (u + u / 2 ^ 8) + (u + u / 2 ^ 8) / 2 ^ 16 < 2 ^ 63 ∧ ((u + u / 2 ^ 8) + (u + u / 2 ^ 8) / 2 ^ 16) + ((u + u / 2 ^ 8) + (u + u / 2 ^ 8) / 2 ^ 16) / 2 ^ 32 < 2 ^ 63 ∧ (((u + u / 2 ^ 8) + (u + u / 2 ^ 8) / 2 ^ 16) + ((u + u / 2 ^ 8) + (u + u / 2 ^ 8) / 2 ^ 16) / 2 ^ 32) % 128 = fb_ct x.testBit 64) := by
  have dd : ∀ k, x / 256 ^ k / 256 = x / 256 ^ (k + 1) := fun k => by rw [Nat.div_div_eq_div_mul, Nat.pow_succ]
  have hp : PB 8 x = 256 * (256 * (256 * (256 * (256 * (256 * (256 * (fb_ct (x / 256 ^ 7 % 256).testBit 8) + fb_ct (x / 256 ^ 6 % 256).testBit 8) + fb_ct (x / 256 ^ 5 % 256).testBit 8) + fb_ct (x / 256 ^ 4 % 256).testBit 8) + fb_ct (x / 256 ^ 3 % 256).testBit 8) + fb_ct (x / 256 ^ 2 % 256).testBit 8) + fb_ct (x / 256 ^ 1 % 256).testBit 8) + fb_ct (x / 256 ^ 0 % 256).testBit 8 := by
    have z0 : x = x / 256 ^ 0 := by simp
    rw [z0]
    simp only [PB, dd]
    rw [← z0]
    simp
  have hc : fb_ct x.testBit 64 = fb_ct (x / 256 ^ 0 % 256).testBit 8 + fb_ct (x / 256 ^ 1 % 256).testBit 8 + fb_ct (x / 256 ^ 2 % 256).testBit 8 + fb_ct (x / 256 ^ 3 % 256).testBit 8 + fb_ct (x / 256 ^ 4 % 256).testBit 8 + fb_ct (x / 256 ^ 5 % 256).testBit 8 + fb_ct (x / 256 ^ 6 % 256).testBit 8 + fb_ct (x / 256 ^ 7 % 256).testBit 8 := by
    have := PB_ct 8 x
    rw [show 8 * 8 = 64 from rfl] at this
    rw [this]
    simp only [fb_sm_succ]
    rw [show ∀ f, fb_sm f 0 = 0 from fun _ => rfl, Nat.zero_add]
  refine ⟨_, rfl, ?_⟩
  rw [hp, hc]
  clear hp hc dd
  have b0 := fb_ct_le (x / 256 ^ 0 % 256).testBit 8
  have b1 := fb_ct_le (x / 256 ^ 1 % 256).testBit 8
  have b2 := fb_ct_le (x / 256 ^ 2 % 256).testBit 8
  have b3 := fb_ct_le (x / 256 ^ 3 % 256).testBit 8
  have b4 := fb_ct_le (x / 256 ^ 4 % 256).testBit 8
  have b5 := fb_ct_le (x / 256 ^ 5 % 256).testBit 8
  have b6 := fb_ct_le (x / 256 ^ 6 % 256).testBit 8
  have b7 := fb_ct_le (x / 256 ^ 7 % 256).testBit 8
  generalize fb_ct (x / 256 ^ 0 % 256).testBit 8 = c0 at *
  generalize fb_ct (x / 256 ^ 1 % 256).testBit 8 = c1 at *
  generalize fb_ct (x / 256 ^ 2 % 256).testBit 8 = c2 at *
  generalize fb_ct (x / 256 ^ 3 % 256).testBit 8 = c3 at *
  generalize fb_ct (x / 256 ^ 4 % 256).testBit 8 = c4 at *
  generalize fb_ct (x / 256 ^ 5 % 256).testBit 8 = c5 at *
  generalize fb_ct (x / 256 ^ 6 % 256).testBit 8 = c6 at *
  generalize fb_ct (x / 256 ^ 7 % 256).testBit 8 = c7 at *
  have q1 : (256 * (256 * (256 * (256 * (256 * (256 * (256 * (c7) + c6) + c5) + c4) + c3) + c2) + c1) + c0) + (256 * (256 * (256 * (256 * (256 * (256 * (256 * (c7) + c6) + c5) + c4) + c3) + c2) + c1) + c0) / 2 ^ 8 = 256 * (256 * (256 * (256 * (256 * (256 * (256 * (c7) + (c6 + c7)) + (c5 + c6)) + (c4 + c5)) + (c3 + c4)) + (c2 + c3)) + (c1 + c2)) + (c0 + c1) := by rw [dv8 (by omega) (by omega) (by omega) (by omega) (by omega) (by omega) (by omega) (by omega), dad1]
  have q2 : (256 * (256 * (256 * (256 * (256 * (256 * (256 * (c7) + (c6 + c7)) + (c5 + c6)) + (c4 + c5)) + (c3 + c4)) + (c2 + c3)) + (c1 + c2)) + (c0 + c1)) + (256 * (256 * (256 * (256 * (256 * (256 * (256 * (c7) + (c6 + c7)) + (c5 + c6)) + (c4 + c5)) + (c3 + c4)) + (c2 + c3)) + (c1 + c2)) + (c0 + c1)) / 2 ^ 16 = 256 * (256 * (256 * (256 * (256 * (256 * (256 * (c7) + (c6 + c7)) + ((c5 + c6) + c7)) + ((c4 + c5) + (c6 + c7))) + ((c3 + c4) + (c5 + c6))) + ((c2 + c3) + (c4 + c5))) + ((c1 + c2) + (c3 + c4))) + ((c0 + c1) + (c2 + c3)) := by rw [dv16 (by omega) (by omega) (by omega) (by omega) (by omega) (by omega) (by omega) (by omega), dad2]
  have q3 : (256 * (256 * (256 * (256 * (256 * (256 * (256 * (c7) + (c6 + c7)) + ((c5 + c6) + c7)) + ((c4 + c5) + (c6 + c7))) + ((c3 + c4) + (c5 + c6))) + ((c2 + c3) + (c4 + c5))) + ((c1 + c2) + (c3 + c4))) + ((c0 + c1) + (c2 + c3))) + (256 * (256 * (256 * (256 * (256 * (256 * (256 * (c7) + (c6 + c7)) + ((c5 + c6) + c7)) + ((c4 + c5) + (c6 + c7))) + ((c3 + c4) + (c5 + c6))) + ((c2 + c3) + (c4 + c5))) + ((c1 + c2) + (c3 + c4))) + ((c0 + c1) + (c2 + c3))) / 2 ^ 32 = 256 * (256 * (256 * (256 * (256 * (256 * (256 * (c7) + (c6 + c7)) + ((c5 + c6) + c7)) + ((c4 + c5) + (c6 + c7))) + (((c3 + c4) + (c5 + c6)) + c7)) + (((c2 + c3) + (c4 + c5)) + (c6 + c7))) + (((c1 + c2) + (c3 + c4)) + ((c5 + c6) + c7))) + (((c0 + c1) + (c2 + c3)) + ((c4 + c5) + (c6 + c7))) := by rw [dv32 (by omega) (by omega) (by omega) (by omega) (by omega) (by omega) (by omega) (by omega), dad4]
  rw [q1, q2, q3]
  clear q1 q2 q3
  refine ⟨dlt2 (by omega) (by omega) (by omega) (by omega) (by omega) (by omega) (by omega) (by omega) (by omega), by omega, dlt (by omega) (by omega) (by omega) (by omega) (by omega) (by omega) (by omega) (by omega), dlt (by omega) (by omega) (by omega) (by omega) (by omega) (by omega) (by omega) (by omega), dlt (by omega) (by omega) (by omega) (by omega) (by omega) (by omega) (by omega) (by omega), ?_⟩
  rw [dmod (by omega) (by omega) (by omega) (by omega) (by omega) (by omega) (by omega) (by omega)]
  omega
section
variable {E : ET} {l : Launch} {I : MI} {L : ML} {p : Nat → Nat} {D : Dr} {s : Sg}
theorem j_pop {x : Nat} (hx : x < 2 ^ 63) : Ct E l yJ13_bitCount_95d88 wsJ13_bitCount_95d88 rmJ13_bitCount_95d88 [.long (lN x)] (HE E I L p) (some (.int (nI (fb_ct x.testBit 63)))) (HE E I L p) := by
  refine Ct.mk (by decide) rfl (Nat.le_of_ble_eq_true rfl) ?_
  rintro X rfl rfl hX - hRt
  refine RJ13_bitCount_95d88_0 hX _ (hRt.toI ?_)
  have l1 : ∀ n, n < 2 ^ 64 → jlushr (lN n) 1 = lN (n / 2) := fun n h => lsh (k := 1) h (by decide)
  have l2 : ∀ n, n < 2 ^ 64 → jlushr (lN n) 2 = lN (n / 4) := fun n h => lsh (k := 2) h (by decide)
  have l4 : ∀ n, n < 2 ^ 64 → jlushr (lN n) 4 = lN (n / 16) := fun n h => lsh (k := 4) h (by decide)
  have l8 : ∀ n, n < 2 ^ 64 → jlushr (lN n) 8 = lN (n / 2 ^ 8) := fun n h => lsh (k := 8) h (by decide)
  have l16 : ∀ n, n < 2 ^ 64 → jlushr (lN n) 16 = lN (n / 2 ^ 16) := fun n h => lsh (k := 16) h (by decide)
  have l32 : ∀ n, n < 2 ^ 64 → jlushr (lN n) 32 = lN (n / 2 ^ 32) := fun n h => lsh (k := 32) h (by decide)
  have m5 : (6148914691236517205 : Int64) = lN (mkb 85 8) := by decide +kernel
  have m3 : (3689348814741910323 : Int64) = lN (mkb 51 8) := by decide +kernel
  have m0 : (1085102592571150095 : Int64) = lN (mkb 15 8) := by decide +kernel
  obtain ⟨-, f⟩ := f_ok 8 x (by omega)
  obtain ⟨u, hu, u1, u2, hv, hw, ht, hr⟩ := PB_8 x
  have h64 : fb_ct x.testBit 64 = fb_ct x.testBit 63 := by
    rw [show (64 : Nat) = 63 + 1 from rfl, fb_ct_succ, Nat.testBit_lt_two_pow hx]; rfl
  have a1 : lN x - (jlushr (lN x) 1 &&& 6148914691236517205) = lN (f1 8 x) := by
    rw [l1 _ (by omega), m5, fb_andL, lsN (Nat.le_trans Nat.and_le_left (Nat.div_le_self _ _))]; rfl
  rw [a1]
  have b1 : f1 8 x < 2 ^ 63 := Nat.lt_of_le_of_lt (Nat.sub_le _ _) hx
  have a2 : (lN (f1 8 x) &&& 3689348814741910323) + (jlushr (lN (f1 8 x)) 2 &&& 3689348814741910323) = lN (f2 8 (f1 8 x)) := by
    rw [l2 _ (by omega), m3, fb_andL, fb_andL, laN]; rfl
  rw [a2]
  have b2 : f2 8 (f1 8 x) < 2 ^ 63 := by
    have z1 : f1 8 x &&& mkb 51 8 ≤ mkb 51 8 := Nat.and_le_right
    have z2 : f1 8 x / 4 &&& mkb 51 8 ≤ mkb 51 8 := Nat.and_le_right
    have z3 : mkb 51 8 = 3689348814741910323 := by decide +kernel
    unfold f2
    omega
  have a3 : (lN (f2 8 (f1 8 x)) + jlushr (lN (f2 8 (f1 8 x))) 4) &&& 1085102592571150095 = lN u := by
    rw [l4 _ (by omega), laN, m0, fb_andL, ← hu, ← f]; rfl
  rw [a3, l8 _ (by omega), laN, l16 _ (by omega), laN, l32 _ (by omega), laN, liN, show (127 : Int32) = nI (2 ^ 7 - 1) from rfl, fa_mask]
  rw [← h64]
  exact congrArg nI hr.symm
theorem j_ntzL {x t : Nat} (hx : x < 2 ^ 63) (h1 : x.testBit t = true) (h2 : ∀ j, j < t → x.testBit j = false) : Ct E l yJ13_numberOfTrailingZeros_95d88 wsJ13_numberOfTrailingZeros_95d88 rmJ13_numberOfTrailingZeros_95d88 [.long (lN x)] (HE E I L p) (some (.int (nI t))) (HE E I L p) := by
  have hl : ∀ j, (x % 2 ^ 32).testBit j = (decide (j < 32) && x.testBit j) := fun j => Nat.testBit_mod_two_pow x 32 j
  have hlt : x % 2 ^ 32 < 2 ^ 32 := Nat.mod_lt _ (by decide)
  have hz : ∀ n, n < 2 ^ 32 → (nI n = 0 ↔ n = 0) := by
    intro n hn
    constructor
    · intro q
      have := congrArg (fun v => v.toBitVec.toNat) q
      have e : (nI n).toBitVec.toNat = n := by show (BitVec.ofNat 32 n).toNat = n; rw [BitVec.toNat_ofNat, Nat.mod_eq_of_lt hn]
      have e2 : ((0 : Int32)).toBitVec.toNat = 0 := rfl
      simp only [e, e2] at this
      exact this
    · rintro rfl; rfl
  refine Ct.mk (by decide) rfl (Nat.le_of_ble_eq_true rfl) ?_
  rintro X rfl rfl hX - hRt
  refine RJ13_numberOfTrailingZeros_95d88_0 hX _ ?_
  rw [show (32 : Int32) = nI 32 from rfl, jlushr_n (by omega) (by decide), liN, liN, nI_mod x]
  by_cases c : t < 32
  · refine ⟨fun _ => ⟨_, j_ntz hlt (by rw [hl, decide_eq_true c, h1]; rfl) (fun j hj => by rw [hl, h2 j hj, Bool.and_false]), hRt⟩, fun q => ?_⟩
    have e := (hz _ hlt).mp q
    have z := hl t
    rw [e, Nat.zero_testBit, decide_eq_true c, h1] at z
    exact absurd z (by simp)
  · have e0 : x % 2 ^ 32 = 0 := by
      apply Nat.eq_of_testBit_eq
      intro j
      rw [hl, Nat.zero_testBit]
      by_cases d : j < 32
      · rw [h2 j (by omega), Bool.and_false]
      · rw [decide_eq_false d]; rfl
    refine ⟨fun q => absurd (by rw [e0]; rfl) q, fun _ => ⟨_, j_ntz (t := t - 32) (by omega) (by rw [Nat.testBit_div_two_pow, show t - 32 + 32 = t by omega]; exact h1) (fun j hj => by rw [Nat.testBit_div_two_pow]; exact h2 _ (by omega)), hRt.toI ?_⟩⟩
    rw [nI_add]
    congr 1
    omega
theorem j_nlzL {x h : Nat} (hx : x < 2 ^ 63) (h1 : 2 ^ h ≤ x) (h2 : x < 2 ^ (h + 1)) : Ct E l yJ13_numberOfLeadingZeros_95d88 wsJ13_numberOfLeadingZeros_95d88 rmJ13_numberOfLeadingZeros_95d88 [.long (lN x)] (HE E I L p) (some (.int (nI (63 - h)))) (HE E I L p) := by
  have hh : h ≤ 62 := by
    refine Nat.le_of_not_lt fun z => ?_
    have := Nat.pow_le_pow_right (n := 2) (by decide) (show 63 ≤ h from z)
    omega
  refine Ct.mk (by decide) rfl (Nat.le_of_ble_eq_true rfl) ?_
  rintro X rfl rfl hX - hRt
  refine RJ13_numberOfLeadingZeros_95d88_0 hX _ ?_
  rw [show (32 : Int32) = nI 32 from rfl, jlushr_n (by omega) (by decide), liN, liN]
  by_cases c : 32 ≤ h
  · have p1 : 2 ^ h = 2 ^ (h - 32) * 2 ^ 32 := by rw [← Nat.pow_add]; congr 1; omega
    have p2 : 2 ^ (h + 1) = 2 ^ (h - 32 + 1) * 2 ^ 32 := by rw [← Nat.pow_add]; congr 1; omega
    have g1 : 2 ^ (h - 32) ≤ x / 2 ^ 32 := (Nat.le_div_iff_mul_le (by decide)).mpr (by omega)
    have g2 : x / 2 ^ 32 < 2 ^ (h - 32 + 1) := (Nat.div_lt_iff_lt_mul (by decide)).mpr (by omega)
    have g0 := Nat.two_pow_pos (h - 32)
    refine ⟨fun _ => ⟨_, j_nlz g1 g2 (by omega), hRt.toI ?_⟩, fun q => absurd q (nI_ne0 (by omega) (by omega))⟩
    congr 1
    omega
  · have p1 : x < 2 ^ 32 := Nat.lt_of_lt_of_le h2 (Nat.pow_le_pow_right (by decide) (by omega))
    have e0 : x / 2 ^ 32 = 0 := Nat.div_eq_of_lt p1
    rw [e0]
    refine ⟨fun q => absurd rfl q, fun _ => ?_⟩
    by_cases d : h = 31
    · subst d
      exact ⟨_, j_nlz31 h1 (by omega), hRt.toI (by decide +kernel)⟩
    · refine ⟨_, j_nlz h1 h2 (by omega), hRt.toI ?_⟩
      rw [nI_add]
      congr 1
      omega
end
