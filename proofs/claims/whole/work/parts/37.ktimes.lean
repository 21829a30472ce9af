/-! times and leaves: the class's side. -/
theorem hi_of {x : Nat} (hx0 : x ≠ 0) : ∃ h, 2 ^ h ≤ x ∧ x < 2 ^ (h + 1) := ⟨Nat.log2 x, Nat.log2_self_le hx0, Nat.lt_log2_self⟩
theorem hi_bit {x h : Nat} (h1 : 2 ^ h ≤ x) (h2 : x < 2 ^ (h + 1)) : x.testBit h = true := by
  rw [← tb_iff]
  have hp := Nat.two_pow_pos h
  have e : x / 2 ^ h = 1 := by
    rw [Nat.div_eq_iff hp]
    rw [Nat.pow_succ] at h2
    omega
  rw [e]
theorem la_hi {x h : Nat} (h1 : 2 ^ h ≤ x) (h2 : x < 2 ^ (h + 1)) : ∀ d, la x (h + 1 + d) = nI h
  | 0 => by rw [Nat.add_zero, la, if_pos (hi_bit h1 h2)]
  | d + 1 => by
    rw [show h + 1 + (d + 1) = (h + 1 + d) + 1 by omega, la, if_neg, la_hi h1 h2 d]
    rw [Nat.testBit_lt_two_pow (Nat.lt_of_lt_of_le h2 (Nat.pow_le_pow_right (by decide) (by omega)))]
    simp
theorem la_0 : ∀ n, la 0 n = -1
  | 0 => rfl
  | n + 1 => by rw [la, if_neg (by rw [Nat.zero_testBit]; simp), la_0 n]
theorem fs_0 : ∀ n, fs 0 n = -1
  | 0 => rfl
  | n + 1 => by rw [fs, if_neg (by rw [Nat.zero_testBit]; simp), fs_0 n]
theorem fs_lo {x t : Nat} (h1 : x.testBit t = true) (h2 : ∀ j, j < t → x.testBit j = false) (ht : t ≤ 62) : ∀ n, n ≤ 63 → 63 - n ≤ t → fs x n = nI t
  | 0, _, h => by omega
  | n + 1, h, h3 => by
    rw [fs]
    by_cases c : 62 - n = t
    · rw [c, if_pos h1]
    · rw [if_neg (by rw [h2 (62 - n) (by omega)]; simp)]
      exact fs_lo h1 h2 ht n (by omega) (by omega)
theorem lo_of {x : Nat} (hx0 : x ≠ 0) : ∃ t, x.testBit t = true ∧ ∀ j, j < t → x.testBit j = false := by
  obtain ⟨u, hu⟩ := Nat.exists_testBit_of_ne_zero hx0
  obtain ⟨t, h1, h2⟩ := pk_least (fun k => x.testBit k = true) ⟨u, hu⟩
  exact ⟨t, h1, fun j hj => by cases h : x.testBit j with | true => exact absurd h (h2 j hj) | false => rfl⟩
section
variable {E : ET} {l : Launch} {I : MI} {L : ML} {p : Nat → Nat} {D : Dr} {s : Sg}
theorem k_times (hV : VC whn I p s) (hW : GW s) (x1 x2 x3 x4 : Int32) : KP E l yX5_times wsX5_times rmX5_times [.ref 0, .int x1, .int x2, .int x3, .int x4] whn I L p (aTimes x1 x2 x3 x4 s) := by
  have hS := hW.1.S
  have hR := hV.1.1
  have hY := hV.1.2.1
  unfold aTimes
  by_cases h : (ok x1 (gD s 0) ∧ btw x2 0 30) ∧ ok x3 (gD s 0) ∧ btw x4 0 2
  · rw [qu_pos h]
    obtain ⟨a, ha, rfl⟩ := h.1.1
    obtain ⟨m, rfl, -, hm⟩ := h.1.2
    obtain ⟨b, hb, rfl⟩ := h.2.1
    obtain ⟨w, rfl, -, hw⟩ := h.2.2
    rw [nI_clamp (by omega), nI_clamp (by omega), nI_clamp (by omega), nI_clamp (by omega)]
    have hc := cm_lt (gD s) a m b
    refine ⟨I, _, p, Ct.mk (by decide) rfl (Nat.le_of_ble_eq_true rfl) ?_, hV, fun _ _ => rfl, fun r hr => wy_r (r := 88) (n := 10) (Y := cm (gD s) a m) (by omega)⟩
    rintro X rfl rfl hX - hRt
    have row : wy 88 10 L (cm (gD s) a m) 88 b = lN (cm (gD s) a m b) := wy_s (by omega)
    refine RX5_times_0 hX _ _ _ _ ⟨_, k_isStart hR.1 hS _ _, fun q => absurd h.1 (b2i_0.mp q), fun _ => ⟨_, k_hasShaft hR.1 hS _, fun q => absurd h.2.1 (b2i_0.mp q), fun _ => ⟨_, k_btw _ (a := 0) (b := 2) (by decide) (by decide), fun _ => ⟨_, k_walk hR hY hW.1 ha (by omega), b, rfl, by omega, ?_⟩, fun q => absurd h.2.2 (b2i_0.mp q)⟩⟩⟩
    rw [row]
    generalize cm (gD s) a m b = x at hc hRt ⊢
    refine ⟨fun q2 => ⟨fun qz => ?_, fun qz => ?_⟩, fun q2 => ⟨_, j_pop hc, ?_⟩⟩
    · have hx0 : x ≠ 0 := fun z => qz ((lN_0i hc).mpr z)
      refine ⟨fun q0 => ?_, fun q0 => ?_⟩
      · obtain ⟨g, g1, g2⟩ := hi_of hx0
        have hg : g ≤ 62 := Nat.le_of_lt_succ (bit63 hc (hi_bit g1 g2))
        have hw1 : w = 1 := by
          have z0 : w ≠ 0 := fun z => q0 (by rw [z]; rfl)
          have z2 : w ≠ 2 := fun z => q2 (by rw [z]; rfl)
          omega
        subst hw1
        refine ⟨_, j_nlzL hc g1 g2, hRt.toI ?_⟩
        show la x 63 = _
        have e := la_hi g1 g2 (62 - g)
        rw [show g + 1 + (62 - g) = 63 by omega] at e
        rw [e, show (63 : Int32) = nI 63 from rfl, nI_sub (by omega)]
        congr 1
        omega
      · obtain ⟨t, t1, t2⟩ := lo_of hx0
        have hw0 : w = 0 := (nI_eq (b := 0) (by omega) (by decide)).mp q0
        subst hw0
        refine ⟨_, j_ntzL hc t1 t2, hRt.toI ?_⟩
        exact fs_lo t1 t2 (Nat.le_of_lt_succ (bit63 hc t1)) 63 (Nat.le_refl _) (by omega)
    · have hx0 : x = 0 := (lN_0i hc).mp qz
      have z2 : w ≠ 2 := fun z => q2 (by rw [z]; rfl)
      refine hRt.toI ?_
      unfold tm
      rw [hx0]
      by_cases c : w = 0
      · rw [if_pos c, fs_0]
      · rw [if_neg c, if_pos (by omega), la_0]
    · have hw2 : w = 2 := (nI_eq (b := 2) (by omega) (by decide)).mp q2
      subst hw2
      exact hRt
  · rw [qu_neg h]
    refine ⟨_, L, p, Ct.mk (by decide) rfl (Nat.le_of_ble_eq_true rfl) ?_, k_bad hV hW.2.1, fun r hr => upI_R (by omega), fun _ _ => rfl⟩
    rintro X rfl rfl hX - hRt
    exact RX5_times_0 hX _ _ _ _ ⟨_, k_isStart hR.1 hS _ _, fun _ => ⟨_, _, k_refB, hRt⟩, fun q1 => ⟨_, k_hasShaft hR.1 hS _, fun _ => ⟨_, _, k_refB, hRt⟩, fun q2 => ⟨_, k_btw _ (a := 0) (b := 2) (by decide) (by decide), fun q3 => absurd ⟨b2i_n0.mp q1, b2i_n0.mp q2, b2i_n0.mp q3⟩ h, fun _ => ⟨_, _, k_refB, hRt⟩⟩⟩⟩
theorem lvs_one {a m : Nat} : lvs D a (2 ^ m) = if lv D a m ≤ 62 then 2 ^ lv D a m else 0 := by
  refine (lvs_of (x := 2 ^ m) ?_ fun v hv => ?_).symm
  · split
    · exact Nat.pow_lt_pow_right (by decide) (by omega)
    · decide
  · constructor
    · intro q
      by_cases c : lv D a m ≤ 62
      · rw [if_pos c, Nat.testBit_two_pow, decide_eq_true_eq] at q
        exact ⟨m, by rw [Nat.testBit_two_pow]; simp, q.symm⟩
      · rw [if_neg c, Nat.zero_testBit] at q
        exact absurd q (by simp)
    · rintro ⟨u, h1, h2⟩
      rw [Nat.testBit_two_pow, decide_eq_true_eq] at h1
      subst h1
      rw [if_pos (by omega), Nat.testBit_two_pow, h2]; simp
theorem k_leaves (hV : VC whn I p s) (hW : GW s) (x1 x2 : Int32) : KP E l yX5_leaves wsX5_leaves rmX5_leaves [.ref 0, .int x1, .int x2] whn I L p (aLeaves x1 x2 s) := by
  have hS := hW.1.S
  have hR := hV.1.1
  unfold aLeaves
  by_cases h : ok x1 (gD s 0) ∧ btw x2 0 62
  · rw [qu_pos h]
    obtain ⟨a, ha, rfl⟩ := h.1
    obtain ⟨m, rfl, -, hm⟩ := h.2
    rw [nI_clamp (by omega), nI_clamp (by omega)]
    have hc := lvs_lt (gD s) a (2 ^ m)
    refine ⟨I, L, p, Ct.mk (by decide) rfl (Nat.le_of_ble_eq_true rfl) ?_, hV, fun _ _ => rfl, fun _ _ => rfl⟩
    rintro X rfl rfl hX - hRt
    unfold lvI at hRt
    refine RX5_leaves_0 hX _ _ ⟨_, k_hasShaft hR.1 hS _, fun q => absurd h.1 (b2i_0.mp q), fun _ => ⟨_, k_btw _ (a := 0) (b := 62) (by decide) (by decide), fun _ => ⟨_, by rw [jlshl_1 (by omega)]; exact k_leaving hR hW.1 ha (Nat.pow_lt_pow_right (by decide) (by omega)), fun q => ?_, fun q => ?_⟩, fun q => absurd h.2 (b2i_0.mp q)⟩⟩
    · by_cases c : lv (gD s) a m ≤ 62
      · rw [if_pos c] at hRt
        have e : lvs (gD s) a (2 ^ m) = 2 ^ lv (gD s) a m := by rw [lvs_one, if_pos c]
        refine ⟨_, j_ntzL hc (t := lv (gD s) a m) (by rw [e, Nat.testBit_two_pow]; simp) (fun j hj => by rw [e, Nat.testBit_two_pow]; exact decide_eq_false (by omega)), hRt⟩
      · have e : lvs (gD s) a (2 ^ m) = 0 := by rw [lvs_one, if_neg c]
        exact absurd ((lN_0i hc).mpr e) q
    · have e0 := (lN_0i hc).mp q
      by_cases c : lv (gD s) a m ≤ 62
      · rw [lvs_one, if_pos c] at e0
        have := Nat.two_pow_pos (lv (gD s) a m)
        omega
      · rw [if_neg c] at hRt
        exact hRt
  · rw [qu_neg h]
    refine ⟨_, L, p, Ct.mk (by decide) rfl (Nat.le_of_ble_eq_true rfl) ?_, k_bad hV hW.2.1, fun r hr => upI_R (by omega), fun _ _ => rfl⟩
    rintro X rfl rfl hX - hRt
    exact RX5_leaves_0 hX _ _ ⟨_, k_hasShaft hR.1 hS _, fun _ => ⟨_, _, k_refB, hRt⟩, fun q1 => ⟨_, k_btw _ (a := 0) (b := 62) (by decide) (by decide), fun q2 => absurd ⟨b2i_n0.mp q1, b2i_n0.mp q2⟩ h, fun _ => ⟨_, _, k_refB, hRt⟩⟩⟩
end
