/-! What comes by: the model's side. -/
def lvI (D : Dr) (a m : Nat) : Int32 := if lv D a m ≤ 62 then nI (lv D a m) else -1
theorem if62 {v : Nat} (h : v < 2 ^ 31) : (if nI v ≤ 62 then nI v else (-1) : Int32) = if v ≤ 62 then nI v else -1 := by
  by_cases c : v ≤ 62
  · rw [if_pos c, if_pos (show nI v ≤ 62 from (nle (b := 62) h (by decide)).mpr c)]
  · rw [if_neg c, if_neg (show ¬ nI v ≤ 62 from fun q => c ((nle (b := 62) h (by decide)).mp q))]
/-- ten rows of minutes as one row of long numbers -/
def wy (r n : Nat) (L : ML) (Y : Nat → Nat) : ML := fun q k => if q = r ∧ k < n then lN (Y k) else L q k
theorem wy_s {r n k : Nat} {L : ML} {Y : Nat → Nat} (h : k < n) : wy r n L Y r k = lN (Y k) := by simp [wy, h]
theorem wy_r {r n q : Nat} {L : ML} {Y : Nat → Nat} (h : q ≠ r) : wy r n L Y q = L q := by funext k; simp [wy, h]
theorem wy_up {r n b v : Nat} {L : ML} {Y : Nat → Nat} (h : b < n) : upL (wy r n L Y) r b (lN v) = wy r n L (va_up Y b v) := by
  funext q k
  unfold upL wy va_up
  by_cases c : q = r
  · by_cases d : k = b
    · subst d; simp [c, h]
    · simp [c, d]
  · simp [c]
theorem wy_0 (r : Nat) (L : ML) (Y : Nat → Nat) : wy r 0 L Y = L := by funext q k; simp [wy]
theorem wy_next {r n v : Nat} {L : ML} {Y : Nat → Nat} (h : Y n = v) : upL (wy r n L Y) r n (lN v) = wy r (n + 1) L Y := by
  funext q k
  unfold upL wy
  by_cases c : q = r
  · by_cases d : k = n
    · subst d; simp [c, h]
    · simp only [c, d, and_false, if_false, true_and]
      by_cases e : k < n
      · rw [if_pos e, if_pos (by omega)]
      · rw [if_neg e, if_neg (by omega)]
  · simp [c]
theorem wy_cong {r n : Nat} {L : ML} {Y Z : Nat → Nat} (h : ∀ k, k < n → Y k = Z k) : wy r n L Y = wy r n L Z := by
  funext q k
  unfold wy
  by_cases c : q = r ∧ k < n
  · rw [if_pos c, if_pos c, h k c.2]
  · rw [if_neg c, if_neg c]
theorem wy_wy (r n : Nat) (L : ML) (Y Z : Nat → Nat) : wy r n (wy r n L Y) Z = wy r n L Z := by
  funext q k
  unfold wy
  by_cases c : q = r ∧ k < n
  · rw [if_pos c, if_pos c]
  · rw [if_neg c, if_neg c, if_neg c]
theorem lN_0i {x : Nat} (h : x < 2 ^ 63) : jcmp (lN x) 0 = 0 ↔ x = 0 := by
  rw [jcmp_0]
  exact fb_lN_inj (b := 0) h (by decide)
section
variable {E : ET} {l : Launch} {I : MI} {L : ML} {p : Nat → Nat} {D : Dr} {s : Sg}
theorem m_pumped (hR : RM I D) (hW : WF D) {a m : Nat} (ha : a < D 0) (hm : m ≤ 62) : Ct E l yX6_pumped wsX6_pumped rmX6_pumped [.ref 96, .int (nI a), .int (nI m)] (HE E I L p) (some (.int (nI (pu (D (4 + 2 * a)) m)))) (HE E I L p) := by
  have hS := hW.S
  obtain ⟨h1, h2, h3⟩ := hW.shaft ha
  obtain ⟨q1, q2, q3⟩ := pu_ok (m := m) h2
  refine Ct.mk (by decide) rfl (Nat.le_of_ble_eq_true rfl) ?_
  rintro X rfl rfl hX - hRt
  refine RX6_pumped_0 hX _ _ ?_
  have rem : ∀ v, v < 2 ^ 31 → jrem (nI v) (nI (D (4 + 2 * a))) = nI (v % D (4 + 2 * a)) := fun v hv => pk_rem hv (by omega) (by omega)
  refine loop_up (N := pu (D (4 + 2 * a)) m - m) (Q := fun d => G X 0 0 2 [(0, .ref 96), (1, .int (nI a)), (2, .int (nI m)), (3, .int (nI (m + d)))] [] (HM X I L p)) (fun d hd k => ?_) 0 (Nat.zero_le _) ?_
  · refine RX6_pumped_2 hX _ _ _ ⟨_, m_numberOf hR (by omega), nI_ne0 (by omega) (by omega), fun q => ?_, fun _ => ?_⟩
    · rw [rem _ (by omega)] at q
      have hlt : (m + d) % D (4 + 2 * a) < D (4 + 2 * a) := Nat.mod_lt _ (by omega)
      have e := (nI_eq (b := 0) (by omega) (by decide)).mp q
      have := pu_one (m := m) h2 e (by omega) (by omega)
      omega
    · rw [nI_1]; exact k
  · rw [show m + (pu (D (4 + 2 * a)) m - m) = pu (D (4 + 2 * a)) m by omega]
    refine RX6_pumped_2 hX _ _ _ ⟨_, m_numberOf hR (by omega), nI_ne0 (by omega) (by omega), fun _ => hRt, fun q => absurd ?_ q⟩
    rw [rem _ (by omega), q1]; rfl
theorem m_leavesAt (hR : RM I D) (hW : WF D) {a m : Nat} (ha : a < D 0) (hm : m ≤ 62) : Ct E l yX6_leavesAt wsX6_leavesAt rmX6_leavesAt [.ref 96, .int (nI a), .int (nI m)] (HE E I L p) (some (.int (lvI D a m))) (HE E I L p) := by
  have hS := hW.S
  obtain ⟨h1, h2, h3⟩ := hW.shaft ha
  obtain ⟨q1, q2, q3⟩ := pu_ok (m := m) h2
  have hl := lvD_lt hW ha hm
  have hk := m_kindOf (E := E) (l := l) (L := L) (p := p) hR (show a < 10 by omega)
  have hn := m_numberOf (E := E) (l := l) (L := L) (p := p) hR (show a < 10 by omega)
  refine Ct.mk (by decide) rfl (Nat.le_of_ble_eq_true rfl) ?_
  rintro X rfl rfl hX - hRt
  have eI : lvI D a m = (if nI (lv D a m) ≤ 62 then nI (lv D a m) else (-1) : Int32) := (if62 (by omega)).symm
  rw [eI] at hRt
  have kq : ∀ j, j < 5 → (nI (D (3 + 2 * a)) = nI j ↔ D (3 + 2 * a) = j) := fun j hj => nI_eq (by omega) (by omega)
  have k1 : nI (D (3 + 2 * a)) = 1 ↔ D (3 + 2 * a) = 1 := kq 1 (by decide)
  have k2 : nI (D (3 + 2 * a)) = 2 ↔ D (3 + 2 * a) = 2 := kq 2 (by decide)
  have k3 : nI (D (3 + 2 * a)) = 3 ↔ D (3 + 2 * a) = 3 := kq 3 (by decide)
  have k4 : nI (D (3 + 2 * a)) = 4 ↔ D (3 + 2 * a) = 4 := kq 4 (by decide)
  refine RX6_leavesAt_0 hX _ _ ⟨_, hk, fun c => ⟨_, m_pumped hR hW ha hm, ?_⟩, fun c => ⟨_, hn, ?_⟩, fun c => ⟨_, hn, ?_⟩, fun c => ⟨_, m_pumped hR hW ha hm, _, hn, by decide, ?_⟩, fun c => ?_⟩
  · rw [k1] at c
    have e : lv D a m = pu (D (4 + 2 * a)) m := by unfold lv; rw [if_pos c]
    rw [e] at hRt
    exact hRt
  · rw [k2] at c
    have e : lv D a m = m + D (4 + 2 * a) := by unfold lv; rw [if_neg (by omega), if_pos c]
    rw [e] at hRt
    rw [nI_add]
    exact hRt
  · rw [k3] at c
    have e : lv D a m = if m < D (4 + 2 * a) then 63 else m := by unfold lv; rw [if_neg (by omega), if_neg (by omega), if_pos c]
    have e2 : (if nI (D (4 + 2 * a)) ≤ nI m then nI m else 63 : Int32) = nI (if m < D (4 + 2 * a) then 63 else m) := by
      by_cases d : m < D (4 + 2 * a)
      · rw [if_pos d, if_neg (fun q => absurd ((nle (by omega) (by omega)).mp q) (by omega))]; rfl
      · rw [if_neg d, if_pos ((nle (by omega) (by omega)).mpr (by omega))]
    rw [e] at hRt
    rw [e2]
    exact hRt
  · rw [k4] at c
    have e : lv D a m = pu (D (4 + 2 * a)) m + D (4 + 2 * a) / 10 + 1 := by unfold lv; rw [if_neg (by omega), if_neg (by omega), if_neg (by omega), if_pos c]
    rw [e] at hRt
    rw [show (10 : Int32) = nI 10 from rfl, pk_div (by omega) (by decide) (by decide), nI_add, nI_1]
    exact hRt
  · rw [k1, k2, k3, k4] at c
    have e : lv D a m = m := by unfold lv; rw [if_neg c.1, if_neg c.2.1, if_neg c.2.2.1, if_neg c.2.2.2]
    rw [e] at hRt
    exact hRt
theorem m_hasMinute {x k : Nat} (hx : x < 2 ^ 63) (hk : k < 64) : Ct E l yX6_hasMinute wsX6_hasMinute rmX6_hasMinute [.long (lN x), .int (nI k)] (HE E I L p) (some (.int (if x.testBit k then 1 else 0))) (HE E I L p) := by
  refine Ct.mk (by decide) rfl (Nat.le_of_ble_eq_true rfl) ?_
  rintro X rfl rfl hX - hRt
  refine RX6_hasMinute_0 hX _ _ (hRt.toI ?_)
  have h := jlbit_iff hx hk
  by_cases c : x.testBit k = true
  · rw [if_pos c, if_pos (jcmp_0.mpr (h.mpr c))]
  · rw [if_neg c, if_neg (fun q => c (h.mp (jcmp_0.mp q)))]
/-- what has gone by pipe i when minute mm is under way, and of it those before kk -/
noncomputable def ce (D : Dr) (i x mm kk : Nat) : Nat := mk (fun t => bdec (∃ m d, x.testBit m = true ∧ lw D i ≤ d ∧ d ≤ hg D i ∧ t = lv D (fr D i) m + d ∧ (m < mm ∨ m = mm ∧ d < kk))) 63
theorem ce_bit (D : Dr) (i x mm kk t : Nat) : (ce D i x mm kk).testBit t = true ↔ t < 63 ∧ ∃ m d, x.testBit m = true ∧ lw D i ≤ d ∧ d ≤ hg D i ∧ t = lv D (fr D i) m + d ∧ (m < mm ∨ m = mm ∧ d < kk) := by
  rw [ce, mk_bit, Bool.and_eq_true, decide_eq_true_eq, bdec_iff]
theorem ce_eq {D : Dr} {i x mm kk mm' kk' : Nat} (h : ∀ m d, x.testBit m = true → lw D i ≤ d → d ≤ hg D i → lv D (fr D i) m + d < 63 → ((m < mm ∨ m = mm ∧ d < kk) ↔ (m < mm' ∨ m = mm' ∧ d < kk'))) : ce D i x mm kk = ce D i x mm' kk' := by
  refine tb_eq (n := 63) (mk_lt _ _) (mk_lt _ _) (fun t ht => ?_)
  show (ce D i x mm kk).testBit t = true ↔ (ce D i x mm' kk').testBit t = true
  rw [ce_bit, ce_bit]
  constructor
  · rintro ⟨h1, m, d, h2, h3, h4, h5, h6⟩
    exact ⟨h1, m, d, h2, h3, h4, h5, (h m d h2 h3 h4 (by omega)).mp h6⟩
  · rintro ⟨h1, m, d, h2, h3, h4, h5, h6⟩
    exact ⟨h1, m, d, h2, h3, h4, h5, (h m d h2 h3 h4 (by omega)).mpr h6⟩
theorem ce_set {D : Dr} {i x mm kk : Nat} (h1 : x.testBit mm = true) (h2 : lw D i ≤ kk) (h3 : kk ≤ hg D i) (h4 : lv D (fr D i) mm + kk < 63) : ce D i x mm kk ||| 2 ^ (lv D (fr D i) mm + kk) = ce D i x mm (kk + 1) := by
  refine tb_eq (n := 63) (Nat.or_lt_two_pow (mk_lt _ _) (Nat.pow_lt_pow_right (by decide) h4)) (mk_lt _ _) (fun t ht => ?_)
  show (ce D i x mm kk ||| _).testBit t = true ↔ (ce D i x mm (kk + 1)).testBit t = true
  rw [Nat.testBit_or, Nat.testBit_two_pow, Bool.or_eq_true, decide_eq_true_eq, ce_bit, ce_bit]
  constructor
  · rintro (⟨a1, m, d, a2, a3, a4, a5, a6⟩ | e)
    · exact ⟨a1, m, d, a2, a3, a4, a5, by omega⟩
    · exact ⟨ht, mm, kk, h1, h2, h3, e.symm, by omega⟩
  · rintro ⟨a1, m, d, a2, a3, a4, a5, a6⟩
    by_cases c : m = mm ∧ d = kk
    · obtain ⟨rfl, rfl⟩ := c
      exact Or.inr a5.symm
    · exact Or.inl ⟨a1, m, d, a2, a3, a4, a5, by omega⟩
theorem m_carries (hR : RM I D) (hW : WF D) {i : Nat} (hi : i < D 1) {Y : Nat → Nat} (hY : ∀ b, Y b < 2 ^ 63) : Ct E l yX6_carries wsX6_carries rmX6_carries [.ref 96, .int (nI i)] (HE E I (wy 101 10 L Y) p) (some (.int (b2i (st D i Y (tt D i) ≠ Y (tt D i))))) (HE E I (wy 101 10 L (st D i Y)) p) := by
  have hS := hW.S
  have hP := hW.P
  obtain ⟨hf, ht, hlh, hh⟩ := hW.pipe hi
  have hne := fr_ne_tt hW hi
  refine Ct.mk (by decide) rfl (Nat.le_of_ble_eq_true rfl) ?_
  rintro X rfl rfl hX - hRt
  refine RX6_carries_0 hX _ ⟨_, m_fr hR (by omega), _, m_tt hR (by omega), tt D i, rfl, by omega, fr D i, rfl, by omega, fun c => ?_, fun c => ?_⟩
  · let Z : Nat → Nat → Nat → Nat := fun mm kk => va_up Y (tt D i) (Y (tt D i) ||| ce D i (Y (fr D i)) mm kk)
    have Zf : ∀ mm kk, Z mm kk (fr D i) = Y (fr D i) := fun mm kk => up_n _ _ hne
    have Zt : ∀ mm kk, Z mm kk (tt D i) = Y (tt D i) ||| ce D i (Y (fr D i)) mm kk := fun mm kk => up_s _ _ _
    have Zeq : ∀ mm kk mm' kk', ce D i (Y (fr D i)) mm kk = ce D i (Y (fr D i)) mm' kk' → Z mm kk = Z mm' kk' := by
      intro mm kk mm' kk' e
      show va_up _ _ _ = va_up _ _ _
      rw [e]
    have Z0 : Z 0 0 = Y := by
      have e : ce D i (Y (fr D i)) 0 0 = 0 := by
        refine tb_eq (n := 63) (mk_lt _ _) (by decide) (fun t _ => ?_)
        show (ce D i _ 0 0).testBit t = true ↔ _
        rw [ce_bit]
        constructor
        · rintro ⟨_, m, d, _, _, _, _, h⟩; omega
        · intro h; simp at h
      funext b
      show va_up Y (tt D i) _ b = _
      by_cases q : b = tt D i
      · rw [q, up_s, e, Nat.or_zero]
      · rw [up_n _ _ q]
    have Zend : Z 63 0 = st D i Y := by
      have e : ce D i (Y (fr D i)) 63 0 = cb D i (Y (fr D i)) := by
        refine tb_eq (n := 63) (mk_lt _ _) (mk_lt _ _) (fun t _ => ?_)
        show (ce D i _ 63 0).testBit t = true ↔ (cb D i _).testBit t = true
        rw [ce_bit, cb_bit]
        constructor
        · rintro ⟨h1, m, d, h2, h3, h4, h5, h6⟩; exact ⟨h1, m, d, h2, h3, h4, h5⟩
        · rintro ⟨h1, m, d, h2, h3, h4, h5⟩
          refine ⟨h1, m, d, h2, h3, h4, h5, Or.inl ?_⟩
          refine Nat.lt_of_not_le fun q => ?_
          rw [Nat.testBit_lt_two_pow (Nat.lt_of_lt_of_le (hY _) (Nat.pow_le_pow_right (by decide) q))] at h2
          exact absurd h2 (by simp)
      show va_up _ _ _ = _
      rw [e]; rfl
    have lf : ∀ mm kk, wy 101 10 L (Z mm kk) 101 (fr D i) = lN (Y (fr D i)) := fun mm kk => by rw [wy_s (by omega), Zf]
    have lt' : ∀ mm kk, wy 101 10 L (Z mm kk) 101 (tt D i) = lN (Y (tt D i) ||| ce D i (Y (fr D i)) mm kk) := fun mm kk => by rw [wy_s (by omega), Zt]
    rw [wy_s (show tt D i < 10 by omega), ← Z0]
    have was : Z 0 0 (tt D i) = Y (tt D i) := by rw [Z0]
    rw [was]
    refine loop_up (N := 63) (Q := fun mm => G X 0 0 38 [(0, .ref 96), (1, .int (nI i)), (2, .int (nI (fr D i))), (3, .int (nI (tt D i))), (4, .long (lN (Y (tt D i)))), (6, .int (nI mm))] [] (HM X I (wy 101 10 L (Z mm 0)) p)) (fun mm hmm k => ?_) 0 (Nat.zero_le _) ?_
    · -- one minute
      have inner : ∀ (w : Int32), ((w = -1 ∧ (¬ (Y (fr D i)).testBit mm = true ∨ 62 < lv D (fr D i) mm)) ∨ (w = nI (lv D (fr D i) mm) ∧ (Y (fr D i)).testBit mm = true ∧ lv D (fr D i) mm ≤ 62)) → ∀ n kk, hg D i + 1 ≤ kk + n → lw D i ≤ kk → kk ≤ hg D i + 1 → G X 0 0 80 [(0, .ref 96), (1, .int (nI i)), (2, .int (nI (fr D i))), (3, .int (nI (tt D i))), (4, .long (lN (Y (tt D i)))), (6, .int (nI mm)), (7, .int w), (8, .int (nI kk))] [] (HM X I (wy 101 10 L (Z mm kk)) p) := by
        intro w hw n
        have leave : ∀ kk, lw D i ≤ kk → kk ≤ hg D i + 1 → (hg D i < kk ∨ ¬ (Y (fr D i)).testBit mm = true ∨ 62 < lv D (fr D i) mm + kk) → G X 0 0 38 [(0, .ref 96), (1, .int (nI i)), (2, .int (nI (fr D i))), (3, .int (nI (tt D i))), (4, .long (lN (Y (tt D i)))), (6, .int (nI mm + 1))] [] (HM X I (wy 101 10 L (Z mm kk)) p) := by
          intro kk h1 h2 h3
          rw [nI_1, Zeq mm kk (mm + 1) 0 (ce_eq fun m d g1 g2 g3 g4 => ?_)]
          · exact k
          · rcases h3 with h3 | h3 | h3
            · omega
            · have : m ≠ mm := fun q => h3 (by rw [← q]; exact g1)
              omega
            · by_cases q : m = mm
              · rw [q] at g4; omega
              · omega
        induction n with
        | zero =>
          intro kk h1 h2 h3
          refine RX6_carries_80 hX _ _ _ _ _ _ _ ⟨_, m_hg hR (by omega), fun _ => leave kk h2 h3 (Or.inl (by omega)), fun q => absurd ((nlt (by omega) (by omega)).mpr (by omega)) q⟩
        | succ n ih =>
          intro kk h1 h2 h3
          refine RX6_carries_80 hX _ _ _ _ _ _ _ ⟨_, m_hg hR (by omega), fun q => leave kk h2 h3 (Or.inl ((nlt (by omega) (by omega)).mp q)), fun q => ⟨fun qw => ?_, fun qw => ?_⟩⟩
          · rcases hw with ⟨e, e2⟩ | ⟨e, e2, e3⟩
            · exact leave kk h2 h3 (by rcases e2 with e2 | e2; exact Or.inr (Or.inl e2); exact Or.inr (Or.inr (by omega)))
            · rw [e] at qw
              exact absurd qw (fun q => nI_pos (show lv D (fr D i) mm < 2 ^ 31 by omega) (by rw [q]; decide))
          · rcases hw with ⟨e, e2⟩ | ⟨e, e2, e3⟩
            · exact absurd e qw
            · have hkk : kk ≤ hg D i := by
                refine Nat.le_of_not_lt fun z => q ((nlt (by omega) (by omega)).mpr z)
              subst e
              rw [nI_add]
              refine ⟨fun z => leave kk h2 h3 (Or.inr (Or.inr ((nlt (a := 62) (by decide) (by omega)).mp z))), fun z => ⟨tt D i, rfl, by omega, tt D i, rfl, by omega, ?_⟩⟩
              have hz : lv D (fr D i) mm + kk < 63 := by
                refine Nat.lt_of_not_le fun y => z ((nlt (a := 62) (by decide) (by omega)).mpr (by omega))
              rw [lt', jlshl_1 (by omega), fb_orL, Nat.or_assoc, ce_set e2 h2 hkk hz, wy_up (by omega), nI_1]
              have e5 : va_up (Z mm kk) (tt D i) (Y (tt D i) ||| ce D i (Y (fr D i)) mm (kk + 1)) = Z mm (kk + 1) := by
                funext b
                show va_up (va_up Y (tt D i) _) (tt D i) _ b = va_up Y (tt D i) _ b
                by_cases y : b = tt D i
                · rw [y, up_s, up_s]
                · rw [up_n _ _ y, up_n _ _ y, up_n _ _ y]
              rw [e5]
              exact ih (kk + 1) (by omega) (by omega) (by omega)
      have Zlw : Z mm 0 = Z mm (lw D i) := Zeq _ _ _ _ (ce_eq fun m d g1 g2 g3 g4 => by omega)
      refine RX6_carries_38 hX _ _ _ _ _ ⟨fun q => absurd ((nlt (a := 62) (by decide) (by omega)).mp q) (by omega), fun _ => ⟨fr D i, rfl, by omega, _, by rw [lf]; exact m_hasMinute (hY _) (by omega), fun q => ⟨_, m_lw hR (by omega), ?_⟩, fun q => ⟨_, m_leavesAt hR hW hf (by omega), _, m_lw hR (by omega), ?_⟩⟩⟩
      · rw [b01_0] at q
        rw [Zlw]
        exact inner (-1) (Or.inl ⟨rfl, Or.inl q⟩) (hg D i + 1) (lw D i) (by omega) (Nat.le_refl _) (by omega)
      · rw [b01_0, Classical.not_not] at q
        rw [Zlw]
        refine inner _ ?_ (hg D i + 1) (lw D i) (by omega) (Nat.le_refl _) (by omega)
        unfold lvI
        by_cases z : lv D (fr D i) mm ≤ 62
        · rw [if_pos z]; exact Or.inr ⟨rfl, q, z⟩
        · rw [if_neg z]; exact Or.inl ⟨rfl, Or.inr (by omega)⟩
    · refine RX6_carries_38 hX _ _ _ _ _ ⟨fun _ => ⟨tt D i, rfl, by omega, ?_⟩, fun q => absurd (by decide) q⟩
      rw [wy_s (show tt D i < 10 by omega), Zend]
      refine hRt.toI ?_
      have hst : st D i Y (tt D i) < 2 ^ 63 := by rw [st_s]; exact Nat.or_lt_two_pow (hY _) (cb_lt _ _ _)
      by_cases z : st D i Y (tt D i) = Y (tt D i)
      · rw [b2i_neg (fun h => h z), if_pos (jcmp_0.mpr (by rw [z]))]
      · rw [b2i_pos z, if_neg (fun h => z ((fb_lN_inj hst (hY _)).mp (jcmp_0.mp h)))]
  · rw [wy_s (show fr D i < 10 by omega)] at c
    have c0 := (lN_0i (hY _)).mp c
    have e : st D i Y (tt D i) = Y (tt D i) := by rw [st_s, c0, cb_0, Nat.or_zero]
    rw [st_id e, b2i_neg (fun h => h rfl)] at hRt
    exact hRt
end
