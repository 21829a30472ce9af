/-! The model: start, and what is asked of it. -/
theorem sm_lt {f g : Nat → Nat} : ∀ {n k : Nat}, (∀ k, f k ≤ g k) → k < n → f k < g k → fb_sm f n < fb_sm g n
  | 0, _, _, h, _ => absurd h (by omega)
  | n + 1, k, h, hk, hlt => by
    rw [fb_sm_succ, fb_sm_succ]
    by_cases c : k = n
    · subst c
      have := fb_sm_le (n := k) (f := f) (g := g) (fun j _ => h j)
      omega
    · have := sm_lt h (show k < n by omega) hlt
      have := h n
      omega
theorem ms_ge {D : Dr} {Y : Nat → Nat} {b : Nat} : ∀ i, Y b ≤ ms D Y i b
  | 0 => Nat.le_refl _
  | i + 1 => Nat.le_trans (ms_ge i) st_le
theorem ms_le {D : Dr} {Y : Nat → Nat} {b i : Nat} : ∀ d, ms D Y i b ≤ ms D Y (i + d) b
  | 0 => Nat.le_refl _
  | d + 1 => Nat.le_trans (ms_le d) st_le
theorem ms_out {D : Dr} (hW : WF D) {Y : Nat → Nat} {b : Nat} (hb : 10 ≤ b) : ∀ i, i ≤ D 1 → ms D Y i b = Y b
  | 0, _ => rfl
  | i + 1, hi => (st_n (by have := (hW.pipe (show i < D 1 by omega)).2.1; have := hW.S; omega)).trans (ms_out hW hb i (by omega))
theorem ms_fix {D : Dr} {Y : Nat → Nat} (h : ms D Y (D 1) = Y) {i : Nat} (hi : i < D 1) : st D i Y = Y := by
  have e : ∀ j, j ≤ D 1 → ms D Y j = Y := by
    intro j hj
    funext b
    have a1 := ms_ge (D := D) (Y := Y) (b := b) j
    have a2 := ms_le (D := D) (Y := Y) (b := b) (i := j) (D 1 - j)
    rw [show j + (D 1 - j) = D 1 by omega, h] at a2
    omega
  have := e (i + 1) hi
  rw [ms, e i (by omega)] at this
  exact this
theorem st_fix {D : Dr} {i : Nat} {Y : Nat → Nat} (h : st D i Y = Y) {t : Nat} (ht : (cb D i (Y (fr D i))).testBit t = true) : (Y (tt D i)).testBit t = true := by
  have e := congrFun h (tt D i)
  rw [st_s] at e
  rw [← e, Nat.testBit_or, ht, Bool.or_true]
theorem y0_lt {a m : Nat} (hm : m ≤ 62) (b : Nat) : y0 a m b < 2 ^ 63 := (SI_0 (fun _ => 0) a hm).1 b
section
variable {E : ET} {l : Launch} {I : MI} {L : ML} {p : Nat → Nat} {D : Dr} {s : Sg}
theorem m_start (hR : RM I D) (hW : WF D) {a m : Nat} (ha : a < D 0) (hm : m ≤ 62) : Ct E l yX6_start wsX6_start rmX6_start [.ref 96, .int (nI a), .int (nI m)] (HE E I L p) none (HE E I (wy 101 10 L (cm D a m)) p) := by
  have hS := hW.S
  have hP := hW.P
  have r1 := hR 1 (by decide)
  refine Ct.mk (by decide) rfl (Nat.le_of_ble_eq_true rfl) ?_
  rintro X rfl rfl hX - hRt
  refine RX6_start_0 hX _ _ ?_
  have sweep : ∀ Y, SI D a m Y → G X 0 0 34 [(0, .ref 96), (1, .int (nI a)), (2, .int (nI m)), (3, .int (b2i (ms D Y (D 1) ≠ Y)))] [] (HM X I (wy 101 10 L (ms D Y (D 1))) p) → G X 0 0 43 [(0, .ref 96), (1, .int (nI a)), (2, .int (nI m)), (3, .int 0), (4, .int 0)] [] (HM X I (wy 101 10 L Y) p) := by
    intro Y hY k0
    have e0 : (0 : Int32) = b2i (ms D Y 0 ≠ Y) := (b2i_neg (fun h => h rfl)).symm
    have key := loop_up (N := D 1) (Q := fun i => G X 0 0 43 [(0, .ref 96), (1, .int (nI a)), (2, .int (nI m)), (3, .int (b2i (ms D Y i ≠ Y))), (4, .int (nI i))] [] (HM X I (wy 101 10 L (ms D Y i)) p)) (fun i hi k => ?_) 0 (Nat.zero_le _) ?_
    · rw [← e0] at key
      exact key
    · refine RX6_start_43 hX _ _ _ _ ⟨fun q => absurd q (by rw [r1]; exact nI_ge hi (by omega)), fun _ => ⟨_, _, m_carries hR hW hi (ms_SI hY i (by omega)).1, fun q => ?_, fun q => ?_⟩⟩
      · rw [b2i_n0] at q
        have h1 : ms D Y (i + 1) ≠ Y := by
          intro e
          have a1 := congrFun e (tt D i)
          have a2 : ms D Y i (tt D i) ≤ st D i (ms D Y i) (tt D i) := st_le
          have a3 := ms_ge (D := D) (Y := Y) (b := tt D i) i
          have a4 : ms D Y (i + 1) (tt D i) = st D i (ms D Y i) (tt D i) := rfl
          omega
        rw [b2i_pos h1] at k
        rw [nI_1]
        exact k
      · rw [b2i_0, Classical.not_not] at q
        have e2 : st D i (ms D Y i) = ms D Y i := st_id q
        have e1 : ms D Y (i + 1) = ms D Y i := e2
        rw [e1] at k
        rw [nI_1, e2]
        have e3 : (if b2i (ms D Y i ≠ Y) = 0 then 0 else 1 : Int32) = b2i (ms D Y i ≠ Y) := by
          rcases b2i_01 (P := ms D Y i ≠ Y) with z | z
          · rw [z]; rfl
          · rw [z]; rfl
        rw [e3]
        exact k
    · refine RX6_start_43 hX _ _ _ _ ⟨fun _ => k0, fun q => absurd ?_ q⟩
      rw [r1]
      exact nI_le (Nat.le_refl _) (by omega)
  have outer : ∀ n Y, SI D a m Y → 10 * 2 ^ 63 ≤ fb_sm Y 10 + n → G X 0 0 34 [(0, .ref 96), (1, .int (nI a)), (2, .int (nI m)), (3, .int 1)] [] (HM X I (wy 101 10 L Y) p) := by
    intro n
    induction n with
    | zero =>
      intro Y hY h
      have := fb_sm_bound (f := Y) (c := 2 ^ 63 - 1) (n := 10) (fun k _ => by have := hY.1 k; omega)
      omega
    | succ n ih =>
      intro Y hY h
      refine RX6_start_34 hX _ _ _ ⟨fun q => absurd q (by decide), fun _ => sweep Y hY ?_⟩
      by_cases c : ms D Y (D 1) = Y
      · rw [b2i_neg (fun q => q c), c]
        have e := hY.done (fun i hi t ht => st_fix (ms_fix c hi) ht)
        refine RX6_start_34 hX _ _ _ ⟨fun _ => ?_, fun q => absurd rfl q⟩
        rw [wy_cong (Z := cm D a m) (fun k _ => e k)]
        exact hRt
      · rw [b2i_pos c]
        refine ih _ (ms_SI hY _ (Nat.le_refl _)) ?_
        have : ∃ b, ms D Y (D 1) b ≠ Y b := Classical.byContradiction fun q => c (funext fun b => Classical.byContradiction fun z => q ⟨b, z⟩)
        obtain ⟨b, hb⟩ := this
        have b10 : b < 10 := Nat.lt_of_not_le fun q => hb (ms_out hW q _ (Nat.le_refl _))
        have := sm_lt (f := Y) (g := ms D Y (D 1)) (n := 10) (fun k => ms_ge _) b10 (by have := ms_ge (D := D) (Y := Y) (b := b) (D 1); omega)
        omega
  have key := loop_up (N := 10) (Q := fun i => G X 0 0 2 [(0, .ref 96), (1, .int (nI a)), (2, .int (nI m)), (3, .int (nI i))] [] (HM X I (wy 101 i L (y0 a m)) p)) (fun i hi k => ?_) 0 (Nat.zero_le _) ?_
  · rw [wy_0] at key
    exact key
  · refine RX6_start_2 hX _ _ _ ⟨fun q => absurd q (nI_ge (b := 10) hi (by decide)), fun _ => ⟨i, rfl, hi, ?_⟩⟩
    have e : (if nI i = nI a then jlshl 1 (nI m) else 0 : Int64) = lN (y0 a m i) := by
      unfold y0
      by_cases c : i = a
      · rw [if_pos c, if_pos (by rw [c]), jlshl_1 (by omega)]
      · rw [if_neg c, if_neg (fun q => c ((nI_eq (by omega) (by omega)).mp q))]; rfl
    rw [e, wy_next rfl, nI_1]
    exact k
  · refine RX6_start_2 hX _ _ _ ⟨fun _ => outer (10 * 2 ^ 63) _ (SI_0 D a hm) (by omega), fun q => absurd (by decide) q⟩
theorem m_isStart (hR : RM I D) (hW : WF D) (x1 x2 : Int32) : Ct E l yX6_isStart wsX6_isStart rmX6_isStart [.ref 96, .int x1, .int x2] (HE E I L p) (some (.int (b2i (ok x1 (D 0) ∧ btw x2 0 30)))) (HE E I L p) := by
  refine Ct.mk (by decide) rfl (Nat.le_of_ble_eq_true rfl) ?_
  rintro X rfl rfl hX - hRt
  refine RX6_isStart_0 hX _ _ ⟨_, m_isShaft hR hW x1, fun q => ?_, fun q => ⟨_, m_btw x2 (a := 0) (b := 30) (by decide) (by decide), ?_⟩⟩
  · rw [b2i_neg (fun h => b2i_0.mp q h.1)] at hRt
    exact hRt
  · by_cases c : btw x2 0 30
    · rw [b2i_pos ⟨b2i_n0.mp q, c⟩] at hRt
      rw [b2i_pos c]
      exact hRt
    · rw [b2i_neg (fun h => c h.2)] at hRt
      rw [b2i_neg c]
      exact hRt
theorem m_comesOf (hR : RM I D) (hW : WF D) {a m b : Nat} (ha : a < D 0) (hm : m ≤ 62) (hb : b < D 0) : Ct E l yX6_comesOf wsX6_comesOf rmX6_comesOf [.ref 96, .int (nI a), .int (nI m), .int (nI b)] (HE E I L p) (some (.long (lN (cm D a m b)))) (HE E I (wy 101 10 L (cm D a m)) p) := by
  have hS := hW.S
  refine Ct.mk (by decide) rfl (Nat.le_of_ble_eq_true rfl) ?_
  rintro X rfl rfl hX - hRt
  refine RX6_comesOf_0 hX _ _ _ ⟨_, m_start hR hW ha hm, b, rfl, by omega, ?_⟩
  rw [wy_s (by omega)]
  exact hRt
/-- the last minute of x below n, or none -/
def la (x : Nat) : Nat → Int32
  | 0 => -1
  | n + 1 => if x.testBit n then nI n else la x n
theorem m_lastOf {x : Nat} (hx : x < 2 ^ 63) : Ct E l yX6_lastOf wsX6_lastOf rmX6_lastOf [.long (lN x)] (HE E I L p) (some (.int (la x 63))) (HE E I L p) := by
  refine Ct.mk (by decide) rfl (Nat.le_of_ble_eq_true rfl) ?_
  rintro X rfl rfl hX - hRt
  refine RX6_lastOf_0 hX _ ?_
  refine loop_up (N := 63) (Q := fun i => G X 0 0 4 [(0, .long (lN x)), (2, .int (la x i)), (3, .int (nI i))] [] (HM X I L p)) (fun i hi k => ?_) 0 (Nat.zero_le _) ?_
  · refine RX6_lastOf_4 hX _ _ _ ⟨fun q => absurd ((nlt (a := 62) (by decide) (by omega)).mp q) (by omega), fun _ => ⟨_, m_hasMinute hx (by omega), ?_⟩⟩
    have e : (if (if x.testBit i = true then 1 else 0 : Int32) = 0 then la x i else nI i) = la x (i + 1) := by
      rw [la]
      by_cases c : x.testBit i = true
      · rw [if_pos c, if_pos c]; rfl
      · rw [if_neg c, if_neg c]; rfl
    rw [e, nI_1]
    exact k
  · exact RX6_lastOf_4 hX _ _ _ ⟨fun _ => hRt, fun q => absurd (by decide) q⟩
theorem la_le {x q : Nat} (hq : q < 2 ^ 31) : ∀ {n : Nat}, n < 2 ^ 31 → (la x n ≤ nI q ↔ ∀ t, t < n → x.testBit t = true → t ≤ q)
  | 0, _ => ⟨fun _ t ht => by omega, fun _ => by
    show (-1 : Int32) ≤ nI q
    rw [fa_le, nI_toInt hq]
    have : (-1 : Int32).toInt = -1 := rfl
    omega⟩
  | n + 1, hn => by
    rw [la]
    by_cases c : x.testBit n = true
    · rw [if_pos c, nle (by omega) hq]
      exact ⟨fun h t ht _ => by omega, fun h => h n (by omega) c⟩
    · rw [if_neg c, la_le hq (by omega)]
      refine ⟨fun h t ht ht2 => ?_, fun h t ht ht2 => h t (by omega) ht2⟩
      by_cases d : t = n
      · rw [d] at ht2; exact absurd ht2 c
      · exact h t (by omega) ht2
theorem bit63 {x t : Nat} (hx : x < 2 ^ 63) (h : x.testBit t = true) : t < 63 := by
  refine Nat.lt_of_not_le fun q => ?_
  rw [Nat.testBit_lt_two_pow (Nat.lt_of_lt_of_le hx (Nat.pow_le_pow_right (by decide) q))] at h
  exact absurd h (by simp)
theorem m_isFit (hR : RM I D) (hW : WF D) {a m : Nat} (ha : a < D 0) (hm : m ≤ 62) : Ct E l yX6_isFit wsX6_isFit rmX6_isFit [.ref 96, .int (nI a), .int (nI m)] (HE E I L p) (some (.int (b2i (ft D a m)))) (HE E I (wy 101 10 L (cm D a m)) p) := by
  have hS := hW.S
  have hT := hW.T
  have r2 := hR 2 (by decide)
  refine Ct.mk (by decide) rfl (Nat.le_of_ble_eq_true rfl) ?_
  rintro X rfl rfl hX - hRt
  refine RX6_isFit_0 hX _ _ ⟨_, m_start hR hW ha hm, ?_⟩
  let F : Nat → Prop := fun n => ∀ k, k < n → sg D k (cm D a m (D (88 + 3 * k)))
  have e0 : (1 : Int32) = b2i (F 0) := (b2i_pos (fun k hk => by omega)).symm
  have key := loop_up (N := D 2) (Q := fun i => G X 0 0 11 [(0, .ref 96), (1, .int (nI a)), (2, .int (nI m)), (3, .int (b2i (F i))), (4, .int (nI i))] [] (HM X I (wy 101 10 L (cm D a m)) p)) (fun i hi k => ?_) 0 (Nat.zero_le _) ?_
  · rw [← e0] at key
    exact key
  · obtain ⟨s1, s2, s3⟩ := hW.sight hi
    have Fs : F (i + 1) ↔ F i ∧ sg D i (cm D a m (D (88 + 3 * i))) := by
      constructor
      · intro h; exact ⟨fun j hj => h j (by omega), h i (by omega)⟩
      · rintro ⟨h1, h2⟩ j hj
        by_cases c : j = i
        · subst c; exact h2
        · exact h1 j (by omega)
    have x1 : ((87 : Int32) + 3 * nI i) + 1 = nI (88 + 3 * i) := by rw [ix3, nI_1]; congr 1; omega
    have x2 : ((87 : Int32) + 3 * nI i) + 2 = nI (89 + 3 * i) := by
      rw [ix3, show (2 : Int32) = nI 2 from rfl, nI_add]; congr 1; omega
    have hc := cm_lt D a m (D (88 + 3 * i))
    have row : wy 101 10 L (cm D a m) 101 (D (88 + 3 * i)) = lN (cm D a m (D (88 + 3 * i))) := wy_s (by omega)
    refine RX6_isFit_11 hX _ _ _ _ ⟨fun q => absurd q (by rw [r2]; exact nI_ge hi (by omega)), fun _ => ⟨88 + 3 * i, x1, by omega, D (88 + 3 * i), hR _ (by omega), by omega, fun q => ?_, fun q => ⟨87 + 3 * i, ix3 i, by omega, fun q2 => ⟨fun q3 => ?_, fun q3 => ⟨_, by rw [row]; exact m_lastOf hc, 89 + 3 * i, x2, by omega, ?_⟩⟩, fun q2 => ⟨89 + 3 * i, x2, by omega, _, by rw [row, hR _ (by omega)]; exact m_hasMinute hc (by omega), ?_⟩⟩⟩⟩
    · rw [b2i_neg (fun h => b2i_0.mp q (Fs.mp h).1)] at k
      rw [nI_1]; exact k
    · rw [row, lN_0i hc] at q3
      rw [hR _ (by omega)] at q2
      have g : sg D i (cm D a m (D (88 + 3 * i))) := by
        unfold sg
        rw [if_neg (fun e => q2 (by rw [e]; rfl))]
        exact Or.inl q3
      rw [b2i_pos (Fs.mpr ⟨b2i_n0.mp q, g⟩)] at k
      rw [nI_1]; exact k
    · rw [row, lN_0i hc] at q3
      rw [hR _ (by omega)] at q2 ⊢
      have g : sg D i (cm D a m (D (88 + 3 * i))) ↔ ¬ la (cm D a m (D (88 + 3 * i))) 63 ≤ nI (D (89 + 3 * i)) := by
        unfold sg
        rw [if_neg (fun e => q2 (by rw [e]; rfl)), la_le (by omega) (by decide)]
        constructor
        · rintro (h | ⟨t, h1, h2⟩) z
          · exact q3 h
          · have := z t (bit63 hc h2) h2
            omega
        · intro h
          refine Or.inr (Classical.byContradiction fun z => h fun t ht ht2 => Nat.le_of_not_lt fun y => z ⟨t, y, ht2⟩)
      rw [nI_1]
      by_cases c : la (cm D a m (D (88 + 3 * i))) 63 ≤ nI (D (89 + 3 * i))
      · rw [b2i_neg (fun h => g.mp (Fs.mp h).2 c)] at k
        rw [if_pos c]; exact k
      · rw [b2i_pos (Fs.mpr ⟨b2i_n0.mp q, g.mpr c⟩)] at k
        rw [if_neg c]; exact k
    · rw [hR _ (by omega)] at q2
      have g : sg D i (cm D a m (D (88 + 3 * i))) ↔ (cm D a m (D (88 + 3 * i))).testBit (D (89 + 3 * i)) = true := by
        unfold sg
        rw [if_pos ((nI_eq (b := 1) (by omega) (by decide)).mp q2)]
      rw [nI_1]
      by_cases c : (cm D a m (D (88 + 3 * i))).testBit (D (89 + 3 * i)) = true
      · rw [b2i_pos (Fs.mpr ⟨b2i_n0.mp q, g.mpr c⟩)] at k
        rw [if_pos c]; exact k
      · rw [b2i_neg (fun h => c (g.mp (Fs.mp h).2))] at k
        rw [if_neg c]; exact k
  · refine RX6_isFit_11 hX _ _ _ _ ⟨fun _ => ⟨b2i_01, hRt⟩, fun q => absurd ?_ q⟩
    rw [r2]
    exact nI_le (Nat.le_refl _) (by omega)
theorem mk_next {f : Nat → Bool} {n : Nat} (hn : n < 31) : nI (mk f n) ||| (if f n then nI (2 ^ n) else 0 : Int32) = nI (mk f (n + 1)) := by
  rw [mk_or]
  by_cases c : f n = true
  · rw [if_pos c, if_pos c, fa_or]
  · rw [if_neg c, if_neg c, Nat.or_zero]; simp
/-- rows that are written over -/
def wz (r : Nat) (L : ML) (F : Nat → Nat → Nat) (i : Nat) : ML := if i = 0 then L else wy r 10 L (F (i - 1))
theorem wz_s (r : Nat) (L : ML) (F : Nat → Nat → Nat) (i : Nat) : wy r 10 (wz r L F i) (F i) = wz r L F (i + 1) := by
  have e : wz r L F (i + 1) = wy r 10 L (F i) := rfl
  rw [e]
  by_cases c : i = 0
  · subst c; rfl
  · have e2 : wz r L F i = wy r 10 L (F (i - 1)) := if_neg c
    rw [e2, wy_wy]
theorem wz_r {r q : Nat} {L : ML} {F : Nat → Nat → Nat} {i : Nat} (h : q ≠ r) : wz r L F i q = L q := by
  unfold wz
  split
  · rfl
  · exact wy_r h
theorem m_whenOf (hR : RM I D) (hW : WF D) {a : Nat} (ha : a < D 0) : Ct E l yX6_whenOf wsX6_whenOf rmX6_whenOf [.ref 96, .int (nI a)] (HE E I L p) (some (.int (nI (whn D a)))) (HE E I (wy 101 10 L (cm D a 30)) p) := by
  refine Ct.mk (by decide) rfl (Nat.le_of_ble_eq_true rfl) ?_
  rintro X rfl rfl hX - hRt
  refine RX6_whenOf_0 hX _ ?_
  refine loop_up (N := 31) (Q := fun i => G X 0 0 4 [(0, .ref 96), (1, .int (nI a)), (2, .int (nI (mk (fun m => bdec (ft D a m)) i))), (3, .int (nI i))] [] (HM X I (wz 101 L (cm D a) i) p)) (fun i hi k => ?_) 0 (Nat.zero_le _) ?_
  · refine RX6_whenOf_4 hX _ _ _ ⟨fun q => absurd ((nlt (a := 30) (by decide) (by omega)).mp q) (by omega), fun _ => ⟨_, _, m_isFit hR hW ha (by omega), ?_⟩⟩
    have e : (if b2i (ft D a i) = 0 then 0 else jshl 1 (nI i) : Int32) = if bdec (ft D a i) then nI (2 ^ i) else 0 := by
      rw [jshl_1 hi]
      by_cases c : ft D a i
      · rw [bif_pos c, if_neg (b2i_n0.mpr c)]
      · rw [bif_neg c, if_pos (b2i_0.mpr c)]
    rw [e, mk_next (f := fun m => bdec (ft D a m)) hi, nI_1, wz_s]
    exact k
  · exact RX6_whenOf_4 hX _ _ _ ⟨fun _ => hRt, fun q => absurd (by decide) q⟩
theorem m_suspectsNow (hR : RM I D) (hW : WF D) : Ct E l yX6_suspectsNow wsX6_suspectsNow rmX6_suspectsNow [.ref 96] (HE E I L p) (some (.int (nI (sus D)))) (HE E I (wz 101 L (fun a => cm D a 30) (D 0)) p) := by
  have hS := hW.S
  have r0 := hR 0 (by decide)
  refine Ct.mk (by decide) rfl (Nat.le_of_ble_eq_true rfl) ?_
  rintro X rfl rfl hX - hRt
  refine RX6_suspectsNow_0 hX ?_
  refine loop_up (N := D 0) (Q := fun i => G X 0 0 4 [(0, .ref 96), (1, .int (nI (mk (fun a => bdec (whn D a ≠ 0)) i))), (2, .int (nI i))] [] (HM X I (wz 101 L (fun a => cm D a 30) i) p)) (fun i hi k => ?_) 0 (Nat.zero_le _) ?_
  · refine RX6_suspectsNow_4 hX _ _ ⟨fun q => absurd q (by rw [r0]; exact nI_ge hi (by omega)), fun _ => ⟨_, _, m_whenOf hR hW hi, ?_⟩⟩
    have hw := whn_lt D i
    have e : (if nI (whn D i) = 0 then 0 else jshl 1 (nI i) : Int32) = if bdec (whn D i ≠ 0) then nI (2 ^ i) else 0 := by
      rw [jshl_1 (by omega)]
      by_cases c : whn D i = 0
      · rw [bif_neg (fun q => q c), c]; rfl
      · rw [bif_pos c, if_neg (nI_ne0 (by omega) hw)]
    rw [e, mk_next (f := fun a => bdec (whn D a ≠ 0)) (by omega), nI_1, wz_s (F := fun a => cm D a 30)]
    exact k
  · refine RX6_suspectsNow_4 hX _ _ ⟨fun _ => hRt, fun q => absurd ?_ q⟩
    rw [r0]
    exact nI_le (Nat.le_refl _) (by omega)
end
