/-! The class's small methods; below and route. -/
/-- a Drains object at r (and its rows behind it) holds D -/
def RD (I : MI) (r : Nat) (D : Dr) : Prop := I r 0 = nI (D 0) ∧ I r 3 = nI (D 1) ∧ I r 8 = nI (D 2) ∧ (∀ a, a < 10 → I (r + 1) a = nI (D (3 + 2 * a)) ∧ I (r + 2) a = nI (D (4 + 2 * a))) ∧ (∀ i, i < 16 → I (r + 3) i = nI (fr D i) ∧ I (r + 4) i = nI (tt D i) ∧ I (r + 5) i = nI (lw D i) ∧ I (r + 6) i = nI (hg D i)) ∧ ∀ t, t < 12 → I (r + 7) t = nI (D (87 + 3 * t)) ∧ I (r + 8) t = nI (D (88 + 3 * t)) ∧ I (r + 9) t = nI (D (89 + 3 * t))
/-- and the rows that follow from it -/
def RY (I : MI) (r : Nat) (D : Dr) : Prop := (∀ a, a < D 0 → I (r + 10) a = nI (bl D a)) ∧ ∃ f : Nat → Nat, (∀ n, n < D 1 → I (r + 11) n = nI (f n)) ∧ RO D f
section
variable {E : ET} {l : Launch} {I : MI} {L : ML} {p : Nat → Nat} {D : Dr}
theorem k_within (v a b : Int32) {Q : Prop} (hQ : (a ≤ v ∧ v ≤ b) ↔ Q) : Ct E l yX5_within wsX5_within rmX5_within [.int v, .int a, .int b] (HE E I L p) (some (.int (b2i Q))) (HE E I L p) := by
  refine Ct.mk (by decide) rfl (Nat.le_of_ble_eq_true rfl) ?_
  rintro X rfl rfl hX - hR
  rw [← b2i_if hQ] at hR
  refine RX5_within_0 hX v a b ⟨fun h => ?_, fun h => ?_⟩
  · refine hR.toI (if_neg fun q => ?_)
    rw [fa_lt] at h
    have := (fa_le _ _).mp q.1
    omega
  · refine hR.toI ?_
    rw [fa_lt] at h
    by_cases h2 : b < v
    · rw [if_pos h2]
      rw [fa_lt] at h2
      exact if_neg fun q => by have := (fa_le _ _).mp q.2; omega
    · rw [if_neg h2]
      rw [fa_lt] at h2
      exact if_pos ⟨(fa_le _ _).mpr (by omega), (fa_le _ _).mpr (by omega)⟩
theorem k_btw (v : Int32) {a b : Nat} (ha : a < 2 ^ 31) (hb : b < 2 ^ 31) : Ct E l yX5_within wsX5_within rmX5_within [.int v, .int (nI a), .int (nI b)] (HE E I L p) (some (.int (b2i (btw v a b)))) (HE E I L p) := k_within v _ _ (inN ha hb)
theorem k_hasShaft (hR : I 1 0 = nI (D 0)) (hS : D 0 ≤ 10) (v : Int32) : Ct E l yX0_hasShaft wsX0_hasShaft rmX0_hasShaft [.ref 1, .int v] (HE E I L p) (some (.int (b2i (ok v (D 0))))) (HE E I L p) := by
  refine Ct.mk (by decide) rfl (Nat.le_of_ble_eq_true rfl) ?_
  rintro X rfl rfl hX - hRt
  refine RX0_hasShaft_0 hX v ⟨_, k_within v _ _ (Q := ok v (D 0)) ?_, b2i_01, hRt⟩
  rw [hR]
  exact ok_lt (by omega)
theorem k_hasPipe (hR : I 1 3 = nI (D 1)) (hS : D 1 ≤ 16) (v : Int32) : Ct E l yX0_hasPipe wsX0_hasPipe rmX0_hasPipe [.ref 1, .int v] (HE E I L p) (some (.int (b2i (ok v (D 1))))) (HE E I L p) := by
  refine Ct.mk (by decide) rfl (Nat.le_of_ble_eq_true rfl) ?_
  rintro X rfl rfl hX - hRt
  refine RX0_hasPipe_0 hX v ⟨_, k_within v _ _ (Q := ok v (D 1)) ?_, b2i_01, hRt⟩
  rw [hR]
  exact ok_lt (by omega)
theorem k_isKind (v : Int32) : Ct E l yX0_isKind wsX0_isKind rmX0_isKind [.int v] (HE E I L p) (some (.int (b2i (btw v 0 4)))) (HE E I L p) := by
  refine Ct.mk (by decide) rfl (Nat.le_of_ble_eq_true rfl) ?_
  rintro X rfl rfl hX - hRt
  exact RX0_isKind_0 hX v ⟨_, k_btw v (a := 0) (b := 4) (by decide) (by decide), b2i_01, hRt⟩
theorem k_isPace (v : Int32) : Ct E l yX0_isPace wsX0_isPace rmX0_isPace [.int v] (HE E I L p) (some (.int (b2i (btw v 1 15)))) (HE E I L p) := by
  refine Ct.mk (by decide) rfl (Nat.le_of_ble_eq_true rfl) ?_
  rintro X rfl rfl hX - hRt
  exact RX0_isPace_0 hX v ⟨_, k_btw v (a := 1) (b := 15) (by decide) (by decide), b2i_01, hRt⟩
theorem k_isBelow (hW : WF D) (hB : ∀ a, a < D 0 → I 11 a = nI (bl D a)) {w a : Nat} (hw : w < 10) (ha : a < D 0) : Ct E l yX0_isBelow wsX0_isBelow rmX0_isBelow [.ref 1, .int (nI w), .int (nI a)] (HE E I L p) (some (.int (b2i (Rc D a w)))) (HE E I L p) := by
  have hS := hW.S
  have hb := bl_lt D a
  refine Ct.mk (by decide) rfl (Nat.le_of_ble_eq_true rfl) ?_
  rintro X rfl rfl hX - hRt
  refine RX0_isBelow_0 hX _ _ ⟨a, rfl, by omega, hRt.toI ?_⟩
  rw [hB a ha]
  refine (b2i_if ?_).symm
  rw [jbit_iff (by omega) (by omega), bl_bit]
  exact ⟨fun q => q.2, fun q => ⟨hw, q⟩⟩
def pop10 (x : Int32) : Int32 := ((((((((x - ((jushr x 1) &&& 1431655765)) &&& 858993459) + ((jushr (x - ((jushr x 1) &&& 1431655765)) 2) &&& 858993459)) + (jushr (((x - ((jushr x 1) &&& 1431655765)) &&& 858993459) + ((jushr (x - ((jushr x 1) &&& 1431655765)) 2) &&& 858993459)) 4)) &&& 252645135) + (jushr (((((x - ((jushr x 1) &&& 1431655765)) &&& 858993459) + ((jushr (x - ((jushr x 1) &&& 1431655765)) 2) &&& 858993459)) + (jushr (((x - ((jushr x 1) &&& 1431655765)) &&& 858993459) + ((jushr (x - ((jushr x 1) &&& 1431655765)) 2) &&& 858993459)) 4)) &&& 252645135) 8)) + (jushr ((((((x - ((jushr x 1) &&& 1431655765)) &&& 858993459) + ((jushr (x - ((jushr x 1) &&& 1431655765)) 2) &&& 858993459)) + (jushr (((x - ((jushr x 1) &&& 1431655765)) &&& 858993459) + ((jushr (x - ((jushr x 1) &&& 1431655765)) 2) &&& 858993459)) 4)) &&& 252645135) + (jushr (((((x - ((jushr x 1) &&& 1431655765)) &&& 858993459) + ((jushr (x - ((jushr x 1) &&& 1431655765)) 2) &&& 858993459)) + (jushr (((x - ((jushr x 1) &&& 1431655765)) &&& 858993459) + ((jushr (x - ((jushr x 1) &&& 1431655765)) 2) &&& 858993459)) 4)) &&& 252645135) 8)) 16)) &&& 63)
theorem pop10_ok : ∀ m, m < 1024 → pop10 (nI m) = nI (fb_ct m.testBit 10) := by decide +kernel
theorem j_bitCount {m : Nat} (hm : m < 1024) : Ct E l yJ6_bitCount_0f7a4 wsJ6_bitCount_0f7a4 rmJ6_bitCount_0f7a4 [.int (nI m)] (HE E I L p) (some (.int (nI (fb_ct m.testBit 10)))) (HE E I L p) := by
  refine Ct.mk (by decide) rfl (Nat.le_of_ble_eq_true rfl) ?_
  rintro X rfl rfl hX - hRt
  exact RJ6_bitCount_0f7a4_0 hX _ (hRt.toI (pop10_ok m hm).symm)
/-- the row 'below' of now holds B for the shafts that there are -/
def wB (I : MI) (S : Nat) (B : Nat → Nat) : MI := fun r k => if r = 11 ∧ k < S then nI (B k) else I r k
theorem wB_r {S : Nat} {B : Nat → Nat} {r : Nat} (h : r ≠ 11) : wB I S B r = I r := by funext k; simp [wB, h]
theorem wB_s {S : Nat} {B : Nat → Nat} {k : Nat} (h : k < S) : wB I S B 11 k = nI (B k) := by simp [wB, h]
theorem wB_up {S : Nat} {B : Nat → Nat} {k v : Nat} (h : k < S) : upI (wB I S B) 11 k (nI v) = wB I S (va_up B k v) := by
  funext r j
  unfold upI wB
  by_cases c : r = 11
  · subst c
    by_cases d : j = k
    · subst d; simp [h, up_s]
    · simp only [d, and_false, if_false, true_and]
      rw [up_n _ _ d]
  · simp [c]
theorem k_findBelow (hR : RD I 1 D) (hW : WF D) : Ct E l yX0_findBelow wsX0_findBelow rmX0_findBelow [.ref 1] (HE E I L p) none (HE E (wB I (D 0) (bl D)) L p) := by
  have hS := hW.S
  have hP := hW.P
  obtain ⟨r0, r3, -, -, r5, -⟩ := hR
  refine Ct.mk (by decide) rfl (Nat.le_of_ble_eq_true rfl) ?_
  rintro X rfl rfl hX - hRt
  refine RX0_findBelow_0 hX ?_
  -- the first loop
  have e0 : I = wB I 0 (br D 0) := by funext r k; simp [wB]
  have es : ∀ i, upI (wB I i (br D 0)) 11 i (nI (2 ^ i)) = wB I (i + 1) (br D 0) := by
    intro i
    funext r k
    unfold upI wB
    by_cases c : r = 11
    · subst c
      by_cases d : k = i
      · subst d; simp [br]
      · simp only [d, and_false, if_false, true_and]
        by_cases f : k < i
        · rw [if_pos f, if_pos (by omega)]
        · rw [if_neg f, if_neg (by omega)]
    · simp [c]
  have key : ∀ i, i ≤ D 0 → G X 0 0 2 [(0, .ref 1), (1, .int (nI (D 0)))] [] (HM X (wB I (D 0) (br D 0)) L p) → G X 0 0 2 [(0, .ref 1), (1, .int (nI i))] [] (HM X (wB I i (br D 0)) L p) :=
    loop_up (N := D 0) (Q := fun i => G X 0 0 2 [(0, .ref 1), (1, .int (nI i))] [] (HM X (wB I i (br D 0)) L p)) (fun i hi k => RX0_findBelow_2 hX _ ⟨fun q => absurd q (by rw [wB_r (by decide), r0]; exact nI_ge hi (by omega)), fun _ => ⟨i, rfl, by omega, by rw [jshl_1 (by omega), nI_1, es]; exact k⟩⟩)
  -- one sweep
  have sweep : ∀ n, G X 0 0 27 [(0, .ref 1), (1, .int (nI (n + 2)))] [] (HM X (wB I (D 0) (br D (n + 1))) L p) → G X 0 0 37 [(0, .ref 1), (1, .int (nI (n + 1))), (2, .int 0)] [] (HM X (wB I (D 0) (br D n)) L p) := by
    intro n k0
    refine loop_up (N := D 1) (Q := fun i => G X 0 0 37 [(0, .ref 1), (1, .int (nI (n + 1))), (2, .int (nI i))] [] (HM X (wB I (D 0) (bs D (br D n) i)) L p)) (fun i hi k => ?_) 0 (Nat.zero_le _) ?_
    · have hp := hW.pipe hi
      have hr := r5 i (by omega)
      have f1 : wB I (D 0) (bs D (br D n) i) 4 i = nI (fr D i) := by rw [wB_r (by decide)]; exact hr.1
      have f2 : wB I (D 0) (bs D (br D n) i) 5 i = nI (tt D i) := by rw [wB_r (by decide)]; exact hr.2.1
      refine RX0_findBelow_37 hX _ _ ⟨fun q => absurd q ?_, fun _ => ⟨i, rfl, by omega, fr D i, f1, by omega, i, rfl, by omega, tt D i, f2, by omega, fr D i, f1, by omega, ?_⟩⟩
      · rw [wB_r (by decide), r3]
        exact nI_ge hi (by omega)
      · rw [wB_s hp.1, wB_s hp.2.1, fa_or, wB_up hp.1, nI_1]
        exact k
    · refine RX0_findBelow_37 hX _ _ ⟨fun _ => ?_, fun q => absurd ?_ q⟩
      · rw [nI_1]
        exact k0
      · rw [wB_r (by decide), r3]
        exact nI_le (Nat.le_refl _) (by omega)
  have rounds : ∀ d n, n + d + 1 = D 0 ∨ (D 0 = 0 ∧ d = 0 ∧ n = 0) → G X 0 0 27 [(0, .ref 1), (1, .int (nI (n + 1)))] [] (HM X (wB I (D 0) (br D n)) L p) := by
    intro d
    induction d with
    | zero =>
      intro n hn
      refine RX0_findBelow_27 hX _ ⟨fun _ => ?_, fun q => absurd ?_ q⟩
      · have e : wB I (D 0) (br D n) = wB I (D 0) (bl D) := by
          funext r k
          unfold wB
          by_cases c : r = 11 ∧ k < D 0
          · rw [if_pos c, if_pos c]
            rcases hn with hn | hn
            · have : n = D 0 - 1 := by omega
              rw [this, br_done hW c.2]
            · omega
          · rw [if_neg c, if_neg c]
        rw [e]
        exact hRt
      · rw [wB_r (by decide), r0]
        exact nI_le (by omega) (by omega)
    | succ d ih =>
      intro n hn
      refine RX0_findBelow_27 hX _ ⟨fun q => absurd q ?_, fun _ => sweep n (ih (n + 1) (by omega))⟩
      rw [wB_r (by decide), r0]
      exact nI_ge (by omega) (by omega)
  have k2 := key 0 (Nat.zero_le _) (RX0_findBelow_2 hX _ ⟨fun _ => rounds (D 0 - 1) 0 (by omega), fun q => absurd (by rw [wB_r (by decide), r0]; exact nI_le (Nat.le_refl _) (by omega)) q⟩)
  rw [← e0] at k2
  exact k2
/-- the row 'route' of now holds n numbers of f -/
def wT (I : MI) (q : Nat × (Nat → Nat)) : MI := fun r k => if r = 12 ∧ k < q.1 then nI (q.2 k) else I r k
theorem wT_r {q : Nat × (Nat → Nat)} {r : Nat} (h : r ≠ 12) : wT I q r = I r := by funext k; simp [wT, h]
theorem wT_up {q : Nat × (Nat → Nat)} {v : Nat} : upI (wT I q) 12 q.1 (nI v) = wT I (q.1 + 1, va_up q.2 q.1 v) := by
  funext r j
  unfold upI wT
  by_cases c : r = 12
  · subst c
    by_cases d : j = q.1
    · subst d; simp [up_s]
    · simp only [d, and_false, if_false, true_and]
      rw [up_n _ _ d]
      by_cases f : j < q.1
      · rw [if_pos f, if_pos (by omega)]
      · rw [if_neg f, if_neg (by omega)]
  · simp [c]
theorem k_findRoute (hR : RD I 1 D) (hB : ∀ a, a < D 0 → I 11 a = nI (bl D a)) (hW : WF D) : Ct E l yX0_findRoute wsX0_findRoute rmX0_findRoute [.ref 1] (HE E I L p) none (HE E (wT I (rr D (D 0))) L p) := by
  have hS := hW.S
  have hP := hW.P
  obtain ⟨r0, r3, -, -, r5, -⟩ := hR
  refine Ct.mk (by decide) rfl (Nat.le_of_ble_eq_true rfl) ?_
  rintro X rfl rfl hX - hRt
  refine RX0_findRoute_0 hX ?_
  have e0 : I = wT I (rr D 0) := by funext r k; simp [wT, rr]
  -- one pass
  have pass : ∀ n, n < D 0 → RI D (D 0 - n) 0 (rr D n) → G X 0 0 7 [(0, .ref 1), (1, .int (nI (rr D (n + 1)).1)), (2, .int (nI (D 0 - (n + 1))))] [] (HM X (wT I (rr D (n + 1))) L p) → G X 0 0 13 [(0, .ref 1), (1, .int (nI (rr D n).1)), (2, .int (nI (D 0 - n))), (3, .int 0)] [] (HM X (wT I (rr D n)) L p) := by
    intro n hn hI k0
    refine loop_up (N := D 1) (Q := fun i => G X 0 0 13 [(0, .ref 1), (1, .int (nI (rp D (D 0 - n) (rr D n) i).1)), (2, .int (nI (D 0 - n))), (3, .int (nI i))] [] (HM X (wT I (rp D (D 0 - n) (rr D n) i)) L p)) (fun i hi k => ?_) 0 (Nat.zero_le _) ?_
    · have hp := hW.pipe hi
      have hIi := RI_pass hI i (by omega)
      have hb := bl_lt D (fr D i)
      have hsz := sz_le hW hp.1
      have f1 : wT I (rp D (D 0 - n) (rr D n) i) 4 i = nI (fr D i) := by rw [wT_r (by decide)]; exact (r5 i (by omega)).1
      have f2 : wT I (rp D (D 0 - n) (rr D n) i) 11 (fr D i) = nI (bl D (fr D i)) := by rw [wT_r (by decide)]; exact hB _ hp.1
      refine RX0_findRoute_13 hX _ _ _ ⟨fun q => absurd q ?_, fun _ => ⟨i, rfl, by omega, fr D i, f1, by omega, nI (sz D (fr D i)), ?_, fun q => ?_, fun q => ⟨fun q2 => absurd q2 ?_, fun _ => ⟨(rp D (D 0 - n) (rr D n) i).1, rfl, ?_, ?_⟩⟩⟩⟩
      · rw [wT_r (by decide), r3]
        exact nI_ge hi (by omega)
      · rw [f2]
        exact j_bitCount hb
      · have q' : ¬ sz D (fr D i) = D 0 - n := fun z => q (by rw [z])
        have e : rp D (D 0 - n) (rr D n) (i + 1) = rp D (D 0 - n) (rr D n) i := by rw [rp, if_neg q']
        rw [nI_1]
        rw [e] at k
        exact k
      · have q' := (nI_eq (by omega) (by omega)).mp q
        have := RI_room hi q' hIi
        exact nI_ge (b := 16) (by omega) (by decide)
      · have q' := (nI_eq (by omega) (by omega)).mp q
        have := RI_room hi q' hIi
        omega
      · have q' := (nI_eq (by omega) (by omega)).mp q
        have e : rp D (D 0 - n) (rr D n) (i + 1) = ((rp D (D 0 - n) (rr D n) i).1 + 1, va_up (rp D (D 0 - n) (rr D n) i).2 (rp D (D 0 - n) (rr D n) i).1 i) := by rw [rp, if_pos q']
        rw [nI_1, nI_1, wT_up]
        rw [e] at k
        exact k
    · refine RX0_findRoute_13 hX _ _ _ ⟨fun _ => ?_, fun q => absurd ?_ q⟩
      · have e : nI (D 0 - n) + (-1) = nI (D 0 - (n + 1)) := by
          rw [show D 0 - n = (D 0 - (n + 1)) + 1 by omega]
          exact pk_m1 _
        rw [e]
        exact k0
      · rw [wT_r (by decide), r3]
        exact nI_le (Nat.le_refl _) (by omega)
  have passes : ∀ d n, n + d = D 0 → G X 0 0 7 [(0, .ref 1), (1, .int (nI (rr D n).1)), (2, .int (nI (D 0 - n)))] [] (HM X (wT I (rr D n)) L p) := by
    intro d
    induction d with
    | zero =>
      intro n hn
      have e : n = D 0 := by omega
      subst e
      refine RX0_findRoute_7 hX _ _ ⟨fun _ => hRt, fun q => absurd ?_ q⟩
      rw [Nat.sub_self]
      decide
    | succ d ih =>
      intro n hn
      refine RX0_findRoute_7 hX _ _ ⟨fun q => absurd q (nI_nle (by omega) (by omega)), fun _ => pass n (by omega) ?_ (ih (n + 1) (by omega))⟩
      match n, hn with
      | 0, hn =>
        have hno : ∀ j, j < D 1 → ld D (D 0 - 0) 0 j = false := fun j hj => by
          cases hb : ld D (D 0 - 0) 0 j with
          | false => rfl
          | true =>
            have := sz_le hW (hW.pipe hj).1
            rcases (ld_iff _ _ _ _).mp hb with x | x <;> omega
        refine ⟨fun n hn => absurd hn (Nat.not_lt_zero n), fun m n _ hn => absurd hn (Nat.not_lt_zero n), fun j hj hl => ?_, ?_⟩
        · rw [hno j hj] at hl; cases hl
        · exact (fb_ct_zero.mpr hno).symm
      | n + 1, hn =>
        refine RI_cong (fun j hj => ld_cong ?_) (RI_all hW n (by omega))
        constructor
        · rintro (x | x)
          · exact Or.inl (by omega)
          · exact Or.inl (by omega)
        · rintro (x | x)
          · by_cases f : sz D (fr D j) = D 0 - n
            · exact Or.inr ⟨f, hj⟩
            · exact Or.inl (by omega)
          · omega
  have k2 := passes (D 0) 0 (by omega)
  rw [← e0] at k2
  rw [r0]
  exact k2
theorem RD.cong {J : MI} {r : Nat} (h : RD I r D) (he : ∀ q, r ≤ q → q ≤ r + 9 → J q = I q) : RD J r D := by
  unfold RD at h ⊢
  rw [he r (by omega) (by omega), he (r + 1) (by omega) (by omega), he (r + 2) (by omega) (by omega), he (r + 3) (by omega) (by omega), he (r + 4) (by omega) (by omega), he (r + 5) (by omega) (by omega), he (r + 6) (by omega) (by omega), he (r + 7) (by omega) (by omega), he (r + 8) (by omega) (by omega), he (r + 9) (by omega) (by omega)]
  exact h
theorem RY.cong {J : MI} {r : Nat} (h : RY I r D) (he : ∀ q, r + 10 ≤ q → q ≤ r + 11 → J q = I q) : RY J r D := by
  unfold RY at h ⊢
  rw [he (r + 10) (by omega) (by omega), he (r + 11) (by omega) (by omega)]
  exact h
/-- findWays: the rows follow from the pipes -/
theorem k_findWays (hR : RD I 1 D) (hW : WF D) : ∃ I', Ct E l yX0_findWays wsX0_findWays rmX0_findWays [.ref 1] (HE E I L p) none (HE E I' L p) ∧ RY I' 1 D ∧ ∀ r, r ≠ 11 → r ≠ 12 → I' r = I r := by
  have hR2 : RD (wB I (D 0) (bl D)) 1 D := hR.cong fun q h1 h2 => wB_r (by omega)
  refine ⟨wT (wB I (D 0) (bl D)) (rr D (D 0)), Ct.mk (by decide) rfl (Nat.le_of_ble_eq_true rfl) ?_, ⟨fun a ha => ?_, (rr D (D 0)).2, fun n hn => ?_, (rr_done hW).2⟩, fun r h1 h2 => by rw [wT_r h2, wB_r h1]⟩
  · rintro X rfl rfl hX - hRt
    exact RX0_findWays_0 hX ⟨_, k_findBelow hR hW, _, k_findRoute hR2 (fun a ha => wB_s ha) hW, hRt⟩
  · rw [wT_r (by decide)]
    exact wB_s ha
  · have := (rr_done hW).1
    show wT _ _ 12 n = _
    unfold wT
    rw [if_pos ⟨rfl, by omega⟩]
end
