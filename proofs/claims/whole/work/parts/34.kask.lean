/-! What is asked: the class's side. -/
def KPL (E : ET) (l : Launch) (y : MethodName) (ws : List Cond) (rm : Room) (as : List Value) (W : Dr → Nat → Nat) (I : MI) (L : ML) (p : Nat → Nat) (q : Int64 × Sg) : Prop :=
  ∃ I' L' p', Ct E l y ws rm as (HE E I L p) (some (.long q.1)) (HE E I' L' p') ∧ VC W I' p' q.2 ∧ (∀ r, 96 ≤ r → I' r = I r) ∧ ∀ r, 96 ≤ r → L' r = L r
theorem xor_and0 (x y z : Nat) : (x ^^^ y) &&& z = 0 ↔ x &&& z = y &&& z := by
  constructor
  · intro h
    apply Nat.eq_of_testBit_eq
    intro k
    have := congrArg (fun v => v.testBit k) h
    simp only [Nat.testBit_and, Nat.testBit_xor, Nat.zero_testBit] at this
    rw [Nat.testBit_and, Nat.testBit_and]
    cases h1 : x.testBit k <;> cases h2 : y.testBit k <;> cases h3 : z.testBit k <;> simp [h1, h2, h3] at this ⊢
  · intro h
    apply Nat.eq_of_testBit_eq
    intro k
    have := congrArg (fun v => v.testBit k) h
    simp only [Nat.testBit_and] at this
    rw [Nat.testBit_and, Nat.testBit_xor, Nat.zero_testBit]
    cases h1 : x.testBit k <;> cases h2 : y.testBit k <;> cases h3 : z.testBit k <;> simp [h1, h2, h3] at this ⊢
theorem nf_inv {D : Dr} (hW : WF D) : ∀ n, (nf D n).1 = -1 ∧ n = 0 ∨ ∃ w, w < n ∧ (nf D n).1 = nI w
  | 0 => Or.inl ⟨rfl, rfl⟩
  | n + 1 => by
    right
    rw [nf]
    by_cases c : (nf D n).2 ≤ mr D n
    · rw [if_pos c]
      rcases nf_inv hW n with ⟨-, h⟩ | ⟨w, h1, h2⟩
      · subst h
        have := mr_le hW 0
        have e : (nf D 0).2 = 11 := rfl
        omega
      · exact ⟨w, by omega, h2⟩
    · rw [if_neg c]
      exact ⟨n, by omega, rfl⟩
theorem sf_inv (D : Dr) : ∀ n, (sf D n).1 = -1 ∧ (sf D n).2 = 11 ∨ ∃ z, z < n ∧ (sf D n).1 = nI z ∧ (sf D n).2 = on z
  | 0 => Or.inl ⟨rfl, rfl⟩
  | n + 1 => by
    rw [sf]
    split
    · exact Or.inr ⟨n, by omega, rfl, rfl⟩
    · rcases sf_inv D n with h | ⟨z, h1, h2⟩
      · exact Or.inl h
      · exact Or.inr ⟨z, by omega, h2⟩
theorem nI_nm1 {n : Nat} (h : n < 2 ^ 31) : ¬ nI n = (-1 : Int32) := fun q => nI_pos h (by rw [q]; decide)
theorem on_S {D : Dr} (hW : WF D) {z : Nat} (hz : z < 2 ^ D 0) : on z ≤ D 0 := by
  have hS := hW.S
  unfold on
  have e := fb_ct_split z.testBit (D 0) (10 - D 0)
  rw [show D 0 + (10 - D 0) = 10 by omega] at e
  have e2 : fb_ct (fun k => z.testBit (D 0 + k)) (10 - D 0) = 0 := fb_ct_zero.mpr fun k _ => Nat.testBit_lt_two_pow (Nat.lt_of_lt_of_le hz (Nat.pow_le_pow_right (by decide) (by omega)))
  have := fb_ct_le z.testBit (D 0)
  omega
section
variable {E : ET} {l : Launch} {I : MI} {L : ML} {p : Nat → Nat} {D : Dr} {s : Sg}
theorem VC_kn {J : MI} (h : VC whn I p s) (hc : gc s ≤ 5) (he : ∀ q, q ≠ 87 → q ≠ 89 → J q = I q) (hk : KN J (gD s)) : VC whn J p s := by
  obtain ⟨⟨h1, h2, h3, h4, h5, -⟩, hx⟩ := h
  refine ⟨⟨h1.cong fun q a b => he q (by omega) (by omega), h2.cong fun q a b => he q (by omega) (by omega), by rw [he 13 (by decide) (by decide)]; exact h3, h4, fun j hj => ?_, hk⟩, hx.cong (he 0 (by decide) (by decide)) (he 95 (by decide) (by decide))⟩
  have := dr_hi _ (h4.1 j (by omega)).2
  exact ⟨(h5 j hj).1.cong fun q a b => he q (by omega) (by omega), (h5 j hj).2.cong fun q a b => he q (by omega) (by omega)⟩
theorem VC_hi {W : Dr → Nat → Nat} {J : MI} (h : VC W I p s) (hc : gc s ≤ 5) (he : ∀ q, q < 90 ∨ q = 95 → J q = I q) : VC W J p s :=
  ⟨h.1.cong hc fun q _ _ => he q (by omega), h.2.cong (he 0 (by omega)) (he 95 (by omega))⟩
theorem VC.kn (h : VC whn I p s) : KN I (gD s) := h.1.2.2.2.2.2
theorem k_bad (hV : VC whn I p s) (hc : gc s ≤ 5) : VC whn (upI I 0 7 (I 0 7 + 1)) p (rf s 0) := VC_rf hV hc (j := 0) (by decide)
theorem k_refB : Ct E l yX5_refused wsX5_refused rmX5_refused [.ref 0, .int (-2)] (HE E I L p) (some (.int (-2))) (HE E (upI I 0 7 (I 0 7 + 1)) L p) := k_refused (j := 0) (-2) (Or.inl ⟨rfl, rfl⟩)
theorem k_pipesAt {r a n : Nat} {F : Nat → Nat} (hr : r < 106) (hs : shp r = (7, 16)) (h3 : I 1 3 = nI n) (hn : n ≤ 16) (ha : a < 2 ^ 31) (hF : ∀ i, i < n → I r i = nI (F i) ∧ F i < 2 ^ 31) : Ct E l yX0_pipesAt wsX0_pipesAt rmX0_pipesAt [.ref 1, .ref r, .int (nI a)] (HE E I L p) (some (.int (nI (fb_ct (fun i => decide (F i = a)) n)))) (HE E I L p) := by
  refine Ct.mk (by decide) rfl (Nat.le_of_ble_eq_true rfl) ?_
  rintro X rfl rfl hX - hRt
  refine RX0_pipesAt_0 hr hs hX _ ?_
  refine loop_up (N := n) (Q := fun i => G X 0 0 5 [(0, .ref 1), (1, .ref r), (2, .int (nI a)), (3, .int (nI (fb_ct (fun i => decide (F i = a)) i))), (4, .int (nI i))] [] (HM X I L p)) (fun i hi k => ?_) 0 (Nat.zero_le _) ?_
  · refine RX0_pipesAt_5 hr hs hX _ _ _ ⟨fun q => absurd q (by rw [h3]; exact nI_ge hi (by omega)), fun _ => ⟨i, rfl, by omega, ?_⟩⟩
    obtain ⟨f1, f2⟩ := hF i hi
    have e : (if I r i = nI a then nI (fb_ct (fun i => decide (F i = a)) i) + 1 else nI (fb_ct (fun i => decide (F i = a)) i)) = nI (fb_ct (fun i => decide (F i = a)) (i + 1)) := by
      rw [fb_ct_succ, f1]
      by_cases c : F i = a
      · rw [if_pos (by rw [c]), if_pos (decide_eq_true c), nI_1]
      · rw [if_neg (fun q => c ((nI_eq f2 ha).mp q)), if_neg (fun q => c (of_decide_eq_true q))]; rfl
    rw [e, nI_1]
    exact k
  · exact RX0_pipesAt_5 hr hs hX _ _ _ ⟨fun _ => hRt, fun q => absurd (by rw [h3]; exact nI_le (Nat.le_refl _) (by omega)) q⟩
theorem k_above (hR : RD I 1 D) (hY : RY I 1 D) (hW : WF D) {w : Nat} (hw : w < 10) : Ct E l yX0_above wsX0_above rmX0_above [.ref 1, .int (nI w)] (HE E I L p) (some (.int (nI (ab D w)))) (HE E I L p) := by
  have hS := hW.S
  have r0 := hR.1
  refine Ct.mk (by decide) rfl (Nat.le_of_ble_eq_true rfl) ?_
  rintro X rfl rfl hX - hRt
  refine RX0_above_0 hX _ ?_
  refine loop_up (N := D 0) (Q := fun i => G X 0 0 4 [(0, .ref 1), (1, .int (nI w)), (2, .int (nI (mk (fun a => bdec (Rc D a w)) i))), (3, .int (nI i))] [] (HM X I L p)) (fun i hi k => ?_) 0 (Nat.zero_le _) ?_
  · refine RX0_above_4 hX _ _ _ ⟨fun q => absurd q (by rw [r0]; exact nI_ge hi (by omega)), fun _ => ⟨_, k_isBelow hW hY.1 hw hi, ?_⟩⟩
    have e : (if b2i (Rc D i w) = 0 then nI (mk (fun a => bdec (Rc D a w)) i) else nI (mk (fun a => bdec (Rc D a w)) i) ||| jshl 1 (nI i)) = nI (mk (fun a => bdec (Rc D a w)) (i + 1)) := by
      rw [← mk_next (f := fun a => bdec (Rc D a w)) (by omega), jshl_1 (by omega)]
      by_cases c : Rc D i w
      · rw [if_neg (b2i_n0.mpr c), bif_pos c]
      · rw [if_pos (b2i_0.mpr c), bif_neg c]; simp
    rw [e, nI_1]
    exact k
  · exact RX0_above_4 hX _ _ _ ⟨fun _ => hRt, fun q => absurd (by rw [r0]; exact nI_le (Nat.le_refl _) (by omega)) q⟩
theorem k_of (hV : VC whn I p s) (hW : GW s) (x1 x2 : Int32) : KP E l yX5_of wsX5_of rmX5_of [.ref 0, .int x1, .int x2] whn I L p (aOf x1 x2 s) := by
  have hS := hW.1.S
  have hP := hW.1.P
  have hR := hV.1.1
  have hY := hV.1.2.1
  unfold aOf
  by_cases h : ok x1 (gD s 0) ∧ btw x2 0 5
  · rw [qu_pos h]
    obtain ⟨a, ha, rfl⟩ := h.1
    obtain ⟨w, rfl, -, hw⟩ := h.2
    rw [nI_clamp (by omega), nI_clamp (by omega)]
    refine ⟨I, L, p, Ct.mk (by decide) rfl (Nat.le_of_ble_eq_true rfl) ?_, hV, fun _ _ => rfl, fun _ _ => rfl⟩
    rintro X rfl rfl hX - hRt
    have wq : ∀ j, j < 6 → (nI w = nI j ↔ w = j) := fun j hj => nI_eq (by omega) (by omega)
    have w0 : nI w = 0 ↔ w = 0 := wq 0 (by decide)
    have w1 : nI w = 1 ↔ w = 1 := wq 1 (by decide)
    have w2 : nI w = 2 ↔ w = 2 := wq 2 (by decide)
    have w3 : nI w = 3 ↔ w = 3 := wq 3 (by decide)
    have w4 : nI w = 4 ↔ w = 4 := wq 4 (by decide)
    have w5 : nI w = 5 ↔ w = 5 := wq 5 (by decide)
    refine RX5_of_0 hX _ _ ⟨_, k_hasShaft hR.1 hS _, fun _ => ⟨fun q => ⟨a, rfl, by omega, ?_⟩, fun q => ⟨a, rfl, by omega, ?_⟩, fun q => ⟨_, k_pipesAt (F := fr (gD s)) (by decide) (by decide) hR.2.1 hP (by omega) (fun i hi => ⟨(hR.2.2.2.2.1 i (by omega)).1, by have := (hW.1.pipe hi).1; omega⟩), ?_⟩, fun q => ⟨_, k_pipesAt (F := tt (gD s)) (by decide) (by decide) hR.2.1 hP (by omega) (fun i hi => ⟨(hR.2.2.2.2.1 i (by omega)).2.1, by have := (hW.1.pipe hi).2.1; omega⟩), ?_⟩, fun q => ⟨a, rfl, by omega, ?_⟩, fun q => ⟨_, k_above hR hY hW.1 (by omega), ?_⟩, fun q => ?_⟩, fun q => absurd h.1 (b2i_0.mp q)⟩
    · rw [w0] at q; rw [q] at hRt; exact hRt.toI (hR.2.2.2.1 a (by omega)).1.symm
    · rw [w1] at q; rw [q] at hRt; exact hRt.toI (hR.2.2.2.1 a (by omega)).2.symm
    · rw [w2] at q; rw [q] at hRt; exact hRt
    · rw [w3] at q; rw [q] at hRt; exact hRt
    · rw [w4] at q; rw [q] at hRt; exact hRt.toI (hY.1 a ha).symm
    · rw [w5] at q; rw [q] at hRt; exact hRt
    · rw [w0, w1, w2, w3, w4, w5] at q; omega
  · rw [qu_neg h]
    refine ⟨_, L, p, Ct.mk (by decide) rfl (Nat.le_of_ble_eq_true rfl) ?_, k_bad hV hW.2.1, fun r hr => upI_R (by omega), fun _ _ => rfl⟩
    rintro X rfl rfl hX - hRt
    have no : ok x1 (gD s 0) → ∀ j, j ≤ 5 → ¬ x2 = nI j := fun h1 j hj e => h ⟨h1, j, e, Nat.zero_le _, hj⟩
    exact RX5_of_0 hX _ _ ⟨_, k_hasShaft hR.1 hS _, fun z => ⟨fun q => absurd q (no (b2i_n0.mp z) 0 (by decide)), fun q => absurd q (no (b2i_n0.mp z) 1 (by decide)), fun q => absurd q (no (b2i_n0.mp z) 2 (by decide)), fun q => absurd q (no (b2i_n0.mp z) 3 (by decide)), fun q => absurd q (no (b2i_n0.mp z) 4 (by decide)), fun q => absurd q (no (b2i_n0.mp z) 5 (by decide)), fun _ => ⟨_, _, k_refB, hRt⟩⟩, fun _ => ⟨_, _, k_refB, hRt⟩⟩
theorem k_about (hV : VC whn I p s) (hW : GW s) (x1 x2 : Int32) : KP E l yX5_about wsX5_about rmX5_about [.ref 0, .int x1, .int x2] whn I L p (aAbout x1 x2 s) := by
  have hP := hW.1.P
  have hR := hV.1.1
  unfold aAbout
  by_cases h : ok x1 (gD s 1) ∧ btw x2 0 3
  · rw [qu_pos h]
    obtain ⟨a, ha, rfl⟩ := h.1
    obtain ⟨w, rfl, -, hw⟩ := h.2
    rw [nI_clamp (by omega), nI_clamp (by omega)]
    refine ⟨I, L, p, Ct.mk (by decide) rfl (Nat.le_of_ble_eq_true rfl) ?_, hV, fun _ _ => rfl, fun _ _ => rfl⟩
    rintro X rfl rfl hX - hRt
    obtain ⟨i1, i2, i3, i4⟩ := hR.2.2.2.2.1 a (by omega)
    have wq : ∀ j, j < 6 → (nI w = nI j ↔ w = j) := fun j hj => nI_eq (by omega) (by omega)
    have w0 : nI w = 0 ↔ w = 0 := wq 0 (by decide)
    have w1 : nI w = 1 ↔ w = 1 := wq 1 (by decide)
    have w2 : nI w = 2 ↔ w = 2 := wq 2 (by decide)
    have w3 : nI w = 3 ↔ w = 3 := wq 3 (by decide)
    refine RX5_about_0 hX _ _ ⟨_, k_hasPipe hR.2.1 hP _, fun _ => ⟨fun q => ⟨a, rfl, by omega, ?_⟩, fun q => ⟨a, rfl, by omega, ?_⟩, fun q => ⟨a, rfl, by omega, ?_⟩, fun q => ⟨a, rfl, by omega, ?_⟩, fun q => ?_⟩, fun q => absurd h.1 (b2i_0.mp q)⟩
    · rw [w0] at q; rw [q] at hRt; exact hRt.toI i1.symm
    · rw [w1] at q; rw [q, show 23 + 4 * a + 1 = 24 + 4 * a by omega] at hRt; exact hRt.toI i2.symm
    · rw [w2] at q; rw [q, show 23 + 4 * a + 2 = 25 + 4 * a by omega] at hRt; exact hRt.toI i3.symm
    · rw [w3] at q; rw [q, show 23 + 4 * a + 3 = 26 + 4 * a by omega] at hRt; exact hRt.toI i4.symm
    · rw [w0, w1, w2, w3] at q; omega
  · rw [qu_neg h]
    refine ⟨_, L, p, Ct.mk (by decide) rfl (Nat.le_of_ble_eq_true rfl) ?_, k_bad hV hW.2.1, fun r hr => upI_R (by omega), fun _ _ => rfl⟩
    rintro X rfl rfl hX - hRt
    have no : ok x1 (gD s 1) → ∀ j, j ≤ 3 → ¬ x2 = nI j := fun h1 j hj e => h ⟨h1, j, e, Nat.zero_le _, hj⟩
    exact RX5_about_0 hX _ _ ⟨_, k_hasPipe hR.2.1 hP _, fun z => ⟨fun q => absurd q (no (b2i_n0.mp z) 0 (by decide)), fun q => absurd q (no (b2i_n0.mp z) 1 (by decide)), fun q => absurd q (no (b2i_n0.mp z) 2 (by decide)), fun q => absurd q (no (b2i_n0.mp z) 3 (by decide)), fun _ => ⟨_, _, k_refB, hRt⟩⟩, fun _ => ⟨_, _, k_refB, hRt⟩⟩
theorem k_isStart (hR : I 1 0 = nI (D 0)) (hS : D 0 ≤ 10) (x1 x2 : Int32) : Ct E l yX5_isStart wsX5_isStart rmX5_isStart [.ref 0, .int x1, .int x2] (HE E I L p) (some (.int (b2i (ok x1 (D 0) ∧ btw x2 0 30)))) (HE E I L p) := by
  refine Ct.mk (by decide) rfl (Nat.le_of_ble_eq_true rfl) ?_
  rintro X rfl rfl hX - hRt
  refine RX5_isStart_0 hX _ _ ⟨_, k_hasShaft hR hS x1, fun q => ?_, fun q => ⟨_, k_btw x2 (a := 0) (b := 30) (by decide) (by decide), ?_⟩⟩
  · rw [b2i_neg (fun h => b2i_0.mp q h.1)] at hRt
    exact hRt
  · by_cases c : btw x2 0 30
    · rw [b2i_pos ⟨b2i_n0.mp q, c⟩] at hRt
      rw [b2i_pos c]
      exact hRt
    · rw [b2i_neg (fun h => c h.2)] at hRt
      rw [b2i_neg c]
      exact hRt
theorem k_comes (hV : VC whn I p s) (hW : GW s) (x1 x2 x3 : Int32) : KPL E l yX5_comes wsX5_comes rmX5_comes [.ref 0, .int x1, .int x2, .int x3] whn I L p (aComes x1 x2 x3 s) := by
  have hS := hW.1.S
  have hR := hV.1.1
  have hY := hV.1.2.1
  unfold aComes
  by_cases h : (ok x1 (gD s 0) ∧ btw x2 0 30) ∧ ok x3 (gD s 0)
  · rw [quL_pos h]
    obtain ⟨a, ha, rfl⟩ := h.1.1
    obtain ⟨m, rfl, -, hm⟩ := h.1.2
    obtain ⟨b, hb, rfl⟩ := h.2
    rw [nI_clamp (by omega), nI_clamp (by omega), nI_clamp (by omega)]
    refine ⟨I, _, p, Ct.mk (by decide) rfl (Nat.le_of_ble_eq_true rfl) ?_, hV, fun _ _ => rfl, fun r hr => wy_r (r := 88) (n := 10) (Y := cm (gD s) a m) (by omega)⟩
    rintro X rfl rfl hX - hRt
    refine RX5_comes_0 hX _ _ _ ⟨_, k_isStart hR.1 hS _ _, fun q => absurd h.1 (b2i_0.mp q), fun _ => ⟨_, k_hasShaft hR.1 hS _, fun _ => ⟨_, k_walk hR hY hW.1 ha (by omega), b, rfl, by omega, ?_⟩, fun q => absurd h.2 (b2i_0.mp q)⟩⟩
    rw [wy_s (by omega)]
    exact hRt
  · rw [quL_neg h]
    refine ⟨_, L, p, Ct.mk (by decide) rfl (Nat.le_of_ble_eq_true rfl) ?_, k_bad hV hW.2.1, fun r hr => upI_R (by omega), fun _ _ => rfl⟩
    rintro X rfl rfl hX - hRt
    exact RX5_comes_0 hX _ _ _ ⟨_, k_isStart hR.1 hS _ _, fun _ => ⟨_, _, k_refB, hRt⟩, fun q1 => ⟨_, k_hasShaft hR.1 hS _, fun q2 => absurd ⟨b2i_n0.mp q1, b2i_n0.mp q2⟩ h, fun _ => ⟨_, _, k_refB, hRt⟩⟩⟩
theorem k_fits (hV : VC whn I p s) (hW : GW s) (x1 x2 : Int32) : KP E l yX5_fits wsX5_fits rmX5_fits [.ref 0, .int x1, .int x2] whn I L p (aFits x1 x2 s) := by
  have hS := hW.1.S
  have hR := hV.1.1
  have hY := hV.1.2.1
  unfold aFits
  by_cases h : ok x1 (gD s 0) ∧ btw x2 0 30
  · rw [qu_pos h]
    obtain ⟨a, ha, rfl⟩ := h.1
    obtain ⟨m, rfl, -, hm⟩ := h.2
    rw [nI_clamp (by omega), nI_clamp (by omega)]
    refine ⟨I, _, p, Ct.mk (by decide) rfl (Nat.le_of_ble_eq_true rfl) ?_, hV, fun _ _ => rfl, fun r hr => wy_r (r := 88) (n := 10) (Y := cm (gD s) a m) (by omega)⟩
    rintro X rfl rfl hX - hRt
    refine RX5_fits_0 hX _ _ ⟨_, k_isStart hR.1 hS _ _, fun _ => ⟨_, k_walk hR hY hW.1 ha (by omega), _, k_agrees hR hW.1, hRt.toI ?_⟩, fun q => absurd h (b2i_0.mp q)⟩
    rcases b2i_01 (P := ft (gD s) a m) with z | z
    · rw [z]; rfl
    · rw [z]; rfl
  · rw [qu_neg h]
    refine ⟨_, L, p, Ct.mk (by decide) rfl (Nat.le_of_ble_eq_true rfl) ?_, k_bad hV hW.2.1, fun r hr => upI_R (by omega), fun _ _ => rfl⟩
    rintro X rfl rfl hX - hRt
    exact RX5_fits_0 hX _ _ ⟨_, k_isStart hR.1 hS _ _, fun q => absurd (b2i_n0.mp q) h, fun _ => ⟨_, _, k_refB, hRt⟩⟩
theorem k_when (hV : VC whn I p s) (hW : GW s) (x1 : Int32) : KP E l yX5_when wsX5_when rmX5_when [.ref 0, .int x1] whn I L p (aWhen x1 s) := by
  have hS := hW.1.S
  have hR := hV.1.1
  have hY := hV.1.2.1
  unfold aWhen
  by_cases h : ok x1 (gD s 0)
  · rw [qu_pos h]
    obtain ⟨a, ha, rfl⟩ := id h
    rw [nI_clamp (by omega)]
    refine ⟨sI (gD s) a I, sL (gD s) a I L, p, Ct.mk (by decide) rfl (Nat.le_of_ble_eq_true rfl) ?_, VC_kn hV hW.2.1 (fun q h1 h2 => sI_r h1 h2) (KN_sI hV.kn (by omega)), fun r hr => sI_r (by omega) (by omega), fun r hr => sL_r (by omega)⟩
    rintro X rfl rfl hX - hRt
    exact RX5_when_0 hX _ ⟨_, k_hasShaft hR.1 hS _, fun _ => ⟨_, _, _, k_startsAt hR hY hW.1 hV.kn ha, hRt⟩, fun q => absurd h (b2i_0.mp q)⟩
  · rw [qu_neg h]
    refine ⟨_, L, p, Ct.mk (by decide) rfl (Nat.le_of_ble_eq_true rfl) ?_, k_bad hV hW.2.1, fun r hr => upI_R (by omega), fun _ _ => rfl⟩
    rintro X rfl rfl hX - hRt
    exact RX5_when_0 hX _ ⟨_, k_hasShaft hR.1 hS _, fun q => absurd (b2i_n0.mp q) h, fun _ => ⟨_, _, k_refB, hRt⟩⟩
theorem VC_sus (hV : VC whn I p s) (hW : GW s) : VC whn (sIn (gD s) I (gD s 0)) p s := VC_kn hV hW.2.1 (fun q h1 h2 => sIn_r h1 h2 _) (KN_n hV.kn _ hW.1.S)
theorem k_suspects (hV : VC whn I p s) (hW : GW s) : KP E l yX5_suspects wsX5_suspects rmX5_suspects [.ref 0] whn I L p (aSuspects s) := by
  refine ⟨sIn (gD s) I (gD s 0), sLn (gD s) I L (gD s 0), p, Ct.mk (by decide) rfl (Nat.le_of_ble_eq_true rfl) ?_, VC_sus hV hW, fun r hr => sIn_r (by omega) (by omega) _, fun r hr => sLn_r (by omega) _⟩
  rintro X rfl rfl hX - hRt
  exact RX5_suspects_0 hX ⟨_, _, _, k_suspicious hV.1.1 hV.1.2.1 hW.1 hV.kn, hRt⟩
theorem pt_ab (hW : WF D) (w : Nat) : fb_ct (sus D &&& ab D w).testBit 10 = pt D w (D 0) := by
  have hS := hW.S
  have e := fb_ct_split (sus D &&& ab D w).testBit (D 0) (10 - D 0)
  rw [show D 0 + (10 - D 0) = 10 by omega] at e
  have e2 : fb_ct (fun k => (sus D &&& ab D w).testBit (D 0 + k)) (10 - D 0) = 0 := fb_ct_zero.mpr fun k _ => by
    have hz : (sus D).testBit (D 0 + k) = false := Nat.testBit_lt_two_pow (Nat.lt_of_lt_of_le (show sus D < 2 ^ D 0 from mk_lt _ _) (Nat.pow_le_pow_right (by decide) (by omega)))
    rw [Nat.testBit_and, hz]; rfl
  rw [e, e2, Nat.add_zero]
  refine fb_ct_cong fun k hk => ?_
  rw [Nat.testBit_and]
  congr 1
  rw [ab, mk_bit, decide_eq_true hk]; rfl
theorem k_largerPart (hW : WF D) (w : Nat) : Ct E l yX5_largerPart wsX5_largerPart rmX5_largerPart [.int (nI (sus D)), .int (nI (ab D w))] (HE E I L p) (some (.int (nI (mr D w)))) (HE E I L p) := by
  have h1 := sus_lt hW
  have h2 := pt_le hW w
  have h3 := so_le D
  refine Ct.mk (by decide) rfl (Nat.le_of_ble_eq_true rfl) ?_
  rintro X rfl rfl hX - hRt
  refine RX5_largerPart_0 hX _ _ ⟨_, by rw [fa_and]; exact j_bitCount (Nat.lt_of_le_of_lt Nat.and_le_left h1), _, j_bitCount h1, hRt.toI ?_⟩
  rw [pt_ab hW w, show fb_ct (sus D).testBit 10 = so D from rfl]
  have es : nI (so D) - nI (pt D w (D 0)) = nI (so D - pt D w (D 0)) := by
    have e : so D = (so D - pt D w (D 0)) + pt D w (D 0) := by omega
    rw [e, ← nI_add]
    simp
  rw [es]
  unfold mr
  by_cases c : pt D w (D 0) < so D - pt D w (D 0)
  · rw [if_pos ((nlt (by omega) (by omega)).mpr c), if_pos (by omega)]
  · rw [if_neg (fun z => c ((nlt (by omega) (by omega)).mp z))]
    by_cases d : pt D w (D 0) ≤ so D - pt D w (D 0)
    · rw [if_pos d]; congr 1; omega
    · rw [if_neg d]
noncomputable def cx (D : Dr) (n : Nat) : Int32 := if (nf D n).1 = -1 then (nf D n).1 else nI (nf D n).2
theorem k_next (hV : VC whn I p s) (hW : GW s) (x1 : Int32) : KP E l yX5_next wsX5_next rmX5_next [.ref 0, .int x1] whn I L p (aNext x1 s) := by
  have hS := hW.1.S
  unfold aNext
  by_cases h : btw x1 0 1
  · rw [qu_pos h]
    obtain ⟨w, rfl, -, hw⟩ := id h
    rw [nI_clamp (by omega)]
    have hV2 := VC_sus hV hW
    refine ⟨sIn (gD s) I (gD s 0), sLn (gD s) I L (gD s 0), p, Ct.mk (by decide) rfl (Nat.le_of_ble_eq_true rfl) ?_, hV2, fun r hr => sIn_r (by omega) (by omega) _, fun r hr => sLn_r (by omega) _⟩
    rintro X rfl rfl hX - hRt
    refine RX5_next_0 hX _ ⟨_, k_btw _ (a := 0) (b := 1) (by decide) (by decide), fun _ => ⟨_, _, _, k_suspicious hV.1.1 hV.1.2.1 hW.1 hV.kn, ?_⟩, fun q => absurd h (b2i_0.mp q)⟩
    generalize sIn (gD s) I (gD s 0) = J at hV2 hRt ⊢
    generalize sLn (gD s) I L (gD s 0) = M at hRt ⊢
    have r0 := hV2.1.1.1
    refine loop_up (N := gD s 0) (Q := fun i => G X 0 0 36 [(0, .ref 0), (1, .int (nI w)), (2, .int (nI (sus (gD s)))), (3, .int (nf (gD s) i).1), (4, .int (cx (gD s) i)), (5, .int (nI i))] [] (HM X J M p)) (fun i hi k => ?_) 0 (Nat.zero_le _) ?_
    · refine RX5_next_36 hX _ _ _ _ _ ⟨fun q => absurd q (by rw [r0]; exact nI_ge hi (by omega)), fun _ => ⟨_, k_above hV2.1.1 hV2.1.2.1 hW.1 (by omega), _, k_largerPart hW.1 i, fun q => ?_, fun q => ?_⟩⟩
      · have hm := mr_le hW.1 i
        have e0 : i = 0 := by
          rcases nf_inv hW.1 i with z | ⟨v, z1, z2⟩
          · exact z.2
          · rw [z2] at q; exact absurd q (nI_nm1 (by omega))
        have e1 : nf (gD s) (i + 1) = (nI i, mr (gD s) i) := by
          rw [nf, e0]
          exact if_neg (by rw [e0] at hm; show ¬ 11 ≤ mr (gD s) 0; omega)
        have e2 : cx (gD s) (i + 1) = nI (mr (gD s) i) := by
          unfold cx
          rw [e1]
          exact if_neg (nI_nm1 (by omega))
        rw [e2, e1] at k
        rw [nI_1]
        exact k
      · have hn := nf_le hW.1 i
        have hm := mr_le hW.1 i
        have e4 : cx (gD s) i = nI (nf (gD s) i).2 := if_neg q
        rw [e4, nI_1]
        have e1 : nf (gD s) (i + 1) = if (nf (gD s) i).2 ≤ mr (gD s) i then nf (gD s) i else (nI i, mr (gD s) i) := rfl
        by_cases c : (nf (gD s) i).2 ≤ mr (gD s) i
        · rw [if_pos c] at e1
          have e2 : cx (gD s) (i + 1) = nI (nf (gD s) i).2 := by
            unfold cx
            rw [e1]
            exact if_neg q
          rw [e2, e1] at k
          rw [if_pos ((nle (by omega) (by omega)).mpr c), if_pos ((nle (by omega) (by omega)).mpr c)]
          exact k
        · rw [if_neg c] at e1
          have e2 : cx (gD s) (i + 1) = nI (mr (gD s) i) := by
            unfold cx
            rw [e1]
            exact if_neg (nI_nm1 (by omega))
          rw [e2, e1] at k
          rw [if_neg (fun z => c ((nle (by omega) (by omega)).mp z)), if_neg (fun z => c ((nle (by omega) (by omega)).mp z))]
          exact k
    · refine RX5_next_36 hX _ _ _ _ _ ⟨fun _ => hRt.toI ?_, fun q => absurd (by rw [r0]; exact nI_le (Nat.le_refl _) (by omega)) q⟩
      unfold nxv
      by_cases c : w = 0
      · rw [if_pos c, c]; rfl
      · rw [if_neg c, if_neg (nI_ne0 (by omega) (by omega))]; rfl
  · rw [qu_neg h]
    refine ⟨_, L, p, Ct.mk (by decide) rfl (Nat.le_of_ble_eq_true rfl) ?_, k_bad hV hW.2.1, fun r hr => upI_R (by omega), fun _ _ => rfl⟩
    rintro X rfl rfl hX - hRt
    exact RX5_next_0 hX _ ⟨_, k_btw _ (a := 0) (b := 1) (by decide) (by decide), fun q => absurd (b2i_n0.mp q) h, fun _ => ⟨_, _, k_refB, hRt⟩⟩
theorem k_told (hV : VC whn I p s) (hW : GW s) (x1 : Int32) : KP E l yX5_told wsX5_told rmX5_told [.ref 0, .int x1] whn I L p (aTold x1 s) := by
  obtain ⟨⟨h1, h2, h3, h4, h5, h6⟩, v1, v2, v3, v4, v5⟩ := id hV
  unfold aTold
  by_cases h : btw x1 0 7
  · rw [qu_pos h]
    obtain ⟨w, rfl, -, hw⟩ := id h
    rw [nI_clamp (by omega)]
    refine ⟨I, L, p, Ct.mk (by decide) rfl (Nat.le_of_ble_eq_true rfl) ?_, hV, fun _ _ => rfl, fun _ _ => rfl⟩
    rintro X rfl rfl hX - hRt
    have wq : ∀ j, j < 8 → (nI w = nI j ↔ w = j) := fun j hj => nI_eq (by omega) (by omega)
    have w0 : nI w = 0 ↔ w = 0 := wq 0 (by decide)
    have w1 : nI w = 1 ↔ w = 1 := wq 1 (by decide)
    have w2 : nI w = 2 ↔ w = 2 := wq 2 (by decide)
    have w3 : nI w = 3 ↔ w = 3 := wq 3 (by decide)
    have w4 : nI w = 4 ↔ w = 4 := wq 4 (by decide)
    have w5 : nI w = 5 ↔ w = 5 := wq 5 (by decide)
    have w6 : nI w = 6 ↔ w = 6 := wq 6 (by decide)
    have w7 : nI w = 7 ↔ w = 7 := wq 7 (by decide)
    refine RX5_told_0 hX _ ⟨fun q => ?_, fun q => ?_, fun q => ?_, fun q => ?_, fun q => ?_, fun q => ?_, fun q => ?_, fun q => ?_, fun q => ?_⟩
    · rw [w0] at q; rw [q] at hRt; exact hRt.toI v3.symm
    · rw [w1] at q; rw [q] at hRt; exact hRt.toI v4.symm
    · rw [w2] at q; rw [q] at hRt; exact hRt.toI v5.symm
    · rw [w3] at q; rw [q] at hRt; exact hRt.toI v1.symm
    · rw [w4] at q; rw [q] at hRt; exact hRt.toI h1.1.symm
    · rw [w5] at q; rw [q] at hRt; exact hRt.toI h1.2.1.symm
    · rw [w6] at q; rw [q] at hRt; exact hRt.toI h1.2.2.1.symm
    · rw [w7] at q; rw [q] at hRt; exact hRt.toI h3.symm
    · rw [w0, w1, w2, w3, w4, w5, w6, w7] at q; omega
  · rw [qu_neg h]
    refine ⟨_, L, p, Ct.mk (by decide) rfl (Nat.le_of_ble_eq_true rfl) ?_, k_bad hV hW.2.1, fun r hr => upI_R (by omega), fun _ _ => rfl⟩
    rintro X rfl rfl hX - hRt
    have no : ∀ j, j ≤ 7 → ¬ x1 = nI j := fun j hj e => h ⟨j, e, Nat.zero_le _, hj⟩
    exact RX5_told_0 hX _ ⟨fun q => absurd q (no 0 (by decide)), fun q => absurd q (no 1 (by decide)), fun q => absurd q (no 2 (by decide)), fun q => absurd q (no 3 (by decide)), fun q => absurd q (no 4 (by decide)), fun q => absurd q (no 5 (by decide)), fun q => absurd q (no 6 (by decide)), fun q => absurd q (no 7 (by decide)), fun _ => ⟨_, _, k_refB, hRt⟩⟩
theorem k_type (hV : VC whn I p s) (hW : GW s) (x1 : Int32) : KP E l yX5_type wsX5_type rmX5_type [.ref 0, .int x1] whn I L p (aType x1 s) := by
  have h120 := hW.2.2.2.1
  have rt := hV.2.1
  unfold aType
  by_cases h : btw x1 0 127
  · rw [bif_pos h]
    by_cases d : gt s = 120
    · rw [if_pos d]
      refine ⟨_, L, p, Ct.mk (by decide) rfl (Nat.le_of_ble_eq_true rfl) ?_, VC_rf hV hW.2.1 (j := 2) (by decide), fun r hr => upI_R (by omega), fun _ _ => rfl⟩
      rintro X rfl rfl hX - hRt
      exact RX5_type_0 hX _ ⟨_, k_btw _ (a := 0) (b := 127) (by decide) (by decide), fun _ => ⟨fun q => absurd q (by rw [rt, d]; decide), fun _ => ⟨_, _, k_refused (j := 2) (-4) (Or.inr (Or.inr ⟨rfl, rfl⟩)), hRt⟩⟩, fun q => absurd h (b2i_0.mp q)⟩
    · rw [if_neg d]
      obtain ⟨n, rfl, -, hn⟩ := id h
      rw [nI_clamp (by omega)]
      have eb : (nI n).toInt8.toInt32.toInt8.toInt32 = nI n := by rw [fa_byte_small (by omega), fa_byte_small (by omega)]
      have e8 : upI I 95 (gt s) (nI n) 0 6 + 1 = nI (gt s + 1) := by rw [upI_r (by decide), rt, nI_1]
      refine ⟨upI (upI I 95 (gt s) (nI n)) 0 6 (nI (gt s + 1)), L, p, Ct.mk (by decide) rfl (Nat.le_of_ble_eq_true rfl) ?_, ?_, fun r hr => by rw [upI_R (by omega), upI_R (by omega)], fun _ _ => rfl⟩
      · rintro X rfl rfl hX - hRt
        refine RX5_type_0 hX _ ⟨_, k_btw _ (a := 0) (b := 127) (by decide) (by decide), fun _ => ⟨fun _ => ⟨gt s, rt, by omega, ?_⟩, fun q => absurd (by rw [rt]; exact (nlt (b := 120) (by omega) (by decide)).mpr (by omega)) q⟩, fun q => absurd h (b2i_0.mp q)⟩
        rw [eb, e8, upI_s]
        exact hRt
      · obtain ⟨h1, v1, v2, v3, v4, v5⟩ := hV
        refine ⟨VD.cong (s := (gD s, gQ s, gc s, va_up (gx s) (gt s) n, gt s + 1, gf s)) h1 hW.2.1 (fun q a b => by rw [upI_R (by omega), upI_R (by omega)]), upI_s _ _ _ _, fun k hk => ?_, ?_, ?_, ?_⟩
        · rw [upI_r (by decide)]
          show _ = nI (va_up (gx s) (gt s) n k)
          by_cases z : k = gt s
          · rw [z, upI_s, up_s]
          · rw [upI_k z, up_n _ _ z]; exact v2 k hk
        · rw [upI_k (by decide), upI_r (by decide)]; exact v3
        · rw [upI_k (by decide), upI_r (by decide)]; exact v4
        · rw [upI_k (by decide), upI_r (by decide)]; exact v5
  · rw [bif_neg h]
    refine ⟨_, L, p, Ct.mk (by decide) rfl (Nat.le_of_ble_eq_true rfl) ?_, k_bad hV hW.2.1, fun r hr => upI_R (by omega), fun _ _ => rfl⟩
    rintro X rfl rfl hX - hRt
    exact RX5_type_0 hX _ ⟨_, k_btw _ (a := 0) (b := 127) (by decide) (by decide), fun q => absurd (b2i_n0.mp q) h, fun _ => ⟨_, _, k_refB, hRt⟩⟩
theorem k_clear (hV : VC whn I p s) (hW : GW s) : KP E l yX5_clear wsX5_clear rmX5_clear [.ref 0] whn I L p (aClear s) := by
  refine ⟨upI I 0 6 0, L, p, Ct.mk (by decide) rfl (Nat.le_of_ble_eq_true rfl) ?_, ?_, fun r hr => upI_R (by omega), fun _ _ => rfl⟩
  · rintro X rfl rfl hX - hRt
    exact RX5_clear_0 hX (hRt.toI hV.2.1.symm)
  · obtain ⟨h1, v1, v2, v3, v4, v5⟩ := hV
    refine ⟨VD.cong (s := (gD s, gQ s, gc s, gx s, 0, gf s)) h1 hW.2.1 (fun q a b => upI_R (by omega)), upI_s _ _ _ _, fun k hk => ?_, ?_, ?_, ?_⟩
    · rw [upI_r (by decide)]; exact v2 k hk
    · rw [upI_k (by decide)]; exact v3
    · rw [upI_k (by decide)]; exact v4
    · rw [upI_k (by decide)]; exact v5
end
