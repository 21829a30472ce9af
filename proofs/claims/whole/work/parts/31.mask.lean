/-! What is asked: the answers, and the model's side. -/
noncomputable def qu (P : Prop) (v : Int32) (s : Sg) : Int32 × Sg := if bdec P then (v, s) else (-2, rf s 0)
noncomputable def quL (P : Prop) (v : Int64) (s : Sg) : Int64 × Sg := if bdec P then (v, s) else (-2, rf s 0)
theorem qu_pos {P : Prop} {v : Int32} {s : Sg} (h : P) : qu P v s = (v, s) := bif_pos h
theorem qu_neg {P : Prop} {v : Int32} {s : Sg} (h : ¬ P) : qu P v s = (-2, rf s 0) := bif_neg h
theorem quL_pos {P : Prop} {v : Int64} {s : Sg} (h : P) : quL P v s = (v, s) := bif_pos h
theorem quL_neg {P : Prop} {v : Int64} {s : Sg} (h : ¬ P) : quL P v s = (-2, rf s 0) := bif_neg h
def cfr (D : Dr) (a : Nat) : Nat := fb_ct (fun i => decide (fr D i = a)) (D 1)
def ctt (D : Dr) (a : Nat) : Nat := fb_ct (fun i => decide (tt D i = a)) (D 1)
noncomputable def ofN (D : Dr) (a w : Nat) : Nat := if w = 0 then D (3 + 2 * a) else if w = 1 then D (4 + 2 * a) else if w = 2 then cfr D a else if w = 3 then ctt D a else if w = 4 then bl D a else ab D a
noncomputable def aOf (x1 x2 : Int32) (s : Sg) : Int32 × Sg := qu (ok x1 (gD s 0) ∧ btw x2 0 5) (nI (ofN (gD s) x1.toNatClampNeg x2.toNatClampNeg)) s
noncomputable def aAbout (x1 x2 : Int32) (s : Sg) : Int32 × Sg := qu (ok x1 (gD s 1) ∧ btw x2 0 3) (nI (gD s (23 + 4 * x1.toNatClampNeg + x2.toNatClampNeg))) s
noncomputable def aComes (x1 x2 x3 : Int32) (s : Sg) : Int64 × Sg := quL ((ok x1 (gD s 0) ∧ btw x2 0 30) ∧ ok x3 (gD s 0)) (lN (cm (gD s) x1.toNatClampNeg x2.toNatClampNeg x3.toNatClampNeg)) s
/-- the first minute of x from 63 - n on, or none; how many -/
def fs (x : Nat) : Nat → Int32
  | 0 => -1
  | n + 1 => if x.testBit (62 - n) then nI (62 - n) else fs x n
def cd (x : Nat) : Nat → Nat
  | 0 => 0
  | n + 1 => cd x n + if x.testBit (62 - n) then 1 else 0
theorem cd_ct (x : Nat) : ∀ n, n ≤ 63 → cd x n + fb_ct x.testBit (63 - n) = fb_ct x.testBit 63
  | 0, _ => by rw [cd, Nat.zero_add]
  | n + 1, h => by
    have ih := cd_ct x n (by omega)
    rw [show 63 - n = (62 - n) + 1 by omega, fb_ct_succ] at ih
    rw [cd, show 63 - (n + 1) = 62 - n by omega]
    omega
theorem cd_le (x : Nat) : ∀ n, cd x n ≤ n
  | 0 => Nat.le_refl _
  | n + 1 => by
    have := cd_le x n
    rw [cd]
    split <;> omega
def tm (x w : Nat) : Int32 := if w = 0 then fs x 63 else if w = 1 then la x 63 else nI (fb_ct x.testBit 63)
noncomputable def aTimes (x1 x2 x3 x4 : Int32) (s : Sg) : Int32 × Sg := qu ((ok x1 (gD s 0) ∧ btw x2 0 30) ∧ ok x3 (gD s 0) ∧ btw x4 0 2) (tm (cm (gD s) x1.toNatClampNeg x2.toNatClampNeg x3.toNatClampNeg) x4.toNatClampNeg) s
noncomputable def aLeaves (x1 x2 : Int32) (s : Sg) : Int32 × Sg := qu (ok x1 (gD s 0) ∧ btw x2 0 62) (lvI (gD s) x1.toNatClampNeg x2.toNatClampNeg) s
noncomputable def aFits (x1 x2 : Int32) (s : Sg) : Int32 × Sg := qu (ok x1 (gD s 0) ∧ btw x2 0 30) (b2i (ft (gD s) x1.toNatClampNeg x2.toNatClampNeg)) s
noncomputable def aWhen (x1 : Int32) (s : Sg) : Int32 × Sg := qu (ok x1 (gD s 0)) (nI (whn (gD s) x1.toNatClampNeg)) s
noncomputable def aSuspects (s : Sg) : Int32 × Sg := (nI (sus (gD s)), s)
def told (s : Sg) (w : Nat) : Int32 := if w < 3 then gf s w else if w = 3 then nI (gt s) else if w < 7 then nI (gD s (w - 4)) else nI (gc s)
noncomputable def aTold (x1 : Int32) (s : Sg) : Int32 × Sg := qu (btw x1 0 7) (told s x1.toNatClampNeg) s
noncomputable def aType (x1 : Int32) (s : Sg) : Int32 × Sg := if bdec (btw x1 0 127) then (if gt s = 120 then (-4, rf s 2) else (nI (gt s + 1), (gD s, gQ s, gc s, va_up (gx s) (gt s) x1.toNatClampNeg, gt s + 1, gf s))) else (-2, rf s 0)
def aClear (s : Sg) : Int32 × Sg := (nI (gt s), (gD s, gQ s, gc s, gx s, 0, gf s))
theorem GW_qu {P : Prop} {v : Int32} {s : Sg} (h : GW s) : GW (qu P v s).2 := by unfold qu; split <;> exact h
theorem GW_quL {P : Prop} {v : Int64} {s : Sg} (h : GW s) : GW (quL P v s).2 := by unfold quL; split <;> exact h
theorem btw.nn {v : Int32} {a b : Nat} (h : btw v a b) : ∃ n, v = nI n ∧ a ≤ n ∧ n ≤ b := h
theorem GW_type {x1 : Int32} {s : Sg} (h : GW s) : GW (aType x1 s).2 := by
  unfold aType
  by_cases c : btw x1 0 127
  · rw [bif_pos c]
    by_cases d : gt s = 120
    · rw [if_pos d]; exact h
    · rw [if_neg d]
      obtain ⟨n, rfl, -, hn⟩ := c
      have e : (nI n).toNatClampNeg = n := nI_clamp (by omega)
      rw [e]
      refine ⟨h.1, h.2.1, h.2.2.1, ?_, fun k hk => ?_⟩
      · show gt s + 1 ≤ 120
        have := h.2.2.2.1
        omega
      · show va_up (gx s) (gt s) n k < 128
        by_cases z : k = gt s
        · rw [z, up_s]; omega
        · rw [up_n _ _ z]; exact h.2.2.2.2 k hk
  · rw [bif_neg c]; exact h
theorem GW_clear {s : Sg} (h : GW s) : GW (aClear s).2 := ⟨h.1, h.2.1, h.2.2.1, Nat.zero_le _, h.2.2.2.2⟩
/-- what a call of the model owes -/
def MP (E : ET) (l : Launch) (y : MethodName) (ws : List Cond) (rm : Room) (as : List Value) (I : MI) (L : ML) (p : Nat → Nat) (q : Int32 × Sg) : Prop :=
  ∃ I' L', Ct E l y ws rm as (HE E I L p) (some (.int q.1)) (HE E I' L' p) ∧ VM I' q.2 ∧ (∀ r, r < 96 → I' r = I r) ∧ ∀ r, r < 96 → L' r = L r
def MPL (E : ET) (l : Launch) (y : MethodName) (ws : List Cond) (rm : Room) (as : List Value) (I : MI) (L : ML) (p : Nat → Nat) (q : Int64 × Sg) : Prop :=
  ∃ I' L', Ct E l y ws rm as (HE E I L p) (some (.long q.1)) (HE E I' L' p) ∧ VM I' q.2 ∧ (∀ r, r < 96 → I' r = I r) ∧ ∀ r, r < 96 → L' r = L r
section
variable {E : ET} {l : Launch} {I : MI} {L : ML} {p : Nat → Nat} {D : Dr} {s : Sg}
theorem ct_next {f : Nat → Bool} {n : Nat} {c : Prop} [Decidable c] (h : f n = true ↔ c) : nI (fb_ct f n) + (if c then 1 else 0 : Int32) = nI (fb_ct f (n + 1)) := by
  rw [fb_ct_succ]
  by_cases d : c
  · rw [if_pos d, if_pos (h.mpr d), nI_1]
  · rw [if_neg d, if_neg (fun q => d (h.mp q))]; simp
theorem m_ofShaft (hR : RM I D) (hW : WF D) {a w : Nat} (ha : a < D 0) (hw : w ≤ 5) : Ct E l yX6_ofShaft wsX6_ofShaft rmX6_ofShaft [.ref 96, .int (nI a), .int (nI w)] (HE E I L p) (some (.int (nI (ofN D a w)))) (HE E I L p) := by
  have hS := hW.S
  have hP := hW.P
  have r0 := hR 0 (by decide)
  have r1 := hR 1 (by decide)
  have wq : ∀ j, j < 6 → (nI w = nI j ↔ w = j) := fun j hj => nI_eq (by omega) (by omega)
  have w0 : nI w = 0 ↔ w = 0 := wq 0 (by decide)
  have w1 : nI w = 1 ↔ w = 1 := wq 1 (by decide)
  have w2 : nI w = 2 ↔ w = 2 := wq 2 (by decide)
  have w3 : nI w = 3 ↔ w = 3 := wq 3 (by decide)
  have w4 : nI w = 4 ↔ w = 4 := wq 4 (by decide)
  have w5 : nI w = 5 ↔ w = 5 := wq 5 (by decide)
  refine Ct.mk (by decide) rfl (Nat.le_of_ble_eq_true rfl) ?_
  rintro X rfl rfl hX - hRt
  refine RX6_ofShaft_0 hX _ _ ?_
  refine loop_up (N := D 1) (Q := fun i => G X 0 0 11 [(0, .ref 96), (1, .int (nI a)), (2, .int (nI w)), (3, .int (nI (fb_ct (fun i => decide (fr D i = a)) i))), (4, .int (nI (fb_ct (fun i => decide (tt D i = a)) i))), (5, .int 0), (6, .int (nI i))] [] (HM X I L p)) (fun i hi k => ?_) 0 (Nat.zero_le _) ?_
  · have hf := hW.pipe hi
    refine RX6_ofShaft_11 hX _ _ _ _ _ _ ⟨fun q => absurd q (by rw [r1]; exact nI_ge hi (by omega)), fun _ => ⟨_, m_fr hR (by omega), _, m_tt hR (by omega), ?_⟩⟩
    rw [ct_next (f := fun i => decide (fr D i = a)) (by rw [decide_eq_true_eq]; exact (nI_eq (by omega) (by omega)).symm), ct_next (f := fun i => decide (tt D i = a)) (by rw [decide_eq_true_eq]; exact (nI_eq (by omega) (by omega)).symm), nI_1]
    exact k
  · refine RX6_ofShaft_11 hX _ _ _ _ _ _ ⟨fun _ => ?_, fun q => absurd (by rw [r1]; exact nI_le (Nat.le_refl _) (by omega)) q⟩
    by_cases c5 : w = 5
    · have hRt2 : Rt X (some .int) rmX6_ofShaft (some (.int (nI (ab D a)))) (HM X I L p) := by
        have e : ofN D a w = ab D a := by unfold ofN; rw [c5]; rfl
        rw [e] at hRt; exact hRt
      refine loop_up (N := D 0) (Q := fun i => G X 0 0 71 [(0, .ref 96), (1, .int (nI a)), (2, .int (nI w)), (3, .int (nI (cfr D a))), (4, .int (nI (ctt D a))), (5, .int (nI (mk (fun q => bdec (Rc D q a)) i))), (6, .int (nI i))] [] (HM X I L p)) (fun i hi k => ?_) 0 (Nat.zero_le _) ?_
      · have hb := bl_lt D i
        refine RX6_ofShaft_71 hX _ _ _ _ _ _ ⟨fun q => absurd q (by rw [r0]; exact nI_ge hi (by omega)), fun _ => ⟨fun q => absurd (w5.mpr c5) q, fun _ => ⟨_, m_below hR hW hi, _, m_has (by omega) (by omega), ?_⟩⟩⟩
        have e : (if (if (bl D i).testBit a = true then 1 else 0 : Int32) = 0 then 0 else jshl 1 (nI i) : Int32) = if bdec (Rc D i a) then nI (2 ^ i) else 0 := by
          rw [jshl_1 (by omega)]
          by_cases c : Rc D i a
          · rw [bif_pos c, if_pos ((bl_bit _ _ _).mpr ⟨by omega, c⟩)]; rfl
          · rw [bif_neg c, if_neg (fun q => c ((bl_bit _ _ _).mp q).2)]; rfl
        rw [e, mk_next (f := fun q => bdec (Rc D q a)) (by omega), nI_1]
        exact k
      · refine RX6_ofShaft_71 hX _ _ _ _ _ _ ⟨fun _ => ⟨fun q => absurd (w0.mp q) (by omega), fun q => absurd (w1.mp q) (by omega), fun q => absurd (w2.mp q) (by omega), fun q => absurd (w3.mp q) (by omega), fun q => absurd (w4.mp q) (by omega), fun _ => hRt2⟩, fun q => absurd (by rw [r0]; exact nI_le (Nat.le_refl _) (by omega)) q⟩
    · have fin : (nI w = 0 → ∃ zr3 : Int32, Ct (xE X) (xl X) yX6_kindOf wsX6_kindOf rmX6_kindOf [.ref 96, .int (nI a)] (HM X I L p) (some (.int zr3)) (HM X I L p) ∧ Rt X (some .int) rmX6_ofShaft (some (.int zr3)) (HM X I L p)) ∧ (nI w = 1 → ∃ zr5 : Int32, Ct (xE X) (xl X) yX6_numberOf wsX6_numberOf rmX6_numberOf [.ref 96, .int (nI a)] (HM X I L p) (some (.int zr5)) (HM X I L p) ∧ Rt X (some .int) rmX6_ofShaft (some (.int zr5)) (HM X I L p)) ∧ (nI w = 2 → Rt X (some .int) rmX6_ofShaft (some (.int (nI (cfr D a)))) (HM X I L p)) ∧ (nI w = 3 → Rt X (some .int) rmX6_ofShaft (some (.int (nI (ctt D a)))) (HM X I L p)) ∧ (nI w = 4 → ∃ zr7 : Int32, Ct (xE X) (xl X) yX6_below wsX6_below rmX6_below [.ref 96, .int (nI a)] (HM X I L p) (some (.int zr7)) (HM X I L p) ∧ Rt X (some .int) rmX6_ofShaft (some (.int zr7)) (HM X I L p)) ∧ (¬ nI w = 0 ∧ ¬ nI w = 1 ∧ ¬ nI w = 2 ∧ ¬ nI w = 3 ∧ ¬ nI w = 4 → Rt X (some .int) rmX6_ofShaft (some (.int 0)) (HM X I L p)) := by
        refine ⟨fun q => ⟨_, m_kindOf hR (by omega), ?_⟩, fun q => ⟨_, m_numberOf hR (by omega), ?_⟩, fun q => ?_, fun q => ?_, fun q => ⟨_, m_below hR hW ha, ?_⟩, fun q => ?_⟩
        · rw [w0] at q; rw [q] at hRt; exact hRt
        · rw [w1] at q; rw [q] at hRt; exact hRt
        · rw [w2] at q; rw [q] at hRt; exact hRt
        · rw [w3] at q; rw [q] at hRt; exact hRt
        · rw [w4] at q; rw [q] at hRt; exact hRt
        · rw [w0, w1, w2, w3, w4] at q; omega
      by_cases c0 : D 0 = 0
      · omega
      · exact RX6_ofShaft_71 hX _ _ _ _ _ _ ⟨fun _ => fin, fun _ => ⟨fun _ => fin, fun q => absurd (w5.mp q) c5⟩⟩
theorem m_of (hV : VM I s) (hW : GW s) (x1 x2 : Int32) : MP E l yX6_of wsX6_of rmX6_of [.ref 96, .int x1, .int x2] I L p (aOf x1 x2 s) := by
  have hS := hW.1.S
  unfold aOf
  by_cases h : ok x1 (gD s 0) ∧ btw x2 0 5
  · rw [qu_pos h]
    obtain ⟨a, ha, rfl⟩ := h.1
    obtain ⟨w, rfl, -, hw⟩ := h.2
    rw [nI_clamp (by omega), nI_clamp (by omega)]
    refine ⟨I, L, Ct.mk (by decide) rfl (Nat.le_of_ble_eq_true rfl) ?_, hV, fun _ _ => rfl, fun _ _ => rfl⟩
    rintro X rfl rfl hX - hRt
    exact RX6_of_0 hX _ _ ⟨_, m_isShaft hV.1 hW.1 _, fun q => absurd h.1 (b2i_0.mp q), fun _ => ⟨_, m_btw _ (a := 0) (b := 5) (by decide) (by decide), fun q => absurd h.2 (b2i_0.mp q), fun _ => ⟨_, m_ofShaft hV.1 hW.1 ha hw, hRt⟩⟩⟩
  · rw [qu_neg h]
    refine ⟨_, L, Ct.mk (by decide) rfl (Nat.le_of_ble_eq_true rfl) ?_, VM_rf hV, fun r hr => upI_R (by omega), fun _ _ => rfl⟩
    rintro X rfl rfl hX - hRt
    exact RX6_of_0 hX _ _ ⟨_, m_isShaft hV.1 hW.1 _, fun _ => ⟨_, _, m_refuses (j := 0) (by decide) (-2) rfl, hRt⟩, fun q1 => ⟨_, m_btw _ (a := 0) (b := 5) (by decide) (by decide), fun _ => ⟨_, _, m_refuses (j := 0) (by decide) (-2) rfl, hRt⟩, fun q2 => absurd ⟨b2i_n0.mp q1, b2i_n0.mp q2⟩ h⟩⟩
theorem m_about (hV : VM I s) (hW : GW s) (x1 x2 : Int32) : MP E l yX6_about wsX6_about rmX6_about [.ref 96, .int x1, .int x2] I L p (aAbout x1 x2 s) := by
  have hP := hW.1.P
  unfold aAbout
  by_cases h : ok x1 (gD s 1) ∧ btw x2 0 3
  · rw [qu_pos h]
    obtain ⟨a, ha, rfl⟩ := h.1
    obtain ⟨w, rfl, -, hw⟩ := h.2
    rw [nI_clamp (by omega), nI_clamp (by omega)]
    refine ⟨I, L, Ct.mk (by decide) rfl (Nat.le_of_ble_eq_true rfl) ?_, hV, fun _ _ => rfl, fun _ _ => rfl⟩
    rintro X rfl rfl hX - hRt
    exact RX6_about_0 hX _ _ ⟨_, m_isPipe hV.1 hW.1 _, fun q => absurd h.1 (b2i_0.mp q), fun _ => ⟨_, m_btw _ (a := 0) (b := 3) (by decide) (by decide), fun q => absurd h.2 (b2i_0.mp q), fun _ => ⟨_, m_pipeOf hV.1 (by omega) (by omega), hRt⟩⟩⟩
  · rw [qu_neg h]
    refine ⟨_, L, Ct.mk (by decide) rfl (Nat.le_of_ble_eq_true rfl) ?_, VM_rf hV, fun r hr => upI_R (by omega), fun _ _ => rfl⟩
    rintro X rfl rfl hX - hRt
    exact RX6_about_0 hX _ _ ⟨_, m_isPipe hV.1 hW.1 _, fun _ => ⟨_, _, m_refuses (j := 0) (by decide) (-2) rfl, hRt⟩, fun q1 => ⟨_, m_btw _ (a := 0) (b := 3) (by decide) (by decide), fun _ => ⟨_, _, m_refuses (j := 0) (by decide) (-2) rfl, hRt⟩, fun q2 => absurd ⟨b2i_n0.mp q1, b2i_n0.mp q2⟩ h⟩⟩
theorem m_comes (hV : VM I s) (hW : GW s) (x1 x2 x3 : Int32) : MPL E l yX6_comes wsX6_comes rmX6_comes [.ref 96, .int x1, .int x2, .int x3] I L p (aComes x1 x2 x3 s) := by
  have hS := hW.1.S
  unfold aComes
  by_cases h : (ok x1 (gD s 0) ∧ btw x2 0 30) ∧ ok x3 (gD s 0)
  · rw [quL_pos h]
    obtain ⟨a, ha, rfl⟩ := h.1.1
    obtain ⟨m, rfl, -, hm⟩ := h.1.2
    obtain ⟨b, hb, rfl⟩ := h.2
    rw [nI_clamp (by omega), nI_clamp (by omega), nI_clamp (by omega)]
    refine ⟨I, _, Ct.mk (by decide) rfl (Nat.le_of_ble_eq_true rfl) ?_, hV, fun _ _ => rfl, fun r hr => wy_r (r := 101) (n := 10) (Y := cm (gD s) a m) (by omega)⟩
    rintro X rfl rfl hX - hRt
    exact RX6_comes_0 hX _ _ _ ⟨_, m_isStart hV.1 hW.1 _ _, fun q => absurd h.1 (b2i_0.mp q), fun _ => ⟨_, m_isShaft hV.1 hW.1 _, fun q => absurd h.2 (b2i_0.mp q), fun _ => ⟨_, _, m_comesOf hV.1 hW.1 ha (by omega) hb, hRt⟩⟩⟩
  · rw [quL_neg h]
    refine ⟨_, L, Ct.mk (by decide) rfl (Nat.le_of_ble_eq_true rfl) ?_, VM_rf (j := 0) hV, fun r hr => upI_R (by omega), fun _ _ => rfl⟩
    rintro X rfl rfl hX - hRt
    exact RX6_comes_0 hX _ _ _ ⟨_, m_isStart hV.1 hW.1 _ _, fun _ => ⟨_, _, m_refuses (j := 0) (by decide) (-2) rfl, hRt⟩, fun q1 => ⟨_, m_isShaft hV.1 hW.1 _, fun _ => ⟨_, _, m_refuses (j := 0) (by decide) (-2) rfl, hRt⟩, fun q2 => absurd ⟨b2i_n0.mp q1, b2i_n0.mp q2⟩ h⟩⟩
theorem m_times (hV : VM I s) (hW : GW s) (x1 x2 x3 x4 : Int32) : MP E l yX6_times wsX6_times rmX6_times [.ref 96, .int x1, .int x2, .int x3, .int x4] I L p (aTimes x1 x2 x3 x4 s) := by
  have hS := hW.1.S
  unfold aTimes
  by_cases h : (ok x1 (gD s 0) ∧ btw x2 0 30) ∧ ok x3 (gD s 0) ∧ btw x4 0 2
  · rw [qu_pos h]
    obtain ⟨a, ha, rfl⟩ := h.1.1
    obtain ⟨m, rfl, -, hm⟩ := h.1.2
    obtain ⟨b, hb, rfl⟩ := h.2.1
    obtain ⟨w, rfl, -, hw⟩ := h.2.2
    rw [nI_clamp (by omega), nI_clamp (by omega), nI_clamp (by omega), nI_clamp (by omega)]
    have hc := cm_lt (gD s) a m b
    refine ⟨I, _, Ct.mk (by decide) rfl (Nat.le_of_ble_eq_true rfl) ?_, hV, fun _ _ => rfl, fun r hr => wy_r (r := 101) (n := 10) (Y := cm (gD s) a m) (by omega)⟩
    rintro X rfl rfl hX - hRt
    refine RX6_times_0 hX _ _ _ _ ⟨_, m_isStart hV.1 hW.1 _ _, fun q => absurd h.1 (b2i_0.mp q), fun _ => ⟨_, m_isShaft hV.1 hW.1 _, fun q => absurd h.2.1 (b2i_0.mp q), fun _ => ⟨_, m_btw _ (a := 0) (b := 2) (by decide) (by decide), fun _ => ⟨_, _, m_comesOf hV.1 hW.1 ha (by omega) hb, ?_⟩, fun q => absurd h.2.2 (b2i_0.mp q)⟩⟩⟩
    have hcd := cd_ct (cm (gD s) a m b) 63 (Nat.le_refl _)
    rw [show fb_ct (cm (gD s) a m b).testBit (63 - 63) = 0 from rfl, Nat.add_zero] at hcd
    have e62 : ∀ n, n < 63 → (62 : Int32) - nI n = nI (62 - n) := by decide +kernel
    refine loop_up (N := 63) (Q := fun n => G X 0 0 53 [(0, .ref 96), (1, .int (nI a)), (2, .int (nI m)), (3, .int (nI b)), (4, .int (nI w)), (5, .long (lN (cm (gD s) a m b))), (7, .int (nI (cd (cm (gD s) a m b) n))), (8, .int (fs (cm (gD s) a m b) n)), (9, .int (62 - nI n))] [] (HM X I (wy 101 10 L (cm (gD s) a m)) p)) (fun n hn k => ?_) 0 (Nat.zero_le _) ?_
    · have e63 : ∀ n, n < 63 → (62 : Int32) - nI n + (-1) = 62 - nI (n + 1) := by decide +kernel
      refine RX6_times_53 hX _ _ _ _ _ _ _ _ ⟨fun q => absurd q (by rw [e62 n hn]; exact nI_pos (by omega)), fun _ => ⟨_, by rw [e62 n hn]; exact m_hasMinute hc (by omega), _, by rw [e62 n hn]; exact m_hasMinute hc (by omega), ?_⟩⟩
      have e1 : nI (cd (cm (gD s) a m b) n) + (if (if (cm (gD s) a m b).testBit (62 - n) = true then 1 else 0 : Int32) = 0 then 0 else 1 : Int32) = nI (cd (cm (gD s) a m b) (n + 1)) := by
        rw [cd]
        by_cases c : (cm (gD s) a m b).testBit (62 - n) = true
        · rw [if_pos c, if_pos c, ← nI_1]; rfl
        · rw [if_neg c, if_neg c]; simp
      have e2 : (if (if (cm (gD s) a m b).testBit (62 - n) = true then 1 else 0 : Int32) = 0 then fs (cm (gD s) a m b) n else 62 - nI n : Int32) = fs (cm (gD s) a m b) (n + 1) := by
        rw [fs]
        by_cases c : (cm (gD s) a m b).testBit (62 - n) = true
        · rw [if_pos c, if_pos c, ← e62 n hn]; rfl
        · rw [if_neg c, if_neg c]; rfl
      rw [e1, e2, e63 n hn]
      exact k
    · refine RX6_times_53 hX _ _ _ _ _ _ _ _ ⟨fun _ => ⟨fun q0 => ⟨fun q1 => ?_, fun q1 => ⟨_, m_lastOf hc, ?_⟩⟩, fun q0 => ?_⟩, fun q => absurd (by decide) q⟩
      · have : w = 2 := by
          have z0 : w ≠ 0 := fun z => q0 (by rw [z]; rfl)
          have z1 : w ≠ 1 := fun z => q1 (by rw [z]; rfl)
          omega
        subst this
        rw [hcd]
        exact hRt
      · have : w = 1 := (nI_eq (b := 1) (by omega) (by decide)).mp q1
        subst this
        exact hRt
      · have : w = 0 := (nI_eq (b := 0) (by omega) (by decide)).mp q0
        subst this
        exact hRt
  · rw [qu_neg h]
    refine ⟨_, L, Ct.mk (by decide) rfl (Nat.le_of_ble_eq_true rfl) ?_, VM_rf (j := 0) hV, fun r hr => upI_R (by omega), fun _ _ => rfl⟩
    rintro X rfl rfl hX - hRt
    exact RX6_times_0 hX _ _ _ _ ⟨_, m_isStart hV.1 hW.1 _ _, fun _ => ⟨_, _, m_refuses (j := 0) (by decide) (-2) rfl, hRt⟩, fun q1 => ⟨_, m_isShaft hV.1 hW.1 _, fun _ => ⟨_, _, m_refuses (j := 0) (by decide) (-2) rfl, hRt⟩, fun q2 => ⟨_, m_btw _ (a := 0) (b := 2) (by decide) (by decide), fun q3 => absurd ⟨b2i_n0.mp q1, b2i_n0.mp q2, b2i_n0.mp q3⟩ h, fun _ => ⟨_, _, m_refuses (j := 0) (by decide) (-2) rfl, hRt⟩⟩⟩⟩
theorem m_leaves (hV : VM I s) (hW : GW s) (x1 x2 : Int32) : MP E l yX6_leaves wsX6_leaves rmX6_leaves [.ref 96, .int x1, .int x2] I L p (aLeaves x1 x2 s) := by
  have hS := hW.1.S
  unfold aLeaves
  by_cases h : ok x1 (gD s 0) ∧ btw x2 0 62
  · rw [qu_pos h]
    obtain ⟨a, ha, rfl⟩ := h.1
    obtain ⟨w, rfl, -, hw⟩ := h.2
    rw [nI_clamp (by omega), nI_clamp (by omega)]
    refine ⟨I, L, Ct.mk (by decide) rfl (Nat.le_of_ble_eq_true rfl) ?_, hV, fun _ _ => rfl, fun _ _ => rfl⟩
    rintro X rfl rfl hX - hRt
    exact RX6_leaves_0 hX _ _ ⟨_, m_isShaft hV.1 hW.1 _, fun q => absurd h.1 (b2i_0.mp q), fun _ => ⟨_, m_btw _ (a := 0) (b := 62) (by decide) (by decide), fun q => absurd h.2 (b2i_0.mp q), fun _ => ⟨_, m_leavesAt hV.1 hW.1 ha hw, hRt⟩⟩⟩
  · rw [qu_neg h]
    refine ⟨_, L, Ct.mk (by decide) rfl (Nat.le_of_ble_eq_true rfl) ?_, VM_rf (j := 0) hV, fun r hr => upI_R (by omega), fun _ _ => rfl⟩
    rintro X rfl rfl hX - hRt
    exact RX6_leaves_0 hX _ _ ⟨_, m_isShaft hV.1 hW.1 _, fun _ => ⟨_, _, m_refuses (j := 0) (by decide) (-2) rfl, hRt⟩, fun q1 => ⟨_, m_btw _ (a := 0) (b := 62) (by decide) (by decide), fun _ => ⟨_, _, m_refuses (j := 0) (by decide) (-2) rfl, hRt⟩, fun q2 => absurd ⟨b2i_n0.mp q1, b2i_n0.mp q2⟩ h⟩⟩
theorem m_fits (hV : VM I s) (hW : GW s) (x1 x2 : Int32) : MP E l yX6_fits wsX6_fits rmX6_fits [.ref 96, .int x1, .int x2] I L p (aFits x1 x2 s) := by
  have hS := hW.1.S
  unfold aFits
  by_cases h : ok x1 (gD s 0) ∧ btw x2 0 30
  · rw [qu_pos h]
    obtain ⟨a, ha, rfl⟩ := h.1
    obtain ⟨m, rfl, -, hm⟩ := h.2
    rw [nI_clamp (by omega), nI_clamp (by omega)]
    refine ⟨I, _, Ct.mk (by decide) rfl (Nat.le_of_ble_eq_true rfl) ?_, hV, fun _ _ => rfl, fun r hr => wy_r (r := 101) (n := 10) (Y := cm (gD s) a m) (by omega)⟩
    rintro X rfl rfl hX - hRt
    refine RX6_fits_0 hX _ _ ⟨_, m_isStart hV.1 hW.1 _ _, fun _ => ⟨_, _, m_isFit hV.1 hW.1 ha (by omega), hRt.toI ?_⟩, fun q => absurd h (b2i_0.mp q)⟩
    rcases b2i_01 (P := ft (gD s) a m) with z | z
    · rw [z]; rfl
    · rw [z]; rfl
  · rw [qu_neg h]
    refine ⟨_, L, Ct.mk (by decide) rfl (Nat.le_of_ble_eq_true rfl) ?_, VM_rf (j := 0) hV, fun r hr => upI_R (by omega), fun _ _ => rfl⟩
    rintro X rfl rfl hX - hRt
    exact RX6_fits_0 hX _ _ ⟨_, m_isStart hV.1 hW.1 _ _, fun q => absurd (b2i_n0.mp q) h, fun _ => ⟨_, _, m_refuses (j := 0) (by decide) (-2) rfl, hRt⟩⟩
theorem m_when (hV : VM I s) (hW : GW s) (x1 : Int32) : MP E l yX6_when wsX6_when rmX6_when [.ref 96, .int x1] I L p (aWhen x1 s) := by
  have hS := hW.1.S
  unfold aWhen
  by_cases h : ok x1 (gD s 0)
  · rw [qu_pos h]
    obtain ⟨a, ha, rfl⟩ := id h
    rw [nI_clamp (by omega)]
    refine ⟨I, _, Ct.mk (by decide) rfl (Nat.le_of_ble_eq_true rfl) ?_, hV, fun _ _ => rfl, fun r hr => wy_r (r := 101) (n := 10) (Y := cm (gD s) a 30) (by omega)⟩
    rintro X rfl rfl hX - hRt
    exact RX6_when_0 hX _ ⟨_, m_isShaft hV.1 hW.1 _, fun q => absurd h (b2i_0.mp q), fun _ => ⟨_, _, m_whenOf hV.1 hW.1 ha, hRt⟩⟩
  · rw [qu_neg h]
    refine ⟨_, L, Ct.mk (by decide) rfl (Nat.le_of_ble_eq_true rfl) ?_, VM_rf (j := 0) hV, fun r hr => upI_R (by omega), fun _ _ => rfl⟩
    rintro X rfl rfl hX - hRt
    exact RX6_when_0 hX _ ⟨_, m_isShaft hV.1 hW.1 _, fun _ => ⟨_, _, m_refuses (j := 0) (by decide) (-2) rfl, hRt⟩, fun q => absurd (b2i_n0.mp q) h⟩
theorem m_suspects (hV : VM I s) (hW : GW s) : MP E l yX6_suspects wsX6_suspects rmX6_suspects [.ref 96] I L p (aSuspects s) := by
  refine ⟨I, wz 101 L (fun a => cm (gD s) a 30) (gD s 0), Ct.mk (by decide) rfl (Nat.le_of_ble_eq_true rfl) ?_, hV, fun _ _ => rfl, fun r hr => wz_r (by omega)⟩
  rintro X rfl rfl hX - hRt
  exact RX6_suspects_0 hX ⟨_, _, m_suspectsNow hV.1 hW.1, hRt⟩
theorem m_toldOf (hV : VM I s) {w : Nat} (hw : w ≤ 7) : Ct E l yX6_toldOf wsX6_toldOf rmX6_toldOf [.ref 96, .int (nI w)] (HE E I L p) (some (.int (told s w))) (HE E I L p) := by
  refine Ct.mk (by decide) rfl (Nat.le_of_ble_eq_true rfl) ?_
  rintro X rfl rfl hX - hRt
  unfold told at hRt
  refine RX6_toldOf_0 hX _ ⟨fun q => ⟨fun q3 => ⟨fun q7 => ?_, fun q7 => ⟨w - 4, ?_, by omega, ?_⟩⟩, fun q3 => ?_⟩, fun q => ⟨w, rfl, ?_, ?_⟩⟩
  · have h7 := (nle (a := 7) (by decide) (by omega)).mp q7
    rw [if_neg (by omega), if_neg (by omega), if_neg (by omega)] at hRt
    exact hRt.toI hV.2.1.1.symm
  · have h3 := (nle (a := 3) (by decide) (by omega)).mp q
    have h4 : w ≠ 3 := fun z => q3 (by rw [z]; rfl)
    have e : ∀ w, w ≤ 7 → 4 ≤ w → nI w - 4 = nI (w - 4) := by decide +kernel
    exact e w hw (by omega)
  · have h3 := (nle (a := 3) (by decide) (by omega)).mp q
    have h4 : w ≠ 3 := fun z => q3 (by rw [z]; rfl)
    have h7 : ¬ 7 ≤ w := fun z => q7 ((nle (a := 7) (by decide) (by omega)).mpr z)
    rw [if_neg (by omega), if_neg (by omega), if_pos (by omega)] at hRt
    exact hRt.toI (hV.1 _ (by omega)).symm
  · have h3 : w = 3 := (nI_eq (b := 3) (by omega) (by decide)).mp q3
    rw [if_neg (by omega), if_pos h3] at hRt
    exact hRt.toI hV.2.2.1.1.symm
  · have : ¬ 3 ≤ w := fun z => q ((nle (a := 3) (by decide) (by omega)).mpr z)
    omega
  · have : ¬ 3 ≤ w := fun z => q ((nle (a := 3) (by decide) (by omega)).mpr z)
    rw [if_pos (by omega)] at hRt
    exact hRt.toI (hV.2.2.2 w (by omega)).symm
theorem m_told (hV : VM I s) (x1 : Int32) : MP E l yX6_told wsX6_told rmX6_told [.ref 96, .int x1] I L p (aTold x1 s) := by
  unfold aTold
  by_cases h : btw x1 0 7
  · rw [qu_pos h]
    obtain ⟨w, rfl, -, hw⟩ := id h
    rw [nI_clamp (by omega)]
    refine ⟨I, L, Ct.mk (by decide) rfl (Nat.le_of_ble_eq_true rfl) ?_, hV, fun _ _ => rfl, fun _ _ => rfl⟩
    rintro X rfl rfl hX - hRt
    exact RX6_told_0 hX _ ⟨_, m_btw _ (a := 0) (b := 7) (by decide) (by decide), fun q => absurd h (b2i_0.mp q), fun _ => ⟨_, m_toldOf hV hw, hRt⟩⟩
  · rw [qu_neg h]
    refine ⟨_, L, Ct.mk (by decide) rfl (Nat.le_of_ble_eq_true rfl) ?_, VM_rf (j := 0) hV, fun r hr => upI_R (by omega), fun _ _ => rfl⟩
    rintro X rfl rfl hX - hRt
    exact RX6_told_0 hX _ ⟨_, m_btw _ (a := 0) (b := 7) (by decide) (by decide), fun _ => ⟨_, _, m_refuses (j := 0) (by decide) (-2) rfl, hRt⟩, fun q => absurd (b2i_n0.mp q) h⟩
theorem m_type (hV : VM I s) (hW : GW s) (x1 : Int32) : MP E l yX6_type wsX6_type rmX6_type [.ref 96, .int x1] I L p (aType x1 s) := by
  have h120 := hW.2.2.2.1
  have rt := hV.2.2.1.1
  unfold aType
  by_cases h : btw x1 0 127
  · rw [bif_pos h]
    by_cases d : gt s = 120
    · rw [if_pos d]
      refine ⟨_, L, Ct.mk (by decide) rfl (Nat.le_of_ble_eq_true rfl) ?_, VM_rf (j := 2) hV, fun r hr => upI_R (by omega), fun _ _ => rfl⟩
      rintro X rfl rfl hX - hRt
      exact RX6_type_0 hX _ ⟨_, m_btw _ (a := 0) (b := 127) (by decide) (by decide), fun _ => ⟨fun q => absurd (by rw [rt, d]; rfl) q, fun _ => ⟨_, _, m_refuses (j := 2) (by decide) (-4) rfl, hRt⟩⟩, fun q => absurd h (b2i_0.mp q)⟩
    · rw [if_neg d]
      obtain ⟨n, rfl, -, hn⟩ := id h
      rw [nI_clamp (by omega)]
      have e8 : upI I 103 (gt s) (nI n) 96 8 + 1 = nI (gt s + 1) := by rw [upI_r (by decide), rt, nI_1]
      refine ⟨upI (upI I 103 (gt s) (nI n)) 96 8 (nI (gt s + 1)), L, Ct.mk (by decide) rfl (Nat.le_of_ble_eq_true rfl) ?_, ?_, fun r hr => by rw [upI_R (by omega), upI_R (by omega)], fun _ _ => rfl⟩
      · rintro X rfl rfl hX - hRt
        refine RX6_type_0 hX _ ⟨_, m_btw _ (a := 0) (b := 127) (by decide) (by decide), fun _ => ⟨fun _ => ⟨gt s, rt, by omega, ?_⟩, fun q => absurd ((nI_eq (b := 120) (by omega) (by decide)).mp (rt.symm.trans q)) d⟩, fun q => absurd h (b2i_0.mp q)⟩
        rw [e8, upI_s]
        exact hRt
      · obtain ⟨v1, ⟨v2, v3, v4⟩, ⟨v5, v6⟩, v7⟩ := hV
        refine ⟨fun k hk => ?_, ⟨?_, v3, fun j hj k hk => ?_⟩, ⟨upI_s _ _ _ _, fun k hk => ?_⟩, fun j hj => ?_⟩
        · rw [upI_r (by decide), upI_r (by decide)]; exact v1 k hk
        · rw [upI_k (by decide), upI_r (by decide)]; exact v2
        · rw [upI_r (by decide), upI_r (by decide)]; exact v4 j hj k hk
        · rw [upI_r (by decide)]
          show _ = nI (va_up (gx s) (gt s) n k)
          by_cases z : k = gt s
          · rw [z, upI_s, up_s]
          · rw [upI_k z, up_n _ _ z]; exact v6 k hk
        · rw [upI_r (by decide), upI_r (by decide)]; exact v7 j hj
  · rw [bif_neg h]
    refine ⟨_, L, Ct.mk (by decide) rfl (Nat.le_of_ble_eq_true rfl) ?_, VM_rf (j := 0) hV, fun r hr => upI_R (by omega), fun _ _ => rfl⟩
    rintro X rfl rfl hX - hRt
    exact RX6_type_0 hX _ ⟨_, m_btw _ (a := 0) (b := 127) (by decide) (by decide), fun q => absurd (b2i_n0.mp q) h, fun _ => ⟨_, _, m_refuses (j := 0) (by decide) (-2) rfl, hRt⟩⟩
theorem m_clear (hV : VM I s) : MP E l yX6_clear wsX6_clear rmX6_clear [.ref 96] I L p (aClear s) := by
  refine ⟨upI I 96 8 0, L, Ct.mk (by decide) rfl (Nat.le_of_ble_eq_true rfl) ?_, ?_, fun r hr => upI_R (by omega), fun _ _ => rfl⟩
  · rintro X rfl rfl hX - hRt
    exact RX6_clear_0 hX (hRt.toI hV.2.2.1.1.symm)
  · obtain ⟨v1, ⟨v2, v3, v4⟩, ⟨v5, v6⟩, v7⟩ := hV
    refine ⟨fun k hk => ?_, ⟨?_, v3, fun j hj k hk => ?_⟩, ⟨upI_s _ _ _ _, fun k hk => ?_⟩, fun j hj => ?_⟩
    · rw [upI_r (by decide)]; exact v1 k hk
    · rw [upI_k (by decide)]; exact v2
    · rw [upI_r (by decide)]; exact v4 j hj k hk
    · rw [upI_r (by decide)]; exact v6 k hk
    · rw [upI_r (by decide)]; exact v7 j hj
end
