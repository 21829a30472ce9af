/-! The model's reads. -/
def RM (I : MI) (D : Nat → Nat) : Prop := ∀ k, k < 123 → I 97 k = nI (D k)
theorem ix2 (a : Nat) : 3 + 2 * nI a = nI (3 + 2 * a) := by
  show nI 3 + nI 2 * nI a = _
  rw [pk_mul, nI_add]
theorem ix2w (a w : Nat) : 3 + 2 * nI a + nI w = nI (3 + 2 * a + w) := by rw [ix2, nI_add]
theorem ix4 (i : Nat) : 23 + 4 * nI i = nI (23 + 4 * i) := by
  show nI 23 + nI 4 * nI i = _
  rw [pk_mul, nI_add]
theorem ix4w (i w : Nat) : 23 + 4 * nI i + nI w = nI (23 + 4 * i + w) := by rw [ix4, nI_add]
theorem ix3 (i : Nat) : 87 + 3 * nI i = nI (87 + 3 * i) := by
  show nI 87 + nI 3 * nI i = _
  rw [pk_mul, nI_add]
section
variable {E : ET} {l : Launch} {I : MI} {L : ML} {p : Nat → Nat} {D : Nat → Nat}
theorem m_kindOf (hR : RM I D) {a : Nat} (ha : a < 10) : Ct E l yX6_kindOf wsX6_kindOf rmX6_kindOf [.ref 96, .int (nI a)] (HE E I L p) (some (.int (nI (D (3 + 2 * a))))) (HE E I L p) := by
  refine Ct.mk (by decide) rfl (Nat.le_of_ble_eq_true rfl) ?_
  rintro X rfl rfl hX - hRt
  exact RX6_kindOf_0 hX _ ⟨_, ix2 a, by omega, hRt.toI (hR _ (by omega)).symm⟩
theorem m_numberOf (hR : RM I D) {a : Nat} (ha : a < 10) : Ct E l yX6_numberOf wsX6_numberOf rmX6_numberOf [.ref 96, .int (nI a)] (HE E I L p) (some (.int (nI (D (4 + 2 * a))))) (HE E I L p) := by
  refine Ct.mk (by decide) rfl (Nat.le_of_ble_eq_true rfl) ?_
  rintro X rfl rfl hX - hRt
  exact RX6_numberOf_0 hX _ ⟨4 + 2 * a, by rw [ix2, nI_1]; congr 1; omega, by omega, hRt.toI (hR _ (by omega)).symm⟩
theorem m_pipeOf (hR : RM I D) {i w : Nat} (hi : i < 16) (hw : w < 4) : Ct E l yX6_pipeOf wsX6_pipeOf rmX6_pipeOf [.ref 96, .int (nI i), .int (nI w)] (HE E I L p) (some (.int (nI (D (23 + 4 * i + w))))) (HE E I L p) := by
  refine Ct.mk (by decide) rfl (Nat.le_of_ble_eq_true rfl) ?_
  rintro X rfl rfl hX - hRt
  exact RX6_pipeOf_0 hX _ _ ⟨_, ix4w i w, by omega, hRt.toI (hR _ (by omega)).symm⟩
theorem m_fr (hR : RM I D) {i : Nat} (hi : i < 16) : Ct E l yX6_pipeOf wsX6_pipeOf rmX6_pipeOf [.ref 96, .int (nI i), .int 0] (HE E I L p) (some (.int (nI (fr D i)))) (HE E I L p) := m_pipeOf hR hi (w := 0) (by decide)
theorem m_tt (hR : RM I D) {i : Nat} (hi : i < 16) : Ct E l yX6_pipeOf wsX6_pipeOf rmX6_pipeOf [.ref 96, .int (nI i), .int 1] (HE E I L p) (some (.int (nI (tt D i)))) (HE E I L p) := by
  have := m_pipeOf (E := E) (l := l) (L := L) (p := p) hR hi (w := 1) (by decide)
  rw [show 23 + 4 * i + 1 = 24 + 4 * i by omega] at this
  exact this
theorem m_lw (hR : RM I D) {i : Nat} (hi : i < 16) : Ct E l yX6_pipeOf wsX6_pipeOf rmX6_pipeOf [.ref 96, .int (nI i), .int 2] (HE E I L p) (some (.int (nI (lw D i)))) (HE E I L p) := by
  have := m_pipeOf (E := E) (l := l) (L := L) (p := p) hR hi (w := 2) (by decide)
  rw [show 23 + 4 * i + 2 = 25 + 4 * i by omega] at this
  exact this
theorem m_hg (hR : RM I D) {i : Nat} (hi : i < 16) : Ct E l yX6_pipeOf wsX6_pipeOf rmX6_pipeOf [.ref 96, .int (nI i), .int 3] (HE E I L p) (some (.int (nI (hg D i)))) (HE E I L p) := by
  have := m_pipeOf (E := E) (l := l) (L := L) (p := p) hR hi (w := 3) (by decide)
  rw [show 23 + 4 * i + 3 = 26 + 4 * i by omega] at this
  exact this
/-- v is the number of one of n things -/
def ok (v : Int32) (n : Nat) : Prop := ∃ a, a < n ∧ v = nI a
theorem ok_lt {v : Int32} {n : Nat} (hn : n < 2 ^ 31) : (0 ≤ v ∧ v ≤ nI n - 1) ↔ ok v n := by
  rcases Nat.eq_zero_or_pos n with h | h
  · subst h
    constructor
    · rintro ⟨h1, h2⟩
      have a1 := (fa_le _ _).mp h1
      have a2 := (fa_le _ _).mp h2
      rw [show nI 0 - 1 = (-1 : Int32) by decide] at a2
      rw [Int32.toInt_zero] at a1
      rw [show (-1 : Int32).toInt = -1 by decide] at a2
      omega
    · rintro ⟨a, ha, -⟩
      omega
  · obtain ⟨m, rfl⟩ : ∃ m, n = m + 1 := ⟨n - 1, by omega⟩
    rw [nI_pred, show (0 : Int32) = nI 0 from rfl, inN (by decide) (by omega)]
    constructor
    · rintro ⟨a, rfl, -, h2⟩
      exact ⟨a, by omega, rfl⟩
    · rintro ⟨a, h2, rfl⟩
      exact ⟨a, rfl, by omega, by omega⟩
noncomputable def b2i (P : Prop) : Int32 := if bdec P then 1 else 0
theorem b2i_pos {P : Prop} (h : P) : b2i P = 1 := by unfold b2i; rw [(bdec_iff P).mpr h]; rfl
theorem b2i_neg {P : Prop} (h : ¬ P) : b2i P = 0 := by
  unfold b2i
  cases hd : bdec P with
  | false => rfl
  | true => exact absurd ((bdec_iff P).mp hd) h
theorem b2i_0 {P : Prop} : b2i P = 0 ↔ ¬ P := by
  by_cases h : P
  · rw [b2i_pos h]; simp [h]
  · rw [b2i_neg h]; simp [h]
theorem b2i_n0 {P : Prop} : ¬ b2i P = 0 ↔ P := by rw [b2i_0, Classical.not_not]
theorem b2i_01 {P : Prop} : b2i P = 0 ∨ b2i P = 1 := by
  by_cases h : P
  · exact Or.inr (b2i_pos h)
  · exact Or.inl (b2i_neg h)
theorem b2i_if {P Q : Prop} [Decidable P] (h : P ↔ Q) : (if P then (1 : Int32) else 0) = b2i Q := by
  by_cases hp : P
  · rw [if_pos hp, b2i_pos (h.mp hp)]
  · rw [if_neg hp, b2i_neg (fun q => hp (h.mpr q))]
theorem m_inP (v : Int32) {a b : Int32} {Q : Prop} (h : (a ≤ v ∧ v ≤ b) ↔ Q) : Ct E l yX6_in wsX6_in rmX6_in [.int v, .int a, .int b] (HE E I L p) (some (.int (b2i Q))) (HE E I L p) := by
  have := m_in (E := E) (l := l) (I := I) (L := L) (p := p) v a b
  rw [b2i_if h] at this
  exact this
theorem m_isShaft (hR : RM I D) (hW : WF D) (v : Int32) : Ct E l yX6_isShaft wsX6_isShaft rmX6_isShaft [.ref 96, .int v] (HE E I L p) (some (.int (b2i (ok v (D 0))))) (HE E I L p) := by
  refine Ct.mk (by decide) rfl (Nat.le_of_ble_eq_true rfl) ?_
  rintro X rfl rfl hX - hRt
  refine RX6_isShaft_0 hX v ⟨_, m_inP v (Q := ok v (D 0)) ?_, b2i_01, hRt⟩
  rw [hR 0 (by decide)]
  exact ok_lt (by have := hW.S; omega)
theorem m_isPipe (hR : RM I D) (hW : WF D) (v : Int32) : Ct E l yX6_isPipe wsX6_isPipe rmX6_isPipe [.ref 96, .int v] (HE E I L p) (some (.int (b2i (ok v (D 1))))) (HE E I L p) := by
  refine Ct.mk (by decide) rfl (Nat.le_of_ble_eq_true rfl) ?_
  rintro X rfl rfl hX - hRt
  refine RX6_isPipe_0 hX v ⟨_, m_inP v (Q := ok v (D 1)) ?_, b2i_01, hRt⟩
  rw [hR 1 (by decide)]
  exact ok_lt (by have := hW.P; omega)
/-- v is a number from a to b -/
def btw (v : Int32) (a b : Nat) : Prop := ∃ n, v = nI n ∧ a ≤ n ∧ n ≤ b
theorem m_btw (v : Int32) {a b : Nat} (ha : a < 2 ^ 31) (hb : b < 2 ^ 31) : Ct E l yX6_in wsX6_in rmX6_in [.int v, .int (nI a), .int (nI b)] (HE E I L p) (some (.int (b2i (btw v a b)))) (HE E I L p) := m_inP v (inN ha hb)
theorem m_isKind (v : Int32) : Ct E l yX6_isKind wsX6_isKind rmX6_isKind [.int v] (HE E I L p) (some (.int (b2i (btw v 0 4)))) (HE E I L p) := by
  refine Ct.mk (by decide) rfl (Nat.le_of_ble_eq_true rfl) ?_
  rintro X rfl rfl hX - hRt
  exact RX6_isKind_0 hX v ⟨_, m_btw v (a := 0) (b := 4) (by decide) (by decide), b2i_01, hRt⟩
theorem m_below (hR : RM I D) (hW : WF D) {a : Nat} (ha : a < D 0) : Ct E l yX6_below wsX6_below rmX6_below [.ref 96, .int (nI a)] (HE E I L p) (some (.int (nI (bl D a)))) (HE E I L p) := by
  refine Ct.mk (by decide) rfl (Nat.le_of_ble_eq_true rfl) ?_
  rintro X rfl rfl hX - hRt
  have hS := hW.S
  have hP := hW.P
  refine RX6_below_0 hX _ ?_
  rw [jshl_1 (by omega)]
  -- the inner loop
  have inner : ∀ s, s < 1024 → G X 0 0 6 [(0, .ref 96), (1, .int (nI a)), (2, .int (nI (sw D s (D 1)))), (3, .int (nI s))] [] (HM X I L p) → G X 0 0 16 [(0, .ref 96), (1, .int (nI a)), (2, .int (nI s)), (3, .int (nI s)), (4, .int 0)] [] (HM X I L p) := by
    intro s hs k0
    refine loop_up (N := D 1) (Q := fun i => G X 0 0 16 [(0, .ref 96), (1, .int (nI a)), (2, .int (nI (sw D s i))), (3, .int (nI s)), (4, .int (nI i))] [] (HM X I L p)) (fun i hi k => ?_) 0 (Nat.zero_le _) ?_
    · have hsw := sw_lt hW hs i (by omega)
      have hf := (hW.pipe hi).1
      have ht := (hW.pipe hi).2.1
      refine RX6_below_16 hX _ _ _ _ ⟨fun h => absurd h ?_, fun _ => ⟨_, m_fr hR (by omega), _, m_has (by omega) (by omega), fun h => ?_, fun h => ⟨_, m_tt hR (by omega), ?_⟩⟩⟩
      · rw [hR 1 (by decide)]
        exact nI_ge hi (by omega)
      · rw [b01_0] at h
        have e : sw D s (i + 1) = sw D s i := by rw [sw, if_neg h]
        rw [nI_1, show nI (sw D s i) ||| 0 = nI (sw D s i) by simp]
        rw [e] at k
        exact k
      · rw [b01_0, Classical.not_not] at h
        have e : sw D s (i + 1) = sw D s i ||| 2 ^ tt D i := by rw [sw, if_pos h]
        rw [nI_1, jshl_1 (by omega), fa_or, ← e]
        exact k
    · refine RX6_below_16 hX _ _ _ _ ⟨fun _ => k0, fun h => absurd ?_ h⟩
      rw [hR 1 (by decide)]
      exact nI_le (Nat.le_refl _) (by omega)
  -- the outer loop
  have outer : ∀ n s w, 2 * (1024 - s) + (if w = s then 0 else 1) ≤ n → s < 1024 → w < 1024 → s.testBit a = true → (∀ k, s.testBit k = true → Rc D a k) → (w = s → ∀ i, i < D 1 → s.testBit (fr D i) = true → s.testBit (tt D i) = true) → G X 0 0 6 [(0, .ref 96), (1, .int (nI a)), (2, .int (nI s)), (3, .int (nI w))] [] (HM X I L p) := by
    intro n
    induction n with
    | zero => intro s w h hs; omega
    | succ n ih =>
      intro s w h hs hw h1 h2 h3
      refine RX6_below_6 hX _ _ _ ⟨fun e => ?_, fun e => inner s hs ?_⟩
      · have e2 := (nI_eq (by omega) (by omega)).mp e
        exact hRt.toI (by rw [← sw_done hs h1 h2 (h3 e2)])
      · have e2 : ¬ w = s := fun q => e (by rw [q])
        rw [if_neg e2] at h
        have hle : s ≤ sw D s (D 1) := by
          have := sw_mono D s (i := 0) (D 1)
          rw [Nat.zero_add] at this
          exact this
        refine ih (sw D s (D 1)) s ?_ (sw_lt hW hs _ (Nat.le_refl _)) hs (sw_keeps h1 _) (sw_sound h2 _ (Nat.le_refl _)) (fun q i hi hb => ?_)
        · by_cases q : s = sw D s (D 1)
          · rw [if_pos q]; omega
          · rw [if_neg q]; omega
        · rw [← q] at hb ⊢
          exact sw_fix q.symm i hi hb
  have hp1 : 2 ^ a < 2 ^ 10 := Nat.pow_lt_pow_right (by decide) (by omega)
  have hp0 : 0 < 2 ^ a := Nat.two_pow_pos a
  refine outer (2 * 1024 + 1) (2 ^ a) 0 (by split <;> omega) (by omega) (by decide) ?_ ?_ ?_
  · simp
  · intro k hk
    rw [Nat.testBit_two_pow, decide_eq_true_eq] at hk
    rw [hk]
    exact Rc.self D k
  · intro h
    omega
end
