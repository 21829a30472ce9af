/-! The model's public orders. -/
theorem aShaft_n {D : Dr} (hW : WF D) (x1 x2 : Int32) : neg3 (aShaft x1 x2 D).1 ∧ ((aShaft x1 x2 D).1 < 0 → (aShaft x1 x2 D).2 = D) := by
  have hS := hW.S
  unfold aShaft
  by_cases h : btw x1 0 4 ∧ btw x2 1 15
  · rw [bif_pos h]
    by_cases h2 : D 0 = 10
    · rw [if_pos h2]; exact ⟨fun _ => by simp, fun _ => rfl⟩
    · rw [if_neg h2]; exact ⟨fun q => absurd q (nI_pos (by omega)), fun q => absurd q (nI_pos (by omega))⟩
  · rw [bif_neg h]; exact ⟨fun _ => by simp, fun _ => rfl⟩
theorem aSets_n {D : Dr} (hW : WF D) (x1 x2 x3 : Int32) : neg3 (aSets x1 x2 x3 D).1 ∧ ((aSets x1 x2 x3 D).1 < 0 → (aSets x1 x2 x3 D).2 = D) := by
  have hS := hW.S
  unfold aSets
  by_cases h : ok x1 (D 0) ∧ (x2 = 0 ∧ btw x3 0 4 ∨ x2 = 1 ∧ btw x3 1 15)
  · rw [bif_pos h]
    have h1 := (h.1.cl (by omega)).1
    have h2 : x2.toNatClampNeg ≤ 1 := by rcases h.2 with ⟨rfl, -⟩ | ⟨rfl, -⟩ <;> decide
    have h3 := hW.all (3 + 2 * x1.toNatClampNeg + x2.toNatClampNeg) (by omega)
    exact ⟨fun q => absurd q (nI_pos (by omega)), fun q => absurd q (nI_pos (by omega))⟩
  · rw [bif_neg h]; exact ⟨fun _ => by simp, fun _ => rfl⟩
theorem aPipe_n {D : Dr} (hW : WF D) (x1 x2 x3 x4 : Int32) : neg3 (aPipe x1 x2 x3 x4 D).1 ∧ ((aPipe x1 x2 x3 x4 D).1 < 0 → (aPipe x1 x2 x3 x4 D).2 = D) := by
  have hP := hW.P
  unfold aPipe
  by_cases h : ok x1 (D 0) ∧ ok x2 (D 0) ∧ ¬ x1 = x2 ∧ btw x3 0 9 ∧ x3 ≤ x4 ∧ x4 ≤ 9
  · rw [bif_pos h]
    by_cases h2 : Rc D x2.toNatClampNeg x1.toNatClampNeg
    · rw [bif_pos h2]; exact ⟨fun _ => by simp, fun _ => rfl⟩
    · rw [bif_neg h2]
      by_cases h3 : D 1 = 16
      · rw [if_pos h3]; exact ⟨fun _ => by simp, fun _ => rfl⟩
      · rw [if_neg h3]; exact ⟨fun q => absurd q (nI_pos (by omega)), fun q => absurd q (nI_pos (by omega))⟩
  · rw [bif_neg h]; exact ⟨fun _ => by simp, fun _ => rfl⟩
theorem aDrop_n {D : Dr} (hW : WF D) (x1 : Int32) : neg3 (aDrop x1 D).1 ∧ ((aDrop x1 D).1 < 0 → (aDrop x1 D).2 = D) := by
  have hP := hW.P
  unfold aDrop
  by_cases h : ok x1 (D 1)
  · rw [bif_pos h]; exact ⟨fun q => absurd q (nI_pos (by omega)), fun q => absurd q (nI_pos (by omega))⟩
  · rw [bif_neg h]; exact ⟨fun _ => by simp, fun _ => rfl⟩
theorem aSight_n {D : Dr} (hW : WF D) (x1 x2 x3 : Int32) : neg3 (aSight x1 x2 x3 D).1 ∧ ((aSight x1 x2 x3 D).1 < 0 → (aSight x1 x2 x3 D).2 = D) := by
  have hT := hW.T
  unfold aSight
  by_cases h : btw x1 0 1 ∧ ok x2 (D 0) ∧ btw x3 0 62
  · rw [bif_pos h]
    by_cases h2 : D 2 = 12
    · rw [if_pos h2]; exact ⟨fun _ => by simp, fun _ => rfl⟩
    · rw [if_neg h2]; exact ⟨fun q => absurd q (nI_pos (by omega)), fun q => absurd q (nI_pos (by omega))⟩
  · rw [bif_neg h]; exact ⟨fun _ => by simp, fun _ => rfl⟩
theorem aForget_n {D : Dr} (hW : WF D) : neg3 (aForget D).1 ∧ ((aForget D).1 < 0 → (aForget D).2 = D) := by
  have hT := hW.T
  unfold aForget
  exact ⟨fun q => absurd q (nI_pos (by omega)), fun q => absurd q (nI_pos (by omega))⟩
section
variable {E : ET} {l : Launch} {I : MI} {L : ML} {p : Nat → Nat} {s : Sg}
theorem RM_hI {D : Dr} (h : RM I D) : RM (hI I 123) D := fun k hk => by
  have : hI I 123 97 k = I 97 k := by simp [hI]
  rw [this]; exact h k hk
theorem m_shaft (hV : VM I s) (hW : GW s) (x1 x2 : Int32) : ∃ I', Ct E l yX6_shaft wsX6_shaft rmX6_shaft [.ref 96, .int x1, .int x2] (HE E I L p) (some (.int (opn (aShaft x1 x2) s).1)) (HE E I' L p) ∧ VM I' (opn (aShaft x1 x2) s).2 ∧ ∀ r, r < 96 → I' r = I r := by
  obtain ⟨I2, hC, hR2, hf⟩ := m_doShaft (E := E) (l := l) (L := L) (p := p) (RM_hI hV.1) hW.1 x1 x2
  obtain ⟨n1, n2⟩ := aShaft_n hW.1 x1 x2
  obtain ⟨I', hC2, hV', hfr⟩ := m_public (E := E) (l := l) (L := L) (p := p) (A := aShaft x1 x2) hV n1 hR2 hf (fun c => by rw [n2 c] at hR2; exact hR2)
  refine ⟨I', Ct.mk (by decide) rfl (Nat.le_of_ble_eq_true rfl) ?_, hV', hfr⟩
  rintro X rfl rfl hX - hRt
  exact RX6_shaft_0 hX _ _ ⟨_, m_hold, _, _, hC, _, _, hC2, hRt⟩
theorem m_sets (hV : VM I s) (hW : GW s) (x1 x2 x3 : Int32) : ∃ I', Ct E l yX6_sets wsX6_sets rmX6_sets [.ref 96, .int x1, .int x2, .int x3] (HE E I L p) (some (.int (opn (aSets x1 x2 x3) s).1)) (HE E I' L p) ∧ VM I' (opn (aSets x1 x2 x3) s).2 ∧ ∀ r, r < 96 → I' r = I r := by
  obtain ⟨I2, hC, hR2, hf⟩ := m_doSets (E := E) (l := l) (L := L) (p := p) (RM_hI hV.1) hW.1 x1 x2 x3
  obtain ⟨n1, n2⟩ := aSets_n hW.1 x1 x2 x3
  obtain ⟨I', hC2, hV', hfr⟩ := m_public (E := E) (l := l) (L := L) (p := p) (A := aSets x1 x2 x3) hV n1 hR2 hf (fun c => by rw [n2 c] at hR2; exact hR2)
  refine ⟨I', Ct.mk (by decide) rfl (Nat.le_of_ble_eq_true rfl) ?_, hV', hfr⟩
  rintro X rfl rfl hX - hRt
  exact RX6_sets_0 hX _ _ _ ⟨_, m_hold, _, _, hC, _, _, hC2, hRt⟩
theorem m_pipe (hV : VM I s) (hW : GW s) (x1 x2 x3 x4 : Int32) : ∃ I', Ct E l yX6_pipe wsX6_pipe rmX6_pipe [.ref 96, .int x1, .int x2, .int x3, .int x4] (HE E I L p) (some (.int (opn (aPipe x1 x2 x3 x4) s).1)) (HE E I' L p) ∧ VM I' (opn (aPipe x1 x2 x3 x4) s).2 ∧ ∀ r, r < 96 → I' r = I r := by
  obtain ⟨I2, hC, hR2, hf⟩ := m_doPipe (E := E) (l := l) (L := L) (p := p) (RM_hI hV.1) hW.1 x1 x2 x3 x4
  obtain ⟨n1, n2⟩ := aPipe_n hW.1 x1 x2 x3 x4
  obtain ⟨I', hC2, hV', hfr⟩ := m_public (E := E) (l := l) (L := L) (p := p) (A := aPipe x1 x2 x3 x4) hV n1 hR2 hf (fun c => by rw [n2 c] at hR2; exact hR2)
  refine ⟨I', Ct.mk (by decide) rfl (Nat.le_of_ble_eq_true rfl) ?_, hV', hfr⟩
  rintro X rfl rfl hX - hRt
  exact RX6_pipe_0 hX _ _ _ _ ⟨_, m_hold, _, _, hC, _, _, hC2, hRt⟩
theorem m_drops (hV : VM I s) (hW : GW s) (x1 : Int32) : ∃ I', Ct E l yX6_drops wsX6_drops rmX6_drops [.ref 96, .int x1] (HE E I L p) (some (.int (opn (aDrop x1) s).1)) (HE E I' L p) ∧ VM I' (opn (aDrop x1) s).2 ∧ ∀ r, r < 96 → I' r = I r := by
  obtain ⟨I2, hC, hR2, hf⟩ := m_doDrops (E := E) (l := l) (L := L) (p := p) (RM_hI hV.1) hW.1 x1
  obtain ⟨n1, n2⟩ := aDrop_n hW.1 x1
  obtain ⟨I', hC2, hV', hfr⟩ := m_public (E := E) (l := l) (L := L) (p := p) (A := aDrop x1) hV n1 hR2 hf (fun c => by rw [n2 c] at hR2; exact hR2)
  refine ⟨I', Ct.mk (by decide) rfl (Nat.le_of_ble_eq_true rfl) ?_, hV', hfr⟩
  rintro X rfl rfl hX - hRt
  exact RX6_drops_0 hX _ ⟨_, m_hold, _, _, hC, _, _, hC2, hRt⟩
theorem m_sight (hV : VM I s) (hW : GW s) (x1 x2 x3 : Int32) : ∃ I', Ct E l yX6_sight wsX6_sight rmX6_sight [.ref 96, .int x1, .int x2, .int x3] (HE E I L p) (some (.int (opn (aSight x1 x2 x3) s).1)) (HE E I' L p) ∧ VM I' (opn (aSight x1 x2 x3) s).2 ∧ ∀ r, r < 96 → I' r = I r := by
  obtain ⟨I2, hC, hR2, hf⟩ := m_doSight (E := E) (l := l) (L := L) (p := p) (RM_hI hV.1) hW.1 x1 x2 x3
  obtain ⟨n1, n2⟩ := aSight_n hW.1 x1 x2 x3
  obtain ⟨I', hC2, hV', hfr⟩ := m_public (E := E) (l := l) (L := L) (p := p) (A := aSight x1 x2 x3) hV n1 hR2 hf (fun c => by rw [n2 c] at hR2; exact hR2)
  refine ⟨I', Ct.mk (by decide) rfl (Nat.le_of_ble_eq_true rfl) ?_, hV', hfr⟩
  rintro X rfl rfl hX - hRt
  exact RX6_sight_0 hX _ _ _ ⟨_, m_hold, _, _, hC, _, _, hC2, hRt⟩
theorem m_forget (hV : VM I s) (hW : GW s) : ∃ I', Ct E l yX6_forget wsX6_forget rmX6_forget [.ref 96] (HE E I L p) (some (.int (opn aForget s).1)) (HE E I' L p) ∧ VM I' (opn aForget s).2 ∧ ∀ r, r < 96 → I' r = I r := by
  obtain ⟨I2, hC, hR2, hf⟩ := m_doForget (E := E) (l := l) (L := L) (p := p) (RM_hI hV.1)
  obtain ⟨n1, n2⟩ := aForget_n hW.1
  obtain ⟨I', hC2, hV', hfr⟩ := m_public (E := E) (l := l) (L := L) (p := p) (A := aForget) hV n1 hR2 hf (fun c => by rw [n2 c] at hR2; exact hR2)
  refine ⟨I', Ct.mk (by decide) rfl (Nat.le_of_ble_eq_true rfl) ?_, hV', hfr⟩
  rintro X rfl rfl hX - hRt
  exact RX6_forget_0 hX ⟨_, m_hold, _, _, hC, _, _, hC2, hRt⟩
/-- back -/
def aBack (s : Sg) : Int32 × Sg := if gc s = 0 then (-3, rf s 1) else (nI (gc s - 1), (gQ s (gc s - 1), gQ s, gc s - 1, gx s, gt s, gf s))
theorem GW_back (h : GW s) : GW (aBack s).2 := by
  unfold aBack
  by_cases c : gc s = 0
  · rw [if_pos c]; exact h
  · rw [if_neg c]
    obtain ⟨h1, h2, h3, h4, h5⟩ := h
    exact ⟨h3 _ (by omega), by show gc s - 1 ≤ 5; omega, fun j hj => h3 j (by have hj' : j < gc s - 1 := hj; omega), h4, h5⟩
def bI (I : MI) (b n : Nat) : MI := fun r k => if r = 97 ∧ k < n then I 99 (b + k) else I r k
theorem m_back (hV : VM I s) (hW : GW s) : ∃ I', Ct E l yX6_back wsX6_back rmX6_back [.ref 96] (HE E I L p) (some (.int (aBack s).1)) (HE E I' L p) ∧ VM I' (aBack s).2 ∧ ∀ r, r < 96 → I' r = I r := by
  obtain ⟨h1, ⟨a1, a2, a3⟩, h3, h4⟩ := id hV
  unfold aBack
  by_cases c : gc s = 0
  · rw [if_pos c]
    refine ⟨upI I 100 1 (I 100 1 + 1), Ct.mk (by decide) rfl (Nat.le_of_ble_eq_true rfl) ?_, VM_rf hV, fun r hr => by rw [upI_R (by omega)]⟩
    rintro X rfl rfl hX - hRt
    exact RX6_back_0 hX ⟨fun q => absurd (by rw [a1, c]; rfl) q, fun _ => ⟨_, _, m_refuses (j := 1) (by decide) _ (by decide), hRt⟩⟩
  · rw [if_neg c]
    obtain ⟨d, hd⟩ : ∃ d, gc s = d + 1 := ⟨gc s - 1, by omega⟩
    rw [hd, Nat.add_sub_cancel]
    refine ⟨bI (upI I 96 3 (nI d)) (123 * d) 123, Ct.mk (by decide) rfl (Nat.le_of_ble_eq_true rfl) ?_, ?_, ?_⟩
    · rintro X rfl rfl hX - hRt
      refine RX6_back_0 hX ⟨fun _ => ?_, fun q => absurd ?_ c⟩
      · have e : I 96 3 - 1 = nI d := by rw [a1, hd, nI_pred]
        rw [e]
        have e3 : ∀ i, bI (upI I 96 3 (nI d)) (123 * d) i 96 3 = nI d := fun i => by simp [bI, upI]
        have es : ∀ i, upI (bI (upI I 96 3 (nI d)) (123 * d) i) 97 i (bI (upI I 96 3 (nI d)) (123 * d) i 99 (123 * d + i)) = bI (upI I 96 3 (nI d)) (123 * d) (i + 1) := by
          intro i
          generalize upI I 96 3 (nI d) = J
          funext r k
          unfold upI bI
          by_cases c : r = 97
          · subst c
            by_cases d : k = i
            · subst d; simp
            · simp only [d, and_false, if_false, true_and]
              by_cases f : k < i
              · rw [if_pos f, if_pos (by omega)]
              · rw [if_neg f, if_neg (by omega)]
          · simp [c]
        have key : ∀ i, i ≤ 123 → G X 0 0 26 [(0, .ref 96), (1, .int (nI 123))] [] (HM X (bI (upI I 96 3 (nI d)) (123 * d) 123) L p) → G X 0 0 26 [(0, .ref 96), (1, .int (nI i))] [] (HM X (bI (upI I 96 3 (nI d)) (123 * d) i) L p) :=
          loop_up (N := 123) (Q := fun i => G X 0 0 26 [(0, .ref 96), (1, .int (nI i))] [] (HM X (bI (upI I 96 3 (nI d)) (123 * d) i) L p)) (fun i hi k => RX6_back_26 hX _ ⟨fun q => absurd q (nI_ge hi (by decide)), fun _ => ⟨123 * d + i, by rw [e3, show (123 : Int32) = nI 123 from rfl, pk_mul, nI_add], by omega, i, rfl, hi, by rw [nI_1, es]; exact k⟩⟩)
        have k0 := key 0 (by decide) (RX6_back_26 hX _ ⟨fun _ => by rw [e3]; exact hRt, fun q => absurd (by decide) q⟩)
        have e0 : bI (upI I 96 3 (nI d)) (123 * d) 0 = upI I 96 3 (nI d) := by funext r k; simp [bI]
        rw [e0] at k0
        exact k0
      · rw [a1] at q
        exact (nI_eq (by omega) (by decide)).mp q
    · refine ⟨fun k hk => ?_, ⟨?_, ?_, fun j hj k hk => ?_⟩, ⟨?_, fun k hk => ?_⟩, fun i hi => ?_⟩
      · have : bI (upI I 96 3 (nI d)) (123 * d) 123 97 k = I 99 (123 * d + k) := by simp [bI, hk, upI]
        rw [this]; exact a3 d (by omega) k hk
      · simp [bI, upI]
      · show d ≤ 5; omega
      · have : bI (upI I 96 3 (nI d)) (123 * d) 123 99 (123 * j + k) = I 99 (123 * j + k) := by simp [bI, upI]
        rw [this]; exact a3 j (by have hj' : j < d := hj; omega) k hk
      · have : bI (upI I 96 3 (nI d)) (123 * d) 123 96 8 = I 96 8 := by simp [bI, upI]
        rw [this]; exact h3.1
      · have : bI (upI I 96 3 (nI d)) (123 * d) 123 103 k = I 103 k := by simp [bI, upI]
        rw [this]; exact h3.2 k hk
      · have : bI (upI I 96 3 (nI d)) (123 * d) 123 100 i = I 100 i := by simp [bI, upI]
        rw [this]; exact h4 i hi
    · intro r hr
      funext k
      have e1 : r ≠ 97 := by omega
      have e2 : r ≠ 96 := by omega
      simp [bI, upI, e1, e2]
end
