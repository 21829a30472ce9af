/-! The class's orders. -/
theorem nI_upd {I : MI} {D : Dr} {R k J R' k' J' v : Nat} (h : I R k = nI (D J)) (hne : (R = R' ∧ k = k') ↔ J = J') : upI I R' k' (nI v) R k = nI (va_up D J' v J) := by
  unfold upI va_up
  by_cases c : J = J'
  · rw [if_pos (hne.mpr c), if_pos c]
  · rw [if_neg (fun q => c (hne.mp q)), if_neg c]; exact h
/-- which place of the class's rows is which of D -/
def Pm (R k J : Nat) : Prop := (R = 1 ∧ k = 0 ∧ J = 0) ∨ (R = 1 ∧ k = 3 ∧ J = 1) ∨ (R = 1 ∧ k = 8 ∧ J = 2) ∨ (R = 2 ∧ k < 10 ∧ J = 3 + 2 * k) ∨ (R = 3 ∧ k < 10 ∧ J = 4 + 2 * k) ∨ (R = 4 ∧ k < 16 ∧ J = 23 + 4 * k) ∨ (R = 5 ∧ k < 16 ∧ J = 24 + 4 * k) ∨ (R = 6 ∧ k < 16 ∧ J = 25 + 4 * k) ∨ (R = 7 ∧ k < 16 ∧ J = 26 + 4 * k) ∨ (R = 8 ∧ k < 12 ∧ J = 87 + 3 * k) ∨ (R = 9 ∧ k < 12 ∧ J = 88 + 3 * k) ∨ (R = 10 ∧ k < 12 ∧ J = 89 + 3 * k)
theorem Pm_S : Pm 1 0 0 := Or.inl ⟨rfl, rfl, rfl⟩
theorem Pm_P : Pm 1 3 1 := Or.inr (Or.inl ⟨rfl, rfl, rfl⟩)
theorem Pm_T : Pm 1 8 2 := Or.inr (Or.inr (Or.inl ⟨rfl, rfl, rfl⟩))
theorem Pm_k {k : Nat} (h : k < 10) : Pm 2 k (3 + 2 * k) := Or.inr (Or.inr (Or.inr (Or.inl ⟨rfl, h, rfl⟩)))
theorem Pm_pc {k : Nat} (h : k < 10) : Pm 3 k (4 + 2 * k) := Or.inr (Or.inr (Or.inr (Or.inr (Or.inl ⟨rfl, h, rfl⟩))))
theorem Pm_fr {k : Nat} (h : k < 16) : Pm 4 k (23 + 4 * k) := Or.inr (Or.inr (Or.inr (Or.inr (Or.inr (Or.inl ⟨rfl, h, rfl⟩)))))
theorem Pm_tt {k : Nat} (h : k < 16) : Pm 5 k (24 + 4 * k) := Or.inr (Or.inr (Or.inr (Or.inr (Or.inr (Or.inr (Or.inl ⟨rfl, h, rfl⟩))))))
theorem Pm_lw {k : Nat} (h : k < 16) : Pm 6 k (25 + 4 * k) := Or.inr (Or.inr (Or.inr (Or.inr (Or.inr (Or.inr (Or.inr (Or.inl ⟨rfl, h, rfl⟩)))))))
theorem Pm_hg {k : Nat} (h : k < 16) : Pm 7 k (26 + 4 * k) := Or.inr (Or.inr (Or.inr (Or.inr (Or.inr (Or.inr (Or.inr (Or.inr (Or.inl ⟨rfl, h, rfl⟩))))))))
theorem Pm_so {k : Nat} (h : k < 12) : Pm 8 k (87 + 3 * k) := Or.inr (Or.inr (Or.inr (Or.inr (Or.inr (Or.inr (Or.inr (Or.inr (Or.inr (Or.inl ⟨rfl, h, rfl⟩)))))))))
theorem Pm_pl {k : Nat} (h : k < 12) : Pm 9 k (88 + 3 * k) := Or.inr (Or.inr (Or.inr (Or.inr (Or.inr (Or.inr (Or.inr (Or.inr (Or.inr (Or.inr (Or.inl ⟨rfl, h, rfl⟩))))))))))
theorem Pm_mi {k : Nat} (h : k < 12) : Pm 10 k (89 + 3 * k) := Or.inr (Or.inr (Or.inr (Or.inr (Or.inr (Or.inr (Or.inr (Or.inr (Or.inr (Or.inr (Or.inr (⟨rfl, h, rfl⟩)))))))))))
theorem Pm_inj {R k J R' k' J' : Nat} (hm : Pm R k J) (hm' : Pm R' k' J') : (R' = R ∧ k' = k) ↔ J' = J := by
  rcases hm with ⟨rfl, q, rfl⟩ | ⟨rfl, q, rfl⟩ | ⟨rfl, q, rfl⟩ | ⟨rfl, q, rfl⟩ | ⟨rfl, q, rfl⟩ | ⟨rfl, q, rfl⟩ | ⟨rfl, q, rfl⟩ | ⟨rfl, q, rfl⟩ | ⟨rfl, q, rfl⟩ | ⟨rfl, q, rfl⟩ | ⟨rfl, q, rfl⟩ | ⟨rfl, q, rfl⟩ <;>
    rcases hm' with ⟨rfl, q', rfl⟩ | ⟨rfl, q', rfl⟩ | ⟨rfl, q', rfl⟩ | ⟨rfl, q', rfl⟩ | ⟨rfl, q', rfl⟩ | ⟨rfl, q', rfl⟩ | ⟨rfl, q', rfl⟩ | ⟨rfl, q', rfl⟩ | ⟨rfl, q', rfl⟩ | ⟨rfl, q', rfl⟩ | ⟨rfl, q', rfl⟩ | ⟨rfl, q', rfl⟩ <;> omega
theorem RD_iff {I : MI} {D : Dr} : RD I 1 D ↔ ∀ R k J, Pm R k J → I R k = nI (D J) := by
  constructor
  · rintro ⟨h0, h3, h8, ha, hi, ht⟩ R k J h
    rcases h with ⟨rfl, rfl, rfl⟩ | ⟨rfl, rfl, rfl⟩ | ⟨rfl, rfl, rfl⟩ | ⟨rfl, q, rfl⟩ | ⟨rfl, q, rfl⟩ | ⟨rfl, q, rfl⟩ | ⟨rfl, q, rfl⟩ | ⟨rfl, q, rfl⟩ | ⟨rfl, q, rfl⟩ | ⟨rfl, q, rfl⟩ | ⟨rfl, q, rfl⟩ | ⟨rfl, q, rfl⟩
    · exact h0
    · exact h3
    · exact h8
    · exact (ha k q).1
    · exact (ha k q).2
    · exact (hi k q).1
    · exact (hi k q).2.1
    · exact (hi k q).2.2.1
    · exact (hi k q).2.2.2
    · exact (ht k q).1
    · exact (ht k q).2.1
    · exact (ht k q).2.2
  · intro h
    exact ⟨h 1 0 0 Pm_S, h 1 3 1 Pm_P, h 1 8 2 Pm_T, fun a ha => ⟨h 2 a _ (Pm_k ha), h 3 a _ (Pm_pc ha)⟩, fun i hi => ⟨h 4 i _ (Pm_fr hi), h 5 i _ (Pm_tt hi), h 6 i _ (Pm_lw hi), h 7 i _ (Pm_hg hi)⟩, fun t ht => ⟨h 8 t _ (Pm_so ht), h 9 t _ (Pm_pl ht), h 10 t _ (Pm_mi ht)⟩⟩
theorem RD.up {I : MI} {D : Dr} (h : RD I 1 D) {R k J : Nat} (hm : Pm R k J) (v : Nat) : RD (upI I R k (nI v)) 1 (va_up D J v) := by
  rw [RD_iff] at h ⊢
  intro R' k' J' hm'
  exact nI_upd (h R' k' J' hm') (Pm_inj hm hm')
theorem bdec_congr {P Q : Prop} (h : P ↔ Q) : bdec P = bdec Q := by
  cases h1 : bdec P <;> cases h2 : bdec Q
  · rfl
  · exact absurd ((bdec_iff P).mpr (h.mpr ((bdec_iff Q).mp h2))) (by rw [h1]; simp)
  · exact absurd ((bdec_iff Q).mpr (h.mp ((bdec_iff P).mp h1))) (by rw [h2]; simp)
  · rfl
theorem bl_congr {D D' : Dr} (h1 : D' 1 = D 1) (h2 : ∀ i, i < D 1 → fr D' i = fr D i ∧ tt D' i = tt D i) (a : Nat) : bl D' a = bl D a := mk_ext fun _ _ => bdec_congr (Rc.congI h1 h2)
theorem RY.congD {I : MI} {r : Nat} {D D' : Dr} (h0 : D' 0 = D 0) (h1 : D' 1 = D 1) (h2 : ∀ i, i < D 1 → fr D' i = fr D i ∧ tt D' i = tt D i) (h : RY I r D) : RY I r D' := by
  obtain ⟨a, f, b, c1, c2, c3⟩ := h
  refine ⟨fun x hx => ?_, f, fun n hn => ?_, fun n hn => ?_, fun j hj => ?_, fun m n hmn hn => ?_⟩
  · rw [bl_congr h1 h2]; exact a x (by omega)
  · exact b n (by omega)
  · rw [h1] at hn ⊢; exact c1 n hn
  · rw [h1] at hj ⊢; exact c2 j hj
  · rw [h1] at hn
    unfold sz
    rw [(h2 _ (c1 n hn)).1, (h2 _ (c1 m (by omega))).1, bl_congr h1 h2, bl_congr h1 h2]
    exact c3 m n hmn hn
section
variable {E : ET} {l : Launch} {I : MI} {L : ML} {p : Nat → Nat} {D : Dr}
/-- what an order of the class owes: its answer, the drains behind it, and that nothing else has changed -/
def KOp (E : ET) (l : Launch) (y : MethodName) (ws : List Cond) (rm : Room) (as : List Value) (I : MI) (L : ML) (p : Nat → Nat) (q : Int32 × Dr) : Prop :=
  ∃ I', Ct E l y ws rm as (HE E I L p) (some (.int q.1)) (HE E I' L p) ∧ RD I' 1 q.2 ∧ RY I' 1 q.2 ∧ ∀ r, r = 0 ∨ 13 ≤ r → I' r = I r
theorem k_addShaft (hR : RD I 1 D) (hY : RY I 1 D) (hW : WF D) (x1 x2 : Int32) : KOp E l yX0_addShaft wsX0_addShaft rmX0_addShaft [.ref 1, .int x1, .int x2] I L p (aShaft x1 x2 D) := by
  have hS := hW.S
  have r0 := hR.1
  have hWF := aShaft_WF hW x1 x2
  unfold aShaft at hWF ⊢
  by_cases h : btw x1 0 4 ∧ btw x2 1 15
  · rw [bif_pos h] at hWF ⊢
    by_cases h2 : D 0 = 10
    · rw [if_pos h2]
      refine ⟨I, Ct.mk (by decide) rfl (Nat.le_of_ble_eq_true rfl) ?_, hR, hY, fun _ _ => rfl⟩
      rintro X rfl rfl hX - hRt
      refine RX0_addShaft_0 hX _ _ ⟨_, k_isKind x1, fun q => absurd h.1 (b2i_0.mp q), fun _ => ⟨_, k_isPace x2, fun _ => ⟨fun q => absurd q ?_, fun _ => hRt⟩, fun q => absurd h.2 (b2i_0.mp q)⟩⟩
      rw [r0, h2]; decide
    · rw [if_neg h2] at hWF ⊢
      obtain ⟨-, a2, a3⟩ := h.1.cl (by decide)
      obtain ⟨b1, b2, b3⟩ := h.2.cl (by decide)
      generalize x1.toNatClampNeg = k at a2 a3 hWF ⊢
      generalize x2.toNatClampNeg = q at b1 b2 b3 hWF ⊢
      have hR2 := ((hR.up (R := 2) (k := D 0) (J := 3 + 2 * D 0) (Pm_k (by omega)) k).up (R := 3) (k := D 0) (J := 4 + 2 * D 0) (Pm_pc (by omega)) q)
      have e0 := hR2.1
      rw [up_n _ _ (by omega), up_n _ _ (by omega)] at e0
      have hR3 := hR2.up (R := 1) (k := 0) (J := 0) Pm_S (D 0 + 1)
      obtain ⟨I', hC, hY', hf⟩ := k_findWays (E := E) (l := l) (L := L) (p := p) hR3 hWF
      refine ⟨I', Ct.mk (by decide) rfl (Nat.le_of_ble_eq_true rfl) ?_, hR3.cong (fun q h1 h2 => hf q (by omega) (by omega)), hY', fun r hr => by rw [hf r (by omega) (by omega), upI_R (by omega), upI_R (by omega), upI_R (by omega)]⟩
      rintro X rfl rfl hX - hRt
      refine RX0_addShaft_0 hX _ _ ⟨_, k_isKind x1, fun q => absurd h.1 (b2i_0.mp q), fun _ => ⟨_, k_isPace x2, fun _ => ⟨fun _ => ⟨D 0, r0, by omega, D 0, r0, by omega, I', ?_, ?_⟩, fun q => absurd ?_ q⟩, fun q => absurd h.2 (b2i_0.mp q)⟩⟩
      · rw [a3, b3, e0, nI_1]
        exact hC
      · rw [r0]; exact hRt
      · rw [r0]
        exact (nlt (b := 10) (by omega) (by decide)).mpr (by omega)
  · rw [bif_neg h]
    refine ⟨I, Ct.mk (by decide) rfl (Nat.le_of_ble_eq_true rfl) ?_, hR, hY, fun _ _ => rfl⟩
    rintro X rfl rfl hX - hRt
    exact RX0_addShaft_0 hX _ _ ⟨_, k_isKind x1, fun _ => hRt, fun q1 => ⟨_, k_isPace x2, fun q2 => absurd ⟨b2i_n0.mp q1, b2i_n0.mp q2⟩ h, fun _ => hRt⟩⟩
theorem k_changeShaft (hR : RD I 1 D) (hY : RY I 1 D) (hW : WF D) (x1 x2 x3 : Int32) : KOp E l yX0_changeShaft wsX0_changeShaft rmX0_changeShaft [.ref 1, .int x1, .int x2, .int x3] I L p (aSets x1 x2 x3 D) := by
  have hS := hW.S
  have hP := hW.P
  have r0 := hR.1
  unfold aSets
  by_cases h : ok x1 (D 0) ∧ (x2 = 0 ∧ btw x3 0 4 ∨ x2 = 1 ∧ btw x3 1 15)
  · rw [bif_pos h]
    obtain ⟨a1, a2⟩ := h.1.cl (by omega)
    generalize x1.toNatClampNeg = k at a1 a2 ⊢
    have hYc : ∀ J v, 3 ≤ J → J < 23 → ∀ I' : MI, RY I' 1 D → RY I' 1 (va_up D J v) := fun J v h1 h2 I' hy => RY.congD (up_n _ _ (by omega)) (up_n _ _ (by omega)) (fun i hi => ⟨up_n _ _ (by omega), up_n _ _ (by omega)⟩) hy
    rcases h.2 with ⟨rfl, h3⟩ | ⟨rfl, h3⟩
    · obtain ⟨-, b2, b3⟩ := h3.cl (by decide)
      generalize x3.toNatClampNeg = q at b2 b3 ⊢
      rw [show (0 : Int32).toNatClampNeg = 0 from rfl, Nat.add_zero]
      refine ⟨upI I 2 k (nI q), Ct.mk (by decide) rfl (Nat.le_of_ble_eq_true rfl) ?_, hR.up (Pm_k (by omega)) q, hYc _ _ (by omega) (by omega) _ (hY.cong fun r h1 h2 => upI_R (by omega)), fun r hr => upI_R (by omega)⟩
      rintro X rfl rfl hX - hRt
      refine RX0_changeShaft_0 hX _ _ _ ⟨_, k_hasShaft r0 hS x1, fun _ => ⟨fun q => absurd rfl q, fun _ => ⟨_, k_isKind x3, fun q => absurd h3 (b2i_0.mp q), fun _ => ⟨k, a2, by omega, k, a2, by omega, ?_⟩⟩⟩, fun q => absurd h.1 (b2i_0.mp q)⟩
      rw [b3]
      exact hRt.toI (hR.2.2.2.1 k (by omega)).1.symm
    · obtain ⟨b1, b2, b3⟩ := h3.cl (by decide)
      generalize x3.toNatClampNeg = q at b1 b2 b3 ⊢
      rw [show (1 : Int32).toNatClampNeg = 1 from rfl, show 3 + 2 * k + 1 = 4 + 2 * k by omega]
      refine ⟨upI I 3 k (nI q), Ct.mk (by decide) rfl (Nat.le_of_ble_eq_true rfl) ?_, hR.up (Pm_pc (by omega)) q, hYc _ _ (by omega) (by omega) _ (hY.cong fun r h1 h2 => upI_R (by omega)), fun r hr => upI_R (by omega)⟩
      rintro X rfl rfl hX - hRt
      refine RX0_changeShaft_0 hX _ _ _ ⟨_, k_hasShaft r0 hS x1, fun _ => ⟨fun _ => ⟨fun q => absurd rfl q, fun _ => ⟨_, k_isPace x3, fun q => absurd h3 (b2i_0.mp q), fun _ => ⟨k, a2, by omega, k, a2, by omega, ?_⟩⟩⟩, fun q => absurd q (by decide)⟩, fun q => absurd h.1 (b2i_0.mp q)⟩
      rw [b3]
      exact hRt.toI (hR.2.2.2.1 k (by omega)).2.symm
  · rw [bif_neg h]
    refine ⟨I, Ct.mk (by decide) rfl (Nat.le_of_ble_eq_true rfl) ?_, hR, hY, fun _ _ => rfl⟩
    rintro X rfl rfl hX - hRt
    exact RX0_changeShaft_0 hX _ _ _ ⟨_, k_hasShaft r0 hS x1, fun q1 => ⟨fun q => ⟨fun _ => hRt, fun q2 => ⟨_, k_isPace x3, fun _ => hRt, fun q3 => absurd ⟨b2i_n0.mp q1, Or.inr ⟨q2, b2i_n0.mp q3⟩⟩ h⟩⟩, fun q2 => ⟨_, k_isKind x3, fun _ => ⟨fun _ => hRt, fun q4 => absurd (q2.symm.trans q4) (by decide)⟩, fun q3 => absurd ⟨b2i_n0.mp q1, Or.inl ⟨q2, b2i_n0.mp q3⟩⟩ h⟩⟩, fun _ => hRt⟩
theorem k_addSight (hR : RD I 1 D) (hY : RY I 1 D) (hW : WF D) (x1 x2 x3 : Int32) : KOp E l yX0_addSight wsX0_addSight rmX0_addSight [.ref 1, .int x1, .int x2, .int x3] I L p (aSight x1 x2 x3 D) := by
  have hS := hW.S
  have hP := hW.P
  have hT := hW.T
  have r0 := hR.1
  have r8 := hR.2.2.1
  unfold aSight
  by_cases h : btw x1 0 1 ∧ ok x2 (D 0) ∧ btw x3 0 62
  · rw [bif_pos h]
    by_cases h2 : D 2 = 12
    · rw [if_pos h2]
      refine ⟨I, Ct.mk (by decide) rfl (Nat.le_of_ble_eq_true rfl) ?_, hR, hY, fun _ _ => rfl⟩
      rintro X rfl rfl hX - hRt
      refine RX0_addSight_0 hX _ _ _ ⟨_, k_btw x1 (a := 0) (b := 1) (by decide) (by decide), fun q => absurd h.1 (b2i_0.mp q), fun _ => ⟨_, k_hasShaft r0 hS x2, fun q => absurd h.2.1 (b2i_0.mp q), fun _ => ⟨_, k_btw x3 (a := 0) (b := 62) (by decide) (by decide), fun _ => ⟨fun q => absurd q ?_, fun _ => hRt⟩, fun q => absurd h.2.2 (b2i_0.mp q)⟩⟩⟩
      rw [r8, h2]; decide
    · rw [if_neg h2]
      obtain ⟨-, a2, a3⟩ := h.1.cl (by decide)
      obtain ⟨b1, b2⟩ := h.2.1.cl (by omega)
      obtain ⟨-, c2, c3⟩ := h.2.2.cl (by decide)
      generalize x1.toNatClampNeg = k at a2 a3 ⊢
      generalize x2.toNatClampNeg = q at b1 b2 ⊢
      generalize x3.toNatClampNeg = m at c2 c3 ⊢
      have hR2 := ((hR.up (R := 8) (k := D 2) (J := 87 + 3 * D 2) (Pm_so (by omega)) k).up (R := 9) (k := D 2) (J := 88 + 3 * D 2) (Pm_pl (by omega)) q).up (R := 10) (k := D 2) (J := 89 + 3 * D 2) (Pm_mi (by omega)) m
      have e0 := hR2.2.2.1
      rw [up_n _ _ (by omega), up_n _ _ (by omega), up_n _ _ (by omega)] at e0
      have hR3 := hR2.up (R := 1) (k := 8) (J := 2) Pm_T (D 2 + 1)
      refine ⟨_, Ct.mk (by decide) rfl (Nat.le_of_ble_eq_true rfl) ?_, hR3, ?_, fun r hr => by rw [upI_R (by omega), upI_R (by omega), upI_R (by omega), upI_R (by omega)]⟩
      · rintro X rfl rfl hX - hRt
        refine RX0_addSight_0 hX _ _ _ ⟨_, k_btw x1 (a := 0) (b := 1) (by decide) (by decide), fun q => absurd h.1 (b2i_0.mp q), fun _ => ⟨_, k_hasShaft r0 hS x2, fun q => absurd h.2.1 (b2i_0.mp q), fun _ => ⟨_, k_btw x3 (a := 0) (b := 62) (by decide) (by decide), fun _ => ⟨fun _ => ⟨D 2, r8, by omega, D 2, by rw [upI_r (by decide)]; exact r8, by omega, D 2, by rw [upI_r (by decide), upI_r (by decide)]; exact r8, by omega, ?_⟩, fun q => absurd ?_ q⟩, fun q => absurd h.2.2 (b2i_0.mp q)⟩⟩⟩
        · rw [a3, b2, c3, e0, nI_1, upI_s]
          exact hRt
        · rw [r8]
          exact (nlt (b := 12) (by omega) (by decide)).mpr (by omega)
      · show RY _ 1 (va_up (va_up (va_up (va_up D (87 + 3 * D 2) k) (88 + 3 * D 2) q) (89 + 3 * D 2) m) 2 (D 2 + 1))
        refine RY.congD (D := D) (by rw [up_n _ _ (by omega), up_n _ _ (by omega), up_n _ _ (by omega), up_n _ _ (by omega)]) (by rw [up_n _ _ (by omega), up_n _ _ (by omega), up_n _ _ (by omega), up_n _ _ (by omega)]) (fun i hi => ⟨?_, ?_⟩) (hY.cong fun r h1 h2 => by rw [upI_R (by omega), upI_R (by omega), upI_R (by omega), upI_R (by omega)])
        · simp only [fr]
          rw [up_n _ _ (by omega), up_n _ _ (by omega), up_n _ _ (by omega), up_n _ _ (by omega)]
        · simp only [tt]
          rw [up_n _ _ (by omega), up_n _ _ (by omega), up_n _ _ (by omega), up_n _ _ (by omega)]
  · rw [bif_neg h]
    refine ⟨I, Ct.mk (by decide) rfl (Nat.le_of_ble_eq_true rfl) ?_, hR, hY, fun _ _ => rfl⟩
    rintro X rfl rfl hX - hRt
    exact RX0_addSight_0 hX _ _ _ ⟨_, k_btw x1 (a := 0) (b := 1) (by decide) (by decide), fun _ => hRt, fun q1 => ⟨_, k_hasShaft r0 hS x2, fun _ => hRt, fun q2 => ⟨_, k_btw x3 (a := 0) (b := 62) (by decide) (by decide), fun q3 => absurd ⟨b2i_n0.mp q1, b2i_n0.mp q2, b2i_n0.mp q3⟩ h, fun _ => hRt⟩⟩⟩
theorem k_dropSights (hR : RD I 1 D) (hY : RY I 1 D) : KOp E l yX0_dropSights wsX0_dropSights rmX0_dropSights [.ref 1] I L p (aForget D) := by
  refine ⟨upI I 1 8 0, Ct.mk (by decide) rfl (Nat.le_of_ble_eq_true rfl) ?_, hR.up (R := 1) (k := 8) (J := 2) Pm_T 0, ?_, fun r hr => upI_R (by omega)⟩
  · rintro X rfl rfl hX - hRt
    exact RX0_dropSights_0 hX (hRt.toI hR.2.2.1.symm)
  · show RY _ 1 (va_up D 2 0)
    exact RY.congD (D := D) (up_n _ _ (by omega)) (up_n _ _ (by omega)) (fun i hi => ⟨up_n _ _ (by omega), up_n _ _ (by omega)⟩) (hY.cong fun r h1 h2 => upI_R (by omega))
theorem k_addPipe (hR : RD I 1 D) (hY : RY I 1 D) (hW : WF D) (x1 x2 x3 x4 : Int32) : KOp E l yX0_addPipe wsX0_addPipe rmX0_addPipe [.ref 1, .int x1, .int x2, .int x3, .int x4] I L p (aPipe x1 x2 x3 x4 D) := by
  have hS := hW.S
  have hP := hW.P
  have r0 := hR.1
  have r3 := hR.2.1
  have hWF := aPipe_WF hW x1 x2 x3 x4
  unfold aPipe at hWF ⊢
  by_cases h : ok x1 (D 0) ∧ ok x2 (D 0) ∧ ¬ x1 = x2 ∧ btw x3 0 9 ∧ x3 ≤ x4 ∧ x4 ≤ 9
  · rw [bif_pos h] at hWF ⊢
    obtain ⟨k1, k2, k3, k4, k5, k6⟩ := h
    obtain ⟨a1, a2⟩ := k1.cl (by omega)
    obtain ⟨b1, b2⟩ := k2.cl (by omega)
    obtain ⟨-, c2, c3⟩ := k4.cl (by decide)
    have hb4 : btw x4 x3.toNatClampNeg 9 := (inN (by omega) (by decide)).mp ⟨by rw [← c3]; exact k5, k6⟩
    obtain ⟨d1, d2, d3⟩ := hb4.cl (by decide)
    have nx3 : ¬ x3 < 0 := by rw [c3]; exact nI_pos (by omega)
    have nx4 : ¬ 9 < x4 := by rw [fa_lt]; have := (fa_le _ _).mp k6; omega
    generalize x1.toNatClampNeg = a at a1 a2 hWF ⊢
    generalize x2.toNatClampNeg = b at b1 b2 hWF ⊢
    generalize x3.toNatClampNeg = x at c2 c3 d1 hWF ⊢
    generalize x4.toNatClampNeg = y at d1 d2 d3 hWF ⊢
    by_cases h2 : Rc D b a
    · rw [bif_pos h2]
      refine ⟨I, Ct.mk (by decide) rfl (Nat.le_of_ble_eq_true rfl) ?_, hR, hY, fun _ _ => rfl⟩
      rintro X rfl rfl hX - hRt
      refine RX0_addPipe_0 hX _ _ _ _ ⟨_, k_hasShaft r0 hS x1, fun q => absurd k1 (b2i_0.mp q), fun _ => ⟨_, k_hasShaft r0 hS x2, fun q => absurd k2 (b2i_0.mp q), fun _ => ⟨fun _ => ⟨fun q => absurd q nx3, fun _ => ⟨fun q => absurd q nx4, fun _ => ⟨fun _ => ⟨b2i (Rc D b a), ?_, fun q => absurd h2 (b2i_0.mp q), fun _ => hRt⟩, fun q => absurd k5 q⟩⟩⟩, fun q => absurd q k3⟩⟩⟩
      rw [a2, b2]
      exact k_isBelow hW hY.1 (by omega) b1
    · rw [bif_neg h2] at hWF ⊢
      by_cases h3 : D 1 = 16
      · rw [if_pos h3]
        refine ⟨I, Ct.mk (by decide) rfl (Nat.le_of_ble_eq_true rfl) ?_, hR, hY, fun _ _ => rfl⟩
        rintro X rfl rfl hX - hRt
        refine RX0_addPipe_0 hX _ _ _ _ ⟨_, k_hasShaft r0 hS x1, fun q => absurd k1 (b2i_0.mp q), fun _ => ⟨_, k_hasShaft r0 hS x2, fun q => absurd k2 (b2i_0.mp q), fun _ => ⟨fun _ => ⟨fun q => absurd q nx3, fun _ => ⟨fun q => absurd q nx4, fun _ => ⟨fun _ => ⟨b2i (Rc D b a), ?_, fun _ => ⟨fun q => absurd q ?_, fun _ => hRt⟩, fun q => absurd (b2i_n0.mp q) h2⟩, fun q => absurd k5 q⟩⟩⟩, fun q => absurd q k3⟩⟩⟩
        · rw [a2, b2]
          exact k_isBelow hW hY.1 (by omega) b1
        · rw [r3, h3]; decide
      · rw [if_neg h3] at hWF ⊢
        have hR2 := (((hR.up (R := 4) (k := D 1) (J := 23 + 4 * D 1) (Pm_fr (by omega)) a).up (R := 5) (k := D 1) (J := 24 + 4 * D 1) (Pm_tt (by omega)) b).up (R := 6) (k := D 1) (J := 25 + 4 * D 1) (Pm_lw (by omega)) x).up (R := 7) (k := D 1) (J := 26 + 4 * D 1) (Pm_hg (by omega)) y
        have e0 := hR2.2.1
        rw [up_n _ _ (by omega), up_n _ _ (by omega), up_n _ _ (by omega), up_n _ _ (by omega)] at e0
        have hR3 := hR2.up (R := 1) (k := 3) (J := 1) Pm_P (D 1 + 1)
        obtain ⟨I', hC, hY', hf⟩ := k_findWays (E := E) (l := l) (L := L) (p := p) hR3 hWF
        refine ⟨I', Ct.mk (by decide) rfl (Nat.le_of_ble_eq_true rfl) ?_, hR3.cong (fun q h1 h2 => hf q (by omega) (by omega)), hY', fun r hr => by rw [hf r (by omega) (by omega), upI_R (by omega), upI_R (by omega), upI_R (by omega), upI_R (by omega), upI_R (by omega)]⟩
        rintro X rfl rfl hX - hRt
        refine RX0_addPipe_0 hX _ _ _ _ ⟨_, k_hasShaft r0 hS x1, fun q => absurd k1 (b2i_0.mp q), fun _ => ⟨_, k_hasShaft r0 hS x2, fun q => absurd k2 (b2i_0.mp q), fun _ => ⟨fun _ => ⟨fun q => absurd q nx3, fun _ => ⟨fun q => absurd q nx4, fun _ => ⟨fun _ => ⟨b2i (Rc D b a), ?_, fun _ => ⟨fun _ => ⟨D 1, r3, by omega, D 1, r3, by omega, D 1, r3, by omega, D 1, r3, by omega, I', ?_, ?_⟩, fun q => absurd ?_ q⟩, fun q => absurd (b2i_n0.mp q) h2⟩, fun q => absurd k5 q⟩⟩⟩, fun q => absurd q k3⟩⟩⟩
        · rw [a2, b2]
          exact k_isBelow hW hY.1 (by omega) b1
        · rw [a2, b2, c3, d3, e0, nI_1]
          exact hC
        · rw [r3]; exact hRt
        · rw [r3]
          exact (nlt (b := 16) (by omega) (by decide)).mpr (by omega)
  · rw [bif_neg h]
    refine ⟨I, Ct.mk (by decide) rfl (Nat.le_of_ble_eq_true rfl) ?_, hR, hY, fun _ _ => rfl⟩
    rintro X rfl rfl hX - hRt
    refine RX0_addPipe_0 hX _ _ _ _ ⟨_, k_hasShaft r0 hS x1, fun _ => hRt, fun q1 => ⟨_, k_hasShaft r0 hS x2, fun _ => hRt, fun q2 => ⟨fun q3 => ⟨fun _ => hRt, fun q4 => ⟨fun _ => hRt, fun q5 => ⟨fun q6 => absurd ⟨b2i_n0.mp q1, b2i_n0.mp q2, q3, ?_, q6, ?_⟩ h, fun _ => hRt⟩⟩⟩, fun _ => hRt⟩⟩⟩
    · refine (inN (a := 0) (b := 9) (by decide) (by decide)).mp ⟨?_, ?_⟩
      · show (0 : Int32) ≤ x3
        rw [fa_le]; rw [fa_lt] at q4; omega
      · show x3 ≤ (9 : Int32)
        rw [fa_lt] at q5
        have := (fa_le _ _).mp q6
        rw [fa_le]; omega
    · rw [fa_le]; rw [fa_lt] at q5; omega
theorem k_dropPipe (hR : RD I 1 D) (hY : RY I 1 D) (hW : WF D) (x1 : Int32) : KOp E l yX0_dropPipe wsX0_dropPipe rmX0_dropPipe [.ref 1, .int x1] I L p (aDrop x1 D) := by
  have hP := hW.P
  have r3 := hR.2.1
  have hWF := aDrop_WF hW x1
  unfold aDrop at hWF ⊢
  by_cases h : ok x1 (D 1)
  · rw [bif_pos h] at hWF ⊢
    obtain ⟨a1, a2⟩ := h.cl (by omega)
    generalize x1.toNatClampNeg = i at a1 a2 hWF ⊢
    obtain ⟨P, hPe⟩ : ∃ P, D 1 = P + 1 := ⟨D 1 - 1, by omega⟩
    let J : Nat → MI := fun k => fun r j => if r = 1 ∧ j = 3 then nI P else if (4 ≤ r ∧ r ≤ 7) ∧ i ≤ j ∧ j < i + k then I r (j + 1) else I r j
    have hJ3 : ∀ k, J k 1 3 = nI P := fun k => if_pos ⟨rfl, rfl⟩
    have hJa : ∀ k r j, 4 ≤ r → r ≤ 7 → J k r j = if i ≤ j ∧ j < i + k then I r (j + 1) else I r j := by
      intro k r j h4 h7
      have e : J k r j = if (4 ≤ r ∧ r ≤ 7) ∧ i ≤ j ∧ j < i + k then I r (j + 1) else I r j := if_neg (fun q => by have := q.1; omega)
      rw [e]
      by_cases c : i ≤ j ∧ j < i + k
      · rw [if_pos c, if_pos ⟨⟨h4, h7⟩, c⟩]
      · rw [if_neg c, if_neg (fun q => c q.2)]
    have hJb : ∀ k r j, (r < 4 ∨ 7 < r) → ¬ (r = 1 ∧ j = 3) → J k r j = I r j := by
      intro k r j hr hn
      have e : J k r j = if (4 ≤ r ∧ r ≤ 7) ∧ i ≤ j ∧ j < i + k then I r (j + 1) else I r j := if_neg hn
      rw [e, if_neg (fun q => by have := q.1; omega)]
    have hJs : ∀ k r, 4 ≤ r → r ≤ 7 → ∀ j, J (k + 1) r j = if j = i + k then J k r (i + k + 1) else J k r j := by
      intro k r h4 h7 j
      rw [hJa _ _ _ h4 h7, hJa _ _ _ h4 h7, hJa _ _ _ h4 h7]
      by_cases c : j = i + k
      · subst c
        rw [if_pos (show i ≤ i + k ∧ i + k < i + (k + 1) by omega), if_pos (rfl : i + k = i + k), if_neg (show ¬ (i ≤ i + k + 1 ∧ i + k + 1 < i + k) by omega)]
      · rw [if_neg c]
        by_cases f : i ≤ j ∧ j < i + k
        · rw [if_pos f, if_pos (show i ≤ j ∧ j < i + (k + 1) by omega)]
        · rw [if_neg f, if_neg (show ¬ (i ≤ j ∧ j < i + (k + 1)) by omega)]
    have hJo : ∀ k r, (r < 4 ∨ 7 < r) → J (k + 1) r = J k r := by
      intro k r h
      funext j
      by_cases c : r = 1 ∧ j = 3
      · rw [c.1, c.2, hJ3, hJ3]
      · rw [hJb _ _ _ h c, hJb _ _ _ h c]
    have step : ∀ k, upI (upI (upI (upI (J k) 4 (i + k) (J k 4 (i + k + 1))) 5 (i + k) (J k 5 (i + k + 1))) 6 (i + k) (J k 6 (i + k + 1))) 7 (i + k) (J k 7 (i + k + 1)) = J (k + 1) := by
      intro k
      funext r j
      by_cases c : 4 ≤ r ∧ r ≤ 7
      · rw [hJs k r c.1 c.2 j]
        have : r = 4 ∨ r = 5 ∨ r = 6 ∨ r = 7 := by omega
        rcases this with rfl | rfl | rfl | rfl
        · rw [upI_r (by decide), upI_r (by decide), upI_r (by decide)]
          simp only [upI, true_and]
        · rw [upI_r (by decide), upI_r (by decide)]
          unfold upI
          simp
        · rw [upI_r (by decide)]
          unfold upI
          simp
        · unfold upI
          simp
      · rw [hJo k r (by omega), upI_r (by omega), upI_r (by omega), upI_r (by omega), upI_r (by omega)]
    have hRD : RD (J (P - i)) 1 (dropD D i) := by
      rw [RD_iff] at hR ⊢
      have d1 : dropD D i 1 = P := by
        have e : dropD D i 1 = D 1 - 1 := if_pos rfl
        rw [e, hPe]; rfl
      have dn : ∀ j, j ≠ 1 → ¬ (23 + 4 * i ≤ j ∧ j < 23 + 4 * P) → dropD D i j = D j := by
        intro j h1 h2
        have e : dropD D i j = if 23 + 4 * i ≤ j ∧ j < 23 + 4 * (D 1 - 1) then D (j + 4) else D j := if_neg h1
        rw [e, hPe]
        exact if_neg h2
      have dy : ∀ j, 23 + 4 * i ≤ j ∧ j < 23 + 4 * P → dropD D i j = D (j + 4) := by
        intro j h2
        have e : dropD D i j = if 23 + 4 * i ≤ j ∧ j < 23 + 4 * (D 1 - 1) then D (j + 4) else D j := if_neg (by omega)
        rw [e, hPe]
        exact if_pos h2
      have hq : ∀ R k' c, 4 ≤ R → R ≤ 7 → c < 4 → k' < 16 → (∀ k, k < 16 → Pm R k (23 + c + 4 * k)) → J (P - i) R k' = nI (dropD D i (23 + c + 4 * k')) := by
        intro R k' c h4 h7 hc hk hp
        rw [hJa _ _ _ h4 h7]
        by_cases d : i ≤ k' ∧ k' < i + (P - i)
        · rw [if_pos d, dy _ (by omega), show 23 + c + 4 * k' + 4 = 23 + c + 4 * (k' + 1) by omega]
          exact hR _ _ _ (hp _ (by omega))
        · rw [if_neg d, dn _ (by omega) (by omega)]
          exact hR _ _ _ (hp _ hk)
      intro R k' J' hm
      have base := hR R k' J' hm
      rcases hm with ⟨rfl, rfl, rfl⟩ | ⟨rfl, rfl, rfl⟩ | ⟨rfl, rfl, rfl⟩ | ⟨rfl, q, rfl⟩ | ⟨rfl, q, rfl⟩ | ⟨rfl, q, rfl⟩ | ⟨rfl, q, rfl⟩ | ⟨rfl, q, rfl⟩ | ⟨rfl, q, rfl⟩ | ⟨rfl, q, rfl⟩ | ⟨rfl, q, rfl⟩ | ⟨rfl, q, rfl⟩
      · rw [hJb _ _ _ (by omega) (by omega), dn _ (by omega) (by omega)]; exact base
      · rw [hJ3, d1]
      · rw [hJb _ _ _ (by omega) (by omega), dn _ (by omega) (by omega)]; exact base
      · rw [hJb _ _ _ (by omega) (by omega), dn _ (by omega) (by omega)]; exact base
      · rw [hJb _ _ _ (by omega) (by omega), dn _ (by omega) (by omega)]; exact base
      · exact hq 4 k' 0 (by decide) (by decide) (by decide) q (fun k h => Pm_fr h)
      · exact hq 5 k' 1 (by decide) (by decide) (by decide) q (fun k h => Pm_tt h)
      · exact hq 6 k' 2 (by decide) (by decide) (by decide) q (fun k h => Pm_lw h)
      · exact hq 7 k' 3 (by decide) (by decide) (by decide) q (fun k h => Pm_hg h)
      · rw [hJb _ _ _ (by omega) (by omega), dn _ (by omega) (by omega)]; exact base
      · rw [hJb _ _ _ (by omega) (by omega), dn _ (by omega) (by omega)]; exact base
      · rw [hJb _ _ _ (by omega) (by omega), dn _ (by omega) (by omega)]; exact base
    obtain ⟨I', hC, hY', hf⟩ := k_findWays (E := E) (l := l) (L := L) (p := p) hRD hWF
    refine ⟨I', Ct.mk (by decide) rfl (Nat.le_of_ble_eq_true rfl) ?_, hRD.cong (fun q h1 h2 => hf q (by omega) (by omega)), hY', fun r hr => by
      rw [hf r (by omega) (by omega)]
      funext j
      exact hJb _ _ _ (by omega) (by omega)⟩
    rintro X rfl rfl hX - hRt
    refine RX0_dropPipe_0 hX _ ⟨_, k_hasPipe r3 hP x1, fun _ => ?_, fun q => absurd h (b2i_0.mp q)⟩
    have e0 : upI I 1 3 (I 1 3 - 1) = J 0 := by
      funext r j
      unfold upI
      by_cases c : r = 1 ∧ j = 3
      · rw [if_pos c, c.1, c.2, hJ3, r3, hPe, nI_pred]
      · rw [if_neg c]
        by_cases c4 : 4 ≤ r ∧ r ≤ 7
        · rw [hJa _ _ _ c4.1 c4.2, if_neg (by omega)]
        · rw [hJb _ _ _ (by omega) c]
    rw [e0, a2]
    refine loop_up (N := P - i) (Q := fun k => G X 0 0 23 [(0, .ref 1), (1, .int (nI i)), (2, .int (nI (i + k)))] [] (HM X (J k) L p)) (fun k hk kk => ?_) 0 (Nat.zero_le _) ?_
    · refine RX0_dropPipe_23 hX _ _ ⟨fun q => absurd q ?_, fun _ => ⟨i + k + 1, nI_1 _, by omega, i + k, rfl, by omega, i + k + 1, nI_1 _, by omega, i + k, rfl, by omega, i + k + 1, nI_1 _, by omega, i + k, rfl, by omega, i + k + 1, nI_1 _, by omega, i + k, rfl, by omega, ?_⟩⟩
      · rw [hJ3]
        exact nI_ge (by omega) (by omega)
      · have s := step k
        rw [upI_r (q := 5) (r := 4) (by decide), upI_r (q := 6) (r := 5) (by decide), upI_r (q := 6) (r := 4) (by decide), upI_r (q := 7) (r := 6) (by decide), upI_r (q := 7) (r := 5) (by decide), upI_r (q := 7) (r := 4) (by decide), s, nI_1]
        exact kk
    · refine RX0_dropPipe_23 hX _ _ ⟨fun _ => ⟨I', hC, ?_⟩, fun q => absurd ?_ q⟩
      · have e3 : I' 1 3 = nI P := by rw [hf 1 (by decide) (by decide), hJ3]
        rw [e3]
        exact hRt.toI (by show nI (D 1 - 1) = nI P; rw [hPe]; rfl)
      · rw [hJ3]
        exact nI_le (by omega) (by omega)
  · rw [bif_neg h]
    refine ⟨I, Ct.mk (by decide) rfl (Nat.le_of_ble_eq_true rfl) ?_, hR, hY, fun _ _ => rfl⟩
    rintro X rfl rfl hX - hRt
    exact RX0_dropPipe_0 hX _ ⟨_, k_hasPipe r3 hP x1, fun q => absurd (b2i_n0.mp q) h, fun _ => hRt⟩
end
