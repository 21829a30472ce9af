/-! The class reads: the orders, one after the other. -/
section
variable {E : ET} {l : Launch} {I : MI} {L : ML} {p : Nat → Nat} {D : Dr} {s : Sg} {q : Pa} {W : Dr → Nat → Nat}
/-- settled, where the answer is no refusal -/
theorem k_settle {I3 : MI} {v : Int32} (hv : 0 ≤ v) (hW : GW s) (h4 : Pj p) (b1 : RD I3 1 D) (b2 : RY I3 1 D) (q3 : ∀ j, j < gc s → RD I3 (dr (p j)) (gQ s j) ∧ RY I3 (dr (p j)) (gQ s j)) (g3 : RD I3 (dr (p (gc s))) (gD s) ∧ RY I3 (dr (p (gc s))) (gD s)) (x3 : VX I3 s) (m3 : I3 13 1 = nI (gc s)) : Ct E l yX5_settled wsX5_settled rmX5_settled [.ref 0, .int v] (HE E I3 L p) (some (.int v)) (HE E (upI (kI I3 (gc s)) 87 2 0) L (kp p (gc s))) ∧ VC W (upI (kI I3 (gc s)) 87 2 0) (kp p (gc s)) (D, qp (gQ s) (gc s) (gD s), cp (gc s), gx s, gt s, gf s) ∧ ∀ r, 96 ≤ r → upI (kI I3 (gc s)) 87 2 0 r = I3 r := by
  have hc := hW.2.1
  have r4 : ∀ q, q ≠ 13 → q ≠ 87 → upI (kI I3 (gc s)) 87 2 0 q = I3 q := by
    intro q x y
    rw [upI_R y]
    unfold kI
    split
    · rfl
    · rw [upI_R x]
  refine ⟨Ct.mk (by decide) rfl (Nat.le_of_ble_eq_true rfl) ?_, ⟨⟨b1.cong fun q x y => r4 q (by omega) (by omega), b2.cong fun q x y => r4 q (by omega) (by omega), ?_, kp_Pj h4 _, fun j hj => ?_, 0, by decide, upI_s _ _ _ _, fun a ha hb => absurd hb (by simp)⟩, x3.cong (r4 0 (by omega) (by omega)) (r4 95 (by omega) (by omega))⟩, fun r hr => r4 r (by omega) (by omega)⟩
  · rintro X rfl rfl hX - hRt
    exact RX5_settled_0 hX _ ⟨fun _ => ⟨_, _, k_keep m3 hc h4, _, k_outdate, hRt⟩, fun z => absurd hv z⟩
  · show upI (kI I3 (gc s)) 87 2 0 13 1 = nI (cp (gc s))
    rw [upI_r (by decide)]
    unfold kI cp
    by_cases d : gc s = 5
    · rw [if_pos d, if_pos d, m3, d]
    · rw [if_neg d, if_neg d, upI_s]
  · have key : RD I3 (dr (kp p (gc s) j)) (qp (gQ s) (gc s) (gD s) j) ∧ RY I3 (dr (kp p (gc s) j)) (qp (gQ s) (gc s) (gD s) j) := by
      have hj' : j < cp (gc s) := hj
      unfold cp at hj'
      unfold kp qp
      by_cases d : gc s = 5
      · rw [if_pos d] at hj' ⊢
        rw [if_pos d]
        rw [up_n _ _ (by omega)]
        unfold rt
        rw [if_pos (by omega)]
        by_cases e : j < 4
        · rw [if_pos e]; exact q3 _ (by omega)
        · rw [if_neg e, show j + 1 = gc s by omega]; exact g3
      · rw [if_neg d] at hj' ⊢
        rw [if_neg d]
        by_cases e : j = gc s
        · rw [if_pos e, e]; exact g3
        · rw [if_neg e]; exact q3 _ (by omega)
    have hj6 : j < 6 := by
      have hj' : j < cp (gc s) := hj
      unfold cp at hj'
      split at hj' <;> omega
    have hk := (kp_Pj h4 (gc s)).1 j hj6
    have u1 := dr_p _ hk.2 hk.1
    have u2 := dr_hi _ hk.2
    exact ⟨key.1.cong fun q x y => r4 q (by omega) (by omega), key.2.cong fun q x y => r4 q (by omega) (by omega)⟩
theorem k_reads (hV : VC whn I p s) (hW : GW s) : KP E l yX5_reads wsX5_reads rmX5_reads [.ref 0] whn I L p (aReads s) := by
  have hc := hW.2.1
  have hn := hW.2.2.2.1
  have h128 := hW.2.2.2.2
  obtain ⟨I1, hF1, hp⟩ := k_parse (E := E) (l := l) (L := L) (p := p) (I := I) (x := gx s) (n := gt s) hn hV.2.2.1 h128
  have hV1 : VC whn I1 p s := VC_hi hV hc fun r hr => hF1 r (by omega) (by omega) (by omega)
  have e06 : I 0 6 = nI (gt s) := hV.2.1
  rcases hp with ⟨F, f1, f2, f3⟩ | ⟨q, g1, g2, g3, g4, g5⟩
  · rw [aReads_F f1]
    refine ⟨I1, L, p, Ct.mk (by decide) rfl (Nat.le_of_ble_eq_true rfl) ?_, hV1, fun r hr => hF1 r (by omega) (by omega) (by omega), fun _ _ => rfl⟩
    rintro X rfl rfl hX - hRt
    exact RX5_reads_0 hX ⟨_, _, by rw [e06]; exact f3, fun z => absurd z (nI_nm1 (by omega)), fun _ => hRt⟩
  · have hAV := rn_AV g1
    have hql := rn_l (fun k hk => h128 k (by omega)) g1
    have hcnt : qc q ≤ 40 := by have := hAV.2.2.2.1; omega
    obtain ⟨⟨h1, h2, h3, h4, h5, kn, k1, k2, k3⟩, hx⟩ := hV1
    obtain ⟨I2, hC2, a1, a2, a3⟩ := k_mark (E := E) (l := l) (L := L) (D := gD s) h3 (by omega) (h4.1 _ (by omega)) hW.1 h1 h2
    have hd := dr_p _ (h4.1 (gc s) (by omega)).2 (h4.1 (gc s) (by omega)).1
    have hd2 := dr_hi _ (h4.1 (gc s) (by omega)).2
    -- behind the mark every state that keeps the rows from 13 on
    have base : ∀ J : MI, (∀ r, r = 0 ∨ 13 ≤ r → J r = I2 r) → (∀ j, j < gc s → RD J (dr (p j)) (gQ s j) ∧ RY J (dr (p j)) (gQ s j)) ∧ (RD J (dr (p (gc s))) (gD s) ∧ RY J (dr (p (gc s))) (gD s)) ∧ VX J s ∧ J 13 1 = nI (gc s) ∧ (J 87 2 = nI kn ∧ ∀ a, a < 10 → kn.testBit a = true → J 89 a = nI (whn (gD s) a)) ∧ KA J q ∧ ∀ r, 96 ≤ r → J r = I r := by
      intro J hJ
      have f3 : ∀ r, r = 0 ∨ 13 ≤ r → r < dr (p (gc s)) ∨ dr (p (gc s)) + 11 < r → J r = I1 r := fun r x y => (hJ r x).trans (a3 r y)
      refine ⟨fun j hj => ?_, ⟨a1.cong fun r x y => hJ r (by omega), a2.cong fun r x y => hJ r (by omega)⟩, hx.cong (f3 0 (by omega) (by omega)) (f3 95 (by omega) (by omega)), ?_, ⟨?_, fun a ha hb => ?_⟩, ?_, fun r hr => (f3 r (by omega) (by omega)).trans (hF1 r (by omega) (by omega) (by omega))⟩
      · have u := h4.apart (i := j) (j := gc s) (by omega) (by omega) (by omega)
        have v := dr_p _ (h4.1 j (by omega)).2 (h4.1 j (by omega)).1
        exact ⟨(h5 j hj).1.cong fun r x y => f3 r (by omega) (by omega), (h5 j hj).2.cong fun r x y => f3 r (by omega) (by omega)⟩
      · rw [f3 13 (by omega) (by omega)]; exact h3
      · rw [f3 87 (by omega) (by omega)]; exact k2
      · rw [f3 89 (by omega) (by omega)]; exact k3 a ha hb
      · obtain ⟨z1, z2, z3, z4, z5⟩ := g4
        have e92 := f3 92 (by omega) (by omega)
        have e93 := f3 93 (by omega) (by omega)
        have e94 := f3 94 (by omega) (by omega)
        refine ⟨by rw [e92]; exact z1, by rw [e92]; exact z2, by rw [e92]; exact z3, by rw [e93]; exact z4, ?_⟩
        unfold NR
        rw [e94]
        exact z5
    -- the orders
    have loop : ∀ m k J Dk, k + m = qc q → ro q (gD s) k = .inr Dk → RD J 1 Dk → RY J 1 Dk → WF Dk → (∀ r, r = 0 ∨ 13 ≤ r → J r = I2 r) → ∃ I' p', VC whn I' p' (aReads s).2 ∧ (∀ r, 96 ≤ r → I' r = I r) ∧ ∀ X, xE X = E → xl X = l → Cx X cX5_reads 3 RX5 wsX5_reads rmX5_reads → Rt X (some .int) rmX5_reads (some (.int (aReads s).1)) (HM X I' L p') → G X 0 0 39 [(0, .ref 0), (1, .int (-1)), (2, .int (nI k))] [] (HM X J L p) := by
      intro m
      induction m with
      | zero =>
        intro k J Dk hk hro hR hY hD hJ
        have e : k = qc q := by omega
        subst e
        obtain ⟨c1, c2, c3, c4, c5, c6, c7⟩ := base J hJ
        obtain ⟨s1, s2, s3⟩ := k_settle (E := E) (l := l) (L := L) (W := whn) (v := nI (qc q)) (nI_pos' (by omega)) hW h4 hR hY c1 c2 c3 c4
        rw [aReads_D g1 g2 g3 hro]
        refine ⟨_, _, s2, fun r hr => (s3 r hr).trans (c7 r hr), ?_⟩
        rintro X rfl rfl hX hRt
        exact RX5_reads_39 hX _ _ ⟨fun _ => ⟨_, _, _, by rw [c6.1]; exact s1, hRt⟩, fun z => absurd (by rw [c6.1]; exact nI_le (Nat.le_refl _) (by omega)) z⟩
      | succ m ih =>
        intro k J Dk hk hro hR hY hD hJ
        obtain ⟨c1, c2, c3, c4, c5, c6, c7⟩ := base J hJ
        obtain ⟨J2, o1, o2, o3, o4⟩ := k_obey (E := E) (l := l) (L := L) (p := p) hR hY hD c6 hql hAV.2.2.2.2 hcnt (show k < qc q by omega)
        have hJ2 : ∀ r, r = 0 ∨ 13 ≤ r → J2 r = I2 r := fun r hr => (o4 r hr).trans (hJ r hr)
        by_cases neg : (od q k Dk).1 < 0
        · have hro2 : ro q (gD s) (k + 1) = .inl k := by rw [ro, hro]; exact if_pos neg
          have hro3 := ro_stay hro2 m
          rw [show k + 1 + m = qc q by omega] at hro3
          rw [aReads_k g1 g2 g3 hro3]
          obtain ⟨d1, d2, d3, d4, d5, d6, d7⟩ := base J2 hJ2
          obtain ⟨J3, t1, t2, t3, t4⟩ := k_toMark (E := E) (l := l) (L := L) (p := p) (D := gD s) d4 (by omega) (h4.1 _ (by omega)) hW.1 d2.1 d2.2
          have hJ3 : ∀ r, r = 0 ∨ 13 ≤ r → J3 r = I2 r := fun r hr => (t4 r (by omega)).trans (hJ2 r hr)
          obtain ⟨b1, b2, b3, b4, b5, b6, b7⟩ := base J3 hJ3
          refine ⟨J3, p, ⟨⟨t2, t3, b4, h4, b1, kn, k1, b5⟩, b3⟩, b7, ?_⟩
          rintro X rfl rfl hX hRt
          exact RX5_reads_39 hX _ _ ⟨fun z => absurd z (by rw [c6.1]; exact nI_ge (by omega) (by omega)), fun _ => ⟨_, _, o1, fun z => absurd neg (by rw [fa_lt]; have := (fa_le _ _).mp z; omega), fun _ => ⟨_, t1, hRt⟩⟩⟩
        · have hro2 : ro q (gD s) (k + 1) = .inr (od q k Dk).2 := by rw [ro, hro]; exact if_neg neg
          obtain ⟨I', p', i1, i2, i3⟩ := ih (k + 1) J2 (od q k Dk).2 (by omega) hro2 o2 o3 (od_WF hD) hJ2
          refine ⟨I', p', i1, i2, ?_⟩
          rintro X rfl rfl hX hRt
          refine RX5_reads_39 hX _ _ ⟨fun z => absurd z (by rw [c6.1]; exact nI_ge (by omega) (by omega)), fun _ => ⟨_, _, o1, fun _ => ?_, fun z => absurd (by rw [fa_le]; rw [fa_lt] at neg; omega) z⟩⟩
          rw [nI_1]
          exact i3 X rfl rfl hX hRt
    obtain ⟨I', p', i1, i2, i3⟩ := loop (qc q) 0 I2 (gD s) (Nat.zero_add _) rfl (h1.cong fun r x y => a3 r (by omega)) (h2.cong fun r x y => a3 r (by omega)) hW.1 (fun _ _ => rfl)
    refine ⟨I', L, p', Ct.mk (by decide) rfl (Nat.le_of_ble_eq_true rfl) ?_, i1, i2, fun _ _ => rfl⟩
    rintro X rfl rfl hX - hRt
    exact RX5_reads_0 hX ⟨_, _, by rw [e06]; exact g5, fun _ => ⟨_, hC2, i3 X rfl rfl hX hRt⟩, fun z => absurd rfl z⟩
end
