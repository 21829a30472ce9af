/-! next, alike, sensors: the answers, and the model's side. -/
noncomputable def pt (D : Dr) (w n : Nat) : Nat := fb_ct (fun a => (sus D).testBit a && bdec (Rc D a w)) n
noncomputable def so (D : Dr) : Nat := fb_ct (sus D).testBit 10
theorem pt_le {D : Dr} (hW : WF D) (w : Nat) : pt D w (D 0) ≤ so D := by
  unfold pt so
  exact Nat.le_trans (fb_ct_sub fun k _ h => by rw [Bool.and_eq_true] at h; exact h.1) (fb_ct_mono _ hW.S)
theorem so_le (D : Dr) : so D ≤ 10 := fb_ct_le _ _
noncomputable def mr (D : Dr) (w : Nat) : Nat := if pt D w (D 0) ≤ so D - pt D w (D 0) then so D - pt D w (D 0) else pt D w (D 0)
theorem mr_le {D : Dr} (hW : WF D) (w : Nat) : mr D w ≤ 10 := by
  have := pt_le hW w
  have := so_le D
  unfold mr
  split <;> omega
noncomputable def nf (D : Dr) : Nat → Int32 × Nat
  | 0 => (-1, 11)
  | n + 1 => if (nf D n).2 ≤ mr D n then nf D n else (nI n, mr D n)
theorem nf_le {D : Dr} (hW : WF D) : ∀ n, (nf D n).2 ≤ 11
  | 0 => Nat.le_refl _
  | n + 1 => by
    rw [nf]
    split
    · exact nf_le hW n
    · have := mr_le hW n
      show mr D n ≤ 11
      omega
noncomputable def nxv (D : Dr) (w : Nat) : Int32 := if w = 0 then (nf D (D 0)).1 else if (nf D (D 0)).1 = -1 then (nf D (D 0)).1 else nI (nf D (D 0)).2
noncomputable def aNext (x1 : Int32) (s : Sg) : Int32 × Sg := qu (btw x1 0 1) (nxv (gD s) x1.toNatClampNeg) s
noncomputable def ain (D : Dr) (z a n : Nat) : Nat := fb_ct (fun j => decide (bl D a &&& z = bl D (a + 1 + j) &&& z)) n
noncomputable def al (D : Dr) (z n : Nat) : Nat := fb_sm (fun a => ain D z a (D 0 - (a + 1))) n
theorem al_le {D : Dr} (hW : WF D) (z : Nat) : al D z (D 0) ≤ 100 := by
  have hS := hW.S
  have := fb_sm_bound (f := fun a => ain D z a (D 0 - (a + 1))) (c := 10) (n := D 0) (fun k _ => Nat.le_trans (fb_ct_le _ _) (by omega))
  unfold al
  omega
def on (z : Nat) : Nat := fb_ct z.testBit 10
noncomputable def sf (D : Dr) : Nat → Int32 × Nat
  | 0 => (-1, 11)
  | n + 1 => if ¬ (sf D n).2 ≤ on n ∧ al D n (D 0) = 0 then (nI n, on n) else sf D n
theorem on_le (z : Nat) : on z ≤ 10 := fb_ct_le _ _
theorem sf_le (D : Dr) : ∀ n, (sf D n).2 ≤ 11
  | 0 => Nat.le_refl _
  | n + 1 => by
    rw [sf]
    split
    · have := on_le n
      show on n ≤ 11
      omega
    · exact sf_le D n
noncomputable def snv (D : Dr) (w : Nat) : Int32 := if w = 0 then (sf D (2 ^ D 0)).1 else if (sf D (2 ^ D 0)).1 = -1 then (sf D (2 ^ D 0)).1 else nI (sf D (2 ^ D 0)).2
noncomputable def aAlike (x1 : Int32) (s : Sg) : Int32 × Sg := qu (btw x1 0 (2 ^ gD s 0 - 1)) (nI (al (gD s) x1.toNatClampNeg (gD s 0))) s
noncomputable def aSensors (x1 : Int32) (s : Sg) : Int32 × Sg := qu (btw x1 0 1) (snv (gD s) x1.toNatClampNeg) s
/-- a row of whole numbers written up to n -/
def wi (r n : Nat) (I : MI) (B : Nat → Nat) : MI := fun q k => if q = r ∧ k < n then nI (B k) else I q k
theorem wi_s {r n k : Nat} {I : MI} {B : Nat → Nat} (h : k < n) : wi r n I B r k = nI (B k) := by simp [wi, h]
theorem wi_r {r n q : Nat} {I : MI} {B : Nat → Nat} (h : q ≠ r) : wi r n I B q = I q := by funext k; simp [wi, h]
theorem wi_0 (r : Nat) (I : MI) (B : Nat → Nat) : wi r 0 I B = I := by funext q k; simp [wi]
theorem wi_next {r n v : Nat} {I : MI} {B : Nat → Nat} (h : B n = v) : upI (wi r n I B) r n (nI v) = wi r (n + 1) I B := by
  funext q k
  unfold upI wi
  by_cases c : q = r
  · by_cases d : k = n
    · subst d; simp [c, h]
    · simp only [c, d, and_false, if_false, true_and]
      by_cases e : k < n
      · rw [if_pos e, if_pos (by omega)]
      · rw [if_neg e, if_neg (by omega)]
  · simp [c]
theorem p10 {D : Dr} (hW : WF D) : 2 ^ D 0 ≤ 1024 ∧ 0 < 2 ^ D 0 := ⟨Nat.pow_le_pow_right (n := 2) (by decide) hW.S, Nat.two_pow_pos _⟩
section
variable {E : ET} {l : Launch} {I : MI} {L : ML} {p : Nat → Nat} {D : Dr} {s : Sg}
theorem m_nextOf (hR : RM I D) (hW : WF D) {w : Nat} (hw : w ≤ 1) : Ct E l yX6_nextOf wsX6_nextOf rmX6_nextOf [.ref 96, .int (nI w)] (HE E I L p) (some (.int (nxv D w))) (HE E I (wz 101 L (fun a => cm D a 30) (D 0)) p) := by
  have hS := hW.S
  have r0 := hR 0 (by decide)
  have hsl := sus_lt hW
  refine Ct.mk (by decide) rfl (Nat.le_of_ble_eq_true rfl) ?_
  rintro X rfl rfl hX - hRt
  refine RX6_nextOf_0 hX _ ⟨_, _, m_suspectsNow hR hW, ?_⟩
  generalize wz 101 L (fun a => cm D a 30) (D 0) = L' at hRt ⊢
  refine loop_up (N := D 0) (Q := fun i => G X 0 0 14 [(0, .ref 96), (1, .int (nI w)), (2, .int (nI (sus D))), (3, .int (nf D i).1), (4, .int (nI (nf D i).2)), (5, .int (nI i))] [] (HM X I L' p)) (fun i hi k => ?_) 0 (Nat.zero_le _) ?_
  · refine RX6_nextOf_14 hX _ _ _ _ _ ⟨fun q => absurd q (by rw [r0]; exact nI_ge hi (by omega)), fun _ => ?_⟩
    refine loop_up (N := D 0) (Q := fun j => G X 0 0 31 [(0, .ref 96), (1, .int (nI w)), (2, .int (nI (sus D))), (3, .int (nf D i).1), (4, .int (nI (nf D i).2)), (5, .int (nI i)), (6, .int (nI (pt D i j))), (7, .int (nI j))] [] (HM X I L' p)) (fun j hj k2 => ?_) 0 (Nat.zero_le _) ?_
    · have hb := bl_lt D j
      refine RX6_nextOf_31 hX _ _ _ _ _ _ _ ⟨fun q => absurd q (by rw [r0]; exact nI_ge hj (by omega)), fun _ => ⟨_, m_has (by omega) (by omega), fun q => ?_, fun q => ⟨_, m_below hR hW hj, _, m_has (by omega) (by omega), ?_⟩⟩⟩
      · rw [b01_0] at q
        have e : pt D i (j + 1) = pt D i j := by
          unfold pt
          rw [fb_ct_succ, if_neg (by rw [Bool.and_eq_true]; exact fun z => q z.1)]; rfl
        rw [e] at k2
        rw [nI_1, show nI (pt D i j) + 0 = nI (pt D i j) by simp]
        exact k2
      · rw [b01_0, Classical.not_not] at q
        have e : nI (pt D i j) + (if (if (bl D j).testBit i = true then 1 else 0 : Int32) = 0 then 0 else 1 : Int32) = nI (pt D i (j + 1)) := by
          unfold pt
          rw [fb_ct_succ]
          by_cases c : Rc D j i
          · have z : ((sus D).testBit j && bdec (Rc D j i)) = true := by rw [Bool.and_eq_true]; exact ⟨q, (bdec_iff _).mpr c⟩
            rw [if_pos ((bl_bit D j i).mpr ⟨by omega, c⟩), if_pos z, ← nI_1]; rfl
          · have z : ¬ ((sus D).testBit j && bdec (Rc D j i)) = true := by rw [Bool.and_eq_true]; exact fun z => c ((bdec_iff _).mp z.2)
            rw [if_neg (fun z => c ((bl_bit D j i).mp z).2), if_neg z]; simp
        rw [e, nI_1]
        exact k2
    · refine RX6_nextOf_31 hX _ _ _ _ _ _ _ ⟨fun _ => ⟨_, m_ones (by omega), ?_⟩, fun q => absurd (by rw [r0]; exact nI_le (Nat.le_refl _) (by omega)) q⟩
      have h1 := pt_le hW i
      have h2 := so_le D
      have h3 := nf_le hW i
      have h4 := mr_le hW i
      have es : nI (so D) - nI (pt D i (D 0)) = nI (so D - pt D i (D 0)) := by
        have e : so D = (so D - pt D i (D 0)) + pt D i (D 0) := by omega
        rw [e, ← nI_add]
        simp
      have em : (if nI (pt D i (D 0)) ≤ nI (so D - pt D i (D 0)) then nI (so D - pt D i (D 0)) else nI (pt D i (D 0))) = nI (mr D i) := by
        unfold mr
        by_cases c : pt D i (D 0) ≤ so D - pt D i (D 0)
        · rw [if_pos c, if_pos ((nle (by omega) (by omega)).mpr c)]
        · rw [if_neg c, if_neg (fun z => c ((nle (by omega) (by omega)).mp z))]
      rw [show fb_ct (sus D).testBit 10 = so D from rfl, es, em, nI_1]
      have ef : nf D (i + 1) = if (nf D i).2 ≤ mr D i then nf D i else (nI i, mr D i) := rfl
      by_cases c : (nf D i).2 ≤ mr D i
      · rw [if_pos c] at ef
        rw [ef] at k
        rw [if_pos ((nle (by omega) (by omega)).mpr c), if_pos ((nle (by omega) (by omega)).mpr c)]
        exact k
      · rw [if_neg c] at ef
        rw [ef] at k
        rw [if_neg (fun z => c ((nle (by omega) (by omega)).mp z)), if_neg (fun z => c ((nle (by omega) (by omega)).mp z))]
        exact k
  · unfold nxv at hRt
    refine RX6_nextOf_14 hX _ _ _ _ _ ⟨fun _ => ⟨fun q => ?_, fun q => ?_⟩, fun q => absurd (by rw [r0]; exact nI_le (Nat.le_refl _) (by omega)) q⟩
    · rw [if_pos ((nI_eq (b := 0) (by omega) (by decide)).mp q)] at hRt
      exact hRt
    · rw [if_neg (fun z => q (by rw [z]; rfl))] at hRt
      exact hRt
theorem m_next (hV : VM I s) (hW : GW s) (x1 : Int32) : MP E l yX6_next wsX6_next rmX6_next [.ref 96, .int x1] I L p (aNext x1 s) := by
  unfold aNext
  by_cases h : btw x1 0 1
  · rw [qu_pos h]
    obtain ⟨w, rfl, -, hw⟩ := id h
    rw [nI_clamp (by omega)]
    refine ⟨I, wz 101 L (fun a => cm (gD s) a 30) (gD s 0), Ct.mk (by decide) rfl (Nat.le_of_ble_eq_true rfl) ?_, hV, fun _ _ => rfl, fun r hr => wz_r (by omega)⟩
    rintro X rfl rfl hX - hRt
    exact RX6_next_0 hX _ ⟨_, m_btw _ (a := 0) (b := 1) (by decide) (by decide), fun q => absurd h (b2i_0.mp q), fun _ => ⟨_, _, m_nextOf hV.1 hW.1 hw, hRt⟩⟩
  · rw [qu_neg h]
    refine ⟨_, L, Ct.mk (by decide) rfl (Nat.le_of_ble_eq_true rfl) ?_, VM_rf (j := 0) hV, fun r hr => upI_R (by omega), fun _ _ => rfl⟩
    rintro X rfl rfl hX - hRt
    exact RX6_next_0 hX _ ⟨_, m_btw _ (a := 0) (b := 1) (by decide) (by decide), fun _ => ⟨_, _, m_refuses (j := 0) (by decide) (-2) rfl, hRt⟩, fun q => absurd (b2i_n0.mp q) h⟩
theorem RM_wi (hR : RM I D) {n : Nat} {B : Nat → Nat} : RM (wi 102 n I B) D := fun k hk => by rw [wi_r (by decide)]; exact hR k hk
theorem m_findBelows (hR : RM I D) (hW : WF D) : Ct E l yX6_findBelows wsX6_findBelows rmX6_findBelows [.ref 96] (HE E I L p) none (HE E (wi 102 (D 0) I (bl D)) L p) := by
  have hS := hW.S
  refine Ct.mk (by decide) rfl (Nat.le_of_ble_eq_true rfl) ?_
  rintro X rfl rfl hX - hRt
  refine RX6_findBelows_0 hX ?_
  have key := loop_up (N := D 0) (Q := fun i => G X 0 0 2 [(0, .ref 96), (1, .int (nI i))] [] (HM X (wi 102 i I (bl D)) L p)) (fun i hi k => ?_) 0 (Nat.zero_le _) ?_
  · rw [wi_0] at key
    exact key
  · refine RX6_findBelows_2 hX _ ⟨fun q => absurd q (by rw [RM_wi hR 0 (by decide)]; exact nI_ge hi (by omega)), fun _ => ⟨_, m_below (RM_wi hR) hW hi, i, rfl, by omega, ?_⟩⟩
    rw [wi_next rfl, nI_1]
    exact k
  · exact RX6_findBelows_2 hX _ ⟨fun _ => hRt, fun q => absurd (by rw [RM_wi hR 0 (by decide)]; exact nI_le (Nat.le_refl _) (by omega)) q⟩
theorem m_alikeBy (hR : RM I D) (hW : WF D) (hB : ∀ a, a < D 0 → I 102 a = nI (bl D a)) {z : Nat} (hz : z < 1024) : Ct E l yX6_alikeBy wsX6_alikeBy rmX6_alikeBy [.ref 96, .int (nI z)] (HE E I L p) (some (.int (nI (al D z (D 0))))) (HE E I L p) := by
  have hS := hW.S
  have r0 := hR 0 (by decide)
  refine Ct.mk (by decide) rfl (Nat.le_of_ble_eq_true rfl) ?_
  rintro X rfl rfl hX - hRt
  refine RX6_alikeBy_0 hX _ ?_
  refine loop_up (N := D 0) (Q := fun a => G X 0 0 4 [(0, .ref 96), (1, .int (nI z)), (2, .int (nI (al D z a))), (3, .int (nI a))] [] (HM X I L p)) (fun a ha k => ?_) 0 (Nat.zero_le _) ?_
  · refine RX6_alikeBy_4 hX _ _ _ ⟨fun q => absurd q (by rw [r0]; exact nI_ge ha (by omega)), fun _ => ?_⟩
    rw [nI_1]
    have key := loop_up (N := D 0 - (a + 1)) (Q := fun j => G X 0 0 19 [(0, .ref 96), (1, .int (nI z)), (2, .int (nI (al D z a + ain D z a j))), (3, .int (nI a)), (4, .int (nI (a + 1 + j)))] [] (HM X I L p)) (fun j hj k2 => ?_) 0 (Nat.zero_le _) ?_
    · exact key
    · refine RX6_alikeBy_19 hX _ _ _ _ ⟨fun q => absurd q (by rw [r0]; exact nI_ge (by omega) (by omega)), fun _ => ⟨a, rfl, by omega, a + 1 + j, rfl, by omega, ?_⟩⟩
      have h1 : bl D a &&& z < 1024 := Nat.lt_of_le_of_lt Nat.and_le_right hz
      have h2 : bl D (a + 1 + j) &&& z < 1024 := Nat.lt_of_le_of_lt Nat.and_le_right hz
      rw [hB a ha, hB (a + 1 + j) (by omega), fa_and, fa_and]
      have e : nI (al D z a + ain D z a j) + (if nI (bl D a &&& z) = nI (bl D (a + 1 + j) &&& z) then 1 else 0 : Int32) = nI (al D z a + ain D z a (j + 1)) := by
        unfold ain
        rw [fb_ct_succ]
        by_cases c : bl D a &&& z = bl D (a + 1 + j) &&& z
        · rw [if_pos (by rw [c]), if_pos (decide_eq_true c), ← Nat.add_assoc, ← nI_1]
        · rw [if_neg (fun q => c ((nI_eq (by omega) (by omega)).mp q)), if_neg (fun q => c (of_decide_eq_true q))]; simp
      rw [e, nI_1]
      exact k2
    · refine RX6_alikeBy_19 hX _ _ _ _ ⟨fun _ => ?_, fun q => absurd (by rw [r0]; exact nI_le (by omega) (by omega)) q⟩
      rw [nI_1]
      exact k
  · exact RX6_alikeBy_4 hX _ _ _ ⟨fun _ => hRt, fun q => absurd (by rw [r0]; exact nI_le (Nat.le_refl _) (by omega)) q⟩
theorem m_alike (hV : VM I s) (hW : GW s) (x1 : Int32) : MP E l yX6_alike wsX6_alike rmX6_alike [.ref 96, .int x1] I L p (aAlike x1 s) := by
  have hS := hW.1.S
  have r0 := hV.1 0 (by decide)
  obtain ⟨p1, p2⟩ := p10 hW.1
  have er : jshl 1 (I 97 0) - 1 = nI (2 ^ gD s 0 - 1) := by
    rw [r0, jshl_1 (by omega)]
    obtain ⟨n, hn⟩ : ∃ n, 2 ^ gD s 0 = n + 1 := ⟨2 ^ gD s 0 - 1, by omega⟩
    rw [hn, nI_pred]; rfl
  unfold aAlike
  by_cases h : btw x1 0 (2 ^ gD s 0 - 1)
  · rw [qu_pos h]
    obtain ⟨z, rfl, -, hz⟩ := id h
    rw [nI_clamp (by omega)]
    refine ⟨wi 102 (gD s 0) I (bl (gD s)), L, Ct.mk (by decide) rfl (Nat.le_of_ble_eq_true rfl) ?_, ?_, fun r hr => wi_r (by omega), fun _ _ => rfl⟩
    · rintro X rfl rfl hX - hRt
      refine RX6_alike_0 hX _ ⟨_, by rw [er]; exact m_btw _ (a := 0) (by decide) (by omega), fun _ => ⟨_, m_findBelows hV.1 hW.1, _, m_alikeBy (RM_wi hV.1) hW.1 (fun a ha => wi_s ha) (by omega), hRt⟩, fun q => absurd h (b2i_0.mp q)⟩
    · obtain ⟨v1, ⟨v2, v3, v4⟩, ⟨v5, v6⟩, v7⟩ := hV
      refine ⟨RM_wi v1, ⟨?_, v3, fun j hj k hk => ?_⟩, ⟨?_, fun k hk => ?_⟩, fun j hj => ?_⟩
      · rw [wi_r (by decide)]; exact v2
      · rw [wi_r (by decide)]; exact v4 j hj k hk
      · rw [wi_r (by decide)]; exact v5
      · rw [wi_r (by decide)]; exact v6 k hk
      · rw [wi_r (by decide)]; exact v7 j hj
  · rw [qu_neg h]
    refine ⟨_, L, Ct.mk (by decide) rfl (Nat.le_of_ble_eq_true rfl) ?_, VM_rf (j := 0) hV, fun r hr => upI_R (by omega), fun _ _ => rfl⟩
    rintro X rfl rfl hX - hRt
    exact RX6_alike_0 hX _ ⟨_, by rw [er]; exact m_btw _ (a := 0) (by decide) (by omega), fun q => absurd (b2i_n0.mp q) h, fun _ => ⟨_, _, m_refuses (j := 0) (by decide) (-2) rfl, hRt⟩⟩
theorem m_sensorsOf (hR : RM I D) (hW : WF D) {w : Nat} (hw : w ≤ 1) : Ct E l yX6_sensorsOf wsX6_sensorsOf rmX6_sensorsOf [.ref 96, .int (nI w)] (HE E I L p) (some (.int (snv D w))) (HE E (wi 102 (D 0) I (bl D)) L p) := by
  have hS := hW.S
  obtain ⟨p1, p2⟩ := p10 hW
  have hR2 : RM (wi 102 (D 0) I (bl D)) D := RM_wi hR
  have er : jshl 1 (wi 102 (D 0) I (bl D) 97 0) = nI (2 ^ D 0) := by rw [hR2 0 (by decide), jshl_1 (by omega)]
  have hB : ∀ a, a < D 0 → wi 102 (D 0) I (bl D) 102 a = nI (bl D a) := fun a ha => wi_s ha
  refine Ct.mk (by decide) rfl (Nat.le_of_ble_eq_true rfl) ?_
  rintro X rfl rfl hX - hRt
  refine RX6_sensorsOf_0 hX _ ⟨_, m_findBelows hR hW, ?_⟩
  refine loop_up (N := 2 ^ D 0) (Q := fun z => G X 0 0 12 [(0, .ref 96), (1, .int (nI w)), (2, .int (sf D z).1), (3, .int (nI (sf D z).2)), (4, .int (nI z))] [] (HM X (wi 102 (D 0) I (bl D)) L p)) (fun z hz k => ?_) 0 (Nat.zero_le _) ?_
  · have h1 := sf_le D z
    have h2 := on_le z
    have h3 := al_le hW z
    have es : sf D (z + 1) = if ¬ (sf D z).2 ≤ on z ∧ al D z (D 0) = 0 then (nI z, on z) else sf D z := rfl
    refine RX6_sensorsOf_12 hX _ _ _ _ ⟨fun q => absurd q (by rw [er]; exact nI_ge hz (by omega)), fun _ => ⟨_, m_ones (by omega), fun q => ?_, fun q => ⟨_, m_alikeBy hR2 hW hB (by omega), fun q2 => ?_, fun q2 => ⟨_, m_ones (by omega), ?_⟩⟩⟩⟩
    · rw [if_neg (fun c => c.1 ((nle (by omega) (by show on z < 2 ^ 31; omega)).mp q))] at es
      rw [es] at k
      rw [nI_1]; exact k
    · rw [if_neg (fun c => q2 (by rw [c.2]; rfl))] at es
      rw [es] at k
      rw [nI_1]; exact k
    · rw [if_pos ⟨fun c => q ((nle (by omega) (by show on z < 2 ^ 31; omega)).mpr c), (nI_eq (b := 0) (by omega) (by decide)).mp q2⟩] at es
      rw [es] at k
      rw [nI_1]; exact k
  · unfold snv at hRt
    refine RX6_sensorsOf_12 hX _ _ _ _ ⟨fun _ => ⟨fun q => ?_, fun q => ?_⟩, fun q => absurd (by rw [er]; exact nI_le (Nat.le_refl _) (by omega)) q⟩
    · rw [if_pos ((nI_eq (b := 0) (by omega) (by decide)).mp q)] at hRt
      exact hRt
    · rw [if_neg (fun z => q (by rw [z]; rfl))] at hRt
      exact hRt
theorem VM_wi (hV : VM I s) {n : Nat} {B : Nat → Nat} : VM (wi 102 n I B) s := by
  obtain ⟨v1, ⟨v2, v3, v4⟩, ⟨v5, v6⟩, v7⟩ := hV
  refine ⟨RM_wi v1, ⟨?_, v3, fun j hj k hk => ?_⟩, ⟨?_, fun k hk => ?_⟩, fun j hj => ?_⟩
  · rw [wi_r (by decide)]; exact v2
  · rw [wi_r (by decide)]; exact v4 j hj k hk
  · rw [wi_r (by decide)]; exact v5
  · rw [wi_r (by decide)]; exact v6 k hk
  · rw [wi_r (by decide)]; exact v7 j hj
theorem m_sensors (hV : VM I s) (hW : GW s) (x1 : Int32) : MP E l yX6_sensors wsX6_sensors rmX6_sensors [.ref 96, .int x1] I L p (aSensors x1 s) := by
  unfold aSensors
  by_cases h : btw x1 0 1
  · rw [qu_pos h]
    obtain ⟨w, rfl, -, hw⟩ := id h
    rw [nI_clamp (by omega)]
    refine ⟨wi 102 (gD s 0) I (bl (gD s)), L, Ct.mk (by decide) rfl (Nat.le_of_ble_eq_true rfl) ?_, VM_wi hV, fun r hr => wi_r (by omega), fun _ _ => rfl⟩
    rintro X rfl rfl hX - hRt
    exact RX6_sensors_0 hX _ ⟨_, m_btw _ (a := 0) (b := 1) (by decide) (by decide), fun q => absurd h (b2i_0.mp q), fun _ => ⟨_, _, m_sensorsOf hV.1 hW.1 hw, hRt⟩⟩
  · rw [qu_neg h]
    refine ⟨_, L, Ct.mk (by decide) rfl (Nat.le_of_ble_eq_true rfl) ?_, VM_rf (j := 0) hV, fun r hr => upI_R (by omega), fun _ _ => rfl⟩
    rintro X rfl rfl hX - hRt
    exact RX6_sensors_0 hX _ ⟨_, m_btw _ (a := 0) (b := 1) (by decide) (by decide), fun _ => ⟨_, _, m_refuses (j := 0) (by decide) (-2) rfl, hRt⟩, fun q => absurd (b2i_n0.mp q) h⟩
end
