/-! Who watches: the class's side. -/
def ofs (S a : Nat) : Nat := fb_sm (fun a => S - (a + 1)) a
theorem ofs_lt : ∀ S, S < 11 → ∀ a, a < 11 → ∀ j, j < 11 → a + 1 + j < S → ofs S a + j < 45 := by decide +kernel
theorem ofs_45 : ∀ S, S < 11 → ∀ a, a < 11 → ofs S a ≤ 45 := by decide +kernel
/-- n pairs are written; of those c z are not told apart by z -/
def PI (I : MI) (n : Nat) (c : Nat → Nat) : Prop := I 90 1 = nI n ∧ ∃ T : Nat → Nat, (∀ k, k < n → I 91 k = nI (T k) ∧ T k < 1024) ∧ ∀ z, fb_ct (fun k => decide (T k &&& z = 0)) n = c z
def psh (I : MI) (v : Int32) : MI := upI (upI I 91 (I 90 1).toNatClampNeg v) 90 1 (I 90 1 + 1)
theorem psh_r {I : MI} {v : Int32} {q : Nat} (h1 : q ≠ 90) (h2 : q ≠ 91) : psh I v q = I q := by
  unfold psh
  rw [upI_R h1, upI_R h2]
theorem PI.psh {I : MI} {n : Nat} {c : Nat → Nat} (h : PI I n c) (hn : n < 45) {t : Nat} (ht : t < 1024) : PI (psh I (nI t)) (n + 1) (fun z => c z + if t &&& z = 0 then 1 else 0) := by
  obtain ⟨h1, T, h2, h3⟩ := h
  refine ⟨?_, va_up T n t, fun k hk => ?_, fun z => ?_⟩
  · show upI (upI I 91 (I 90 1).toNatClampNeg (nI t)) 90 1 (I 90 1 + 1) 90 1 = _
    rw [upI_s, h1, nI_1]
  · show upI (upI I 91 (I 90 1).toNatClampNeg (nI t)) 90 1 (I 90 1 + 1) 91 k = _ ∧ _
    rw [upI_r (by decide), h1, nI_clamp (by omega)]
    by_cases e : k = n
    · subst e; rw [upI_s, up_s]; exact ⟨rfl, ht⟩
    · rw [upI_k e, up_n _ _ e]; exact h2 k (by omega)
  · rw [fb_ct_succ]
    have e : fb_ct (fun k => decide (va_up T n t k &&& z = 0)) n = fb_ct (fun k => decide (T k &&& z = 0)) n := fb_ct_cong fun k hk => by rw [up_n _ _ (by omega)]
    rw [e, h3 z, up_s]
    show _ = c z + if t &&& z = 0 then 1 else 0
    by_cases d : t &&& z = 0
    · rw [if_pos (decide_eq_true d), if_pos d]
    · rw [if_neg (fun q => d (of_decide_eq_true q)), if_neg d]
noncomputable def ci (D : Dr) (a : Nat) (I : MI) : Nat → MI
  | 0 => I
  | j + 1 => psh (ci D a I j) (nI (bl D a ^^^ bl D (a + 1 + j)))
noncomputable def co (D : Dr) (I : MI) : Nat → MI
  | 0 => upI I 90 1 0
  | a + 1 => ci D a (co D I a) (D 0 - (a + 1))
section
variable {E : ET} {l : Launch} {I : MI} {L : ML} {p : Nat → Nat} {D : Dr} {s : Sg}
theorem ci_r {a q : Nat} (h1 : q ≠ 90) (h2 : q ≠ 91) : ∀ j, ci D a I j q = I q
  | 0 => rfl
  | j + 1 => (psh_r h1 h2).trans (ci_r h1 h2 j)
theorem co_r {q : Nat} (h1 : q ≠ 90) (h2 : q ≠ 91) : ∀ a, co D I a q = I q
  | 0 => upI_R h1
  | a + 1 => (ci_r h1 h2 _).trans (co_r h1 h2 a)
theorem ci_PI (hW : WF D) {a : Nat} {J : MI} (h : PI J (ofs (D 0) a) (fun z => al D z a)) : ∀ j, j ≤ D 0 - (a + 1) → PI (ci D a J j) (ofs (D 0) a + j) (fun z => al D z a + ain D z a j)
  | 0, _ => h
  | j + 1, hj => by
    have hS := hW.S
    have ih := ci_PI hW h j (by omega)
    have hx : bl D a ^^^ bl D (a + 1 + j) < 1024 := Nat.xor_lt_two_pow (n := 10) (bl_lt _ _) (bl_lt _ _)
    have := ih.psh (ofs_lt (D 0) (by omega) a (by omega) j (by omega) (by omega)) hx
    have e : (fun z => al D z a + ain D z a j + if (bl D a ^^^ bl D (a + 1 + j)) &&& z = 0 then 1 else 0) = fun z => al D z a + ain D z a (j + 1) := by
      funext z
      have e2 : ain D z a (j + 1) = ain D z a j + if bl D a &&& z = bl D (a + 1 + j) &&& z then 1 else 0 := by
        unfold ain
        rw [fb_ct_succ]
        by_cases d : bl D a &&& z = bl D (a + 1 + j) &&& z
        · rw [if_pos (decide_eq_true d), if_pos d]
        · rw [if_neg (fun q => d (of_decide_eq_true q)), if_neg d]
      rw [e2, Nat.add_assoc]
      congr 1
      congr 1
      by_cases d : bl D a &&& z = bl D (a + 1 + j) &&& z
      · rw [if_pos d, if_pos ((xor_and0 _ _ _).mpr d)]
      · rw [if_neg d, if_neg (fun q => d ((xor_and0 _ _ _).mp q))]
    rw [e] at this
    exact this
theorem co_PI (hW : WF D) : ∀ a, a ≤ D 0 → PI (co D I a) (ofs (D 0) a) (fun z => al D z a)
  | 0, _ => ⟨upI_s _ _ _ _, fun _ => 0, fun k hk => absurd hk (Nat.not_lt_zero k), fun z => rfl⟩
  | a + 1, ha => ci_PI hW (co_PI hW a (by omega)) (D 0 - (a + 1)) (Nat.le_refl _)
theorem k_compare (hR : RD I 1 D) (hY : RY I 1 D) (hW : WF D) : Ct E l yX4_compare wsX4_compare rmX4_compare [.ref 90, .ref 1] (HE E I L p) none (HE E (co D I (D 0)) L p) := by
  have hS := hW.S
  refine Ct.mk (by decide) rfl (Nat.le_of_ble_eq_true rfl) ?_
  rintro X rfl rfl hX - hRt
  refine RX4_compare_0 hX ?_
  refine loop_up (N := D 0) (Q := fun a => G X 0 0 7 [(0, .ref 90), (1, .ref 1), (2, .int (nI a))] [] (HM X (co D I a) L p)) (fun a ha k => ?_) 0 (Nat.zero_le _) ?_
  · have r0 : ∀ j, ci D a (co D I a) j 1 0 = nI (D 0) := fun j => by rw [ci_r (by decide) (by decide), co_r (by decide) (by decide)]; exact hR.1
    have r11 : ∀ j b, b < D 0 → ci D a (co D I a) j 11 b = nI (bl D b) := fun j b hb => by rw [ci_r (by decide) (by decide), co_r (by decide) (by decide)]; exact hY.1 b hb
    refine RX4_compare_7 hX _ ⟨fun q => absurd q (by rw [show co D I a 1 0 = nI (D 0) from r0 0]; exact nI_ge ha (by omega)), fun _ => ?_⟩
    rw [nI_1]
    have key := loop_up (N := D 0 - (a + 1)) (Q := fun j => G X 0 0 19 [(0, .ref 90), (1, .ref 1), (2, .int (nI a)), (3, .int (nI (a + 1 + j)))] [] (HM X (ci D a (co D I a) j) L p)) (fun j hj k2 => ?_) 0 (Nat.zero_le _) ?_
    · exact key
    · have hP := ci_PI hW (co_PI (I := I) hW a (by omega)) j (by omega)
      have h45 := ofs_lt (D 0) (by omega) a (by omega) j (by omega) (by omega)
      refine RX4_compare_19 hX _ _ ⟨fun q => absurd q (by rw [r0]; exact nI_ge (by omega) (by omega)), fun _ => ⟨fun q => absurd q (by rw [hP.1]; exact fun z => absurd ((nle (a := 45) (by decide) (by omega)).mp z) (by omega)), fun _ => ⟨a, rfl, by omega, a + 1 + j, rfl, by omega, ofs (D 0) a + j, hP.1, h45, ?_⟩⟩⟩
      rw [r11 j a ha, r11 j (a + 1 + j) (by omega), fb_xorI, upI_r (show (90 : Nat) ≠ 91 by decide), nI_1]
      have e : upI (upI (ci D a (co D I a) j) 91 (ofs (D 0) a + j) (nI (bl D a ^^^ bl D (a + 1 + j)))) 90 1 (ci D a (co D I a) j 90 1 + 1) = ci D a (co D I a) (j + 1) := by
        show _ = psh _ _
        unfold psh
        rw [hP.1, nI_clamp (by omega)]
      rw [e]
      exact k2
    · refine RX4_compare_19 hX _ _ ⟨fun _ => ?_, fun q => absurd (by rw [r0]; exact nI_le (by omega) (by omega)) q⟩
      rw [nI_1]
      exact k
  · refine RX4_compare_7 hX _ ⟨fun _ => hRt, fun q => absurd ?_ q⟩
    rw [co_r (by decide) (by decide), hR.1]
    exact nI_le (Nat.le_refl _) (by omega)
theorem k_untold {n : Nat} {c : Nat → Nat} (hP : PI I n c) (hn : n ≤ 45) {z : Nat} (hz : z < 1024) : Ct E l yX4_untold wsX4_untold rmX4_untold [.ref 90, .int (nI z)] (HE E I L p) (some (.int (nI (c z)))) (HE E I L p) := by
  obtain ⟨h1, T, h2, h3⟩ := hP
  refine Ct.mk (by decide) rfl (Nat.le_of_ble_eq_true rfl) ?_
  rintro X rfl rfl hX - hRt
  rw [← h3 z] at hRt
  refine RX4_untold_0 hX _ ?_
  refine loop_up (N := n) (Q := fun i => G X 0 0 4 [(0, .ref 90), (1, .int (nI z)), (2, .int (nI (fb_ct (fun k => decide (T k &&& z = 0)) i))), (3, .int (nI i))] [] (HM X I L p)) (fun i hi k => ?_) 0 (Nat.zero_le _) ?_
  · refine RX4_untold_4 hX _ _ _ ⟨fun q => absurd q (by rw [h1]; exact nI_ge hi (by omega)), fun _ => ⟨i, rfl, by omega, ?_⟩⟩
    obtain ⟨t1, t2⟩ := h2 i hi
    have ht : T i &&& z < 1024 := Nat.lt_of_le_of_lt Nat.and_le_right hz
    have e : (if I 91 i &&& nI z = 0 then nI (fb_ct (fun k => decide (T k &&& z = 0)) i) + 1 else nI (fb_ct (fun k => decide (T k &&& z = 0)) i)) = nI (fb_ct (fun k => decide (T k &&& z = 0)) (i + 1)) := by
      rw [t1, fa_and, fb_ct_succ]
      by_cases d : T i &&& z = 0
      · rw [if_pos (decide_eq_true d), if_pos (by rw [d]; rfl), nI_1]
      · rw [if_neg (fun q => d (of_decide_eq_true q)), if_neg (nI_ne0 (by omega) (by omega))]; rfl
    rw [e, nI_1]
    exact k
  · exact RX4_untold_4 hX _ _ _ ⟨fun _ => hRt, fun q => absurd (by rw [h1]; exact nI_le (Nat.le_refl _) (by omega)) q⟩
theorem k_tellsAll {n : Nat} {c : Nat → Nat} (hP : PI I n c) (hn : n ≤ 45) {z : Nat} (hz : z < 1024) : Ct E l yX4_tellsAll wsX4_tellsAll rmX4_tellsAll [.ref 90, .int (nI z)] (HE E I L p) (some (.int (b2i (c z = 0)))) (HE E I L p) := by
  obtain ⟨h1, T, h2, h3⟩ := hP
  refine Ct.mk (by decide) rfl (Nat.le_of_ble_eq_true rfl) ?_
  rintro X rfl rfl hX - hRt
  refine RX4_tellsAll_0 hX _ ?_
  have loop : ∀ m i, i + m = n → (∀ k, k < i → ¬ T k &&& z = 0) → G X 0 0 2 [(0, .ref 90), (1, .int (nI z)), (2, .int (nI i))] [] (HM X I L p) := by
    intro m
    induction m with
    | zero =>
      intro i hi h
      refine RX4_tellsAll_2 hX _ _ ⟨fun _ => ?_, fun q => absurd (by rw [h1]; exact nI_le (by omega) (by omega)) q⟩
      have hc : c z = 0 := by
        rw [← h3 z]
        exact fb_ct_zero.mpr fun k hk => decide_eq_false (h k (by omega))
      rw [b2i_pos hc] at hRt
      exact hRt
    | succ m ih =>
      intro i hi h
      obtain ⟨t1, t2⟩ := h2 i (by omega)
      have ht : T i &&& z < 1024 := Nat.lt_of_le_of_lt Nat.and_le_right hz
      refine RX4_tellsAll_2 hX _ _ ⟨fun q => absurd q (by rw [h1]; exact nI_ge (by omega) (by omega)), fun _ => ⟨i, rfl, by omega, fun q => ?_, fun q => ?_⟩⟩
      · rw [nI_1]
        rw [t1, fa_and] at q
        refine ih (i + 1) (by omega) (fun k hk => ?_)
        by_cases d : k = i
        · subst d; exact fun e => q (by rw [e]; rfl)
        · exact h k (by omega)
      · rw [t1, fa_and] at q
        have q0 := (nI_eq (b := 0) (by omega) (by decide)).mp q
        have hc : ¬ c z = 0 := by
          intro e
          rw [← h3 z] at e
          exact of_decide_eq_false (fb_ct_zero.mp e i (by omega)) q0
        rw [b2i_neg hc] at hRt
        exact hRt
  exact loop n 0 (Nat.zero_add _) (fun k hk => by omega)
noncomputable def bz (D : Dr) (n : Nat) : Nat := if (sf D n).1 = -1 then D 0 + 1 else (sf D n).2
theorem k_fewest (hW : WF D) (hP : PI I (ofs (D 0) (D 0)) (fun z => al D z (D 0))) : Ct E l yX4_fewest wsX4_fewest rmX4_fewest [.ref 90, .int (nI (D 0))] (HE E I L p) (some (.int (sf D (2 ^ D 0)).1)) (HE E I L p) := by
  have hS := hW.S
  obtain ⟨p1, p2⟩ := p10 hW
  have h45 := ofs_45 (D 0) (by omega) (D 0) (by omega)
  refine Ct.mk (by decide) rfl (Nat.le_of_ble_eq_true rfl) ?_
  rintro X rfl rfl hX - hRt
  refine RX4_fewest_0 hX _ ?_
  have e0 : nI (D 0) + 1 = nI (bz D 0) := by rw [nI_1]; rfl
  rw [e0]
  refine loop_up (N := 2 ^ D 0) (Q := fun z => G X 0 0 9 [(0, .ref 90), (1, .int (nI (D 0))), (2, .int (sf D z).1), (3, .int (nI (bz D z))), (4, .int (nI z))] [] (HM X I L p)) (fun z hz k => ?_) 0 (Nat.zero_le _) ?_
  · have h1 := sf_le D z
    have h2 := on_le z
    have h3 := on_S hW hz
    have hb : bz D z ≤ 11 := by unfold bz; split <;> omega
    have es : sf D (z + 1) = if ¬ (sf D z).2 ≤ on z ∧ al D z (D 0) = 0 then (nI z, on z) else sf D z := rfl
    have cmp : bz D z ≤ on z ↔ (sf D z).2 ≤ on z := by
      unfold bz
      rcases sf_inv D z with ⟨g1, g2⟩ | ⟨y, g0, g1, g2⟩
      · rw [if_pos g1, g2]; omega
      · rw [g1, if_neg (nI_nm1 (by omega))]
    refine RX4_fewest_9 hX _ _ _ _ ⟨fun q => absurd q (by rw [jshl_1 (by omega)]; exact nI_ge hz (by omega)), fun _ => ⟨_, j_bitCount (by omega), fun q => ?_, fun q => ⟨_, k_tellsAll hP h45 (by omega), ?_⟩⟩⟩
    · have q1 := (nle (by omega) (by show on z < 2 ^ 31; omega)).mp q
      rw [if_neg (fun c => c.1 (cmp.mp q1))] at es
      have eb : bz D (z + 1) = bz D z := by unfold bz; rw [es]
      rw [es, eb] at k
      rw [nI_1]; exact k
    · have q1 : ¬ bz D z ≤ on z := fun c => q ((nle (by omega) (by show on z < 2 ^ 31; omega)).mpr c)
      by_cases d : al D z (D 0) = 0
      · rw [if_pos ⟨fun c => q1 (cmp.mpr c), d⟩] at es
        have eb : bz D (z + 1) = on z := by unfold bz; rw [es]; exact if_neg (nI_nm1 (by omega))
        rw [es, eb] at k
        rw [if_neg (b2i_n0.mpr d), if_neg (b2i_n0.mpr d), nI_1]
        exact k
      · rw [if_neg (fun c => d c.2)] at es
        have eb : bz D (z + 1) = bz D z := by unfold bz; rw [es]
        rw [es, eb] at k
        rw [if_pos (b2i_0.mpr d), if_pos (b2i_0.mpr d), nI_1]
        exact k
  · exact RX4_fewest_9 hX _ _ _ _ ⟨fun _ => hRt, fun q => absurd (by rw [jshl_1 (by omega)]; exact nI_le (Nat.le_refl _) (by omega)) q⟩
theorem VC_co (hV : VC whn I p s) (hW : GW s) : VC whn (co (gD s) I (gD s 0)) p s := VC_hi hV hW.2.1 fun q hq => co_r (by omega) (by omega) _
theorem k_alike (hV : VC whn I p s) (hW : GW s) (x1 : Int32) : KP E l yX5_alike wsX5_alike rmX5_alike [.ref 0, .int x1] whn I L p (aAlike x1 s) := by
  have hS := hW.1.S
  have r0 := hV.1.1.1
  obtain ⟨p1, p2⟩ := p10 hW.1
  have h45 := ofs_45 (gD s 0) (by omega) (gD s 0) (by omega)
  have er : jshl 1 (I 1 0) - 1 = nI (2 ^ gD s 0 - 1) := by
    rw [r0, jshl_1 (by omega)]
    obtain ⟨n, hn⟩ : ∃ n, 2 ^ gD s 0 = n + 1 := ⟨2 ^ gD s 0 - 1, by omega⟩
    rw [hn, nI_pred]; rfl
  unfold aAlike
  by_cases h : btw x1 0 (2 ^ gD s 0 - 1)
  · rw [qu_pos h]
    obtain ⟨z, rfl, -, hz⟩ := id h
    rw [nI_clamp (by omega)]
    refine ⟨co (gD s) I (gD s 0), L, p, Ct.mk (by decide) rfl (Nat.le_of_ble_eq_true rfl) ?_, VC_co hV hW, fun r hr => co_r (by omega) (by omega) _, fun _ _ => rfl⟩
    rintro X rfl rfl hX - hRt
    exact RX5_alike_0 hX _ ⟨_, by rw [er]; exact k_btw _ (a := 0) (by decide) (by omega), fun _ => ⟨_, k_compare hV.1.1 hV.1.2.1 hW.1, _, k_untold (co_PI hW.1 _ (Nat.le_refl _)) h45 (by omega), hRt⟩, fun q => absurd h (b2i_0.mp q)⟩
  · rw [qu_neg h]
    refine ⟨_, L, p, Ct.mk (by decide) rfl (Nat.le_of_ble_eq_true rfl) ?_, k_bad hV hW.2.1, fun r hr => upI_R (by omega), fun _ _ => rfl⟩
    rintro X rfl rfl hX - hRt
    exact RX5_alike_0 hX _ ⟨_, by rw [er]; exact k_btw _ (a := 0) (by decide) (by omega), fun q => absurd (b2i_n0.mp q) h, fun _ => ⟨_, _, k_refB, hRt⟩⟩
theorem k_sensors (hV : VC whn I p s) (hW : GW s) (x1 : Int32) : KP E l yX5_sensors wsX5_sensors rmX5_sensors [.ref 0, .int x1] whn I L p (aSensors x1 s) := by
  have hS := hW.1.S
  obtain ⟨p1, p2⟩ := p10 hW.1
  unfold aSensors
  by_cases h : btw x1 0 1
  · rw [qu_pos h]
    obtain ⟨w, rfl, -, hw⟩ := id h
    rw [nI_clamp (by omega)]
    have e10 : co (gD s) I (gD s 0) 1 0 = nI (gD s 0) := by rw [co_r (by decide) (by decide)]; exact hV.1.1.1
    refine ⟨co (gD s) I (gD s 0), L, p, Ct.mk (by decide) rfl (Nat.le_of_ble_eq_true rfl) ?_, VC_co hV hW, fun r hr => co_r (by omega) (by omega) _, fun _ _ => rfl⟩
    rintro X rfl rfl hX - hRt
    unfold snv at hRt
    refine RX5_sensors_0 hX _ ⟨_, k_btw _ (a := 0) (b := 1) (by decide) (by decide), fun _ => ⟨_, k_compare hV.1.1 hV.1.2.1 hW.1, _, by rw [e10]; exact k_fewest hW.1 (co_PI hW.1 _ (Nat.le_refl _)), fun q => ?_, fun q => ?_⟩, fun q => absurd h (b2i_0.mp q)⟩
    · rw [if_pos ((nI_eq (b := 0) (by omega) (by decide)).mp q)] at hRt
      exact hRt
    · rw [if_neg (fun z => q (by rw [z]; rfl))] at hRt
      rcases sf_inv (gD s) (2 ^ gD s 0) with ⟨g1, g2⟩ | ⟨y, g0, g1, g2⟩
      · refine ⟨fun z => absurd g1 z, fun z => ?_⟩
        rw [if_pos z] at hRt
        exact hRt
      · refine ⟨fun z => ?_, fun z => absurd (g1.symm.trans z) (nI_nm1 (by omega))⟩
        rw [if_neg z, g2] at hRt
        rw [g1]
        exact ⟨_, j_bitCount (by omega), hRt⟩
  · rw [qu_neg h]
    refine ⟨_, L, p, Ct.mk (by decide) rfl (Nat.le_of_ble_eq_true rfl) ?_, k_bad hV hW.2.1, fun r hr => upI_R (by omega), fun _ _ => rfl⟩
    rintro X rfl rfl hX - hRt
    exact RX5_sensors_0 hX _ ⟨_, k_btw _ (a := 0) (b := 1) (by decide) (by decide), fun q => absurd (b2i_n0.mp q) h, fun _ => ⟨_, _, k_refB, hRt⟩⟩
end
