/-! The class's past, and its public orders. -/
/-- the rows of the past stand for six drains, each once -/
def Pj (p : Nat → Nat) : Prop := (∀ j, j < 6 → 1 ≤ p j ∧ p j < 7) ∧ ∀ i j, i < 6 → j < 6 → p i = p j → i = j
def VD (W : Dr → Nat → Nat) (I : MI) (p : Nat → Nat) (s : Sg) : Prop := RD I 1 (gD s) ∧ RY I 1 (gD s) ∧ I 13 1 = nI (gc s) ∧ Pj p ∧ (∀ j, j < gc s → RD I (dr (p j)) (gQ s j) ∧ RY I (dr (p j)) (gQ s j)) ∧ ∃ kn, kn < 1024 ∧ I 87 2 = nI kn ∧ ∀ a, a < 10 → kn.testBit a = true → I 89 a = nI (W (gD s) a)
def VX (I : MI) (s : Sg) : Prop := I 0 6 = nI (gt s) ∧ (∀ k, k < 120 → I 95 k = nI (gx s k)) ∧ I 0 7 = gf s 0 ∧ I 0 8 = gf s 1 ∧ I 0 9 = gf s 2
/-- the class holds s; W is what its cache may hold -/
def VC (W : Dr → Nat → Nat) (I : MI) (p : Nat → Nat) (s : Sg) : Prop := VD W I p s ∧ VX I s
theorem dr_hi : ∀ d, d < 7 → dr d + 11 ≤ 86 ∧ 1 ≤ dr d := by decide +kernel
theorem dr_p : ∀ d, d < 7 → 1 ≤ d → 15 ≤ dr d := by decide +kernel
section
variable {E : ET} {l : Launch} {I : MI} {L : ML} {p : Nat → Nat} {D : Dr} {s : Sg} {W : Dr → Nat → Nat}
theorem VD.cong {J : MI} (h : VD W I p s) (hc : gc s ≤ 5) (he : ∀ q, 1 ≤ q → q ≤ 89 → J q = I q) : VD W J p s := by
  obtain ⟨h1, h2, h3, h4, h5, kn, k1, k2, k3⟩ := h
  refine ⟨h1.cong fun q a b => he q (by omega) (by omega), h2.cong fun q a b => he q (by omega) (by omega), by rw [he 13 (by decide) (by decide)]; exact h3, h4, fun j hj => ?_, kn, k1, by rw [he 87 (by decide) (by decide)]; exact k2, fun a ha hb => by rw [he 89 (by decide) (by decide)]; exact k3 a ha hb⟩
  have := dr_hi _ (h4.1 j (by omega)).2
  exact ⟨(h5 j hj).1.cong fun q a b => he q (by omega) (by omega), (h5 j hj).2.cong fun q a b => he q (by omega) (by omega)⟩
theorem VX.cong {J : MI} (h : VX I s) (h0 : J 0 = I 0) (h95 : J 95 = I 95) : VX J s := by
  unfold VX at h ⊢
  rw [h0, h95]; exact h
theorem k_refused {j : Nat} (v : Int32) (hv : v = -2 ∧ j = 0 ∨ v = -3 ∧ j = 1 ∨ v = -4 ∧ j = 2) : Ct E l yX5_refused wsX5_refused rmX5_refused [.ref 0, .int v] (HE E I L p) (some (.int v)) (HE E (upI I 0 (7 + j) (I 0 (7 + j) + 1)) L p) := by
  refine Ct.mk (by decide) rfl (Nat.le_of_ble_eq_true rfl) ?_
  rintro X rfl rfl hX - hRt
  rcases hv with ⟨rfl, rfl⟩ | ⟨rfl, rfl⟩ | ⟨rfl, rfl⟩
  · exact RX5_refused_0 hX _ ⟨fun q => absurd q (by decide), fun _ => hRt, fun q => absurd rfl q.2⟩
  · exact RX5_refused_0 hX _ ⟨fun _ => hRt, fun q => absurd q (by decide), fun q => absurd rfl q.1⟩
  · exact RX5_refused_0 hX _ ⟨fun q => absurd q (by decide), fun q => absurd q (by decide), fun _ => hRt⟩
theorem VC_rf (h : VC W I p s) (hc : gc s ≤ 5) {j : Nat} (hj : j < 3) : VC W (upI I 0 (7 + j) (I 0 (7 + j) + 1)) p (rf s j) := by
  obtain ⟨h1, x1, x2, x3, x4, x5⟩ := h
  refine ⟨VD.cong (s := rf s j) h1 hc (fun q a _ => upI_R (by omega)), ?_, fun k hk => ?_, ?_, ?_, ?_⟩
  · rw [upI_k (by omega)]; exact x1
  · rw [upI_r (by decide)]; exact x2 k hk
  all_goals
    show _ = va_up (gf s) j (gf s j + 1) _
    have hj' : j = 0 ∨ j = 1 ∨ j = 2 := by omega
    rcases hj' with rfl | rfl | rfl
  · rw [upI_s, up_s]; exact congrArg (· + 1) x3
  · rw [upI_k (by decide), up_n _ _ (by decide)]; exact x3
  · rw [upI_k (by decide), up_n _ _ (by decide)]; exact x3
  · rw [upI_k (by decide), up_n _ _ (by decide)]; exact x4
  · rw [upI_s, up_s]; exact congrArg (· + 1) x4
  · rw [upI_k (by decide), up_n _ _ (by decide)]; exact x4
  · rw [upI_k (by decide), up_n _ _ (by decide)]; exact x5
  · rw [upI_k (by decide), up_n _ _ (by decide)]; exact x5
  · rw [upI_s, up_s]; exact congrArg (· + 1) x5
theorem k_outdate : Ct E l yX1_outdate wsX1_outdate rmX1_outdate [.ref 87] (HE E I L p) none (HE E (upI I 87 2 0) L p) := by
  refine Ct.mk (by decide) rfl (Nat.le_of_ble_eq_true rfl) ?_
  rintro X rfl rfl hX - hRt
  exact RX1_outdate_0 hX hRt
theorem k_mark {c : Nat} (hc : I 13 1 = nI c) (h6 : c < 6) (hp : 1 ≤ p c ∧ p c < 7) (hW : WF D) (hR : RD I 1 D) (hY : RY I 1 D) : ∃ I', Ct E l yX3_mark wsX3_mark rmX3_mark [.ref 13, .ref 1] (HE E I L p) none (HE E I' L p) ∧ RD I' (dr (p c)) D ∧ RY I' (dr (p c)) D ∧ ∀ q, q < dr (p c) ∨ dr (p c) + 11 < q → I' q = I q := by
  obtain ⟨I', hC, h1, h2, h3⟩ := k_copyD (E := E) (l := l) (L := L) (p := p) (d := p c) (e := 0) hp.2 (by decide) (by omega) hW hR hY
  refine ⟨I', Ct.mk (by decide) rfl (Nat.le_of_ble_eq_true rfl) ?_, h1, h2, h3⟩
  rintro X rfl rfl hX - hRt
  exact RX3_mark_0 hX ⟨c, hc, h6, hp.2, I', hC, hRt⟩
theorem k_toMark {c : Nat} (hc : I 13 1 = nI c) (h6 : c < 6) (hp : 1 ≤ p c ∧ p c < 7) (hW : WF D) (hR : RD I (dr (p c)) D) (hY : RY I (dr (p c)) D) : ∃ I', Ct E l yX3_toMark wsX3_toMark rmX3_toMark [.ref 13, .ref 1] (HE E I L p) none (HE E I' L p) ∧ RD I' 1 D ∧ RY I' 1 D ∧ ∀ q, q < 1 ∨ 12 < q → I' q = I q := by
  obtain ⟨I', hC, h1, h2, h3⟩ := k_copyD (E := E) (l := l) (L := L) (p := p) (d := 0) (e := p c) (by decide) hp.2 (by omega) hW hR hY
  refine ⟨I', Ct.mk (by decide) rfl (Nat.le_of_ble_eq_true rfl) ?_, h1, h2, h3⟩
  rintro X rfl rfl hX - hRt
  exact RX3_toMark_0 hX ⟨c, hc, h6, I', hC, hRt⟩
/-- the rows of the past turned on by i -/
def rt (p : Nat → Nat) (i : Nat) : Nat → Nat := fun j => if j < i then p (j + 1) else p j
theorem rt_s (p : Nat → Nat) (i : Nat) : va_up (rt p i) i (rt p i (i + 1)) = rt p (i + 1) := by
  funext j
  unfold va_up rt
  by_cases c : j = i
  · subst c
    rw [if_pos rfl, if_neg (by omega), if_pos (by omega)]
  · rw [if_neg c]
    by_cases d : j < i
    · rw [if_pos d, if_pos (by omega)]
    · rw [if_neg d, if_neg (by omega)]
def kI (I : MI) (c : Nat) : MI := if c = 5 then I else upI I 13 1 (nI (c + 1))
def kp (p : Nat → Nat) (c : Nat) : Nat → Nat := if c = 5 then va_up (rt p 5) 5 (p 0) else p
theorem k_keep {c : Nat} (hc : I 13 1 = nI c) (h5 : c ≤ 5) (hp : Pj p) : Ct E l yX3_keep wsX3_keep rmX3_keep [.ref 13] (HE E I L p) none (HE E (kI I c) L (kp p c)) := by
  refine Ct.mk (by decide) rfl (Nat.le_of_ble_eq_true rfl) ?_
  rintro X rfl rfl hX - hRt
  unfold kI kp at hRt
  by_cases c5 : c = 5
  · rw [if_pos c5, if_pos c5] at hRt
    refine RX3_keep_0 hX ⟨fun _ => ?_, fun q => absurd ?_ q⟩
    · have e0 : p = rt p 0 := by
        funext j
        unfold rt
        rw [if_neg (by omega)]
      have key := loop_up (N := 5) (Q := fun i => G X 0 0 28 [(0, .ref 13), (1, .ref (dr (p 0))), (2, .int (nI i))] [] (HM X I L (rt p i))) (fun i hi k => RX3_keep_28 hX _ _ ⟨fun q => absurd q (nI_ge (b := 5) hi (by decide)), fun _ => ⟨i + 1, nI_1 i, by omega, i, rfl, by omega, by
        unfold rt
        rw [if_neg (by omega)]
        exact (hp.1 _ (by omega)).2, by
        rw [nI_1, rt_s]; exact k⟩⟩) 0 (by decide) (RX3_keep_28 hX _ _ ⟨fun _ => ⟨(hp.1 0 (by decide)).2, hRt⟩, fun q => absurd (by decide) q⟩)
      rw [← e0] at key
      exact key
    · rw [hc, c5]; decide
  · rw [if_neg c5, if_neg c5] at hRt
    refine RX3_keep_0 hX ⟨fun q => absurd q ?_, fun _ => ?_⟩
    · rw [hc]
      exact fun q => absurd ((nle (a := 5) (by decide) (by omega)).mp q) (by omega)
    · rw [hc, nI_1]; exact hRt
theorem kp_Pj (hp : Pj p) (c : Nat) : Pj (kp p c) := by
  unfold kp
  split
  · have e : ∀ j, j < 6 → va_up (rt p 5) 5 (p 0) j = p (if j < 5 then j + 1 else 0) := by
      intro j hj
      unfold va_up rt
      by_cases c : j = 5
      · subst c; rfl
      · rw [if_neg c, if_pos (by omega), if_pos (by omega)]
    refine ⟨fun j hj => ?_, fun i j hi hj q => ?_⟩
    · rw [e j hj]
      exact hp.1 _ (by split <;> omega)
    · rw [e i hi, e j hj] at q
      have := hp.2 _ _ (by split <;> omega) (by split <;> omega) q
      by_cases a : i < 5 <;> by_cases b : j < 5
      · rw [if_pos a, if_pos b] at this; omega
      · rw [if_pos a, if_neg b] at this; omega
      · rw [if_neg a, if_pos b] at this; omega
      · omega
  · exact hp
theorem Pj.apart (hp : Pj p) {i j : Nat} (hi : i < 6) (hj : j < 6) (hne : i ≠ j) : dr (p i) + 12 ≤ dr (p j) ∨ dr (p j) + 12 ≤ dr (p i) := dr_apart _ (hp.1 i hi).2 _ (hp.1 j hj).2 (fun q => hne (hp.2 i j hi hj q))
/-- mark, the order, settled -/
theorem k_public {A : Dr → Int32 × Dr} {y : MethodName} {ws : List Cond} {rm : Room} {as : List Value} (hV : VC W I p s) (hW : GW s) (hn : neg3 (A (gD s)).1 ∧ ((A (gD s)).1 < 0 → (A (gD s)).2 = gD s)) (hop : ∀ I : MI, RD I 1 (gD s) → RY I 1 (gD s) → KOp E l y ws rm as I L p (A (gD s))) :
    ∃ I2 I3 I4 p', Ct E l yX3_mark wsX3_mark rmX3_mark [.ref 13, .ref 1] (HE E I L p) none (HE E I2 L p) ∧ Ct E l y ws rm as (HE E I2 L p) (some (.int (A (gD s)).1)) (HE E I3 L p) ∧ Ct E l yX5_settled wsX5_settled rmX5_settled [.ref 0, .int (A (gD s)).1] (HE E I3 L p) (some (.int (opn A s).1)) (HE E I4 L p') ∧ VC W I4 p' (opn A s).2 ∧ ∀ r, 96 ≤ r → I4 r = I r := by
  obtain ⟨⟨h1, h2, h3, h4, h5, kn, k1, k2, k3⟩, hx⟩ := hV
  have hc := hW.2.1
  obtain ⟨I2, hC2, a1, a2, a3⟩ := k_mark (E := E) (l := l) (L := L) (D := gD s) h3 (by omega) (h4.1 _ (by omega)) hW.1 h1 h2
  have hd := dr_p _ (h4.1 (gc s) (by omega)).2 (h4.1 (gc s) (by omega)).1
  have hd2 := dr_hi _ (h4.1 (gc s) (by omega)).2
  obtain ⟨I3, hC3, b1, b2, b3⟩ := hop I2 (h1.cong fun q x y => a3 q (by omega)) (h2.cong fun q x y => a3 q (by omega))
  have f3 : ∀ r, r = 0 ∨ 13 ≤ r → r < dr (p (gc s)) ∨ dr (p (gc s)) + 11 < r → I3 r = I r := fun r x y => (b3 r x).trans (a3 r y)
  have q3 : ∀ j, j < gc s → RD I3 (dr (p j)) (gQ s j) ∧ RY I3 (dr (p j)) (gQ s j) := by
    intro j hj
    have u := h4.apart (i := j) (j := gc s) (by omega) (by omega) (by omega)
    have v := dr_p _ (h4.1 j (by omega)).2 (h4.1 j (by omega)).1
    exact ⟨(h5 j hj).1.cong fun q x y => f3 q (by omega) (by omega), (h5 j hj).2.cong fun q x y => f3 q (by omega) (by omega)⟩
  have g3 : RD I3 (dr (p (gc s))) (gD s) ∧ RY I3 (dr (p (gc s))) (gD s) := ⟨a1.cong fun q x y => b3 q (by omega), a2.cong fun q x y => b3 q (by omega)⟩
  have x3 : VX I3 s := hx.cong (f3 0 (by omega) (by omega)) (f3 95 (by omega) (by omega))
  have m3 : I3 13 1 = nI (gc s) := by rw [f3 13 (by omega) (by omega)]; exact h3
  by_cases c : (A (gD s)).1 < 0
  · obtain ⟨j, hj, e1, e2⟩ := neg3_j hn.1 c
    have hv : (A (gD s)).1 = -2 ∧ j = 0 ∨ (A (gD s)).1 = -3 ∧ j = 1 ∨ (A (gD s)).1 = -4 ∧ j = 2 := by
      rcases hn.1 c with q | q | q
      · left; rw [q] at e2; exact ⟨q, e2.symm⟩
      · right; left; rw [q] at e2; exact ⟨q, e2.symm⟩
      · right; right; rw [q] at e2; exact ⟨q, e2.symm⟩
    have eo : opn A s = ((A (gD s)).1, rf s j) := by unfold opn; rw [if_pos c, e2]
    have hV3 : VC W I3 p s := by
      rw [hn.2 c] at b1 b2
      refine ⟨⟨b1, b2, m3, h4, q3, kn, k1, ?_, fun a ha hb => ?_⟩, x3⟩
      · rw [f3 87 (by omega) (by omega)]; exact k2
      · rw [f3 89 (by omega) (by omega)]; exact k3 a ha hb
    refine ⟨I2, I3, _, p, hC2, hC3, Ct.mk (by decide) rfl (Nat.le_of_ble_eq_true rfl) ?_, by rw [eo]; exact VC_rf hV3 hc hj, fun r hr => ?_⟩
    · rintro X rfl rfl hX - hRt
      rw [eo] at hRt
      exact RX5_settled_0 hX _ ⟨fun q => absurd c (by rw [fa_lt]; have := (fa_le _ _).mp q; omega), fun _ => ⟨_, _, k_refused _ hv, hRt⟩⟩
    · rw [upI_R (by omega)]; exact f3 r (by omega) (by omega)
  · have eo : opn A s = ((A (gD s)).1, ((A (gD s)).2, qp (gQ s) (gc s) (gD s), cp (gc s), gx s, gt s, gf s)) := by unfold opn; rw [if_neg c]
    refine ⟨I2, I3, upI (kI I3 (gc s)) 87 2 0, kp p (gc s), hC2, hC3, Ct.mk (by decide) rfl (Nat.le_of_ble_eq_true rfl) ?_, ?_, fun r hr => ?_⟩
    · rintro X rfl rfl hX - hRt
      rw [eo] at hRt
      exact RX5_settled_0 hX _ ⟨fun _ => ⟨_, _, k_keep m3 hc h4, _, k_outdate, hRt⟩, fun q => absurd (by rw [fa_le]; rw [fa_lt] at c; omega) q⟩
    · rw [eo]
      have r4 : ∀ q, q ≠ 13 → q ≠ 87 → upI (kI I3 (gc s)) 87 2 0 q = I3 q := by
        intro q x y
        rw [upI_R y]
        unfold kI
        split
        · rfl
        · rw [upI_R x]
      refine ⟨⟨b1.cong fun q x y => r4 q (by omega) (by omega), b2.cong fun q x y => r4 q (by omega) (by omega), ?_, kp_Pj h4 _, fun j hj => ?_, 0, by decide, upI_s _ _ _ _, fun a ha hb => absurd hb (by simp)⟩, x3.cong (r4 0 (by omega) (by omega)) (r4 95 (by omega) (by omega))⟩
      · show upI (kI I3 (gc s)) 87 2 0 13 1 = nI (cp (gc s))
        rw [upI_r (by decide)]
        unfold kI cp
        by_cases d : gc s = 5
        · rw [if_pos d, if_pos d, m3, d]
        · rw [if_neg d, if_neg d, upI_s]
      · have key : RD I3 (dr (kp p (gc s) j)) (qp (gQ s) (gc s) (gD s) j) ∧ RY I3 (dr (kp p (gc s) j)) (qp (gQ s) (gc s) (gD s) j) := by
          have hj' : j < cp (gc s) := hj
          unfold cp at hj'
          unfold kp qp
          by_cases d : gc s = 5
          · rw [if_pos d] at hj' ⊢
            rw [if_pos d]
            rw [up_n _ _ (by omega)]
            unfold rt
            rw [if_pos (by omega)]
            by_cases e : j < 4
            · rw [if_pos e]; exact q3 _ (by omega)
            · rw [if_neg e, show j + 1 = gc s by omega]; exact g3
          · rw [if_neg d] at hj' ⊢
            rw [if_neg d]
            by_cases e : j = gc s
            · rw [if_pos e, e]; exact g3
            · rw [if_neg e]; exact q3 _ (by omega)
        have hj6 : j < 6 := by
          have hj' : j < cp (gc s) := hj
          unfold cp at hj'
          split at hj' <;> omega
        have hk := (kp_Pj h4 (gc s)).1 j hj6
        have u1 := dr_p _ hk.2 hk.1
        have u2 := dr_hi _ hk.2
        exact ⟨key.1.cong fun q x y => r4 q (by omega) (by omega), key.2.cong fun q x y => r4 q (by omega) (by omega)⟩
    · rw [upI_R (by omega)]
      unfold kI
      split
      · exact f3 r (by omega) (by omega)
      · rw [upI_R (by omega)]; exact f3 r (by omega) (by omega)
/-- what a call of the class owes -/
def KP (E : ET) (l : Launch) (y : MethodName) (ws : List Cond) (rm : Room) (as : List Value) (W : Dr → Nat → Nat) (I : MI) (L : ML) (p : Nat → Nat) (q : Int32 × Sg) : Prop :=
  ∃ I' L' p', Ct E l y ws rm as (HE E I L p) (some (.int q.1)) (HE E I' L' p') ∧ VC W I' p' q.2 ∧ (∀ r, 96 ≤ r → I' r = I r) ∧ ∀ r, 96 ≤ r → L' r = L r
theorem k_shaft (hV : VC W I p s) (hW : GW s) (x1 x2 : Int32) : KP E l yX5_shaft wsX5_shaft rmX5_shaft [.ref 0, .int x1, .int x2] W I L p (opn (aShaft x1 x2) s) := by
  obtain ⟨I2, I3, I4, p', c2, c3, c4, v, f⟩ := k_public (E := E) (l := l) (L := L) (A := aShaft x1 x2) hV hW (aShaft_n hW.1 x1 x2) (fun I hR hY => k_addShaft hR hY hW.1 x1 x2)
  refine ⟨I4, L, p', Ct.mk (by decide) rfl (Nat.le_of_ble_eq_true rfl) ?_, v, f, fun _ _ => rfl⟩
  rintro X rfl rfl hX - hRt
  exact RX5_shaft_0 hX _ _ ⟨_, c2, _, _, c3, _, _, _, c4, hRt⟩
theorem k_sets (hV : VC W I p s) (hW : GW s) (x1 x2 x3 : Int32) : KP E l yX5_sets wsX5_sets rmX5_sets [.ref 0, .int x1, .int x2, .int x3] W I L p (opn (aSets x1 x2 x3) s) := by
  obtain ⟨I2, I3, I4, p', c2, c3, c4, v, f⟩ := k_public (E := E) (l := l) (L := L) (A := aSets x1 x2 x3) hV hW (aSets_n hW.1 x1 x2 x3) (fun I hR hY => k_changeShaft hR hY hW.1 x1 x2 x3)
  refine ⟨I4, L, p', Ct.mk (by decide) rfl (Nat.le_of_ble_eq_true rfl) ?_, v, f, fun _ _ => rfl⟩
  rintro X rfl rfl hX - hRt
  exact RX5_sets_0 hX _ _ _ ⟨_, c2, _, _, c3, _, _, _, c4, hRt⟩
theorem k_pipe (hV : VC W I p s) (hW : GW s) (x1 x2 x3 x4 : Int32) : KP E l yX5_pipe wsX5_pipe rmX5_pipe [.ref 0, .int x1, .int x2, .int x3, .int x4] W I L p (opn (aPipe x1 x2 x3 x4) s) := by
  obtain ⟨I2, I3, I4, p', c2, c3, c4, v, f⟩ := k_public (E := E) (l := l) (L := L) (A := aPipe x1 x2 x3 x4) hV hW (aPipe_n hW.1 x1 x2 x3 x4) (fun I hR hY => k_addPipe hR hY hW.1 x1 x2 x3 x4)
  refine ⟨I4, L, p', Ct.mk (by decide) rfl (Nat.le_of_ble_eq_true rfl) ?_, v, f, fun _ _ => rfl⟩
  rintro X rfl rfl hX - hRt
  exact RX5_pipe_0 hX _ _ _ _ ⟨_, c2, _, _, c3, _, _, _, c4, hRt⟩
theorem k_drops (hV : VC W I p s) (hW : GW s) (x1 : Int32) : KP E l yX5_drops wsX5_drops rmX5_drops [.ref 0, .int x1] W I L p (opn (aDrop x1) s) := by
  obtain ⟨I2, I3, I4, p', c2, c3, c4, v, f⟩ := k_public (E := E) (l := l) (L := L) (A := aDrop x1) hV hW (aDrop_n hW.1 x1) (fun I hR hY => k_dropPipe hR hY hW.1 x1)
  refine ⟨I4, L, p', Ct.mk (by decide) rfl (Nat.le_of_ble_eq_true rfl) ?_, v, f, fun _ _ => rfl⟩
  rintro X rfl rfl hX - hRt
  exact RX5_drops_0 hX _ ⟨_, c2, _, _, c3, _, _, _, c4, hRt⟩
theorem k_sight (hV : VC W I p s) (hW : GW s) (x1 x2 x3 : Int32) : KP E l yX5_sight wsX5_sight rmX5_sight [.ref 0, .int x1, .int x2, .int x3] W I L p (opn (aSight x1 x2 x3) s) := by
  obtain ⟨I2, I3, I4, p', c2, c3, c4, v, f⟩ := k_public (E := E) (l := l) (L := L) (A := aSight x1 x2 x3) hV hW (aSight_n hW.1 x1 x2 x3) (fun I hR hY => k_addSight hR hY hW.1 x1 x2 x3)
  refine ⟨I4, L, p', Ct.mk (by decide) rfl (Nat.le_of_ble_eq_true rfl) ?_, v, f, fun _ _ => rfl⟩
  rintro X rfl rfl hX - hRt
  exact RX5_sight_0 hX _ _ _ ⟨_, c2, _, _, c3, _, _, _, c4, hRt⟩
theorem k_forget (hV : VC W I p s) (hW : GW s) : KP E l yX5_forget wsX5_forget rmX5_forget [.ref 0] W I L p (opn aForget s) := by
  obtain ⟨I2, I3, I4, p', c2, c3, c4, v, f⟩ := k_public (E := E) (l := l) (L := L) (A := aForget) hV hW (aForget_n hW.1) (fun I hR hY => k_dropSights hR hY)
  refine ⟨I4, L, p', Ct.mk (by decide) rfl (Nat.le_of_ble_eq_true rfl) ?_, v, f, fun _ _ => rfl⟩
  rintro X rfl rfl hX - hRt
  exact RX5_forget_0 hX ⟨_, c2, _, _, c3, _, _, _, c4, hRt⟩
theorem k_back (hV : VC W I p s) (hW : GW s) : KP E l yX5_back wsX5_back rmX5_back [.ref 0] W I L p (aBack s) := by
  have hc := hW.2.1
  by_cases c : gc s = 0
  · have eo : aBack s = (-3, rf s 1) := by unfold aBack; rw [if_pos c]
    rw [eo]
    refine ⟨_, L, p, Ct.mk (by decide) rfl (Nat.le_of_ble_eq_true rfl) ?_, VC_rf hV hc (j := 1) (by decide), fun r hr => upI_R (by omega), fun _ _ => rfl⟩
    rintro X rfl rfl hX - hRt
    refine RX5_back_0 hX ⟨fun q => absurd ?_ q, fun _ => ⟨_, _, k_refused (j := 1) (-3) (Or.inr (Or.inl ⟨rfl, rfl⟩)), hRt⟩⟩
    rw [hV.1.2.2.1, c]; rfl
  · have eo : aBack s = (nI (gc s - 1), (gQ s (gc s - 1), gQ s, gc s - 1, gx s, gt s, gf s)) := by unfold aBack; rw [if_neg c]
    rw [eo]
    obtain ⟨⟨h1, h2, h3, h4, h5, kn, k1, k2, k3⟩, hx⟩ := hV
    obtain ⟨n, hn⟩ : ∃ n, gc s = n + 1 := ⟨gc s - 1, by omega⟩
    have e3 : I 13 1 - 1 = nI n := by rw [h3, hn, nI_pred]
    have hp := h4.1 n (by omega)
    have hd := dr_p _ hp.2 hp.1
    have hd2 := dr_hi _ hp.2
    have hq := h5 n (by omega)
    obtain ⟨I2, hC, a1, a2, a3⟩ := k_copyD (E := E) (l := l) (I := upI I 13 1 (nI n)) (L := L) (p := p) (D := gQ s n) (d := 0) (e := p n) (by decide) hp.2 (by omega) (hW.2.2.1 n (by omega)) (hq.1.cong fun q x y => upI_R (by omega)) (hq.2.cong fun q x y => upI_R (by omega))
    have f2 : ∀ q, q < 1 ∨ 12 < q → q ≠ 13 → I2 q = I q := fun q x y => (a3 q x).trans (upI_R y)
    have e13 : I2 13 1 = nI n := by rw [a3 13 (Or.inr (by decide)), upI_s]
    have e13' : upI I2 87 2 0 13 1 = nI n := by rw [upI_r (by decide)]; exact e13
    rw [hn, Nat.add_sub_cancel]
    have hU : Ct E l yX3_undo wsX3_undo rmX3_undo [.ref 13, .ref 1] (HE E I L p) none (HE E I2 L p) := by
      refine Ct.mk (by decide) rfl (Nat.le_of_ble_eq_true rfl) ?_
      rintro X rfl rfl hX - hRt
      refine RX3_undo_0 hX ⟨fun q => absurd q ?_, fun _ => ⟨n, by rw [upI_s]; exact e3, by omega, I2, by rw [e3]; exact hC, hRt⟩⟩
      rw [h3]
      exact fun q => absurd ((nle (b := 0) (by omega) (by decide)).mp q) (by omega)
    refine ⟨upI I2 87 2 0, L, p, Ct.mk (by decide) rfl (Nat.le_of_ble_eq_true rfl) ?_, ⟨⟨a1.cong fun q x y => upI_R (by have : dr 0 = 1 := rfl; omega), a2.cong fun q x y => upI_R (by have : dr 0 = 1 := rfl; omega), e13', h4, fun j hj => ?_, 0, by decide, upI_s _ _ _ _, fun a ha hb => absurd hb (by simp)⟩, ?_⟩, fun r hr => by rw [upI_R (by omega)]; exact f2 r (by omega) (by omega), fun _ _ => rfl⟩
    · rintro X rfl rfl hX - hRt
      refine RX5_back_0 hX ⟨fun _ => ⟨I2, hU, _, k_outdate, by rw [e13']; exact hRt⟩, fun q => absurd q ?_⟩
      rw [h3]
      exact fun q => absurd ((nI_eq (b := 0) (by omega) (by decide)).mp q) (by omega)
    · have hj' : j < n := hj
      have u := h4.1 j (by omega)
      have u1 := dr_p _ u.2 u.1
      have u2 := dr_hi _ u.2
      have g : ∀ q, dr (p j) ≤ q → q ≤ dr (p j) + 11 → upI I2 87 2 0 q = I q := fun q x y => by rw [upI_R (by omega)]; exact f2 q (by omega) (by omega)
      exact ⟨(h5 j (by omega)).1.cong fun q x y => g q x (by omega), (h5 j (by omega)).2.cong fun q x y => g q (by omega) (by omega)⟩
    · exact hx.cong (by rw [upI_R (by decide)]; exact f2 0 (by omega) (by omega)) (by rw [upI_R (by decide)]; exact f2 95 (by omega) (by omega))
end
