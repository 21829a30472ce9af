/-! The model takes the text apart. -/
theorem up_up (I : MI) (r k : Nat) (a b : Int32) : upI (upI I r k a) r k b = upI I r k b := by
  funext q j
  unfold upI
  by_cases c : q = r ∧ j = k
  · rw [if_pos c, if_pos c]
  · rw [if_neg c, if_neg c, if_neg c]
theorem up_id {I : MI} {r k : Nat} {v : Int32} (h : I r k = v) : upI I r k v = I := by
  funext q j
  unfold upI
  by_cases c : q = r ∧ j = k
  · rw [if_pos c, c.1, c.2, h]
  · rw [if_neg c]
/-- the first place from i on that is no blank -/
def skm (x : Nat → Nat) : Nat → Nat → Nat
  | 0, i => i
  | m + 1, i => if x i = 32 then skm x m (i + 1) else i
theorem skm_ge (x : Nat → Nat) : ∀ m i, i ≤ skm x m i ∧ skm x m i ≤ i + m
  | 0, i => ⟨Nat.le_refl _, Nat.le_refl _⟩
  | m + 1, i => by
    have := skm_ge x m (i + 1)
    rw [skm]
    split <;> omega
theorem skm_nb (x : Nat → Nat) : ∀ m i, skm x m i < i + m → x (skm x m i) ≠ 32
  | 0, i, h => by rw [skm] at h; omega
  | m + 1, i, h => by
    rw [skm] at h ⊢
    by_cases c : x i = 32
    · rw [if_pos c] at h ⊢
      exact skm_nb x m (i + 1) (by omega)
    · rw [if_neg c]; exact c
theorem skm_id {x : Nat → Nat} {m i : Nat} (h : x i ≠ 32) : skm x m i = i := by
  cases m with
  | zero => rfl
  | succ m => rw [skm, if_neg h]
abbrev qz (q : Pa) : Pa := (qc q, qo q, qb q, 0, ql q, qn q)
theorem skm_rn {x : Nat → Nat} : ∀ m i q, rn x i = .inr q → rn x (skm x m i) = .inr (if skm x m i = i then q else qz q)
  | 0, i, q, h => by rw [skm, if_pos rfl]; exact h
  | m + 1, i, q, h => by
    rw [skm]
    by_cases c : x i = 32
    · rw [if_pos c]
      have h1 : rn x (i + 1) = .inr (qz q) := rn_some h (by rw [c]; exact tk_32 q)
      have ih := skm_rn m (i + 1) (qz q) h1
      have g := (skm_ge x m (i + 1)).1
      rw [if_neg (by omega)]
      rw [ih]
      by_cases d : skm x m (i + 1) = i + 1
      · rw [if_pos d]
      · rw [if_neg d]
    · rw [if_neg c, if_pos rfl]; exact h
/-- a figure stands at place i -/
def dg (x : Nat → Nat) (n i : Nat) : Prop := i < n ∧ 48 ≤ x i ∧ x i ≤ 57
/-- what the taking apart may change -/
def FM (I' I : MI) : Prop := (∀ r, r ≠ 96 → r ≠ 104 → r ≠ 105 → I' r = I r) ∧ ∀ k, k ≠ 9 → k ≠ 10 → k ≠ 11 → I' 96 k = I 96 k
theorem FM.refl (I : MI) : FM I I := ⟨fun _ _ _ _ => rfl, fun _ _ _ _ => rfl⟩
theorem FM.trans {I J K : MI} (h : FM I J) (h2 : FM J K) : FM I K := ⟨fun r a b c => (h.1 r a b c).trans (h2.1 r a b c), fun k a b c => (h.2 k a b c).trans (h2.2 k a b c)⟩
theorem FM.up {I' I : MI} (h : FM I' I) {k : Nat} {v : Int32} (hk : k = 9 ∨ k = 10 ∨ k = 11) : FM (upI I' 96 k v) I := ⟨fun r a b c => by rw [upI_R (by omega)]; exact h.1 r a b c, fun j a b c => by rw [upI_k (by omega)]; exact h.2 j a b c⟩
theorem FM.row {I' I : MI} (h : FM I' I) {r k : Nat} {v : Int32} (hr : r = 104 ∨ r = 105) : FM (upI I' r k v) I := ⟨fun q a b c => by rw [upI_R (by omega)]; exact h.1 q a b c, fun j a b c => by rw [upI_r (by omega)]; exact h.2 j a b c⟩
/-- the text lies in the model -/
def TX (I : MI) (x : Nat → Nat) (n : Nat) : Prop := I 96 8 = nI n ∧ n ≤ 120 ∧ (∀ k, k < 120 → I 103 k = nI (x k)) ∧ ∀ k, k < 120 → x k < 128
theorem TX.cong {I' I : MI} {x : Nat → Nat} {n : Nat} (h : TX I x n) (hF : FM I' I) : TX I' x n := ⟨by rw [hF.2 8 (by decide) (by decide) (by decide)]; exact h.1, h.2.1, by rw [hF.1 103 (by decide) (by decide) (by decide)]; exact h.2.2.1, h.2.2.2⟩
def chr (x : Nat → Nat) (n i : Nat) : Int32 := if i < n then nI (x i) else -1
section
variable {E : ET} {l : Launch} {I : MI} {L : ML} {p : Nat → Nat} {D : Dr} {s : Sg} {q : Pa} {x : Nat → Nat} {n : Nat}
theorem m_here {i : Nat} (hT : TX I x n) (h9 : I 96 9 = nI i) (hi : i ≤ n) : Ct E l yX6_here wsX6_here rmX6_here [.ref 96] (HE E I L p) (some (.int (chr x n (skm x (n - i) i)))) (HE E (upI I 96 9 (nI (skm x (n - i) i))) L p) := by
  refine Ct.mk (by decide) rfl (Nat.le_of_ble_eq_true rfl) ?_
  rintro X rfl rfl hX - hRt
  have hn := hT.2.1
  have loop : ∀ m i, i + m = n → ∀ J : MI, TX J x n → J 96 9 = nI i → Rt X (some .int) rmX6_here (some (.int (chr x n (skm x m i)))) (HM X (upI J 96 9 (nI (skm x m i))) L p) → G X 0 0 0 [(0, .ref 96)] [] (HM X J L p) := by
    intro m
    induction m with
    | zero =>
      intro i hi J hJ h9 hRt
      have e : i = n := by omega
      subst e
      rw [skm, up_id h9] at hRt
      unfold chr at hRt
      rw [if_neg (Nat.lt_irrefl _)] at hRt
      have le : J 96 8 ≤ J 96 9 := by rw [hJ.1, h9]; exact nI_le (Nat.le_refl _) (by omega)
      exact RX6_here_0 hX ⟨fun _ => ⟨fun _ => hRt, fun z => absurd le z⟩, fun z => absurd le z⟩
    | succ m ih =>
      intro i hi J hJ h9 hRt
      have nle' : ¬ J 96 8 ≤ J 96 9 := by rw [hJ.1, h9]; exact nI_ge (by omega) (by omega)
      have hxi := hJ.2.2.2 i (by omega)
      refine RX6_here_0 hX ⟨fun z => absurd z nle', fun _ => ⟨i, h9, by omega, fun z => ⟨fun z2 => absurd z2 nle', fun _ => ⟨i, h9, by omega, ?_⟩⟩, fun z => ?_⟩⟩
      · rw [hJ.2.2.1 i (by omega)] at z ⊢
        have c : x i ≠ 32 := fun e => z (by rw [e]; rfl)
        rw [skm_id c, up_id h9] at hRt
        unfold chr at hRt
        rw [if_pos (by omega)] at hRt
        exact hRt
      · rw [hJ.2.2.1 i (by omega)] at z
        have c : x i = 32 := (nI_eq (b := 32) (by omega) (by decide)).mp z
        rw [h9, nI_1]
        refine ih (i + 1) (by omega) (upI J 96 9 (nI (i + 1))) (hJ.cong ((FM.refl J).up (by omega))) (upI_s _ _ _ _) ?_
        rw [up_up]
        rw [skm, if_pos c] at hRt
        exact hRt
  exact loop (n - i) i (by omega) I hT h9 hRt
theorem m_must0 (h10 : I 96 10 = -1) : Ct E l yX6_must wsX6_must rmX6_must [.ref 96, .int 0] (HE E I L p) none (HE E (upI I 96 10 (I 96 9)) L p) := by
  refine Ct.mk (by decide) rfl (Nat.le_of_ble_eq_true rfl) ?_
  rintro X rfl rfl hX - hRt
  exact RX6_must_0 hX _ ⟨fun z => absurd h10 z, fun _ => ⟨fun _ => hRt, fun z => absurd rfl z⟩⟩
theorem m_must1 (h10 : I 96 10 = -1) : Ct E l yX6_must wsX6_must rmX6_must [.ref 96, .int 1] (HE E I L p) none (HE E (upI I 96 9 (I 96 9 + 1)) L p) := by
  refine Ct.mk (by decide) rfl (Nat.le_of_ble_eq_true rfl) ?_
  rintro X rfl rfl hX - hRt
  exact RX6_must_0 hX _ ⟨fun z => absurd h10 z, fun _ => ⟨fun z => absurd z (by decide), fun _ => hRt⟩⟩
theorem m_isFigure {i : Nat} (hT : TX I x n) (h9 : I 96 9 = nI i) (hi : i ≤ 2 ^ 30) : Ct E l yX6_isFigure wsX6_isFigure rmX6_isFigure [.ref 96] (HE E I L p) (some (.int (b2i (dg x n i)))) (HE E I L p) := by
  obtain ⟨t1, t2, t3, t4⟩ := hT
  refine Ct.mk (by decide) rfl (Nat.le_of_ble_eq_true rfl) ?_
  rintro X rfl rfl hX - hRt
  by_cases c : i < n
  · have hxi := t4 i (by omega)
    refine RX6_isFigure_0 hX ⟨fun z => absurd z (by rw [t1, h9]; exact nI_ge c (by omega)), fun _ => ⟨i, h9, by omega, _, m_btw _ (a := 48) (b := 57) (by decide) (by decide), hRt.toI ?_⟩⟩
    have e : btw (I 103 i) 48 57 ↔ dg x n i := by
      rw [t3 i (by omega)]
      constructor
      · rintro ⟨k, h1, h2, h3⟩
        have := (nI_eq (by omega) (by omega)).mp h1
        exact ⟨c, by omega, by omega⟩
      · rintro ⟨-, h2, h3⟩; exact ⟨x i, rfl, h2, h3⟩
    by_cases d : dg x n i
    · rw [b2i_pos d, b2i_pos (e.mpr d)]; rfl
    · rw [b2i_neg d, b2i_neg (fun z => d (e.mp z))]; rfl
  · refine RX6_isFigure_0 hX ⟨fun _ => ?_, fun z => absurd (by rw [t1, h9]; exact nI_le (by omega) (by omega)) z⟩
    rw [b2i_neg (fun z => c z.1)] at hRt
    exact hRt
/-- how reading went on: the fault, or the state at the new place -/
def NX (I' : MI) (x : Nat → Nat) (n : Nat) (P : Nat → Pa → Prop) : Prop := (∃ F, PF x n F ∧ F ≤ n ∧ I' 96 10 = nI F) ∨ ∃ i q, rn x i = .inr q ∧ i ≤ n ∧ I' 96 9 = nI i ∧ I' 96 10 = -1 ∧ P i q
theorem m_number {i : Nat} (hT : TX I x n) (h9 : I 96 9 = nI i) (h10 : I 96 10 = -1) (hi : i ≤ n) (hr : rn x i = .inr q) (ho : qo q = 1) (hb : qb q < qw q) (hd : 1 ≤ qg q → ¬ dg x n i) : ∃ I' v, Ct E l yX6_number wsX6_number rmX6_number [.ref 96] (HE E I L p) (some (.int v)) (HE E I' L p) ∧ FM I' I ∧ (I' 104 = I 104 ∧ I' 105 = I 105 ∧ I' 96 11 = I 96 11) ∧ NX I' x n (fun i' q' => i < i' ∧ qo q' = 1 ∧ qc q' = qc q ∧ ql q' = ql q ∧ qb q' = qb q + 1 ∧ ¬ dg x n i' ∧ v = nI (qn q' (4 * qc q + qb q)) ∧ ∀ j, j ≠ 4 * qc q + qb q → qn q' j = qn q j) := by
  obtain ⟨sk1, sk2⟩ := skm_ge x (n - i) i
  have hsr := skm_rn (n - i) i q hr
  have hnb := skm_nb x (n - i) i
  have hh := m_here (E := E) (l := l) (L := L) (p := p) hT h9 hi
  generalize skm x (n - i) i = j at sk1 sk2 hsr hnb hh
  have hn := hT.2.1
  let J : MI := upI I 96 9 (nI j)
  have hJT : TX J x n := hT.cong ((FM.refl I).up (by omega))
  have hJ9 : J 96 9 = nI j := upI_s _ _ _ _
  have hJ10 : J 96 10 = -1 := by
    show upI I 96 9 (nI j) 96 10 = -1
    rw [upI_k (by decide)]; exact h10
  by_cases c : dg x n j
  · -- a figure
    obtain ⟨c1, c2, c3⟩ := id c
    obtain ⟨q1, e1, e2, e3, e4, e5, e6⟩ : ∃ q1 : Pa, rn x j = .inr q1 ∧ qg q1 = 0 ∧ qo q1 = 1 ∧ qc q1 = qc q ∧ (qb q1 = qb q ∧ ql q1 = ql q) ∧ qn q1 = qn q := by
      by_cases z : j = i
      · rw [if_pos z] at hsr
        refine ⟨q, hsr, ?_, ho, rfl, ⟨rfl, rfl⟩, rfl⟩
        refine Classical.byContradiction fun g => hd (by omega) (by rw [← z]; exact c)
      · rw [if_neg z] at hsr
        exact ⟨qz q, hsr, rfl, ho, rfl, ⟨rfl, rfl⟩, rfl⟩
    have hw1 : qb q1 < qw q1 := by
      show qb q1 < nof (ql q1 (qc q1))
      rw [e5.1, e5.2, e4]; exact hb
    have ht1 := tk_f1 (c := x j) e3 c2 c3 e2 hw1
    have r2 := rn_some e1 ht1
    have hin : Ct E l yX6_in wsX6_in rmX6_in [.int (chr x n j), .int 48, .int 57] (HE E J L p) (some (.int 1)) (HE E J L p) := by
      have := m_btw (E := E) (l := l) (I := J) (L := L) (p := p) (chr x n j) (a := 48) (b := 57) (by decide) (by decide)
      rw [b2i_pos (by unfold chr; rw [if_pos c1]; exact ⟨x j, rfl, c2, c3⟩)] at this
      exact this
    have hmu := m_must1 (E := E) (l := l) (L := L) (p := p) hJ10
    let K : MI := upI I 96 9 (nI (j + 1))
    have eK : upI J 96 9 (J 96 9 + 1) = K := by
      show upI (upI I 96 9 (nI j)) 96 9 (J 96 9 + 1) = _
      rw [up_up, hJ9, nI_1]
    rw [eK] at hmu
    have hKT : TX K x n := hT.cong ((FM.refl I).up (by omega))
    have hK9 : K 96 9 = nI (j + 1) := upI_s _ _ _ _
    have hK10 : K 96 10 = -1 := by
      show upI I 96 9 (nI (j + 1)) 96 10 = -1
      rw [upI_k (by decide)]; exact h10
    have k1 : K 96 9 - 1 = nI j := by rw [hK9, nI_pred]
    have kx : K 103 j = nI (x j) := hKT.2.2.1 j (by omega)
    have v1 : K 103 j - 48 = nI (x j - 48) := by rw [kx]; exact nI_sub (b := 48) c2
    have hf1 := m_isFigure (E := E) (l := l) (L := L) (p := p) hKT hK9 (by omega)
    by_cases d : dg x n (j + 1)
    · obtain ⟨d1, d2, d3⟩ := id d
      have ht2 := tk_f2 (c := x (j + 1)) (q := (qc q1, 1, qb q1 + 1, 1, ql q1, va_up (qn q1) (4 * qc q1 + qb q1) (x j - 48))) rfl d2 d3 rfl
      have r3 := rn_some r2 ht2
      let M : MI := upI I 96 9 (nI (j + 2))
      have eM : upI K 96 9 (K 96 9 + 1) = M := by
        show upI (upI I 96 9 (nI (j + 1))) 96 9 (K 96 9 + 1) = _
        rw [up_up, hK9, nI_1]
      have hMT : TX M x n := hT.cong ((FM.refl I).up (by omega))
      have hM9 : M 96 9 = nI (j + 2) := upI_s _ _ _ _
      have hM10 : M 96 10 = -1 := by
        show upI I 96 9 (nI (j + 2)) 96 10 = -1
        rw [upI_k (by decide)]; exact h10
      have hf2 := m_isFigure (E := E) (l := l) (L := L) (p := p) hMT hM9 (by omega)
      have kx2 : K 103 (j + 1) = nI (x (j + 1)) := hKT.2.2.1 (j + 1) (by omega)
      have v2 : (10 : Int32) * (K 103 j - 48) + K 103 (j + 1) - 48 = nI (10 * (x j - 48) + (x (j + 1) - 48)) := by
        rw [v1, kx2, show (10 : Int32) = nI 10 from rfl, pk_mul, nI_add, show (48 : Int32) = nI 48 from rfl, nI_sub (by omega)]
        congr 1
        omega
      by_cases g : dg x n (j + 2)
      · obtain ⟨g1, g2, g3⟩ := id g
        have hN : PF x n (j + 2) := PF_at g1 r3 (tk_f3 rfl g2 g3 (Nat.le_refl 2))
        refine ⟨upI M 96 10 (M 96 9), nI (10 * (x j - 48) + (x (j + 1) - 48)), Ct.mk (by decide) rfl (Nat.le_of_ble_eq_true rfl) ?_, ((FM.refl I).up (by omega)).up (by omega), ⟨by rw [upI_R (by decide)]; exact upI_R (by decide), by rw [upI_R (by decide)]; exact upI_R (by decide), by rw [upI_k (by decide)]; exact upI_k (by decide)⟩, Or.inl ⟨j + 2, hN, by omega, by rw [upI_s]; exact hM9⟩⟩
        rintro X rfl rfl hX - hRt
        refine RX6_number_0 hX ⟨_, _, hh, _, hin, _, hmu, fun _ => ⟨j, k1, by omega, _, hf1, fun z => absurd d (b2i_0.mp z), fun _ => ⟨j + 1, hK9, by omega, _, by rw [eM]; exact hf2, fun z => absurd g (b2i_0.mp z), fun _ => ?_⟩⟩, fun z => absurd hK10 z⟩
        rw [eM, v2]
        exact hRt
      · refine ⟨M, nI (10 * (x j - 48) + (x (j + 1) - 48)), Ct.mk (by decide) rfl (Nat.le_of_ble_eq_true rfl) ?_, (FM.refl I).up (by omega), ⟨upI_R (by decide), upI_R (by decide), upI_k (by decide)⟩, Or.inr ⟨j + 2, _, r3, by omega, hM9, hM10, by omega, rfl, e4, e5.2, by show qb q1 + 1 = qb q + 1; rw [e5.1], g, ?_, fun k hk => ?_⟩⟩
        · rintro X rfl rfl hX - hRt
          refine RX6_number_0 hX ⟨_, _, hh, _, hin, _, hmu, fun _ => ⟨j, k1, by omega, _, hf1, fun z => absurd d (b2i_0.mp z), fun _ => ⟨j + 1, hK9, by omega, _, by rw [eM]; exact hf2, fun _ => ?_, fun z => absurd (b2i_n0.mp z) g⟩⟩, fun z => absurd hK10 z⟩
          rw [eM, v2]
          exact hRt
        · show _ = nI (va_up (va_up (qn q1) (4 * qc q1 + qb q1) (x j - 48)) (4 * qc q1 + (qb q1 + 1) - 1) (10 * va_up (qn q1) (4 * qc q1 + qb q1) (x j - 48) (4 * qc q1 + (qb q1 + 1) - 1) + (x (j + 1) - 48)) (4 * qc q + qb q))
          rw [show 4 * qc q1 + (qb q1 + 1) - 1 = 4 * qc q + qb q by rw [e4, e5.1]; omega, e4, e5.1, up_s, up_s]
        · show va_up (va_up (qn q1) (4 * qc q1 + qb q1) (x j - 48)) (4 * qc q1 + (qb q1 + 1) - 1) _ k = qn q k
          rw [show 4 * qc q1 + (qb q1 + 1) - 1 = 4 * qc q + qb q by rw [e4, e5.1]; omega, up_n _ _ hk, e4, e5.1, up_n _ _ hk, e6]
    · refine ⟨K, nI (x j - 48), Ct.mk (by decide) rfl (Nat.le_of_ble_eq_true rfl) ?_, (FM.refl I).up (by omega), ⟨upI_R (by decide), upI_R (by decide), upI_k (by decide)⟩, Or.inr ⟨j + 1, _, r2, by omega, hK9, hK10, by omega, rfl, e4, e5.2, by show qb q1 + 1 = qb q + 1; rw [e5.1], d, ?_, fun k hk => ?_⟩⟩
      · rintro X rfl rfl hX - hRt
        refine RX6_number_0 hX ⟨_, _, hh, _, hin, _, hmu, fun _ => ⟨j, k1, by omega, _, hf1, fun _ => ⟨_, hf1, fun _ => ?_, fun z => absurd (b2i_n0.mp z) d⟩, fun z => absurd (b2i_n0.mp z) d⟩, fun z => absurd hK10 z⟩
        rw [v1]
        exact hRt
      · show _ = nI (va_up (qn q1) (4 * qc q1 + qb q1) (x j - 48) (4 * qc q + qb q))
        rw [e4, e5.1, up_s]
      · show va_up (qn q1) (4 * qc q1 + qb q1) (x j - 48) k = qn q k
        rw [e4, e5.1, up_n _ _ hk, e6]
  · -- no figure: the fault is here
    have hin : Ct E l yX6_in wsX6_in rmX6_in [.int (chr x n j), .int 48, .int 57] (HE E J L p) (some (.int 0)) (HE E J L p) := by
      have := m_btw (E := E) (l := l) (I := J) (L := L) (p := p) (chr x n j) (a := 48) (b := 57) (by decide) (by decide)
      rw [b2i_neg (by
        rintro ⟨k, h1, h2, h3⟩
        unfold chr at h1
        by_cases z : j < n
        · rw [if_pos z] at h1
          have := hT.2.2.2 j (by omega)
          have := (nI_eq (by omega) (by omega)).mp h1
          exact c ⟨z, by omega, by omega⟩
        · rw [if_neg z] at h1
          exact nI_nm1 (by omega) h1.symm)] at this
      exact this
    have hmu := m_must0 (E := E) (l := l) (L := L) (p := p) hJ10
    have hN : PF x n j := by
      by_cases z : j < n
      · have h32 := hnb (by omega)
        have hto : ∀ q1 : Pa, qo q1 = 1 → qb q1 < qw q1 → tk (x j) q1 = none := by
          intro q1 o1 b1
          by_cases y : x j = 59
          · rw [y]; exact tk_e0 o1 b1
          · exact tk_no o1 h32 y (fun w => c ⟨z, w.1, w.2⟩)
        by_cases y : j = i
        · rw [if_pos y] at hsr
          exact PF_at z hsr (hto q ho hb)
        · rw [if_neg y] at hsr
          exact PF_at z hsr (hto (qz q) ho hb)
      · have e : j = n := by omega
        subst e
        right
        refine ⟨rfl, _, hsr, Or.inl ?_⟩
        by_cases y : j = i
        · rw [if_pos y]; exact ho
        · rw [if_neg y]; exact ho
    refine ⟨upI J 96 10 (J 96 9), 0, Ct.mk (by decide) rfl (Nat.le_of_ble_eq_true rfl) ?_, ((FM.refl I).up (by omega)).up (by omega), ⟨by rw [upI_R (by decide)]; exact upI_R (by decide), by rw [upI_R (by decide)]; exact upI_R (by decide), by rw [upI_k (by decide)]; exact upI_k (by decide)⟩, Or.inl ⟨j, hN, by omega, by rw [upI_s]; exact hJ9⟩⟩
    rintro X rfl rfl hX - hRt
    refine RX6_number_0 hX ⟨_, _, hh, _, hin, _, hmu, fun z => ?_, fun _ => hRt⟩
    rw [upI_s, hJ9] at z
    exact absurd z (nI_nm1 (by omega))
end
