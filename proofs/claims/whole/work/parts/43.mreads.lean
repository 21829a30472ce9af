/-! The model reads. -/
def nofI (c : Nat) : Int32 := if nof c = 0 then -1 else nI (nof c)
section
variable {E : ET} {l : Launch} {I : MI} {L : ML} {p : Nat → Nat} {D : Dr} {s : Sg} {q : Pa} {x : Nat → Nat} {n : Nat}
theorem m_numbersOf {c : Nat} (hc : c < 2 ^ 31) : Ct E l yX6_numbersOf wsX6_numbersOf rmX6_numbersOf [.int (nI c)] (HE E I L p) (some (.int (nofI c))) (HE E I L p) := by
  have e : ∀ j, j < 128 → (nI c = nI j ↔ c = j) := fun j hj => nI_eq hc (by omega)
  have e1 : nI c = 99 ↔ c = 99 := e 99 (by decide)
  have e2 : nI c = 101 ↔ c = 101 := e 101 (by decide)
  have e3 : nI c = 112 ↔ c = 112 := e 112 (by decide)
  have e4 : nI c = 115 ↔ c = 115 := e 115 (by decide)
  have e5 : nI c = 120 ↔ c = 120 := e 120 (by decide)
  refine Ct.mk (by decide) rfl (Nat.le_of_ble_eq_true rfl) ?_
  rintro X rfl rfl hX - hRt
  refine RX6_numbersOf_0 hX _ ⟨fun z => ?_, fun z => ?_, fun z => ?_, fun z => ?_, fun z => ?_, fun z => ?_⟩
  · rw [e1] at z; subst z; exact hRt
  · rw [e2] at z; subst z; exact hRt
  · rw [e3] at z; subst z; exact hRt
  · rw [e4] at z; subst z; exact hRt
  · rw [e5] at z; subst z; exact hRt
  · rw [e1, e2, e3, e4, e5] at z
    have h0 : nof c = 0 := by unfold nof; rw [if_neg (by omega), if_neg (by omega), if_neg (by omega)]
    have : nofI c = -1 := if_pos h0
    rw [this] at hRt
    exact hRt
theorem m_readOrder {i : Nat} (hT : TX I x n) (h9 : I 96 9 = nI i) (h10 : I 96 10 = -1) (hi : i < n) (h32 : x i ≠ 32) (hr : rn x i = .inr q) (ho : qo q = 0) (h11 : I 96 11 = nI (qc q)) (hL : LR 104 I q) (hN : NR 105 I q) : ∃ I', Ct E l yX6_readOrder wsX6_readOrder rmX6_readOrder [.ref 96] (HE E I L p) none (HE E I' L p) ∧ FM I' I ∧ NX I' x n (fun i' q' => i < i' ∧ qo q' = 0 ∧ I' 96 11 = nI (qc q') ∧ qc q' ≠ 0 ∧ LR 104 I' q' ∧ NR 105 I' q') := by
  have hn := hT.2.1
  have hxi := hT.2.2.2 i (by omega)
  have hAV := rn_AV hr
  have hcnt : qc q < 40 := by have := hAV.2.2.2.1; omega
  have hh := m_here (E := E) (l := l) (L := L) (p := p) hT h9 (by omega)
  have hchr : chr x n i = nI (x i) := if_pos hi
  rw [skm_id h32, up_id h9, hchr] at hh
  have hno := m_numbersOf (E := E) (l := l) (I := I) (L := L) (p := p) (c := x i) (by omega)
  by_cases hz : nof (x i) = 0
  · have e1 : nofI (x i) = -1 := if_pos hz
    rw [e1] at hno
    refine ⟨upI I 96 10 (I 96 9), Ct.mk (by decide) rfl (Nat.le_of_ble_eq_true rfl) ?_, (FM.refl I).up (by omega), Or.inl ⟨i, PF_at hi hr (tk_o0 h32 ho hz), by omega, by rw [upI_s]; exact h9⟩⟩
    rintro X rfl rfl hX - hRt
    refine RX6_readOrder_0 hX ⟨_, _, hh, _, hno, _, m_must0 h10, ?_⟩
    have n10 : ¬ upI I 96 10 (I 96 9) 96 10 = -1 := by rw [upI_s, h9]; exact nI_nm1 (by omega)
    exact RX6_readOrder_26 hX _ _ _ ⟨fun _ => ⟨fun _ => hRt, fun z => absurd z n10⟩, fun z => absurd (by decide) z⟩
  · have e1 : nofI (x i) = nI (nof (x i)) := if_neg hz
    rw [e1] at hno
    have hw4 := nof_le (x i)
    have r1 := rn_some hr (tk_o h32 ho hz)
    have loop : ∀ m k J i' q', k + m = nof (x i) → FM J I → J 96 9 = nI i' → J 96 10 = -1 → J 96 11 = nI (qc q) → J 104 = I 104 → rn x i' = .inr q' → i < i' → i' ≤ n → qo q' = 1 → qc q' = qc q → ql q' = va_up (ql q) (qc q) (x i) → qb q' = k → (1 ≤ qg q' ∨ 1 ≤ k → ¬ dg x n i') → NR 105 J q' → ∃ I', FM I' I ∧ NX I' x n (fun i' q' => i < i' ∧ qo q' = 0 ∧ I' 96 11 = nI (qc q') ∧ qc q' ≠ 0 ∧ LR 104 I' q' ∧ NR 105 I' q') ∧ ∀ X, xE X = E → xl X = l → Cx X cX6_readOrder 4 RX6 wsX6_readOrder rmX6_readOrder → Rt X none rmX6_readOrder none (HM X I' L p) → G X 0 0 26 [(0, .ref 96), (1, .int (nI (x i))), (2, .int (nI (nof (x i)))), (3, .int (nI k))] [] (HM X J L p) := by
      intro m
      induction m with
      | zero =>
        intro k J i' q' hk hF j9 j10 j11 j104 jr ji ji2 jo jc jl jb jd jN
        have hkW : k = nof (x i) := by omega
        have hk1 : 1 ≤ k := by omega
        let J1 : MI := upI (upI J 104 (qc q) (nI (x i))) 96 11 (nI (qc q + 1))
        have eJ1 : upI (upI J 104 (qc q) (nI (x i))) 96 11 (upI J 104 (qc q) (nI (x i)) 96 11 + 1) = J1 := by
          show _ = upI (upI J 104 (qc q) (nI (x i))) 96 11 (nI (qc q + 1))
          rw [upI_r (show (96 : Nat) ≠ 104 by decide), j11, nI_1]
        have hF1 : FM J1 I := (hF.row (by omega)).up (by omega)
        have hT1 := hT.cong hF1
        have j19 : J1 96 9 = nI i' := by
          show upI (upI J 104 (qc q) (nI (x i))) 96 11 (nI (qc q + 1)) 96 9 = _
          rw [upI_k (by decide), upI_r (by decide)]; exact j9
        have j110 : J1 96 10 = -1 := by
          show upI (upI J 104 (qc q) (nI (x i))) 96 11 (nI (qc q + 1)) 96 10 = _
          rw [upI_k (by decide), upI_r (by decide)]; exact j10
        have j111 : J1 96 11 = nI (qc q + 1) := upI_s _ _ _ _
        have hh2 := m_here (E := E) (l := l) (L := L) (p := p) hT1 j19 ji2
        obtain ⟨sk1, sk2⟩ := skm_ge x (n - i') i'
        have hsr := skm_rn (n - i') i' q' jr
        have hnb := skm_nb x (n - i') i'
        generalize skm x (n - i') i' = j at sk1 sk2 hsr hnb hh2
        let J2 : MI := upI J1 96 9 (nI j)
        have j29 : J2 96 9 = nI j := upI_s _ _ _ _
        have j210 : J2 96 10 = -1 := by
          show upI J1 96 9 (nI j) 96 10 = _
          rw [upI_k (by decide)]; exact j110
        have hF2 : FM J2 I := hF1.up (by omega)
        obtain ⟨q1, o1, o2, o3, o4, o5, o6, o7⟩ : ∃ q1 : Pa, rn x j = .inr q1 ∧ qo q1 = 1 ∧ qc q1 = qc q ∧ ql q1 = va_up (ql q) (qc q) (x i) ∧ qb q1 = k ∧ qn q1 = qn q' ∧ (dg x n j → qg q1 = 0) := by
          by_cases z : j = i'
          · rw [if_pos z] at hsr
            exact ⟨q', hsr, jo, jc, jl, jb, rfl, fun w => absurd (by rw [← z]; exact w) (jd (Or.inr hk1))⟩
          · rw [if_neg z] at hsr
            exact ⟨qz q', hsr, jo, jc, jl, jb, rfl, fun _ => rfl⟩
        have hq1w : qw q1 = nof (x i) := by
          show nof (ql q1 (qc q1)) = _
          rw [o3, o4, up_s]
        have hnb1 : ¬ qb q1 < qw q1 := by rw [hq1w, o5]; omega
        by_cases c : j < n ∧ x j = 59
        · have ht := tk_e o2 hnb1
          rw [← c.2] at ht
          have r2 := rn_some o1 ht
          let J3 : MI := upI J1 96 9 (nI (j + 1))
          have eJ3 : upI J2 96 9 (J2 96 9 + 1) = J3 := by
            show upI (upI J1 96 9 (nI j)) 96 9 (J2 96 9 + 1) = _
            rw [up_up, j29, nI_1]
          have l104 : ∀ b, J3 104 b = upI J 104 (qc q) (nI (x i)) 104 b := by
            intro b
            show upI (upI (upI J 104 (qc q) (nI (x i))) 96 11 (nI (qc q + 1))) 96 9 (nI (j + 1)) 104 b = _
            rw [upI_r (by decide), upI_r (by decide)]
          have l105 : ∀ b, J3 105 b = J 105 b := by
            intro b
            show upI (upI (upI J 104 (qc q) (nI (x i))) 96 11 (nI (qc q + 1))) 96 9 (nI (j + 1)) 105 b = _
            rw [upI_r (by decide), upI_r (by decide), upI_r (by decide)]
          refine ⟨J3, hF1.up (by omega), Or.inr ⟨j + 1, _, r2, by omega, upI_s _ _ _ _, ?_, by omega, rfl, ?_, ?_, fun b hb => ?_, fun b d hbd => ?_⟩, ?_⟩
          · show upI J1 96 9 (nI (j + 1)) 96 10 = _
            rw [upI_k (by decide)]; exact j110
          · show upI J1 96 9 (nI (j + 1)) 96 11 = nI (qc q1 + 1)
            rw [upI_k (by decide), o3]; exact j111
          · show qc q1 + 1 ≠ 0
            omega
          · have hb' : b < qc q1 + 1 := hb
            show J3 104 b = nI (ql q1 b)
            rw [l104, o4]
            by_cases z : b = qc q
            · rw [z, upI_s, up_s]
            · rw [upI_k z, up_n _ _ z, j104]
              exact hL b (by omega)
          · have hbd' : (b < qc q1 + 1 ∧ d < nof (ql q1 b)) ∨ ((0 : Nat) = 1 ∧ b = qc q1 + 1 ∧ d < qb q1) := hbd
            show J3 105 (4 * b + d) = nI (qn q1 (4 * b + d))
            rw [l105, o6]
            refine jN b d ?_
            by_cases z : b = qc q
            · right
              rw [o4, z, up_s] at hbd'
              exact ⟨jo, by rw [jc]; exact z, by omega⟩
            · left
              rw [jl]
              rw [o4] at hbd'
              exact ⟨by omega, by omega⟩
          · rintro X rfl rfl hX hRt
            have ec : chr x n j = 59 := by unfold chr; rw [if_pos c.1, c.2]; rfl
            rw [ec] at hh2
            refine RX6_readOrder_26 hX _ _ _ ⟨fun _ => ⟨fun z => absurd j10 z, fun _ => ⟨qc q, j11, hcnt, _, _, by rw [eJ1]; exact hh2, _, m_must1 j210, ?_⟩⟩, fun z => absurd (nI_le (by omega) (by omega)) z⟩
            rw [eJ3]
            exact hRt
        · refine ⟨upI J2 96 10 (J2 96 9), hF2.up (by omega), Or.inl ⟨j, ?_, by omega, by rw [upI_s]; exact j29⟩, ?_⟩
          · by_cases z : j < n
            · have n32 := hnb (by omega)
              have n59 : x j ≠ 59 := fun w => c ⟨z, w⟩
              by_cases y : dg x n j
              · exact PF_at z o1 (tk_f0 o2 y.2.1 y.2.2 (o7 y) hnb1)
              · exact PF_at z o1 (tk_no o2 n32 n59 (fun w => y ⟨z, w.1, w.2⟩))
            · have e : j = n := by omega
              subst e
              exact Or.inr ⟨rfl, q1, o1, Or.inl o2⟩
          · rintro X rfl rfl hX hRt
            have ec : ¬ chr x n j = 59 := by
              unfold chr
              by_cases z : j < n
              · rw [if_pos z]
                have := hT.2.2.2 j (by omega)
                exact fun w => c ⟨z, (nI_eq (b := 59) (by omega) (by decide)).mp w⟩
              · rw [if_neg z]; decide
            exact RX6_readOrder_26 hX _ _ _ ⟨fun _ => ⟨fun z => absurd j10 z, fun _ => ⟨qc q, j11, hcnt, _, _, by rw [eJ1]; exact hh2, _, by rw [if_neg ec]; exact m_must0 j210, hRt⟩⟩, fun z => absurd (nI_le (by omega) (by omega)) z⟩
      | succ m ih =>
        intro k J i' q' hk hF j9 j10 j11 j104 jr ji ji2 jo jc jl jb jd jN
        have hw' : qw q' = nof (x i) := by
          show nof (ql q' (qc q')) = _
          rw [jc, jl, up_s]
        obtain ⟨J2, v, n1, n2, ⟨n3, n4, n5⟩, n6⟩ := m_number (E := E) (l := l) (L := L) (p := p) (hT.cong hF) j9 j10 ji2 jr jo (by rw [hw', jb]; omega) (fun z => jd (Or.inl z))
        have ix : (4 : Int32) * J 96 11 + nI k = nI (4 * qc q + k) := by
          rw [j11, show (4 : Int32) = nI 4 from rfl, pk_mul, nI_add]
        rcases n6 with ⟨F, f1, f2, f3⟩ | ⟨i2, q2, g1, g2, g3, g4, g5, g6, g7, g8, g9, g10, g11, g12⟩
        · refine ⟨upI J2 105 (4 * qc q + k) v, (n2.trans hF).row (by omega), Or.inl ⟨F, f1, f2, by rw [upI_r (by decide)]; exact f3⟩, ?_⟩
          rintro X rfl rfl hX hRt
          have n10 : ¬ upI J2 105 (4 * qc q + k) v 96 10 = -1 := by rw [upI_r (by decide), f3]; exact nI_nm1 (by omega)
          refine RX6_readOrder_26 hX _ _ _ ⟨fun z => absurd z (nI_ge (by omega) (by omega)), fun _ => ⟨fun z => absurd j10 z, fun _ => ⟨_, _, n1, 4 * qc q + k, ix, by omega, ?_⟩⟩⟩
          exact RX6_readOrder_26 hX _ _ _ ⟨fun _ => ⟨fun _ => hRt, fun z => absurd z n10⟩, fun _ => ⟨fun _ => ⟨fun _ => hRt, fun z => absurd z n10⟩, fun z => absurd z n10⟩⟩
        · obtain ⟨I', i1, i2', i3⟩ := ih (k + 1) (upI J2 105 (4 * qc q + k) v) i2 q2 (by omega) ((n2.trans hF).row (by omega)) (by rw [upI_r (by decide)]; exact g3) (by rw [upI_r (by decide)]; exact g4) (by rw [upI_r (by decide), n5]; exact j11) (by rw [upI_R (by decide), n3]; exact j104) g1 (by omega) g2 g6 (by rw [g7]; exact jc) (by rw [g8]; exact jl) (by rw [g9, jb]) (fun _ => g10) (fun b d hbd => by
            rw [jc, jb] at g11 g12
            by_cases z : 4 * b + d = 4 * qc q + k
            · rw [z, upI_s]; exact g11
            · rw [upI_k z, n4, g12 _ z]
              refine jN b d ?_
              rw [g7, g8, g9, jc, jb] at hbd
              rw [jc, jb]
              rcases hbd with w | ⟨w1, w2, w3⟩
              · exact Or.inl w
              · exact Or.inr ⟨jo, w2, by omega⟩)
          refine ⟨I', i1, i2', ?_⟩
          rintro X rfl rfl hX hRt
          refine RX6_readOrder_26 hX _ _ _ ⟨fun z => absurd z (nI_ge (by omega) (by omega)), fun _ => ⟨fun z => absurd j10 z, fun _ => ⟨_, _, n1, 4 * qc q + k, ix, by omega, ?_⟩⟩⟩
          rw [nI_1]
          exact i3 X rfl rfl hX hRt
    let K : MI := upI I 96 9 (nI (i + 1))
    have eK : upI I 96 9 (I 96 9 + 1) = K := by
      show _ = upI I 96 9 (nI (i + 1))
      rw [h9, nI_1]
    obtain ⟨I', i1, i2, i3⟩ := loop (nof (x i)) 0 K (i + 1) _ (Nat.zero_add _) ((FM.refl I).up (by omega)) (upI_s _ _ _ _) ((upI_k (by decide)).trans h10) ((upI_k (by decide)).trans h11) (upI_R (by decide)) r1 (by omega) (by omega) rfl rfl rfl rfl (fun z => by
      have z' : 1 ≤ (0 : Nat) ∨ 1 ≤ (0 : Nat) := z
      omega) (fun b d hbd => by
      have hbd' : (b < qc q ∧ d < nof (va_up (ql q) (qc q) (x i) b)) ∨ ((1 : Nat) = 1 ∧ b = qc q ∧ d < 0) := hbd
      show upI I 96 9 (nI (i + 1)) 105 (4 * b + d) = nI (qn q (4 * b + d))
      rw [upI_r (by decide)]
      have hb : b < qc q := by omega
      rw [up_n _ _ (by omega)] at hbd'
      exact hN b d (Or.inl (by omega)))
    refine ⟨I', Ct.mk (by decide) rfl (Nat.le_of_ble_eq_true rfl) ?_, i1, i2⟩
    intro X hE hl hX _ hRt
    subst hE hl
    refine RX6_readOrder_0 hX ⟨_, _, hh, _, hno, K, ?_, i3 X rfl rfl hX hRt⟩
    rw [if_neg (nI_nm1 (by omega)), ← eK]
    exact m_must1 h10
end
