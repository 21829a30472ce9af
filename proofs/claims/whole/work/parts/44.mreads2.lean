/-! The model reads: the orders, one after the other. -/
/-- held copied back -/
def xI (I : MI) (n : Nat) : MI := fun r k => if r = 97 ∧ k < n then I 98 k else I r k
theorem xI_0 (I : MI) : xI I 0 = I := by funext r k; simp [xI]
theorem xI_s (I : MI) (i : Nat) : upI (xI I i) 97 i (xI I i 98 i) = xI I (i + 1) := by
  funext r k
  unfold upI xI
  by_cases c : r = 97
  · subst c
    by_cases d : k = i
    · subst d
      rw [if_pos ⟨rfl, rfl⟩, if_neg (by omega), if_pos ⟨rfl, by omega⟩]
    · rw [if_neg (by simp [d])]
      by_cases f : k < i
      · rw [if_pos ⟨rfl, f⟩, if_pos ⟨rfl, by omega⟩]
      · rw [if_neg (by omega), if_neg (by omega)]
  · simp [c]
theorem xI_r {I : MI} {n r : Nat} (h : r ≠ 97) : xI I n r = I r := by funext k; simp [xI, h]
section
variable {E : ET} {l : Launch} {I : MI} {L : ML} {p : Nat → Nat} {D : Dr} {s : Sg} {q : Pa} {x : Nat → Nat} {n : Nat}
theorem m_doOrder {k : Nat} (hR : RM I D) (hW : WF D) (hL : LR 104 I q) (hN : NR 105 I q) (hql : ∀ j, ql q j < 128) (h1 : ∀ j, j < qc q → 1 ≤ nof (ql q j)) (h40 : qc q ≤ 40) (hk : k < qc q) : ∃ I', Ct E l yX6_doOrder wsX6_doOrder rmX6_doOrder [.ref 96, .int (nI k)] (HE E I L p) (some (.int (od q k D).1)) (HE E I' L p) ∧ RM I' (od q k D).2 ∧ ∀ r, r ≠ 97 → I' r = I r := by
  have hl := hql k
  have e : ∀ j, j < 128 → (I 104 k = nI j ↔ ql q k = j) := fun j hj => by rw [hL k hk]; exact nI_eq (by omega) (by omega)
  have e1 : I 104 k = 99 ↔ ql q k = 99 := e 99 (by decide)
  have e2 : I 104 k = 101 ↔ ql q k = 101 := e 101 (by decide)
  have e3 : I 104 k = 112 ↔ ql q k = 112 := e 112 (by decide)
  have e4 : I 104 k = 115 ↔ ql q k = 115 := e 115 (by decide)
  have num : ∀ j, j < nof (ql q k) → I 105 (4 * k + j) = nI (qn q (4 * k + j)) := fun j hj => hN k j (Or.inl ⟨hk, hj⟩)
  have ix0 : (4 : Int32) * nI k = nI (4 * k) := by rw [show (4 : Int32) = nI 4 from rfl, pk_mul]
  have ix1 : (4 : Int32) * nI k + 1 = nI (4 * k + 1) := by rw [ix0, nI_1]
  have ix2 : (4 : Int32) * nI k + 2 = nI (4 * k + 2) := by rw [ix0]; exact nI_add _ 2
  have ix3 : (4 : Int32) * nI k + 3 = nI (4 * k + 3) := by rw [ix0]; exact nI_add _ 3
  have hn1 := h1 k hk
  unfold od
  by_cases c1 : ql q k = 99
  · rw [if_pos c1]
    have n0 := num 0 (by rw [c1]; decide)
    have n1 := num 1 (by rw [c1]; decide)
    obtain ⟨I', hC, hR', hf⟩ := m_doSight (E := E) (l := l) (L := L) (p := p) hR hW 0 (nI (qn q (4 * k))) (nI (qn q (4 * k + 1)))
    refine ⟨I', Ct.mk (by decide) rfl (Nat.le_of_ble_eq_true rfl) ?_, hR', hf⟩
    rintro X rfl rfl hX - hRt
    exact RX6_doOrder_0 hX _ ⟨4 * k, ix0, by omega, 4 * k + 1, ix1, by omega, k, rfl, by omega, fun _ => ⟨_, I', by rw [show I 105 (4 * k) = _ from n0, n1]; exact hC, hRt⟩, fun z => absurd (e2.mp z) (by omega), fun z => absurd (e3.mp z) (by omega), fun z => absurd (e4.mp z) (by omega), fun z => absurd (e1.mpr c1) z.1⟩
  · rw [if_neg c1]
    by_cases c2 : ql q k = 101
    · rw [if_pos c2]
      have n0 := num 0 (by rw [c2]; decide)
      have n1 := num 1 (by rw [c2]; decide)
      obtain ⟨I', hC, hR', hf⟩ := m_doSight (E := E) (l := l) (L := L) (p := p) hR hW 1 (nI (qn q (4 * k))) (nI (qn q (4 * k + 1)))
      refine ⟨I', Ct.mk (by decide) rfl (Nat.le_of_ble_eq_true rfl) ?_, hR', hf⟩
      rintro X rfl rfl hX - hRt
      exact RX6_doOrder_0 hX _ ⟨4 * k, ix0, by omega, 4 * k + 1, ix1, by omega, k, rfl, by omega, fun z => absurd (e1.mp z) c1, fun _ => ⟨_, I', by rw [show I 105 (4 * k) = _ from n0, n1]; exact hC, hRt⟩, fun z => absurd (e3.mp z) (by omega), fun z => absurd (e4.mp z) (by omega), fun z => absurd (e2.mpr c2) z.2.1⟩
    · rw [if_neg c2]
      by_cases c3 : ql q k = 112
      · rw [if_pos c3]
        have n0 := num 0 (by rw [c3]; decide)
        have n1 := num 1 (by rw [c3]; decide)
        have n2 := num 2 (by rw [c3]; decide)
        have n3 := num 3 (by rw [c3]; decide)
        obtain ⟨I', hC, hR', hf⟩ := m_doPipe (E := E) (l := l) (L := L) (p := p) hR hW (nI (qn q (4 * k))) (nI (qn q (4 * k + 1))) (nI (qn q (4 * k + 2))) (nI (qn q (4 * k + 3)))
        refine ⟨I', Ct.mk (by decide) rfl (Nat.le_of_ble_eq_true rfl) ?_, hR', hf⟩
        rintro X rfl rfl hX - hRt
        exact RX6_doOrder_0 hX _ ⟨4 * k, ix0, by omega, 4 * k + 1, ix1, by omega, k, rfl, by omega, fun z => absurd (e1.mp z) c1, fun z => absurd (e2.mp z) c2, fun _ => ⟨4 * k + 2, ix2, by omega, 4 * k + 3, ix3, by omega, _, I', by rw [show I 105 (4 * k) = _ from n0, n1, n2, n3]; exact hC, hRt⟩, fun z => absurd (e4.mp z) (by omega), fun z => absurd (e3.mpr c3) z.2.2.1⟩
      · rw [if_neg c3]
        by_cases c4 : ql q k = 115
        · rw [if_pos c4]
          have n0 := num 0 (by rw [c4]; decide)
          have n1 := num 1 (by rw [c4]; decide)
          obtain ⟨I', hC, hR', hf⟩ := m_doShaft (E := E) (l := l) (L := L) (p := p) hR hW (nI (qn q (4 * k))) (nI (qn q (4 * k + 1)))
          refine ⟨I', Ct.mk (by decide) rfl (Nat.le_of_ble_eq_true rfl) ?_, hR', hf⟩
          rintro X rfl rfl hX - hRt
          exact RX6_doOrder_0 hX _ ⟨4 * k, ix0, by omega, 4 * k + 1, ix1, by omega, k, rfl, by omega, fun z => absurd (e1.mp z) c1, fun z => absurd (e2.mp z) c2, fun z => absurd (e3.mp z) c3, fun _ => ⟨_, I', by rw [show I 105 (4 * k) = _ from n0, n1]; exact hC, hRt⟩, fun z => absurd (e4.mpr c4) z.2.2.2⟩
        · rw [if_neg c4]
          have n0 := num 0 (by omega)
          obtain ⟨I', hC, hR', hf⟩ := m_doDrops (E := E) (l := l) (L := L) (p := p) hR hW (nI (qn q (4 * k)))
          refine ⟨I', Ct.mk (by decide) rfl (Nat.le_of_ble_eq_true rfl) ?_, hR', hf⟩
          rintro X rfl rfl hX - hRt
          exact RX6_doOrder_0 hX _ ⟨4 * k, ix0, by omega, 4 * k + 1, ix1, by omega, k, rfl, by omega, fun z => absurd (e1.mp z) c1, fun z => absurd (e2.mp z) c2, fun z => absurd (e3.mp z) c3, fun z => absurd (e4.mp z) c4, fun _ => ⟨_, I', by rw [show I 105 (4 * k) = _ from n0]; exact hC, hRt⟩⟩
/-- the text is taken apart -/
theorem m_parse {i : Nat} (m : Nat) : ∀ (i : Nat) (J : MI) (q : Pa), n ≤ i + m → TX J x n → FM J I → J 96 9 = nI i → J 96 10 = -1 → J 96 11 = nI (qc q) → i ≤ n → rn x i = .inr q → qo q = 0 → LR 104 J q → NR 105 J q → (qc q ≠ 0 ∨ (i < n ∧ x i ≠ 32)) → ∃ I', FM I' I ∧ ((∃ F, PF x n F ∧ F ≤ n ∧ ∀ X, xE X = E → xl X = l → Cx X cX6_reads 3 RX6 wsX6_reads rmX6_reads → Rt X (some .int) rmX6_reads (some (.int (-10 - nI F))) (HM X I' L p) → G X 0 0 31 [(0, .ref 96)] [] (HM X J L p)) ∨ ∃ q', rn x n = .inr q' ∧ qo q' = 0 ∧ qc q' ≠ 0 ∧ I' 96 11 = nI (qc q') ∧ LR 104 I' q' ∧ NR 105 I' q' ∧ ∀ X, xE X = E → xl X = l → Cx X cX6_reads 3 RX6 wsX6_reads rmX6_reads → G X 0 0 76 [(0, .ref 96), (1, .int 0)] [] (HM X (hI I' 123) L p) → G X 0 0 31 [(0, .ref 96)] [] (HM X J L p)) := by
  induction m with
  | zero =>
    intro i J q hm hT hF j9 j10 j11 hi hr ho hL hN hz
    have e : i = n := by omega
    subst e
    have hn := hT.2.1
    have hh := m_here (E := E) (l := l) (L := L) (p := p) hT j9 (Nat.le_refl _)
    have hsk : skm x (i - i) i = i := by rw [Nat.sub_self]; rfl
    have hch : chr x i i = -1 := if_neg (Nat.lt_irrefl _)
    rw [hsk, up_id j9, hch] at hh
    refine ⟨J, hF, Or.inr ⟨q, hr, ho, by omega, j11, hL, hN, ?_⟩⟩
    rintro X rfl rfl hX hG
    exact RX6_reads_31 hX ⟨fun z => absurd j10 z, fun _ => ⟨_, _, hh, fun _ => ⟨fun _ => ⟨_, m_hold, hG⟩, fun z => absurd j10 z⟩, fun z => absurd rfl z⟩⟩
  | succ m ih =>
    intro i J q hm hT hF j9 j10 j11 hi hr ho hL hN hz
    have hn := hT.2.1
    have hh := m_here (E := E) (l := l) (L := L) (p := p) hT j9 hi
    obtain ⟨sk1, sk2⟩ := skm_ge x (n - i) i
    have hsr := skm_rn (n - i) i q hr
    have hnb := skm_nb x (n - i) i
    have hid : x i ≠ 32 → skm x (n - i) i = i := fun z => skm_id z
    generalize skm x (n - i) i = j at sk1 sk2 hsr hnb hh hid
    let J1 : MI := upI J 96 9 (nI j)
    have hF1 : FM J1 I := hF.up (by omega)
    have hT1 : TX J1 x n := hT.cong ((FM.refl J).up (by omega))
    have j19 : J1 96 9 = nI j := upI_s _ _ _ _
    have j110 : J1 96 10 = -1 := (upI_k (by decide)).trans j10
    have j111 : J1 96 11 = nI (qc q) := (upI_k (by decide)).trans j11
    obtain ⟨q1, o1, o2, o3, o4, o5⟩ : ∃ q1 : Pa, rn x j = .inr q1 ∧ qo q1 = 0 ∧ qc q1 = qc q ∧ ql q1 = ql q ∧ qn q1 = qn q := by
      by_cases z : j = i
      · rw [if_pos z] at hsr; exact ⟨q, hsr, ho, rfl, rfl, rfl⟩
      · rw [if_neg z] at hsr; exact ⟨qz q, hsr, ho, rfl, rfl, rfl⟩
    have hL1 : LR 104 J1 q1 := fun b hb => by
      show upI J 96 9 (nI j) 104 b = _
      rw [upI_r (by decide), o4]; exact hL b (by omega)
    have hN1 : NR 105 J1 q1 := fun b d hbd => by
      show upI J 96 9 (nI j) 105 (4 * b + d) = _
      rw [upI_r (by decide), o5]
      refine hN b d ?_
      rw [o3, o4] at hbd
      rcases hbd with w | w
      · exact Or.inl w
      · have := w.1; omega
    by_cases c : j < n
    · have hch : chr x n j = nI (x j) := if_pos c
      have hxj := hT.2.2.2 j (by omega)
      rw [hch] at hh
      obtain ⟨J2, r1, r2, r3⟩ := m_readOrder (E := E) (l := l) (L := L) (p := p) hT1 j19 j110 c (hnb (by omega)) o1 o2 (by rw [o3]; exact j111) hL1 hN1
      have hF2 : FM J2 I := r2.trans hF1
      rcases r3 with ⟨F, f1, f2, f3⟩ | ⟨i2, q2, g1, g2, g3, g4, g5, g6, g7, g8, g9, g10⟩
      · refine ⟨J2, hF2, Or.inl ⟨F, f1, f2, ?_⟩⟩
        rintro X rfl rfl hX hRt
        have n10 : ¬ J2 96 10 = -1 := by rw [f3]; exact nI_nm1 (by omega)
        refine RX6_reads_31 hX ⟨fun z => absurd j10 z, fun _ => ⟨_, _, hh, fun z => absurd z (nI_nm1 (by omega)), fun _ => ⟨_, r1, ?_⟩⟩⟩
        refine RX6_reads_31 hX ⟨fun _ => ⟨fun z => absurd z n10, fun _ => ?_⟩, fun z => absurd z n10⟩
        rw [f3]
        exact hRt
      · obtain ⟨I', i1, i2'⟩ := ih i2 J2 q2 (by omega) (hT1.cong r2) hF2 g3 g4 g7 g2 g1 g6 g9 g10 (Or.inl g8)
        refine ⟨I', i1, ?_⟩
        rcases i2' with ⟨F, f1, f2, f3⟩ | ⟨q3, f1, f2, f3, f4, f5, f6, f7⟩
        · refine Or.inl ⟨F, f1, f2, ?_⟩
          rintro X rfl rfl hX hRt
          exact RX6_reads_31 hX ⟨fun z => absurd j10 z, fun _ => ⟨_, _, hh, fun z => absurd z (nI_nm1 (by omega)), fun _ => ⟨_, r1, f3 X rfl rfl hX hRt⟩⟩⟩
        · refine Or.inr ⟨q3, f1, f2, f3, f4, f5, f6, ?_⟩
          rintro X rfl rfl hX hG
          exact RX6_reads_31 hX ⟨fun z => absurd j10 z, fun _ => ⟨_, _, hh, fun z => absurd z (nI_nm1 (by omega)), fun _ => ⟨_, r1, f7 X rfl rfl hX hG⟩⟩⟩
    · have e : j = n := by omega
      have hch : chr x n j = -1 := if_neg c
      rw [hch] at hh
      have hc0 : qc q ≠ 0 := by
        rcases hz with z | z
        · exact z
        · have := hid z.2; omega
      refine ⟨J1, hF1, Or.inr ⟨q1, by rw [← e]; exact o1, o2, by omega, by rw [o3]; exact j111, hL1, hN1, ?_⟩⟩
      rintro X rfl rfl hX hG
      exact RX6_reads_31 hX ⟨fun z => absurd j10 z, fun _ => ⟨_, _, hh, fun _ => ⟨fun _ => ⟨_, m_hold, hG⟩, fun z => absurd j110 z⟩, fun z => absurd rfl z⟩⟩
theorem m_reads (hV : VM I s) (hW : GW s) : MP E l yX6_reads wsX6_reads rmX6_reads [.ref 96] I L p (aReads s) := by
  have hn := hW.2.2.2.1
  have h128 := hW.2.2.2.2
  obtain ⟨v1, ⟨v2, v3, v4⟩, ⟨v5, v6⟩, v7⟩ := id hV
  -- what the taking apart leaves as it was
  have keep : ∀ J : MI, FM J I → VM J s := by
    intro J hF
    have e97 := hF.1 97 (by decide) (by decide) (by decide)
    have e99 := hF.1 99 (by decide) (by decide) (by decide)
    have e100 := hF.1 100 (by decide) (by decide) (by decide)
    have e103 := hF.1 103 (by decide) (by decide) (by decide)
    refine ⟨?_, ⟨by rw [hF.2 3 (by decide) (by decide) (by decide)]; exact v2, v3, by rw [e99]; exact v4⟩, ⟨by rw [hF.2 8 (by decide) (by decide) (by decide)]; exact v5, by rw [e103]; exact v6⟩, by rw [e100]; exact v7⟩
    unfold RM
    rw [e97]; exact v1
  have low : ∀ J : MI, FM J I → ∀ r, r < 96 → J r = I r := fun J hF r hr => hF.1 r (by omega) (by omega) (by omega)
  let A : MI := upI (upI (upI I 96 9 0) 96 10 (-1)) 96 11 0
  have hFA : FM A I := (((FM.refl I).up (by omega)).up (by omega)).up (by omega)
  have hTA : TX A (gx s) (gt s) := TX.cong (I := I) ⟨v5, hn, v6, h128⟩ hFA
  have a9 : A 96 9 = nI 0 := by
    show upI (upI (upI I 96 9 0) 96 10 (-1)) 96 11 0 96 9 = _
    rw [upI_k (by decide), upI_k (by decide), upI_s]; rfl
  have hh := m_here (E := E) (l := l) (L := L) (p := p) hTA a9 (Nat.zero_le _)
  obtain ⟨sk1, sk2⟩ := skm_ge (gx s) (gt s - 0) 0
  have hsr := skm_rn (gt s - 0) 0 q0 (x := gx s) rfl
  have hnb := skm_nb (gx s) (gt s - 0) 0
  generalize skm (gx s) (gt s - 0) 0 = j at sk1 sk2 hsr hnb hh
  have hq0 : rn (gx s) j = .inr q0 := by
    rw [hsr]
    split <;> rfl
  let B : MI := upI A 96 9 (nI j)
  have hFB : FM B I := hFA.up (by omega)
  have b10 : B 96 10 = -1 := by
    show upI (upI (upI (upI I 96 9 0) 96 10 (-1)) 96 11 0) 96 9 (nI j) 96 10 = _
    rw [upI_k (by decide), upI_k (by decide), upI_s]
  have b11 : B 96 11 = nI (qc q0) := by
    show upI (upI (upI (upI I 96 9 0) 96 10 (-1)) 96 11 0) 96 9 (nI j) 96 11 = _
    rw [upI_k (by decide), upI_s]; rfl
  by_cases c : j < gt s
  · have hch : chr (gx s) (gt s) j = nI (gx s j) := if_pos c
    have hxj := h128 j (by omega)
    rw [hch] at hh
    obtain ⟨I1, hF1, hp⟩ := m_parse (E := E) (l := l) (I := I) (L := L) (p := p) (x := gx s) (n := gt s) (i := j) (gt s) j B q0 (by omega) (hTA.cong ((FM.refl A).up (by omega))) hFB (upI_s _ _ _ _) b10 b11 (by omega) hq0 rfl (fun b hb => absurd (show b < 0 from hb) (Nat.not_lt_zero b)) (fun b d hbd => by
      have hbd' : (b < 0 ∧ d < nof 0) ∨ ((0 : Nat) = 1 ∧ b = 0 ∧ d < 0) := hbd
      omega) (Or.inr ⟨c, hnb (by omega)⟩)
    rcases hp with ⟨F, f1, f2, f3⟩ | ⟨q, g1, g2, g3, g4, g5, g6, g7⟩
    · rw [aReads_F f1]
      refine ⟨I1, L, Ct.mk (by decide) rfl (Nat.le_of_ble_eq_true rfl) ?_, keep I1 hF1, low I1 hF1, fun _ _ => rfl⟩
      rintro X rfl rfl hX - hRt
      exact RX6_reads_0 hX ⟨_, _, hh, fun _ => f3 X rfl rfl hX hRt, fun z => absurd z (nI_nm1 (by omega))⟩
    · have hAV := rn_AV g1
      have hql := rn_l (fun k hk => h128 k (by omega)) g1
      have hcnt : qc q ≤ 40 := by have := hAV.2.2.2.1; omega
      let H : MI := hI I1 123
      have hHr : ∀ r, r ≠ 98 → H r = I1 r := fun r hr => by
        funext k
        show hI I1 123 r k = I1 r k
        unfold hI
        rw [if_neg (fun z => hr z.1)]
      have hH98 : ∀ k, k < 123 → H 98 k = nI (gD s k) := fun k hk => by
        have e : H 98 k = I1 97 k := by
          show hI I1 123 98 k = _
          unfold hI
          rw [if_pos ⟨rfl, hk⟩]
        rw [e]; exact (keep I1 hF1).1 k hk
      have hVH : VM H s := by
        obtain ⟨w1, ⟨w2, w3, w4⟩, ⟨w5, w6⟩, w7⟩ := keep I1 hF1
        refine ⟨?_, ⟨by rw [hHr 96 (by decide)]; exact w2, w3, by rw [hHr 99 (by decide)]; exact w4⟩, ⟨by rw [hHr 96 (by decide)]; exact w5, by rw [hHr 103 (by decide)]; exact w6⟩, by rw [hHr 100 (by decide)]; exact w7⟩
        unfold RM
        rw [hHr 97 (by decide)]; exact w1
      -- states that differ from H at now alone
      have rest : ∀ J : MI, (∀ r, r ≠ 97 → J r = H r) → ∀ D, RM J D → VM J (D, gQ s, gc s, gx s, gt s, gf s) := by
        intro J hJ D hR
        obtain ⟨w1, ⟨w2, w3, w4⟩, ⟨w5, w6⟩, w7⟩ := hVH
        exact ⟨hR, ⟨by rw [hJ 96 (by decide)]; exact w2, w3, by rw [hJ 99 (by decide)]; exact w4⟩, ⟨by rw [hJ 96 (by decide)]; exact w5, by rw [hJ 103 (by decide)]; exact w6⟩, by rw [hJ 100 (by decide)]; exact w7⟩
      have lowH : ∀ J : MI, (∀ r, r ≠ 97 → J r = H r) → ∀ r, r < 96 → J r = I r := fun J hJ r hr => by rw [hJ r (by omega), hHr r (by omega)]; exact low I1 hF1 r hr
      have loop : ∀ m k J Dk, k + m = qc q → ro q (gD s) k = .inr Dk → RM J Dk → WF Dk → (∀ r, r ≠ 97 → J r = H r) → ∃ I', VM I' (aReads s).2 ∧ (∀ r, r < 96 → I' r = I r) ∧ ∀ X, xE X = E → xl X = l → Cx X cX6_reads 3 RX6 wsX6_reads rmX6_reads → Rt X (some .int) rmX6_reads (some (.int (aReads s).1)) (HM X I' L p) → G X 0 0 76 [(0, .ref 96), (1, .int (nI k))] [] (HM X J L p) := by
        intro m
        induction m with
        | zero =>
          intro k J Dk hk hro hR hD hJ
          have e : k = qc q := by omega
          subst e
          have hVJ := rest J hJ Dk hR
          obtain ⟨I', p1, p2, p3, p4⟩ := m_push (E := E) (l := l) (L := L) (p := p) (D := gD s) hVJ.2.1 (fun k hk => by rw [hJ 98 (by decide)]; exact hH98 k hk)
          rw [aReads_D g1 g2 g3 hro]
          have e11 : J 96 11 = nI (qc q) := by rw [hJ 96 (by decide), hHr 96 (by decide)]; exact g4
          refine ⟨I', ⟨?_, p2, ⟨by rw [p4 8 (by decide)]; exact hVJ.2.2.1.1, by rw [p3 103 (by decide) (by decide)]; exact hVJ.2.2.1.2⟩, by rw [p3 100 (by decide) (by decide)]; exact hVJ.2.2.2⟩, fun r hr => (p3 r (by omega) (by omega)).trans (lowH J hJ r hr), ?_⟩
          · show RM I' Dk
            unfold RM
            rw [p3 97 (by decide) (by decide)]; exact hR
          · rintro X rfl rfl hX hRt
            refine RX6_reads_76 hX _ ⟨fun _ => ⟨_, p1, hRt.toI ?_⟩, fun z => absurd (by rw [e11]; exact nI_le (Nat.le_refl _) (by omega)) z⟩
            rw [p4 11 (by decide), e11]
        | succ m ih =>
          intro k J Dk hk hro hR hD hJ
          have e11 : J 96 11 = nI (qc q) := by rw [hJ 96 (by decide), hHr 96 (by decide)]; exact g4
          have hL : LR 104 J q := by
            unfold LR
            rw [hJ 104 (by decide), hHr 104 (by decide)]; exact g5
          have hN : NR 105 J q := by
            unfold NR
            rw [hJ 105 (by decide), hHr 105 (by decide)]; exact g6
          obtain ⟨J2, o1, o2, o3⟩ := m_doOrder (E := E) (l := l) (L := L) (p := p) hR hD hL hN hql hAV.2.2.2.2 hcnt (show k < qc q by omega)
          have hJ2 : ∀ r, r ≠ 97 → J2 r = H r := fun r hr => (o3 r hr).trans (hJ r hr)
          by_cases neg : (od q k Dk).1 < 0
          · have hro2 : ro q (gD s) (k + 1) = .inl k := by rw [ro, hro]; exact if_pos neg
            have hro3 := ro_stay hro2 m
            rw [show k + 1 + m = qc q by omega] at hro3
            rw [aReads_k g1 g2 g3 hro3]
            have hx97 : ∀ r, r ≠ 97 → xI J2 123 r = H r := fun r hr => (xI_r hr).trans (hJ2 r hr)
            refine ⟨xI J2 123, rest (xI J2 123) hx97 (gD s) (fun b hb => ?_), lowH _ hx97, ?_⟩
            · have e : xI J2 123 97 b = J2 98 b := by unfold xI; rw [if_pos ⟨rfl, hb⟩]
              rw [e, hJ2 98 (by decide)]; exact hH98 b hb
            · rintro X rfl rfl hX hRt
              refine RX6_reads_76 hX _ ⟨fun z => absurd z (by rw [e11]; exact nI_ge (by omega) (by omega)), fun _ => ⟨_, _, o1, fun z => absurd neg (by rw [fa_lt]; have := (fa_le _ _).mp z; omega), fun _ => ?_⟩⟩
              have key := loop_up (N := 123) (Q := fun b => G X 0 0 94 [(0, .ref 96), (1, .int (nI k)), (2, .int (nI b))] [] (HM X (xI J2 b) L p)) (fun b hb k2 => RX6_reads_94 hX _ _ ⟨fun z => absurd z (nI_ge (b := 123) hb (by decide)), fun _ => ⟨b, rfl, hb, b, rfl, hb, by rw [nI_1, xI_s]; exact k2⟩⟩) 0 (by decide) (RX6_reads_94 hX _ _ ⟨fun _ => hRt, fun z => absurd (by decide) z⟩)
              rw [xI_0] at key
              exact key
          · have hro2 : ro q (gD s) (k + 1) = .inr (od q k Dk).2 := by rw [ro, hro]; exact if_neg neg
            obtain ⟨I', i1, i2, i3⟩ := ih (k + 1) J2 (od q k Dk).2 (by omega) hro2 o2 (od_WF hD) hJ2
            refine ⟨I', i1, i2, ?_⟩
            rintro X rfl rfl hX hRt
            refine RX6_reads_76 hX _ ⟨fun z => absurd z (by rw [e11]; exact nI_ge (by omega) (by omega)), fun _ => ⟨_, _, o1, fun _ => ?_, fun z => absurd (by rw [fa_le]; rw [fa_lt] at neg; omega) z⟩⟩
            rw [nI_1]
            exact i3 X rfl rfl hX hRt
      obtain ⟨I', i1, i2, i3⟩ := loop (qc q) 0 H (gD s) (Nat.zero_add _) rfl hVH.1 hW.1 (fun _ _ => rfl)
      refine ⟨I', L, Ct.mk (by decide) rfl (Nat.le_of_ble_eq_true rfl) ?_, i1, i2, fun _ _ => rfl⟩
      rintro X rfl rfl hX - hRt
      exact RX6_reads_0 hX ⟨_, _, hh, fun _ => g7 X rfl rfl hX (i3 X rfl rfl hX hRt), fun z => absurd z (nI_nm1 (by omega))⟩
  · have e : j = gt s := by omega
    have hch : chr (gx s) (gt s) j = -1 := if_neg c
    rw [hch] at hh
    have hPF : PF (gx s) (gt s) (gt s) := Or.inr ⟨rfl, q0, by rw [← e]; exact hq0, Or.inr rfl⟩
    rw [aReads_F hPF]
    have b8 : B 96 8 = nI (gt s) := by rw [hFB.2 8 (by decide) (by decide) (by decide)]; exact v5
    refine ⟨B, L, Ct.mk (by decide) rfl (Nat.le_of_ble_eq_true rfl) ?_, keep B hFB, low B hFB, fun _ _ => rfl⟩
    rintro X rfl rfl hX - hRt
    refine RX6_reads_0 hX ⟨_, _, hh, fun z => absurd rfl z, fun _ => hRt.toI ?_⟩
    show -10 - nI (gt s) = -10 - B 96 8
    rw [b8]
end
