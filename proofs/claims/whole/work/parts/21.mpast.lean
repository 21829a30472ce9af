/-! What can be gone back to; the model's side of it. -/
/-- the whole state by numbers: drains, past drains, how many, text, its length, how often refused -/
abbrev Sg : Type := Dr × (Nat → Dr) × Nat × (Nat → Nat) × Nat × (Nat → Int32)
abbrev gD (s : Sg) : Dr := s.1
abbrev gQ (s : Sg) : Nat → Dr := s.2.1
abbrev gc (s : Sg) : Nat := s.2.2.1
abbrev gx (s : Sg) : Nat → Nat := s.2.2.2.1
abbrev gt (s : Sg) : Nat := s.2.2.2.2.1
abbrev gf (s : Sg) : Nat → Int32 := s.2.2.2.2.2
def GW (s : Sg) : Prop := WF (gD s) ∧ gc s ≤ 5 ∧ (∀ j, j < gc s → WF (gQ s j)) ∧ gt s ≤ 120 ∧ ∀ k, k < 120 → gx s k < 128
/-- one state more behind the others -/
def qp (Q : Nat → Dr) (c : Nat) (D : Dr) : Nat → Dr := if c = 5 then fun j => if j < 4 then Q (j + 1) else D else fun j => if j = c then D else Q j
def cp (c : Nat) : Nat := if c = 5 then 5 else c + 1
/-- refused: 0 BAD, 1 NO, 2 FULL -/
def rf (s : Sg) (j : Nat) : Sg := (gD s, gQ s, gc s, gx s, gt s, va_up (gf s) j (gf s j + 1))
/-- an order that is told S -/
def opn (A : Dr → Int32 × Dr) (s : Sg) : Int32 × Sg := if (A (gD s)).1 < 0 then ((A (gD s)).1, rf s (-2 - (A (gD s)).1).toNatClampNeg) else ((A (gD s)).1, ((A (gD s)).2, qp (gQ s) (gc s) (gD s), cp (gc s), gx s, gt s, gf s))
def RP (I : MI) (Q : Nat → Dr) (c : Nat) : Prop := I 96 3 = nI c ∧ c ≤ 5 ∧ ∀ j, j < c → ∀ k, k < 123 → I 99 (123 * j + k) = nI (Q j k)
/-- the model holds s -/
def VM (I : MI) (s : Sg) : Prop := RM I (gD s) ∧ RP I (gQ s) (gc s) ∧ (I 96 8 = nI (gt s) ∧ ∀ k, k < 120 → I 103 k = nI (gx s k)) ∧ ∀ j, j < 3 → I 100 j = gf s j
theorem GW_rf {s : Sg} (h : GW s) (j : Nat) : GW (rf s j) := h
theorem GW_opn {A : Dr → Int32 × Dr} {s : Sg} (h : GW s) (hA : WF (A (gD s)).2) : GW (opn A s).2 := by
  unfold opn
  split
  · exact h
  · obtain ⟨h1, h2, h3, h4, h5⟩ := h
    refine ⟨hA, ?_, ?_, h4, h5⟩
    · show cp (gc s) ≤ 5
      unfold cp; split <;> omega
    · intro j hj
      have hj' : j < cp (gc s) := hj
      unfold cp at hj'
      show WF (qp (gQ s) (gc s) (gD s) j)
      unfold qp
      by_cases c : gc s = 5
      · rw [if_pos c] at hj' ⊢
        try dsimp only
        split
        · exact h3 _ (by omega)
        · exact h1
      · rw [if_neg c] at hj' ⊢
        try dsimp only
        split
        · exact h1
        · exact h3 _ (by omega)
section
variable {E : ET} {l : Launch} {I : MI} {L : ML} {p : Nat → Nat} {D : Dr}
theorem m_refuses {j : Nat} (hj : j < 3) (v : Int32) (hv : -2 - v = nI j) : Ct E l yX6_refuses wsX6_refuses rmX6_refuses [.ref 96, .int v] (HE E I L p) (some (.int v)) (HE E (upI I 100 j (I 100 j + 1)) L p) := by
  refine Ct.mk (by decide) rfl (Nat.le_of_ble_eq_true rfl) ?_
  rintro X rfl rfl hX - hRt
  exact RX6_refuses_0 hX _ ⟨j, hv, hj, j, hv, hj, hRt⟩
theorem VM_rf {s : Sg} (h : VM I s) {j : Nat} : VM (upI I 100 j (I 100 j + 1)) (rf s j) := by
  obtain ⟨h1, ⟨a1, a2, a3⟩, ⟨b1, b2⟩, h4⟩ := h
  refine ⟨fun k hk => ?_, ⟨?_, a2, fun i hi k hk => ?_⟩, ⟨?_, fun k hk => ?_⟩, fun i hi => ?_⟩
  · rw [upI_r (by decide)]; exact h1 k hk
  · rw [upI_r (by decide)]; exact a1
  · rw [upI_r (by decide)]; exact a3 i hi k hk
  · rw [upI_r (by decide)]; exact b1
  · rw [upI_r (by decide)]; exact b2 k hk
  · show upI I 100 j (I 100 j + 1) 100 i = va_up (gf s) j (gf s j + 1) i
    by_cases e : i = j
    · subst e
      rw [upI_s, up_s, h4 i hi]
    · rw [upI_k e, up_n _ _ e, h4 i hi]
/-- hold: a copy of now -/
def hI (I : MI) (n : Nat) : MI := fun r k => if r = 98 ∧ k < n then I 97 k else I r k
theorem m_hold : Ct E l yX6_hold wsX6_hold rmX6_hold [.ref 96] (HE E I L p) none (HE E (hI I 123) L p) := by
  refine Ct.mk (by decide) rfl (Nat.le_of_ble_eq_true rfl) ?_
  rintro X rfl rfl hX - hRt
  refine RX6_hold_0 hX ?_
  have e0 : I = hI I 0 := by funext r k; simp [hI]
  have es : ∀ i, upI (hI I i) 98 i (hI I i 97 i) = hI I (i + 1) := by
    intro i
    funext r k
    unfold upI hI
    by_cases c : r = 98
    · subst c
      by_cases d : k = i
      · subst d; simp
      · simp only [d, and_false, if_false, true_and]
        by_cases f : k < i
        · rw [if_pos f, if_pos (by omega)]
        · rw [if_neg f, if_neg (by omega)]
    · simp [c]
  have key : ∀ i, i ≤ 123 → G X 0 0 2 [(0, .ref 96), (1, .int (nI 123))] [] (HM X (hI I 123) L p) → G X 0 0 2 [(0, .ref 96), (1, .int (nI i))] [] (HM X (hI I i) L p) :=
    loop_up (N := 123) (Q := fun i => G X 0 0 2 [(0, .ref 96), (1, .int (nI i))] [] (HM X (hI I i) L p)) (fun i hi k => RX6_hold_2 hX _ ⟨fun q => absurd q (nI_ge hi (by decide)), fun _ => ⟨i, rfl, hi, i, rfl, hi, by rw [nI_1, es]; exact k⟩⟩)
  have k0 := key 0 (by decide) (RX6_hold_2 hX _ ⟨fun _ => hRt, fun q => absurd (by decide) q⟩)
  rw [← e0] at k0
  exact k0
/-- push: one step of each loop -/
def pI (I : MI) (n : Nat) : MI := fun r k => if r = 99 ∧ k < n then I 99 (k + 123) else I r k
def fI (I : MI) (b n : Nat) : MI := fun r k => if r = 99 ∧ b ≤ k ∧ k < b + n then I 98 (k - b) else I r k
theorem pI_0 (I : MI) : pI I 0 = I := by funext r k; simp [pI]
theorem fI_0 (I : MI) (b : Nat) : fI I b 0 = I := by
  funext r k
  unfold fI
  rw [if_neg (by omega)]
theorem pI_s (I : MI) (i : Nat) : upI (pI I i) 99 i (pI I i 99 (i + 123)) = pI I (i + 1) := by
  funext r k
  unfold upI pI
  by_cases c : r = 99
  · subst c
    by_cases d : k = i
    · subst d
      rw [if_pos ⟨rfl, rfl⟩, if_neg (by omega), if_pos ⟨rfl, by omega⟩]
    · rw [if_neg (by simp [d])]
      by_cases f : k < i
      · rw [if_pos ⟨rfl, f⟩, if_pos ⟨rfl, by omega⟩]
      · rw [if_neg (by omega), if_neg (by omega)]
  · simp [c]
theorem fI_s (I : MI) (b i : Nat) : upI (fI I b i) 99 (b + i) (fI I b i 98 i) = fI I b (i + 1) := by
  funext r k
  unfold upI fI
  by_cases c : r = 99
  · subst c
    by_cases d : k = b + i
    · subst d
      rw [if_pos ⟨rfl, rfl⟩, if_neg (by omega), if_pos ⟨rfl, by omega, by omega⟩]
      congr 1
      omega
    · rw [if_neg (by simp [d])]
      by_cases f : b ≤ k ∧ k < b + i
      · rw [if_pos ⟨rfl, f⟩, if_pos ⟨rfl, by omega, by omega⟩]
      · rw [if_neg (by omega), if_neg (by omega)]
  · simp [c]
theorem m_push {Q : Nat → Dr} {c : Nat} (hP : RP I Q c) (hH : ∀ k, k < 123 → I 98 k = nI (D k)) : ∃ I', Ct E l yX6_push wsX6_push rmX6_push [.ref 96] (HE E I L p) none (HE E I' L p) ∧ RP I' (qp Q c D) (cp c) ∧ (∀ r, r ≠ 99 → r ≠ 96 → I' r = I r) ∧ ∀ k, k ≠ 3 → I' 96 k = I 96 k := by
  obtain ⟨a1, a2, a3⟩ := hP
  -- the last loop, from count c'
  have last : ∀ {X : XT} (J : MI) (c' : Nat), c' < 5 → J 96 3 = nI c' → Cx X cX6_push 2 RX6 wsX6_push rmX6_push → Rt X none rmX6_push none (HM X (upI (fI J (123 * c') 123) 96 3 (nI (c' + 1))) L p) → G X 0 0 50 [(0, .ref 96), (1, .int 0)] [] (HM X J L p) := by
    intro X J c' hc' hJ hX hRt
    have h3 : ∀ i, fI J (123 * c') i 96 3 = nI c' := fun i => by rw [← hJ]; simp [fI]
    have key : ∀ i, i ≤ 123 → G X 0 0 50 [(0, .ref 96), (1, .int (nI 123))] [] (HM X (fI J (123 * c') 123) L p) → G X 0 0 50 [(0, .ref 96), (1, .int (nI i))] [] (HM X (fI J (123 * c') i) L p) :=
      loop_up (N := 123) (Q := fun i => G X 0 0 50 [(0, .ref 96), (1, .int (nI i))] [] (HM X (fI J (123 * c') i) L p)) (fun i hi k => RX6_push_50 hX _ ⟨fun q => absurd q (nI_ge hi (by decide)), fun _ => ⟨i, rfl, hi, 123 * c' + i, by rw [h3, show (123 : Int32) = nI 123 from rfl, pk_mul, nI_add], by omega, by rw [nI_1, fI_s]; exact k⟩⟩)
    have k0 := key 0 (by decide) (RX6_push_50 hX _ ⟨fun _ => by rw [h3, nI_1]; exact hRt, fun q => absurd (by decide) q⟩)
    rw [fI_0] at k0
    exact k0
  by_cases hc : c = 5
  · refine ⟨upI (fI (upI (pI I 492) 96 3 (nI 4)) (123 * 4) 123) 96 3 (nI 5), Ct.mk (by decide) rfl (Nat.le_of_ble_eq_true rfl) ?_, ?_, ?_, ?_⟩
    · rintro X rfl rfl hX - hRt
      refine RX6_push_0 hX ⟨fun q => absurd (by rw [a1, hc]; rfl) q, fun _ => ?_⟩
      have key : ∀ i, i ≤ 492 → G X 0 0 10 [(0, .ref 96), (1, .int (nI 492))] [] (HM X (pI I 492) L p) → G X 0 0 10 [(0, .ref 96), (1, .int (nI i))] [] (HM X (pI I i) L p) :=
        loop_up (N := 492) (Q := fun i => G X 0 0 10 [(0, .ref 96), (1, .int (nI i))] [] (HM X (pI I i) L p)) (fun i hi k => RX6_push_10 hX _ ⟨fun q => absurd q (nI_ge hi (by decide)), fun _ => ⟨i + 123, by rw [show (123 : Int32) = nI 123 from rfl, nI_add], by omega, i, rfl, by omega, by rw [nI_1, pI_s]; exact k⟩⟩)
      have k0 := key 0 (by decide) (RX6_push_10 hX _ ⟨fun _ => by
        have e : pI I 492 96 3 - 1 = nI 4 := by
          have : pI I 492 96 3 = I 96 3 := by simp [pI]
          rw [this, a1, hc]; rfl
        rw [e]
        exact last _ 4 (by decide) (upI_s _ _ _ _) hX hRt, fun q => absurd (by decide) q⟩)
      rw [pI_0] at k0
      exact k0
    · refine ⟨by rw [upI_s]; simp [cp, hc], by simp [cp, hc], fun j hj k hk => ?_⟩
      have hj5 : j < 5 := by simpa [cp, hc] using hj
      rw [upI_r (by decide)]
      unfold fI qp
      rw [if_pos hc]
      by_cases f : j < 4
      · rw [if_neg (by omega)]
        try dsimp only
        rw [if_pos f, upI_r (by decide)]
        unfold pI
        rw [if_pos ⟨rfl, by omega⟩, ← a3 (j + 1) (by omega) k hk]
        congr 1
        omega
      · have : j = 4 := by omega
        subst this
        rw [if_pos ⟨rfl, by omega, by omega⟩]
        try dsimp only
        rw [if_neg f, upI_r (by decide)]
        unfold pI
        rw [if_neg (by omega), show 123 * 4 + k - 123 * 4 = k by omega]
        exact hH k hk
    · intro r h1 h2
      funext k
      rw [upI_r h2]
      unfold fI
      rw [if_neg (by omega), upI_r h2]
      unfold pI
      rw [if_neg (by omega)]
    · intro k hk
      rw [upI_k hk]
      unfold fI
      rw [if_neg (by omega), upI_k hk]
      unfold pI
      rw [if_neg (by omega)]
  · refine ⟨upI (fI I (123 * c) 123) 96 3 (nI (c + 1)), Ct.mk (by decide) rfl (Nat.le_of_ble_eq_true rfl) ?_, ?_, ?_, ?_⟩
    · rintro X rfl rfl hX - hRt
      refine RX6_push_0 hX ⟨fun _ => last I c (by omega) a1 hX hRt, fun q => absurd ?_ hc⟩
      rw [a1] at q
      exact (nI_eq (by omega) (by decide)).mp q
    · refine ⟨by rw [upI_s]; simp [cp, hc], by simp [cp, hc]; omega, fun j hj k hk => ?_⟩
      have hj5 : j < c + 1 := by simpa [cp, hc] using hj
      rw [upI_r (by decide)]
      unfold fI qp
      rw [if_neg hc]
      by_cases f : j = c
      · subst f
        rw [if_pos ⟨rfl, by omega, by omega⟩]
        try dsimp only
        rw [if_pos rfl, show 123 * j + k - 123 * j = k by omega]
        exact hH k hk
      · rw [if_neg (by omega)]
        try dsimp only
        rw [if_neg f]
        exact a3 j (by omega) k hk
    · intro r h1 h2
      funext k
      rw [upI_r h2]
      unfold fI
      rw [if_neg (by omega)]
    · intro k hk
      rw [upI_k hk]
      unfold fI
      rw [if_neg (by omega)]
/-- an answer below 0 is -2, -3 or -4 -/
def neg3 (v : Int32) : Prop := v < 0 → v = -2 ∨ v = -3 ∨ v = -4
theorem neg3_j {v : Int32} (h : neg3 v) (h2 : v < 0) : ∃ j, j < 3 ∧ -2 - v = nI j ∧ (-2 - v).toNatClampNeg = j := by
  rcases h h2 with rfl | rfl | rfl
  · exact ⟨0, by decide, by decide, by decide⟩
  · exact ⟨1, by decide, by decide, by decide⟩
  · exact ⟨2, by decide, by decide, by decide⟩
/-- a public order of the model out of its 'do' -/
theorem m_public {A : Dr → Int32 × Dr} {s : Sg} (hV : VM I s) (hn : neg3 (A (gD s)).1) {I2 : MI} (hR2 : RM I2 (A (gD s)).2) (hfr : ∀ r, r ≠ 97 → I2 r = hI I 123 r) (hsame : (A (gD s)).1 < 0 → RM I2 (gD s)) : ∃ I', Ct E l yX6_ends wsX6_ends rmX6_ends [.ref 96, .int (A (gD s)).1] (HE E I2 L p) (some (.int (opn A s).1)) (HE E I' L p) ∧ VM I' (opn A s).2 ∧ ∀ r, r < 96 → I' r = I r := by
  obtain ⟨h1, h2, h3, h4⟩ := hV
  have hfr2 : ∀ r, r ≠ 97 → r ≠ 98 → I2 r = I r := fun r a b => by rw [hfr r a]; funext k; simp [hI, b]
  have hH : ∀ k, k < 123 → I2 98 k = nI (gD s k) := fun k hk => by rw [hfr 98 (by decide)]; simp [hI, hk]; exact h1 k hk
  have hP2 : RP I2 (gQ s) (gc s) := by
    obtain ⟨a1, a2, a3⟩ := h2
    exact ⟨by rw [hfr2 96 (by decide) (by decide)]; exact a1, a2, fun j hj k hk => by rw [hfr2 99 (by decide) (by decide)]; exact a3 j hj k hk⟩
  unfold opn
  by_cases c : (A (gD s)).1 < 0
  · rw [if_pos c]
    obtain ⟨j, hj, e1, e2⟩ := neg3_j hn c
    refine ⟨upI I2 100 j (I2 100 j + 1), Ct.mk (by decide) rfl (Nat.le_of_ble_eq_true rfl) ?_, ?_, ?_⟩
    · rintro X rfl rfl hX - hRt
      exact RX6_ends_0 hX _ ⟨fun q => absurd c (by rw [fa_lt]; have := (fa_le _ _).mp q; omega), fun _ => ⟨_, _, m_refuses hj _ e1, hRt⟩⟩
    · dsimp only
      rw [e2]
      refine VM_rf (s := s) ⟨hsame c, hP2, ⟨?_, fun k hk => ?_⟩, fun i hi => ?_⟩
      · rw [hfr2 96 (by decide) (by decide)]; exact h3.1
      · rw [hfr2 103 (by decide) (by decide)]; exact h3.2 k hk
      · rw [hfr2 100 (by decide) (by decide)]; exact h4 i hi
    · intro r hr
      rw [upI_R (by omega), hfr2 r (by omega) (by omega)]
  · rw [if_neg c]
    obtain ⟨I', hC, hP', hf1, hf2⟩ := m_push (E := E) (l := l) (L := L) (p := p) hP2 hH
    refine ⟨I', Ct.mk (by decide) rfl (Nat.le_of_ble_eq_true rfl) ?_, ?_, ?_⟩
    · rintro X rfl rfl hX - hRt
      exact RX6_ends_0 hX _ ⟨fun _ => ⟨_, hC, hRt⟩, fun q => absurd (by rw [fa_le]; rw [fa_lt] at c; omega) q⟩
    · refine ⟨fun k hk => ?_, hP', ⟨?_, fun k hk => ?_⟩, fun i hi => ?_⟩
      · rw [hf1 97 (by decide) (by decide)]; exact hR2 k hk
      · rw [hf2 8 (by decide), hfr2 96 (by decide) (by decide)]; exact h3.1
      · rw [hf1 103 (by decide) (by decide), hfr2 103 (by decide) (by decide)]; exact h3.2 k hk
      · rw [hf1 100 (by decide) (by decide), hfr2 100 (by decide) (by decide)]; exact h4 i hi
    · intro r hr
      rw [hf1 r (by omega) (by omega), hfr2 r (by omega) (by omega)]
end
