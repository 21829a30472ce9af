/-! Copies of a state; the past of the class. -/
def cpr (I : MI) (a b n : Nat) : MI := fun q j => if q = b ∧ j < n then I a j else I q j
section
variable {E : ET} {l : Launch} {I : MI} {L : ML} {p : Nat → Nat} {D : Dr}
theorem k_copyRow {a b n : Nat} (ha : a < 106) (hb : b < 106) (hsa : shp a = (7, n)) (hsb : shp b = (7, n)) (hn : n < 2 ^ 31) : Ct E l yX0_copyRow wsX0_copyRow rmX0_copyRow [.ref a, .ref b] (HE E I L p) none (HE E (cpr I a b n) L p) := by
  refine Ct.mk (by decide) rfl (Nat.le_of_ble_eq_true rfl) ?_
  rintro X rfl rfl hX - hRt
  have e : (if nI n < nI n then nI n else nI n : Int32) = nI n := by split <;> rfl
  have ec := nI_clamp hn
  refine RX0_copyRow_0 ha hb hsa hsb hX ⟨by decide, by decide, by rw [e]; exact nI_pos hn, by rw [e, ec]; exact Nat.le_of_eq (Nat.zero_add n), by rw [e, ec]; exact Nat.le_of_eq (Nat.zero_add n), ?_⟩
  refine hRt.toM ?_ rfl
  funext q j
  rw [e, ec]
  show cpr I a b n q j = if q = b then va_cpy (I a) (I b) 0 0 n j else I q j
  unfold cpr va_cpy
  by_cases c : q = b
  · subst c
    rw [if_pos rfl]
    by_cases d : j < n
    · rw [if_pos ⟨rfl, d⟩, if_pos ⟨Nat.zero_le _, by omega⟩]
      congr 1
      omega
    · rw [if_neg (by omega), if_neg (by omega)]
  · rw [if_neg c, if_neg (by simp [c])]
/-- J is I, but of the block at a the places S are those of the block at b -/
def Cp (a b : Nat) (I J : MI) (S : Nat → Nat → Prop) : Prop := (∀ q, q < a ∨ a + 11 < q → J q = I q) ∧ (∀ o k, o ≤ 11 → S o k → J (a + o) k = I (b + o) k) ∧ ∀ o k, o ≤ 11 → ¬ S o k → J (a + o) k = I (a + o) k
theorem Cp.row {a b : Nat} {J : MI} {S : Nat → Nat → Prop} (hab : a + 12 ≤ b ∨ b + 12 ≤ a) (h : Cp a b I J S) {o n : Nat} (ho : o ≤ 11) : Cp a b I (cpr J (b + o) (a + o) n) (fun o' k => S o' k ∨ o' = o ∧ k < n) := by
  obtain ⟨h1, h2, h3⟩ := h
  refine ⟨fun q hq => ?_, fun o' k ho' hs => ?_, fun o' k ho' hs => ?_⟩
  · rw [← h1 q hq]
    funext j
    unfold cpr
    rw [if_neg (by omega)]
  · unfold cpr
    by_cases c : a + o' = a + o ∧ k < n
    · rw [if_pos c]
      have : o' = o := by omega
      subst this
      rw [h1 (b + o') (by omega)]
    · rw [if_neg c]
      rcases hs with hs | hs
      · exact h2 o' k ho' hs
      · exact absurd ⟨by omega, hs.2⟩ c
  · unfold cpr
    rw [if_neg (fun c => hs (Or.inr ⟨by omega, c.2⟩))]
    exact h3 o' k ho' (fun q => hs (Or.inl q))
theorem Cp.fld {a b : Nat} {J : MI} {S : Nat → Nat → Prop} (hab : a + 12 ≤ b ∨ b + 12 ≤ a) (h : Cp a b I J S) (n : Nat) : Cp a b I (upI J a n (J b n)) (fun o' k => S o' k ∨ o' = 0 ∧ k = n) := by
  obtain ⟨h1, h2, h3⟩ := h
  refine ⟨fun q hq => ?_, fun o' k ho' hs => ?_, fun o' k ho' hs => ?_⟩
  · rw [upI_R (by omega)]; exact h1 q hq
  · unfold upI
    by_cases c : a + o' = a ∧ k = n
    · rw [if_pos c]
      have : o' = 0 := by omega
      subst this
      rw [h1 b (by omega), c.2]
      rfl
    · rw [if_neg c]
      rcases hs with hs | hs
      · exact h2 o' k ho' hs
      · exact absurd ⟨by omega, hs.2⟩ c
  · unfold upI
    rw [if_neg (fun c => hs (Or.inr ⟨by omega, c.2⟩))]
    exact h3 o' k ho' (fun q => hs (Or.inl q))
theorem Cp.refl {a b : Nat} : Cp a b I I (fun _ _ => False) := ⟨fun _ _ => rfl, fun _ _ _ h => h.elim, fun _ _ _ _ => rfl⟩
theorem dr_rows : ∀ d, d < 7 → dr d + 11 < 106 ∧ shp (dr d + 1) = (7, 10) ∧ shp (dr d + 2) = (7, 10) ∧ shp (dr d + 3) = (7, 16) ∧ shp (dr d + 4) = (7, 16) ∧ shp (dr d + 5) = (7, 16) ∧ shp (dr d + 6) = (7, 16) ∧ shp (dr d + 7) = (7, 12) ∧ shp (dr d + 8) = (7, 12) ∧ shp (dr d + 9) = (7, 12) ∧ shp (dr d + 10) = (7, 10) ∧ shp (dr d + 11) = (7, 16) := by decide +kernel
theorem dr_apart : ∀ d, d < 7 → ∀ e, e < 7 → d ≠ e → dr d + 12 ≤ dr e ∨ dr e + 12 ≤ dr d := by decide +kernel
theorem k_copyFrom {d e : Nat} (hd : d < 7) (he : e < 7) (hde : d ≠ e) : ∃ I', Ct E l yX0_copyFrom wsX0_copyFrom rmX0_copyFrom [.ref (dr d), .ref (dr e)] (HE E I L p) none (HE E I' L p) ∧ (∀ q, q < dr d ∨ dr d + 11 < q → I' q = I q) ∧ (I' (dr d) 0 = I (dr e) 0 ∧ I' (dr d) 3 = I (dr e) 3 ∧ I' (dr d) 8 = I (dr e) 8) ∧ (∀ k, k < 10 → I' (dr d + 1) k = I (dr e + 1) k ∧ I' (dr d + 2) k = I (dr e + 2) k ∧ I' (dr d + 10) k = I (dr e + 10) k) ∧ (∀ k, k < 16 → I' (dr d + 3) k = I (dr e + 3) k ∧ I' (dr d + 4) k = I (dr e + 4) k ∧ I' (dr d + 5) k = I (dr e + 5) k ∧ I' (dr d + 6) k = I (dr e + 6) k ∧ I' (dr d + 11) k = I (dr e + 11) k) ∧ ∀ k, k < 12 → I' (dr d + 7) k = I (dr e + 7) k ∧ I' (dr d + 8) k = I (dr e + 8) k ∧ I' (dr d + 9) k = I (dr e + 9) k := by
  have hab := dr_apart d hd e he hde
  obtain ⟨a0, a1, a2, a3, a4, a5, a6, a7, a8, a9, a10, a11⟩ := dr_rows d hd
  obtain ⟨b0, b1, b2, b3, b4, b5, b6, b7, b8, b9, b10, b11⟩ := dr_rows e he
  have hKd : ∀ k o, (k, o) ∈ drO → KK p (dr d) k = some (dr d + o) := fun k o h => drK hd h
  have hKe : ∀ k o, (k, o) ∈ drO → KK p (dr e) k = some (dr e + o) := fun k o h => drK he h
  have hsd := drso hd
  have hse := drso he
  generalize dr d = a at *
  generalize dr e = b at *
  have c0 := Cp.refl (I := I) (a := a) (b := b)
  have c1 := c0.fld hab 0
  have c2 := c1.row hab (o := 1) (n := 10) (by decide)
  have c3 := c2.row hab (o := 2) (n := 10) (by decide)
  have c4 := c3.row hab (o := 10) (n := 10) (by decide)
  have c5 := c4.fld hab 3
  have c6 := c5.row hab (o := 3) (n := 16) (by decide)
  have c7 := c6.row hab (o := 4) (n := 16) (by decide)
  have c8 := c7.row hab (o := 5) (n := 16) (by decide)
  have c9 := c8.row hab (o := 6) (n := 16) (by decide)
  have c10 := c9.row hab (o := 11) (n := 16) (by decide)
  have c11 := c10.fld hab 8
  have c12 := c11.row hab (o := 7) (n := 12) (by decide)
  have c13 := c12.row hab (o := 8) (n := 12) (by decide)
  have c := c13.row hab (o := 9) (n := 12) (by decide)
  refine ⟨_, Ct.mk (by decide) rfl (Nat.le_of_ble_eq_true rfl) ?_, c.1, ⟨c.2.1 0 0 (by decide) (by simp), c.2.1 0 3 (by decide) (by simp), c.2.1 0 8 (by decide) (by simp)⟩, fun k hk => ⟨c.2.1 1 k (by decide) (by simp [hk]), c.2.1 2 k (by decide) (by simp [hk]), c.2.1 10 k (by decide) (by simp [hk])⟩, fun k hk => ⟨c.2.1 3 k (by decide) (by simp [hk]), c.2.1 4 k (by decide) (by simp [hk]), c.2.1 5 k (by decide) (by simp [hk]), c.2.1 6 k (by decide) (by simp [hk]), c.2.1 11 k (by decide) (by simp [hk])⟩, fun k hk => ⟨c.2.1 7 k (by decide) (by simp [hk]), c.2.1 8 k (by decide) (by simp [hk]), c.2.1 9 k (by decide) (by simp [hk])⟩⟩
  rintro X rfl rfl hX - hRt
  exact RX0_copyFrom_0 (by omega) (by omega) hsd hse hKd hKe hX ⟨_, k_copyRow (by omega) (by omega) b1 a1 (by decide), _, k_copyRow (by omega) (by omega) b2 a2 (by decide), _, k_copyRow (by omega) (by omega) b10 a10 (by decide), _, k_copyRow (by omega) (by omega) b3 a3 (by decide), _, k_copyRow (by omega) (by omega) b4 a4 (by decide), _, k_copyRow (by omega) (by omega) b5 a5 (by decide), _, k_copyRow (by omega) (by omega) b6 a6 (by decide), _, k_copyRow (by omega) (by omega) b11 a11 (by decide), _, k_copyRow (by omega) (by omega) b7 a7 (by decide), _, k_copyRow (by omega) (by omega) b8 a8 (by decide), _, k_copyRow (by omega) (by omega) b9 a9 (by decide), hRt⟩
/-- a copied state holds what the other holds -/
theorem k_copyD {d e : Nat} (hd : d < 7) (he : e < 7) (hde : d ≠ e) (hW : WF D) (hR : RD I (dr e) D) (hY : RY I (dr e) D) : ∃ I', Ct E l yX0_copyFrom wsX0_copyFrom rmX0_copyFrom [.ref (dr d), .ref (dr e)] (HE E I L p) none (HE E I' L p) ∧ RD I' (dr d) D ∧ RY I' (dr d) D ∧ ∀ q, q < dr d ∨ dr d + 11 < q → I' q = I q := by
  obtain ⟨I', hC, hf, ⟨f0, f3, f8⟩, h10, h16, h12⟩ := k_copyFrom (E := E) (l := l) (I := I) (L := L) (p := p) hd he hde
  have hS := hW.S
  have hP := hW.P
  obtain ⟨r0, r3, r8, ra, ri, rt⟩ := hR
  obtain ⟨y1, f, y2, y3⟩ := hY
  refine ⟨I', hC, ⟨by rw [f0]; exact r0, by rw [f3]; exact r3, by rw [f8]; exact r8, fun k hk => ?_, fun k hk => ?_, fun k hk => ?_⟩, ⟨fun k hk => ?_, f, fun k hk => ?_, y3⟩, hf⟩
  · rw [(h10 k hk).1, (h10 k hk).2.1]; exact ra k hk
  · rw [(h16 k hk).1, (h16 k hk).2.1, (h16 k hk).2.2.1, (h16 k hk).2.2.2.1]; exact ri k hk
  · rw [(h12 k hk).1, (h12 k hk).2.1, (h12 k hk).2.2]; exact rt k hk
  · rw [(h10 k (by omega)).2.2]; exact y1 k hk
  · rw [(h16 k (by omega)).2.2.2.2]; exact y2 k hk
end
