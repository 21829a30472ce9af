/-! What the two constructors leave: the first state. -/
def k6 : MK := upK (upK (upK (upK (upK (upK (upK (upK (upK k5 96 0 (some 97)) 96 1 (some 98)) 96 2 (some 99)) 96 4 (some 100)) 96 5 (some 101)) 96 6 (some 102)) 96 7 (some 103)) 96 12 (some 104)) 96 13 (some 105)
def p0 : Nat → Nat := fun j => j + 1
theorem upK_j {K : MK} {r k q j : Nat} {x : Option Nat} (h : j ≠ k) : upK K r k x q j = K q j := by simp [upK, h]
theorem kd_j {K : MK} {b q j : Nat} (h : 16 ≤ j) : kd K b q j = K q j := by
  unfold kd
  rw [upK_j (by omega), upK_j (by omega), upK_j (by omega), upK_j (by omega), upK_j (by omega), upK_j (by omega), upK_j (by omega), upK_j (by omega), upK_j (by omega), upK_j (by omega), upK_j (by omega)]
theorem k3_j {K : MK} {q j : Nat} (h : 16 ≤ j) : ∀ i, i ≤ 6 → k3 K i q j = K q j
  | 0, _ => upK_j (by omega)
  | i + 1, hi => by rw [k3, upK_j (by omega), kd_j h]; exact k3_j h i (by omega)
theorem k6_j {q j : Nat} (h : 16 ≤ j) : k6 q j = none := by
  unfold k6 k5 ki kg ke kc kb
  repeat rw [upK_j (by omega)]
  rw [k3_j h 6 (by decide), upK_j (by omega), kd_j h]
  rfl
theorem kkT_len : ∀ r, r < 106 → (kkT.getD r []).length ≤ 16 := by decide +kernel
theorem k6_low : ∀ r, r < 106 → ∀ k, k < 16 → k6 r k = KK p0 r k := by decide +kernel
theorem KK_hi {r k : Nat} (hr : r < 106) (hk : 16 ≤ k) : KK p0 r k = none := by
  unfold KK
  by_cases c : r = 14
  · rw [if_pos c, if_neg (by omega)]
  · rw [if_neg c]
    have := kkT_len r hr
    have e : (kkT.getD r []).getD k 0 = 0 := by
      rw [List.getD_eq_getElem?_getD, List.getElem?_eq_none (by omega)]; rfl
    rw [e]
    rfl
theorem k6_KK {r : Nat} (hr : r < 106) : k6 r = KK p0 r := by
  funext k
  by_cases c : k < 16
  · exact k6_low r hr k c
  · rw [k6_j (by omega), KK_hi hr (by omega)]
theorem I0_up : upI I0 96 3 0 = I0 := up_id rfl
theorem HC_begin {E : ET} {H : Heap} (h : HC E 106 (upI I0 96 3 0) L0 k6 H) : HE E I0 L0 p0 H := by
  have h1 := h.1
  rw [I0_up] at h1
  show va_P (eD E) vwCl (wl E 106 I0 L0 (KK p0)) H
  unfold HW at h1
  rw [wl_ext (I' := I0) (L' := L0) (K' := KK p0) (fun r hr => by unfold cellE; rw [k6_KK hr])] at h1
  exact h1
def D0 : Dr := fun _ => 0
def s0 : Sg := (D0, fun _ => D0, 0, fun _ => 0, 0, fun _ => 0)
theorem WF_0 : WF D0 := ⟨by decide, by decide, by decide, fun _ _ => by show (0 : Nat) < 128; decide, fun a ha => absurd (show a < 0 from ha) (Nat.not_lt_zero a), fun a ha => absurd (show a < 0 from ha) (Nat.not_lt_zero a), fun a ha => absurd (show a < 0 from ha) (Nat.not_lt_zero a), fun a ha => absurd (show a < 0 from ha) (Nat.not_lt_zero a)⟩
theorem GW_0 : GW s0 := ⟨WF_0, Nat.zero_le _, fun j hj => absurd (show j < 0 from hj) (Nat.not_lt_zero j), Nat.zero_le _, fun _ _ => by show (0 : Nat) < 128; decide⟩
theorem VM_0 : VM I0 s0 := ⟨fun _ _ => rfl, ⟨rfl, Nat.zero_le _, fun j hj => absurd (show j < 0 from hj) (Nat.not_lt_zero j)⟩, ⟨rfl, fun _ _ => rfl⟩, fun _ _ => rfl⟩
theorem RO_0 : RO D0 (fun _ => 0) := ⟨fun a ha => absurd (show a < 0 from ha) (Nat.not_lt_zero a), fun a ha => absurd (show a < 0 from ha) (Nat.not_lt_zero a), fun a b _ hb => absurd (show b < 0 from hb) (Nat.not_lt_zero b)⟩
theorem VC_0 : VC whn I0 p0 s0 := by
  refine ⟨⟨⟨rfl, rfl, rfl, fun _ _ => ⟨rfl, rfl⟩, fun _ _ => ⟨rfl, rfl, rfl, rfl⟩, fun _ _ => ⟨rfl, rfl, rfl⟩⟩, ⟨fun a ha => absurd (show a < 0 from ha) (Nat.not_lt_zero a), fun _ => 0, fun a ha => absurd (show a < 0 from ha) (Nat.not_lt_zero a), RO_0⟩, rfl, ⟨fun j hj => ⟨Nat.succ_le_succ (Nat.zero_le _), by unfold p0; omega⟩, fun i j _ _ h => by unfold p0 at h; omega⟩, fun j hj => absurd (show j < 0 from hj) (Nat.not_lt_zero j), 0, by decide, rfl, fun a _ h => absurd h (by simp)⟩, rfl, fun _ _ => rfl, rfl, rfl, rfl⟩
theorem GW_reads {s : Sg} (h : GW s) : GW (aReads s).2 := by
  unfold aReads
  split
  · exact h
  · split
    · exact h
    · split
      · exact h
      · next D hD =>
        obtain ⟨h1, h2, h3, h4, h5⟩ := h
        refine ⟨ro_WF h1 hD, ?_, ?_, h4, h5⟩
        · show cp (gc s) ≤ 5
          unfold cp; split <;> omega
        · intro j hj
          have hj' : j < cp (gc s) := hj
          unfold cp at hj'
          show WF (qp (gQ s) (gc s) (gD s) j)
          unfold qp
          by_cases c : gc s = 5
          · rw [if_pos c] at hj' ⊢
            try dsimp only
            split
            · exact h3 _ (by omega)
            · exact h1
          · rw [if_neg c] at hj' ⊢
            try dsimp only
            split
            · exact h1
            · exact h3 _ (by omega)
theorem VC_low {I J : MI} {p : Nat → Nat} {s : Sg} (h : VC whn I p s) (hc : gc s ≤ 5) (he : ∀ r, r < 96 → J r = I r) : VC whn J p s := VC_hi h hc fun r hr => he r (by omega)
theorem VM_high {I J : MI} {s : Sg} (h : VM I s) (he : ∀ r, 96 ≤ r → J r = I r) : VM J s := by
  obtain ⟨v1, ⟨v2, v3, v4⟩, ⟨v5, v6⟩, v7⟩ := h
  refine ⟨?_, ⟨by rw [he 96 (by decide)]; exact v2, v3, by rw [he 99 (by decide)]; exact v4⟩, ⟨by rw [he 96 (by decide)]; exact v5, by rw [he 103 (by decide)]; exact v6⟩, by rw [he 100 (by decide)]; exact v7⟩
  unfold RM
  rw [he 97 (by decide)]; exact v1
