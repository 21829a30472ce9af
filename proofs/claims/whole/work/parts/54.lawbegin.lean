/-! The law's beginning: both objects are made. -/
theorem inL_law_5 : ∀ w ∈ u_ws RX5 TX5 10, w ∈ wsL_law := inlX5
theorem inL_law_6 : ∀ w ∈ u_ws RX6 TX6 15, w ∈ wsL_law := inlX6
section
variable {X : XT} {b0 Ln : Nat} {xs' : Nat → Int32}
theorem GL.weak {cs sl pc : Nat} {ls : List (Nat × Value)} {st : List Value} {P P' : Heap → Prop} (h : ∀ H, P H → P' H) (k : GL X b0 cs sl pc ls st P') : GL X b0 cs sl pc ls st P := fun H locs la hl hP hS => k H locs la hl (h H hP) hS
theorem law_begin (hX : Cx X cL_law 4 RL wsL_law room_1) (hs : va_X b0 Ln xs' (xs X) (xs X).heap) (hb : b0 < (xs X).heap.size) (hE : (xE X).1 = (xs X).heap.size) (hLn : Ln ≤ 2560) (hEnd : ∀ (I : MI) (L : ML) (p : Nat → Nat) (i : Int32), GL X b0 106 2753 787 (LL i) [] (HM X I L p)) : GL X b0 0 0 0 [] [] (HC (xE X) 0 I0 L0 kn0) := by
  refine gl_new (ci := 5) (N := 10) hX rfl rfl inL_law_5 (by decide +kernel) (by decide +kernel) (by decide +kernel) (fun _ => rfl) (fun _ => rfl) (fun _ => rfl) (by decide) (by decide) dL_law_0 ?_
  refine gl_dup hX dL_law_3 rfl ?_
  refine gl_callI (as := []) (cs' := 96) (sl' := 1534) (st := [.ref 0]) hX c_init5 gL_law_X5_init (by decide +kernel) (by decide +kernel) (by decide +kernel) rfl rfl rfl ydX5_init (by decide) (Nat.le_of_ble_eq_true rfl) (by decide) dL_law_4 rfl rfl ?_
  refine gl_astore_n (ls' := [(1, .ref 0)]) hX dL_law_7 rfl (by decide) (by decide) rfl ?_
  refine gl_new (n := 96) (K := k5) (ci := 6) (N := 15) hX rfl rfl inL_law_6 (by decide +kernel) (by decide +kernel) (by decide +kernel) (fun _ => rfl) (fun _ => rfl) (fun k => ?_) (by decide) (by decide) dL_law_8 ?_
  · unfold k5 ki kg ke
    repeat rw [upK_R (by decide)]
    rw [kc_r (by decide) (by decide) (by decide)]
    rfl
  refine gl_dup hX dL_law_11 rfl ?_
  refine gl_callI (as := []) (cs' := 106) (sl' := 2753) (st := [.ref 96]) hX (c_init6 k5) gL_law_X6_init (by decide +kernel) (by decide +kernel) (by decide +kernel) rfl rfl rfl ydX6_init (by decide) (Nat.le_of_ble_eq_true rfl) (by decide) dL_law_12 rfl rfl ?_
  refine gl_astore_n (ls' := [(1, .ref 0), (2, .ref 96)]) hX dL_law_15 rfl (by decide) (by decide) rfl ?_
  refine GL.weak (P' := HM X I0 L0 p0) (fun H h => HC_begin h) ?_
  refine gl_iconst (v := 0) hX dL_law_16 (by decide) ?_
  refine gl_istore_n (ls' := LL 0) hX dL_law_17 rfl (by decide) (by decide) rfl ?_
  exact law_loop hX hs hb hE hLn hEnd Ln 0 (by omega) (by decide) I0 L0 p0 s0 VC_0 VM_0 GW_0
end
