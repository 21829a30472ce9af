/-! The law's loop. -/
section
variable {X : XT} {b0 Ln : Nat} {xs' : Nat → Int32}
theorem law_loop (hX : Cx X cL_law 4 RL wsL_law room_1) (hs : va_X b0 Ln xs' (xs X) (xs X).heap) (hb : b0 < (xs X).heap.size) (hE : (xE X).1 = (xs X).heap.size) (hLn : Ln ≤ 2560) (hEnd : ∀ (I : MI) (L : ML) (p : Nat → Nat) (i : Int32), GL X b0 106 2753 787 (LL i) [] (HM X I L p)) : ∀ m j, Ln ≤ j + m → j ≤ 2565 → LSt X b0 (nI j) := by
  have key : ∀ j, j ≤ 2565 → (¬ nI Ln - 5 < nI j) → j + 5 ≤ Ln := by
    intro j hj h
    rw [fa_lt] at h
    have e5 : (5 : Int32).toInt = 5 := rfl
    have e1 := nI_toInt (n := Ln) (by omega)
    have e2 := nI_toInt (n := j) (by omega)
    have e3 : (nI Ln - 5).toInt = (nI Ln).toInt - (5 : Int32).toInt := fb_subI (by omega) (by omega)
    omega
  have head : ∀ j, j ≤ 2565 → (j + 5 ≤ Ln → LSt X b0 (nI (j + 5))) → LSt X b0 (nI j) := by
    intro j hj hk I L p s hV hM hW
    refine gl_iload_n hX 2 rfl rfl dL_law_18 ?_
    refine gl_slen hX hs hb hE rfl dL_law_19 dL_law_20 ?_
    refine gl_iconst (v := 5) hX dL_law_21 (by decide) ?_
    refine gl_isub hX dL_law_22 ?_
    refine gl_icmp_gt (tgt := 787) hX dL_law_23 (by decide) (fun _ => hEnd I L p _) (fun h => ?_)
    have hj5 := key j hj h
    have k : LSt X b0 (nI j + 5) := by
      have := hk hj5
      rw [← nI_add] at this
      exact this
    have h1 : vp_in (nI j + 1) Ln := pk_in (j + 1) Ln (by omega) (nI_add j 1)
    have h2 : vp_in (nI j + 2) Ln := pk_in (j + 2) Ln (by omega) (nI_add j 2)
    have h3 : vp_in (nI j + 3) Ln := pk_in (j + 3) Ln (by omega) (nI_add j 3)
    have h4 : vp_in (nI j + 4) Ln := pk_in (j + 4) Ln (by omega) (nI_add j 4)
    refine gl_sld0 (j := 2) hX hs hb hE rfl rfl rfl (pk_in j Ln (by omega)) dL_law_26 dL_law_27 dL_law_28 ?_
    refine gl_bipush (v := 31) hX dL_law_29 (by decide) ?_
    refine gl_iand hX dL_law_31 ?_
    obtain ⟨c, hc, e⟩ := pk_andE (xs' (nI j).toNatClampNeg) (m := 31) 5 (by decide)
    rw [e]
    have hti := nI_toInt (n := c) (by omega)
    by_cases c22 : c ≤ 22
    · have hcc : c = 0 ∨ c = 1 ∨ c = 2 ∨ c = 3 ∨ c = 4 ∨ c = 5 ∨ c = 6 ∨ c = 7 ∨ c = 8 ∨ c = 9 ∨ c = 10 ∨ c = 11 ∨ c = 12 ∨ c = 13 ∨ c = 14 ∨ c = 15 ∨ c = 16 ∨ c = 17 ∨ c = 18 ∨ c = 19 ∨ c = 20 ∨ c = 21 ∨ c = 22 := by omega
      rcases hcc with rfl | rfl | rfl | rfl | rfl | rfl | rfl | rfl | rfl | rfl | rfl | rfl | rfl | rfl | rfl | rfl | rfl | rfl | rfl | rfl | rfl | rfl | rfl
      · exact gl_tableIn (off := 108) (tgt := 140) hX dL_law_32 (by decide) (by decide) (by decide) (by decide) (law_shaft hX hs hb hE h1 h2 k hV hM hW)
      · exact gl_tableIn (off := 141) (tgt := 173) hX dL_law_32 (by decide) (by decide) (by decide) (by decide) (law_sets hX hs hb hE h1 h2 h3 k hV hM hW)
      · exact gl_tableIn (off := 184) (tgt := 216) hX dL_law_32 (by decide) (by decide) (by decide) (by decide) (law_pipe hX hs hb hE h1 h2 h3 h4 k hV hM hW)
      · exact gl_tableIn (off := 237) (tgt := 269) hX dL_law_32 (by decide) (by decide) (by decide) (by decide) (law_drops hX hs hb hE h1 k hV hM hW)
      · exact gl_tableIn (off := 260) (tgt := 292) hX dL_law_32 (by decide) (by decide) (by decide) (by decide) (law_of hX hs hb hE h1 h2 k hV hM hW)
      · exact gl_tableIn (off := 293) (tgt := 325) hX dL_law_32 (by decide) (by decide) (by decide) (by decide) (law_about hX hs hb hE h1 h2 k hV hM hW)
      · exact gl_tableIn (off := 326) (tgt := 358) hX dL_law_32 (by decide) (by decide) (by decide) (by decide) (law_comes hX hs hb hE h1 h2 h3 k hV hM hW)
      · exact gl_tableIn (off := 370) (tgt := 402) hX dL_law_32 (by decide) (by decide) (by decide) (by decide) (law_times hX hs hb hE h1 h2 h3 h4 k hV hM hW)
      · exact gl_tableIn (off := 423) (tgt := 455) hX dL_law_32 (by decide) (by decide) (by decide) (by decide) (law_leaves hX hs hb hE h1 h2 k hV hM hW)
      · exact gl_tableIn (off := 456) (tgt := 488) hX dL_law_32 (by decide) (by decide) (by decide) (by decide) (law_sight hX hs hb hE h1 h2 h3 k hV hM hW)
      · exact gl_tableIn (off := 499) (tgt := 531) hX dL_law_32 (by decide) (by decide) (by decide) (by decide) (law_forget hX hs hb hE  k hV hM hW)
      · exact gl_tableIn (off := 512) (tgt := 544) hX dL_law_32 (by decide) (by decide) (by decide) (by decide) (law_fits hX hs hb hE h1 h2 k hV hM hW)
      · exact gl_tableIn (off := 545) (tgt := 577) hX dL_law_32 (by decide) (by decide) (by decide) (by decide) (law_when hX hs hb hE h1 k hV hM hW)
      · exact gl_tableIn (off := 568) (tgt := 600) hX dL_law_32 (by decide) (by decide) (by decide) (by decide) (law_suspects hX hs hb hE  k hV hM hW)
      · exact gl_tableIn (off := 581) (tgt := 613) hX dL_law_32 (by decide) (by decide) (by decide) (by decide) (law_next hX hs hb hE h1 k hV hM hW)
      · exact gl_tableIn (off := 604) (tgt := 636) hX dL_law_32 (by decide) (by decide) (by decide) (by decide) (law_alike hX hs hb hE h1 k hV hM hW)
      · exact gl_tableIn (off := 627) (tgt := 659) hX dL_law_32 (by decide) (by decide) (by decide) (by decide) (law_sensors hX hs hb hE h1 k hV hM hW)
      · exact gl_tableIn (off := 650) (tgt := 682) hX dL_law_32 (by decide) (by decide) (by decide) (by decide) (law_type hX hs hb hE h1 k hV hM hW)
      · exact gl_tableIn (off := 673) (tgt := 705) hX dL_law_32 (by decide) (by decide) (by decide) (by decide) (law_clear hX hs hb hE  k hV hM hW)
      · exact gl_tableIn (off := 686) (tgt := 718) hX dL_law_32 (by decide) (by decide) (by decide) (by decide) (law_reads hX hs hb hE  k hV hM hW)
      · exact gl_tableIn (off := 699) (tgt := 731) hX dL_law_32 (by decide) (by decide) (by decide) (by decide) (law_back hX hs hb hE  k hV hM hW)
      · exact gl_tableIn (off := 712) (tgt := 744) hX dL_law_32 (by decide) (by decide) (by decide) (by decide) (law_told hX hs hb hE h1 k hV hM hW)
      · exact gl_tableIn (off := 735) (tgt := 767) hX dL_law_32 (by decide) (by decide) (by decide) (by decide) (law_digest hX hs hb hE  k hV hM hW)
    · refine gl_tableOut (tgt := 781) hX dL_law_32 (Or.inr (by rw [hti]; omega)) (by decide) ?_
      refine gl_iinc (v := nI j + 5) (ls' := LL (nI j + 5)) hX 2 rfl dL_law_781 rfl (by decide) (by decide) rfl ?_
      exact gl_goto (tgt := 18) hX dL_law_784 (by decide) (k I L p s hV hM hW)
  intro m
  induction m with
  | zero => exact fun j h1 h2 => head j h2 (fun h => by omega)
  | succ m ih => exact fun j h1 h2 => head j h2 (fun h => ih (j + 5) (by omega) (by omega))
end
