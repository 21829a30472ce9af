/-! The layer for the law's own body: as G, but local 0 holds the script, a cell below the objects. -/
def GL (X : XT) (b0 cs sl pc : Nat) (ls : List (Nat × Value)) (st : List Value) (P : Heap → Prop) : Prop :=
  ∀ (H : Heap) (locs : List Loc) (la : Array Slot), lv_has la (xn X) ((0, .ref b0) :: ls.map (cl2 (xE X).1)) → P H → va_S (eA (xE X)) (xs X).heap H locs →
    W (xp X) (xl X) (xe X) (xR X) (xs X) (xm X) (xa X) (xb X) (xM X) (xc X) H locs cs sl (xQ X) (F0 (xm X) pc la (st.map (cv (xE X).1)))
section
variable {X : XT} {b0 : Nat} {cc : ByteArray} {nL : Nat} {own : String} {Ts : List Cond} {R : Room} {cs sl pc : Nat} {ls ls' : List (Nat × Value)} {st : List Value} {P : Heap → Prop}
theorem gl_at {la : Array Slot} {j i : Nat} {v : Value} (hl : lv_has la (xn X) ((0, .ref b0) :: ls.map (cl2 (xE X).1))) (hk : ls[j]? = some (i, v)) : la[i]? = some (.val (cv (xE X).1 v)) := lv_at hl (j + 1) (by rw [List.getElem?_cons_succ, List.getElem?_map, hk]; rfl)
theorem gl_iconst (hX : Cx X cc nL own Ts R) {n : Int} {v : Int32} (hd : decode cc pc = .ok (.iconst n, 1)) (hv : Int32.ofInt n = v) (k : GL X b0 cs sl (pc + 1) ls (.int v :: st) P) : GL X b0 cs sl pc ls (st) P := fun H locs la hl hP hS => lv_iconst hX.1 hX.2.1 hd hv (k H locs la hl hP hS)
theorem gl_bipush (hX : Cx X cc nL own Ts R) {n : Int} {v : Int32} (hd : decode cc pc = .ok (.bipush n, 2)) (hv : (Int8.ofInt n).toInt32 = v) (k : GL X b0 cs sl (pc + 2) ls (.int v :: st) P) : GL X b0 cs sl pc ls (st) P := fun H locs la hl hP hS => lv_bipush hX.1 hX.2.1 hd hv (k H locs la hl hP hS)
theorem gl_iload_n (hX : Cx X cc nL own Ts R) {k4 : Fin 4} {i : Nat} {x : Int32} (j : Nat) (hj : ls[j]? = some (i, .int x)) (hi : (k4 : Nat) = i) (hd : decode cc pc = .ok (.iload_n k4, 1))  (k : GL X b0 cs sl (pc + 1) ls (.int x :: st) P) : GL X b0 cs sl pc ls (st) P := fun H locs la hl hP hS => lv_iload_n hX.1 hX.2.1 hd hi (gl_at hl hj) (k H locs la hl hP hS)
theorem gl_aload_n (hX : Cx X cc nL own Ts R) {k4 : Fin 4} {i : Nat} {x : Nat} (j : Nat) (hj : ls[j]? = some (i, .ref x)) (hi : (k4 : Nat) = i) (hd : decode cc pc = .ok (.aload_n k4, 1))  (k : GL X b0 cs sl (pc + 1) ls (.ref x :: st) P) : GL X b0 cs sl pc ls (st) P := fun H locs la hl hP hS => lv_aload_n hX.1 hX.2.1 hd hi (gl_at hl hj) (k H locs la hl hP hS)
theorem gl_iadd (hX : Cx X cc nL own Ts R) {x y : Int32} (hd : decode cc pc = .ok (.iadd, 1))  (k : GL X b0 cs sl (pc + 1) ls (.int (x + y) :: st) P) : GL X b0 cs sl pc ls (.int y :: .int x :: st) P := fun H locs la hl hP hS => lv_iadd hX.1 hX.2.1 hd (k H locs la hl hP hS)
theorem gl_isub (hX : Cx X cc nL own Ts R) {x y : Int32} (hd : decode cc pc = .ok (.isub, 1))  (k : GL X b0 cs sl (pc + 1) ls (.int (x - y) :: st) P) : GL X b0 cs sl pc ls (.int y :: .int x :: st) P := fun H locs la hl hP hS => lv_isub hX.1 hX.2.1 hd (k H locs la hl hP hS)
theorem gl_iand (hX : Cx X cc nL own Ts R) {x y : Int32} (hd : decode cc pc = .ok (.iand, 1))  (k : GL X b0 cs sl (pc + 1) ls (.int (x &&& y) :: st) P) : GL X b0 cs sl pc ls (.int y :: .int x :: st) P := fun H locs la hl hP hS => lv_iand hX.1 hX.2.1 hd (k H locs la hl hP hS)
theorem gl_dup (hX : Cx X cc nL own Ts R) {v : Value} (hd : decode cc pc = .ok (.dup, 1)) (hc : v.category = 1) (k : GL X b0 cs sl (pc + 1) ls (v :: v :: st) P) : GL X b0 cs sl pc ls (v :: st) P := fun H locs la hl hP hS => lv_dup hX.1 hX.2.1 hd (by rw [cv_cat]; exact hc) (k H locs la hl hP hS)
theorem gl_lcmp (hX : Cx X cc nL own Ts R) {x y : Int64} (hd : decode cc pc = .ok (.lcmp, 1))  (k : GL X b0 cs sl (pc + 1) ls (.int (jcmp x y) :: st) P) : GL X b0 cs sl pc ls (.long y :: .long x :: st) P := fun H locs la hl hP hS => W.lcmp hX.1 hX.2.1 hd (k H locs la hl hP hS)
theorem gl_if_eq (hX : Cx X cc nL own Ts R) {x : Int32} {off : Int} {tgt : Nat} (hd : decode cc pc = .ok (.ifCond .eq off, 3)) (ht : (pc : Int) + off = (tgt : Int)) (kt : x = 0 → GL X b0 cs sl tgt ls st P) (kf : ¬ x = 0 → GL X b0 cs sl (pc + 3) ls st P) : GL X b0 cs sl pc ls (.int x :: st) P := fun H locs la hl hP hS => lv_if_eq hX.1 hX.2.1 hd ht (fun h => kt h H locs la hl hP hS) (fun h => kf h H locs la hl hP hS)
theorem gl_if_ne (hX : Cx X cc nL own Ts R) {x : Int32} {off : Int} {tgt : Nat} (hd : decode cc pc = .ok (.ifCond .ne off, 3)) (ht : (pc : Int) + off = (tgt : Int)) (kt : ¬ x = 0 → GL X b0 cs sl tgt ls st P) (kf : x = 0 → GL X b0 cs sl (pc + 3) ls st P) : GL X b0 cs sl pc ls (.int x :: st) P := fun H locs la hl hP hS => lv_if_ne hX.1 hX.2.1 hd ht (fun h => kt h H locs la hl hP hS) (fun h => kf h H locs la hl hP hS)
theorem gl_icmp_eq (hX : Cx X cc nL own Ts R) {x y : Int32} {off : Int} {tgt : Nat} (hd : decode cc pc = .ok (.if_icmp .eq off, 3)) (ht : (pc : Int) + off = (tgt : Int)) (kt : x = y → GL X b0 cs sl tgt ls st P) (kf : ¬ x = y → GL X b0 cs sl (pc + 3) ls st P) : GL X b0 cs sl pc ls (.int y :: .int x :: st) P := fun H locs la hl hP hS => lv_icmp_eq hX.1 hX.2.1 hd ht (fun h => kt h H locs la hl hP hS) (fun h => kf h H locs la hl hP hS)
theorem gl_icmp_ne (hX : Cx X cc nL own Ts R) {x y : Int32} {off : Int} {tgt : Nat} (hd : decode cc pc = .ok (.if_icmp .ne off, 3)) (ht : (pc : Int) + off = (tgt : Int)) (kt : ¬ x = y → GL X b0 cs sl tgt ls st P) (kf : x = y → GL X b0 cs sl (pc + 3) ls st P) : GL X b0 cs sl pc ls (.int y :: .int x :: st) P := fun H locs la hl hP hS => lv_icmp_ne hX.1 hX.2.1 hd ht (fun h => kt h H locs la hl hP hS) (fun h => kf h H locs la hl hP hS)
theorem gl_icmp_gt (hX : Cx X cc nL own Ts R) {x y : Int32} {off : Int} {tgt : Nat} (hd : decode cc pc = .ok (.if_icmp .gt off, 3)) (ht : (pc : Int) + off = (tgt : Int)) (kt : y < x → GL X b0 cs sl tgt ls st P) (kf : ¬ y < x → GL X b0 cs sl (pc + 3) ls st P) : GL X b0 cs sl pc ls (.int y :: .int x :: st) P := fun H locs la hl hP hS => lv_icmp_gt hX.1 hX.2.1 hd ht (fun h => kt h H locs la hl hP hS) (fun h => kf h H locs la hl hP hS)
theorem gl_goto (hX : Cx X cc nL own Ts R) {off : Int} {tgt : Nat} (hd : decode cc pc = .ok (.goto off, 3)) (ht : (pc : Int) + off = (tgt : Int)) (k : GL X b0 cs sl tgt ls st P) : GL X b0 cs sl pc ls st P := fun H locs la hl hP hS => lv_goto hX.1 hX.2.1 hd ht (k H locs la hl hP hS)
theorem gl_tableOut (hX : Cx X cc nL own Ts R) {dflt lo hi : Int} {offs : Array Int} {len : Nat} {x : Int32} {tgt : Nat} (hd : decode cc pc = .ok (.tableswitch dflt lo hi offs, len)) (h : x.toInt < lo ∨ hi < x.toInt) (ht : (pc : Int) + dflt = (tgt : Int)) (k : GL X b0 cs sl tgt ls st P) : GL X b0 cs sl pc ls (.int x :: st) P := fun H locs la hl hP hS => lv_tableOut hX.1 hX.2.1 hd h ht (k H locs la hl hP hS)
theorem gl_tableIn (hX : Cx X cc nL own Ts R) {dflt lo hi : Int} {offs : Array Int} {len : Nat} {x : Int32} {off : Int} {tgt : Nat} (hd : decode cc pc = .ok (.tableswitch dflt lo hi offs, len)) (h1 : ¬ x.toInt < lo) (h2 : ¬ hi < x.toInt) (ho : offs[(x.toInt - lo).toNat]? = some off) (ht : (pc : Int) + off = (tgt : Int)) (k : GL X b0 cs sl tgt ls st P) : GL X b0 cs sl pc ls (.int x :: st) P := fun H locs la hl hP hS => lv_tableIn hX.1 hX.2.1 hd h1 h2 ho ht (k H locs la hl hP hS)
theorem gl_lset {la : Array Slot} {n b i : Nat} {ls : List (Nat × Value)} {v : Value} (hi : i ≠ 0) (hc : v.category = 1) (h : lv_has la n ((i, cv b v) :: ((0, Value.ref b0) :: ls.map (cl2 b)).filter (fun q => !(q.1 == i) && !(q.1 + 1 == i && q.2.category == 2)))) : lv_has la n ((0, .ref b0) :: (lset ls i v).map (cl2 b)) := by
  refine lv_less h fun q hq => ?_
  rcases List.mem_cons.mp hq with rfl | hq
  · refine List.mem_cons_of_mem _ (List.mem_filter.mpr ⟨List.mem_cons_self, ?_⟩)
    have : (0 == i) = false := by simpa using fun e : 0 = i => hi e.symm
    simp [this, Value.category]
  · obtain ⟨z, hz, rfl⟩ := List.mem_map.mp hq
    rcases lset_in hz with rfl | ⟨h1, h2⟩
    · exact List.mem_cons_self
    · refine List.mem_cons_of_mem _ (List.mem_filter.mpr ⟨List.mem_cons_of_mem _ (List.mem_map.mpr ⟨z, h1, rfl⟩), ?_⟩)
      rw [hc] at h2
      simpa [cl2, cv_cat] using h2
theorem gl_istore_n (hX : Cx X cc nL own Ts R) {k4 : Fin 4} {i : Nat} {x : Int32} (hd : decode cc pc = .ok (.istore_n k4, 1)) (hi : (k4 : Nat) = i) (hn : i < nL) (hi0 : i ≠ 0) (hl2 : lset ls i (.int x) = ls') (k : GL X b0 cs sl (pc + 1) ls' st P) : GL X b0 cs sl pc ls (.int x :: st) P := fun H locs la hl hP hS => lv_istore_n hX.1 hX.2.1 hd hi (hl) (by rw [hX.2.2.1]; exact hn) rfl (fun la2 h2 => k H locs la2 (by rw [← hl2]; exact gl_lset (v := .int x) hi0 rfl h2) hP hS)
theorem gl_astore_n (hX : Cx X cc nL own Ts R) {k4 : Fin 4} {i : Nat} {x : Nat} (hd : decode cc pc = .ok (.astore_n k4, 1)) (hi : (k4 : Nat) = i) (hn : i < nL) (hi0 : i ≠ 0) (hl2 : lset ls i (.ref x) = ls') (k : GL X b0 cs sl (pc + 1) ls' st P) : GL X b0 cs sl pc ls (.ref x :: st) P := fun H locs la hl hP hS => lv_astore_n hX.1 hX.2.1 hd hi (hl) (by rw [hX.2.2.1]; exact hn) rfl (fun la2 h2 => k H locs la2 (by rw [← hl2]; exact gl_lset (v := .ref x) hi0 rfl h2) hP hS)
theorem gl_iinc (hX : Cx X cc nL own Ts R) {i : Nat} {n : Int} {x v : Int32} (j : Nat) (hj : ls[j]? = some (i, .int x)) (hd : decode cc pc = .ok (.iinc i n, 3)) (hv : x + Int32.ofInt n = v) (hn : i < nL) (hi0 : i ≠ 0) (hl2 : lset ls i (.int v) = ls') (k : GL X b0 cs sl (pc + 3) ls' st P) : GL X b0 cs sl pc ls st P := fun H locs la hl hP hS => lv_iinc (k := j + 1) hX.1 hX.2.1 hd hl (by rw [List.getElem?_cons_succ, List.getElem?_map, hj]; rfl) hv (by rw [hX.2.2.1]; exact hn) rfl (fun la2 h2 => k H locs la2 (by rw [← hl2]; exact gl_lset (v := .int v) hi0 rfl h2) hP hS)
variable {P' : Heap → Prop} {cs' sl' na : Nat}
theorem gl_after {as : List Value} {r : Option Value} {mc ms : Nat} {a : Array Value}
    (run : ∀ (H : Heap) (locs : List Loc) (la : Array Slot), lv_has la (xn X) ((0, .ref b0) :: ls.map (cl2 (xE X).1)) → P H → va_S (eA (xE X)) (xs X).heap H locs → va_Run (xp X) (xl X) (xe X) (xR X) (xs X) (xm X) (xa X) (xb X) (xM X) (xc X) H locs cs sl mc ms (F0 (xm X) pc la ((as.reverse ++ st).map (cv (xE X).1))) (st.map (cv (xE X).1)) ((fun _ st oc t => (oc = .returned (r.map (cv (xE X).1)) ∧ P' t.heap) ∧ va_F (eA (xE X)) st t) a) (eA (xE X)))
    (kk : GL X b0 (cs + mc) (sl + ms) (pc + 3) ls (r.toList ++ st) P') : GL X b0 cs sl pc ls (as.reverse ++ st) P := by
  intro H locs la hl hP hS T hT hX
  obtain ⟨v, st₀, t, T', L, h0, X', hL, e1, e2, ⟨⟨hv, hp⟩, hz, hk⟩, go⟩ := run H locs la hl hP hS T hT hX
  cases hv
  rw [h0] at hz hk
  have hS' : va_S (eA (xE X)) (xs X).heap T'.heap (locs ++ L) := ⟨Nat.le_trans hS.1 (by rw [e1]; exact hz), fun q h1 h2 => by rw [e1, hk q (Nat.lt_of_lt_of_le h1 hS.1) h2]; exact hS.2.1 q h1 h2, fun q hq => by
    rcases List.mem_append.mp hq with h | h
    · exact hS.2.2 q h
    · exact hL q h⟩
  obtain ⟨t2, a1, b1⟩ := kk T'.heap (locs ++ L) la hl (by rw [e1]; exact hp) hS' T' rfl X'
  refine ⟨t2, go t2 ?_, b1⟩
  cases r with
  | none => exact a1
  | some r => exact a1
theorem gl_callV (hX : Cx X cc nL own Ts R) {n : Nat} {I : MI} {L : ML} {K : MK} {idx maxL ci b : Nat} {C : String} {y : MethodName} {bytes : ByteArray} {ret : Option FieldType} {ws ws' : List Cond} {rm : Room} {as : List Value} {r : Option Value} (hC : Ct (xE X) (xl X) y ws rm (.ref b :: as) P r P') (hPW : ∀ H, P H → HW (xE X) n I L K H) (hb : b < n) (hs : (shp b).1 = ci) (hcl : (vwCl[ci]?).map (fun q => q.1) = some C) (hg : GoodIn Ts (wsV own idx C y ws)) (hw : ws = Cond.code y bytes maxL ret :: ws')
    (hna : as.length = na) (hC2 : y.cls = C) (hd3 : y.cls ≠ "java/lang/invoke/MethodHandle" ∧ y.cls ≠ "java/lang/invoke/VarHandle" ∧ (parseMethodDescriptor y.desc).map (fun d => d.parameters.length) = some na) (hR : rm.frames + 1 ≤ R.frames ∧ 8 + (maxL + 11) + rm.locals ≤ R.locals) (hst : (st.map fun v => v.category).sum ≤ 8) (hf : cs + rm.cells ≤ R.cells ∧ sl + rm.slots ≤ R.slots)
    (hd : decode cc pc = .ok (.invokevirtual idx, 3)) (hcs : cs + rm.cells = cs') (hsl : sl + rm.slots = sl') (kk : GL X b0 cs' sl' (pc + 3) ls (r.toList ++ st) P') : GL X b0 cs sl pc ls (as.reverse ++ .ref b :: st) P := by
  subst hna; subst hcs; subst hsl
  have e : as.reverse ++ Value.ref b :: st = (Value.ref b :: as).reverse ++ st := by simp
  rw [e]
  refine gl_after (a := ((Value.ref b :: as).map (cv (xE X).1)).toArray) (fun H locs la hl hP hS => ?_) kk
  obtain ⟨q, hq, rfl⟩ := Option.map_eq_some_iff.mp hcl
  obtain ⟨-, -, -, -, hci⟩ := cl_ok hq
  exact va_runV (b := (xE X).1 + b) (As := as.map (cv (xE X).1)) (rest := st.map (cv (xE X).1)) ⟨hX.1, hX.2.1, hX.2.2.2.1, hX.own, hX.ts⟩ hC (cwV as.length hX.ts hg hw rfl rfl ⟨hC2, hd3⟩ (by rw [hX.rm]; exact hR)) ⟨g_blind, va_recv hX.kw.1 (hPW H hP) hq (wl_obj hb hs hci), g_pre hX hP⟩ rfl (by rw [List.length_map]) (by rw [← hX.2.2.1]; exact hl.1) (by simp [cv]) (lv_room (by rw [cv_sum]; exact hst)) hd (by rw [hX.rm]; exact hf)
theorem gl_callI (hX : Cx X cc nL own Ts R) {idx maxL b : Nat} {y : MethodName} {bytes : ByteArray} {ws ws' : List Cond} {rm : Room} {as : List Value} {r : Option Value} (hC : Ct (xE X) (xl X) y ws rm (.ref b :: as) P r P') (hg : GoodIn Ts ws) (hini : Cond.initialized y.cls ∈ Ts) (hlk : Cond.methodLink own idx y ∈ Ts) (hin : Cond.instanceMethod y ∈ Ts) (hnm : y.name = "<init>") (hw : ws = Cond.code y bytes maxL none :: ws')
    (hna : as.length = na) (hd3 : y.cls ≠ "java/lang/invoke/MethodHandle" ∧ y.cls ≠ "java/lang/invoke/VarHandle" ∧ (parseMethodDescriptor y.desc).map (fun d => d.parameters.length) = some na) (hR : rm.frames + 1 ≤ R.frames ∧ 8 + (maxL + 11) + rm.locals ≤ R.locals) (hst : (st.map fun v => v.category).sum ≤ 8) (hf : cs + rm.cells ≤ R.cells ∧ sl + rm.slots ≤ R.slots)
    (hd : decode cc pc = .ok (.invokespecial idx, 3)) (hcs : cs + rm.cells = cs') (hsl : sl + rm.slots = sl') (kk : GL X b0 cs' sl' (pc + 3) ls (r.toList ++ st) P') : GL X b0 cs sl pc ls (as.reverse ++ .ref b :: st) P := by
  subst hna; subst hcs; subst hsl
  have e : as.reverse ++ Value.ref b :: st = (Value.ref b :: as).reverse ++ st := by simp
  rw [e]
  refine gl_after (a := ((Value.ref b :: as).map (cv (xE X).1)).toArray) (fun H locs la hl hP hS => ?_) kk
  exact va_runI (b := (xE X).1 + b) (As := as.map (cv (xE X).1)) (rest := st.map (cv (xE X).1)) ⟨hX.1, hX.2.1, hX.2.2.2.1, hX.own, hX.ts⟩ hC (cwI as.length hX.ts hg hw rfl rfl (hX.ts _ hini) (hX.ts _ hlk) (hX.ts _ hin) hnm hd3 (by rw [hX.rm]; exact hR)) ⟨g_blind, g_pre hX hP⟩ rfl (by rw [List.length_map]) (by rw [← hX.2.2.1]; exact hl.1) (by simp [cv]) (lv_room (by rw [cv_sum]; exact hst)) hd (by rw [hX.rm]; exact hf)
variable {n : Nat} {I : MI} {L : ML} {K : MK}
theorem gl_new (hX : Cx X cc nL own Ts R) {idx ci N : Nat} {C : String} {T : u_T} (hc : vwCl[ci]? = some (C, T, N)) (hs : (shp n).1 = ci) (hin : ∀ w ∈ u_ws C T N, w ∈ Ts) (h1 : Cond.classLink own idx C ∈ Ts) (h2 : Cond.instantiable C N ∈ Ts) (h3 : Cond.initialized C ∈ Ts) (hI : ∀ k, I n k = 0) (hL : ∀ k, L n k = 0) (hK : ∀ k, K n k = none) (hR1 : cs + 1 ≤ R.cells) (hR2 : sl + N ≤ R.slots) (hd : decode cc pc = .ok (.new idx, 3))
    (kk : GL X b0 (cs + 1) (sl + N) (pc + 3) ls (.ref n :: st) (HC (xE X) (n + 1) I L K)) : GL X b0 cs sl pc ls st (HC (xE X) n I L K) := by
  obtain ⟨-, -, -, hlen, hci⟩ := cl_ok hc
  obtain ⟨ty, hty, hdf⟩ := cl_dflt hc
  intro H locs la hl hP hS
  have hKn := hX.kw.1.1 ci _ hc
  refine W.newcK hX.1 hX.2.1 hX.own (hX.ts _ h1) (hX.ts _ h2) (hX.ts _ h3) rfl hd (by rw [hX.rm]; exact hR1) (by rw [hX.rm]; exact hR2) hKn.2.1 hP.2 fun H1 kC hkC e1 z1 o1 => ?_
  refine kk H1 locs la hl (HC_push hP z1 o1 ?_) (vaS_push hS (by rw [z1, hP.2]) (by rw [hP.2]; exact o1))
  have e : cellE (xE X) I L K n = .inr (ci, flds (xE X).1 (I n) (L n) (K n) 0 (fkL ci)) := by
    subst hs
    simp [cellE, cellK, hci]
  rw [e]
  refine ⟨_, hc, (u_born ty hX.ts hin hKn hkC e1 hty).to (fun k hk => ?_)⟩
  have h5 := hdf k hk
  obtain ⟨t, ht, h6⟩ := Option.map_eq_some_iff.mp h5
  show defaultValue (ty k) = (flds (xE X).1 (I n) (L n) (K n) 0 (fkL ci)).getD k .null
  rw [List.getD_eq_getElem?_getD, flds_get _ 0 k t ht, Option.getD_some, ← h6]
  exact (fv_zero hI hL hK).symm
/-- the script's length -/
theorem gl_slen (hX : Cx X cc nL own Ts R) {Ln : Nat} {xs' : Nat → Int32} (hs : va_X b0 Ln xs' (xs X) (xs X).heap) (hb : b0 < (xs X).heap.size) (hE : (xE X).1 = (xs X).heap.size) {k4 : Fin 4} (hi : (k4 : Nat) = 0) (hd1 : decode cc pc = .ok (.aload_n k4, 1)) (hd2 : decode cc (pc + 1) = .ok (.arraylength, 1)) (k : GL X b0 cs sl (pc + 2) ls (.int (nI Ln) :: st) P) : GL X b0 cs sl pc ls st P := fun H locs la hl hP hS =>
  lv_aload_n hX.1 hX.2.1 hd1 hi (lv_at hl 0 rfl) (va_slen hX.1 hX.2.1 hs hb (fun q => absurd q (by unfold eA; rw [hE]; omega)) hS hd2 (k H locs la hl hP hS))
/-- one cell of the script: i, i + 1 .. -/
theorem gl_sld (hX : Cx X cc nL own Ts R) {Ln j : Nat} {xs' : Nat → Int32} (hs : va_X b0 Ln xs' (xs X) (xs X).heap) (hb : b0 < (xs X).heap.size) (hE : (xE X).1 = (xs X).heap.size) {x c : Int32} {m : Int} {q4 k4 : Fin 4} {t : Nat} (hq : (q4 : Nat) = t) (hi : (k4 : Nat) = 0) (hj : ls[j]? = some (t, .int x)) (hin : vp_in (x + c) Ln) (hc : Int32.ofInt m = c) (hd1 : decode cc pc = .ok (.aload_n k4, 1)) (hd2 : decode cc (pc + 1) = .ok (.iload_n q4, 1)) (hd3 : decode cc (pc + 2) = .ok (.iconst m, 1)) (hd4 : decode cc (pc + 3) = .ok (.iadd, 1)) (hd5 : decode cc (pc + 4) = .ok (.iaload, 1)) (k : GL X b0 cs sl (pc + 5) ls (.int (xs' (x + c).toNatClampNeg) :: st) P) : GL X b0 cs sl pc ls st P := fun H locs la hl hP hS =>
  lv_aload_n hX.1 hX.2.1 hd1 hi (lv_at hl 0 rfl) (lv_iload_n hX.1 hX.2.1 hd2 hq (gl_at hl hj) (lv_iconst hX.1 hX.2.1 hd3 hc (lv_iadd hX.1 hX.2.1 hd4 (va_sld hX.1 hX.2.1 hs hb (fun q => absurd q (by unfold eA; rw [hE]; omega)) hS hin hd5 (k H locs la hl hP hS)))))
/-- the order's own cell -/
theorem gl_sld0 (hX : Cx X cc nL own Ts R) {Ln j : Nat} {xs' : Nat → Int32} (hs : va_X b0 Ln xs' (xs X) (xs X).heap) (hb : b0 < (xs X).heap.size) (hE : (xE X).1 = (xs X).heap.size) {x : Int32} {q4 k4 : Fin 4} {t : Nat} (hq : (q4 : Nat) = t) (hi : (k4 : Nat) = 0) (hj : ls[j]? = some (t, .int x)) (hin : vp_in x Ln) (hd1 : decode cc pc = .ok (.aload_n k4, 1)) (hd2 : decode cc (pc + 1) = .ok (.iload_n q4, 1)) (hd5 : decode cc (pc + 2) = .ok (.iaload, 1)) (k : GL X b0 cs sl (pc + 3) ls (.int (xs' x.toNatClampNeg) :: st) P) : GL X b0 cs sl pc ls st P := fun H locs la hl hP hS =>
  lv_aload_n hX.1 hX.2.1 hd1 hi (lv_at hl 0 rfl) (lv_iload_n hX.1 hX.2.1 hd2 hq (gl_at hl hj) (va_sld hX.1 hX.2.1 hs hb (fun q => absurd q (by unfold eA; rw [hE]; omega)) hS hin hd5 (k H locs la hl hP hS)))
end
