/-! Contracts and calls. -/
/-- a method's contract: from P, with these arguments, it answers r and leaves P' -/
def Ct (E : ET) (l : Launch) (y : MethodName) (ws : List Cond) (rm : Room) (as : List Value) (P : Heap → Prop) (r : Option Value) (P' : Heap → Prop) : Prop :=
  Met l y ws rm (va_Pc (as.map (cv E.1)) (fun U => P U.heap ∧ KW E U)) (fun _ st oc t => (oc = .returned (r.map (cv E.1)) ∧ P' t.heap) ∧ va_F (eA E) st t) rm.cells rm.slots (eA E)
/-- what a walk owes at its end -/
def Rt (X : XT) (ret : Option FieldType) (rm : Room) (r : Option Value) (P' : Heap → Prop) : Prop :=
  (xM X).sig.returnType = ret ∧ (xM X).locks = false ∧ xQ X = MQ (xb X) (fun _ st oc t => (oc = .returned (r.map (cv (xE X).1)) ∧ P' t.heap) ∧ va_F (eA (xE X)) st t) (xa X) (xs X) rm.cells rm.slots (eA (xE X))
theorem cv_args (b : Nat) : ∀ (vs : List Value) (i : Nat), lv_args i (vs.map (cv b)) = (lv_args i vs).map (cl2 b)
  | [], _ => rfl
  | v :: vs, i => by
    show (i, cv b v) :: lv_args (if (cv b v).category = 2 then i + 2 else i + 1) (vs.map (cv b)) = (i, cv b v) :: (lv_args (if v.category = 2 then i + 2 else i + 1) vs).map (cl2 b)
    rw [cv_cat, cv_args b vs]
theorem cv_slots (b : Nat) : ∀ (vs : List Value), (lg_sl (vs.map (cv b))).length = (lg_sl vs).length
  | [] => rfl
  | v :: vs => by
    have ih := cv_slots b vs
    simp only [lg_sl] at ih
    simp only [lg_sl, List.map_cons, List.flatMap_cons, List.length_append, cv_cat, ih]
    split <;> rfl
theorem Ct.mk {E : ET} {l : Launch} {y : MethodName} {ws ws' : List Cond} {rm : Room} {cc : ByteArray} {maxL : Nat} {ret : Option FieldType} {as : List Value} {P P' : Heap → Prop} {r : Option Value} (hy : plainName y.cls = true) (hw : ws = Cond.code y cc maxL ret :: ws') (hlen : (lg_sl as).length ≤ maxL)
    (body : ∀ X : XT, xE X = E → xl X = l → Cx X cc maxL y.cls ws rm → (y.name = "<init>" → (xM X).name = "<init>") → Rt X ret rm r P' → G X 0 0 0 (lv_args 0 as) [] P) : Ct E l y ws rm as P r P' := by
  refine Met.ofW (cc := cc) (maxL := maxL) (ret := ret) hy hw ?_
  intro p e s m args below meth c s₁ B hml hv
  obtain ⟨rfl, hP, hK⟩ := hv
  have hl := lv_entry (as.map (cv E.1)) (n := maxL) (by rw [cv_slots]; exact hlen)
  rw [lg_entry_eq]
  rw [cv_args] at hl
  exact body (p, l, e, (headSpec ws rm).room, s, m, (as.map (cv E.1)).toArray, below, meth, c, MQ below (fun _ st oc t => (oc = .returned (r.map (cv E.1)) ∧ P' t.heap) ∧ va_F (eA E) st t) (as.map (cv E.1)).toArray s rm.cells rm.slots (eA E), E, maxL) rfl rfl
    ⟨B.exec, B.bytes, rfl, hml, findClass_of_methodNamed B.named, atoms_spec (ws := ws) B.pre, rfl, hK⟩ (fun h => ((name_of_methodNamed B.named B.method).1).trans h) ⟨B.returns, B.notSynchronized, rfl⟩ s.heap [] _ hl hP va_S.rf
section
variable {X : XT} {cc : ByteArray} {nL : Nat} {own : String} {Ts : List Cond} {R : Room} {cs sl cs' sl' na pc : Nat} {ls ls' : List (Nat × Value)} {st : List Value} {P P' : Heap → Prop}
theorem g_ireturn (hX : Cx X cc nL own Ts R) {v : Int32} (hR : Rt X (some .int) R (some (.int v)) P) (hc : R.cells = cs) (hs : R.slots = sl) (hd : decode cc pc = .ok (.ireturn, 1)) : G X cs sl pc ls [.int v] P := by
  subst hc; subst hs
  intro H locs la hl hP hS
  rw [hR.2.2]
  exact W.iret (v := v) hX.1 hX.2.1 hR.1 (fun t ht hW => ⟨⟨rfl, by rw [ht]; exact hP⟩, hS.F ht⟩) hS.2.2 hd hR.2.1
theorem g_zreturn (hX : Cx X cc nL own Ts R) {v : Int32} (hR : Rt X (some .boolean) R (some (.int v)) P) (hv : v = 0 ∨ v = 1) (hc : R.cells = cs) (hs : R.slots = sl) (hd : decode cc pc = .ok (.ireturn, 1)) : G X cs sl pc ls [.int v] P := by
  subst hc; subst hs
  intro H locs la hl hP hS
  rw [hR.2.2]
  exact W.zret (v := v) hX.1 hX.2.1 hR.1 (by rcases hv with rfl | rfl <;> rfl) (fun t ht hW => ⟨⟨rfl, by rw [ht]; exact hP⟩, hS.F ht⟩) hS.2.2 hd hR.2.1
theorem g_lreturn (hX : Cx X cc nL own Ts R) {v : Int64} (hR : Rt X (some .long) R (some (.long v)) P) (hc : R.cells = cs) (hs : R.slots = sl) (hd : decode cc pc = .ok (.lreturn, 1)) : G X cs sl pc ls [.long v] P := by
  subst hc; subst hs
  intro H locs la hl hP hS
  rw [hR.2.2]
  exact W.lret (v := v) hX.1 hX.2.1 hR.1 (fun t ht hW => ⟨⟨rfl, by rw [ht]; exact hP⟩, hS.F ht⟩) hS.2.2 hd hR.2.1
theorem g_return (hX : Cx X cc nL own Ts R) (hR : Rt X none R none P) (hc : R.cells = cs) (hs : R.slots = sl) (hd : decode cc pc = .ok (.return_, 1)) : G X cs sl pc ls [] P := by
  subst hc; subst hs
  intro H locs la hl hP hS
  rw [hR.2.2]
  exact W.vret hX.1 hX.2.1 hR.1 (fun t ht hW => ⟨⟨rfl, by rw [ht]; exact hP⟩, hS.F ht⟩) hS.2.2 hd hR.2.1
theorem cv_sum (b : Nat) (st : List Value) : ((st.map (cv b)).map fun v => v.category).sum = (st.map fun v => v.category).sum := by
  rw [List.map_map]
  congr 2
  funext v
  exact cv_cat b v
/-- behind a call -/
theorem g_after {as : List Value} {r : Option Value} {mc ms : Nat} {a : Array Value}
    (run : ∀ (H : Heap) (locs : List Loc) (la : Array Slot), lv_has la (xn X) (ls.map (cl2 (xE X).1)) → P H → va_S (eA (xE X)) (xs X).heap H locs → va_Run (xp X) (xl X) (xe X) (xR X) (xs X) (xm X) (xa X) (xb X) (xM X) (xc X) H locs cs sl mc ms (F0 (xm X) pc la ((as.reverse ++ st).map (cv (xE X).1))) (st.map (cv (xE X).1)) ((fun _ st oc t => (oc = .returned (r.map (cv (xE X).1)) ∧ P' t.heap) ∧ va_F (eA (xE X)) st t) a) (eA (xE X)))
    (kk : G X (cs + mc) (sl + ms) (pc + 3) ls (r.toList ++ st) P') : G X cs sl pc ls (as.reverse ++ st) P := by
  intro H locs la hl hP hS T hT hX
  obtain ⟨v, st₀, t, T', L, h0, X', hL, e1, e2, ⟨⟨hv, hp⟩, hz, hk⟩, go⟩ := run H locs la hl hP hS T hT hX
  cases hv
  rw [h0] at hz hk
  have hS' : va_S (eA (xE X)) (xs X).heap T'.heap (locs ++ L) := ⟨Nat.le_trans hS.1 (by rw [e1]; exact hz), fun q h1 h2 => by rw [e1, hk q (Nat.lt_of_lt_of_le h1 hS.1) h2]; exact hS.2.1 q h1 h2, fun q hq => by
    rcases List.mem_append.mp hq with h | h
    · exact hS.2.2 q h
    · exact hL q h⟩
  obtain ⟨t2, a1, b1⟩ := kk T'.heap (locs ++ L) la hl (by rw [e1]; exact hp) hS' T' rfl X'
  refine ⟨t2, go t2 ?_, b1⟩
  cases r with
  | none => exact a1
  | some r => exact a1
theorem g_blind {E : ET} {as : List Value} : FrameBlind (va_Pc (as.map (cv E.1)) (fun U => P U.heap ∧ KW E U)) := fun a U g mk q => ⟨q.1, q.2.1, KW.same (s := U) (U := U.calling g mk a) rfl q.2.2⟩
theorem g_pre (hX : Cx X cc nL own Ts R) {as : List Value} {H : Heap} (hP : P H) : ∀ U : State, U.heap = H → (xs X).WarmedH U.vm → va_Pc (as.map (cv (xE X).1)) (fun U => P U.heap ∧ KW (xE X) U) (as.map (cv (xE X).1)).toArray U := fun U hU hW => ⟨rfl, by rw [hU]; exact hP, KW.warm hW hX.kw⟩
theorem g_callS (hX : Cx X cc nL own Ts R) {idx maxL : Nat} {y : MethodName} {bytes : ByteArray} {ret : Option FieldType} {ws ws' : List Cond} {rm : Room} {as : List Value} {r : Option Value} (hC : Ct (xE X) (xl X) y ws rm as P r P') (hg : GoodIn Ts (va_wsS own idx y ws)) (hw : ws = Cond.code y bytes maxL ret :: ws')
    (hna : as.length = na) (hd3 : y.cls ≠ "java/lang/invoke/MethodHandle" ∧ y.cls ≠ "java/lang/invoke/VarHandle" ∧ (parseMethodDescriptor y.desc).map (fun d => d.parameters.length) = some na) (hR : rm.frames + 1 ≤ R.frames ∧ 8 + (maxL + 11) + rm.locals ≤ R.locals) (hst : (st.map fun v => v.category).sum ≤ 8) (hf : cs + rm.cells ≤ R.cells ∧ sl + rm.slots ≤ R.slots)
    (hd : decode cc pc = .ok (.invokestatic idx, 3)) (hcs : cs + rm.cells = cs') (hsl : sl + rm.slots = sl') (kk : G X cs' sl' (pc + 3) ls (r.toList ++ st) P') : G X cs sl pc ls (as.reverse ++ st) P := by
  subst hna; subst hcs; subst hsl
  refine g_after (a := (as.map (cv (xE X).1)).toArray) (fun H locs la hl hP hS => ?_) kk
  exact va_runS (As := as.map (cv (xE X).1)) (rest := st.map (cv (xE X).1)) ⟨hX.1, hX.2.1, hX.2.2.2.1, hX.own, hX.ts⟩ hC (va_cwS as.length hX.ts hg hw rfl rfl hd3 (by rw [hX.rm]; exact hR)) ⟨g_blind, g_pre hX hP⟩ rfl (by rw [List.length_map]) (by rw [← hX.2.2.1]; exact hl.1) (by simp) (lv_room (by rw [cv_sum]; exact hst)) hd (by rw [hX.rm]; exact hf)
theorem g_callSN (hX : Cx X cc nL own Ts R) {idx maxL : Nat} {y : MethodName} {bytes : ByteArray} {ret : Option FieldType} {ws ws' : List Cond} {rm : Room} {as : List Value} {r : Option Value} (hC : Ct (xE X) (xl X) y ws rm as P r P') (hg : GoodIn Ts ws) (hst2 : Cond.static y ∈ Ts) (hini : Cond.initialized y.cls ∈ Ts) (hnest : Cond.methodLinkNest own idx y RX5 ∈ nestW) (hw : ws = Cond.code y bytes maxL ret :: ws')
    (hna : as.length = na) (hd3 : y.cls ≠ "java/lang/invoke/MethodHandle" ∧ y.cls ≠ "java/lang/invoke/VarHandle" ∧ (parseMethodDescriptor y.desc).map (fun d => d.parameters.length) = some na) (hR : rm.frames + 1 ≤ R.frames ∧ 8 + (maxL + 11) + rm.locals ≤ R.locals) (hst : (st.map fun v => v.category).sum ≤ 8) (hf : cs + rm.cells ≤ R.cells ∧ sl + rm.slots ≤ R.slots)
    (hd : decode cc pc = .ok (.invokestatic idx, 3)) (hcs : cs + rm.cells = cs') (hsl : sl + rm.slots = sl') (kk : G X cs' sl' (pc + 3) ls (r.toList ++ st) P') : G X cs sl pc ls (as.reverse ++ st) P := by
  subst hna; subst hcs; subst hsl
  refine g_after (a := (as.map (cv (xE X).1)).toArray) (fun H locs la hl hP hS => ?_) kk
  exact va_runSN (host := RX5) (As := as.map (cv (xE X).1)) (rest := st.map (cv (xE X).1)) ⟨hX.1, hX.2.1, hX.2.2.2.1, hX.own, hX.ts⟩ hC ⟨va_cnB as.length hX.ts hg hw rfl rfl (hX.kw.2.1 _ hnest) (hX.ts _ hini) hd3 (by rw [hX.rm]; exact hR), hX.ts _ hst2, trivial⟩ ⟨g_blind, g_pre hX hP⟩ rfl (by rw [List.length_map]) (by rw [← hX.2.2.1]; exact hl.1) (by simp) (lv_room (by rw [cv_sum]; exact hst)) hd (by rw [hX.rm]; exact hf)
theorem g_callV (hX : Cx X cc nL own Ts R) {n : Nat} {I : MI} {L : ML} {K : MK} {idx maxL ci b : Nat} {C : String} {y : MethodName} {bytes : ByteArray} {ret : Option FieldType} {ws ws' : List Cond} {rm : Room} {as : List Value} {r : Option Value} (hC : Ct (xE X) (xl X) y ws rm (.ref b :: as) P r P') (hPW : ∀ H, P H → HW (xE X) n I L K H) (hb : b < n) (hs : (shp b).1 = ci) (hcl : (vwCl[ci]?).map (fun q => q.1) = some C) (hg : GoodIn Ts (wsV own idx C y ws)) (hw : ws = Cond.code y bytes maxL ret :: ws')
    (hna : as.length = na) (hC2 : y.cls = C) (hd3 : y.cls ≠ "java/lang/invoke/MethodHandle" ∧ y.cls ≠ "java/lang/invoke/VarHandle" ∧ (parseMethodDescriptor y.desc).map (fun d => d.parameters.length) = some na) (hR : rm.frames + 1 ≤ R.frames ∧ 8 + (maxL + 11) + rm.locals ≤ R.locals) (hst : (st.map fun v => v.category).sum ≤ 8) (hf : cs + rm.cells ≤ R.cells ∧ sl + rm.slots ≤ R.slots)
    (hd : decode cc pc = .ok (.invokevirtual idx, 3)) (hcs : cs + rm.cells = cs') (hsl : sl + rm.slots = sl') (kk : G X cs' sl' (pc + 3) ls (r.toList ++ st) P') : G X cs sl pc ls (as.reverse ++ .ref b :: st) P := by
  subst hna; subst hcs; subst hsl
  have e : as.reverse ++ Value.ref b :: st = (Value.ref b :: as).reverse ++ st := by simp
  rw [e]
  refine g_after (a := ((Value.ref b :: as).map (cv (xE X).1)).toArray) (fun H locs la hl hP hS => ?_) kk
  obtain ⟨q, hq, rfl⟩ := Option.map_eq_some_iff.mp hcl
  obtain ⟨-, -, -, -, hci⟩ := cl_ok hq
  exact va_runV (b := (xE X).1 + b) (As := as.map (cv (xE X).1)) (rest := st.map (cv (xE X).1)) ⟨hX.1, hX.2.1, hX.2.2.2.1, hX.own, hX.ts⟩ hC (cwV as.length hX.ts hg hw rfl rfl ⟨hC2, hd3⟩ (by rw [hX.rm]; exact hR)) ⟨g_blind, va_recv hX.kw.1 (hPW H hP) hq (wl_obj hb hs hci), g_pre hX hP⟩ rfl (by rw [List.length_map]) (by rw [← hX.2.2.1]; exact hl.1) (by simp [cv]) (lv_room (by rw [cv_sum]; exact hst)) hd (by rw [hX.rm]; exact hf)
theorem g_callI (hX : Cx X cc nL own Ts R) {idx maxL b : Nat} {y : MethodName} {bytes : ByteArray} {ws ws' : List Cond} {rm : Room} {as : List Value} {r : Option Value} (hC : Ct (xE X) (xl X) y ws rm (.ref b :: as) P r P') (hg : GoodIn Ts ws) (hini : Cond.initialized y.cls ∈ Ts) (hlk : Cond.methodLink own idx y ∈ Ts) (hin : Cond.instanceMethod y ∈ Ts) (hnm : y.name = "<init>") (hw : ws = Cond.code y bytes maxL none :: ws')
    (hna : as.length = na) (hd3 : y.cls ≠ "java/lang/invoke/MethodHandle" ∧ y.cls ≠ "java/lang/invoke/VarHandle" ∧ (parseMethodDescriptor y.desc).map (fun d => d.parameters.length) = some na) (hR : rm.frames + 1 ≤ R.frames ∧ 8 + (maxL + 11) + rm.locals ≤ R.locals) (hst : (st.map fun v => v.category).sum ≤ 8) (hf : cs + rm.cells ≤ R.cells ∧ sl + rm.slots ≤ R.slots)
    (hd : decode cc pc = .ok (.invokespecial idx, 3)) (hcs : cs + rm.cells = cs') (hsl : sl + rm.slots = sl') (kk : G X cs' sl' (pc + 3) ls (r.toList ++ st) P') : G X cs sl pc ls (as.reverse ++ .ref b :: st) P := by
  subst hna; subst hcs; subst hsl
  have e : as.reverse ++ Value.ref b :: st = (Value.ref b :: as).reverse ++ st := by simp
  rw [e]
  refine g_after (a := ((Value.ref b :: as).map (cv (xE X).1)).toArray) (fun H locs la hl hP hS => ?_) kk
  exact va_runI (b := (xE X).1 + b) (As := as.map (cv (xE X).1)) (rest := st.map (cv (xE X).1)) ⟨hX.1, hX.2.1, hX.2.2.2.1, hX.own, hX.ts⟩ hC (cwI as.length hX.ts hg hw rfl rfl (hX.ts _ hini) (hX.ts _ hlk) (hX.ts _ hin) hnm hd3 (by rw [hX.rm]; exact hR)) ⟨g_blind, g_pre hX hP⟩ rfl (by rw [List.length_map]) (by rw [← hX.2.2.1]; exact hl.1) (by simp [cv]) (lv_room (by rw [cv_sum]; exact hst)) hd (by rw [hX.rm]; exact hf)
theorem g_callIN (hX : Cx X cc nL own Ts R) {idx maxL b : Nat} {y : MethodName} {bytes : ByteArray} {ws ws' : List Cond} {rm : Room} {as : List Value} {r : Option Value} (hC : Ct (xE X) (xl X) y ws rm (.ref b :: as) P r P') (hg : GoodIn Ts ws) (hini : Cond.initialized y.cls ∈ Ts) (hnest : Cond.methodLinkNest own idx y RX5 ∈ nestW) (hin : Cond.instanceMethod y ∈ Ts) (hnm : y.name = "<init>") (hw : ws = Cond.code y bytes maxL none :: ws')
    (hna : as.length = na) (hd3 : y.cls ≠ "java/lang/invoke/MethodHandle" ∧ y.cls ≠ "java/lang/invoke/VarHandle" ∧ (parseMethodDescriptor y.desc).map (fun d => d.parameters.length) = some na) (hR : rm.frames + 1 ≤ R.frames ∧ 8 + (maxL + 11) + rm.locals ≤ R.locals) (hst : (st.map fun v => v.category).sum ≤ 8) (hf : cs + rm.cells ≤ R.cells ∧ sl + rm.slots ≤ R.slots)
    (hd : decode cc pc = .ok (.invokespecial idx, 3)) (hcs : cs + rm.cells = cs') (hsl : sl + rm.slots = sl') (kk : G X cs' sl' (pc + 3) ls (r.toList ++ st) P') : G X cs sl pc ls (as.reverse ++ .ref b :: st) P := by
  subst hna; subst hcs; subst hsl
  have e : as.reverse ++ Value.ref b :: st = (Value.ref b :: as).reverse ++ st := by simp
  rw [e]
  refine g_after (a := ((Value.ref b :: as).map (cv (xE X).1)).toArray) (fun H locs la hl hP hS => ?_) kk
  exact va_runIN (host := RX5) (b := (xE X).1 + b) (As := as.map (cv (xE X).1)) (rest := st.map (cv (xE X).1)) ⟨hX.1, hX.2.1, hX.2.2.2.1, hX.own, hX.ts⟩ hC ⟨va_cnB as.length hX.ts hg hw rfl rfl (hX.kw.2.1 _ hnest) (hX.ts _ hini) hd3 (by rw [hX.rm]; exact hR), hnm, hX.ts _ hin⟩ ⟨g_blind, g_pre hX hP⟩ rfl (by rw [List.length_map]) (by rw [← hX.2.2.1]; exact hl.1) (by simp [cv]) (lv_room (by rw [cv_sum]; exact hst)) hd (by rw [hX.rm]; exact hf)
end
