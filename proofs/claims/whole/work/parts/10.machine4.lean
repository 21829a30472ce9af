/-! Math.min, Math.max; making cells. -/
section
variable {X : XT} {cc : ByteArray} {nL : Nat} {own : String} {Ts : List Cond} {R : Room} {cs sl pc : Nat} {ls ls' : List (Nat × Value)} {st : List Value} {P : Heap → Prop} {n : Nat} {I : MI} {L : ML} {K : MK}
theorem g_mmax (hX : Cx X cc nL own Ts R) {idx : Nat} {x y : Int32} (h1 : Cond.methodLink own idx Lib.Math.max.name ∈ Ts) (h2 : Cond.static Lib.Math.max.name ∈ Ts) (h3 : Cond.initialized "java/lang/Math" ∈ Ts) (h4 : Cond.code Lib.Math.max.name Lib.Math.max.code 2 (some .int) ∈ Ts) (hR1 : 1 ≤ R.frames) (hR2 : (st.map fun v => v.category).sum + 13 ≤ R.locals) (hR3 : cs ≤ R.cells) (hR4 : sl ≤ R.slots) (hd : decode cc pc = .ok (.invokestatic idx, 3)) (kk : G X cs sl (pc + 3) ls (.int (if x < y then y else x) :: st) P) : G X cs sl pc ls (.int y :: .int x :: st) P := fun H locs la hl hP hS => va_mmax hX.1 hX.2.1 (by rw [hX.2.2.2.1, ← hX.2.2.1]; exact hl.1.symm) hX.own (hX.ts _ h1) (hX.ts _ h2) (hX.ts _ h3) (hX.ts _ h4) (by rw [hX.rm]; exact hR1) (by rw [hX.rm, cv_sum]; exact hR2) (by rw [hX.rm]; exact hR3) (by rw [hX.rm]; exact hR4) hd (kk H locs la hl hP hS)
theorem g_mmin (hX : Cx X cc nL own Ts R) {idx : Nat} {x y : Int32} (h1 : Cond.methodLink own idx Lib.Math.min.name ∈ Ts) (h2 : Cond.static Lib.Math.min.name ∈ Ts) (h3 : Cond.initialized "java/lang/Math" ∈ Ts) (h4 : Cond.code Lib.Math.min.name Lib.Math.min.code 2 (some .int) ∈ Ts) (hR1 : 1 ≤ R.frames) (hR2 : (st.map fun v => v.category).sum + 13 ≤ R.locals) (hR3 : cs ≤ R.cells) (hR4 : sl ≤ R.slots) (hd : decode cc pc = .ok (.invokestatic idx, 3)) (kk : G X cs sl (pc + 3) ls (.int (if y < x then y else x) :: st) P) : G X cs sl pc ls (.int y :: .int x :: st) P := fun H locs la hl hP hS => va_mmin hX.1 hX.2.1 (by rw [hX.2.2.2.1, ← hX.2.2.1]; exact hl.1.symm) hX.own (hX.ts _ h1) (hX.ts _ h2) (hX.ts _ h3) (hX.ts _ h4) (by rw [hX.rm]; exact hR1) (by rw [hX.rm, cv_sum]; exact hR2) (by rw [hX.rm]; exact hR3) (by rw [hX.rm]; exact hR4) hd (kk H locs la hl hP hS)
theorem g_objInit (hX : Cx X cc nL own Ts R) {idx b : Nat} (h1 : Cond.methodLink own idx objectInit ∈ Ts) (h2 : Cond.instanceMethod objectInit ∈ Ts) (h3 : Cond.code objectInit ⟨#[0xb1]⟩ 1 none ∈ Ts) (hR1 : 1 ≤ R.frames) (hR2 : (st.map fun v => v.category).sum + 12 ≤ R.locals) (hd : decode cc pc = .ok (.invokespecial idx, 3)) (kk : G X cs sl (pc + 3) ls st P) : G X cs sl pc ls (.ref b :: st) P := fun H locs la hl hP hS => W.objInit hX.1 hX.2.1 hX.own (hX.ts _ h1) (hX.ts _ h2) (hX.ts _ h3) rfl (by rw [hX.2.2.2.1, ← hX.2.2.1]; exact hl.1) rfl hd (by rw [hX.rm]; exact hR1) (by
  rw [hX.rm, cv_sum]
  show 2 * 0 + _ + 12 ≤ _
  omega) (kk H locs la hl hP hS)
theorem cl_dflt {ci : Nat} {q : vw_C} (h : vwCl[ci]? = some q) : ∃ ty : Nat → FieldType, (∀ k, k < q.2.2 → parseFieldDescriptor (q.2.1 k).2.2.1 = some (ty k)) ∧ ∀ k, k < q.2.2 → ((fkL ci)[k]?).map (fun t => fv 0 (fun _ => 0) (fun _ => 0) (fun _ => none) t k) = some (defaultValue (ty k)) := by
  match ci, h with
  | 0, h => cases h; exact ⟨tyX0, tyX0_ok, by decide +kernel⟩
  | 1, h => cases h; exact ⟨tyX1, tyX1_ok, by decide +kernel⟩
  | 2, h => cases h; exact ⟨tyX2, tyX2_ok, by decide +kernel⟩
  | 3, h => cases h; exact ⟨tyX3, tyX3_ok, by decide +kernel⟩
  | 4, h => cases h; exact ⟨tyX4, tyX4_ok, by decide +kernel⟩
  | 5, h => cases h; exact ⟨tyX5, tyX5_ok, by decide +kernel⟩
  | 6, h => cases h; exact ⟨tyX6, tyX6_ok, by decide +kernel⟩
  | n + 7, h => simp [vwCl] at h
theorem fv_zero {b b' t k k' : Nat} {f : Nat → Int32} {g : Nat → Int64} {h : Nat → Option Nat} (hf : ∀ k, f k = 0) (hg : ∀ k, g k = 0) (hh : ∀ k, h k = none) : fv b f g h t k = fv b' (fun _ => 0) (fun _ => 0) (fun _ => none) t k' := by
  unfold fv
  split <;> simp [hf, hg, hh]
theorem HC_push {E : ET} {H H1 : Heap} (h : HC E n I L K H) (z : H1.size = E.1 + n + 1) (o : ∀ q, q < E.1 + n → H1[q]? = H[q]?) (hat : va_at (eD E) vwCl (E.1 + n, cellE E I L K n) H1) : HC E (n + 1) I L K H1 := by
  refine ⟨HW.of fun r hr => ?_, by omega⟩
  by_cases e : r = n
  · rw [e]; exact hat
  · have hr' : r < n := by omega
    exact (h.1.at hr').kept (o _ (show E.1 + r < E.1 + n by omega))
theorem vaS_push {A : Nat → Prop} {H0 H H1 : Heap} {locs : List Loc} (hS : va_S A H0 H locs) (z : H1.size = H.size + 1) (o : ∀ q, q < H.size → H1[q]? = H[q]?) : va_S A H0 H1 locs := ⟨Nat.le_trans hS.1 (by omega), fun q h1 h2 => (o q (Nat.lt_of_lt_of_le h1 hS.1)).trans (hS.2.1 q h1 h2), hS.2.2⟩
theorem g_new (hX : Cx X cc nL own Ts R) {idx ci N : Nat} {C : String} {T : u_T} (hc : vwCl[ci]? = some (C, T, N)) (hs : (shp n).1 = ci) (hin : ∀ w ∈ u_ws C T N, w ∈ Ts) (h1 : Cond.classLink own idx C ∈ Ts) (h2 : Cond.instantiable C N ∈ Ts) (h3 : Cond.initialized C ∈ Ts) (hI : ∀ k, I n k = 0) (hL : ∀ k, L n k = 0) (hK : ∀ k, K n k = none) (hR1 : cs + 1 ≤ R.cells) (hR2 : sl + N ≤ R.slots) (hd : decode cc pc = .ok (.new idx, 3))
    (kk : G X (cs + 1) (sl + N) (pc + 3) ls (.ref n :: st) (HC (xE X) (n + 1) I L K)) : G X cs sl pc ls st (HC (xE X) n I L K) := by
  obtain ⟨-, -, -, hlen, hci⟩ := cl_ok hc
  obtain ⟨ty, hty, hdf⟩ := cl_dflt hc
  intro H locs la hl hP hS
  have hKn := hX.kw.1.1 ci _ hc
  refine W.newcK hX.1 hX.2.1 hX.own (hX.ts _ h1) (hX.ts _ h2) (hX.ts _ h3) rfl hd (by rw [hX.rm]; exact hR1) (by rw [hX.rm]; exact hR2) hKn.2.1 hP.2 fun H1 kC hkC e1 z1 o1 => ?_
  refine kk H1 locs la hl (HC_push hP z1 o1 ?_) (vaS_push hS (by rw [z1, hP.2]) (by rw [hP.2]; exact o1))
  have e : cellE (xE X) I L K n = .inr (ci, flds (xE X).1 (I n) (L n) (K n) 0 (fkL ci)) := by
    subst hs
    simp [cellE, cellK, hci]
  rw [e]
  refine ⟨_, hc, (u_born ty hX.ts hin hKn hkC e1 hty).to (fun k hk => ?_)⟩
  have h5 := hdf k hk
  obtain ⟨t, ht, h6⟩ := Option.map_eq_some_iff.mp h5
  show defaultValue (ty k) = (flds (xE X).1 (I n) (L n) (K n) 0 (fkL ci)).getD k .null
  rw [List.getD_eq_getElem?_getD, flds_get _ 0 k t ht, Option.getD_some, ← h6]
  exact (fv_zero hI hL hK).symm
theorem arr_same {U : State} {cA cB : ClassId} {ty : FieldType} (h1 : U.vm.findClass ("[" ++ ty.toString) = some cA) (h2 : U.vm.findClass ("[" ++ ty.toString) = some cB) : cA = cB := Option.some.inj (h1.symm.trans h2)
theorem g_newI (hX : Cx X cc nL own Ts R) {len : Nat} {x : Int32} (hs : shp n = (7, len)) (hI : ∀ k, I n k = 0) (h1 : Cond.arrayClass .int ∈ Ts) (hx : ¬ x < 0) (hN : x.toNatClampNeg = len) (hb : len * 4 ≤ 536870912) (hR1 : cs + 1 ≤ R.cells) (hR2 : sl + len ≤ R.slots) (hd : decode cc pc = .ok (.newarray .int, 2))
    (kk : G X (cs + 1) (sl + len) (pc + 2) ls (.ref n :: st) (HC (xE X) (n + 1) I L K)) : G X cs sl pc ls (.int x :: st) (HC (xE X) n I L K) := by
  intro H locs la hl hP hS
  refine va_newaK (atype := .int) hX.1 hX.2.1 (hX.ts _ h1) rfl hd rfl hx hN hb (by rw [hX.rm]; exact hR1) (by rw [hX.rm]; exact hR2) hP.2 fun H1 cA e1 z1 o1 hAr hNm => ?_
  have hcA : cA = (xE X).2.2.2 0 := arr_same hNm (hX.kw.1.2 0 _ rfl).2
  subst hcA
  refine kk H1 locs la hl (HC_push hP z1 o1 ?_) (vaS_push hS (by rw [z1, hP.2]) (by rw [hP.2]; exact o1))
  have e : cellE (xE X) I L K n = .inl ((xE X).2.2.2 0, len, .inl (I n)) := by simp [cellE, cellK, hs]
  rw [e]
  show H1[(xE X).1 + n]? = some (arrV _ _ (fun j => .int (I n j)))
  rw [e1]
  congr 2
  funext k
  rw [hI]
  rfl
theorem g_newB (hX : Cx X cc nL own Ts R) {len : Nat} {x : Int32} (hs : shp n = (8, len)) (hI : ∀ k, I n k = 0) (h1 : Cond.arrayClass .byte ∈ Ts) (hx : ¬ x < 0) (hN : x.toNatClampNeg = len) (hb : len * 1 ≤ 536870912) (hR1 : cs + 1 ≤ R.cells) (hR2 : sl + len ≤ R.slots) (hd : decode cc pc = .ok (.newarray .byte, 2))
    (kk : G X (cs + 1) (sl + len) (pc + 2) ls (.ref n :: st) (HC (xE X) (n + 1) I L K)) : G X cs sl pc ls (.int x :: st) (HC (xE X) n I L K) := by
  intro H locs la hl hP hS
  refine va_newaK (atype := .byte) hX.1 hX.2.1 (hX.ts _ h1) rfl hd rfl hx hN hb (by rw [hX.rm]; exact hR1) (by rw [hX.rm]; exact hR2) hP.2 fun H1 cA e1 z1 o1 hAr hNm => ?_
  have hcA : cA = (xE X).2.2.2 1 := arr_same hNm (hX.kw.1.2 1 _ rfl).2
  subst hcA
  refine kk H1 locs la hl (HC_push hP z1 o1 ?_) (vaS_push hS (by rw [z1, hP.2]) (by rw [hP.2]; exact o1))
  have e : cellE (xE X) I L K n = .inl ((xE X).2.2.2 1, len, .inl (I n)) := by simp [cellE, cellK, hs]
  rw [e]
  show H1[(xE X).1 + n]? = some (arrV _ _ (fun j => .int (I n j)))
  rw [e1]
  congr 2
  funext k
  rw [hI]
  rfl
theorem g_newL (hX : Cx X cc nL own Ts R) {len : Nat} {x : Int32} (hs : shp n = (9, len)) (hI : ∀ k, L n k = 0) (h1 : Cond.arrayClass .long ∈ Ts) (hx : ¬ x < 0) (hN : x.toNatClampNeg = len) (hb : len * 8 ≤ 536870912) (hR1 : cs + 1 ≤ R.cells) (hR2 : sl + len ≤ R.slots) (hd : decode cc pc = .ok (.newarray .long, 2))
    (kk : G X (cs + 1) (sl + len) (pc + 2) ls (.ref n :: st) (HC (xE X) (n + 1) I L K)) : G X cs sl pc ls (.int x :: st) (HC (xE X) n I L K) := by
  intro H locs la hl hP hS
  refine va_newaK (atype := .long) hX.1 hX.2.1 (hX.ts _ h1) rfl hd rfl hx hN hb (by rw [hX.rm]; exact hR1) (by rw [hX.rm]; exact hR2) hP.2 fun H1 cA e1 z1 o1 hAr hNm => ?_
  have hcA : cA = (xE X).2.2.2 2 := arr_same hNm (hX.kw.1.2 2 _ rfl).2
  subst hcA
  refine kk H1 locs la hl (HC_push hP z1 o1 ?_) (vaS_push hS (by rw [z1, hP.2]) (by rw [hP.2]; exact o1))
  have e : cellE (xE X) I L K n = .inl ((xE X).2.2.2 2, len, .inr (.inl (L n))) := by simp [cellE, cellK, hs]
  rw [e]
  show H1[(xE X).1 + n]? = some (arrV _ _ (fun j => .long (L n j)))
  rw [e1]
  congr 2
  funext k
  rw [hI]
  rfl
theorem g_newR (hX : Cx X cc nL own Ts R) {idx len : Nat} {x : Int32} (hs : shp n = (10, len)) (hK : ∀ k, K n k = none) (h1 : Cond.classLink own idx RX0 ∈ Ts) (hx : ¬ x < 0) (hN : x.toNatClampNeg = len) (hb : len * 4 ≤ 536870912) (hR1 : cs + 1 ≤ R.cells) (hR2 : sl + len ≤ R.slots) (hd : decode cc pc = .ok (.anewarray idx, 3))
    (kk : G X (cs + 1) (sl + len) (pc + 3) ls (.ref n :: st) (HC (xE X) (n + 1) I L K)) : G X cs sl pc ls (.int x :: st) (HC (xE X) n I L K) := by
  subst hN
  intro H locs la hl hP hS
  refine W.anew hX.1 hX.2.1 hX.own (hX.ts _ h1) (va_AO.use hX.kw.2.2) rfl hd rfl hx hb (by rw [hX.rm]; exact hR1) (by rw [hX.rm]; exact hR2) fun cA kA comp f1 f2 f3 f4 => ?_
  have hcA : cA = (xE X).2.2.2 3 := by
    obtain ⟨kB, compB, k1, k2, k3, k4⟩ := (hX.kw.1.2 3 _ rfl).2
    exact Option.some.inj (f1.symm.trans k4)
  subst hcA
  have z1 : (H.push ({ cls := (xE X).2.2.2 3, slots := Array.replicate x.toNatClampNeg .null, vm := .none } : Cell)).size = H.size + 1 := by rw [Array.size_push]
  have e1 : (H.push ({ cls := (xE X).2.2.2 3, slots := Array.replicate x.toNatClampNeg .null, vm := .none } : Cell))[H.size]? = some (arrV ((xE X).2.2.2 3) x.toNatClampNeg (fun _ => .null)) := by rw [Array.getElem?_push_size, ← arrV_new]
  have o1 : ∀ q : Nat, q < H.size → (H.push ({ cls := (xE X).2.2.2 3, slots := Array.replicate x.toNatClampNeg .null, vm := .none } : Cell))[q]? = H[q]? := fun q hq => by rw [Array.getElem?_push, if_neg (Nat.ne_of_lt hq)]
  rw [hP.2] at z1 e1 o1
  have k0 := kk _ locs la hl (HC_push hP z1 o1 (by
    have e : cellE (xE X) I L K n = .inl ((xE X).2.2.2 3, x.toNatClampNeg, .inr (.inr (.inr (.inr (fun k => (K n k).map (fun r => (xE X).1 + r)))))) := by simp [cellE, cellK, hs]
    rw [e]
    show _ = some (arrV _ _ (fun j => va_rf ((K n j).map (fun r => (xE X).1 + r))))
    dsimp only
    rw [e1]
    congr 2
    funext k
    rw [hK]
    rfl)) (vaS_push hS (by rw [z1, hP.2]) (by rw [hP.2]; exact o1))
  rw [hP.2]
  exact k0
/-- one cell of the world is written: the rest stands -/
theorem HC_set {E : ET} {H H1 : Heap} {I' : MI} {L' : ML} {K' : MK} {r : Nat} (h : HC E n I L K H) (hr : r < n) (z : H1.size = H.size) (o : ∀ q, q ≠ E.1 + r → H1[q]? = H[q]?) (hat : va_at (eD E) vwCl (E.1 + r, cellE E I' L' K' r) H1) (hsame : ∀ q, q ≠ r → cellE E I L K q = cellE E I' L' K' q) : HC E n I' L' K' H1 := by
  refine ⟨HW.of fun q hq => ?_, by rw [z]; exact h.2⟩
  by_cases e : q = r
  · rw [e]; exact hat
  · rw [← hsame q e]
    exact (h.1.at hq).kept (o _ (show E.1 + q ≠ E.1 + r by omega))
theorem g_putR (hX : Cx X cc nL own Ts R) (hin : (xM X).name = "<init>") {idx ci k r v : Nat} {ty : FieldType} (hf : FPt own idx ci k true ty Ts) (hr : r < n) (hs : (shp r).1 = ci) (ht : (fkL ci)[k]? = some 2) (hn : ∀ a : Nat, narrow ty (.ref a) = .ref a) (hfit : ∀ a : Nat, fits ty (.ref a) = true) (hd : decode cc pc = .ok (.putfield idx, 3)) (kk : G X cs sl (pc + 3) ls st (HC (xE X) n I L (upK K r k (some v)))) : G X cs sl pc ls (.ref v :: .ref r :: st) (HC (xE X) n I L K) := by
  obtain ⟨⟨C, T, N⟩, hc, hinT, hk, hl, hfin, hty, hdecl⟩ := hf
  obtain ⟨ty0, h1, h2, h3, hci⟩ := cl_ok hc
  intro H locs la hla hP hS
  have hap := va_apart (own := own) hX.ts hinT ty0 h1 h2 hX.kw.1 hc
  have hcell := hP.1.at hr
  have ecell : cellE (xE X) I L K r = .inr (ci, flds (xE X).1 (I r) (L r) (K r) 0 (fkL ci)) := by
    subst hs
    simp [cellE, cellK, hci]
  rw [ecell] at hcell
  obtain ⟨r', hr', cell, q1, q2, q3, q4⟩ := hcell
  have hrr : r' = (C, T, N) := Option.some.inj (hr'.symm.trans hc)
  subst hrr
  obtain ⟨hSl, hfc, kC, hkC, hkind⟩ := hX.kw.1.1 ci _ hc
  obtain ⟨cf, kf, fi, f, hi, hsl⟩ := hSl k hk
  have hlay := hX.ts _ (hinT _ (u_in_lay hk))
  unfold u_lay at hlay
  rw [if_pos hfin] at hlay
  have hst := (u_facts hfc hkC (u_lays hX.ts hinT hk) hi).1
  have hcf : (xm X).cls = cf := by
    obtain ⟨_, _, c', _, _, _, -, -, hf', -, -, -, hown2, -⟩ := Cond.laysFinal_spec hlay
    have e1 : c' = cf := by have := hi.symm.trans hf'; simp at this; exact this.1.symm
    dsimp only at hdecl
    rw [hdecl] at hown2
    rw [← e1]; exact Option.some.inj (hX.own.symm.trans hown2)
  have h6 := u_fits (v := .ref ((xE X).1 + v)) hfc hkC hkind (Or.inr hlay) hi hty (hn _) (hfit _)
  refine W.putFinK (v := .ref ((xE X).1 + v)) hX.1 hX.2.1 hX.own (hX.ts _ hl) hi hst hcf hin (by rw [q2]; exact h6) q1 q3 (by rw [hsl]; exact k2_hasslot (q4 k hk)) rfl rfl hd fun H1 e1 e2 e3 => ?_
  refine kk H1 _ la hla (HC_set hP hr e2 e3 ?_ (fun q hq => by simp [cellE, upK_R hq])) (hS.put e2 e3 (show eA (xE X) ((xE X).1 + r) from Nat.le_add_right _ _))
  have ecell2 : cellE (xE X) I L (upK K r k (some v)) r = .inr (ci, flds (xE X).1 (I r) (L r) (upK K r k (some v) r) 0 (fkL ci)) := by
    subst hs
    simp [cellE, cellK, hci]
  rw [ecell2]
  rw [hsl] at e1
  refine ⟨_, hc, t_OB.to (V := updV (vp_V (flds (xE X).1 (I r) (L r) (K r) 0 (fkL ci))) k (.ref ((xE X).1 + v))) ⟨_, e1, q2, q3, t_set q4 hap hk _⟩ (fun j _ => ?_)⟩
  rw [vp_updV_set (by rw [flds_len, ← h3]; exact hk)]
  rw [flds_set (f' := I r) (g' := L r) (h' := upK K r k (some v) r) (fkL ci) 0 k 2 ht (by simp [fv, upK, va_rf]) (fun t i hi => by
    rw [Nat.zero_add] at hi
    simp [fv, upK, hi])]
theorem g_putI0 (hX : Cx X cc nL own Ts R) {idx ci k r : Nat} {x : Int32} (hf : FPt own idx ci k false .int Ts) (hr : r < n) (hs : (shp r).1 = ci) (ht : (fkL ci)[k]? = some 0) (hd : decode cc pc = .ok (.putfield idx, 3)) (kk : G X cs sl (pc + 3) ls st (HC (xE X) n (upI I r k x) L K)) : G X cs sl pc ls (.int x :: .ref r :: st) (HC (xE X) n I L K) := by
  obtain ⟨⟨C, T, N⟩, hc, hinT, hk, hl, hfin, hty, -⟩ := hf
  obtain ⟨ty0, h1, h2, h3, hci⟩ := cl_ok hc
  intro H locs la hla hP hS
  have hap := va_apart (own := own) hX.ts hinT ty0 h1 h2 hX.kw.1 hc
  have hcell := hP.1.at hr
  have ecell : cellE (xE X) I L K r = .inr (ci, flds (xE X).1 (I r) (L r) (K r) 0 (fkL ci)) := by
    subst hs
    simp [cellE, cellK, hci]
  rw [ecell] at hcell
  obtain ⟨r', hr', cell, q1, q2, q3, q4⟩ := hcell
  have hrr : r' = (C, T, N) := Option.some.inj (hr'.symm.trans hc)
  subst hrr
  obtain ⟨hSl, hfc, kC, hkC, hkind⟩ := hX.kw.1.1 ci _ hc
  obtain ⟨cf, kf, fi, f, hi, hsl⟩ := hSl k hk
  have hlay := hX.ts _ (hinT _ (u_in_lay hk))
  unfold u_lay at hlay
  rw [if_neg (by rw [hfin]; decide)] at hlay
  have hst := (u_facts hfc hkC (u_lays hX.ts hinT hk) hi).1
  have h6 := u_store (v := .int x) hfc hkC hkind hlay hi hty rfl rfl
  refine W.putK (v := .int x) hX.1 hX.2.1 (f := f) ⟨hX.own, hX.ts _ hl, ⟨_, _, _, hi⟩, hst⟩ (by rw [q2]; exact h6) q1 q3 (by rw [hsl]; exact k2_hasslot (q4 k hk)) rfl rfl hd fun H1 e1 e2 e3 => ?_
  refine kk H1 _ la hla (HC_set hP hr e2 e3 ?_ (fun q hq => by simp [cellE, upI_R hq])) (hS.put e2 e3 (show eA (xE X) ((xE X).1 + r) from Nat.le_add_right _ _))
  have ecell2 : cellE (xE X) (upI I r k x) L K r = .inr (ci, flds (xE X).1 (upI I r k x r) (L r) (K r) 0 (fkL ci)) := by
    subst hs
    simp [cellE, cellK, hci]
  rw [ecell2]
  rw [hsl] at e1
  refine ⟨_, hc, t_OB.to (V := updV (vp_V (flds (xE X).1 (I r) (L r) (K r) 0 (fkL ci))) k (.int x)) ⟨_, e1, q2, q3, t_set q4 hap hk _⟩ (fun j _ => ?_)⟩
  rw [vp_updV_set (by rw [flds_len, ← h3]; exact hk)]
  rw [flds_set (f' := upI I r k x r) (g' := L r) (h' := K r) (fkL ci) 0 k 0 ht (by simp [fv, upI]) (fun t i hi => by
    rw [Nat.zero_add] at hi
    simp [fv, upI, hi])]
theorem g_aast0 (hX : Cx X cc nL own Ts R) {r len v : Nat} {i : Int32} (hr : r < n) (hs : shp r = (10, len)) (hv : v < n) (hvs : (shp v).1 = 0) (hin : vp_in i len) (hd : decode cc pc = .ok (.aastore, 1)) (kk : G X cs sl (pc + 1) ls st (HC (xE X) n I L (upK K r i.toNatClampNeg (some v)))) : G X cs sl pc ls (.ref v :: .int i :: .ref r :: st) (HC (xE X) n I L K) := by
  intro H locs la hla hP hS
  have hlt : i.toNatClampNeg < len := Nat.not_le.mp fun q => hin (Or.inr q)
  have h0 : ¬ i < 0 := fun q => hin (Or.inl q)
  have hcv := hP.1.at hv
  have ecv : cellE (xE X) I L K v = .inr (0, flds (xE X).1 (I v) (L v) (K v) 0 (fkL 0)) := by
    unfold cellE cellK
    rw [hvs]
    rfl
  rw [ecv] at hcv
  obtain ⟨r', hr', cellV, g1, g2, g3, -⟩ := hcv
  have hca := hP.1.at hr
  have eca : cellE (xE X) I L K r = .inl ((xE X).2.2.2 3, len, .inr (.inr (.inr (.inr (fun k => (K r k).map (fun q => (xE X).1 + q)))))) := by simp [cellE, cellK, hs]
  rw [eca] at hca
  have hcls := (hX.kw.1.1 0 _ rfl).2
  obtain ⟨kA, comp, k1, k2, k3, -⟩ := (hX.kw.1.2 3 _ rfl).2
  have hcomp : comp = (xE X).2.1 0 := Option.some.inj (k3.symm.trans hcls.1)
  subst hcomp
  obtain ⟨kC, hkC, -⟩ := hcls.2
  refine W.aast (cell := arrV ((xE X).2.2.2 3) len (fun k => va_rf ((K r k).map (fun q => (xE X).1 + q)))) hX.1 hX.2.1 hca (fun q h => by cases h) (fun h => by cases h) k1 k2 rfl hkC ⟨h0, by rw [arrV_size]; exact hlt⟩ g1 (fun q h => by rw [g3] at h; cases h) (by rw [g2]; exact hkC) (by rw [g2]; exact va_assign hcls) rfl rfl hd fun H1 e z oq => ?_
  refine kk H1 _ la hla (HC_set hP hr z oq ?_ (fun q hq => by simp [cellE, upK_R hq])) (hS.put z oq (show eA (xE X) ((xE X).1 + r) from Nat.le_add_right _ _))
  have e2 : cellE (xE X) I L (upK K r i.toNatClampNeg (some v)) r = .inl ((xE X).2.2.2 3, len, .inr (.inr (.inr (.inr (fun k => (upK K r i.toNatClampNeg (some v) r k).map (fun q => (xE X).1 + q)))))) := by simp [cellE, cellK, hs]
  rw [e2]
  show H1[(xE X).1 + r]? = some (arrV _ _ (fun j => va_rf ((upK K r i.toNatClampNeg (some v) r j).map (fun q => (xE X).1 + q))))
  rw [e, arrV_store]
  congr 2
  funext q
  by_cases hq : q = i.toNatClampNeg
  · subst hq
    simp [updV, upK, va_rf]
  · simp [updV, upK, hq]
end
