/-! Memory, calls, contracts. -/
theorem cl_ok {ci : Nat} {q : vw_C} (h : vwCl[ci]? = some q) : ∃ ty : Nat → FieldType, (∀ k, k < q.2.2 → parseFieldDescriptor (q.2.1 k).2.2.1 = some (ty k)) ∧ (∀ a, a < q.2.2 → ∀ b, b < q.2.2 → a ≠ b → (q.2.1 a).2.1 ≠ (q.2.1 b).2.1) ∧ q.2.2 = (fkL ci).length ∧ ci < 7 := by
  match ci, h with
  | 0, h => cases h; exact ⟨tyX0, tyX0_ok, nmX0, rfl, by decide⟩
  | 1, h => cases h; exact ⟨tyX1, tyX1_ok, nmX1, rfl, by decide⟩
  | 2, h => cases h; exact ⟨tyX2, tyX2_ok, nmX2, rfl, by decide⟩
  | 3, h => cases h; exact ⟨tyX3, tyX3_ok, nmX3, rfl, by decide⟩
  | 4, h => cases h; exact ⟨tyX4, tyX4_ok, nmX4, rfl, by decide⟩
  | 5, h => cases h; exact ⟨tyX5, tyX5_ok, nmX5, rfl, by decide⟩
  | 6, h => cases h; exact ⟨tyX6, tyX6_ok, nmX6, rfl, by decide⟩
  | n + 7, h => simp [vwCl] at h
/-- a field that a method's words link: pool index, class number, slot -/
def FL (own : String) (idx ci k : Nat) (Ts : List Cond) : Prop := ∃ q : vw_C, vwCl[ci]? = some q ∧ (∀ w ∈ u_ws q.1 q.2.1 q.2.2, w ∈ Ts) ∧ k < q.2.2 ∧ Cond.fieldLink own idx (q.2.1 k).1 (q.2.1 k).2.1 (q.2.1 k).2.2.1 ∈ Ts
def FPt (own : String) (idx ci k : Nat) (fin : Bool) (ty : FieldType) (Ts : List Cond) : Prop := ∃ q : vw_C, vwCl[ci]? = some q ∧ (∀ w ∈ u_ws q.1 q.2.1 q.2.2, w ∈ Ts) ∧ k < q.2.2 ∧ Cond.fieldLink own idx (q.2.1 k).1 (q.2.1 k).2.1 (q.2.1 k).2.2.1 ∈ Ts ∧ (q.2.1 k).2.2.2 = fin ∧ parseFieldDescriptor (q.2.1 k).2.2.1 = some ty ∧ (q.2.1 k).1 = own
theorem Cx.ts {X : XT} {cc : ByteArray} {nL : Nat} {own : String} {Ts : List Cond} {R : Room} (h : Cx X cc nL own Ts R) : ∀ w ∈ Ts, w.before (xa X) (xs X) = true := h.2.2.2.2.2.1
theorem Cx.own {X : XT} {cc : ByteArray} {nL : Nat} {own : String} {Ts : List Cond} {R : Room} (h : Cx X cc nL own Ts R) : (xs X).vm.findClass own = some (xm X).cls := h.2.2.2.2.1
theorem Cx.kw {X : XT} {cc : ByteArray} {nL : Nat} {own : String} {Ts : List Cond} {R : Room} (h : Cx X cc nL own Ts R) : KW (xE X) (xs X) := h.2.2.2.2.2.2.2
theorem Cx.rm {X : XT} {cc : ByteArray} {nL : Nat} {own : String} {Ts : List Cond} {R : Room} (h : Cx X cc nL own Ts R) : xR X = R := h.2.2.2.2.2.2.1
theorem wl_obj {E : ET} {n : Nat} {I : MI} {L : ML} {K : MK} {r ci : Nat} (hr : r < n) (hs : (shp r).1 = ci) (hc : ci < 7) : (wl E n I L K)[r]? = some (E.1 + r, .inr (ci, flds E.1 (I r) (L r) (K r) 0 (fkL ci))) := by
  rw [wl_get hr]
  subst hs
  simp [cellE, cellK, hc]
theorem wl_ints {E : ET} {n : Nat} {I : MI} {L : ML} {K : MK} {r len : Nat} (hr : r < n) (hs : shp r = (7, len)) : (wl E n I L K)[r]? = some (E.1 + r, .inl (E.2.2.2 0, len, .inl (I r))) := by
  rw [wl_get hr]
  simp [cellE, cellK, hs]
theorem wl_bytes {E : ET} {n : Nat} {I : MI} {L : ML} {K : MK} {r len : Nat} (hr : r < n) (hs : shp r = (8, len)) : (wl E n I L K)[r]? = some (E.1 + r, .inl (E.2.2.2 1, len, .inl (I r))) := by
  rw [wl_get hr]
  simp [cellE, cellK, hs]
theorem wl_longs {E : ET} {n : Nat} {I : MI} {L : ML} {K : MK} {r len : Nat} (hr : r < n) (hs : shp r = (9, len)) : (wl E n I L K)[r]? = some (E.1 + r, .inl (E.2.2.2 2, len, .inr (.inl (L r)))) := by
  rw [wl_get hr]
  simp [cellE, cellK, hs]
theorem wl_refs {E : ET} {n : Nat} {I : MI} {L : ML} {K : MK} {r len : Nat} (hr : r < n) (hs : shp r = (10, len)) : (wl E n I L K)[r]? = some (E.1 + r, .inl (E.2.2.2 3, len, .inr (.inr (.inr (.inr (fun k => (K r k).map (fun q => E.1 + q))))))) := by
  rw [wl_get hr]
  simp [cellE, cellK, hs]
section
variable {X : XT} {cc : ByteArray} {nL : Nat} {own : String} {Ts : List Cond} {R : Room} {cs sl pc : Nat} {ls ls' : List (Nat × Value)} {st : List Value} {P : Heap → Prop} {n : Nat} {I : MI} {L : ML} {K : MK}
theorem g_get0 (hX : Cx X cc nL own Ts R) (hPW : ∀ H, P H → HW (xE X) n I L K H) {idx ci k r t : Nat} (hf : FL own idx ci k Ts) (hr : r < n) (hs : (shp r).1 = ci) (ht : (fkL ci)[k]? = some t) (hd : decode cc pc = .ok (.getfield idx, 3)) {v : Value} (hv : fv (xE X).1 (I r) (L r) (K r) t k = cv (xE X).1 v) (kk : G X cs sl (pc + 3) ls (v :: st) P) : G X cs sl pc ls (.ref r :: st) P := by
  obtain ⟨⟨C, T, N⟩, hc, hin, hk, hl⟩ := hf
  obtain ⟨-, -, -, -, hci⟩ := cl_ok hc
  intro H locs la hla hP hS
  refine va_get (D := eD (xE X)) (cl := vwCl) (ci := ci) (C := C) (T := T) (N := N) (v := cv (xE X).1 v) hX.1 hX.2.1 hX.ts hin hX.own hX.kw.1 (hPW H hP) r (wl_obj hr hs hci) hc k hk (hX.ts _ hl) (fun _ h => h) ?_ hd (kk H locs la hla hP hS)
  rw [flds_get _ 0 k t ht, Nat.zero_add, hv]
theorem g_getI (hX : Cx X cc nL own Ts R) (hPW : ∀ H, P H → HW (xE X) n I L K H) {idx ci k r : Nat} (hf : FL own idx ci k Ts) (hr : r < n) (hs : (shp r).1 = ci) (ht : (fkL ci)[k]? = some 0) (hd : decode cc pc = .ok (.getfield idx, 3)) (kk : G X cs sl (pc + 3) ls (.int (I r k) :: st) P) : G X cs sl pc ls (.ref r :: st) P := g_get0 hX hPW hf hr hs ht hd rfl kk
theorem g_getL (hX : Cx X cc nL own Ts R) (hPW : ∀ H, P H → HW (xE X) n I L K H) {idx ci k r : Nat} (hf : FL own idx ci k Ts) (hr : r < n) (hs : (shp r).1 = ci) (ht : (fkL ci)[k]? = some 1) (hd : decode cc pc = .ok (.getfield idx, 3)) (kk : G X cs sl (pc + 3) ls (.long (L r k) :: st) P) : G X cs sl pc ls (.ref r :: st) P := g_get0 hX hPW hf hr hs ht hd rfl kk
theorem g_getR (hX : Cx X cc nL own Ts R) (hPW : ∀ H, P H → HW (xE X) n I L K H) {idx ci k r r' : Nat} (hf : FL own idx ci k Ts) (hr : r < n) (hs : (shp r).1 = ci) (ht : (fkL ci)[k]? = some 2) (hK : K r k = some r') (hd : decode cc pc = .ok (.getfield idx, 3)) (kk : G X cs sl (pc + 3) ls (.ref r' :: st) P) : G X cs sl pc ls (.ref r :: st) P := g_get0 hX hPW hf hr hs ht hd (by simp [fv, hK, va_rf, cv]) kk
theorem g_putI (hX : Cx X cc nL own Ts R) {idx ci k r : Nat} {ty : FieldType} {x : Int32} (hf : FPt own idx ci k false ty Ts) (hr : r < n) (hs : (shp r).1 = ci) (ht : (fkL ci)[k]? = some 0) (hn : narrow ty (.int x) = .int x) (hfit : fits ty (.int x) = true) (hd : decode cc pc = .ok (.putfield idx, 3)) (kk : G X cs sl (pc + 3) ls st (HW (xE X) n (upI I r k x) L K)) : G X cs sl pc ls (.int x :: .ref r :: st) (HW (xE X) n I L K) := by
  obtain ⟨⟨C, T, N⟩, hc, hin, hk, hl, hfin, hty, -⟩ := hf
  obtain ⟨ty0, h1, h2, h3, hci⟩ := cl_ok hc
  intro H locs la hla hP hS
  refine va_put (D := eD (xE X)) (cl := vwCl) (ci := ci) (C := C) (T := T) (N := N) (ty := ty) (v := .int x) hX.1 hX.2.1 hX.ts hin ty0 h1 h2 hX.own hX.kw.1 hP (wl_D _ _ _ _ _) hS r (wl_obj hr hs hci) hc k hk (hX.ts _ hl) (fun _ h => h) hfin hty hn hfit ?_ hd (fun H1 locs1 hP1 _ hS1 => kk H1 locs1 la hla ?_ hS1)
  · rw [flds_len, ← h3]; exact hk
  · have e : (wl (xE X) n I L K).set r ((xE X).1 + r, .inr (ci, (flds (xE X).1 (I r) (L r) (K r) 0 (fkL ci)).set k (.int x))) = wl (xE X) n (upI I r k x) L K := by
      refine wl_set ?_ (fun q hq => ?_)
      · rw [flds_set (f' := upI I r k x r) (g' := L r) (h' := K r) (fkL ci) 0 k 0 ht]
        · subst hs
          simp [cellE, cellK, hci]
        · simp [fv, upI]
        · intro t i hi
          rw [Nat.zero_add] at hi
          simp [fv, upI, hi]
      · simp [cellE, upI_R hq]
    rw [e] at hP1
    exact hP1
theorem g_putL (hX : Cx X cc nL own Ts R) {idx ci k r : Nat} {x : Int64} (hf : FPt own idx ci k false .long Ts) (hr : r < n) (hs : (shp r).1 = ci) (ht : (fkL ci)[k]? = some 1) (hd : decode cc pc = .ok (.putfield idx, 3)) (kk : G X cs sl (pc + 3) ls st (HW (xE X) n I (upL L r k x) K)) : G X cs sl pc ls (.long x :: .ref r :: st) (HW (xE X) n I L K) := by
  obtain ⟨⟨C, T, N⟩, hc, hin, hk, hl, hfin, hty, -⟩ := hf
  obtain ⟨ty0, h1, h2, h3, hci⟩ := cl_ok hc
  intro H locs la hla hP hS
  refine va_put (D := eD (xE X)) (cl := vwCl) (ci := ci) (C := C) (T := T) (N := N) (ty := .long) (v := .long x) hX.1 hX.2.1 hX.ts hin ty0 h1 h2 hX.own hX.kw.1 hP (wl_D _ _ _ _ _) hS r (wl_obj hr hs hci) hc k hk (hX.ts _ hl) (fun _ h => h) hfin hty rfl rfl ?_ hd (fun H1 locs1 hP1 _ hS1 => kk H1 locs1 la hla ?_ hS1)
  · rw [flds_len, ← h3]; exact hk
  · have e : (wl (xE X) n I L K).set r ((xE X).1 + r, .inr (ci, (flds (xE X).1 (I r) (L r) (K r) 0 (fkL ci)).set k (.long x))) = wl (xE X) n I (upL L r k x) K := by
      refine wl_set ?_ (fun q hq => ?_)
      · rw [flds_set (f' := I r) (g' := upL L r k x r) (h' := K r) (fkL ci) 0 k 1 ht]
        · subst hs
          simp [cellE, cellK, hci]
        · simp [fv, upL]
        · intro t i hi
          rw [Nat.zero_add] at hi
          simp [fv, upL, hi]
      · simp [cellE, upL_R hq]
    rw [e] at hP1
    exact hP1
theorem g_iald (hX : Cx X cc nL own Ts R) (hPW : ∀ H, P H → HW (xE X) n I L K H) {r len j : Nat} {i : Int32} (hr : r < n) (hs : shp r = (7, len)) (hi : i = nI j) (hj : j < len) (hlen : len < 2 ^ 31) (hd : decode cc pc = .ok (.iaload, 1)) (kk : G X cs sl (pc + 1) ls (.int (I r j) :: st) P) : G X cs sl pc ls (.int i :: .ref r :: st) P := fun H locs la hl hP hS => va_iald hX.1 hX.2.1 hX.kw.1 (hPW H hP) r 0 (wl_ints hr hs) rfl (by rw [hi]; exact vp_in_nI hj hlen) hd (by rw [hi, nI_clamp (Nat.lt_trans hj hlen)]; exact kk H locs la hl hP hS)
theorem g_bald (hX : Cx X cc nL own Ts R) (hPW : ∀ H, P H → HW (xE X) n I L K H) {r len j : Nat} {i : Int32} (hr : r < n) (hs : shp r = (8, len)) (hi : i = nI j) (hj : j < len) (hlen : len < 2 ^ 31) (hd : decode cc pc = .ok (.baload, 1)) (kk : G X cs sl (pc + 1) ls (.int (I r j) :: st) P) : G X cs sl pc ls (.int i :: .ref r :: st) P := fun H locs la hl hP hS => va_bald hX.1 hX.2.1 hX.kw.1 (hPW H hP) r 1 (wl_bytes hr hs) rfl (by rw [hi]; exact vp_in_nI hj hlen) hd (by rw [hi, nI_clamp (Nat.lt_trans hj hlen)]; exact kk H locs la hl hP hS)
theorem g_lald (hX : Cx X cc nL own Ts R) (hPW : ∀ H, P H → HW (xE X) n I L K H) {r len j : Nat} {i : Int32} (hr : r < n) (hs : shp r = (9, len)) (hi : i = nI j) (hj : j < len) (hlen : len < 2 ^ 31) (hd : decode cc pc = .ok (.laload, 1)) (kk : G X cs sl (pc + 1) ls (.long (L r j) :: st) P) : G X cs sl pc ls (.int i :: .ref r :: st) P := fun H locs la hl hP hS => va_lald hX.1 hX.2.1 hX.kw.1 (hPW H hP) r 2 (wl_longs hr hs) rfl (by rw [hi]; exact vp_in_nI hj hlen) hd (by rw [hi, nI_clamp (Nat.lt_trans hj hlen)]; exact kk H locs la hl hP hS)
theorem g_aald (hX : Cx X cc nL own Ts R) (hPW : ∀ H, P H → HW (xE X) n I L K H) {r len r' j : Nat} {i : Int32} (hr : r < n) (hs : shp r = (10, len)) (hi : i = nI j) (hj : j < len) (hlen : len < 2 ^ 31) (hK : K r j = some r') (hd : decode cc pc = .ok (.aaload, 1)) (kk : G X cs sl (pc + 1) ls (.ref r' :: st) P) : G X cs sl pc ls (.int i :: .ref r :: st) P := fun H locs la hl hP hS => va_aldq hX.1 hX.2.1 hX.kw.1 (hPW H hP) r 3 (wl_refs hr hs) rfl (by rw [hi]; exact vp_in_nI hj hlen) hd (by
  rw [hi, nI_clamp (Nat.lt_trans hj hlen)]
  have e : va_rf ((K r j).map (fun q => (xE X).1 + q)) = cv (xE X).1 (.ref r') := by rw [hK]; rfl
  rw [e]
  exact kk H locs la hl hP hS)
theorem g_alenI (hX : Cx X cc nL own Ts R) (hPW : ∀ H, P H → HW (xE X) n I L K H) {r len : Nat} (hr : r < n) (hs : shp r = (7, len)) (hd : decode cc pc = .ok (.arraylength, 1)) (kk : G X cs sl (pc + 1) ls (.int (nI len) :: st) P) : G X cs sl pc ls (.ref r :: st) P := fun H locs la hl hP hS => va_alen hX.1 hX.2.1 hX.kw.1 (hPW H hP) r 0 (wl_ints hr hs) rfl rfl hd (kk H locs la hl hP hS)
theorem g_alenL (hX : Cx X cc nL own Ts R) (hPW : ∀ H, P H → HW (xE X) n I L K H) {r len : Nat} (hr : r < n) (hs : shp r = (9, len)) (hd : decode cc pc = .ok (.arraylength, 1)) (kk : G X cs sl (pc + 1) ls (.int (nI len) :: st) P) : G X cs sl pc ls (.ref r :: st) P := fun H locs la hl hP hS => va_alen hX.1 hX.2.1 hX.kw.1 (hPW H hP) r 2 (wl_longs hr hs) rfl rfl hd (kk H locs la hl hP hS)
theorem g_iast (hX : Cx X cc nL own Ts R) {r len j : Nat} {i x : Int32} (hr : r < n) (hs : shp r = (7, len)) (hi : i = nI j) (hj : j < len) (hlen : len < 2 ^ 31) (hd : decode cc pc = .ok (.iastore, 1)) (kk : G X cs sl (pc + 1) ls st (HW (xE X) n (upI I r j x) L K)) : G X cs sl pc ls (.int x :: .int i :: .ref r :: st) (HW (xE X) n I L K) := fun H locs la hl hP hS => va_iast hX.1 hX.2.1 hX.kw.1 hP (wl_D _ _ _ _ _) hS r 0 (wl_ints hr hs) rfl (by rw [hi]; exact vp_in_nI hj hlen) hd (fun H1 locs1 hP1 _ hS1 => kk H1 locs1 la hl (by
  rw [hi, nI_clamp (Nat.lt_trans hj hlen)] at hP1
  rw [wl_set (I' := upI I r j x) (L' := L) (K' := K) (by simp [cellE, cellK, hs, upI_row]) (fun q hq => by simp [cellE, upI_R hq])] at hP1
  exact hP1) hS1)
theorem g_bast (hX : Cx X cc nL own Ts R) {r len j : Nat} {i x : Int32} (hr : r < n) (hs : shp r = (8, len)) (hi : i = nI j) (hj : j < len) (hlen : len < 2 ^ 31) (hd : decode cc pc = .ok (.bastore, 1)) (kk : G X cs sl (pc + 1) ls st (HW (xE X) n (upI I r j x.toInt8.toInt32) L K)) : G X cs sl pc ls (.int x :: .int i :: .ref r :: st) (HW (xE X) n I L K) := fun H locs la hl hP hS => va_bast hX.1 hX.2.1 hX.kw.1 hP (wl_D _ _ _ _ _) hS r 1 (wl_bytes hr hs) rfl (by rw [hi]; exact vp_in_nI hj hlen) hd (fun H1 locs1 hP1 _ hS1 => kk H1 locs1 la hl (by
  rw [hi, nI_clamp (Nat.lt_trans hj hlen)] at hP1
  rw [vp_nar_byte, wl_set (I' := upI I r j x.toInt8.toInt32) (L' := L) (K' := K) (by simp [cellE, cellK, hs, upI_row]) (fun q hq => by simp [cellE, upI_R hq])] at hP1
  exact hP1) hS1)
theorem g_last (hX : Cx X cc nL own Ts R) {r len j : Nat} {i : Int32} {x : Int64} (hr : r < n) (hs : shp r = (9, len)) (hi : i = nI j) (hj : j < len) (hlen : len < 2 ^ 31) (hd : decode cc pc = .ok (.lastore, 1)) (kk : G X cs sl (pc + 1) ls st (HW (xE X) n I (upL L r j x) K)) : G X cs sl pc ls (.long x :: .int i :: .ref r :: st) (HW (xE X) n I L K) := fun H locs la hl hP hS => va_last hX.1 hX.2.1 hX.kw.1 hP (wl_D _ _ _ _ _) hS r 2 (wl_longs hr hs) rfl (by rw [hi]; exact vp_in_nI hj hlen) hd (fun H1 locs1 hP1 _ hS1 => kk H1 locs1 la hl (by
  rw [hi, nI_clamp (Nat.lt_trans hj hlen)] at hP1
  rw [wl_set (I' := I) (L' := upL L r j x) (K' := K) (by simp [cellE, cellK, hs, upL_row]) (fun q hq => by simp [cellE, upL_R hq])] at hP1
  exact hP1) hS1)
theorem g_aast (hX : Cx X cc nL own Ts R) {r len v j : Nat} {i : Int32} (hr : r < n) (hs : shp r = (10, len)) (hv : v < n) (hvs : (shp v).1 = 0) (hi : i = nI j) (hj : j < len) (hlen : len < 2 ^ 31) (hd : decode cc pc = .ok (.aastore, 1)) (kk : G X cs sl (pc + 1) ls st (HW (xE X) n I L (upK K r j (some v)))) : G X cs sl pc ls (.ref v :: .int i :: .ref r :: st) (HW (xE X) n I L K) := fun H locs la hl hP hS => va_astq (r := (RX0, TX0, 14)) hX.1 hX.2.1 hX.kw.1 hP (wl_D _ _ _ _ _) hS r 3 v 0 (wl_refs hr hs) rfl (wl_obj hv hvs (by decide)) rfl (by rw [hi]; exact vp_in_nI hj hlen) hd (fun H1 locs1 hP1 _ hS1 => kk H1 locs1 la hl (by
  rw [hi, nI_clamp (Nat.lt_trans hj hlen)] at hP1
  rw [wl_set (I' := I) (L' := L) (K' := upK K r j (some v)) (by
    simp only [cellE, cellK, hs, upK_row]
    simp only [Nat.reduceLT, if_false]
    congr 7
    funext k
    by_cases hk : k = j
    · subst hk; simp [va_up]
    · simp [va_up, hk]) (fun q hq => by simp [cellE, upK_R hq])] at hP1
  exact hP1) hS1)
theorem g_copyi (hX : Cx X cc nL own Ts R) {idx r0 r1 n0 n1 : Nat} {sp dp m : Int32} (hl1 : Cond.methodLink own idx arraycopyName ∈ Ts) (hl2 : Cond.native arraycopyName ∈ Ts) (hl3 : Cond.static arraycopyName ∈ Ts) (hl4 : Cond.initialized "java/lang/System" ∈ Ts) (hr0 : r0 < n) (hr1 : r1 < n) (hs0 : shp r0 = (7, n0)) (hs1 : shp r1 = (7, n1)) (h1 : ¬ sp < 0) (h2 : ¬ dp < 0) (h3 : ¬ m < 0) (h4 : sp.toNatClampNeg + m.toNatClampNeg ≤ n0) (h5 : dp.toNatClampNeg + m.toNatClampNeg ≤ n1) (hR1 : 1 ≤ R.frames) (hR2 : (st.map fun v => v.category).sum + (nativeFrameWords "java/lang/System" "arraycopy" 5 + 11) ≤ R.locals) (hd : decode cc pc = .ok (.invokestatic idx, 3)) (kk : G X cs sl (pc + 3) ls st (HW (xE X) n (fun q j => if q = r1 then va_cpy (I r0) (I r1) sp.toNatClampNeg dp.toNatClampNeg m.toNatClampNeg j else I q j) L K)) : G X cs sl pc ls (.int m :: .int dp :: .ref r1 :: .int sp :: .ref r0 :: st) (HW (xE X) n I L K) := fun H locs la hl hP hS => va_copyi (ty := .int) hX.1 hX.2.1 (by rw [hX.2.2.2.1, ← hX.2.2.1]; exact hl.1.symm) hX.own (hX.ts _ hl1) (hX.ts _ hl2) (hX.ts _ hl3) (hX.ts _ hl4) hX.kw.1 hP (wl_D _ _ _ _ _) hS r0 r1 0 0 (wl_ints hr0 hs0) (wl_ints hr1 hs1) rfl rfl rfl h1 h2 h3 h4 h5 (fun _ _ => rfl) (by rw [hX.rm]; exact hR1) (by
  rw [hX.rm, List.map_map]
  have e : (fun v : Value => v.category) ∘ cv (xE X).1 = fun v : Value => v.category := by funext v; exact cv_cat _ v
  rw [e]
  exact hR2) hd (fun H1 locs1 hP1 _ hS1 => kk H1 locs1 la hl (by
  rw [wl_set (I' := fun q j => if q = r1 then va_cpy (I r0) (I r1) sp.toNatClampNeg dp.toNatClampNeg m.toNatClampNeg j else I q j) (L' := L) (K' := K) (by simp [cellE, cellK, hs1]) (fun q hq => by simp [cellE, hq])] at hP1
  exact hP1) hS1)
end
