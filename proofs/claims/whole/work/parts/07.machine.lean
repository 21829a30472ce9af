/-! The layer between the kit's rows and the walks: roles (the order in which the cells are made), memory as functions, the judgement G. -/
abbrev ET : Type := Nat × (Nat → ClassId) × (Nat → Nat → Nat) × (Nat → ClassId)
abbrev eD (E : ET) : va_G := (E.2.1, E.2.2.1)
abbrev eT (E : ET) : List (ClassId × FieldType) := [(E.2.2.2 0, .int), (E.2.2.2 1, .byte), (E.2.2.2 2, .long), (E.2.2.2 3, .object RX0)]
abbrev MI : Type := Nat → Nat → Int32
abbrev ML : Type := Nat → Nat → Int64
abbrev MK : Type := Nat → Nat → Option Nat
def shpL : List (Nat × Nat) := [(5, 10), (0, 14), (7, 10), (7, 10), (7, 16), (7, 16), (7, 16), (7, 16), (7, 12), (7, 12), (7, 12), (7, 10), (7, 16), (3, 2), (10, 6), (0, 14), (7, 10), (7, 10), (7, 16), (7, 16), (7, 16), (7, 16), (7, 12), (7, 12), (7, 12), (7, 10), (7, 16), (0, 14), (7, 10), (7, 10), (7, 16), (7, 16), (7, 16), (7, 16), (7, 12), (7, 12), (7, 12), (7, 10), (7, 16), (0, 14), (7, 10), (7, 10), (7, 16), (7, 16), (7, 16), (7, 16), (7, 12), (7, 12), (7, 12), (7, 10), (7, 16), (0, 14), (7, 10), (7, 10), (7, 16), (7, 16), (7, 16), (7, 16), (7, 12), (7, 12), (7, 12), (7, 10), (7, 16), (0, 14), (7, 10), (7, 10), (7, 16), (7, 16), (7, 16), (7, 16), (7, 12), (7, 12), (7, 12), (7, 10), (7, 16), (0, 14), (7, 10), (7, 10), (7, 16), (7, 16), (7, 16), (7, 16), (7, 12), (7, 12), (7, 12), (7, 10), (7, 16), (1, 3), (9, 10), (7, 10), (4, 2), (7, 45), (2, 6), (7, 40), (7, 160), (8, 120), (6, 15), (7, 123), (7, 123), (7, 615), (7, 3), (9, 10), (7, 10), (7, 120), (7, 40), (7, 160)]
def shp (r : Nat) : Nat × Nat := shpL.getD r (7, 0)
def fkL (ci : Nat) : List Nat := match ci with
  | 0 => [0, 2, 2, 0, 2, 2, 2, 2, 0, 2, 2, 2, 2, 2]
  | 1 => [2, 2, 0]
  | 2 => [2, 2, 0, 0, 0, 0]
  | 3 => [2, 0]
  | 4 => [2, 0]
  | 5 => [2, 2, 2, 2, 2, 2, 0, 0, 0, 0]
  | 6 => [2, 2, 2, 0, 2, 2, 2, 2, 0, 0, 0, 0, 2, 2, 1]
  | _ => []
def fv (b : Nat) (f : Nat → Int32) (g : Nat → Int64) (h : Nat → Option Nat) (t k : Nat) : Value := match t with
  | 0 => .int (f k)
  | 1 => .long (g k)
  | _ => va_rf ((h k).map (fun r => b + r))
def flds (b : Nat) (f : Nat → Int32) (g : Nat → Int64) (h : Nat → Option Nat) : Nat → List Nat → List Value
  | _, [] => []
  | k, t :: ts => fv b f g h t k :: flds b f g h (k + 1) ts
def cellK (E : ET) (f : Nat → Int32) (g : Nat → Int64) (h : Nat → Option Nat) (q : Nat × Nat) : va_E :=
  if q.1 < 7 then .inr (q.1, flds E.1 f g h 0 (fkL q.1))
  else match q.1 with
  | 7 => .inl (E.2.2.2 0, q.2, .inl f)
  | 8 => .inl (E.2.2.2 1, q.2, .inl f)
  | 9 => .inl (E.2.2.2 2, q.2, .inr (.inl g))
  | _ => .inl (E.2.2.2 3, q.2, .inr (.inr (.inr (.inr (fun k => (h k).map (fun r => E.1 + r))))))
def cellE (E : ET) (I : MI) (L : ML) (K : MK) (r : Nat) : va_E := cellK E (I r) (L r) (K r) (shp r)
def wl (E : ET) (n : Nat) (I : MI) (L : ML) (K : MK) : va_W := (List.range n).map (fun r => (E.1 + r, cellE E I L K r))
def HW (E : ET) (n : Nat) (I : MI) (L : ML) (K : MK) (H : Heap) : Prop := va_P (eD E) vwCl (wl E n I L K) H
/-- as HW, while cells are made: the heap's size is known -/
def HC (E : ET) (n : Nat) (I : MI) (L : ML) (K : MK) (H : Heap) : Prop := HW E n I L K H ∧ H.size = E.1 + n
def eA (E : ET) : Nat → Prop := fun q => E.1 ≤ q
theorem wl_get {E : ET} {n : Nat} {I : MI} {L : ML} {K : MK} {r : Nat} (h : r < n) : (wl E n I L K)[r]? = some (E.1 + r, cellE E I L K r) := by
  simp [wl, h]
theorem wl_some {E : ET} {n : Nat} {I : MI} {L : ML} {K : MK} {r : Nat} {q : Nat × va_E} (h : (wl E n I L K)[r]? = some q) : r < n ∧ q = (E.1 + r, cellE E I L K r) := by
  by_cases hr : r < n
  · rw [wl_get hr] at h
    exact ⟨hr, (Option.some.inj h).symm⟩
  · simp [wl, hr] at h
theorem wl_D (E : ET) (n : Nat) (I : MI) (L : ML) (K : MK) : va_D (eA E) (wl E n I L K) := by
  refine ⟨fun i j p q hi hj h => ?_, fun k q hk => ?_⟩
  · obtain ⟨-, rfl⟩ := wl_some hi
    obtain ⟨-, rfl⟩ := wl_some hj
    exact Nat.add_left_cancel h
  · obtain ⟨-, rfl⟩ := wl_some hk
    exact Nat.le_add_right _ _
theorem wl_ext {E : ET} {n : Nat} {I I' : MI} {L L' : ML} {K K' : MK} (h : ∀ r, r < n → cellE E I L K r = cellE E I' L' K' r) : wl E n I L K = wl E n I' L' K' := by
  unfold wl
  refine List.map_congr_left fun r hr => ?_
  rw [h r (List.mem_range.mp hr)]
theorem wl_set {E : ET} {n : Nat} {I I' : MI} {L L' : ML} {K K' : MK} {r : Nat} {x : va_E} (h0 : x = cellE E I' L' K' r) (h : ∀ q, q ≠ r → cellE E I L K q = cellE E I' L' K' q) : (wl E n I L K).set r (E.1 + r, x) = wl E n I' L' K' := by
  refine List.ext_getElem? fun k => ?_
  rw [List.getElem?_set]
  by_cases hk : k < n
  · rw [wl_get hk]
    by_cases e : r = k
    · subst e
      simp [wl, hk, h0]
    · rw [if_neg e, wl_get hk, h k (Ne.symm e)]
  · have e1 : (wl E n I' L' K')[k]? = none := by simp [wl, hk]
    have e2 : (wl E n I L K)[k]? = none := by simp [wl, hk]
    rw [e1, e2]
    by_cases e : r = k
    · subst e
      simp [wl, hk]
    · simp [e]
theorem HW.ext {E : ET} {n : Nat} {I I' : MI} {L L' : ML} {K K' : MK} {H : Heap} (h : HW E n I L K H) (he : ∀ r, r < n → cellE E I L K r = cellE E I' L' K' r) : HW E n I' L' K' H := by
  unfold HW
  rw [← wl_ext he]
  exact h
theorem HW.at {E : ET} {n : Nat} {I : MI} {L : ML} {K : MK} {H : Heap} (h : HW E n I L K H) {r : Nat} (hr : r < n) : va_at (eD E) vwCl (E.1 + r, cellE E I L K r) H := h r _ (wl_get hr)
theorem HW.of {E : ET} {n : Nat} {I : MI} {L : ML} {K : MK} {H : Heap} (h : ∀ r, r < n → va_at (eD E) vwCl (E.1 + r, cellE E I L K r) H) : HW E n I L K H := fun k q hk => by
  obtain ⟨h1, rfl⟩ := wl_some hk
  exact h k h1
-- fields
theorem flds_get {b : Nat} {f : Nat → Int32} {g : Nat → Int64} {h : Nat → Option Nat} : ∀ (l : List Nat) (j k t : Nat), l[k]? = some t → (flds b f g h j l)[k]? = some (fv b f g h t (j + k))
  | [], j, k, t, hk => by simp at hk
  | x :: xs, j, 0, t, hk => by
    simp at hk
    subst hk
    rfl
  | x :: xs, j, k + 1, t, hk => by
    have := flds_get (b := b) (f := f) (g := g) (h := h) xs (j + 1) k t (by simpa using hk)
    show (flds b f g h (j + 1) xs)[k]? = _
    rw [this, Nat.add_right_comm, Nat.add_assoc]
theorem flds_len {b : Nat} {f : Nat → Int32} {g : Nat → Int64} {h : Nat → Option Nat} : ∀ (l : List Nat) (j : Nat), (flds b f g h j l).length = l.length
  | [], _ => rfl
  | _ :: xs, j => by
    show (flds b f g h (j + 1) xs).length + 1 = xs.length + 1
    rw [flds_len xs (j + 1)]
theorem flds_set {b : Nat} {f f' : Nat → Int32} {g g' : Nat → Int64} {h h' : Nat → Option Nat} {v : Value} : ∀ (l : List Nat) (j k t : Nat), l[k]? = some t → v = fv b f' g' h' t (j + k) → (∀ t i, i ≠ j + k → fv b f g h t i = fv b f' g' h' t i) → (flds b f g h j l).set k v = flds b f' g' h' j l
  | [], j, k, t, hk, _, _ => by simp at hk
  | x :: xs, j, 0, t, hk, hv, ho => by
    simp at hk
    subst hk
    show v :: flds b f g h (j + 1) xs = fv b f' g' h' x j :: flds b f' g' h' (j + 1) xs
    rw [hv, Nat.add_zero, flds_same xs (j + 1) (fun t i hi => ho t i (by omega))]
  | x :: xs, j, k + 1, t, hk, hv, ho => by
    show fv b f g h x j :: (flds b f g h (j + 1) xs).set k v = fv b f' g' h' x j :: flds b f' g' h' (j + 1) xs
    rw [flds_set xs (j + 1) k t (by simpa using hk) (by rw [hv]; congr 1; omega) (fun t i hi => ho t i (by omega)), ho x j (by omega)]
where
  flds_same {b : Nat} {f f' : Nat → Int32} {g g' : Nat → Int64} {h h' : Nat → Option Nat} : ∀ (l : List Nat) (j : Nat), (∀ t i, j ≤ i → fv b f g h t i = fv b f' g' h' t i) → flds b f g h j l = flds b f' g' h' j l
    | [], _, _ => rfl
    | x :: xs, j, ho => by
      show fv b f g h x j :: flds b f g h (j + 1) xs = fv b f' g' h' x j :: flds b f' g' h' (j + 1) xs
      rw [ho x j (Nat.le_refl _), flds_same xs (j + 1) (fun t i hi => ho t i (by omega))]
-- updates of the memory
def upI (I : MI) (r k : Nat) (x : Int32) : MI := fun q j => if q = r ∧ j = k then x else I q j
def upL (L : ML) (r k : Nat) (x : Int64) : ML := fun q j => if q = r ∧ j = k then x else L q j
def upK (K : MK) (r k : Nat) (x : Option Nat) : MK := fun q j => if q = r ∧ j = k then x else K q j
theorem upI_s (I : MI) (r k : Nat) (x : Int32) : upI I r k x r k = x := by simp [upI]
theorem upI_r {I : MI} {r k q j : Nat} {x : Int32} (h : q ≠ r) : upI I r k x q j = I q j := by simp [upI, h]
theorem upI_k {I : MI} {r k q j : Nat} {x : Int32} (h : j ≠ k) : upI I r k x q j = I q j := by simp [upI, h]
theorem upI_R {I : MI} {r k q : Nat} {x : Int32} (h : q ≠ r) : upI I r k x q = I q := by funext j; simp [upI, h]
theorem upL_s (I : ML) (r k : Nat) (x : Int64) : upL I r k x r k = x := by simp [upL]
theorem upL_r {I : ML} {r k q j : Nat} {x : Int64} (h : q ≠ r) : upL I r k x q j = I q j := by simp [upL, h]
theorem upL_k {I : ML} {r k q j : Nat} {x : Int64} (h : j ≠ k) : upL I r k x q j = I q j := by simp [upL, h]
theorem upL_R {I : ML} {r k q : Nat} {x : Int64} (h : q ≠ r) : upL I r k x q = I q := by funext j; simp [upL, h]
theorem upK_R {I : MK} {r k q : Nat} {x : Option Nat} (h : q ≠ r) : upK I r k x q = I q := by funext j; simp [upK, h]
theorem upI_row (I : MI) (r k : Nat) (x : Int32) : upI I r k x r = upd (I r) k x := by funext j; simp [upI, upd]
theorem upL_row (I : ML) (r k : Nat) (x : Int64) : upL I r k x r = vp_updL (I r) k x := by funext j; simp [upL, vp_updL]
theorem upK_row (I : MK) (r k : Nat) (x : Option Nat) : upK I r k x r = va_up (I r) k x := by funext j; simp [upK, va_up]
-- values: a reference is a role
def cv (b : Nat) (v : Value) : Value := match v with
  | .ref r => .ref (b + r)
  | v => v
theorem cv_cat (b : Nat) (v : Value) : (cv b v).category = v.category := by cases v <;> rfl
def cl2 (b : Nat) (q : Nat × Value) : Nat × Value := (q.1, cv b q.2)
def lset (ls : List (Nat × Value)) (i : Nat) (v : Value) : List (Nat × Value) :=
  ls.filter (fun q => Nat.blt q.1 i && !(q.1 + 1 == i && q.2.category == 2)) ++ (i, v) :: ls.filter (fun q => Nat.ble (i + v.category) q.1)
theorem lset_in {ls : List (Nat × Value)} {i : Nat} {v : Value} {q : Nat × Value} (h : q ∈ lset ls i v) : q = (i, v) ∨ q ∈ ls ∧ ((!(q.1 == i) && (!(v.category == 2 && q.1 == i + 1) && !(q.1 + 1 == i && q.2.category == 2))) = true) := by
  have hcat : v.category = 1 ∨ v.category = 2 := lv_cat v
  simp only [lset, List.mem_append, List.mem_filter, List.mem_cons] at h
  rcases h with ⟨h1, h2⟩ | h | ⟨h1, h2⟩
  · refine Or.inr ⟨h1, ?_⟩
    simp only [Bool.and_eq_true, Nat.blt_eq] at h2
    have hlt := h2.1
    have e1 : (q.1 == i) = false := by simp; omega
    have e2 : (q.1 == i + 1) = false := by simp; omega
    rw [e1, e2]
    simpa using h2.2
  · exact Or.inl h
  · refine Or.inr ⟨h1, ?_⟩
    have h3 : i + v.category ≤ q.1 := Nat.ble_eq.mp h2
    have e1 : (q.1 == i) = false := by simp; omega
    have e2 : (q.1 + 1 == i) = false := by simp; omega
    rw [e1, e2]
    rcases hcat with hc | hc
    · rw [hc]; rfl
    · have e3 : (q.1 == i + 1) = false := by simp; omega
      rw [e3]; simp
theorem lv_less {la : Array Slot} {n : Nat} {l l' : List (Nat × Value)} (h : lv_has la n l) (hs : ∀ q ∈ l', q ∈ l) : lv_has la n l' := ⟨h.1, h.2.1, fun q hq => h.2.2 q (hs q hq)⟩
theorem lset_has1 {la : Array Slot} {n b i : Nat} {ls : List (Nat × Value)} {v : Value} (hc : v.category = 1) (h : lv_has la n ((i, cv b v) :: (ls.map (cl2 b)).filter (fun q => !(q.1 == i) && !(q.1 + 1 == i && q.2.category == 2)))) : lv_has la n ((lset ls i v).map (cl2 b)) := by
  refine lv_less h fun q hq => ?_
  obtain ⟨z, hz, rfl⟩ := List.mem_map.mp hq
  rcases lset_in hz with rfl | ⟨h1, h2⟩
  · exact List.mem_cons_self
  · refine List.mem_cons_of_mem _ (List.mem_filter.mpr ⟨List.mem_map.mpr ⟨z, h1, rfl⟩, ?_⟩)
    rw [hc] at h2
    simpa [cl2, cv_cat] using h2
theorem lset_has2 {la : Array Slot} {n b i : Nat} {ls : List (Nat × Value)} {v : Value} (hc : v.category = 2) (h : lv_has la n ((i, cv b v) :: (ls.map (cl2 b)).filter (fun q => !(q.1 == i) && (!(q.1 == i + 1) && !(q.1 + 1 == i && q.2.category == 2))))) : lv_has la n ((lset ls i v).map (cl2 b)) := by
  refine lv_less h fun q hq => ?_
  obtain ⟨z, hz, rfl⟩ := List.mem_map.mp hq
  rcases lset_in hz with rfl | ⟨h1, h2⟩
  · exact List.mem_cons_self
  · refine List.mem_cons_of_mem _ (List.mem_filter.mpr ⟨List.mem_map.mpr ⟨z, h1, rfl⟩, ?_⟩)
    rw [hc] at h2
    simpa [cl2, cv_cat] using h2
-- the launch
def nestW : List Cond := [.methodLinkNest RX5 11 yX0_init RX5, .methodLinkNest RX5 25 yX1_init RX5, .methodLinkNest RX5 32 yX4_init RX5, .methodLinkNest RX5 39 yX2_init RX5, .methodLinkNest RX0 49 yX5_within RX5, .methodLinkNest RX2 58 yX5_within RX5, .methodLinkNest RX3 17 yX0_init RX5]
def KW (E : ET) (U : State) : Prop := va_K (eD E) vwCl (eT E) U ∧ (∀ w ∈ nestW, va_Nw w U) ∧ va_AO RX0 U
theorem nestW_warm {s U : State} (hW : s.WarmedH U.vm) (h : ∀ w ∈ nestW, va_Nw w s) : ∀ w ∈ nestW, va_Nw w U := by
  intro w hw
  have h1 := h w hw
  simp only [nestW, List.mem_cons, List.not_mem_nil, or_false] at hw
  rcases hw with rfl | rfl | rfl | rfl | rfl | rfl | rfl <;> exact va_Nw.warmM hW h1
theorem KW.warm {E : ET} {s U : State} (hW : s.WarmedH U.vm) (h : KW E s) : KW E U := ⟨va_K.moved hW.alike h.1, nestW_warm hW h.2.1, va_AO.moved hW.alike h.2.2⟩
theorem nestW_same {s U : State} (hv : s.vm = U.vm) (h : ∀ w ∈ nestW, va_Nw w s) : ∀ w ∈ nestW, va_Nw w U := by
  intro w hw
  have h1 := h w hw
  simp only [nestW, List.mem_cons, List.not_mem_nil, or_false] at hw
  rcases hw with rfl | rfl | rfl | rfl | rfl | rfl | rfl <;> exact va_Nw.same rfl hv h1
theorem KW.same {E : ET} {s U : State} (hv : s.vm = U.vm) (h : KW E s) : KW E U := ⟨va_K.moved (by rw [hv]; exact Vm.Alike.refl _) h.1, nestW_same hv h.2.1, va_AO.moved (by rw [hv]; exact Vm.Alike.refl _) h.2.2⟩
-- the context of a walk
abbrev XT : Type := Program × Launch × Env × Room × State × MethodId × Array Value × List Frame × Method × Code × (State → Prop) × ET × Nat
abbrev xp (X : XT) : Program := X.1
abbrev xl (X : XT) : Launch := X.2.1
abbrev xe (X : XT) : Env := X.2.2.1
abbrev xR (X : XT) : Room := X.2.2.2.1
abbrev xs (X : XT) : State := X.2.2.2.2.1
abbrev xm (X : XT) : MethodId := X.2.2.2.2.2.1
abbrev xa (X : XT) : Array Value := X.2.2.2.2.2.2.1
abbrev xb (X : XT) : List Frame := X.2.2.2.2.2.2.2.1
abbrev xM (X : XT) : Method := X.2.2.2.2.2.2.2.2.1
abbrev xc (X : XT) : Code := X.2.2.2.2.2.2.2.2.2.1
abbrev xQ (X : XT) : State → Prop := X.2.2.2.2.2.2.2.2.2.2.1
abbrev xE (X : XT) : ET := X.2.2.2.2.2.2.2.2.2.2.2.1
abbrev xn (X : XT) : Nat := X.2.2.2.2.2.2.2.2.2.2.2.2
def G (X : XT) (cs sl pc : Nat) (ls : List (Nat × Value)) (st : List Value) (P : Heap → Prop) : Prop :=
  ∀ (H : Heap) (locs : List Loc) (la : Array Slot), lv_has la (xn X) (ls.map (cl2 (xE X).1)) → P H → va_S (eA (xE X)) (xs X).heap H locs →
    W (xp X) (xl X) (xe X) (xR X) (xs X) (xm X) (xa X) (xb X) (xM X) (xc X) H locs cs sl (xQ X) (F0 (xm X) pc la (st.map (cv (xE X).1)))
def Cx (X : XT) (cc : ByteArray) (nL : Nat) (own : String) (Ts : List Cond) (R : Room) : Prop :=
  (xp X).tables.exec = Jvm.exec ∧ (xc X).code = cc ∧ xn X = nL ∧ (xc X).maxLocals = nL ∧ (xs X).vm.findClass own = some (xm X).cls ∧ (∀ w ∈ Ts, w.before (xa X) (xs X) = true) ∧ xR X = R ∧ KW (xE X) (xs X)
section
variable {X : XT} {cc : ByteArray} {nL : Nat} {own : String} {Ts : List Cond} {R : Room} {cs sl pc : Nat} {ls ls' : List (Nat × Value)} {st : List Value} {P : Heap → Prop}
theorem g_at {la : Array Slot} {j i : Nat} {v : Value} (hl : lv_has la (xn X) (ls.map (cl2 (xE X).1))) (hk : ls[j]? = some (i, v)) : la[i]? = some (.val (cv (xE X).1 v)) := lv_at hl j (by rw [List.getElem?_map, hk]; rfl)
/-- fewer locals are named -/
theorem G.less (hs : ∀ q ∈ ls', q ∈ ls) (k : G X cs sl pc ls' st P) : G X cs sl pc ls st P := fun H locs la hl hP hS => k H locs la (lv_less hl (fun q hq => by
  obtain ⟨z, hz, rfl⟩ := List.mem_map.mp hq
  exact List.mem_map.mpr ⟨z, hs z hz, rfl⟩)) hP hS
theorem G.heap {P' : Heap → Prop} (hs : ∀ H, P H → P' H) (k : G X cs sl pc ls st P') : G X cs sl pc ls st P := fun H locs la hl hP hS => k H locs la hl (hs H hP) hS
theorem g_iconst (hX : Cx X cc nL own Ts R) {n : Int} {v : Int32} (hd : decode cc pc = .ok (.iconst n, 1)) (hv : Int32.ofInt n = v) (k : G X cs sl (pc + 1) ls (.int v :: st) P) : G X cs sl pc ls (st) P := fun H locs la hl hP hS => lv_iconst hX.1 hX.2.1 hd hv (k H locs la hl hP hS)
theorem g_bipush (hX : Cx X cc nL own Ts R) {n : Int} {v : Int32} (hd : decode cc pc = .ok (.bipush n, 2)) (hv : (Int8.ofInt n).toInt32 = v) (k : G X cs sl (pc + 2) ls (.int v :: st) P) : G X cs sl pc ls (st) P := fun H locs la hl hP hS => lv_bipush hX.1 hX.2.1 hd hv (k H locs la hl hP hS)
theorem g_sipush (hX : Cx X cc nL own Ts R) {n : Int} {v : Int32} (hd : decode cc pc = .ok (.sipush n, 3)) (hv : (Int16.ofInt n).toInt32 = v) (k : G X cs sl (pc + 3) ls (.int v :: st) P) : G X cs sl pc ls (st) P := fun H locs la hl hP hS => lv_sipush hX.1 hX.2.1 hd hv (k H locs la hl hP hS)
theorem g_lconst (hX : Cx X cc nL own Ts R) {n : Fin 2} {v : Int64} (hd : decode cc pc = .ok (.lconst n, 1)) (hv : Int64.ofNat (n : Nat) = v) (k : G X cs sl (pc + 1) ls (.long v :: st) P) : G X cs sl pc ls (st) P := fun H locs la hl hP hS => lv_lconst hX.1 hX.2.1 hd hv (k H locs la hl hP hS)
theorem g_iload_n (hX : Cx X cc nL own Ts R) {k4 : Fin 4} {i : Nat} {x : Int32} (j : Nat) (hj : ls[j]? = some (i, .int x)) (hi : (k4 : Nat) = i) (hd : decode cc pc = .ok (.iload_n k4, 1))  (k : G X cs sl (pc + 1) ls (.int x :: st) P) : G X cs sl pc ls (st) P := fun H locs la hl hP hS => lv_iload_n hX.1 hX.2.1 hd hi (g_at hl hj) (k H locs la hl hP hS)
theorem g_iload (hX : Cx X cc nL own Ts R) {i : Nat} {x : Int32} (j : Nat) (hj : ls[j]? = some (i, .int x)) (hd : decode cc pc = .ok (.iload i, 2))  (k : G X cs sl (pc + 2) ls (.int x :: st) P) : G X cs sl pc ls (st) P := fun H locs la hl hP hS => lv_iload hX.1 hX.2.1 hd (g_at hl hj) (k H locs la hl hP hS)
theorem g_istore_n (hX : Cx X cc nL own Ts R) {k4 : Fin 4} {i : Nat} {x : Int32} (hd : decode cc pc = .ok (.istore_n k4, 1)) (hi : (k4 : Nat) = i) (hn : i < nL) (hl2 : lset ls i (.int x) = ls') (k : G X cs sl (pc + 1) ls' st P) : G X cs sl pc ls (.int x :: st) P := fun H locs la hl hP hS => lv_istore_n hX.1 hX.2.1 hd hi (hl) (by rw [hX.2.2.1]; exact hn) rfl (fun la2 h2 => k H locs la2 (by rw [← hl2]; exact lset_has1 (v := .int x) rfl h2) hP hS)
theorem g_istore (hX : Cx X cc nL own Ts R) {i : Nat} {x : Int32} (hd : decode cc pc = .ok (.istore i, 2)) (hn : i < nL) (hl2 : lset ls i (.int x) = ls') (k : G X cs sl (pc + 2) ls' st P) : G X cs sl pc ls (.int x :: st) P := fun H locs la hl hP hS => lv_istore hX.1 hX.2.1 hd (hl) (by rw [hX.2.2.1]; exact hn) rfl (fun la2 h2 => k H locs la2 (by rw [← hl2]; exact lset_has1 (v := .int x) rfl h2) hP hS)
theorem g_lload_n (hX : Cx X cc nL own Ts R) {k4 : Fin 4} {i : Nat} {x : Int64} (j : Nat) (hj : ls[j]? = some (i, .long x)) (hi : (k4 : Nat) = i) (hd : decode cc pc = .ok (.lload_n k4, 1))  (k : G X cs sl (pc + 1) ls (.long x :: st) P) : G X cs sl pc ls (st) P := fun H locs la hl hP hS => lv_lload_n hX.1 hX.2.1 hd hi (g_at hl hj) (k H locs la hl hP hS)
theorem g_lload (hX : Cx X cc nL own Ts R) {i : Nat} {x : Int64} (j : Nat) (hj : ls[j]? = some (i, .long x)) (hd : decode cc pc = .ok (.lload i, 2))  (k : G X cs sl (pc + 2) ls (.long x :: st) P) : G X cs sl pc ls (st) P := fun H locs la hl hP hS => lv_lload hX.1 hX.2.1 hd (g_at hl hj) (k H locs la hl hP hS)
theorem g_lstore_n (hX : Cx X cc nL own Ts R) {k4 : Fin 4} {i : Nat} {x : Int64} (hd : decode cc pc = .ok (.lstore_n k4, 1)) (hi : (k4 : Nat) = i) (hn : i + 1 < nL) (hl2 : lset ls i (.long x) = ls') (k : G X cs sl (pc + 1) ls' st P) : G X cs sl pc ls (.long x :: st) P := fun H locs la hl hP hS => lv_lstore_n hX.1 hX.2.1 hd hi (hl) (by rw [hX.2.2.1]; exact hn) rfl (fun la2 h2 => k H locs la2 (by rw [← hl2]; exact lset_has2 (v := .long x) rfl h2) hP hS)
theorem g_lstore (hX : Cx X cc nL own Ts R) {i : Nat} {x : Int64} (hd : decode cc pc = .ok (.lstore i, 2)) (hn : i + 1 < nL) (hl2 : lset ls i (.long x) = ls') (k : G X cs sl (pc + 2) ls' st P) : G X cs sl pc ls (.long x :: st) P := fun H locs la hl hP hS => lv_lstore hX.1 hX.2.1 hd (hl) (by rw [hX.2.2.1]; exact hn) rfl (fun la2 h2 => k H locs la2 (by rw [← hl2]; exact lset_has2 (v := .long x) rfl h2) hP hS)
theorem g_aload_n (hX : Cx X cc nL own Ts R) {k4 : Fin 4} {i : Nat} {x : Nat} (j : Nat) (hj : ls[j]? = some (i, .ref x)) (hi : (k4 : Nat) = i) (hd : decode cc pc = .ok (.aload_n k4, 1))  (k : G X cs sl (pc + 1) ls (.ref x :: st) P) : G X cs sl pc ls (st) P := fun H locs la hl hP hS => lv_aload_n hX.1 hX.2.1 hd hi (g_at hl hj) (k H locs la hl hP hS)
theorem g_aload (hX : Cx X cc nL own Ts R) {i : Nat} {x : Nat} (j : Nat) (hj : ls[j]? = some (i, .ref x)) (hd : decode cc pc = .ok (.aload i, 2))  (k : G X cs sl (pc + 2) ls (.ref x :: st) P) : G X cs sl pc ls (st) P := fun H locs la hl hP hS => lv_aload hX.1 hX.2.1 hd (g_at hl hj) (k H locs la hl hP hS)
theorem g_astore_n (hX : Cx X cc nL own Ts R) {k4 : Fin 4} {i : Nat} {x : Nat} (hd : decode cc pc = .ok (.astore_n k4, 1)) (hi : (k4 : Nat) = i) (hn : i < nL) (hl2 : lset ls i (.ref x) = ls') (k : G X cs sl (pc + 1) ls' st P) : G X cs sl pc ls (.ref x :: st) P := fun H locs la hl hP hS => lv_astore_n hX.1 hX.2.1 hd hi (hl) (by rw [hX.2.2.1]; exact hn) rfl (fun la2 h2 => k H locs la2 (by rw [← hl2]; exact lset_has1 (v := .ref x) rfl h2) hP hS)
theorem g_astore (hX : Cx X cc nL own Ts R) {i : Nat} {x : Nat} (hd : decode cc pc = .ok (.astore i, 2)) (hn : i < nL) (hl2 : lset ls i (.ref x) = ls') (k : G X cs sl (pc + 2) ls' st P) : G X cs sl pc ls (.ref x :: st) P := fun H locs la hl hP hS => lv_astore hX.1 hX.2.1 hd (hl) (by rw [hX.2.2.1]; exact hn) rfl (fun la2 h2 => k H locs la2 (by rw [← hl2]; exact lset_has1 (v := .ref x) rfl h2) hP hS)
theorem g_iinc (hX : Cx X cc nL own Ts R) {i : Nat} {n : Int} {x v : Int32} (j : Nat) (hj : ls[j]? = some (i, .int x)) (hd : decode cc pc = .ok (.iinc i n, 3)) (hv : x + Int32.ofInt n = v) (hn : i < nL) (hl2 : lset ls i (.int v) = ls') (k : G X cs sl (pc + 3) ls' st P) : G X cs sl pc ls st P := fun H locs la hl hP hS => lv_iinc (k := j) hX.1 hX.2.1 hd hl (by rw [List.getElem?_map, hj]; rfl) hv (by rw [hX.2.2.1]; exact hn) rfl (fun la2 h2 => k H locs la2 (by rw [← hl2]; exact lset_has1 (v := .int v) rfl h2) hP hS)
theorem g_iadd (hX : Cx X cc nL own Ts R) {x y : Int32} (hd : decode cc pc = .ok (.iadd, 1))  (k : G X cs sl (pc + 1) ls (.int (x + y) :: st) P) : G X cs sl pc ls (.int y :: .int x :: st) P := fun H locs la hl hP hS => lv_iadd hX.1 hX.2.1 hd (k H locs la hl hP hS)
theorem g_isub (hX : Cx X cc nL own Ts R) {x y : Int32} (hd : decode cc pc = .ok (.isub, 1))  (k : G X cs sl (pc + 1) ls (.int (x - y) :: st) P) : G X cs sl pc ls (.int y :: .int x :: st) P := fun H locs la hl hP hS => lv_isub hX.1 hX.2.1 hd (k H locs la hl hP hS)
theorem g_imul (hX : Cx X cc nL own Ts R) {x y : Int32} (hd : decode cc pc = .ok (.imul, 1))  (k : G X cs sl (pc + 1) ls (.int (x * y) :: st) P) : G X cs sl pc ls (.int y :: .int x :: st) P := fun H locs la hl hP hS => lv_imul hX.1 hX.2.1 hd (k H locs la hl hP hS)
theorem g_iand (hX : Cx X cc nL own Ts R) {x y : Int32} (hd : decode cc pc = .ok (.iand, 1))  (k : G X cs sl (pc + 1) ls (.int (x &&& y) :: st) P) : G X cs sl pc ls (.int y :: .int x :: st) P := fun H locs la hl hP hS => lv_iand hX.1 hX.2.1 hd (k H locs la hl hP hS)
theorem g_ior (hX : Cx X cc nL own Ts R) {x y : Int32} (hd : decode cc pc = .ok (.ior, 1))  (k : G X cs sl (pc + 1) ls (.int (x ||| y) :: st) P) : G X cs sl pc ls (.int y :: .int x :: st) P := fun H locs la hl hP hS => lv_ior hX.1 hX.2.1 hd (k H locs la hl hP hS)
theorem g_ixor (hX : Cx X cc nL own Ts R) {x y : Int32} (hd : decode cc pc = .ok (.ixor, 1))  (k : G X cs sl (pc + 1) ls (.int (x ^^^ y) :: st) P) : G X cs sl pc ls (.int y :: .int x :: st) P := fun H locs la hl hP hS => lv_ixor hX.1 hX.2.1 hd (k H locs la hl hP hS)
theorem g_ladd (hX : Cx X cc nL own Ts R) {x y : Int64} (hd : decode cc pc = .ok (.ladd, 1))  (k : G X cs sl (pc + 1) ls (.long (x + y) :: st) P) : G X cs sl pc ls (.long y :: .long x :: st) P := fun H locs la hl hP hS => lv_ladd hX.1 hX.2.1 hd (k H locs la hl hP hS)
theorem g_lsub (hX : Cx X cc nL own Ts R) {x y : Int64} (hd : decode cc pc = .ok (.lsub, 1))  (k : G X cs sl (pc + 1) ls (.long (x - y) :: st) P) : G X cs sl pc ls (.long y :: .long x :: st) P := fun H locs la hl hP hS => lv_lsub hX.1 hX.2.1 hd (k H locs la hl hP hS)
theorem g_lmul (hX : Cx X cc nL own Ts R) {x y : Int64} (hd : decode cc pc = .ok (.lmul, 1))  (k : G X cs sl (pc + 1) ls (.long (x * y) :: st) P) : G X cs sl pc ls (.long y :: .long x :: st) P := fun H locs la hl hP hS => lv_lmul hX.1 hX.2.1 hd (k H locs la hl hP hS)
theorem g_land (hX : Cx X cc nL own Ts R) {x y : Int64} (hd : decode cc pc = .ok (.land, 1))  (k : G X cs sl (pc + 1) ls (.long (x &&& y) :: st) P) : G X cs sl pc ls (.long y :: .long x :: st) P := fun H locs la hl hP hS => lv_land hX.1 hX.2.1 hd (k H locs la hl hP hS)
theorem g_lor (hX : Cx X cc nL own Ts R) {x y : Int64} (hd : decode cc pc = .ok (.lor, 1))  (k : G X cs sl (pc + 1) ls (.long (x ||| y) :: st) P) : G X cs sl pc ls (.long y :: .long x :: st) P := fun H locs la hl hP hS => lv_lor hX.1 hX.2.1 hd (k H locs la hl hP hS)
theorem g_lxor (hX : Cx X cc nL own Ts R) {x y : Int64} (hd : decode cc pc = .ok (.lxor, 1))  (k : G X cs sl (pc + 1) ls (.long (x ^^^ y) :: st) P) : G X cs sl pc ls (.long y :: .long x :: st) P := fun H locs la hl hP hS => lv_lxor hX.1 hX.2.1 hd (k H locs la hl hP hS)
def jshl (x y : Int32) : Int32 := x <<< (y &&& 31)
def jshr (x y : Int32) : Int32 := x >>> (y &&& 31)
def jushr (x y : Int32) : Int32 := (x.toUInt32 >>> (y.toUInt32 &&& Int32.toUInt32 31)).toInt32
def jlshl (x : Int64) (y : Int32) : Int64 := x <<< (y.toInt64 &&& 63)
def jlshr (x : Int64) (y : Int32) : Int64 := x >>> (y.toInt64 &&& 63)
def jlushr (x : Int64) (y : Int32) : Int64 := (x.toUInt64 >>> (y.toInt64.toUInt64 &&& Int64.toUInt64 63)).toInt64
def jrem (x y : Int32) : Int32 := x - x / y * y
def jcmp (x y : Int64) : Int32 := lg_cmp x y
theorem g_ishl (hX : Cx X cc nL own Ts R) {x y : Int32} (hd : decode cc pc = .ok (.ishl, 1))  (k : G X cs sl (pc + 1) ls (.int (jshl x y) :: st) P) : G X cs sl pc ls (.int y :: .int x :: st) P := fun H locs la hl hP hS => lv_ishl hX.1 hX.2.1 hd (k H locs la hl hP hS)
theorem g_ishr (hX : Cx X cc nL own Ts R) {x y : Int32} (hd : decode cc pc = .ok (.ishr, 1))  (k : G X cs sl (pc + 1) ls (.int (jshr x y) :: st) P) : G X cs sl pc ls (.int y :: .int x :: st) P := fun H locs la hl hP hS => lv_ishr hX.1 hX.2.1 hd (k H locs la hl hP hS)
theorem g_iushr (hX : Cx X cc nL own Ts R) {x y : Int32} (hd : decode cc pc = .ok (.iushr, 1))  (k : G X cs sl (pc + 1) ls (.int (jushr x y) :: st) P) : G X cs sl pc ls (.int y :: .int x :: st) P := fun H locs la hl hP hS => lv_iushr hX.1 hX.2.1 hd rfl (k H locs la hl hP hS)
theorem g_lshl (hX : Cx X cc nL own Ts R) {x : Int64} {y : Int32} (hd : decode cc pc = .ok (.lshl, 1))  (k : G X cs sl (pc + 1) ls (.long (jlshl x y) :: st) P) : G X cs sl pc ls (.int y :: .long x :: st) P := fun H locs la hl hP hS => lv_lshl hX.1 hX.2.1 hd rfl (k H locs la hl hP hS)
theorem g_lshr (hX : Cx X cc nL own Ts R) {x : Int64} {y : Int32} (hd : decode cc pc = .ok (.lshr, 1))  (k : G X cs sl (pc + 1) ls (.long (jlshr x y) :: st) P) : G X cs sl pc ls (.int y :: .long x :: st) P := fun H locs la hl hP hS => lv_lshr hX.1 hX.2.1 hd rfl (k H locs la hl hP hS)
theorem g_lushr (hX : Cx X cc nL own Ts R) {x : Int64} {y : Int32} (hd : decode cc pc = .ok (.lushr, 1))  (k : G X cs sl (pc + 1) ls (.long (jlushr x y) :: st) P) : G X cs sl pc ls (.int y :: .long x :: st) P := fun H locs la hl hP hS => lv_lushr hX.1 hX.2.1 hd rfl (k H locs la hl hP hS)
theorem g_idiv (hX : Cx X cc nL own Ts R) {x y : Int32} (hd : decode cc pc = .ok (.idiv, 1)) (hne : ¬ y = 0) (k : G X cs sl (pc + 1) ls (.int (x / y) :: st) P) : G X cs sl pc ls (.int y :: .int x :: st) P := fun H locs la hl hP hS => lv_idiv hX.1 hX.2.1 hd hne (k H locs la hl hP hS)
theorem g_irem (hX : Cx X cc nL own Ts R) {x y : Int32} (hd : decode cc pc = .ok (.irem, 1)) (hne : ¬ y = 0) (k : G X cs sl (pc + 1) ls (.int (jrem x y) :: st) P) : G X cs sl pc ls (.int y :: .int x :: st) P := fun H locs la hl hP hS => lv_irem hX.1 hX.2.1 hd hne (k H locs la hl hP hS)
theorem g_i2l (hX : Cx X cc nL own Ts R) {x : Int32} (hd : decode cc pc = .ok (.i2l, 1))  (k : G X cs sl (pc + 1) ls (.long x.toInt64 :: st) P) : G X cs sl pc ls (.int x :: st) P := fun H locs la hl hP hS => lv_i2l hX.1 hX.2.1 hd rfl (k H locs la hl hP hS)
theorem g_l2i (hX : Cx X cc nL own Ts R) {x : Int64} (hd : decode cc pc = .ok (.l2i, 1))  (k : G X cs sl (pc + 1) ls (.int x.toInt32 :: st) P) : G X cs sl pc ls (.long x :: st) P := fun H locs la hl hP hS => lv_l2i hX.1 hX.2.1 hd rfl (k H locs la hl hP hS)
theorem g_i2b (hX : Cx X cc nL own Ts R) {x : Int32} (hd : decode cc pc = .ok (.i2b, 1))  (k : G X cs sl (pc + 1) ls (.int x.toInt8.toInt32 :: st) P) : G X cs sl pc ls (.int x :: st) P := fun H locs la hl hP hS => lv_i2b hX.1 hX.2.1 hd rfl (k H locs la hl hP hS)
theorem g_dup (hX : Cx X cc nL own Ts R) {v : Value} (hd : decode cc pc = .ok (.dup, 1)) (hc : v.category = 1) (k : G X cs sl (pc + 1) ls (v :: v :: st) P) : G X cs sl pc ls (v :: st) P := fun H locs la hl hP hS => lv_dup hX.1 hX.2.1 hd (by rw [cv_cat]; exact hc) (k H locs la hl hP hS)
theorem g_pop (hX : Cx X cc nL own Ts R) {v : Value} (hd : decode cc pc = .ok (.pop, 1)) (hc : v.category = 1) (k : G X cs sl (pc + 1) ls (st) P) : G X cs sl pc ls (v :: st) P := fun H locs la hl hP hS => lv_pop hX.1 hX.2.1 hd (by rw [cv_cat]; exact hc) (k H locs la hl hP hS)
theorem g_dup2 (hX : Cx X cc nL own Ts R) {v u : Value} (hd : decode cc pc = .ok (.dup2, 1)) (hc : v.category = 1) (hc2 : u.category = 1) (k : G X cs sl (pc + 1) ls (v :: u :: v :: u :: st) P) : G X cs sl pc ls (v :: u :: st) P := fun H locs la hl hP hS => lv_dup2_11 hX.1 hX.2.1 hd (by rw [cv_cat]; exact hc) (by rw [cv_cat]; exact hc2) (k H locs la hl hP hS)
theorem g_dup2L (hX : Cx X cc nL own Ts R) {v : Value} (hd : decode cc pc = .ok (.dup2, 1)) (hc : v.category = 2) (k : G X cs sl (pc + 1) ls (v :: v :: st) P) : G X cs sl pc ls (v :: st) P := fun H locs la hl hP hS => lv_dup2_2 hX.1 hX.2.1 hd (by rw [cv_cat]; exact hc) (k H locs la hl hP hS)
theorem g_dup_x1 (hX : Cx X cc nL own Ts R) {v u : Value} (hd : decode cc pc = .ok (.dup_x1, 1)) (hc : v.category = 1) (hc2 : u.category = 1) (k : G X cs sl (pc + 1) ls (v :: u :: v :: st) P) : G X cs sl pc ls (v :: u :: st) P := fun H locs la hl hP hS => lv_dup_x1 hX.1 hX.2.1 hd (by rw [cv_cat]; exact hc) (by rw [cv_cat]; exact hc2) (k H locs la hl hP hS)
theorem g_dup_x2 (hX : Cx X cc nL own Ts R) {v u z : Value} (hd : decode cc pc = .ok (.dup_x2, 1)) (hc : v.category = 1) (hc2 : u.category = 1) (hc3 : z.category = 1) (k : G X cs sl (pc + 1) ls (v :: u :: z :: v :: st) P) : G X cs sl pc ls (v :: u :: z :: st) P := fun H locs la hl hP hS => lv_dup_x2 hX.1 hX.2.1 hd (by rw [cv_cat]; exact hc) (by rw [cv_cat]; exact hc2) (by rw [cv_cat]; exact hc3) (k H locs la hl hP hS)
theorem g_lcmp (hX : Cx X cc nL own Ts R) {x y : Int64} (hd : decode cc pc = .ok (.lcmp, 1))  (k : G X cs sl (pc + 1) ls (.int (jcmp x y) :: st) P) : G X cs sl pc ls (.long y :: .long x :: st) P := fun H locs la hl hP hS => W.lcmp hX.1 hX.2.1 hd (k H locs la hl hP hS)
theorem g_if_eq (hX : Cx X cc nL own Ts R) {x : Int32} {off : Int} {tgt : Nat} (hd : decode cc pc = .ok (.ifCond .eq off, 3)) (ht : (pc : Int) + off = (tgt : Int)) (kt : x = 0 → G X cs sl tgt ls st P) (kf : ¬ x = 0 → G X cs sl (pc + 3) ls st P) : G X cs sl pc ls (.int x :: st) P := fun H locs la hl hP hS => lv_if_eq hX.1 hX.2.1 hd ht (fun h => kt h H locs la hl hP hS) (fun h => kf h H locs la hl hP hS)
theorem g_if_ne (hX : Cx X cc nL own Ts R) {x : Int32} {off : Int} {tgt : Nat} (hd : decode cc pc = .ok (.ifCond .ne off, 3)) (ht : (pc : Int) + off = (tgt : Int)) (kt : ¬ x = 0 → G X cs sl tgt ls st P) (kf : x = 0 → G X cs sl (pc + 3) ls st P) : G X cs sl pc ls (.int x :: st) P := fun H locs la hl hP hS => lv_if_ne hX.1 hX.2.1 hd ht (fun h => kt h H locs la hl hP hS) (fun h => kf h H locs la hl hP hS)
theorem g_if_lt (hX : Cx X cc nL own Ts R) {x : Int32} {off : Int} {tgt : Nat} (hd : decode cc pc = .ok (.ifCond .lt off, 3)) (ht : (pc : Int) + off = (tgt : Int)) (kt : x < 0 → G X cs sl tgt ls st P) (kf : ¬ x < 0 → G X cs sl (pc + 3) ls st P) : G X cs sl pc ls (.int x :: st) P := fun H locs la hl hP hS => lv_if_lt hX.1 hX.2.1 hd ht (fun h => kt h H locs la hl hP hS) (fun h => kf h H locs la hl hP hS)
theorem g_if_ge (hX : Cx X cc nL own Ts R) {x : Int32} {off : Int} {tgt : Nat} (hd : decode cc pc = .ok (.ifCond .ge off, 3)) (ht : (pc : Int) + off = (tgt : Int)) (kt : 0 ≤ x → G X cs sl tgt ls st P) (kf : ¬ 0 ≤ x → G X cs sl (pc + 3) ls st P) : G X cs sl pc ls (.int x :: st) P := fun H locs la hl hP hS => lv_if_ge hX.1 hX.2.1 hd ht (fun h => kt h H locs la hl hP hS) (fun h => kf h H locs la hl hP hS)
theorem g_if_gt (hX : Cx X cc nL own Ts R) {x : Int32} {off : Int} {tgt : Nat} (hd : decode cc pc = .ok (.ifCond .gt off, 3)) (ht : (pc : Int) + off = (tgt : Int)) (kt : 0 < x → G X cs sl tgt ls st P) (kf : ¬ 0 < x → G X cs sl (pc + 3) ls st P) : G X cs sl pc ls (.int x :: st) P := fun H locs la hl hP hS => lv_if_gt hX.1 hX.2.1 hd ht (fun h => kt h H locs la hl hP hS) (fun h => kf h H locs la hl hP hS)
theorem g_if_le (hX : Cx X cc nL own Ts R) {x : Int32} {off : Int} {tgt : Nat} (hd : decode cc pc = .ok (.ifCond .le off, 3)) (ht : (pc : Int) + off = (tgt : Int)) (kt : x ≤ 0 → G X cs sl tgt ls st P) (kf : ¬ x ≤ 0 → G X cs sl (pc + 3) ls st P) : G X cs sl pc ls (.int x :: st) P := fun H locs la hl hP hS => lv_if_le hX.1 hX.2.1 hd ht (fun h => kt h H locs la hl hP hS) (fun h => kf h H locs la hl hP hS)
theorem g_icmp_eq (hX : Cx X cc nL own Ts R) {x y : Int32} {off : Int} {tgt : Nat} (hd : decode cc pc = .ok (.if_icmp .eq off, 3)) (ht : (pc : Int) + off = (tgt : Int)) (kt : x = y → G X cs sl tgt ls st P) (kf : ¬ x = y → G X cs sl (pc + 3) ls st P) : G X cs sl pc ls (.int y :: .int x :: st) P := fun H locs la hl hP hS => lv_icmp_eq hX.1 hX.2.1 hd ht (fun h => kt h H locs la hl hP hS) (fun h => kf h H locs la hl hP hS)
theorem g_icmp_ne (hX : Cx X cc nL own Ts R) {x y : Int32} {off : Int} {tgt : Nat} (hd : decode cc pc = .ok (.if_icmp .ne off, 3)) (ht : (pc : Int) + off = (tgt : Int)) (kt : ¬ x = y → G X cs sl tgt ls st P) (kf : x = y → G X cs sl (pc + 3) ls st P) : G X cs sl pc ls (.int y :: .int x :: st) P := fun H locs la hl hP hS => lv_icmp_ne hX.1 hX.2.1 hd ht (fun h => kt h H locs la hl hP hS) (fun h => kf h H locs la hl hP hS)
theorem g_icmp_lt (hX : Cx X cc nL own Ts R) {x y : Int32} {off : Int} {tgt : Nat} (hd : decode cc pc = .ok (.if_icmp .lt off, 3)) (ht : (pc : Int) + off = (tgt : Int)) (kt : x < y → G X cs sl tgt ls st P) (kf : ¬ x < y → G X cs sl (pc + 3) ls st P) : G X cs sl pc ls (.int y :: .int x :: st) P := fun H locs la hl hP hS => lv_icmp_lt hX.1 hX.2.1 hd ht (fun h => kt h H locs la hl hP hS) (fun h => kf h H locs la hl hP hS)
theorem g_icmp_ge (hX : Cx X cc nL own Ts R) {x y : Int32} {off : Int} {tgt : Nat} (hd : decode cc pc = .ok (.if_icmp .ge off, 3)) (ht : (pc : Int) + off = (tgt : Int)) (kt : y ≤ x → G X cs sl tgt ls st P) (kf : ¬ y ≤ x → G X cs sl (pc + 3) ls st P) : G X cs sl pc ls (.int y :: .int x :: st) P := fun H locs la hl hP hS => lv_icmp_ge hX.1 hX.2.1 hd ht (fun h => kt h H locs la hl hP hS) (fun h => kf h H locs la hl hP hS)
theorem g_icmp_gt (hX : Cx X cc nL own Ts R) {x y : Int32} {off : Int} {tgt : Nat} (hd : decode cc pc = .ok (.if_icmp .gt off, 3)) (ht : (pc : Int) + off = (tgt : Int)) (kt : y < x → G X cs sl tgt ls st P) (kf : ¬ y < x → G X cs sl (pc + 3) ls st P) : G X cs sl pc ls (.int y :: .int x :: st) P := fun H locs la hl hP hS => lv_icmp_gt hX.1 hX.2.1 hd ht (fun h => kt h H locs la hl hP hS) (fun h => kf h H locs la hl hP hS)
theorem g_icmp_le (hX : Cx X cc nL own Ts R) {x y : Int32} {off : Int} {tgt : Nat} (hd : decode cc pc = .ok (.if_icmp .le off, 3)) (ht : (pc : Int) + off = (tgt : Int)) (kt : x ≤ y → G X cs sl tgt ls st P) (kf : ¬ x ≤ y → G X cs sl (pc + 3) ls st P) : G X cs sl pc ls (.int y :: .int x :: st) P := fun H locs la hl hP hS => lv_icmp_le hX.1 hX.2.1 hd ht (fun h => kt h H locs la hl hP hS) (fun h => kf h H locs la hl hP hS)
theorem g_goto (hX : Cx X cc nL own Ts R) {off : Int} {tgt : Nat} (hd : decode cc pc = .ok (.goto off, 3)) (ht : (pc : Int) + off = (tgt : Int)) (k : G X cs sl tgt ls st P) : G X cs sl pc ls st P := fun H locs la hl hP hS => lv_goto hX.1 hX.2.1 hd ht (k H locs la hl hP hS)
theorem g_ldc (hX : Cx X cc nL own Ts R) {i : Nat} {v : Int32} (hc : Jvm.Cond.constant own i v ∈ Ts) (hd : decode cc pc = .ok (.ldc i, 2)) (k : G X cs sl (pc + 2) ls (.int v :: st) P) : G X cs sl pc ls st P := fun H locs la hl hP hS => lv_ldc hX.1 hX.2.1 hX.2.2.2.2.1 (hX.2.2.2.2.2.1 _ hc) hd (k H locs la hl hP hS)
theorem g_ldcw (hX : Cx X cc nL own Ts R) {i : Nat} {v : Int32} (hc : Jvm.Cond.constant own i v ∈ Ts) (hd : decode cc pc = .ok (.ldc_w i, 3)) (k : G X cs sl (pc + 3) ls (.int v :: st) P) : G X cs sl pc ls st P := fun H locs la hl hP hS => lv_ldcw hX.1 hX.2.1 hX.2.2.2.2.1 (hX.2.2.2.2.2.1 _ hc) hd (k H locs la hl hP hS)
theorem g_ldc2 (hX : Cx X cc nL own Ts R) {i : Nat} {v : Int64} (hc : Jvm.Cond.constantLong own i v ∈ Ts) (hd : decode cc pc = .ok (.ldc2_w i, 3)) (k : G X cs sl (pc + 3) ls (.long v :: st) P) : G X cs sl pc ls st P := fun H locs la hl hP hS => lv_ldc2 hX.1 hX.2.1 hX.2.2.2.2.1 (hX.2.2.2.2.2.1 _ hc) hd (k H locs la hl hP hS)
theorem g_lookup (hX : Cx X cc nL own Ts R) {dflt : Int} {ps : Array (Int × Int)} {len : Nat} {x : Int32} {off : Int} {tgt : Nat} (hd : decode cc pc = .ok (.lookupswitch dflt ps, len)) (hp : (ps.toList.zip (ps.toList.drop 1)).all (fun (a, next) => a.1 < next.1) = true) (ho : Op.lookupswitch.offset ps.toList dflt x.toInt = off) (ht : (pc : Int) + off = (tgt : Int)) (k : G X cs sl tgt ls st P) : G X cs sl pc ls (.int x :: st) P := fun H locs la hl hP hS => lv_lookup hX.1 hX.2.1 hd hp ho ht (k H locs la hl hP hS)
theorem g_tableOut (hX : Cx X cc nL own Ts R) {dflt lo hi : Int} {offs : Array Int} {len : Nat} {x : Int32} {tgt : Nat} (hd : decode cc pc = .ok (.tableswitch dflt lo hi offs, len)) (h : x.toInt < lo ∨ hi < x.toInt) (ht : (pc : Int) + dflt = (tgt : Int)) (k : G X cs sl tgt ls st P) : G X cs sl pc ls (.int x :: st) P := fun H locs la hl hP hS => lv_tableOut hX.1 hX.2.1 hd h ht (k H locs la hl hP hS)
theorem g_tableIn (hX : Cx X cc nL own Ts R) {dflt lo hi : Int} {offs : Array Int} {len : Nat} {x : Int32} {off : Int} {tgt : Nat} (hd : decode cc pc = .ok (.tableswitch dflt lo hi offs, len)) (h1 : ¬ x.toInt < lo) (h2 : ¬ hi < x.toInt) (ho : offs[(x.toInt - lo).toNat]? = some off) (ht : (pc : Int) + off = (tgt : Int)) (k : G X cs sl tgt ls st P) : G X cs sl pc ls (.int x :: st) P := fun H locs la hl hP hS => lv_tableIn hX.1 hX.2.1 hd h1 h2 ho ht (k H locs la hl hP hS)
end
