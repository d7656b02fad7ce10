/-! The abstract machine's states as the machine's: addresses, values, cells, worlds. -/
def am_ad (b N0 k : Nat) : Nat := match k with
  | 0 => b
  | k + 1 => N0 + k
def am_cv (b N0 : Nat) : am_V → Value
  | .inl x => .int x
  | .inr (.inl x) => .long x
  | .inr (.inr (k, none)) => .ref (am_ad b N0 k)
  | .inr (.inr (k, some j)) => .ref (N0 + k + j)
def am_fv (b N0 : Nat) (s : am_M) (k j : Nat) : Option (Option Nat) → Value
  | none => .int (s.1 k j)
  | some none => .null
  | some (some k') => .ref (am_ad b N0 k')
def am_ce (b N0 : Nat) (aC : FieldType → ClassId) (s : am_M) (k : Nat) : am_Sh → va_E
  | .inl (ty, n, none) => .inl (aC ty, n, if ty = .long then .inr (.inl (s.2 k)) else .inl (s.1 k))
  | .inl (ty, n, some _) => .inl (aC (.array ty), n, .inr (.inr (.inr (.inr (fun i => if i < n then some (N0 + k + i) else none)))))
  | .inr (ci, fs) => .inr (ci, fs.mapIdx (fun j x => am_fv b N0 s k j x))
def am_ws (b N0 : Nat) (aC : FieldType → ClassId) (sh : List am_Sh) (s : am_M) : va_W := sh.tail.mapIdx (fun k q => (N0 + k, am_ce b N0 aC s (k + 1) q))
theorem am_ws_at {b N0 : Nat} {aC : FieldType → ClassId} {sh : List am_Sh} {s : am_M} (k : Nat) : (am_ws b N0 aC sh s)[k]? = (sh[k + 1]?).map (fun q => (N0 + k, am_ce b N0 aC s (k + 1) q)) := by
  unfold am_ws
  rw [List.getElem?_mapIdx, List.getElem?_tail]
theorem am_ws_D {b N0 : Nat} {aC : FieldType → ClassId} {sh : List am_Sh} {s : am_M} : va_D (fun q => N0 ≤ q) (am_ws b N0 aC sh s) := by
  have key : ∀ (k : Nat) (q : Nat × va_E), (am_ws b N0 aC sh s)[k]? = some q → q.1 = N0 + k := by
    intro k q h
    rw [am_ws_at] at h
    obtain ⟨x, -, rfl⟩ := Option.map_eq_some_iff.mp h
    rfl
  refine ⟨fun i j p q hi hj e => ?_, fun k q h => ?_⟩
  · have h1 := key i p hi
    have h2 := key j q hj
    omega
  · show N0 ≤ q.1
    rw [key k q h]
    exact Nat.le_add_right _ _
theorem am_ce_eq {b N0 : Nat} {aC : FieldType → ClassId} {s s' : am_M} {k : Nat} (h1 : s'.1 k = s.1 k) (h2 : s'.2 k = s.2 k) (q : am_Sh) : am_ce b N0 aC s' k q = am_ce b N0 aC s k q := by
  rcases q with ⟨ty, n, _ | m⟩ | ⟨ci, fs⟩
  · simp only [am_ce, h1, h2]
  · rfl
  · simp only [am_ce]
    have e : (fun j x => am_fv b N0 s' k j x) = (fun j x => am_fv b N0 s k j x) := by
      funext j x
      rcases x with _ | _ | x
      · simp only [am_fv, h1]
      · rfl
      · rfl
    rw [e]
/-- one cell of the world is written -/
theorem am_ws_set {b N0 : Nat} {aC : FieldType → ClassId} {sh sh' : List am_Sh} {s s' : am_M} {k : Nat} {q' : am_Sh} {e : va_E} (hk : k + 1 < sh.length) (hsh : sh' = sh.set (k + 1) q') (hs : ∀ j, j ≠ k + 1 → s'.1 j = s.1 j ∧ s'.2 j = s.2 j) (he : e = am_ce b N0 aC s' (k + 1) q') :
    (am_ws b N0 aC sh s).set k (N0 + k, e) = am_ws b N0 aC sh' s' := by
  apply List.ext_getElem?
  intro i
  have hl : (am_ws b N0 aC sh s).length = sh.length - 1 := by unfold am_ws; rw [List.length_mapIdx, List.length_tail]
  by_cases hi : i = k
  · subst hi
    rw [List.getElem?_set_self (by omega), am_ws_at, hsh, List.getElem?_set_self hk, he]
    rfl
  · rw [List.getElem?_set_ne (fun z => hi z.symm), am_ws_at, am_ws_at, hsh, List.getElem?_set_ne (by omega)]
    congr 1
    funext q
    rw [am_ce_eq (hs (i + 1) (by omega)).1 (hs (i + 1) (by omega)).2]
theorem am_ws_put {b N0 : Nat} {aC : FieldType → ClassId} {sh : List am_Sh} {s s' : am_M} {k : Nat} {q' : am_Sh} {e : va_E} (hk : sh[k + 1]? = some q') (hs : ∀ j, j ≠ k + 1 → s'.1 j = s.1 j ∧ s'.2 j = s.2 j) (he : e = am_ce b N0 aC s' (k + 1) q') :
    (am_ws b N0 aC sh s).set k (N0 + k, e) = am_ws b N0 aC sh s' := by
  have hl := (List.getElem?_eq_some_iff.mp hk).1
  refine am_ws_set hl ?_ hs he
  have := (List.getElem?_eq_some_iff.mp hk).2
  rw [← this, List.set_getElem_self]
theorem am_put_self (s : am_M) (k i : Nat) (v : Int32) : (am_put s k i v).1 k = upd (s.1 k) i v := if_pos rfl
theorem am_put_ne (s : am_M) (k i : Nat) (v : Int32) : ∀ j, j ≠ k → (am_put s k i v).1 j = s.1 j ∧ (am_put s k i v).2 j = s.2 j := fun j h => ⟨if_neg h, rfl⟩
theorem am_putL_self (s : am_M) (k i : Nat) (v : Int64) : (am_putL s k i v).2 k = vp_updL (s.2 k) i v := if_pos rfl
theorem am_putL_ne (s : am_M) (k i : Nat) (v : Int64) : ∀ j, j ≠ k → (am_putL s k i v).1 j = s.1 j ∧ (am_putL s k i v).2 j = s.2 j := fun j h => ⟨rfl, if_neg h⟩
/-- the locals -/
def am_LV (b N0 : Nat) (arr : Array Slot) (nL : Nat) (ls : am_Ls) : Prop := ls.length = nL ∧ ∃ l, lv_has arr nL l ∧ ∀ (i : Nat) (v : am_V), ls[i]? = some (some v) → (i, am_cv b N0 v) ∈ l
theorem am_LV.at {b N0 : Nat} {arr : Array Slot} {nL : Nat} {ls : am_Ls} (h : am_LV b N0 arr nL ls) {i : Nat} {v : am_V} (hv : ls[i]? = some (some v)) : arr[i]? = some (.val (am_cv b N0 v)) := by
  obtain ⟨-, l, hl, hm⟩ := h
  exact hl.2.2 _ (hm i v hv)
theorem am_LV.size {b N0 : Nat} {arr : Array Slot} {nL : Nat} {ls : am_Ls} (h : am_LV b N0 arr nL ls) : arr.size = nL := h.2.choose_spec.1.1
/-- no long among the locals -/
def am_NL (ls : am_Ls) : Prop := ∀ (i : Nat) (x : Int64), ls[i]? ≠ some (some (.inr (.inl x)))
theorem am_cv_cat {b N0 : Nat} {v : am_V} (h : ∀ x, v ≠ .inr (.inl x)) : (am_cv b N0 v).category = 1 := by
  rcases v with x | x | ⟨k, _ | j⟩
  · rfl
  · exact absurd rfl (h x)
  · rfl
  · rfl
theorem am_LV.set1 {b N0 : Nat} {arr' : Array Slot} {nL : Nat} {ls : am_Ls} {l : List (Nat × Value)} {i : Nat} {v : am_V} (h0 : ls.length = nL) (hi : i < nL) (hm : ∀ (i : Nat) (v : am_V), ls[i]? = some (some v) → (i, am_cv b N0 v) ∈ l) (hn : am_NL ls) (h : lv_has arr' nL ((i, am_cv b N0 v) :: l.filter (fun q => !(q.1 == i) && !(q.1 + 1 == i && q.2.category == 2)))) : am_LV b N0 arr' nL (ls.set i (some v)) := by
  refine ⟨by rw [List.length_set]; exact h0, _, h, fun j w hw => ?_⟩
  by_cases e : j = i
  · subst e
    rw [List.getElem?_set_self (by omega)] at hw
    cases hw
    exact List.mem_cons_self
  · rw [List.getElem?_set_ne (fun z => e z.symm)] at hw
    refine List.mem_cons_of_mem _ (List.mem_filter.mpr ⟨hm j w hw, ?_⟩)
    have hc : (am_cv b N0 w).category = 1 := am_cv_cat fun x hx => hn j x (hx ▸ hw)
    simp [e, hc]
theorem am_NL.set {ls : am_Ls} (h : am_NL ls) (i : Nat) {v : am_V} (hv : ∀ x, v ≠ .inr (.inl x)) : am_NL (ls.set i (some v)) := by
  intro j x hj
  by_cases e : j = i
  · subst e
    by_cases hl : j < ls.length
    · rw [List.getElem?_set_self hl] at hj
      cases hj
      exact hv x rfl
    · rw [List.getElem?_eq_none (by rw [List.length_set]; omega)] at hj
      cases hj
  · rw [List.getElem?_set_ne (fun z => e z.symm)] at hj
    exact h j x hj
theorem am_LV.set2 {b N0 : Nat} {arr' : Array Slot} {nL : Nat} {ls : am_Ls} {l : List (Nat × Value)} {i : Nat} {x : Int64} (h0 : ls.length = nL) (hi : i + 1 < nL) (hm : ∀ (i : Nat) (v : am_V), ls[i]? = some (some v) → (i, am_cv b N0 v) ∈ l) (hp : ∀ j, j + 1 = i → ∀ y, ls[j]? ≠ some (some (.inr (.inl y)))) (h : lv_has arr' nL ((i, Value.long x) :: l.filter (fun q => !(q.1 == i) && (!(q.1 == i + 1) && !(q.1 + 1 == i && q.2.category == 2))))) : am_LV b N0 arr' nL ((ls.set i (some (.inr (.inl x)))).set (i + 1) none) := by
  refine ⟨by rw [List.length_set, List.length_set]; exact h0, _, h, fun j w hw => ?_⟩
  by_cases e1 : j = i + 1
  · subst e1
    rw [List.getElem?_set_self (by rw [List.length_set]; omega)] at hw
    cases hw
  · rw [List.getElem?_set_ne (fun z => e1 z.symm)] at hw
    by_cases e : j = i
    · subst e
      rw [List.getElem?_set_self (by omega)] at hw
      cases hw
      exact List.mem_cons_self
    · rw [List.getElem?_set_ne (fun z => e z.symm)] at hw
      refine List.mem_cons_of_mem _ (List.mem_filter.mpr ⟨hm j w hw, ?_⟩)
      by_cases e2 : j + 1 = i
      · have hc : (am_cv b N0 w).category = 1 := am_cv_cat fun x hx => hp j e2 x (hx ▸ hw)
        simp [e, e1, hc]
      · simp [e, e1, e2]
/-- the classes of the worlds, and the array classes -/
abbrev am_cls : List vw_C := [(RX0, TX0, 6), (RX1, TX1, 4), (RX2, TX2, 6), (RX3, TX3, 5), (RX4, TX4, 10), (RX5, TX5, 26)]
abbrev am_tys (aC : FieldType → ClassId) : List (ClassId × FieldType) := [(aC .int, .int), (aC .boolean, .boolean), (aC .long, .long), (aC (.array .int), .array .int)]
def am_nest : Cond → Bool
  | .fieldLinkNest .. => true
  | .methodLinkNest .. => true
  | _ => false
/-- what 'arrayOver' of arrays of ints says -/
theorem am_over {args : Array Value} {s : State} (h : (Cond.arrayOver (.array .int)).before args s = true) : ∃ cI cA k, s.vm.findClass "[I" = some cI ∧ (s.vm.classes.findIdx? fun (x : Class) => match x.kind with | .array component _ => component == cI | _ => false) = some cA ∧ s.vm.classes[cA]? = some k ∧ k.kind = .array cI (.array .int) ∧ s.vm.findClass "[[I" = some cA := by
  have e1 : (FieldType.array .int).toString = "[I" := by decide
  have e2 : "[" ++ (FieldType.array .int).toString = "[[I" := by decide
  simp only [Cond.before, Cond.holds, Cond.value, beq_iff_eq, e1, e2] at h
  cases hc : s.vm.findClass "[I" with
  | none => simp [hc] at h
  | some cI =>
    simp only [hc, Option.bind_some, Option.bind_eq_some_iff, Option.map_eq_some_iff] at h
    obtain ⟨cA, hi, k, hk, hb⟩ := h
    obtain ⟨hlt, hp, -⟩ := Array.findIdx?_eq_some_iff_getElem.mp hi
    have hkk : s.vm.classes[cA] = k := (Array.getElem?_eq_some_iff.mp hk).2
    rw [hkk] at hp
    cases hkind : k.kind with
    | array component ty =>
      rw [hkind] at hb hp
      simp at hb hp
      exact ⟨cI, cA, k, rfl, hi, hk, by rw [hkind, hp, hb.1], by simpa using hb.2⟩
    | _ => rw [hkind] at hb; simp at hb
theorem am_AO_moved {u U : State} (hvm : u.vm.Alike U.vm) {A A' : Array Value} (h : (Cond.arrayOver (.array .int)).before A u = true) : (Cond.arrayOver (.array .int)).before A' U = true := by
  obtain ⟨cI, cA, k, h1, h2, h3, h4, h5⟩ := am_over h
  obtain ⟨k', hk', he⟩ := hvm.2.2 _ _ h3
  have hi : (U.vm.classes.findIdx? fun (x : Class) => match x.kind with | .array component _ => component == cI | _ => false) = some cA := by
    refine (va_idx_bare U.vm cI).symm.trans ?_
    first | rw [hvm.bare_eq] | rw [← hvm.bare_eq]
    exact (va_idx_bare u.vm cI).trans h2
  have hkind : k'.kind = .array cI (.array .int) := by rw [he]; exact h4
  have e1 : (FieldType.array .int).toString = "[I" := by decide
  have f1 : U.vm.findClass (FieldType.array .int).toString = some cI := by rw [e1, hvm.findClass]; exact h1
  have f2 : U.vm.findClass ("[" ++ (FieldType.array .int).toString) = some cA := by rw [e1, hvm.findClass]; exact h5
  unfold Cond.before Cond.holds
  simp only [Cond.value]
  rw [f1, Option.bind_some]
  refine (congrArg (fun o : Option Nat => (o.bind (fun c => (U.vm.classes[c]?).map fun (k : Class) => match k.kind with | .array _ ty => decide (ty = FieldType.array .int) && decide (U.vm.findClass ("[" ++ (FieldType.array .int).toString) = some c) | _ => false) == some true)) hi).trans ?_
  simp [hk', hkind, f2]
def am_AO (U : State) : Prop := (Cond.arrayOver (.array .int)).before #[] U = true
/-- what the tables say, at a state -/
def am_St (D : va_G) (aC : FieldType → ClassId) (U : State) : Prop := va_K D am_cls (am_tys aC) U ∧ (∀ w ∈ lw_tbl, am_nest w = true → va_Nw w U) ∧ am_AO U
theorem am_St.warm {D : va_G} {aC : FieldType → ClassId} {s U : State} (hW : s.WarmedH U.vm) (h : am_St D aC s) : am_St D aC U := by
  refine ⟨va_K.moved hW.alike h.1, fun w hw hn => ?_, am_AO_moved hW.alike h.2.2⟩
  have h1 := h.2.1 w hw hn
  cases w <;> first | exact va_Nw.warmF hW h1 | exact va_Nw.warmM hW h1 | (simp [am_nest] at hn; done)
theorem am_St.same {D : va_G} {aC : FieldType → ClassId} {s U : State} (hV : s.vm = U.vm) (h : am_St D aC s) : am_St D aC U := by
  refine ⟨va_K.moved (by rw [hV]; exact Vm.Alike.refl _) h.1, fun w hw hn => ?_, am_AO_moved (by rw [hV]; exact Vm.Alike.refl _) h.2.2⟩
  have h1 := h.2.1 w hw hn
  cases w <;> first | exact va_Nw.same rfl hV h1 | (simp [am_nest] at hn; done)
/-- a grid's rows stand behind it -/
def am_GW (sh : List am_Sh) : Prop := ∀ (k : Nat) (t : FieldType) (N n : Nat), sh[k]? = some (.inl (t, N, some n)) → ∀ j, j < N → sh[k + 1 + j]? = some (.inl (t, n, none))
/-- the world at a heap -/
def am_Wd (b N0 : Nat) (D : va_G) (aC : FieldType → ClassId) (L : Nat) (xs : Nat → Int32) (sh : List am_Sh) (s : am_M) (H : Heap) : Prop := va_P D am_cls (am_ws b N0 aC sh s) H ∧ H.size = N0 + (sh.length - 1) ∧ (sh[0]? = some (.inl (.int, L, none)) ∧ s.1 0 = xs) ∧ am_GW sh
/-- rows among the operands are rows of grids -/
def am_row (sh : List am_Sh) (k j : Nat) : Prop := ∃ (t : FieldType) (N n : Nat), sh[k]? = some (.inl (t, N, some n)) ∧ j < N
def am_VS (sh : List am_Sh) (st : List am_V) : Prop := ∀ k j, (Sum.inr (Sum.inr (k, some j)) : am_V) ∈ st → am_row sh k j
theorem am_VS.nil {sh : List am_Sh} : am_VS sh [] := fun _ _ h => by cases h
theorem am_VS.t {sh : List am_Sh} {v : am_V} {st : List am_V} (h : am_VS sh (v :: st)) : am_VS sh st := fun k j hm => h k j (List.mem_cons_of_mem _ hm)
theorem am_VS.c {sh : List am_Sh} {v : am_V} {st : List am_V} (h : am_VS sh st) (hv : ∀ k j, v ≠ .inr (.inr (k, some j))) : am_VS sh (v :: st) := fun k j hm => by
  rcases List.mem_cons.mp hm with e | e
  · exact absurd e.symm (hv k j)
  · exact h k j e
theorem am_VS.i {sh : List am_Sh} {x : Int32} {st : List am_V} (h : am_VS sh st) : am_VS sh (.inl x :: st) := h.c fun _ _ e => by cases e
theorem am_VS.l {sh : List am_Sh} {x : Int64} {st : List am_V} (h : am_VS sh st) : am_VS sh (.inr (.inl x) :: st) := h.c fun _ _ e => by cases e
theorem am_VS.o {sh : List am_Sh} {k : Nat} {st : List am_V} (h : am_VS sh st) : am_VS sh (.inr (.inr (k, none)) :: st) := h.c fun _ _ e => by cases e
theorem am_VS.drop {sh : List am_Sh} {st : List am_V} (h : am_VS sh st) (n : Nat) : am_VS sh (st.drop n) := fun k j hm => h k j (List.mem_of_mem_drop hm)
theorem am_VS.le {sh sh' : List am_Sh} {st : List am_V} (h : am_VS sh st) (g : am_le sh sh') : am_VS sh' st := fun k j hm => by
  obtain ⟨t, N, n, h1, h2⟩ := h k j hm
  exact ⟨t, N, n, g.2.2 _ _ h1, h2⟩
/-- the cell of an array -/
theorem am_arr_at {b N0 : Nat} {sh : List am_Sh} {ty : FieldType} {k : Nat} {j : Option Nat} {q n : Nat} {r : List am_V} (h : am_arr sh ty k j = some (q, n)) (hV : am_VS sh (.inr (.inr (k, j)) :: r)) (hG : am_GW sh) : sh[q]? = some (.inl (ty, n, none)) ∧ ((k = 0 ∧ j = none ∧ q = 0) ∨ ∃ q', q = q' + 1 ∧ am_cv b N0 (.inr (.inr (k, j))) = .ref (N0 + q')) := by
  unfold am_arr at h
  cases j with
  | none =>
    dsimp only at h
    split at h
    · rename_i t n' hk
      split at h
      · rename_i ht
        cases h
        subst ht
        refine ⟨hk, ?_⟩
        cases k with
        | zero => exact Or.inl ⟨rfl, rfl, rfl⟩
        | succ k => exact Or.inr ⟨k, rfl, rfl⟩
      · cases h
    · cases h
  | some j =>
    dsimp only at h
    split at h
    · rename_i t N n' hk
      split at h
      · rename_i ht
        cases h
        subst ht
        obtain ⟨t', N', n'', h1, h2⟩ := hV k j List.mem_cons_self
        cases hk.symm.trans h1
        refine ⟨hG k _ _ _ hk j h2, Or.inr ⟨k + j, by omega, ?_⟩⟩
        show Value.ref (N0 + k + j) = .ref (N0 + (k + j))
        rw [Nat.add_assoc]
      · cases h
    · cases h
