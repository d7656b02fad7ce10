/-! A grid of ints is made: the machine's multianewarray of two dimensions, over this kit's picture of arrays (arrV). -/
/-- the outer array with i rows laid -/
def am_oc (cA : ClassId) (N h0 i : Nat) : Cell := arrV cA N (fun j => va_rf (if j < i then some (h0 + 1 + j) else none))
def am_ic (cI : ClassId) (M : Nat) : Cell := arrV cI M (fun _ => .int 0)
/-- the state with i rows laid -/
def am_gs (T : State) (cA cI : ClassId) (N M : Nat) : Nat → State
  | 0 => T.pushCell (am_oc cA N T.heap.size 0)
  | i + 1 => ((am_gs T cA cI N M i).pushCell (am_ic cI M)).setCell T.heap.size (am_oc cA N T.heap.size (i + 1))
theorem am_oc_next (cA : ClassId) (N h0 i : Nat) : (am_oc cA N h0 i).setSlot i (.ref (h0 + 1 + i)) = am_oc cA N h0 (i + 1) := by
  unfold am_oc
  rw [arrV_store]
  refine congrArg (arrV cA N) (funext fun j => ?_)
  by_cases e : j = i
  · subst e
    simp [updV, va_rf]
  · by_cases h : j < i
    · simp [updV, e, h, Nat.lt_succ_of_lt h]
    · simp [updV, e, h, show ¬ j < i + 1 by omega]
theorem am_oc_0 (cA : ClassId) (N h0 : Nat) : ({ cls := cA, slots := Array.replicate N .null, vm := .none } : Cell) = am_oc cA N h0 0 := by
  unfold am_oc
  rw [arrV_new]
  refine congrArg (arrV cA N) (funext fun j => ?_)
  simp [va_rf]
theorem am_ic_0 (cI : ClassId) (M : Nat) : ({ cls := cI, slots := Array.replicate M (.int 0), vm := .none } : Cell) = am_ic cI M := arrV_new ..
theorem am_oc_f (cA : ClassId) (N h0 i : Nat) : (am_oc cA N h0 i).cls = cA ∧ (am_oc cA N h0 i).vm = .none ∧ (am_oc cA N h0 i).slots.size = N := ⟨rfl, rfl, arrV_size ..⟩
theorem am_gs_f (T : State) (cA cI : ClassId) (N M : Nat) : ∀ i, (am_gs T cA cI N M i).heap.size = T.heap.size + 1 + i ∧ (am_gs T cA cI N M i).heap[T.heap.size]? = some (am_oc cA N T.heap.size i) ∧ (am_gs T cA cI N M i).vm = T.vm ∧ (am_gs T cA cI N M i).slotsUsed = T.slotsUsed + N + i * M
  | 0 => ⟨by simp [am_gs], by simp [am_gs], rfl, by simp [am_gs, (am_oc_f cA N T.heap.size 0).2.2]⟩
  | i + 1 => by
    obtain ⟨a, b, d, u⟩ := am_gs_f T cA cI N M i
    have hlt : T.heap.size < (am_gs T cA cI N M i).heap.size := by omega
    have hb' : ((am_gs T cA cI N M i).pushCell (am_ic cI M)).heap[T.heap.size]? = some (am_oc cA N T.heap.size i) := by rw [State.heap_pushCell_of_lt (h := hlt)]; exact b
    have hic : (am_ic cI M).slots.size = M := arrV_size ..
    refine ⟨?_, State.heap_setCell_self hb', by simp [am_gs, d], ?_⟩
    · simp [am_gs, State.setCell, a]; omega
    · simp [am_gs, u, hic, Nat.succ_mul]; omega
theorem am_gs_top (T : State) (f : JFrame) (cA cI : ClassId) (N M : Nat) : ∀ i, am_gs (T.setTop f) cA cI N M i = (am_gs T cA cI N M i).setTop f
  | 0 => rfl
  | i + 1 => by simp only [am_gs, am_gs_top T f cA cI N M i, State.heap_setTop, State.pushCell_setTop, State.setCell_setTop]
theorem am_gs_old (T : State) (cA cI : ClassId) (N M : Nat) {a : Addr} (ha : a < T.heap.size) : ∀ i, (am_gs T cA cI N M i).heap[a]? = T.heap[a]?
  | 0 => State.heap_pushCell_of_lt _ _ ha
  | i + 1 => by
    have f1 := (am_gs_f T cA cI N M i).1
    have hlt : a < (am_gs T cA cI N M i).heap.size := Nat.lt_of_lt_of_le ha (by rw [f1]; omega)
    show (((am_gs T cA cI N M i).pushCell (am_ic cI M)).setCell T.heap.size _).heap[a]? = _
    rw [State.heap_setCell_other (Nat.ne_of_gt ha), State.heap_pushCell_of_lt (h := hlt)]
    exact am_gs_old T cA cI N M ha i
theorem am_gs_row (T : State) (cA cI : ClassId) (N M : Nat) : ∀ i j, j < i → (am_gs T cA cI N M i).heap[T.heap.size + 1 + j]? = some (am_ic cI M)
  | 0, _, h => absurd h (Nat.not_lt_zero _)
  | i + 1, j, h => by
    have f1 := (am_gs_f T cA cI N M i).1
    show (((am_gs T cA cI N M i).pushCell (am_ic cI M)).setCell T.heap.size _).heap[T.heap.size + 1 + j]? = _
    rw [State.heap_setCell_other (show T.heap.size ≠ T.heap.size + 1 + j by omega)]
    rcases Nat.lt_or_ge j i with hj | hj
    · have hlt : T.heap.size + 1 + j < (am_gs T cA cI N M i).heap.size := by rw [f1]; omega
      rw [State.heap_pushCell_of_lt (h := hlt)]
      exact am_gs_row T cA cI N M i j hj
    · obtain rfl : j = i := by omega
      rw [← f1]
      exact State.heap_pushCell_size _ _
section AMWP
variable {E : CtlPost} {e : Env} {d : Bool} {acts : List Action} {s : State}
/-- one array is made -/
theorem am_wp_new {c comp : ClassId} {k : Class} {type : FieldType} {len : Nat} {init : Value} (hk : s.vm.classes[c]? = some k) (hkind : k.kind = .array comp type) (hlimit : ¬ len > e.platform.arrayLengthLimit) (hheap : ¬ len * componentBytes type > e.platform.maxHeapBytes) (hfit : fits type init = true) (hdef : init.isDefault = true) {Q : Addr → Pre}
    (h1 : s.heap.size < e.platform.maxCells) (h2 : s.slotsUsed + len ≤ e.platform.maxSlots) (hq : Q s.heap.size d acts (s.pushCell { cls := c, slots := Array.replicate len init, vm := .none })) : wp (Jvm.newArray c len init) Q E e d acts s := by
  have hfits : ∀ i v, (Array.replicate len init)[i]? = some v → s.fitsSlot c .none i v = true := by
    intro i v hv
    simp only [Array.getElem?_replicate] at hv
    split at hv
    · cases hv
      simp [State.fitsSlot, State.slotType?, hk, hkind, hfit]
    · cases hv
  have hall : ((Array.replicate len init).all (·.isDefault)) = true := by rw [Array.all_replicate]; split <;> simp [hdef]
  have hda : allocActs (Array.replicate len init) s.heap.size acts = acts := by unfold allocActs; rw [if_pos hall]
  simp only [Jvm.newArray, Jvm.arrayFits, wp_bind', Jvm.W.ask, Jvm.W.ite, hlimit, if_false, wp_pure', Jvm.W.theClass, hk, hkind, hheap, Jvm.W.alloc, Jvm.W.stop, Option.some.injEq, exists_eq_left', Array.size_replicate, hda]
  rw [if_neg (by omega)]
  exact ⟨h1, h2, hfits, hq⟩
/-- the machine's 'make' of a grid of ints -/
theorem am_wp_make {c cI cc : ClassId} {k kc : Class} {n m : Int32} (hk : s.vm.classes[c]? = some k) (hkind : k.kind = .array cI (.array .int)) (hkc : s.vm.classes[cI]? = some kc) (hkindc : kc.kind = .array cc .int) (hn : ¬ n < 0) (hm : ¬ m < 0)
    (hl1 : ¬ n.toNatClampNeg > e.platform.arrayLengthLimit) (hh1 : ¬ n.toNatClampNeg * componentBytes (.array .int) > e.platform.maxHeapBytes) (hl2 : ¬ m.toNatClampNeg > e.platform.arrayLengthLimit) (hh2 : ¬ m.toNatClampNeg * componentBytes .int > e.platform.maxHeapBytes)
    (hc : s.heap.size + 1 + n.toNatClampNeg ≤ e.platform.maxCells) (hs : s.slotsUsed + n.toNatClampNeg + n.toNatClampNeg * m.toNatClampNeg ≤ e.platform.maxSlots)
    {Q : Addr → Pre} (hq : ∀ d' acts', Q s.heap.size d' acts' (am_gs s c cI n.toNatClampNeg m.toNatClampNeg n.toNatClampNeg)) : wp (multianewarray.make c [n, m]) Q E e d acts s := by
  have hfind : ([m].find? (· < 0)) = none := by simp [hm]
  rw [multianewarray.make]
  simp only [wp_bind', Jvm.W.ite, hn, if_false, wp_pure', Jvm.W.theClass, hk, hkind, Option.some.injEq, exists_eq_left']
  refine am_wp_new hk hkind hl1 hh1 rfl rfl (by omega) (by omega) ?_
  rw [am_oc_0 c n.toNatClampNeg s.heap.size]
  simp only [hfind]
  rw [ite_self, wp_bind', Std.Legacy.Range.forIn_eq_forIn_range']
  have hsz : ([:n.toNatClampNeg] : Std.Legacy.Range).size = n.toNatClampNeg := by simp [Std.Legacy.Range.size]
  rw [hsz]
  show wp (forIn (List.range' 0 n.toNatClampNeg 1) PUnit.unit _) _ E e d acts _
  refine wp_forIn_inv (fun rest s' => ∃ i, i ≤ n.toNatClampNeg ∧ rest = List.range' i (n.toNatClampNeg - i) ∧ s' = am_gs s c cI n.toNatClampNeg m.toNatClampNeg i) _ _ ⟨0, Nat.zero_le _, rfl, rfl⟩ ?_ ?_
  · rintro x rest s' d' acts' Q' ⟨i, hi, hl, rfl⟩ hnext
    have hlt : i < n.toNatClampNeg := by
      rcases Nat.lt_or_ge i n.toNatClampNeg with h | h
      · exact h
      · rw [show n.toNatClampNeg - i = 0 by omega] at hl
        cases hl
    rw [show n.toNatClampNeg - i = (n.toNatClampNeg - (i + 1)) + 1 by omega, List.range'_succ] at hl
    obtain ⟨hx, hrest⟩ := List.cons.inj hl
    subst hx
    obtain ⟨f1, f2, f3, f4⟩ := am_gs_f s c cI n.toNatClampNeg m.toNatClampNeg x
    have hmul : x * m.toNatClampNeg + m.toNatClampNeg ≤ n.toNatClampNeg * m.toNatClampNeg := by
      have := Nat.mul_le_mul_right m.toNatClampNeg (show x + 1 ≤ n.toNatClampNeg from hlt)
      rw [Nat.succ_mul] at this
      exact this
    simp only [wp_bind']
    rw [multianewarray.make]
    simp only [wp_bind', Jvm.W.ite, hm, if_false, wp_pure', Jvm.W.theClass, f3, hkc, hkindc, Option.some.injEq, exists_eq_left']
    refine am_wp_new (by rw [f3]; exact hkc) hkindc hl2 hh2 rfl rfl (by rw [f1]; omega) (by rw [f4]; omega) ?_
    have hlt0 : s.heap.size < (am_gs s c cI n.toNatClampNeg m.toNatClampNeg x).heap.size := by rw [f1]; omega
    rw [show defaultValue FieldType.int = .int 0 from rfl, am_ic_0]
    simp only [wp_bind', Jvm.W.writeLoc, wp_pure']
    refine ⟨am_oc c n.toNatClampNeg s.heap.size x, by rw [State.heap_pushCell_of_lt (h := hlt0)]; exact f2, by rw [(am_oc_f c _ _ _).2.1]; simp, by rw [(am_oc_f c _ _ _).2.2]; exact hlt, ?_, hnext _ _ _ ⟨x + 1, hlt, hrest, ?_⟩⟩
    · rw [(am_oc_f c _ _ _).1, (am_oc_f c _ _ _).2.1]
      simp [State.fitsSlot, State.slotType?, f3, hk, hkind, fits]
    · rw [f1, am_oc_next]
      rfl
  · rintro s' d' acts' ⟨i, hi, hl, rfl⟩
    have hiN : i = n.toNatClampNeg := by
      rcases Nat.lt_or_ge i n.toNatClampNeg with h | h
      · rw [show n.toNatClampNeg - i = (n.toNatClampNeg - (i + 1)) + 1 by omega, List.range'_succ] at hl
        cases hl
      · omega
    subst hiN
    simp only [wp_pure']
    exact hq _ _
end AMWP
section AMMN
variable {p : Program} {l : Launch} {e : Env} {R : Room} {s : State} {m : MethodId} {args : Array Value} {below : List Frame} {meth : Method} {c : Code} {T : State} {locs : List Loc} {cells slots : Nat}
theorem am_gs_stand (X : Stand p l e R s m args below meth c T locs cells slots) (cA cI : ClassId) (N M : Nat) : ∀ i, Stand p l e R s m args below meth c (am_gs T cA cI N M i) (locs ++ (List.range i).map fun j => ⟨T.heap.size, j⟩) (cells + 1 + i) (slots + N + i * M)
  | 0 => by
    have h := X.pushed (am_oc cA N T.heap.size 0)
    rw [(am_oc_f cA N T.heap.size 0).2.2] at h
    simpa [am_gs] using h
  | i + 1 => by
    have Xi := am_gs_stand X cA cI N M i
    obtain ⟨f1, f2, f3, f4⟩ := am_gs_f T cA cI N M i
    have hlt0 : T.heap.size < (am_gs T cA cI N M i).heap.size := by rw [f1]; omega
    have hcell : ((am_gs T cA cI N M i).pushCell (am_ic cI M)).heap[T.heap.size]? = some (am_oc cA N T.heap.size i) := by rw [State.heap_pushCell_of_lt (h := hlt0)]; exact f2
    have h := (Xi.pushed (am_ic cI M)).stored hcell i (.ref (T.heap.size + 1 + i))
    have e1 : (am_ic cI M).slots.size = M := arrV_size ..
    rw [e1, am_oc_next] at h
    have e2 : (locs ++ (List.range (i + 1)).map fun j => (⟨T.heap.size, j⟩ : Loc)) = (locs ++ (List.range i).map fun j => (⟨T.heap.size, j⟩ : Loc)) ++ [⟨T.heap.size, i⟩] := by simp [List.range_succ, List.append_assoc]
    rw [e2, show slots + N + (i + 1) * M = slots + N + i * M + M by rw [Nat.succ_mul]; omega]
    exact h
theorem am_multi (X : Stand p l e R s m args below meth c T locs cells slots) (hexec : p.tables.exec = Jvm.exec) {own : String} {index : Nat} (hown : s.vm.findClass own = some m.cls) (hclink : (Cond.classLink own index "[[I").before args s = true) (hover : (Cond.arrayOver (.array .int)).before args s = true) (harr : (Cond.arrayClass .int).before args s = true)
    {g : JFrame} (hg : g.method = m) (hdg : decode c.code g.pc = .ok (.multianewarray index 2, 4)) {n k : Int32} {rest : List Value} (hstack : g.stack = .int k :: .int n :: rest) (hn : ¬ n < 0) (hk : ¬ k < 0) (hb1 : n.toNatClampNeg * 4 ≤ 536870912) (hb2 : k.toNatClampNeg * 4 ≤ 536870912)
    (hcells : cells + (1 + n.toNatClampNeg) ≤ R.cells) (hslots : slots + (n.toNatClampNeg + n.toNatClampNeg * k.toNatClampNeg) ≤ R.slots) :
    ∃ (vm₁ : Vm) (cA cI : ClassId), s.vm.findClass "[[I" = some cA ∧ s.vm.findClass "[I" = some cI ∧ Stand p l e R s m args below meth c (am_gs (T.setVm vm₁) cA cI n.toNatClampNeg k.toNatClampNeg n.toNatClampNeg) (locs ++ (List.range n.toNatClampNeg).map fun j => ⟨T.heap.size, j⟩) (cells + 1 + n.toNatClampNeg) (slots + n.toNatClampNeg + n.toNatClampNeg * k.toNatClampNeg) ∧
      ∀ target, Steps p.tables e below ((am_gs (T.setVm vm₁) cA cI n.toNatClampNeg k.toNatClampNeg n.toNatClampNeg).setTop { g with pc := g.pc + 4, stack := .ref T.heap.size :: rest }) target → Steps p.tables e below (T.setTop g) target := by
  subst hg
  have hpl : e.platform.magicAccessors = ({} : Platform).magicAccessors := by rw [X.admits.platform]
  obtain ⟨cI, cA, kA, hcomp, -, hkA, hkindA, hnameA⟩ := am_over hover
  obtain ⟨comp', kC, cc, hcomp', hkC, hkindC⟩ := Cond.arrayClass_spec harr
  have ecomp : comp' = cI := Option.some.inj (hcomp'.symm.trans (by exact hcomp))
  subst ecomp
  obtain ⟨c0, hfc0, hcl⟩ := Cond.classLink_spec hown hclink e.platform hpl
  cases hnameA.symm.trans hfc0
  obtain ⟨hg₁, hwarm₁, hready₁⟩ := State.classEntry (e := e) X.warmed hcl
  generalize T.vm.noted g.method.cls index (.cls cA) = vm₁ at hg₁ hwarm₁ hready₁
  have hal : s.vm.Alike vm₁ := hwarm₁.alike
  obtain ⟨kA₁, hkA₁, heA⟩ := hal.2.2 _ _ hkA
  obtain ⟨kC₁, hkC₁, heC⟩ := hal.2.2 _ _ hkC
  have hkindA₁ : kA₁.kind = .array comp' (.array .int) := by rw [heA]; exact hkindA
  have hkindC₁ : kC₁.kind = .array cc .int := by rw [heC]; exact hkindC
  have X₁ := X.noted hwarm₁
  obtain ⟨hr1, hr2⟩ := X.roomAbove hcells hslots
  refine ⟨vm₁, cA, comp', hnameA, hcomp, am_gs_stand X₁ cA comp' _ _ _, fun target hrest => ?_⟩
  have hl1 : ¬ n.toNatClampNeg > e.platform.arrayLengthLimit := by rw [Launch.admits_arrayLengthLimit X.admits]; omega
  have hh1 : ¬ n.toNatClampNeg * componentBytes (.array .int) > e.platform.maxHeapBytes := by rw [Launch.admits_maxHeapBytes X.admits]; show ¬ n.toNatClampNeg * 4 > 536870912; omega
  have hl2 : ¬ k.toNatClampNeg > e.platform.arrayLengthLimit := by rw [Launch.admits_arrayLengthLimit X.admits]; omega
  have hh2 : ¬ k.toNatClampNeg * componentBytes .int > e.platform.maxHeapBytes := by rw [Launch.admits_maxHeapBytes X.admits]; show ¬ k.toNatClampNeg * 4 > 536870912; omega
  jvm_step X.here [hexec, hdg]
  simp only [multianewarray.sem, wp_bind', Jvm.W.resolveClassAt_links (State.method?_setTop g X.here.top) hg₁]
  rw [Jvm.W.popN, if_neg (by decide)]
  refine ⟨g, State.topJava?_setTop' (s := T.setVm vm₁) g X.here.top, [.int n, .int k], rest, rfl, hstack, ?_⟩
  simp only [List.mapM_cons, List.mapM_nil, wp_bind', wp_pure']
  refine am_wp_make (k := kA₁) (kc := kC₁) (cI := comp') (cc := cc) hkA₁ hkindA₁ hkC₁ hkindC₁ hn hk hl1 hh1 hl2 hh2 (by show T.heap.size + 1 + _ ≤ _; omega) (by show T.slotsUsed + _ + _ ≤ _; omega) (fun d' acts' => ?_)
  have XF := am_gs_stand X₁ cA comp' n.toNatClampNeg k.toNatClampNeg n.toNatClampNeg
  have eS : ((T.setTop g).setVm vm₁).setTop { g with stack := rest } = (T.setVm vm₁).setTop { g with stack := rest } := by
    show ((T.setVm vm₁).setTop g).setTop _ = _
    rw [State.setTop_setTop]
  rw [eS, am_gs_top]
  simp only [wp_bind', Jvm.W.mark, Jvm.W.pushRef, State.topJava?_setTop' _ XF.here.top, Option.some.injEq, exists_eq_left', State.setTop_setTop, State.heap_setTop]
  intro acts
  simp [jvm, XF.here.top]
  exact hrest
end AMMN
