/-! The abstract machine is sound: where it comes to an end, the machine does. -/
def am_Pre (b N0 L : Nat) (xs : Nat → Int32) (D : va_G) (aC : FieldType → ClassId) (sh : List am_Sh) (s : am_M) (U : State) : Prop := am_Wd b N0 D aC L xs sh s U.heap ∧ am_St D aC U ∧ va_X b L xs U U.heap
def am_Qc (b N0 L : Nat) (xs : Nat → Int32) (D : va_G) (aC : FieldType → ClassId) (rv : Option am_V) (sh : List am_Sh) (s : am_M) : Array Value → State → Outcome → State → Prop := fun _ st oc t => oc = .returned (rv.map (am_cv b N0)) ∧ am_Wd b N0 D aC L xs sh s t.heap ∧ va_F (fun q => N0 ≤ q) st t
theorem am_call {p : Program} {l : Launch} {e : Env} {R : Room} {s : State} {m : MethodId} {args : Array Value} {below : List Frame} {meth : Method} {c : Code} {H : Heap} {locs : List Loc} {cells slots : Nat} {Q : State → Prop} {pc : Nat} {ls : Array Slot} {rest st0 : List Value} {mc ms N0 : Nat} {ro : Option Value} {B : Heap → Prop}
    (hr : va_Run p l e R s m args below meth c H locs cells slots mc ms (F0 m pc ls st0) rest (fun st oc t => oc = .returned ro ∧ B t.heap ∧ va_F (fun q => N0 ≤ q) st t) (fun q => N0 ≤ q)) (hS : va_S (fun q => N0 ≤ q) s.heap H locs)
    (kk : ∀ (H1 : Heap) (locs1 : List Loc), B H1 → va_S (fun q => N0 ≤ q) s.heap H1 locs1 → W p l e R s m args below meth c H1 locs1 (cells + mc) (slots + ms) Q (F0 m (pc + 3) ls (ro.toList ++ rest))) : W p l e R s m args below meth c H locs cells slots Q (F0 m pc ls st0) := by
  intro T hT X
  obtain ⟨v, st₀, t, T', L, h0, X', hL, e1, e2, ⟨hv, hb, hz, hk⟩, st⟩ := hr T hT X
  cases hv
  rw [h0] at hz hk
  obtain ⟨t2, a1, b1⟩ := kk T'.heap (locs ++ L) (by rw [e1]; exact hb) ⟨Nat.le_trans hS.1 (by rw [e1]; exact hz), fun q h1 h2 => by rw [e1, hk q (Nat.lt_of_lt_of_le h1 hS.1) h2]; exact hS.2.1 q h1 h2, fun q hq => by
      rcases List.mem_append.mp hq with h | h
      · exact hS.2.2 q h
      · exact hL q h⟩ T' rfl X'
  exact ⟨t2, st t2 a1, b1⟩
/-- where a method's end is, and what it answers -/
def am_end (M : am_Me) (rv : Option am_V) (pc : Nat) : Prop := match rv with
  | none => decode (am_by M) pc = .ok (.return_, 1) ∧ am_re M = none
  | some (.inl x) => decode (am_by M) pc = .ok (.ireturn, 1) ∧ (am_re M = some .int ∨ am_re M = some .boolean ∧ (x = 0 ∨ x = 1))
  | some (.inr (.inl _)) => decode (am_by M) pc = .ok (.lreturn, 1) ∧ am_re M = some .long
  | _ => False
/-- what holds in a method's body -/
def am_Cx (b N0 L : Nat) (xs : Nat → Int32) (D : va_G) (aC : FieldType → ClassId) (M : am_Me) (p : Program) (R : Room) (s : State) (m : MethodId) (args : Array Value) (meth : Method) (c : Code) : Prop :=
  p.tables.exec = Jvm.exec ∧ c.code = am_by M ∧ c.maxLocals = am_mx M ∧ s.vm.findClass (am_y M).cls = some m.cls ∧ ((am_y M).name = "<init>" → meth.name = "<init>") ∧ (∀ w ∈ lw_good, w.before args s = true) ∧ am_St D aC s ∧ am_fr M ≤ R.frames ∧ am_lo M ≤ R.locals ∧ N0 ≤ s.heap.size ∧ va_X b L xs s s.heap ∧ b < N0
def am_Good (J : am_J) (ml : Nat → Nat × Bool) (T0 : am_T) (l : Launch) (b N0 L : Nat) (xs : Nat → Int32) (D : va_G) (aC : FieldType → ClassId) (n : Nat) : Prop :=
  ∀ (mi : Nat) (M : am_Me) (cs : List am_I) (ls : am_Ls) (st : List am_V) (sh : List am_Sh) (g : am_M) (rv : Option am_V) (sh' : List am_Sh) (g' : am_M), T0.1[mi]? = some M → am_ex J ml am_dfs n (mi, cs, ls, st, sh, g) = some (rv, sh', g') →
  ∀ (p : Program) (e : Env) (R : Room) (s : State) (m : MethodId) (args : Array Value) (below : List Frame) (meth : Method) (c : Code) (H : Heap) (locs : List Loc) (cells slots k0 m0 : Nat) (Q : State → Prop) (arr : Array Slot) (pc : Nat), am_Cx b N0 L xs D aC M p R s m args meth c →
  am_cok T0 M cs pc → am_LV b N0 arr (am_mx M) ls → (am_lg M = false → am_NL ls) → am_VS sh st → am_Wd b N0 D aC L xs sh g H → va_S (fun q => N0 ≤ q) s.heap H locs → cells + k0 = sh.length → slots + m0 = am_sl sh → sh'.length ≤ R.cells + k0 → am_sl sh' ≤ R.slots + m0 →
  (∀ (pc' : Nat) (arr' : Array Slot) (H' : Heap) (locs' : List Loc) (cells' slots' : Nat), am_end M rv pc' → am_Wd b N0 D aC L xs sh' g' H' → va_S (fun q => N0 ≤ q) s.heap H' locs' → cells' + k0 = sh'.length → slots' + m0 = am_sl sh' → W p l e R s m args below meth c H' locs' cells' slots' Q (F0 m pc' arr' (rv.toList.map (am_cv b N0)))) →
  W p l e R s m args below meth c H locs cells slots Q (F0 m pc arr (st.map (am_cv b N0)))
/-- the locals at a method's entry -/
theorem am_args_in (b N0 : Nat) : ∀ (as : List am_V) (o i : Nat) (v : am_V), (am_args as)[i]? = some (some v) → (o + i, am_cv b N0 v) ∈ lv_args o (as.map (am_cv b N0))
  | [], o, i, v, h => by simp [am_args] at h
  | .inl x :: r, o, i, v, h => by
    cases i with
    | zero => simp [am_args] at h; subst h; exact List.mem_cons_self
    | succ i =>
      have := am_args_in b N0 r (o + 1) i v (by simpa [am_args] using h)
      rw [show o + (i + 1) = o + 1 + i by omega]
      exact List.mem_cons_of_mem _ this
  | .inr (.inl x) :: r, o, i, v, h => by
    cases i with
    | zero => simp [am_args] at h; subst h; exact List.mem_cons_self
    | succ i =>
      cases i with
      | zero => simp [am_args] at h
      | succ i =>
        have := am_args_in b N0 r (o + 2) i v (by simpa [am_args] using h)
        rw [show o + (i + 1 + 1) = o + 2 + i by omega]
        exact List.mem_cons_of_mem _ this
  | .inr (.inr (k, none)) :: r, o, i, v, h => by
    cases i with
    | zero => simp [am_args] at h; subst h; exact List.mem_cons_self
    | succ i =>
      have := am_args_in b N0 r (o + 1) i v (by simpa [am_args] using h)
      rw [show o + (i + 1) = o + 1 + i by omega]
      exact List.mem_cons_of_mem _ this
  | .inr (.inr (k, some j)) :: r, o, i, v, h => by
    cases i with
    | zero => simp [am_args] at h; subst h; exact List.mem_cons_self
    | succ i =>
      have := am_args_in b N0 r (o + 1) i v (by simpa [am_args] using h)
      rw [show o + (i + 1) = o + 1 + i by omega]
      exact List.mem_cons_of_mem _ this
theorem am_args_len (b N0 : Nat) : ∀ (as : List am_V), (lg_sl (as.map (am_cv b N0))).length = (am_args as).length
  | [] => rfl
  | .inl x :: r => by
    have := am_args_len b N0 r
    simp only [lg_sl, List.map_cons, List.flatMap_cons, am_cv, Value.category, am_args, List.length_append, List.length_cons] at this ⊢
    simp at this ⊢
    omega
  | .inr (.inl x) :: r => by
    have := am_args_len b N0 r
    simp only [lg_sl, List.map_cons, List.flatMap_cons, am_cv, Value.category, am_args, List.length_append, List.length_cons] at this ⊢
    simp at this ⊢
    omega
  | .inr (.inr (k, none)) :: r => by
    have := am_args_len b N0 r
    simp only [lg_sl, List.map_cons, List.flatMap_cons, am_cv, Value.category, am_args, List.length_append, List.length_cons] at this ⊢
    simp at this ⊢
    omega
  | .inr (.inr (k, some j)) :: r => by
    have := am_args_len b N0 r
    simp only [lg_sl, List.map_cons, List.flatMap_cons, am_cv, Value.category, am_args, List.length_append, List.length_cons] at this ⊢
    simp at this ⊢
    omega
theorem am_loc_at {n : Nat} {as : List am_V} {i : Nat} {v : am_V} (h : (am_loc n as)[i]? = some (some v)) : (am_args as)[i]? = some (some v) := by
  unfold am_loc at h
  by_cases hl : i < (am_args as).length
  · rw [List.getElem?_append_left hl] at h
    exact h
  · rw [List.getElem?_append_right (by omega)] at h
    rw [List.getElem?_replicate] at h
    split at h <;> cases h
theorem am_loc_LV (b N0 : Nat) {n : Nat} {as : List am_V} (h : (am_args as).length ≤ n) : am_LV b N0 ((lg_sl (as.map (am_cv b N0)) ++ List.replicate (n - (lg_sl (as.map (am_cv b N0))).length) Slot.unset).toArray) n (am_loc n as) := by
  refine ⟨by unfold am_loc; rw [List.length_append, List.length_replicate]; omega, _, lv_entry (as.map (am_cv b N0)) (n := n) (by rw [am_args_len]; exact h), fun i v hv => ?_⟩
  have := am_args_in b N0 as 0 i v (am_loc_at hv)
  rwa [Nat.zero_add] at this
theorem am_args_NL : ∀ (as : List am_V), (∀ x : Int64, Sum.inr (Sum.inl x) ∉ as) → am_NL (am_args as)
  | [], _, i, x, h => by simp [am_args] at h
  | .inl y :: r, hn, i, x, h => by
    cases i with
    | zero => simp [am_args] at h
    | succ i => exact am_args_NL r (fun x hx => hn x (List.mem_cons_of_mem _ hx)) i x (by simpa [am_args] using h)
  | .inr (.inl y) :: r, hn, i, x, h => absurd List.mem_cons_self (hn y)
  | .inr (.inr (k, none)) :: r, hn, i, x, h => by
    cases i with
    | zero => simp [am_args] at h
    | succ i => exact am_args_NL r (fun x hx => hn x (List.mem_cons_of_mem _ hx)) i x (by simpa [am_args] using h)
  | .inr (.inr (k, some j)) :: r, hn, i, x, h => by
    cases i with
    | zero => simp [am_args] at h
    | succ i => exact am_args_NL r (fun x hx => hn x (List.mem_cons_of_mem _ hx)) i x (by simpa [am_args] using h)
theorem am_nol_no : ∀ (st : List am_V), am_nol st = true → ∀ x : Int64, Sum.inr (Sum.inl x) ∉ st
  | [], _, x, h => by cases h
  | .inl y :: r, hn, x, h => by
    rcases List.mem_cons.mp h with e | e
    · cases e
    · exact am_nol_no r hn x e
  | .inr (.inl y) :: r, hn, x, h => by cases hn
  | .inr (.inr (k, none)) :: r, hn, x, h => by
    rcases List.mem_cons.mp h with e | e
    · cases e
    · exact am_nol_no r hn x e
  | .inr (.inr (k, some j)) :: r, hn, x, h => by
    rcases List.mem_cons.mp h with e | e
    · cases e
    · exact am_nol_no r hn x e
theorem am_good_words {w : Cond} (h : w ∈ lw_good) : (w.onTables && w.keeps) = true ∨ ∃ ty, w = .arrayClass ty := good_of_word (List.mem_filter.mp h).2
set_option maxHeartbeats 1000000 in
/-- a method's contract, out of the walk of its body -/
theorem am_met {J : am_J} {ml : Nat → Nat × Bool} {T0 : am_T} {l : Launch} {b N0 L : Nat} {xs : Nat → Int32} {D : va_G} {aC : FieldType → ClassId} {n : Nat} (hT : am_okT T0) (hJ : ∀ mi M, T0.1[mi]? = some M → ∀ t, am_cok T0 M (J mi t) t) (hb0 : b < N0) (IH : am_Good J ml T0 l b N0 L xs D aC n)
    {mi : Nat} {M : am_Me} {as : List am_V} {sh sh' : List am_Sh} {g g' : am_M} {rv : Option am_V} (hM : T0.1[mi]? = some M) (hlast : mi + 2 ≤ T0.1.length) (hex : am_ex J ml am_dfs n (mi, J mi 0, am_loc (am_mx M) as, [], sh, g) = some (rv, sh', g')) (hlen : (am_args as).length ≤ am_mx M) (hnl : am_lg M = false → am_NL (am_args as)) :
    Met l (am_y M) (am_wsM M) ({ frames := am_fr M, cells := sh'.length - sh.length, slots := am_sl sh' - am_sl sh, locals := am_lo M } : Room) (va_Pc (as.map (am_cv b N0)) (am_Pre b N0 L xs D aC sh g)) (am_Qc b N0 L xs D aC rv sh' g') (sh'.length - sh.length) (am_sl sh' - am_sl sh) (fun q => N0 ≤ q) := by
  have hg := am_ex_grow J ml am_dfs n _ _ hex
  obtain ⟨hc3, hcr⟩ := hT.1 mi M hM
  obtain ⟨hc1, hc2, hc4, hc5, hc6⟩ := hcr hlast
  refine va_MetF (cc := am_by M) (maxL := am_mx M) (ret := am_re M) hc2 rfl ?_
  intro p e s m args below meth c s₁ B hml hv
  obtain ⟨rfl, hWd, hSt, hX⟩ := hv
  have hts := atoms_spec (ws := am_wsM M) B.pre
  have hown : s.vm.findClass (am_y M).cls = some m.cls := findClass_of_methodNamed B.named
  have hlocks := B.notSynchronized
  have hr := B.returns
  rw [lg_entry_eq]
  have hsz : N0 ≤ s.heap.size := by rw [hWd.2.1]; exact Nat.le_add_right _ _
  refine IH mi M (J mi 0) (am_loc (am_mx M) as) [] sh g rv sh' g' hM hex p e _ s m _ below meth c s.heap [] 0 0 sh.length (am_sl sh) _ _ 0 ⟨B.exec, B.bytes, hml, hown, fun h => ?_, fun w hw => hts w (List.mem_cons_of_mem _ hw), hSt, Nat.le_refl _, Nat.le_refl _, hsz, hX, hb0⟩ (hJ mi M hM 0) (am_loc_LV b N0 hlen) (fun h i x hx => hnl h i x (am_loc_at hx)) am_VS.nil hWd va_S.rf (Nat.zero_add _) (Nat.zero_add _) ?_ ?_ ?_
  · rw [← h]; exact (name_of_methodNamed B.named B.method).1
  · show sh'.length ≤ sh'.length - sh.length + sh.length
    have := hg.1
    omega
  · show am_sl sh' ≤ am_sl sh' - am_sl sh + am_sl sh
    have := hg.2
    omega
  · intro pc' arr' H' locs' cells' slots' hend hW' hS' h1 h2
    obtain rfl : cells' = sh'.length - sh.length := by omega
    obtain rfl : slots' = am_sl sh' - am_sl sh := by omega
    rcases rv with _ | x | x | x
    · exact W.vret B.exec B.bytes (by rw [hr]; exact hend.2) (fun t ht _ => ⟨rfl, by rw [ht]; exact hW', hS'.F ht⟩) hS'.2.2 hend.1
    · obtain ⟨hd, h | ⟨h, hx⟩⟩ := hend
      · exact W.iret (v := x) B.exec B.bytes (by rw [hr]; exact h) (fun t ht _ => ⟨rfl, by rw [ht]; exact hW', hS'.F ht⟩) hS'.2.2 hd
      · exact W.zret (v := x) (ty := .boolean) B.exec B.bytes (by rw [hr]; exact h) (by rcases hx with rfl | rfl <;> rfl) (fun t ht _ => ⟨rfl, by rw [ht]; exact hW', hS'.F ht⟩) hS'.2.2 hd
    · exact W.lret (v := x) B.exec B.bytes (by rw [hr]; exact hend.2) (fun t ht _ => ⟨rfl, by rw [ht]; exact hW', hS'.F ht⟩) hS'.2.2 hend.1
    · exact absurd hend (by simp [am_end])
