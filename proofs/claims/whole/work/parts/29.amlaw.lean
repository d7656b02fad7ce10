/-! THE CLAIM OUT OF ONE WALK OF THE LAW'S BODY. Your part is whole_start (and what it stands on); all else here is the same for every law, but numbers. -/
def R_law : String := "SheetFolderLaw"
def lw_P (b : Addr) (xs : List Int32) (args : Array Value) (s : State) : Prop := args = #[.ref b] ∧ s.IntsAt b xs ∧ xs.length ≤ 3584 ∧ (Jvm.Cond.and given_1 narrow_1).before args s = true
def lw_Q (_ : Array Value) (s : State) (o : Outcome) (t : State) : Prop := o = .returned (some (.int 1)) ∧ Framed s o t [] 600000 7302250
def lw_Z (below : List Frame) (a : Array Value) (s : State) : State → Prop := fun t => ∃ o, t.status = .running ∧ Ended t below o ∧ lw_Q a s o t
/-- the law's own end, with 1 on the stack, nothing written that was there before, its room as the claim has it -/
theorem lw_ret {p : Program} {l : Launch} {e : Env} {s : State} {m : MethodId} {below : List Frame} {meth : Method} {c : Code} {b : Nat} (hx : p.tables.exec = Jvm.exec) (hb : c.code = code) (hr : meth.sig.returnType = ret) (hlocks : meth.locks = false) {pc : Nat} {H : Heap} {ls : Array Slot} (hdg : decode code pc = .ok (.ireturn, 1)) : W p l e room_1 s m #[Value.ref b] below meth c H [] 600000 7302250 (lw_Z below #[Value.ref b] s) (F0 m pc ls [.int 1]) := by
  intro T hT X
  obtain ⟨fs, hret, hrun, hended, hW, hframe⟩ := X.leave (v := some (.int 1)) (hlocks := hlocks) (fun h => by rw [hr] at h; cases h)
  have hmeth' : T.vm.method? m = some meth := X.method'
  refine ⟨T.setFrames fs, ?_, .returned (some (.int 1)), hrun, hended, rfl, ⟨_, rfl⟩, hW, hframe⟩
  jvm_step X.here [X.here.top, hx, hb, hdg, hmeth', hr, ret, narrow_b1]
  (try refine ⟨rfl, ?_⟩); (try refine ⟨rfl, ?_⟩)
  first | (intro acts; rw [hret _ acts rfl rfl rfl]) | rw [hret _ _ rfl rfl rfl]
  exact Steps.refl _
/-- what holds at the law's entry: the machine, the code, the tables' words (any of lw_tbl by 'hts w (by decide +kernel)'), the script of L ints xs at the cell b, what the Statement gives of the start (any of its parts by flat_of_before) -/
def lw_At (p : Program) (s : State) (m : MethodId) (meth : Method) (c : Code) (b L : Nat) (xs : Nat → Int32) : Prop :=
  p.tables.exec = Jvm.exec ∧ c.code = code ∧ meth.sig.returnType = ret ∧ c.maxLocals = 4 ∧ s.vm.findClass R_law = some m.cls ∧ (∀ w ∈ lw_tbl, w.before #[Value.ref b] s = true) ∧ va_X b L xs s s.heap ∧ b < s.heap.size ∧ meth.locks = false ∧ (Jvm.Cond.and given_1 narrow_1).before #[Value.ref b] s = true
/-- the law's start in the abstract machine -/
def am_sh1 (L : Nat) : List am_Sh := [.inl (.int, L, none)]
def am_g1 (xs : Nat → Int32) : am_M := (fun k => if k = 0 then xs else fun _ => 0, fun _ _ => 0)
def am_law0 (L : Nat) (xs : Nat → Int32) : am_C := (122, am_J0 122 0, am_loc 4 [.inr (.inr (0, none))], [], am_sh1 L, am_g1 xs)
/-- what is left to be shown, and nothing of the machine in it -/
def am_pure : Prop := ∀ (L : Nat) (xs : Nat → Int32), L ≤ 3584 → ∃ (sh' : List am_Sh) (g' : am_M), am_run am_J0 am_ml0 am_dfs (am_law0 L xs) = some (some (.inl 1), sh', g') ∧ sh'.length ≤ 600001 ∧ am_sl sh' ≤ 7302250 + L
set_option maxHeartbeats 4000000 in
set_option maxRecDepth 100000 in
theorem am_start_open (hp : am_pure) {p : Program} {e : Env} {s : State} {m : MethodId} {below : List Frame} {meth : Method} {c : Code} (l : Launch) {b L : Nat} {xs : Nat → Int32} (hL : L ≤ 3584) (C0 : lw_At p s m meth c b L xs) : W p l e room_1 s m #[Value.ref b] below meth c s.heap [] 0 0 (lw_Z below #[Value.ref b] s) (entryFrame m ([Value.ref b] : List Value).toArray 4) := by
  obtain ⟨hx, hb, hr, hml, hown, hts, hX, hbl, hlocks, hgv⟩ := C0
  obtain ⟨sh', g', hrun, hl1, hl2⟩ := hp L xs hL
  obtain ⟨n, hex⟩ := am_run_to hrun
  have htg : ∀ w ∈ lw_good, w.before #[Value.ref b] s = true := fun w h => hts w (List.mem_filter.mp h).1
  have hk : ∀ ci, ci < 6 → ∃ (cC : ClassId) (iS : Nat → Nat), u_Kn s (am_cn ci) (am_tbf ci) (am_nf ci) cC iS := fun ci hci => u_known (n := am_nf ci) htg (am_C_ok.1 ci hci).1 (htg _ (am_C_ok.1 ci hci).2.2.2.2.1)
  obtain ⟨dC, dI, hKn⟩ : ∃ (dC : Nat → ClassId) (dI : Nat → Nat → Nat), ∀ ci, ci < 6 → u_Kn s (am_cn ci) (am_tbf ci) (am_nf ci) (dC ci) (dI ci) := by
    refine ⟨fun ci => if h : ci < 6 then (hk ci h).choose else 0, fun ci => if h : ci < 6 then (hk ci h).choose_spec.choose else fun _ => 0, fun ci h => ?_⟩
    simp only [h, dif_pos]
    exact (hk ci h).choose_spec.choose_spec
  obtain ⟨cI, kI, pI, i1, i2, i3⟩ := Cond.arrayClass_spec (htg _ am_C_ok.2.2.2.1)
  obtain ⟨cZ, kZ, pZ, z1, z2, z3⟩ := Cond.arrayClass_spec (htg _ am_C_ok.2.2.2.2.1)
  obtain ⟨cJ, kJ, pJ, j1, j2, j3⟩ := Cond.arrayClass_spec (htg _ am_C_ok.2.2.2.2.2.1)
  have hAO := hts (.arrayOver (.array .int)) (am_td 91 rfl)
  obtain ⟨cI', cA, kA, a1, -, a3, a4, a5⟩ := am_over hAO
  obtain ⟨aC, haC⟩ : ∃ aC : FieldType → ClassId, aC = fun t => match t with
      | .int => cI
      | .boolean => cZ
      | .long => cJ
      | _ => cA := ⟨_, rfl⟩
  have hSt : am_St (dC, dI) aC s := by
    refine ⟨⟨fun k q hq => ?_, fun k q hq => ?_⟩, fun w hw hn => va_Nw.of (by cases w <;> first | rfl | (simp [am_nest] at hn; done)) (hts w hw), am_AO_moved (Vm.Alike.refl _) hAO⟩
    · have hk6 : k < 6 := (List.getElem?_eq_some_iff.mp hq).1
      rw [am_cls_at hk6] at hq
      cases hq
      exact hKn k hk6
    · subst haC
      have hk4 : k < 4 := (List.getElem?_eq_some_iff.mp hq).1
      rcases (show k = 0 ∨ k = 1 ∨ k = 2 ∨ k = 3 by omega) with rfl | rfl | rfl | rfl <;> cases hq
      · exact ⟨fun N z => ⟨(fun q hq => by cases hq), kI, i2, pI, i3⟩, i1⟩
      · exact ⟨fun N z => ⟨(fun q hq => by cases hq), kZ, z2, pZ, z3⟩, z1⟩
      · exact ⟨fun N z => ⟨(fun q hq => by cases hq), kJ, j2, pJ, j3⟩, j1⟩
      · exact ⟨fun N z => ⟨(fun q hq => by cases hq), kA, a3, cI', a4⟩, a5⟩
  have hWd : am_Wd b s.heap.size (dC, dI) aC L xs (am_sh1 L) (am_g1 xs) s.heap := by
    refine ⟨fun k q hq => (by cases hq), rfl, ⟨rfl, rfl⟩, fun k t N n hq => ?_⟩
    have h0 : k < 1 := (List.getElem?_eq_some_iff.mp hq).1
    obtain rfl : k = 0 := by omega
    cases hq
  rw [lg_entry_eq]
  refine am_sound am_T0_ok am_C_ok am_bls_ok am_ml_ok n 122 me_122 (am_J0 122 0) (am_loc 4 [.inr (.inr (0, none))]) [] (am_sh1 L) (am_g1 xs) (some (.inl 1)) sh' g' rfl hex p e room_1 s m _ below meth c s.heap [] 0 0 1 L _ _ 0 ⟨hx, hb, hml, hown, fun h => absurd h (by decide), htg, hSt, by decide, by decide, Nat.le_refl _, hX, hbl⟩ (am_bls_ok 122 me_122 rfl 0) (am_loc_LV b s.heap.size (n := 4) (as := [.inr (.inr (0, none))]) (by decide)) (fun _ i x hx => ?_) am_VS.nil hWd va_S.rf rfl (by show 0 + L = L + 0; omega) hl1 hl2 ?_
  · have := am_loc_at hx
    cases i with
    | zero => cases this
    | succ i => simp [am_args] at this
  · intro pc' arr' H' locs' cells' slots' hend hW' hS' h1 h2
    refine va_forget (fun q hq => hS'.2.2 q hq) ?_
    refine W.widen (k := 600000) (n := 7302250) (by omega) (by omega) ?_
    exact lw_ret hx hb hr hlocks hend.1
