/-! Cells are made. -/
theorem am_zero_old (s : am_M) {k j : Nat} (h : j < k) : (am_zero s k).1 j = s.1 j ∧ (am_zero s k).2 j = s.2 j := ⟨if_neg (Nat.not_le.mpr h), if_neg (Nat.not_le.mpr h)⟩
theorem am_zero_new (s : am_M) {k j : Nat} (h : k ≤ j) : (am_zero s k).1 j = (fun _ => 0) ∧ (am_zero s k).2 j = (fun _ => 0) := ⟨if_pos h, if_pos h⟩
section AMNW
variable {p : Program} {l : Launch} {e : Env} {R : Room} {s : State} {m : MethodId} {args : Array Value} {below : List Frame} {meth : Method} {c : Code} {H : Heap} {locs : List Loc} {cells slots : Nat} {Q : State → Prop}
variable {cc : ByteArray} {pc : Nat} {ls : Array Slot} {rest : List Value} {b N0 L : Nat} {xs : Nat → Int32} {D : va_G} {aC : FieldType → ClassId} {sh : List am_Sh} {g : am_M}
theorem am_Wd.pos (hWd : am_Wd b N0 D aC L xs sh g H) : 0 < sh.length := (List.getElem?_eq_some_iff.mp hWd.2.2.1.1).1
theorem am_Wd.app (hWd : am_Wd b N0 D aC L xs sh g H) (nw : List am_Sh) {H1 : Heap} (hz : H1.size = H.size + nw.length) (ho : ∀ q : Nat, q < H.size → H1[q]? = H[q]?) (hn : ∀ (i : Nat) (q : am_Sh), nw[i]? = some q → va_at D am_cls (H.size + i, am_ce b N0 aC (am_zero g sh.length) (sh.length + i) q) H1) (hG : am_GW (sh ++ nw)) : am_Wd b N0 D aC L xs (sh ++ nw) (am_zero g sh.length) H1 := by
  have hp := hWd.pos
  have hsz := hWd.2.1
  refine ⟨fun k q hk => ?_, ?_, ⟨?_, ?_⟩, hG⟩
  · rw [am_ws_at] at hk
    obtain ⟨x, hx, rfl⟩ := Option.map_eq_some_iff.mp hk
    by_cases hl : k + 1 < sh.length
    · rw [List.getElem?_append_left hl] at hx
      have h1 := hWd.1 k _ (am_at (b := b) (N0 := N0) (aC := aC) (g := g) k hx)
      rw [am_ce_eq (am_zero_old g hl).1 (am_zero_old g hl).2]
      exact h1.kept (ho _ (by show N0 + k < H.size; omega))
    · rw [List.getElem?_append_right (by omega)] at hx
      have h1 := hn _ _ hx
      have e1 : H.size + (k + 1 - sh.length) = N0 + k := by omega
      have e2 : sh.length + (k + 1 - sh.length) = k + 1 := by omega
      rw [e1, e2] at h1
      exact h1
  · rw [hz, List.length_append]
    omega
  · rw [List.getElem?_append_left hp]
    exact hWd.2.2.1.1
  · rw [(am_zero_old g hp).1]
    exact hWd.2.2.1.2
theorem am_GW.app1 (h : am_GW sh) (q : am_Sh) (hq : ∀ t N n, q ≠ .inl (t, N, some n)) : am_GW (sh ++ [q]) := by
  intro k t N n hk j hj
  by_cases hl : k < sh.length
  · rw [List.getElem?_append_left hl] at hk
    have := h k t N n hk j hj
    rw [List.getElem?_append_left (List.getElem?_eq_some_iff.mp this).1]
    exact this
  · rw [List.getElem?_append_right (by omega)] at hk
    have h1 := List.mem_of_getElem? hk
    exact absurd (List.mem_singleton.mp h1).symm (hq t N n)
theorem am_GW.appG (h : am_GW sh) (N M : Nat) : am_GW (sh ++ (.inl (.int, N, some M) :: List.replicate N (.inl (.int, M, none)))) := by
  intro k t N' n hk j hj
  by_cases hl : k < sh.length
  · rw [List.getElem?_append_left hl] at hk
    have := h k t N' n hk j hj
    rw [List.getElem?_append_left (List.getElem?_eq_some_iff.mp this).1]
    exact this
  · rw [List.getElem?_append_right (by omega)] at hk
    cases hd : k - sh.length with
    | zero =>
      rw [hd] at hk
      cases hk
      rw [List.getElem?_append_right (by omega), show k + 1 + j - sh.length = j + 1 by omega, List.getElem?_cons_succ, List.getElem?_replicate, if_pos hj]
    | succ i =>
      rw [hd, List.getElem?_cons_succ, List.getElem?_replicate] at hk
      split at hk
      · cases hk
      · cases hk
theorem am_newobj (hC : am_okC) (hexec : p.tables.exec = Jvm.exec) (hb : c.code = cc) (hts : ∀ w ∈ lw_good, w.before args s = true) (hSt : am_St D aC s) (hWd : am_Wd b N0 D aC L xs sh g H) (hS : va_S (fun q => N0 ≤ q) s.heap H locs) (hN0 : N0 ≤ s.heap.size) {own : String} {index ci : Nat} (hci : ci < 6) (hown : s.vm.findClass own = some m.cls) (hcl : Cond.classLink own index (am_cn ci) ∈ lw_good) (hd : ∀ k, k < am_nf ci → defaultValue (am_tyf ci k) = am_fv b N0 (am_zero g sh.length) sh.length k (match am_tyf ci k with
      | .object _ => some none
      | .array _ => some none
      | _ => none))
    (hcells : cells + 1 ≤ R.cells) (hslots : slots + am_nf ci ≤ R.slots) (hdg : decode cc pc = .ok (.new index, 3))
    (kk : ∀ (H1 : Heap), am_Wd b N0 D aC L xs (sh ++ [.inr (ci, am_dfs ci)]) (am_zero g sh.length) H1 → va_S (fun q => N0 ≤ q) s.heap H1 locs → W p l e R s m args below meth c H1 locs (cells + 1) (slots + am_nf ci) Q (F0 m (pc + 3) ls (.ref (am_ad b N0 sh.length) :: rest))) : W p l e R s m args below meth c H locs cells slots Q (F0 m pc ls rest) := by
  obtain ⟨hin, hty, hnm, hcc, hins, hini⟩ := hC.1 ci hci
  have hc0 := am_cls_at hci
  have hKn := hSt.1.1 ci _ hc0
  have hp := hWd.pos
  have hsz := hWd.2.1
  have had : am_ad b N0 sh.length = H.size := by
    cases hL : sh.length with
    | zero => omega
    | succ k => show N0 + k = H.size; rw [hsz, hL]; rfl
  rw [had] at kk
  refine W.newcK hexec hb hown (hts _ hcl) (hts _ hins) (hts _ hini) rfl hdg hcells hslots hKn.2.1 rfl fun H1 kC hkC e1 z1 o1 => ?_
  refine kk H1 (hWd.app [.inr (ci, am_dfs ci)] z1 o1 (fun i q hq => ?_) (am_GW.app1 hWd.2.2.2 _ (fun t N n h => by cases h))) ⟨Nat.le_trans hS.1 (by omega), fun x h1 h2 => (o1 x (Nat.lt_of_lt_of_le h1 hS.1)).trans (hS.2.1 x h1 h2), hS.2.2⟩
  have h0 : i < 1 := (List.getElem?_eq_some_iff.mp hq).1
  obtain rfl : i = 0 := by omega
  cases hq
  refine ⟨_, hc0, (u_born (am_tyf ci) hts hin hKn hkC e1 hty).to (fun k hk => ?_)⟩
  have hk : k < am_nf ci := hk
  show defaultValue (am_tyf ci k) = vp_V ((am_dfs ci).mapIdx (fun j x => am_fv b N0 (am_zero g sh.length) (sh.length + 0) j x)) k
  unfold vp_V
  rw [List.getD_eq_getElem?_getD, List.getElem?_mapIdx]
  have hg : (am_dfs ci)[k]? = some (match am_tyf ci k with
      | .object _ => some none
      | .array _ => some none
      | _ => none) := by
    unfold am_dfs
    rw [List.getElem?_map, List.getElem?_range hk]
    rfl
  rw [hg, hd k hk]
  rfl
theorem am_newarr (hexec : p.tables.exec = Jvm.exec) (hb : c.code = cc) {atype : ArrayType} {ty : FieldType} (hty : newarray.typeOf atype = ty) (hpr : ty = .int ∨ ty = .boolean ∨ ty = .long) (harr : (Cond.arrayClass ty).before args s = true) (hSt : am_St D aC s) (hWd : am_Wd b N0 D aC L xs sh g H) (hS : va_S (fun q => N0 ≤ q) s.heap H locs) {n : Int32} (hn : ¬ n < 0) (hn2 : n.toNatClampNeg ≤ 65536)
    (hcells : cells + 1 ≤ R.cells) (hslots : slots + n.toNatClampNeg ≤ R.slots) (hdg : decode cc pc = .ok (.newarray atype, 2))
    (kk : ∀ (H1 : Heap), am_Wd b N0 D aC L xs (sh ++ [.inl (ty, n.toNatClampNeg, none)]) (am_zero g sh.length) H1 → va_S (fun q => N0 ≤ q) s.heap H1 locs → W p l e R s m args below meth c H1 locs (cells + 1) (slots + n.toNatClampNeg) Q (F0 m (pc + 2) ls (.ref (am_ad b N0 sh.length) :: rest))) : W p l e R s m args below meth c H locs cells slots Q (F0 m pc ls (.int n :: rest)) := by
  have hp := hWd.pos
  have hsz := hWd.2.1
  have had : am_ad b N0 sh.length = H.size := by
    cases hL : sh.length with
    | zero => omega
    | succ k => show N0 + k = H.size; rw [hsz, hL]; rfl
  rw [had] at kk
  subst hty
  refine va_newaK hexec hb harr rfl hdg rfl hn rfl (by rcases hpr with h | h | h <;> rw [h] <;> simp only [componentBytes] <;> omega) hcells hslots rfl fun H1 cA e1 z1 o1 hAr hNm => ?_
  have hcA : cA = aC (newarray.typeOf atype) := by
    rcases hpr with h | h | h
    · have := (hSt.1.2 0 _ rfl).2
      rw [h] at hNm ⊢
      exact Option.some.inj (hNm.symm.trans this)
    · have := (hSt.1.2 1 _ rfl).2
      rw [h] at hNm ⊢
      exact Option.some.inj (hNm.symm.trans this)
    · have := (hSt.1.2 2 _ rfl).2
      rw [h] at hNm ⊢
      exact Option.some.inj (hNm.symm.trans this)
  refine kk H1 (hWd.app [.inl (newarray.typeOf atype, n.toNatClampNeg, none)] z1 o1 (fun i q hq => ?_) (am_GW.app1 hWd.2.2.2 _ (fun t N n h => by cases h))) ⟨Nat.le_trans hS.1 (by omega), fun x h1 h2 => (o1 x (Nat.lt_of_lt_of_le h1 hS.1)).trans (hS.2.1 x h1 h2), hS.2.2⟩
  have h0 : i < 1 := (List.getElem?_eq_some_iff.mp hq).1
  obtain rfl : i = 0 := by omega
  cases hq
  show H1[H.size]? = some (vp_cell (aC (newarray.typeOf atype)) (n.toNatClampNeg, if newarray.typeOf atype = .long then .inr (.inl ((am_zero g sh.length).2 (sh.length + 0))) else .inl ((am_zero g sh.length).1 (sh.length + 0))))
  rw [e1, hcA, (am_zero_new g (Nat.le_add_right sh.length 0)).1, (am_zero_new g (Nat.le_add_right sh.length 0)).2]
  rcases hpr with h | h | h <;> rw [h]
  · rw [if_neg (by decide), vp_cell_i]; rfl
  · rw [if_neg (by decide), vp_cell_i]; rfl
  · rw [if_pos rfl, vp_cell_l]; rfl
theorem am_newgrid (hexec : p.tables.exec = Jvm.exec) (hb : c.code = cc) {own : String} {index : Nat} (hown : s.vm.findClass own = some m.cls) (hclink : (Cond.classLink own index "[[I").before args s = true) (hover : (Cond.arrayOver (.array .int)).before args s = true) (harr : (Cond.arrayClass .int).before args s = true) (hSt : am_St D aC s) (hWd : am_Wd b N0 D aC L xs sh g H) (hS : va_S (fun q => N0 ≤ q) s.heap H locs) (hN0 : N0 ≤ s.heap.size) {n k : Int32} (hn : ¬ n < 0) (hk : ¬ k < 0) (hn2 : n.toNatClampNeg ≤ 65536) (hk2 : k.toNatClampNeg ≤ 65536)
    (hcells : cells + (1 + n.toNatClampNeg) ≤ R.cells) (hslots : slots + (n.toNatClampNeg + n.toNatClampNeg * k.toNatClampNeg) ≤ R.slots) (hdg : decode cc pc = .ok (.multianewarray index 2, 4))
    (kk : ∀ (H1 : Heap) (locs1 : List Loc), am_Wd b N0 D aC L xs (sh ++ (.inl (.int, n.toNatClampNeg, some k.toNatClampNeg) :: List.replicate n.toNatClampNeg (.inl (.int, k.toNatClampNeg, none)))) (am_zero g sh.length) H1 → va_S (fun q => N0 ≤ q) s.heap H1 locs1 → W p l e R s m args below meth c H1 locs1 (cells + 1 + n.toNatClampNeg) (slots + n.toNatClampNeg + n.toNatClampNeg * k.toNatClampNeg) Q (F0 m (pc + 4) ls (.ref (am_ad b N0 sh.length) :: rest))) : W p l e R s m args below meth c H locs cells slots Q (F0 m pc ls (.int k :: .int n :: rest)) := by
  have hp := hWd.pos
  have hsz := hWd.2.1
  have had : am_ad b N0 sh.length = H.size := by
    cases hL : sh.length with
    | zero => omega
    | succ k => show N0 + k = H.size; rw [hsz, hL]; rfl
  rw [had] at kk
  intro T hT X
  obtain ⟨vm₁, cA, cI, fA, fI, X', step⟩ := am_multi X hexec hown hclink hover harr (g := F0 m pc ls (.int k :: .int n :: rest)) rfl (by rw [hb]; exact hdg) rfl hn hk (by omega) (by omega) hcells hslots
  have hTh : (T.setVm vm₁).heap = H := hT
  have eI : cI = aC .int := by have := (hSt.1.2 0 _ rfl).2; exact Option.some.inj (fI.symm.trans this)
  have eA : cA = aC (.array .int) := by have := (hSt.1.2 3 _ rfl).2; exact Option.some.inj (fA.symm.trans this)
  subst eI
  subst eA
  obtain ⟨f1, f2, -, -⟩ := am_gs_f (T.setVm vm₁) (aC (.array .int)) (aC .int) n.toNatClampNeg k.toNatClampNeg n.toNatClampNeg
  have hold : ∀ x : Nat, x < H.size → (am_gs (T.setVm vm₁) (aC (.array .int)) (aC .int) n.toNatClampNeg k.toNatClampNeg n.toNatClampNeg).heap[x]? = H[x]? := fun x hx => by
    have := am_gs_old (T.setVm vm₁) (aC (.array .int)) (aC .int) n.toNatClampNeg k.toNatClampNeg (a := x) (by rw [hTh]; exact hx) n.toNatClampNeg
    rw [hTh] at this
    exact this
  have hrow := fun j hj => am_gs_row (T.setVm vm₁) (aC (.array .int)) (aC .int) n.toNatClampNeg k.toNatClampNeg n.toNatClampNeg j hj
  rw [hTh] at f1 f2
  simp only [hTh] at hrow
  generalize am_gs (T.setVm vm₁) (aC (.array .int)) (aC .int) n.toNatClampNeg k.toNatClampNeg n.toNatClampNeg = F at X' step f1 f2 hold hrow
  have hW1 : am_Wd b N0 D aC L xs (sh ++ (.inl (.int, n.toNatClampNeg, some k.toNatClampNeg) :: List.replicate n.toNatClampNeg (.inl (.int, k.toNatClampNeg, none)))) (am_zero g sh.length) F.heap := by
    refine hWd.app _ (by rw [f1, List.length_cons, List.length_replicate]; omega) hold (fun i q hq => ?_) (am_GW.appG hWd.2.2.2 _ _)
    cases i with
    | zero =>
      cases hq
      show F.heap[H.size]? = some (vp_cell _ _)
      rw [f2, vp_cell_q]
      unfold am_oc
      have : H.size + 1 = N0 + sh.length := by omega
      rw [this]
      rfl
    | succ i =>
      rw [List.getElem?_cons_succ, List.getElem?_replicate] at hq
      split at hq
      · rename_i hi
        cases hq
        show F.heap[H.size + (i + 1)]? = some (vp_cell (aC .int) (k.toNatClampNeg, if FieldType.int = .long then .inr (.inl ((am_zero g sh.length).2 (sh.length + (i + 1)))) else .inl ((am_zero g sh.length).1 (sh.length + (i + 1)))))
        rw [if_neg (by decide), (am_zero_new g (Nat.le_add_right _ _)).1, vp_cell_i]
        have := hrow i hi
        rw [show H.size + (i + 1) = H.size + 1 + i by omega]
        exact this
      · cases hq
  obtain ⟨t, a1, b1⟩ := kk F.heap _ hW1 ⟨by rw [f1]; have := hS.1; omega, fun x h1 h2 => (hold x (Nat.lt_of_lt_of_le h1 hS.1)).trans (hS.2.1 x h1 h2), fun q hq => by
    rcases List.mem_append.mp hq with h | h
    · exact hS.2.2 q h
    · obtain ⟨j, -, rfl⟩ := List.mem_map.mp h
      show N0 ≤ T.heap.size
      rw [hT]
      exact Nat.le_trans hN0 hS.1⟩ F rfl X'
  refine ⟨t, step t ?_, b1⟩
  have e : T.heap.size = H.size := by rw [hT]
  rw [e]
  exact a1
end AMNW
