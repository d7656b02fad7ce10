/-! Stores, with the heap's size told. -/
section AMST
variable {p : Program} {l : Launch} {e : Env} {R : Room} {s : State} {m : MethodId} {args : Array Value} {below : List Frame} {meth : Method} {c : Code} {H : Heap} {locs : List Loc} {cells slots : Nat} {Q : State → Prop}
variable {cc : ByteArray} {pc : Nat} {ls : Array Slot} {rest : List Value} {b N0 L : Nat} {xs : Nat → Int32} {D : va_G} {aC : FieldType → ClassId} {sh : List am_Sh} {g : am_M}
theorem am_Wd.put (hWd : am_Wd b N0 D aC L xs sh g H) {sh2 : List am_Sh} {g2 : am_M} {k : Nat} {e0 e : va_E} {H1 : Heap} (hk : (am_ws b N0 aC sh g)[k]? = some (N0 + k, e0)) (he : va_at D am_cls (N0 + k, e) H1) (hz : H1.size = H.size) (oq : ∀ q : Nat, q ≠ N0 + k → H1[q]? = H[q]?) (hws : (am_ws b N0 aC sh g).set k (N0 + k, e) = am_ws b N0 aC sh2 g2) (hl : sh2.length = sh.length) (h0 : sh2[0]? = sh[0]?) (hg : g2.1 0 = g.1 0) (hG : am_GW sh2) : am_Wd b N0 D aC L xs sh2 g2 H1 := by
  refine ⟨?_, by rw [hz, hWd.2.1, hl], ⟨by rw [h0]; exact hWd.2.2.1.1, by rw [hg]; exact hWd.2.2.1.2⟩, hG⟩
  rw [← hws]
  exact hWd.1.set am_ws_D hk he oq
theorem am_at (k : Nat) {q : am_Sh} (h : sh[k + 1]? = some q) : (am_ws b N0 aC sh g)[k]? = some (N0 + k, am_ce b N0 aC g (k + 1) q) := by rw [am_ws_at, h]; rfl
theorem am_iast (hexec : p.tables.exec = Jvm.exec) (hb : c.code = cc) (hK : va_K D am_cls (am_tys aC) s) (hWd : am_Wd b N0 D aC L xs sh g H) (hS : va_S (fun q => N0 ≤ q) s.heap H locs) {k n : Nat} (hc : sh[k + 1]? = some (.inl (.int, n, none))) {i x : Int32} (hin : ¬ (i < 0 ∨ n ≤ i.toNatClampNeg)) (hdg : decode cc pc = .ok (.iastore, 1))
    (kk : ∀ (H1 : Heap) (locs1 : List Loc), am_Wd b N0 D aC L xs sh (am_put g (k + 1) i.toNatClampNeg x) H1 → va_S (fun q => N0 ≤ q) s.heap H1 locs1 → W p l e R s m args below meth c H1 locs1 cells slots Q (F0 m (pc + 1) ls rest)) : W p l e R s m args below meth c H locs cells slots Q (F0 m pc ls (.int x :: .int i :: .ref (N0 + k) :: rest)) := by
  have ha : (am_ws b N0 aC sh g)[k]? = some (N0 + k, .inl (aC .int, n, .inl (g.1 (k + 1)))) := am_at k hc
  refine W.iast hexec hb (hWd.1 k _ ha) ((hK.2 0 _ rfl).1 n (fun j => .int (g.1 (k + 1) j))) (fun q => by cases q) (by show ¬ (i < 0 ∨ (arrV _ _ _).slots.size ≤ _); rw [arrV_size]; exact hin) rfl rfl hdg fun H1 e z oq => ?_
  refine kk H1 _ (hWd.put (e := .inl (aC .int, n, .inl (upd (g.1 (k + 1)) i.toNatClampNeg x))) ha ?_ z oq (am_ws_put hc (am_put_ne _ _ _ _) ?_) rfl rfl rfl hWd.2.2.2) (hS.put z oq (Nat.le_add_right _ _))
  · show H1[N0 + k]? = some (vp_cell _ _)
    rw [e, vp_cell_i, vp_cell_i, arrV_store]
    congr 2
    funext q
    by_cases hq : q = i.toNatClampNeg
    · subst hq
      simp [updV, upd]
    · simp [updV, upd, hq]
  · show _ = Sum.inl (aC .int, n, if FieldType.int = FieldType.long then _ else _)
    rw [if_neg (by decide), am_put_self]
theorem am_zast (hexec : p.tables.exec = Jvm.exec) (hb : c.code = cc) (hK : va_K D am_cls (am_tys aC) s) (hWd : am_Wd b N0 D aC L xs sh g H) (hS : va_S (fun q => N0 ≤ q) s.heap H locs) {k n : Nat} (hc : sh[k + 1]? = some (.inl (.boolean, n, none))) {i x : Int32} (hin : ¬ (i < 0 ∨ n ≤ i.toNatClampNeg)) (hdg : decode cc pc = .ok (.bastore, 1))
    (kk : ∀ (H1 : Heap) (locs1 : List Loc), am_Wd b N0 D aC L xs sh (am_put g (k + 1) i.toNatClampNeg (vp_nar .boolean x)) H1 → va_S (fun q => N0 ≤ q) s.heap H1 locs1 → W p l e R s m args below meth c H1 locs1 cells slots Q (F0 m (pc + 1) ls rest)) : W p l e R s m args below meth c H locs cells slots Q (F0 m pc ls (.int x :: .int i :: .ref (N0 + k) :: rest)) := by
  have ha : (am_ws b N0 aC sh g)[k]? = some (N0 + k, .inl (aC .boolean, n, .inl (g.1 (k + 1)))) := am_at k hc
  refine W.zast hexec hb (hWd.1 k _ ha) ((hK.2 1 _ rfl).1 n (fun j => .int (g.1 (k + 1) j))) (fun q => by cases q) (by show ¬ (i < 0 ∨ (arrV _ _ _).slots.size ≤ _); rw [arrV_size]; exact hin) rfl rfl hdg fun H1 e z oq => ?_
  refine kk H1 _ (hWd.put (e := .inl (aC .boolean, n, .inl (upd (g.1 (k + 1)) i.toNatClampNeg (vp_nar .boolean x)))) ha ?_ z oq (am_ws_put hc (am_put_ne _ _ _ _) ?_) rfl rfl rfl hWd.2.2.2) (hS.put z oq (Nat.le_add_right _ _))
  · show H1[N0 + k]? = some (vp_cell _ _)
    rw [e, vp_cell_i, vp_cell_i, arrV_store]
    congr 2
    funext q
    by_cases hq : q = i.toNatClampNeg
    · subst hq
      simp [updV, upd, vp_nar]
      try rfl
    · simp [updV, upd, hq]
  · show _ = Sum.inl (aC .boolean, n, if FieldType.boolean = FieldType.long then _ else _)
    rw [if_neg (by decide), am_put_self]
theorem am_last (hexec : p.tables.exec = Jvm.exec) (hb : c.code = cc) (hK : va_K D am_cls (am_tys aC) s) (hWd : am_Wd b N0 D aC L xs sh g H) (hS : va_S (fun q => N0 ≤ q) s.heap H locs) {k n : Nat} (hc : sh[k + 1]? = some (.inl (.long, n, none))) {i : Int32} {x : Int64} (hin : ¬ (i < 0 ∨ n ≤ i.toNatClampNeg)) (hdg : decode cc pc = .ok (.lastore, 1))
    (kk : ∀ (H1 : Heap) (locs1 : List Loc), am_Wd b N0 D aC L xs sh (am_putL g (k + 1) i.toNatClampNeg x) H1 → va_S (fun q => N0 ≤ q) s.heap H1 locs1 → W p l e R s m args below meth c H1 locs1 cells slots Q (F0 m (pc + 1) ls rest)) : W p l e R s m args below meth c H locs cells slots Q (F0 m pc ls (.long x :: .int i :: .ref (N0 + k) :: rest)) := by
  have ha : (am_ws b N0 aC sh g)[k]? = some (N0 + k, .inl (aC .long, n, .inr (.inl (g.2 (k + 1))))) := am_at k hc
  refine W.last hexec hb (hWd.1 k _ ha) ((hK.2 2 _ rfl).1 n (fun j => .long (g.2 (k + 1) j))) (fun q => by cases q) (by show ¬ (i < 0 ∨ (arrV _ _ _).slots.size ≤ _); rw [arrV_size]; exact hin) rfl rfl hdg fun H1 e z oq => ?_
  refine kk H1 _ (hWd.put (e := .inl (aC .long, n, .inr (.inl (vp_updL (g.2 (k + 1)) i.toNatClampNeg x)))) ha ?_ z oq (am_ws_put hc (am_putL_ne _ _ _ _) ?_) rfl rfl rfl hWd.2.2.2) (hS.put z oq (Nat.le_add_right _ _))
  · show H1[N0 + k]? = some (vp_cell _ _)
    rw [e, vp_cell_l, vp_cell_l, arrV_store]
    congr 2
    funext q
    by_cases hq : q = i.toNatClampNeg
    · subst hq
      simp [updV, vp_updL]
    · simp [updV, vp_updL, hq]
  · show _ = Sum.inl (aC .long, n, if FieldType.long = FieldType.long then _ else _)
    rw [if_pos rfl, am_putL_self]
/-- a field is written: the three roads -/
theorem am_fput (hC : am_okC) (hexec : p.tables.exec = Jvm.exec) (hb : c.code = cc) (hts : ∀ w ∈ lw_good, w.before args s = true) (hSt : am_St D aC s) (hWd : am_Wd b N0 D aC L xs sh g H) (hS : va_S (fun q => N0 ≤ q) s.heap H locs) {own : String} {index k ci j : Nat} {fs : List (Option (Option Nat))} (hown : s.vm.findClass own = some m.cls) (hc : sh[k + 1]? = some (.inr (ci, fs))) (hci : ci < 6) (hj : j < am_nf ci) (hlen : j < fs.length)
    (hlink : (Cond.fieldLink own index (am_cn ci) (am_tbf ci j).2.1 (am_tbf ci j).2.2.1 ∈ lw_good ∧ ((am_tbf ci j).2.2.2 = false ∨ (meth.name = "<init>" ∧ (am_tbf ci j).1 = own))) ∨ (Cond.fieldLinkNest own index (am_cn ci) (am_tbf ci j).2.1 (am_tbf ci j).2.2.1 am_host ∈ lw_tbl ∧ (am_tbf ci j).2.2.2 = false))
    {v : Value} (hn : narrow (am_tyf ci j) v = v) (hfit : fits (am_tyf ci j) v = true) (hdg : decode cc pc = .ok (.putfield index, 3)) {sh2 : List am_Sh} {g2 : am_M} {fs2 : List (Option (Option Nat))} (hsh : sh2 = sh.set (k + 1) (.inr (ci, fs2))) (hg : ∀ i, i ≠ k + 1 → g2.1 i = g.1 i ∧ g2.2 i = g.2 i) (hfs : (fs.mapIdx (fun j x => am_fv b N0 g (k + 1) j x)).set j v = fs2.mapIdx (fun j x => am_fv b N0 g2 (k + 1) j x)) (hG : am_GW sh2)
    (kk : ∀ (H1 : Heap) (locs1 : List Loc), am_Wd b N0 D aC L xs sh2 g2 H1 → va_S (fun q => N0 ≤ q) s.heap H1 locs1 → W p l e R s m args below meth c H1 locs1 cells slots Q (F0 m (pc + 3) ls rest)) : W p l e R s m args below meth c H locs cells slots Q (F0 m pc ls (v :: .ref (N0 + k) :: rest)) := by
  have ha : (am_ws b N0 aC sh g)[k]? = some (N0 + k, .inr (ci, fs.mapIdx (fun j x => am_fv b N0 g (k + 1) j x))) := am_at k hc
  obtain ⟨hin, hty, hnm, hcl, -, -⟩ := hC.1 ci hci
  have hcc := am_cls_at hci
  have hap := va_apart (own := own) hts hin (am_tyf ci) hty hnm hSt.1 hcc
  obtain ⟨r, h1, cell, q1, q2, q3, q4⟩ := hWd.1 k _ ha
  have hr : r = (am_cn ci, am_tbf ci, am_nf ci) := Option.some.inj (h1.symm.trans hcc)
  subst hr
  obtain ⟨hSl, hfc, kC, hkC, hkind⟩ := hSt.1.1 ci _ hcc
  obtain ⟨cf, kf, fi, f, hi, hsl⟩ := hSl j hj
  have hi2 : s.fieldFound? (am_cn ci) (am_tbf ci j).2.1 (am_tbf ci j).2.2.1 = some (cf, kf, fi, f) := by rw [← hcl j hj]; exact hi
  have hlay := hts _ (hin _ (u_in_lay hj))
  have hst := (u_facts hfc hkC (u_lays hts hin hj) hi).1
  have hl2 : k + 1 < sh.length := (List.getElem?_eq_some_iff.mp hc).1
  have fin : ∀ H' : Heap, H'[N0 + k]? = some (cell.setSlot f.slot v) → H'.size = H.size → (∀ q, q ≠ N0 + k → H'[q]? = H[q]?) → W p l e R s m args below meth c H' (locs ++ [⟨N0 + k, f.slot⟩]) cells slots Q (F0 m (pc + 3) ls rest) := by
    intro H' e1 e2 e3
    rw [hsl] at e1 ⊢
    refine kk H' _ (hWd.put (e := .inr (ci, (fs.mapIdx (fun j x => am_fv b N0 g (k + 1) j x)).set j v)) ha ⟨_, hcc, t_OB.to (V := updV (vp_V (fs.mapIdx (fun j x => am_fv b N0 g (k + 1) j x))) j v) ⟨_, e1, q2, q3, t_set q4 hap hj v⟩ (fun i _ => vp_updV_set (by rw [List.length_mapIdx]; exact hlen) v i)⟩ e2 e3 (am_ws_set hl2 hsh hg ?_) (by rw [hsh, List.length_set]) (by rw [hsh, List.getElem?_set_ne (by omega)]) (hg 0 (by omega)).1 hG) (hS.put e2 e3 (Nat.le_add_right _ _))
    show Sum.inr _ = Sum.inr _
    rw [hfs]
  rcases hlink with ⟨hl, hf⟩ | ⟨hl, hf⟩
  · rcases hff : (am_tbf ci j).2.2.2 with _ | _
    · unfold u_lay at hlay
      rw [if_neg (by rw [hff]; decide)] at hlay
      have h6 := u_store hfc hkC hkind hlay hi (hty j hj) hn hfit
      exact W.putK hexec hb (f := f) ⟨hown, hts _ hl, ⟨_, _, _, hi2⟩, hst⟩ (by rw [q2]; exact h6) q1 q3 (by rw [hsl]; exact k2_hasslot (q4 j hj)) rfl rfl hdg fin
    · rcases hf with hf | ⟨hin2, hdecl⟩
      · rw [hff] at hf; cases hf
      · unfold u_lay at hlay
        rw [if_pos hff] at hlay
        have hcf : m.cls = cf := by
          obtain ⟨_, _, c', _, _, _, -, -, hf', -, -, -, hown2, -⟩ := Cond.laysFinal_spec hlay
          have e1 : c' = cf := by have := hi.symm.trans hf'; simp at this; exact this.1.symm
          rw [hdecl] at hown2
          rw [← e1]; exact Option.some.inj (hown.symm.trans hown2)
        have h6 := u_fits hfc hkC hkind (Or.inr hlay) hi (hty j hj) hn hfit
        exact W.putFinK hexec hb hown (hts _ hl) hi2 hst hcf hin2 (by rw [q2]; exact h6) q1 q3 (by rw [hsl]; exact k2_hasslot (q4 j hj)) rfl rfl hdg fin
  · unfold u_lay at hlay
    rw [if_neg (by rw [hf]; decide)] at hlay
    have h6 := u_store hfc hkC hkind hlay hi (hty j hj) hn hfit
    exact va_WputK hexec hb (f := f) hown (va_Nw.use rfl (hSt.2.1 _ hl rfl)) hi2 hst (by rw [q2]; exact h6) q1 q3 (by rw [hsl]; exact k2_hasslot (q4 j hj)) rfl rfl hdg fin
/-- a field is read -/
theorem am_fget (hC : am_okC) (hexec : p.tables.exec = Jvm.exec) (hb : c.code = cc) (hts : ∀ w ∈ lw_good, w.before args s = true) (hSt : am_St D aC s) (hWd : am_Wd b N0 D aC L xs sh g H) {own : String} {index k ci j : Nat} {fs : List (Option (Option Nat))} {x : Option (Option Nat)} (hown : s.vm.findClass own = some m.cls) (hc : sh[k + 1]? = some (.inr (ci, fs))) (hci : ci < 6) (hj : j < am_nf ci) (hx : fs[j]? = some x)
    (hlink : Cond.fieldLink own index (am_cn ci) (am_tbf ci j).2.1 (am_tbf ci j).2.2.1 ∈ lw_good ∨ Cond.fieldLinkNest own index (am_cn ci) (am_tbf ci j).2.1 (am_tbf ci j).2.2.1 am_host ∈ lw_tbl) (hdg : decode cc pc = .ok (.getfield index, 3))
    (kk : W p l e R s m args below meth c H locs cells slots Q (F0 m (pc + 3) ls (am_fv b N0 g (k + 1) j x :: rest))) : W p l e R s m args below meth c H locs cells slots Q (F0 m pc ls (.ref (N0 + k) :: rest)) := by
  have ha : (am_ws b N0 aC sh g)[k]? = some (N0 + k, .inr (ci, fs.mapIdx (fun j x => am_fv b N0 g (k + 1) j x))) := am_at k hc
  obtain ⟨hin, hty, hnm, hcl, -, -⟩ := hC.1 ci hci
  have hv : (fs.mapIdx (fun j x => am_fv b N0 g (k + 1) j x))[j]? = some (am_fv b N0 g (k + 1) j x) := by rw [List.getElem?_mapIdx, hx]; rfl
  have hsame : ∀ x, s.fieldFound? (am_tbf ci j).1 (am_tbf ci j).2.1 (am_tbf ci j).2.2.1 = some x → s.fieldFound? (am_cn ci) (am_tbf ci j).2.1 (am_tbf ci j).2.2.1 = some x := fun x hx => by rw [← hcl j hj]; exact hx
  rcases hlink with h | h
  · exact va_get hexec hb hts hin hown hSt.1 hWd.1 k ha (am_cls_at hci) j hj (hts _ h) hsame hv hdg kk
  · exact va_getN hexec hb hts hin hown hSt.1 hWd.1 k ha (am_cls_at hci) j hj (va_Nw.use rfl (hSt.2.1 _ h rfl)) hsame hv hdg kk
end AMST
