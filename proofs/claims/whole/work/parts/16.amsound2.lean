/-! the main theorem's helpers -/
theorem am_GW_setf {sh : List am_Sh} {a k : Nat} {x : Option (Option Nat)} (h : am_GW sh) : am_GW (am_setf sh a k x) := by
  intro i t N n hi j hj
  have hi2 : sh[i]? = some (.inl (t, N, some n)) := by
    unfold am_setf at hi
    split at hi
    · rename_i c fs hq
      by_cases e : i = a
      · subst e
        rw [List.getElem?_set_self (List.getElem?_eq_some_iff.mp hq).1] at hi
        cases hi
      · rw [List.getElem?_set_ne (fun z => e z.symm)] at hi
        exact hi
    · exact hi
  exact am_setf_in sh a k x _ _ (h i t N n hi2 j hj)
theorem am_fs_put {b N0 k j : Nat} {g : am_M} {fs : List (Option (Option Nat))} {y : Int32} (h : fs[j]? = some none) : (fs.mapIdx (fun j x => am_fv b N0 g k j x)).set j (.int y) = fs.mapIdx (fun i x => am_fv b N0 (am_put g k j y) k i x) := by
  have hl := (List.getElem?_eq_some_iff.mp h).1
  apply List.ext_getElem?
  intro i
  by_cases e : i = j
  · subst e
    rw [List.getElem?_set_self (by rw [List.length_mapIdx]; exact hl), List.getElem?_mapIdx, h]
    show some (Value.int y) = some (Value.int ((am_put g k i y).1 k i))
    rw [am_put_self]
    simp [upd]
  · rw [List.getElem?_set_ne (fun z => e z.symm), List.getElem?_mapIdx, List.getElem?_mapIdx]
    congr 1
    funext x
    rcases x with _ | _ | x
    · show Value.int (g.1 k i) = Value.int ((am_put g k j y).1 k i)
      rw [am_put_self]
      simp [upd, e]
    · rfl
    · rfl
theorem am_fs_set {b N0 k j k2 : Nat} {g : am_M} {fs : List (Option (Option Nat))} (h : j < fs.length) : (fs.mapIdx (fun j x => am_fv b N0 g k j x)).set j (.ref (am_ad b N0 k2)) = (fs.set j (some (some k2))).mapIdx (fun j x => am_fv b N0 g k j x) := by
  apply List.ext_getElem?
  intro i
  by_cases e : i = j
  · subst e
    rw [List.getElem?_set_self (by rw [List.length_mapIdx]; exact h), List.getElem?_mapIdx, List.getElem?_set_self h]
    rfl
  · rw [List.getElem?_set_ne (fun z => e z.symm), List.getElem?_mapIdx, List.getElem?_mapIdx, List.getElem?_set_ne (fun z => e z.symm)]
theorem am_VS_app {sh : List am_Sh} {rv : Option am_V} {st : List am_V} (h : ∀ k j, rv ≠ some (.inr (.inr (k, some j)))) (g : am_VS sh st) : am_VS sh (rv.toList ++ st) := by
  cases rv with
  | none => exact g
  | some v => exact g.c fun k j e => h k j (by rw [e])
section AMS
variable {J : am_J} {ml : Nat → Nat × Bool} {T0 : am_T} {l : Launch} {b N0 L : Nat} {xs : Nat → Int32} {D : va_G} {aC : FieldType → ClassId}
set_option maxHeartbeats 40000000 in
set_option maxRecDepth 100000 in
theorem am_sound (hT : am_okT T0) (hC : am_okC) (hJ : ∀ mi M, T0.1[mi]? = some M → ∀ t, am_cok T0 M (J mi t) t) (hmlT : ∀ mi M, T0.1[mi]? = some M → ml mi = (am_mx M, am_lg M)) : ∀ n, am_Good J ml T0 l b N0 L xs D aC n := by
  intro n
  induction n with
  | zero => intro mi M cs ls st sh g rv sh' g' hM h; cases h
  | succ n IH =>
  intro mi M cs ls st sh g rv sh' g' hM hex p e R s m args below meth c H locs cells slots k0 m0 Q arr pc Cx hcok hLV hNL hVS hWd hS hk0 hm0 hr1 hr2 kret
  obtain ⟨hx, hb, hml', hown, hini, hts, hSt, hfr, hlo, hsz, hX, hb0⟩ := id Cx
  have hcn := (hT.1 mi M hM).1
  have hownc : s.vm.findClass (am_cn (am_ow M)) = some m.cls := by rw [← hcn]; exact hown
  have go : ∀ (cs1 : List am_I) (ls1 : am_Ls) (st1 : List am_V) (sh1 : List am_Sh) (g1 : am_M) (pc1 : Nat) (arr1 : Array Slot) (H1 : Heap) (locs1 : List Loc) (cells1 slots1 : Nat), am_ex J ml am_dfs n (mi, cs1, ls1, st1, sh1, g1) = some (rv, sh', g') → am_cok T0 M cs1 pc1 → am_LV b N0 arr1 (am_mx M) ls1 → (am_lg M = false → am_NL ls1) → am_VS sh1 st1 → am_Wd b N0 D aC L xs sh1 g1 H1 → va_S (fun q => N0 ≤ q) s.heap H1 locs1 → cells1 + k0 = sh1.length → slots1 + m0 = am_sl sh1 → W p l e R s m args below meth c H1 locs1 cells1 slots1 Q (F0 m pc1 arr1 (st1.map (am_cv b N0))) := fun cs1 ls1 st1 sh1 g1 pc1 arr1 H1 locs1 cells1 slots1 h1 h2 h3 h4 h5 h6 h7 h8 h9 => IH mi M cs1 ls1 st1 sh1 g1 rv sh' g' hM h1 p e R s m args below meth c H1 locs1 cells1 slots1 k0 m0 Q arr1 pc1 Cx h2 h3 h4 h5 h6 h7 h8 h9 hr1 hr2 kret
  have gol : ∀ (ls1 : am_Ls) (st1 : List am_V) (cs1 : List am_I) (pc1 : Nat) (arr1 : Array Slot), am_ex J ml am_dfs n (mi, cs1, ls1, st1, sh, g) = some (rv, sh', g') → am_cok T0 M cs1 pc1 → am_LV b N0 arr1 (am_mx M) ls1 → (am_lg M = false → am_NL ls1) → am_VS sh st1 → W p l e R s m args below meth c H locs cells slots Q (F0 m pc1 arr1 (st1.map (am_cv b N0))) := fun ls1 st1 cs1 pc1 arr1 h1 h2 h3 h4 h5 => go cs1 ls1 st1 sh g pc1 arr1 H locs cells slots h1 h2 h3 h4 h5 hWd hS hk0 hm0
  have goj : ∀ (t : Nat) (st1 : List am_V), am_ex J ml am_dfs n (mi, J mi t, ls, st1, sh, g) = some (rv, sh', g') → am_VS sh st1 → W p l e R s m args below meth c H locs cells slots Q (F0 m t arr (st1.map (am_cv b N0))) := fun t st1 h hv => gol ls st1 (J mi t) t arr h (hJ mi M hM t) hLV hNL hv
  cases cs with
  | nil => cases hex
  | cons i cs =>
  obtain ⟨q, ins, len, a, b', c', v⟩ := i
  obtain ⟨rfl, hi, hcs⟩ := hcok
  have goo : ∀ (st1 : List am_V), am_ex J ml am_dfs n (mi, cs, ls, st1, sh, g) = some (rv, sh', g') → am_VS sh st1 → W p l e R s m args below meth c H locs cells slots Q (F0 m (q + len) arr (st1.map (am_cv b N0))) := fun st1 h hv => gol ls st1 cs (q + len) arr h hcs hLV hNL hv
  rcases hi with ⟨rfl, rfl⟩ | ⟨hd, hlk⟩
  · exact goj q st hex hVS
  change am_do _ _ _ (am_one J ml am_dfs _) = some _ at hex
  cases ins with
  | iconst n =>
    have hl := hlk
    simp only [am_lk, Bool.and_eq_true, beq_iff_eq, Bool.not_eq_true', Bool.or_eq_true, decide_eq_true_eq] at hl
    obtain ⟨rfl, hl⟩ := hl
    exact lv_iconst hx hb hd hl (goo _ hex hVS.i)
  | bipush n =>
    have hl := hlk
    simp only [am_lk, Bool.and_eq_true, beq_iff_eq, Bool.not_eq_true', Bool.or_eq_true, decide_eq_true_eq] at hl
    obtain ⟨rfl, hl⟩ := hl
    exact lv_bipush hx hb hd hl (goo _ hex hVS.i)
  | sipush n =>
    have hl := hlk
    simp only [am_lk, Bool.and_eq_true, beq_iff_eq, Bool.not_eq_true', Bool.or_eq_true, decide_eq_true_eq] at hl
    obtain ⟨rfl, hl⟩ := hl
    exact lv_sipush hx hb hd hl (goo _ hex hVS.i)
  | ldc x =>
    have hl := hlk
    simp only [am_lk, Bool.and_eq_true, beq_iff_eq, Bool.not_eq_true', Bool.or_eq_true, decide_eq_true_eq] at hl
    obtain ⟨rfl, hl⟩ := hl
    have hk := hT.2.2.2.1 _ (List.mem_of_getElem? hl)
    dsimp only at hk
    rw [if_neg Bool.false_ne_true] at hk
    exact lv_ldc hx hb hownc (hts _ hk) hd (goo _ hex hVS.i)
  | ldc_w x =>
    have hl := hlk
    simp only [am_lk, Bool.and_eq_true, beq_iff_eq, Bool.not_eq_true', Bool.or_eq_true, decide_eq_true_eq] at hl
    obtain ⟨rfl, hl⟩ := hl
    have hk := hT.2.2.2.1 _ (List.mem_of_getElem? hl)
    dsimp only at hk
    rw [if_neg Bool.false_ne_true] at hk
    exact lv_ldcw hx hb hownc (hts _ hk) hd (goo _ hex hVS.i)
  | ldc2_w x =>
    have hl := hlk
    simp only [am_lk, Bool.and_eq_true, beq_iff_eq, Bool.not_eq_true', Bool.or_eq_true, decide_eq_true_eq] at hl
    obtain ⟨rfl, hl⟩ := hl
    have hk := hT.2.2.2.1 _ (List.mem_of_getElem? hl)
    dsimp only at hk
    rw [if_pos rfl] at hk
    exact lv_ldc2 hx hb hownc (hts _ hk) hd (goo _ hex hVS.l)
  | lconst n =>
    have hl := hlk
    simp only [am_lk, Bool.and_eq_true, beq_iff_eq, Bool.not_eq_true', Bool.or_eq_true, decide_eq_true_eq] at hl
    obtain ⟨rfl, hl⟩ := hl
    exact lv_lconst hx hb hd hl (goo _ hex hVS.l)
  | iload k =>
    have hl : len = 2 := by simpa [am_lk] using hlk
    subst hl
    simp only [am_one] at hex
    split at hex
    · rename_i x hv
      exact lv_iload hx hb hd (hLV.at hv) (goo _ hex hVS.i)
    · cases hex
  | iload_n k =>
    have hl : len = 1 := by simpa [am_lk] using hlk
    subst hl
    simp only [am_one] at hex
    split at hex
    · rename_i x hv
      exact lv_iload_n hx hb hd rfl (hLV.at hv) (goo _ hex hVS.i)
    · cases hex
  | lload k =>
    have hl : len = 2 := by simpa [am_lk] using hlk
    subst hl
    simp only [am_one] at hex
    split at hex
    · rename_i x hv
      exact lv_lload hx hb hd (hLV.at hv) (goo _ hex hVS.l)
    · cases hex
  | lload_n k =>
    have hl : len = 1 := by simpa [am_lk] using hlk
    subst hl
    simp only [am_one] at hex
    split at hex
    · rename_i x hv
      exact lv_lload_n hx hb hd rfl (hLV.at hv) (goo _ hex hVS.l)
    · cases hex
  | aload_n k =>
    have hl : len = 1 := by simpa [am_lk] using hlk
    subst hl
    simp only [am_one] at hex
    split at hex
    · rename_i x hv
      exact lv_aload_n hx hb hd rfl (hLV.at hv) (goo _ hex hVS.o)
    · cases hex
  | istore k =>
    have hl := hlk
    simp only [am_lk, Bool.and_eq_true, beq_iff_eq, Bool.not_eq_true', Bool.or_eq_true, decide_eq_true_eq] at hl
    obtain ⟨rfl, hl⟩ := hl
    obtain ⟨hlg, hlt⟩ := hl
    have hlt := Nat.lt_of_lt_of_le (Nat.lt_succ_self _) (Nat.le_of_ble_eq_true hlt)
    obtain ⟨x, t, rfl, hex⟩ := am_i1_inv hex
    obtain ⟨hll, lv, hlv, hmem⟩ := id hLV
    refine lv_istore hx hb hd hlv hlt rfl (fun ls1 h1 => ?_)
    exact gol (ls.set k (some (.inl x))) t cs _ ls1 hex hcs (am_LV.set1 hll hlt hmem (hNL hlg) h1) (fun _ => (hNL hlg).set k (fun _ e => by cases e)) hVS.t
  | istore_n k =>
    have hl := hlk
    simp only [am_lk, Bool.and_eq_true, beq_iff_eq, Bool.not_eq_true', Bool.or_eq_true, decide_eq_true_eq] at hl
    obtain ⟨rfl, hl⟩ := hl
    obtain ⟨hlg, hlt⟩ := hl
    have hlt := Nat.lt_of_lt_of_le (Nat.lt_succ_self _) (Nat.le_of_ble_eq_true hlt)
    obtain ⟨x, t, rfl, hex⟩ := am_i1_inv hex
    obtain ⟨hll, lv, hlv, hmem⟩ := id hLV
    refine lv_istore_n hx hb hd rfl hlv hlt rfl (fun ls1 h1 => ?_)
    exact gol (ls.set k.val (some (.inl x))) t cs _ ls1 hex hcs (am_LV.set1 hll hlt hmem (hNL hlg) h1) (fun _ => (hNL hlg).set k.val (fun _ e => by cases e)) hVS.t
  | lstore k =>
    have hl := hlk
    simp only [am_lk, Bool.and_eq_true, beq_iff_eq, Bool.not_eq_true', Bool.or_eq_true, decide_eq_true_eq] at hl
    obtain ⟨rfl, hl⟩ := hl
    obtain ⟨hlg, hlt⟩ := hl
    have hlt := Nat.lt_of_lt_of_le (Nat.lt_succ_self _) (Nat.le_of_ble_eq_true hlt)
    simp only [am_one] at hex
    split at hex
    · rename_i x t
      split at hex
      · rename_i hfr9
        obtain ⟨hll, lv, hlv, hmem⟩ := id hLV
        refine lv_lstore hx hb hd hlv hlt rfl (fun ls1 h1 => ?_)
        refine gol _ t cs _ ls1 hex hcs (am_LV.set2 hll hlt hmem (fun j e y hy => ?_) h1) (fun h => by rw [hlg] at h; cases h) hVS.t
        rw [← e] at hfr9
        simp only [am_free, hy] at hfr9
        cases hfr9
      · cases hex
    · cases hex
  | lstore_n k =>
    have hl := hlk
    simp only [am_lk, Bool.and_eq_true, beq_iff_eq, Bool.not_eq_true', Bool.or_eq_true, decide_eq_true_eq] at hl
    obtain ⟨rfl, hl⟩ := hl
    obtain ⟨hlg, hlt⟩ := hl
    have hlt := Nat.lt_of_lt_of_le (Nat.lt_succ_self _) (Nat.le_of_ble_eq_true hlt)
    simp only [am_one] at hex
    split at hex
    · rename_i x t
      split at hex
      · rename_i hfr9
        obtain ⟨hll, lv, hlv, hmem⟩ := id hLV
        refine lv_lstore_n hx hb hd rfl hlv hlt rfl (fun ls1 h1 => ?_)
        refine gol _ t cs _ ls1 hex hcs (am_LV.set2 hll hlt hmem (fun j e y hy => ?_) h1) (fun h => by rw [hlg] at h; cases h) hVS.t
        rw [← e] at hfr9
        simp only [am_free, hy] at hfr9
        cases hfr9
      · cases hex
    · cases hex
  | astore_n k =>
    have hl := hlk
    simp only [am_lk, Bool.and_eq_true, beq_iff_eq, Bool.not_eq_true', Bool.or_eq_true, decide_eq_true_eq] at hl
    obtain ⟨rfl, hl⟩ := hl
    obtain ⟨hlg, hlt⟩ := hl
    have hlt := Nat.lt_of_lt_of_le (Nat.lt_succ_self _) (Nat.le_of_ble_eq_true hlt)
    simp only [am_one] at hex
    split at hex
    · rename_i x t
      obtain ⟨hll, lv, hlv, hmem⟩ := id hLV
      refine lv_astore_n hx hb hd rfl hlv hlt rfl (fun ls1 h1 => ?_)
      exact gol (ls.set k.val (some (.inr (.inr (x, none))))) t cs _ ls1 hex hcs (am_LV.set1 (v := .inr (.inr (x, none))) hll hlt hmem (hNL hlg) h1) (fun _ => (hNL hlg).set k.val (fun _ e => by cases e)) hVS.t
    · cases hex
  | iinc k n =>
    have hl := hlk
    simp only [am_lk, Bool.and_eq_true, beq_iff_eq, Bool.not_eq_true', Bool.or_eq_true, decide_eq_true_eq] at hl
    obtain ⟨rfl, hl⟩ := hl
    obtain ⟨hlg, hlt, hv9⟩ := hl
    have hlt := Nat.lt_of_lt_of_le (Nat.lt_succ_self _) (Nat.le_of_ble_eq_true hlt)
    simp only [am_one] at hex
    split at hex
    · rename_i x hxx
      obtain ⟨hll, lv, hlv, hmem⟩ := id hLV
      obtain ⟨kp, hkp⟩ := List.getElem?_of_mem (hmem k _ hxx)
      refine lv_iinc (v := x + v) hx hb hd hlv hkp (by rw [hv9]) hlt rfl (fun ls1 h1 => ?_)
      exact gol (ls.set k (some (.inl (x + v)))) st cs _ ls1 hex hcs (am_LV.set1 hll hlt hmem (hNL hlg) h1) (fun _ => (hNL hlg).set k (fun _ e => by cases e)) hVS
    · cases hex
  | iadd =>
    have hl : len = 1 := by simpa [am_lk] using hlk
    subst hl
    obtain ⟨x, y, t, rfl, hex⟩ := am_i2_inv hex
    exact lv_iadd hx hb hd (goo _ hex hVS.t.t.i)
  | isub =>
    have hl : len = 1 := by simpa [am_lk] using hlk
    subst hl
    obtain ⟨x, y, t, rfl, hex⟩ := am_i2_inv hex
    exact lv_isub hx hb hd (goo _ hex hVS.t.t.i)
  | imul =>
    have hl : len = 1 := by simpa [am_lk] using hlk
    subst hl
    obtain ⟨x, y, t, rfl, hex⟩ := am_i2_inv hex
    exact lv_imul hx hb hd (goo _ hex hVS.t.t.i)
  | iand =>
    have hl : len = 1 := by simpa [am_lk] using hlk
    subst hl
    obtain ⟨x, y, t, rfl, hex⟩ := am_i2_inv hex
    exact lv_iand hx hb hd (goo _ hex hVS.t.t.i)
  | ior =>
    have hl : len = 1 := by simpa [am_lk] using hlk
    subst hl
    obtain ⟨x, y, t, rfl, hex⟩ := am_i2_inv hex
    exact lv_ior hx hb hd (goo _ hex hVS.t.t.i)
  | ixor =>
    have hl : len = 1 := by simpa [am_lk] using hlk
    subst hl
    obtain ⟨x, y, t, rfl, hex⟩ := am_i2_inv hex
    exact lv_ixor hx hb hd (goo _ hex hVS.t.t.i)
  | ishl =>
    have hl : len = 1 := by simpa [am_lk] using hlk
    subst hl
    obtain ⟨x, y, t, rfl, hex⟩ := am_i2_inv hex
    exact lv_ishl hx hb hd (goo _ hex hVS.t.t.i)
  | ishr =>
    have hl : len = 1 := by simpa [am_lk] using hlk
    subst hl
    obtain ⟨x, y, t, rfl, hex⟩ := am_i2_inv hex
    exact lv_ishr hx hb hd (goo _ hex hVS.t.t.i)
  | iushr =>
    have hl : len = 1 := by simpa [am_lk] using hlk
    subst hl
    obtain ⟨x, y, t, rfl, hex⟩ := am_i2_inv hex
    exact lv_iushr hx hb hd rfl (goo _ hex hVS.t.t.i)
  | idiv =>
    have hl : len = 1 := by simpa [am_lk] using hlk
    subst hl
    obtain ⟨x, y, t, rfl, hex2⟩ := am_i2_inv hex
    split at hex2
    · cases hex2
    · rename_i hne
      exact lv_idiv hx hb hd hne (goo _ hex2 hVS.t.t.i)
  | irem =>
    have hl : len = 1 := by simpa [am_lk] using hlk
    subst hl
    obtain ⟨x, y, t, rfl, hex2⟩ := am_i2_inv hex
    split at hex2
    · cases hex2
    · rename_i hne
      exact lv_irem hx hb hd hne (goo _ hex2 hVS.t.t.i)
  | ineg =>
    have hl : len = 1 := by simpa [am_lk] using hlk
    subst hl
    obtain ⟨x, t, rfl, hex⟩ := am_i1_inv hex
    exact lv_ineg hx hb hd (goo _ hex hVS.t.i)
  | i2l =>
    have hl : len = 1 := by simpa [am_lk] using hlk
    subst hl
    obtain ⟨x, t, rfl, hex⟩ := am_i1_inv hex
    exact lv_i2l hx hb hd rfl (goo _ hex hVS.t.l)
  | ladd =>
    have hl : len = 1 := by simpa [am_lk] using hlk
    subst hl
    obtain ⟨x, y, t, rfl, hex⟩ := am_l2_inv hex
    exact lv_ladd hx hb hd (goo _ hex hVS.t.t.l)
  | lsub =>
    have hl : len = 1 := by simpa [am_lk] using hlk
    subst hl
    obtain ⟨x, y, t, rfl, hex⟩ := am_l2_inv hex
    exact lv_lsub hx hb hd (goo _ hex hVS.t.t.l)
  | lmul =>
    have hl : len = 1 := by simpa [am_lk] using hlk
    subst hl
    obtain ⟨x, y, t, rfl, hex⟩ := am_l2_inv hex
    exact lv_lmul hx hb hd (goo _ hex hVS.t.t.l)
  | lcmp =>
    have hl : len = 1 := by simpa [am_lk] using hlk
    subst hl
    obtain ⟨x, y, t, rfl, hex⟩ := am_l2_inv hex
    exact W.lcmp hx hb hd (goo _ hex hVS.t.t.i)
  | dup =>
    have hl : len = 1 := by simpa [am_lk] using hlk
    subst hl
    simp only [am_one] at hex
    split at hex
    · exact lv_dup hx hb hd rfl (goo _ hex hVS.i)
    · rename_i x r
      obtain ⟨k, _ | j⟩ := x
      · exact lv_dup hx hb hd rfl (goo _ hex hVS.o)
      · have hv2 : am_VS sh (.inr (.inr (k, some j)) :: .inr (.inr (k, some j)) :: r) := fun k2 j2 hm => by
          rcases List.mem_cons.mp hm with e2 | e2
          · rw [e2] at hm
            exact hVS k2 j2 (by rw [e2]; exact List.mem_cons_self)
          · exact hVS k2 j2 e2
        exact lv_dup hx hb hd rfl (goo _ hex hv2)
    · cases hex
  | dup2 =>
    have hl : len = 1 := by simpa [am_lk] using hlk
    subst hl
    simp only [am_one] at hex
    split at hex
    · rename_i y x r
      have hv2 : am_VS sh (.inl y :: .inr (.inr x) :: .inl y :: .inr (.inr x) :: r) := fun k j hm => by
        rcases List.mem_cons.mp hm with e | e
        · cases e
        · rcases List.mem_cons.mp e with e | e
          · exact hVS k j (by rw [e]; exact List.mem_cons_of_mem _ List.mem_cons_self)
          · exact hVS k j e
      obtain ⟨k, _ | j⟩ := x
      · exact lv_dup2_11 hx hb hd rfl rfl (goo _ hex hv2)
      · exact lv_dup2_11 hx hb hd rfl rfl (goo _ hex hv2)
    · cases hex
  | ifCond o f =>
    have hl := hlk
    simp only [am_lk, Bool.and_eq_true, beq_iff_eq, Bool.not_eq_true', Bool.or_eq_true, decide_eq_true_eq] at hl
    obtain ⟨rfl, hl⟩ := hl
    obtain ⟨x, t, rfl, hex⟩ := am_i1_inv hex
    have hT1 : am_if o x 0 (am_ex J ml am_dfs n (mi, J mi a, ls, t, sh, g)) (am_ex J ml am_dfs n (mi, cs, ls, t, sh, g)) = some (rv, sh', g') := hex
    cases o with
    | eq => exact lv_if_eq hx hb hd hl (fun h => goj a t (by rw [← hT1]; exact (if_pos h).symm) hVS.t) (fun h => goo t (by rw [← hT1]; exact (if_neg h).symm) hVS.t)
    | ne => exact lv_if_ne hx hb hd hl (fun h => goj a t (by rw [← hT1]; exact (if_neg h).symm) hVS.t) (fun h => goo t (by rw [← hT1]; exact (if_pos (by first | exact h | exact Classical.not_not.mp h)).symm) hVS.t)
    | lt => exact lv_if_lt hx hb hd hl (fun h => goj a t (by rw [← hT1]; exact (if_pos h).symm) hVS.t) (fun h => goo t (by rw [← hT1]; exact (if_neg h).symm) hVS.t)
    | ge => exact lv_if_ge hx hb hd hl (fun h => goj a t (by rw [← hT1]; exact (if_neg (Int32.not_lt.mpr h)).symm) hVS.t) (fun h => goo t (by rw [← hT1]; exact (if_pos (Int32.not_le.mp h)).symm) hVS.t)
    | gt => exact lv_if_gt hx hb hd hl (fun h => goj a t (by rw [← hT1]; exact (if_pos h).symm) hVS.t) (fun h => goo t (by rw [← hT1]; exact (if_neg h).symm) hVS.t)
    | le => exact lv_if_le hx hb hd hl (fun h => goj a t (by rw [← hT1]; exact (if_neg (Int32.not_lt.mpr h)).symm) hVS.t) (fun h => goo t (by rw [← hT1]; exact (if_pos (Int32.not_le.mp h)).symm) hVS.t)
  | if_icmp o f =>
    have hl := hlk
    simp only [am_lk, Bool.and_eq_true, beq_iff_eq, Bool.not_eq_true', Bool.or_eq_true, decide_eq_true_eq] at hl
    obtain ⟨rfl, hl⟩ := hl
    obtain ⟨x, y, t, rfl, hex⟩ := am_i2_inv hex
    have hT1 : am_if o x y (am_ex J ml am_dfs n (mi, J mi a, ls, t, sh, g)) (am_ex J ml am_dfs n (mi, cs, ls, t, sh, g)) = some (rv, sh', g') := hex
    cases o with
    | eq => exact lv_icmp_eq hx hb hd hl (fun h => goj a t (by rw [← hT1]; exact (if_pos h).symm) hVS.t.t) (fun h => goo t (by rw [← hT1]; exact (if_neg h).symm) hVS.t.t)
    | ne => exact lv_icmp_ne hx hb hd hl (fun h => goj a t (by rw [← hT1]; exact (if_neg h).symm) hVS.t.t) (fun h => goo t (by rw [← hT1]; exact (if_pos (by first | exact h | exact Classical.not_not.mp h)).symm) hVS.t.t)
    | lt => exact lv_icmp_lt hx hb hd hl (fun h => goj a t (by rw [← hT1]; exact (if_pos h).symm) hVS.t.t) (fun h => goo t (by rw [← hT1]; exact (if_neg h).symm) hVS.t.t)
    | ge => exact lv_icmp_ge hx hb hd hl (fun h => goj a t (by rw [← hT1]; exact (if_neg (Int32.not_lt.mpr h)).symm) hVS.t.t) (fun h => goo t (by rw [← hT1]; exact (if_pos (Int32.not_le.mp h)).symm) hVS.t.t)
    | gt => exact lv_icmp_gt hx hb hd hl (fun h => goj a t (by rw [← hT1]; exact (if_pos h).symm) hVS.t.t) (fun h => goo t (by rw [← hT1]; exact (if_neg h).symm) hVS.t.t)
    | le => exact lv_icmp_le hx hb hd hl (fun h => goj a t (by rw [← hT1]; exact (if_neg (Int32.not_lt.mpr h)).symm) hVS.t.t) (fun h => goo t (by rw [← hT1]; exact (if_pos (Int32.not_le.mp h)).symm) hVS.t.t)
  | goto f =>
    have hl := hlk
    simp only [am_lk, Bool.and_eq_true, beq_iff_eq, Bool.not_eq_true', Bool.or_eq_true, decide_eq_true_eq] at hl
    obtain ⟨rfl, hl⟩ := hl
    exact lv_goto hx hb hd hl (goj a st hex hVS)
  | tableswitch d lo hi offs =>
    have hl := hlk
    simp only [am_lk, Bool.and_eq_true, decide_eq_true_eq, List.all_eq_true] at hl
    obtain ⟨hd0, ho0, hn0⟩ := hl
    obtain ⟨x, t, rfl, hex⟩ := am_i1_inv hex
    have hT1 : am_ex J ml am_dfs n (mi, J mi (am_sw q d lo hi offs x), ls, t, sh, g) = some (rv, sh', g') := hex
    by_cases h : x.toInt < lo ∨ hi < x.toInt
    · refine lv_tableOut (tgt := am_sw q d lo hi offs x) hx hb hd h ?_ (goj _ t hT1 hVS.t)
      unfold am_sw
      rw [if_pos h]
      omega
    · have hlt : (x.toInt - lo).toNat < offs.size := by
        have : offs.toList.length = offs.size := Array.length_toList
        omega
      have ho : offs[(x.toInt - lo).toNat]? = some offs[(x.toInt - lo).toNat] := Array.getElem?_eq_getElem hlt
      have hpos := ho0 _ (Array.getElem_mem_toList hlt)
      refine lv_tableIn (tgt := am_sw q d lo hi offs x) hx hb hd (fun z => h (Or.inl z)) (fun z => h (Or.inr z)) ho ?_ (goj _ t hT1 hVS.t)
      unfold am_sw
      rw [if_neg h, ho]
      dsimp only
      omega
  | getfield x =>
    have hl := hlk
    simp only [am_lk, Bool.and_eq_true, beq_iff_eq, Bool.not_eq_true', Bool.or_eq_true, decide_eq_true_eq] at hl
    obtain ⟨rfl, hl⟩ := hl
    simp only [am_one] at hex
    have hk : ∃ ne, T0.2.1[c']? = some (am_ow M, x, a, b', ne) := hl.elim (fun h => ⟨_, h⟩) (fun h => ⟨_, h⟩)
    obtain ⟨ne, hk⟩ := hk
    obtain ⟨hci, hj, hlink⟩ := hT.2.1 _ (List.mem_of_getElem? hk)
    dsimp only at hci hj hlink
    have hlk2 : Cond.fieldLink (am_cn (am_ow M)) x (am_cn a) (am_tbf a b').2.1 (am_tbf a b').2.2.1 ∈ lw_good ∨ Cond.fieldLinkNest (am_cn (am_ow M)) x (am_cn a) (am_tbf a b').2.1 (am_tbf a b').2.2.1 am_host ∈ lw_tbl := by
      cases ne with
      | false => exact Or.inl (by rw [if_neg (by decide)] at hlink; exact hlink)
      | true => exact Or.inr (by rw [if_pos rfl] at hlink; exact hlink)
    split at hex
    · rename_i k r
      have hk1 : ∀ fs, sh[k]? = some (.inr (a, fs)) → ∃ k', k = k' + 1 := fun fs h => by
        cases k with
        | zero => rw [hWd.2.2.1.1] at h; cases h
        | succ k => exact ⟨k, rfl⟩
      split at hex
      · rename_i hf
        obtain ⟨fs, h1, h2⟩ := am_fld_spec hf
        obtain ⟨k', rfl⟩ := hk1 fs h1
        exact am_fget hC hx hb hts hSt hWd hownc h1 hci hj h2 hlk2 hd (goo _ hex hVS.t.i)
      · rename_i k2 hf
        obtain ⟨fs, h1, h2⟩ := am_fld_spec hf
        obtain ⟨k', rfl⟩ := hk1 fs h1
        exact am_fget hC hx hb hts hSt hWd hownc h1 hci hj h2 hlk2 hd (goo _ hex hVS.t.o)
      · cases hex
    · cases hex
  | putfield x =>
    have hl := hlk
    simp only [am_lk, Bool.and_eq_true, beq_iff_eq, Bool.not_eq_true', Bool.or_eq_true, decide_eq_true_eq] at hl
    obtain ⟨rfl, hl⟩ := hl
    obtain ⟨hl, hty⟩ := hl
    simp only [am_one] at hex
    have hk : ∃ ne, T0.2.1[c']? = some (am_ow M, x, a, b', ne) := hl.elim (fun h => ⟨_, h.1⟩) (fun h => ⟨_, h.1⟩)
    obtain ⟨ne, hk⟩ := hk
    obtain ⟨hci, hj, hlink⟩ := hT.2.1 _ (List.mem_of_getElem? hk)
    dsimp only at hci hj hlink
    have hlk2 : (Cond.fieldLink (am_cn (am_ow M)) x (am_cn a) (am_tbf a b').2.1 (am_tbf a b').2.2.1 ∈ lw_good ∧ ((am_tbf a b').2.2.2 = false ∨ (meth.name = "<init>" ∧ (am_tbf a b').1 = am_cn (am_ow M)))) ∨ (Cond.fieldLinkNest (am_cn (am_ow M)) x (am_cn a) (am_tbf a b').2.1 (am_tbf a b').2.2.1 am_host ∈ lw_tbl ∧ (am_tbf a b').2.2.2 = false) := by
      rcases hl with ⟨h1, h2⟩ | ⟨h1, h2⟩
      · cases hk.symm.trans h1
        rw [if_neg (by decide)] at hlink
        refine Or.inl ⟨hlink, ?_⟩
        rcases h2 with h2 | ⟨h2, h3⟩
        · exact Or.inl h2
        · exact Or.inr ⟨hini h2, by rw [h3, hcn]⟩
      · cases hk.symm.trans h1
        rw [if_pos rfl] at hlink
        exact Or.inr ⟨hlink, h2⟩
    split at hex
    · rename_i y k r
      split at hex
      · rename_i hf
        obtain ⟨fs, h1, h2⟩ := am_fld_spec hf
        obtain ⟨k', rfl⟩ : ∃ k', k = k' + 1 := by
          cases k with
          | zero => rw [hWd.2.2.1.1] at h1; cases h1
          | succ k => exact ⟨k, rfl⟩
        split at hex
        · cases hex
        rename_i hv2
        have hint : am_isint (am_tyf a b') v = true := by
          rcases hty with h | ⟨-, h⟩
          · exact h
          · exact absurd h hv2
        have hy : v = 1 → y = 0 ∨ y = 1 := fun hv1 => by
          rw [if_pos hv1] at hex
          split at hex
          · assumption
          · cases hex
        have hex2 : am_ex J ml am_dfs n (mi, cs, ls, r, sh, am_put g (k' + 1) b' y) = some (rv, sh', g') := by
          by_cases hv1 : v = 1
          · rw [if_pos hv1, if_pos (hy hv1)] at hex
            exact hex
          · rw [if_neg hv1] at hex
            exact hex
        have hlf : b' < fs.length := (List.getElem?_eq_some_iff.mp h2).1
        have hset : sh.set (k' + 1) (.inr (a, fs)) = sh := by
          have := (List.getElem?_eq_some_iff.mp h1).2
          rw [← this, List.set_getElem_self]
        refine am_fput (sh2 := sh) (g2 := am_put g (k' + 1) b' y) (fs2 := fs) hC hx hb hts hSt hWd hS hownc h1 hci hj hlf hlk2 (am_int_fit hint hy).1 (am_int_fit hint hy).2 hd hset.symm (am_put_ne _ _ _ _) (am_fs_put h2) hWd.2.2.2 (fun H1 locs1 hW1 hS1 => ?_)
        exact go cs ls r sh _ _ arr H1 locs1 cells slots hex2 hcs hLV hNL hVS.t.t hW1 hS1 hk0 hm0
      · cases hex
    · rename_i k2 k r
      split at hex
      · rename_i z hf
        obtain ⟨fs, h1, h2⟩ := am_fld_spec hf
        obtain ⟨k', rfl⟩ : ∃ k', k = k' + 1 := by
          cases k with
          | zero => rw [hWd.2.2.1.1] at h1; cases h1
          | succ k => exact ⟨k, rfl⟩
        have hv2 : v = 2 := by
          by_cases h : v = 2
          · exact h
          · rw [if_neg h] at hex
            cases hex
        rw [if_pos hv2] at hex
        have hrf : am_isrf (am_tyf a b') = true := by
          rcases hty with h | ⟨h, -⟩
          · subst hv2
            revert h
            cases am_tyf a b' <;> intro h <;> first | (cases h; done) | rfl
          · exact h
        have hlf : b' < fs.length := (List.getElem?_eq_some_iff.mp h2).1
        have hsf : am_setf sh (k' + 1) b' (some (some k2)) = sh.set (k' + 1) (.inr (a, fs.set b' (some (some k2)))) := by
          unfold am_setf
          rw [h1]
        have hG2 : am_GW (am_setf sh (k' + 1) b' (some (some k2))) := am_GW_setf hWd.2.2.2
        refine am_fput (sh2 := am_setf sh (k' + 1) b' (some (some k2))) (g2 := g) (fs2 := fs.set b' (some (some k2))) hC hx hb hts hSt hWd hS hownc h1 hci hj hlf hlk2 (am_rf_fit hrf _).1 (am_rf_fit hrf _).2 hd hsf (fun _ _ => ⟨rfl, rfl⟩) (am_fs_set hlf) hG2 (fun H1 locs1 hW1 hS1 => ?_)
        have he := am_setf_eq sh (k' + 1) b' (some (some k2))
        exact go cs ls r _ g _ arr H1 locs1 cells slots hex hcs hLV hNL (hVS.t.t.le (am_le_setf _ _ _ _)) hW1 hS1 (by rw [he.1]; exact hk0) (by rw [he.2]; exact hm0)
      · cases hex
    · cases hex
  | iaload =>
    have hl : len = 1 := by simpa [am_lk] using hlk
    subst hl
    simp only [am_one] at hex
    split at hex
    · rename_i i k j r
      split at hex
      · rename_i q2 n2 ha
        simp only [am_in, am_do] at hex
        split at hex
        · cases hex
        · rename_i hin
          obtain ⟨hc2, hcase⟩ := am_arr_at (b := b) (N0 := N0) ha hVS.t hWd.2.2.2
          rcases hcase with ⟨rfl, rfl, rfl⟩ | ⟨q3, rfl, hcv⟩
          · have hL9 : n2 = L := by have := hc2.symm.trans hWd.2.2.1.1; injection this with h; injection h with h; injection h with _ h; injection h
            have hg : g.1 0 = xs := hWd.2.2.1.2
            refine va_sld hx hb hX (by omega) (by show ¬ N0 ≤ b; omega) hS (by rw [← hL9]; exact hin) hd ?_
            rw [← hg]
            exact goo _ hex hVS.t.t.i
          · have hat := am_at (b := b) (N0 := N0) (aC := aC) (g := g) q3 hc2
            have hg : W p l e R s m args below meth c H locs cells slots Q (F0 m q arr (.int i :: .ref (N0 + q3) :: r.map (am_cv b N0))) := va_iald hx hb hSt.1 hWd.1 q3 0 hat rfl hin hd (goo _ hex hVS.t.t.i)
            rw [← hcv] at hg
            exact hg
      · cases hex
    · cases hex
  | baload =>
    have hl : len = 1 := by simpa [am_lk] using hlk
    subst hl
    simp only [am_one] at hex
    split at hex
    · rename_i i k r
      split at hex
      · rename_i q2 n2 ha
        simp only [am_in, am_do] at hex
        split at hex
        · cases hex
        · rename_i hin
          obtain ⟨hc2, hcase⟩ := am_arr_at (b := b) (N0 := N0) ha hVS.t hWd.2.2.2
          rcases hcase with ⟨rfl, -, rfl, rfl⟩ | ⟨q3, rfl, hcv⟩
          · rw [hWd.2.2.1.1] at hc2
            cases hc2
          · have hat := am_at (b := b) (N0 := N0) (aC := aC) (g := g) q3 hc2
            have hg : W p l e R s m args below meth c H locs cells slots Q (F0 m q arr (.int i :: .ref (N0 + q3) :: r.map (am_cv b N0))) := va_zald hx hb hSt.1 hWd.1 q3 1 hat rfl hin hd (goo _ hex hVS.t.t.i)
            rw [← hcv] at hg
            exact hg
      · cases hex
    · cases hex
  | laload =>
    have hl : len = 1 := by simpa [am_lk] using hlk
    subst hl
    simp only [am_one] at hex
    split at hex
    · rename_i i k r
      split at hex
      · rename_i q2 n2 ha
        simp only [am_in, am_do] at hex
        split at hex
        · cases hex
        · rename_i hin
          obtain ⟨hc2, hcase⟩ := am_arr_at (b := b) (N0 := N0) ha hVS.t hWd.2.2.2
          rcases hcase with ⟨rfl, -, rfl, rfl⟩ | ⟨q3, rfl, hcv⟩
          · rw [hWd.2.2.1.1] at hc2
            cases hc2
          · have hat := am_at (b := b) (N0 := N0) (aC := aC) (g := g) q3 hc2
            have hg : W p l e R s m args below meth c H locs cells slots Q (F0 m q arr (.int i :: .ref (N0 + q3) :: r.map (am_cv b N0))) := va_lald hx hb hSt.1 hWd.1 q3 2 hat rfl hin hd (goo _ hex hVS.t.t.l)
            rw [← hcv] at hg
            exact hg
      · cases hex
    · cases hex
  | aaload =>
    have hl : len = 1 := by simpa [am_lk] using hlk
    subst hl
    simp only [am_one] at hex
    split at hex
    · rename_i i k r
      split at hex
      · rename_i N2 n2 ha
        simp only [am_in, am_do] at hex
        split at hex
        · cases hex
        · rename_i hin
          obtain ⟨k', rfl⟩ : ∃ k', k = k' + 1 := by
            cases k with
            | zero => rw [hWd.2.2.1.1] at ha; cases ha
            | succ k => exact ⟨k, rfl⟩
          have hat := am_at (b := b) (N0 := N0) (aC := aC) (g := g) k' ha
          have hlt : i.toNatClampNeg < N2 := Nat.not_le.mp fun z => hin (Or.inr z)
          have hv2 : am_VS sh (.inr (.inr (k' + 1, some i.toNatClampNeg)) :: r) := fun k j hm => by
            rcases List.mem_cons.mp hm with e | e
            · cases e
              exact ⟨_, _, _, ha, hlt⟩
            · exact hVS.t.t k j e
          have hgo := goo _ hex hv2
          refine W.aald (v := .ref (N0 + (k' + 1) + i.toNatClampNeg)) (ty := .array .int) hx hb (hWd.1 k' _ hat) ((hSt.1.2 3 _ rfl).1 N2 (fun j => va_rf (if j < N2 then some (N0 + (k' + 1) + j) else none))) rfl (fun z => by cases z) (by show ¬ (i < 0 ∨ (arrV _ _ _).slots.size ≤ _); rw [arrV_size]; exact hin) ?_ rfl rfl hd hgo
          show (arrV _ _ _).slots[_]? = _
          rw [arrV_read _ _ hlt]
          show some (va_rf (if i.toNatClampNeg < N2 then some (N0 + (k' + 1) + i.toNatClampNeg) else none)) = _
          rw [if_pos hlt]
          rfl
      · cases hex
    · cases hex
  | iastore =>
    have hl : len = 1 := by simpa [am_lk] using hlk
    subst hl
    simp only [am_one] at hex
    split at hex
    · rename_i x i k j r
      split at hex
      · rename_i q2 n2 ha
        simp only [am_in, am_do] at hex
        split at hex
        · cases hex
        · rename_i hin
          obtain ⟨hc2, hcase⟩ := am_arr_at (b := b) (N0 := N0) ha hVS.t.t hWd.2.2.2
          rcases hcase with ⟨h0, -, -⟩ | ⟨q3, rfl, hcv⟩
          · omega
          · have hg : W p l e R s m args below meth c H locs cells slots Q (F0 m q arr (am_cv b N0 (.inl x) :: .int i :: .ref (N0 + q3) :: r.map (am_cv b N0))) := am_iast hx hb hSt.1 hWd hS hc2 hin hd (fun H1 locs1 hW1 hS1 => go cs ls r sh _ _ arr H1 locs1 cells slots hex hcs hLV hNL hVS.t.t.t hW1 hS1 hk0 hm0)
            rw [← hcv] at hg
            exact hg
      · cases hex
    · cases hex
  | bastore =>
    have hl : len = 1 := by simpa [am_lk] using hlk
    subst hl
    simp only [am_one] at hex
    split at hex
    · rename_i x i k r
      split at hex
      · rename_i q2 n2 ha
        simp only [am_in, am_do] at hex
        split at hex
        · cases hex
        · rename_i hin
          obtain ⟨hc2, hcase⟩ := am_arr_at (b := b) (N0 := N0) ha hVS.t.t hWd.2.2.2
          rcases hcase with ⟨h0, -, -⟩ | ⟨q3, rfl, hcv⟩
          · omega
          · have hg : W p l e R s m args below meth c H locs cells slots Q (F0 m q arr (am_cv b N0 (.inl x) :: .int i :: .ref (N0 + q3) :: r.map (am_cv b N0))) := am_zast hx hb hSt.1 hWd hS hc2 hin hd (fun H1 locs1 hW1 hS1 => go cs ls r sh _ _ arr H1 locs1 cells slots hex hcs hLV hNL hVS.t.t.t hW1 hS1 hk0 hm0)
            rw [← hcv] at hg
            exact hg
      · cases hex
    · cases hex
  | lastore =>
    have hl : len = 1 := by simpa [am_lk] using hlk
    subst hl
    simp only [am_one] at hex
    split at hex
    · rename_i x i k r
      split at hex
      · rename_i q2 n2 ha
        simp only [am_in, am_do] at hex
        split at hex
        · cases hex
        · rename_i hin
          obtain ⟨hc2, hcase⟩ := am_arr_at (b := b) (N0 := N0) ha hVS.t.t hWd.2.2.2
          rcases hcase with ⟨h0, -, -⟩ | ⟨q3, rfl, hcv⟩
          · omega
          · have hg : W p l e R s m args below meth c H locs cells slots Q (F0 m q arr (am_cv b N0 (.inr (.inl x)) :: .int i :: .ref (N0 + q3) :: r.map (am_cv b N0))) := am_last hx hb hSt.1 hWd hS hc2 hin hd (fun H1 locs1 hW1 hS1 => go cs ls r sh _ _ arr H1 locs1 cells slots hex hcs hLV hNL hVS.t.t.t hW1 hS1 hk0 hm0)
            rw [← hcv] at hg
            exact hg
      · cases hex
    · cases hex
  | arraylength =>
    have hl : len = 1 := by simpa [am_lk] using hlk
    subst hl
    simp only [am_one] at hex
    split at hex
    · rename_i r
      split at hex
      · rename_i q2 n2 ha
        have hc2 := (am_arr_at (b := b) (N0 := N0) ha hVS hWd.2.2.2).1
        have hq0 : q2 = 0 := by
          have h0 := hWd.2.2.1.1
          simp only [am_arr, h0] at ha
          split at ha
          · cases ha; rfl
          · cases ha
        subst hq0
        have hL9 : n2 = L := by have := hc2.symm.trans hWd.2.2.1.1; injection this with h; injection h with h; injection h with _ h; injection h
        subst hL9
        have hg9 : W p l e R s m args below meth c H locs cells slots Q (F0 m q arr (.ref b :: r.map (am_cv b N0))) := va_slen hx hb hX (by omega) (by show ¬ N0 ≤ b; omega) hS hd (goo _ hex hVS.t.i)
        exact hg9
      · cases hex
    · cases hex
  | new x =>
    have hl := hlk
    simp only [am_lk, Bool.and_eq_true, beq_iff_eq, Bool.not_eq_true', Bool.or_eq_true, decide_eq_true_eq] at hl
    obtain ⟨rfl, hl⟩ := hl
    obtain ⟨ha6, hl⟩ := hl
    have ha6 : a < 6 := Nat.lt_of_lt_of_le (Nat.lt_succ_self _) (Nat.le_of_ble_eq_true ha6)
    have hk := hT.2.2.2.2 _ (List.mem_of_getElem? hl)
    dsimp only at hk
    have hT1 : am_ex J ml am_dfs n (mi, cs, ls, .inr (.inr (sh.length, none)) :: st, sh ++ [.inr (a, am_dfs a)], am_zero g sh.length) = some (rv, sh', g') := hex
    have hgr := am_ex_grow J ml am_dfs n _ _ hT1
    dsimp only at hgr
    have hg1 := hgr.1
    have hg2 := hgr.2.1
    rw [List.length_append] at hg1
    rw [am_sl_app] at hg2
    have hne : ¬ a = 99 := by omega
    have hk2 : a < 6 ∧ Cond.classLink (am_cn (am_ow M)) x (am_cn a) ∈ lw_good := by
      rw [if_neg hne] at hk
      exact hk
    have hdl : (am_dfs a).length = am_nf a := by unfold am_dfs; rw [List.length_map, List.length_range]
    have hs1 : am_sl [.inr (a, am_dfs a)] = am_nf a := by show (am_dfs a).length + 0 = _; rw [hdl]; rfl
    rw [hs1] at hg2
    have hl1 : ([Sum.inr (a, am_dfs a)] : List am_Sh).length = 1 := rfl
    rw [hl1] at hg1
    refine am_newobj hC hx hb hts hSt hWd hS hsz hk2.1 hownc hk2.2 (fun k hk => ?_) (by omega) (by omega) hd (fun H1 hW1 hS1 => ?_)
    · rw [hC.2.2.2.2.2.2 a hk2.1 k hk]
      cases am_tyf a k <;> first | rfl | (show Value.int 0 = Value.int ((am_zero g sh.length).1 sh.length k); rw [(am_zero_new g (Nat.le_refl _)).1])
    · exact go cs ls _ _ _ _ arr H1 locs _ _ hT1 hcs hLV hNL ((hVS.le (am_le_app _ _)).o) hW1 hS1 (by rw [List.length_append, hl1]; omega) (by rw [am_sl_app, hs1]; omega)
  | newarray t =>
    have hl := hlk
    simp only [am_lk, Bool.and_eq_true, beq_iff_eq, Bool.not_eq_true', Bool.or_eq_true, decide_eq_true_eq] at hl
    obtain ⟨rfl, hl⟩ := hl
    obtain ⟨x, t', rfl, hex2⟩ := am_i1_inv hex
    split at hex2
    · cases hex2
    · rename_i hxn
      have hT1 : am_ex J ml am_dfs n (mi, cs, ls, .inr (.inr (sh.length, none)) :: t', sh ++ [.inl (newarray.typeOf t, x.toNatClampNeg, none)], am_zero g sh.length) = some (rv, sh', g') := hex2
      have hgr := am_ex_grow J ml am_dfs n _ _ hT1
      dsimp only at hgr
      have hg1 := hgr.1
      have hg2 := hgr.2.1
      rw [List.length_append] at hg1
      rw [am_sl_app] at hg2
      have hl1 : ([Sum.inl (newarray.typeOf t, x.toNatClampNeg, none)] : List am_Sh).length = 1 := rfl
      have hs1 : am_sl [.inl (newarray.typeOf t, x.toNatClampNeg, none)] = x.toNatClampNeg := by show x.toNatClampNeg + 0 = _; omega
      rw [hl1] at hg1
      rw [hs1] at hg2
      have hpr : newarray.typeOf t = .int ∨ newarray.typeOf t = .boolean ∨ newarray.typeOf t = .long := by rcases hl with rfl | rfl | rfl <;> simp [newarray.typeOf]
      have harr : (Cond.arrayClass (newarray.typeOf t)).before args s = true := by
        rcases hpr with h | h | h <;> rw [h]
        · exact hts _ hC.2.2.2.1
        · exact hts _ hC.2.2.2.2.1
        · exact hts _ hC.2.2.2.2.2.1
      exact am_newarr hx hb rfl hpr harr hSt hWd hS (fun h => hxn (Or.inl h)) (Nat.not_lt.mp fun h => hxn (Or.inr h)) (by omega) (by omega) hd (fun H1 hW1 hS1 => go cs ls _ _ _ _ arr H1 locs _ _ hT1 hcs hLV hNL ((hVS.t.le (am_le_app _ _)).o) hW1 hS1 (by rw [List.length_append, hl1]; omega) (by rw [am_sl_app, hs1]; omega))
  | multianewarray x d =>
    have hl := hlk
    simp only [am_lk, Bool.and_eq_true, beq_iff_eq, Bool.not_eq_true', Bool.or_eq_true, decide_eq_true_eq] at hl
    obtain ⟨rfl, hl⟩ := hl
    obtain ⟨hd2, hkk⟩ := hl
    subst hd2
    have hk := hT.2.2.2.2 _ (List.mem_of_getElem? hkk)
    rw [if_pos rfl] at hk
    obtain ⟨x2, y, t', rfl, hex2⟩ := am_i2_inv hex
    split at hex2
    · cases hex2
    · rename_i hxn
      have hT1 : am_ex J ml am_dfs n (mi, cs, ls, .inr (.inr (sh.length, none)) :: t', sh ++ (.inl (.int, x2.toNatClampNeg, some y.toNatClampNeg) :: List.replicate x2.toNatClampNeg (.inl (.int, y.toNatClampNeg, none))), am_zero g sh.length) = some (rv, sh', g') := hex2
      have hgr := am_ex_grow J ml am_dfs n _ _ hT1
      dsimp only at hgr
      have hg1 := hgr.1
      have hg2 := hgr.2.1
      rw [List.length_append] at hg1
      rw [am_sl_app] at hg2
      have hl1 : ((Sum.inl (FieldType.int, x2.toNatClampNeg, some y.toNatClampNeg) :: List.replicate x2.toNatClampNeg (.inl (.int, y.toNatClampNeg, none))) : List am_Sh).length = 1 + x2.toNatClampNeg := by rw [List.length_cons, List.length_replicate]; omega
      have hs1 : am_sl (.inl (.int, x2.toNatClampNeg, some y.toNatClampNeg) :: List.replicate x2.toNatClampNeg (.inl (.int, y.toNatClampNeg, none))) = x2.toNatClampNeg + x2.toNatClampNeg * y.toNatClampNeg := by
        simp only [am_sl, List.map_cons, List.sum_cons, List.map_replicate, am_s1]
        rw [List.sum_replicate_nat]
      rw [hl1] at hg1
      rw [hs1] at hg2
      exact am_newgrid hx hb hownc (hts _ hk) (am_AO_moved (Vm.Alike.refl _) hSt.2.2) (hts _ hC.2.2.2.1) hSt hWd hS hsz (fun h => hxn (Or.inl h)) (fun h => hxn (Or.inr (Or.inl h))) (Nat.not_lt.mp fun h => hxn (Or.inr (Or.inr (Or.inl h)))) (Nat.not_lt.mp fun h => hxn (Or.inr (Or.inr (Or.inr h)))) (by omega) (by omega) hd (fun H1 locs1 hW1 hS1 => go cs ls _ _ _ _ arr H1 locs1 _ _ hT1 hcs hLV hNL ((hVS.t.t.le (am_le_app _ _)).o) hW1 hS1 (by rw [List.length_append, hl1]; omega) (by rw [am_sl_app, hs1]; omega))
  | invokevirtual x =>
    have hl := hlk
    simp only [am_lk, Bool.and_eq_true, beq_iff_eq, Bool.not_eq_true', Bool.or_eq_true, decide_eq_true_eq] at hl
    obtain ⟨rfl, hl⟩ := hl
    obtain ⟨hql, hco, hb16, how⟩ := hl
    simp only [am_one] at hex
    obtain ⟨kind, hkd, hql⟩ : ∃ kind, (kind = 0 ∨ kind = 1) ∧ T0.2.2.1[c']? = some (am_ow M, x, a, kind) := hql.elim (fun h => ⟨0, Or.inl rfl, h⟩) (fun h => ⟨1, Or.inr rfl, h⟩)
    split at hex
    · rename_i k hrf
      split at hex
      · rename_i hchk
        rw [Bool.and_eq_true] at hchk
        obtain ⟨hcls, hmay⟩ := hchk
        cases hMa : T0.1[a]? with
        | none => rw [hMa] at how; cases how
        | some M' =>
          rw [hMa] at how
          have how := Nat.eq_of_beq_eq_true how
          obtain ⟨hf1, hf2, hf3, hf4⟩ := am_callok_spec hMa hco
          rw [hmlT a M' hMa] at hmay hex
          obtain ⟨hm1, hm2, hm3, hm4⟩ := am_mayc_spec hmay
          have hbp : 0 < b' % 16 := Nat.lt_of_lt_of_le (Nat.lt_succ_self _) (Nat.le_of_ble_eq_true hb16)
          obtain ⟨n', hn'⟩ : ∃ n', b' % 16 = n' + 1 := ⟨b' % 16 - 1, by omega⟩
          rw [hn'] at hrf hf3 hm1 hm2 hm3 hm4 hex
          rw [Nat.add_sub_cancel] at hrf hf3
          obtain ⟨htk, hsp⟩ := am_take_ref hrf
          obtain ⟨fs, hcell⟩ : ∃ fs, sh[k]? = some (.inr (am_ow M', fs)) := by
            unfold am_iscls at hcls
            split at hcls
            · rename_i c9 fs h9
              rw [how, ← Nat.eq_of_beq_eq_true hcls]
              exact ⟨fs, h9⟩
            · cases hcls
          obtain ⟨k', rfl⟩ : ∃ k', k = k' + 1 := by
            cases k with
            | zero => rw [hWd.2.2.1.1] at hcell; cases hcell
            | succ k => exact ⟨k, rfl⟩
          simp only [am_ca, am_do] at hex
          obtain ⟨⟨rv1, sh1, g1⟩, hex1, hex2⟩ := Option.bind_eq_some_iff.mp hex
          have hgr := am_ex_grow J ml am_dfs n _ _ hex2
          dsimp only at hgr
          have hgr1 := am_ex_grow J ml am_dfs n _ _ hex1
          dsimp only at hgr1
          refine am_invoke hT hC hJ IH (M := M) (M' := M') hMa hf4 Cx hLV.size hex1 hm1 hm4 hWd hS hk0 hm0 (Nat.le_trans hgr.1 hr1) (Nat.le_trans hgr.2.1 hr2) ⟨hf1, hf2⟩ (rest := (st.drop (n' + 1)).map (am_cv b N0)) (by rw [am_wt_le]; exact hm2) (List.mem_of_getElem? hql) hcn (Or.inl ⟨hkd, hd, k', (st.take n').reverse, htk, by rw [List.length_reverse, List.length_take]; omega, ⟨fs, hcell⟩, ?_⟩) (fun H1 locs1 cells1 slots1 hW1 hS1 h8 h9 => ?_)
          · conv => lhs; rw [hsp]
            rw [List.map_append, List.map_reverse, List.reverse_reverse]
            rfl
          · have hres := go cs ls (rv1.toList ++ st.drop (n' + 1)) sh1 g1 (q + 3) arr H1 locs1 cells1 slots1 hex2 hcs hLV hNL (am_VS_app (am_ex_rv J ml am_dfs n _ _ hex1) ((hVS.drop (n' + 1)).le hgr1)) hW1 hS1 h8 h9
            rw [List.map_append] at hres
            cases rv1 <;> exact hres
      · cases hex
    · cases hex
  | invokestatic x =>
    have hl := hlk
    simp only [am_lk, Bool.and_eq_true, beq_iff_eq, Bool.not_eq_true', Bool.or_eq_true, decide_eq_true_eq] at hl
    obtain ⟨rfl, hl⟩ := hl
    obtain ⟨hql, hco⟩ := hl
    simp only [am_one] at hex
    obtain ⟨kind, hkd, hql⟩ : ∃ kind, (kind = 2 ∨ kind = 3) ∧ T0.2.2.1[c']? = some (am_ow M, x, a, kind) := hql.elim (fun h => ⟨2, Or.inl rfl, h⟩) (fun h => ⟨3, Or.inr rfl, h⟩)
    split at hex
    · rename_i hmay
      cases hMa : T0.1[a]? with
      | none => simp only [am_callok, hMa] at hco; cases hco
      | some M' =>
        obtain ⟨hf1, hf2, hf3, hf4⟩ := am_callok_spec hMa hco
        rw [hmlT a M' hMa] at hmay hex
        obtain ⟨hm1, hm2, hm3, hm4⟩ := am_mayc_spec hmay
        simp only [am_ca, am_do] at hex
        obtain ⟨⟨rv1, sh1, g1⟩, hex1, hex2⟩ := Option.bind_eq_some_iff.mp hex
        have hgr := am_ex_grow J ml am_dfs n _ _ hex2
        dsimp only at hgr
        have hgr1 := am_ex_grow J ml am_dfs n _ _ hex1
        dsimp only at hgr1
        refine am_invoke hT hC hJ IH (M := M) (M' := M') hMa hf4 Cx hLV.size hex1 hm1 hm4 hWd hS hk0 hm0 (Nat.le_trans hgr.1 hr1) (Nat.le_trans hgr.2.1 hr2) ⟨hf1, hf2⟩ (rest := (st.drop b').map (am_cv b N0)) (by rw [am_wt_le]; exact hm2) (List.mem_of_getElem? hql) hcn (Or.inr (Or.inl ⟨hkd, hd, by rw [List.length_reverse, List.length_take]; omega, ?_⟩)) (fun H1 locs1 cells1 slots1 hW1 hS1 h8 h9 => ?_)
        · rw [List.map_reverse, List.reverse_reverse, ← List.map_append, List.take_append_drop]
        · have hres := go cs ls (rv1.toList ++ st.drop b') sh1 g1 (q + 3) arr H1 locs1 cells1 slots1 hex2 hcs hLV hNL (am_VS_app (am_ex_rv J ml am_dfs n _ _ hex1) ((hVS.drop b').le hgr1)) hW1 hS1 h8 h9
          rw [List.map_append] at hres
          cases rv1 <;> exact hres
    · cases hex
  | invokespecial x =>
    have hl := hlk
    simp only [am_lk, Bool.and_eq_true, beq_iff_eq, Bool.not_eq_true', Bool.or_eq_true, decide_eq_true_eq] at hl
    obtain ⟨rfl, hl⟩ := hl
    cases b' with
    | zero =>
      simp only [am_one] at hex
      simp only [Bool.and_eq_true, beq_iff_eq] at hl
      obtain ⟨hl1, hl2, hl3⟩ := hl
      have hk := hT.2.2.1 _ (List.mem_of_getElem? hl3)
      rw [if_pos rfl] at hk
      split at hex
      · rename_i k r
        split at hex
        · rename_i hwt
          refine W.objInit hx hb hownc (hts _ hk) (hts _ hC.2.1) (hts _ hC.2.2.1) rfl (by rw [hml']; exact hLV.size) rfl hd (Nat.le_trans (Nat.le_of_ble_eq_true hl1) hfr) ?_ (goo _ hex hVS.t)
          have h1 := Nat.le_of_ble_eq_true hwt
          have h2 := Nat.le_of_ble_eq_true hl2
          show 2 * 0 + ((r.map (am_cv b N0)).map fun v => v.category).sum + 12 ≤ R.locals
          rw [am_wt_le]
          omega
        · cases hex
      · cases hex
    | succ b2 =>
      simp only [am_one] at hex
      simp only [Bool.and_eq_true, Bool.or_eq_true, beq_iff_eq] at hl
      obtain ⟨hql, hco⟩ := hl
      obtain ⟨kind, hkd, hql⟩ : ∃ kind, (kind = 4 ∨ kind = 5) ∧ T0.2.2.1[c']? = some (am_ow M, x, a, kind) := hql.elim (fun h => ⟨4, Or.inl rfl, h⟩) (fun h => ⟨5, Or.inr rfl, h⟩)
      split at hex
      · rename_i k hrf
        split at hex
        · rename_i hmay
          cases hMa : T0.1[a]? with
          | none => simp only [am_callok, hMa] at hco; cases hco
          | some M' =>
            obtain ⟨hf1, hf2, hf3, hf4⟩ := am_callok_spec hMa hco
            rw [hmlT a M' hMa] at hmay hex
            obtain ⟨hm1, hm2, hm3, hm4⟩ := am_mayc_spec hmay
            obtain ⟨htk, hsp⟩ := am_take_ref hrf
            simp only [am_ca, am_do] at hex
            obtain ⟨⟨rv1, sh1, g1⟩, hex1, hex2⟩ := Option.bind_eq_some_iff.mp hex
            have hgr := am_ex_grow J ml am_dfs n _ _ hex2
            dsimp only at hgr
            have hgr1 := am_ex_grow J ml am_dfs n _ _ hex1
            dsimp only at hgr1
            refine am_invoke hT hC hJ IH (M := M) (M' := M') hMa hf4 Cx hLV.size hex1 hm1 hm4 hWd hS hk0 hm0 (Nat.le_trans hgr.1 hr1) (Nat.le_trans hgr.2.1 hr2) ⟨hf1, hf2⟩ (rest := (st.drop (b2 + 1)).map (am_cv b N0)) (by rw [am_wt_le]; exact hm2) (List.mem_of_getElem? hql) hcn (Or.inr (Or.inr ⟨hkd, hd, k, (st.take b2).reverse, htk, by rw [List.length_reverse, List.length_take]; omega, ?_⟩)) (fun H1 locs1 cells1 slots1 hW1 hS1 h8 h9 => ?_)
            · conv => lhs; rw [hsp]
              rw [List.map_append, List.map_reverse, List.reverse_reverse]
              rfl
            · have hres := go cs ls (rv1.toList ++ st.drop (b2 + 1)) sh1 g1 (q + 3) arr H1 locs1 cells1 slots1 hex2 hcs hLV hNL (am_VS_app (am_ex_rv J ml am_dfs n _ _ hex1) ((hVS.drop (b2 + 1)).le hgr1)) hW1 hS1 h8 h9
              rw [List.map_append] at hres
              cases rv1 <;> exact hres
        · cases hex
      · cases hex
  | ireturn =>
    have hl := hlk
    simp only [am_lk, Bool.and_eq_true, beq_iff_eq, Bool.not_eq_true', Bool.or_eq_true, decide_eq_true_eq] at hl
    obtain ⟨rfl, hl⟩ := hl
    simp only [am_one] at hex
    split at hex
    · rename_i x
      have hx9 : (am_re M = some .int ∨ am_re M = some .boolean ∧ (x = 0 ∨ x = 1)) ∧ (rv, sh', g') = (some (.inl x), sh, g) := by
        rcases hl with ⟨h1, h2⟩ | ⟨h1, h2⟩
        · subst h2
          exact ⟨Or.inl h1, (Option.some.inj hex).symm⟩
        · subst h2
          have hex2 : am_do (am_ex J ml am_dfs n) (am_ex J ml am_dfs n) (am_ex J ml am_dfs n) (if x = 0 ∨ x = 1 then am_rt (some (.inl x), sh, g) else none) = some (rv, sh', g') := hex
          split at hex2
          · rename_i h9
            exact ⟨Or.inr ⟨h1, h9⟩, (Option.some.inj hex2).symm⟩
          · cases hex2
      obtain ⟨h9, heq⟩ := hx9
      cases heq
      exact kret q arr H locs cells slots ⟨hd, h9⟩ hWd hS hk0 hm0
    · cases hex
  | lreturn =>
    have hl := hlk
    simp only [am_lk, Bool.and_eq_true, beq_iff_eq, Bool.not_eq_true', Bool.or_eq_true, decide_eq_true_eq] at hl
    obtain ⟨rfl, hl⟩ := hl
    simp only [am_one] at hex
    split at hex
    · rename_i x
      cases (Option.some.inj hex)
      exact kret q arr H locs cells slots ⟨hd, hl⟩ hWd hS hk0 hm0
    · cases hex
  | return_ =>
    have hl := hlk
    simp only [am_lk, Bool.and_eq_true, beq_iff_eq, Bool.not_eq_true', Bool.or_eq_true, decide_eq_true_eq] at hl
    obtain ⟨rfl, hl⟩ := hl
    simp only [am_one] at hex
    split at hex
    · cases (Option.some.inj hex)
      exact kret q arr H locs cells slots ⟨hd, hl⟩ hWd hS hk0 hm0
    · cases hex
  | _ => exact absurd hlk Bool.false_ne_true
end AMS
