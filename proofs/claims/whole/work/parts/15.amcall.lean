/-! THE ABSTRACT MACHINE IS SOUND. -/
theorem am_i1_inv {f g h : am_C → Option am_R} {st : List am_V} {k : Int32 → List am_V → am_O} {r : am_R} (e : am_do f g h (am_i1 st k) = some r) : ∃ x t, st = .inl x :: t ∧ am_do f g h (k x t) = some r := by
  unfold am_i1 at e
  split at e
  · exact ⟨_, _, rfl, e⟩
  · cases e
theorem am_i2_inv {f g h : am_C → Option am_R} {st : List am_V} {k : Int32 → Int32 → List am_V → am_O} {r : am_R} (e : am_do f g h (am_i2 st k) = some r) : ∃ x y t, st = .inl y :: .inl x :: t ∧ am_do f g h (k x y t) = some r := by
  unfold am_i2 at e
  split at e
  · exact ⟨_, _, _, rfl, e⟩
  · cases e
theorem am_l2_inv {f g h : am_C → Option am_R} {st : List am_V} {k : Int64 → Int64 → List am_V → am_O} {r : am_R} (e : am_do f g h (am_l2 st k) = some r) : ∃ x y t, st = .inr (.inl y) :: .inr (.inl x) :: t ∧ am_do f g h (k x y t) = some r := by
  unfold am_l2 at e
  split at e
  · exact ⟨_, _, _, rfl, e⟩
  · cases e
theorem am_wt_le (b N0 : Nat) : ∀ st : List am_V, ((st.map (am_cv b N0)).map fun v => v.category).sum = am_wt st
  | [] => rfl
  | .inl x :: r => by have := am_wt_le b N0 r; show 1 + ((r.map (am_cv b N0)).map fun v => v.category).sum = am_wt r + 1; omega
  | .inr (.inl x) :: r => by have := am_wt_le b N0 r; show 2 + ((r.map (am_cv b N0)).map fun v => v.category).sum = am_wt r + 2; omega
  | .inr (.inr (k, none)) :: r => by have := am_wt_le b N0 r; show 1 + ((r.map (am_cv b N0)).map fun v => v.category).sum = am_wt r + 1; omega
  | .inr (.inr (k, some j)) :: r => by have := am_wt_le b N0 r; show 1 + ((r.map (am_cv b N0)).map fun v => v.category).sum = am_wt r + 1; omega
theorem am_mayc_spec {M : am_Me} {n : Nat} {st : List am_V} (h : am_mayc (am_mx M, am_lg M) n st = true) : (am_args (st.take n).reverse).length ≤ am_mx M ∧ am_wt (st.drop n) ≤ 8 ∧ n ≤ st.length ∧ (am_lg M = false → am_NL (am_args (st.take n).reverse)) := by
  simp only [am_mayc, Bool.and_eq_true, Bool.or_eq_true] at h
  obtain ⟨h1, h2, h3, h4⟩ := h
  refine ⟨Nat.le_of_ble_eq_true h1, Nat.le_of_ble_eq_true h2, Nat.le_of_ble_eq_true h3, fun hl => ?_⟩
  rcases h4 with h4 | h4
  · rw [hl] at h4; cases h4
  · exact am_args_NL _ (fun x hx => am_nol_no _ h4 x (List.mem_reverse.mp hx))
theorem am_callok_spec {T : am_T} {M M' : am_Me} {a n : Nat} (hM : T.1[a]? = some M') (h : am_callok T M a n = true) : am_fr M' + 1 ≤ am_fr M ∧ 8 + (am_mx M' + 11) + am_lo M' ≤ am_lo M ∧ am_np M' = n ∧ a + 2 ≤ T.1.length := by
  unfold am_callok at h
  rw [hM] at h
  simp only [Bool.and_eq_true] at h
  exact ⟨Nat.le_of_ble_eq_true h.1, Nat.le_of_ble_eq_true h.2.1, Nat.eq_of_beq_eq_true h.2.2.1, Nat.le_of_ble_eq_true h.2.2.2⟩
theorem am_isref_spec {st : List am_V} {k : Nat} (h : am_isref st = some k) : ∃ r, st = .inr (.inr (k, none)) :: r := by
  unfold am_isref at h
  split at h
  · cases h; exact ⟨_, rfl⟩
  · cases h
theorem am_take_ref {st : List am_V} {n k : Nat} (h : am_isref (st.drop n) = some k) : (st.take (n + 1)).reverse = .inr (.inr (k, none)) :: (st.take n).reverse ∧ st = st.take n ++ (.inr (.inr (k, none)) :: st.drop (n + 1)) := by
  obtain ⟨r, hr⟩ := am_isref_spec h
  have h1 : st[n]? = some (.inr (.inr (k, none))) := by
    have := congrArg (fun l => l[0]?) hr
    simpa using this
  have h2 : r = st.drop (n + 1) := by
    have := congrArg (List.drop 1) hr
    simpa [List.drop_drop, Nat.add_comm] using this.symm
  refine ⟨?_, ?_⟩
  · rw [List.take_succ, h1]
    simp
  · conv => lhs; rw [← List.take_append_drop n st, hr, h2]
theorem am_rf_fit {ty : FieldType} (h : am_isrf ty = true) (a : Nat) : narrow ty (.ref a) = .ref a ∧ fits ty (.ref a) = true := by
  cases ty <;> first | (cases h; done) | exact ⟨rfl, rfl⟩
theorem am_int_fit {ty : FieldType} {v x : Int32} (h : am_isint ty v = true) (hx : v = 1 → x = 0 ∨ x = 1) : narrow ty (.int x) = .int x ∧ fits ty (.int x) = true := by
  cases ty <;> first | (cases h; done) | exact ⟨rfl, rfl⟩ | skip
  simp [am_isint] at h
  rcases hx h with rfl | rfl <;> exact ⟨rfl, rfl⟩
theorem am_fld_spec {q : Option am_Sh} {ci k : Nat} {x : Option (Option Nat)} (h : am_fld q ci k = some x) : ∃ fs, q = some (.inr (ci, fs)) ∧ fs[k]? = some x := by
  unfold am_fld at h
  split at h
  · split at h
    · rename_i e; subst e; exact ⟨_, rfl, h⟩
    · cases h
  · cases h
section AMSO
variable {J : am_J} {ml : Nat → Nat × Bool} {T0 : am_T} {l : Launch} {b N0 L : Nat} {xs : Nat → Int32} {D : va_G} {aC : FieldType → ClassId}
set_option maxHeartbeats 4000000 in
/-- a call, out of the callee's contract -/
theorem am_invoke (hT : am_okT T0) (hC : am_okC) (hJ : ∀ mi M, T0.1[mi]? = some M → ∀ t, am_cok T0 M (J mi t) t) {n : Nat} (IH : am_Good J ml T0 l b N0 L xs D aC n) {M M' : am_Me} {a : Nat} (hM' : T0.1[a]? = some M') (hlast : a + 2 ≤ T0.1.length)
    {p : Program} {e : Env} {R : Room} {s : State} {m : MethodId} {args : Array Value} {below : List Frame} {meth : Method} {c : Code} {H : Heap} {locs : List Loc} {cells slots k0 m0 : Nat} {Q : State → Prop} {arr : Array Slot} {pc : Nat} (Cx : am_Cx b N0 L xs D aC M p R s m args meth c) (hsz : arr.size = am_mx M) {sh sh1 : List am_Sh} {g g1 : am_M} {rv : Option am_V} {as : List am_V} {st0 rest : List Value}
    (hex : am_ex J ml am_dfs n (a, J a 0, am_loc (am_mx M') as, [], sh, g) = some (rv, sh1, g1)) (hlen : (am_args as).length ≤ am_mx M') (hnl : am_lg M' = false → am_NL (am_args as)) (hWd : am_Wd b N0 D aC L xs sh g H) (hS : va_S (fun q => N0 ≤ q) s.heap H locs) (hk0 : cells + k0 = sh.length) (hm0 : slots + m0 = am_sl sh) (hr1 : sh1.length ≤ R.cells + k0) (hr2 : am_sl sh1 ≤ R.slots + m0)
    (hroom : am_fr M' + 1 ≤ am_fr M ∧ 8 + (am_mx M' + 11) + am_lo M' ≤ am_lo M) (hrest : (rest.map fun v => v.category).sum ≤ 8) {index kind : Nat}
    (hq : (am_ow M, index, a, kind) ∈ T0.2.2.1) (hcn : (am_y M).cls = am_cn (am_ow M))
    (hkind : ((kind = 0 ∨ kind = 1) ∧ decode (am_by M) pc = .ok (.invokevirtual index, 3) ∧ (∃ k as', as = .inr (.inr (k + 1, none)) :: as' ∧ as'.length = am_np M' ∧ (∃ fs, sh[k + 1]? = some (.inr (am_ow M', fs))) ∧ st0 = (as'.map (am_cv b N0)).reverse ++ .ref (N0 + k) :: rest)) ∨
      ((kind = 2 ∨ kind = 3) ∧ decode (am_by M) pc = .ok (.invokestatic index, 3) ∧ as.length = am_np M' ∧ st0 = (as.map (am_cv b N0)).reverse ++ rest) ∨
      ((kind = 4 ∨ kind = 5) ∧ decode (am_by M) pc = .ok (.invokespecial index, 3) ∧ (∃ k as', as = .inr (.inr (k, none)) :: as' ∧ as'.length = am_np M' ∧ st0 = (as'.map (am_cv b N0)).reverse ++ .ref (am_ad b N0 k) :: rest)))
    (kk : ∀ (H1 : Heap) (locs1 : List Loc) (cells1 slots1 : Nat), am_Wd b N0 D aC L xs sh1 g1 H1 → va_S (fun q => N0 ≤ q) s.heap H1 locs1 → cells1 + k0 = sh1.length → slots1 + m0 = am_sl sh1 → W p l e R s m args below meth c H1 locs1 cells1 slots1 Q (F0 m (pc + 3) arr ((rv.map (am_cv b N0)).toList ++ rest))) :
    W p l e R s m args below meth c H locs cells slots Q (F0 m pc arr st0) := by
  obtain ⟨hx, hb, hml', hown, hini, hts, hSt, hfr, hlo, hszN, hX, hb0⟩ := id Cx
  have hMet := am_met hT hJ hb0 IH hM' hlast hex hlen hnl
  have hg := am_ex_grow J ml am_dfs n _ _ hex
  obtain ⟨hc3, hcr⟩ := hT.1 a M' hM'
  obtain ⟨hc1, hc2, hc4, hc5, hc6⟩ := hcr hlast
  have hqq := hT.2.2.1 _ hq
  dsimp only at hqq
  have hfree : FrameBlind (va_Pc (as.map (am_cv b N0)) (am_Pre b N0 L xs D aC sh g)) := fun a U gf mk q => by
    obtain ⟨q1, q2, q3, q4⟩ := q
    exact ⟨q1, q2, am_St.same (s := U) (U := U.calling gf mk a) rfl q3, va_X.moved (u := U) (U := U.calling gf mk a) (Vm.Alike.refl U.vm) q4⟩
  have hpre : ∀ U : State, U.heap = H → s.WarmedH U.vm → am_Pre b N0 L xs D aC sh g U := fun U hU hW => ⟨by rw [hU]; exact hWd, hSt.warm hW, by
    rw [hU]
    exact va_X.moved hW.alike (hX.kept (hS.2.1 b (by omega) (by show ¬ N0 ≤ b; omega)))⟩
  have hwords : ∀ w ∈ am_wsM M', ∀ (a' : Array Value) (U : State), s.WarmedH U.vm → w.before a' U = true := fun w hw a' U hW => by
    rcases List.mem_cons.mp hw with rfl | hw
    · exact word_at hW (am_good_words hc1) (hts _ hc1)
    · exact word_at hW (am_good_words hw) (hts _ hw)
  have hpar : ∀ sig, parseMethodDescriptor (am_y M').desc = some sig → am_np M' = sig.parameters.length := fun sig h => by
    rw [h] at hc6
    exact (Option.some.inj hc6).symm
  have hcells : cells + (sh1.length - sh.length) ≤ R.cells ∧ slots + (am_sl sh1 - am_sl sh) ≤ R.slots := by
    have := hg.1
    have := hg.2.1
    dsimp only at *
    omega
  have hfl : am_fr M' + 1 ≤ R.frames ∧ 8 + (am_mx M' + 11) + am_lo M' ≤ R.locals := ⟨Nat.le_trans hroom.1 hfr, Nat.le_trans hroom.2 hlo⟩
  have fin : ∀ (hr : va_Run p l e R s m args below meth c H locs cells slots (sh1.length - sh.length) (am_sl sh1 - am_sl sh) (F0 m pc arr st0) rest (am_Qc b N0 L xs D aC rv sh1 g1 (as.map (am_cv b N0)).toArray) (fun q => N0 ≤ q)), W p l e R s m args below meth c H locs cells slots Q (F0 m pc arr st0) := fun hr =>
    am_call (B := am_Wd b N0 D aC L xs sh1 g1) hr hS (fun H1 locs1 hB hS1 => kk H1 locs1 _ _ hB hS1 (by have := hg.1; dsimp only at this; omega) (by have := hg.2.1; dsimp only at this; omega))
  have hlr : 2 * (F0 m pc arr st0).monitorRoom + (rest.map fun v => v.category).sum ≤ 8 := lv_room hrest
  have hfix : CallFix p m c (am_by M) (am_mx M) s args lw_good (am_cn (am_ow M)) := ⟨hx, hb, hml', by rw [← hcn]; exact hown, hts⟩
  rcases hkind with ⟨hk, hd, k, as', rfl, hn, ⟨fs, hcell⟩, hst⟩ | ⟨hk, hd, hn, hst⟩ | ⟨hk, hd, k, as', rfl, hn, hst⟩
  · rw [if_neg (by omega)] at hqq
    obtain ⟨M2, hM2, hlink, hwd⟩ := hqq
    cases hM'.symm.trans hM2
    rw [if_pos hk] at hwd
    obtain ⟨hi1, hi2, how⟩ := hwd
    have hrec : ∃ cellB : Cell, H[N0 + k]? = some cellB ∧ cellB.vm.isStatics = false ∧ s.vm.findClass (am_y M').cls = some cellB.cls := by
      rw [hc3]
      exact va_recv hSt.1 hWd.1 (q := (am_cn (am_ow M'), am_tbf (am_ow M'), am_nf (am_ow M'))) (am_cls_at how) (am_at k hcell)
    have hPV : PreV s H (am_y M').cls (N0 + k) (va_Pc ((Sum.inr (Sum.inr (k + 1, none)) :: as').map (am_cv b N0)) (am_Pre b N0 L xs D aC sh g)) (as'.map (am_cv b N0)) := ⟨hfree, hrec, fun U hU hW => ⟨rfl, hpre U hU hW⟩⟩
    rcases hk with rfl | rfl
    · rw [if_neg (by decide)] at hlink
      exact fin (va_runV (C := (am_y M').cls) (bytes := am_by M') (maxL := am_mx M') (ret := am_re M') (n := am_np M') hfix hMet ⟨⟨rfl, rfl, hfl.1, hfl.2, hwords, List.mem_cons_self, hts _ hc1, hts _ hc4, hc5, hpar, hts _ hlink⟩, hts _ hi1, hts _ hi2⟩ hPV rfl (by rw [List.length_map]; exact hn) hsz hst hlr hd hcells)
    · rw [if_pos (by decide)] at hlink
      exact fin (va_runVN (C := (am_y M').cls) (bytes := am_by M') (maxL := am_mx M') (ret := am_re M') (n := am_np M') hfix hMet ⟨⟨⟨rfl, rfl, hfl.1, hfl.2, hwords, List.mem_cons_self⟩, hts _ hc1, hts _ hc4, hc5, hpar, va_Nw.use rfl (hSt.2.1 _ hlink rfl)⟩, hts _ hi1, hts _ hi2⟩ hPV rfl (by rw [List.length_map]; exact hn) hsz hst hlr hd hcells)
  · rw [if_neg (by omega)] at hqq
    obtain ⟨M2, hM2, hlink, hwd⟩ := hqq
    cases hM'.symm.trans hM2
    rw [if_neg (by omega), if_pos hk] at hwd
    have hPS : PreS s H (va_Pc (as.map (am_cv b N0)) (am_Pre b N0 L xs D aC sh g)) (as.map (am_cv b N0)) := ⟨hfree, fun U hU hW => ⟨rfl, hpre U hU hW⟩⟩
    rcases hk with rfl | rfl
    · rw [if_neg (by decide)] at hlink
      exact fin (va_runS (bytes := am_by M') (maxL := am_mx M') (ret := am_re M') (n := am_np M') hfix hMet ⟨⟨rfl, rfl, hfl.1, hfl.2, hwords, List.mem_cons_self, hts _ hc1, hts _ hc4, hc5, hpar, hts _ hlink⟩, hts _ hwd⟩ hPS rfl (by rw [List.length_map]; exact hn) hsz hst hlr hd hcells)
    · rw [if_pos (by decide)] at hlink
      exact fin (va_runSN (bytes := am_by M') (maxL := am_mx M') (ret := am_re M') (n := am_np M') hfix hMet ⟨⟨⟨rfl, rfl, hfl.1, hfl.2, hwords, List.mem_cons_self⟩, hts _ hc1, hts _ hc4, hc5, hpar, va_Nw.use rfl (hSt.2.1 _ hlink rfl)⟩, hts _ hwd, trivial⟩ hPS rfl (by rw [List.length_map]; exact hn) hsz hst hlr hd hcells)
  · rw [if_neg (by omega)] at hqq
    obtain ⟨M2, hM2, hlink, hwd⟩ := hqq
    cases hM'.symm.trans hM2
    rw [if_neg (by omega), if_neg (by omega)] at hwd
    obtain ⟨hnm, hi1, hret⟩ := hwd
    have hPS : PreS s H (va_Pc ((Sum.inr (Sum.inr (k, none)) :: as').map (am_cv b N0)) (am_Pre b N0 L xs D aC sh g)) (.ref (am_ad b N0 k) :: as'.map (am_cv b N0)) := ⟨hfree, fun U hU hW => ⟨rfl, hpre U hU hW⟩⟩
    have hc1' : Cond.code (am_y M') (am_by M') (am_mx M') none ∈ lw_good := by rw [← hret]; exact hc1
    have hmem : Cond.code (am_y M') (am_by M') (am_mx M') none ∈ am_wsM M' := by unfold am_wsM; rw [hret]; exact List.mem_cons_self
    rcases hk with rfl | rfl
    · rw [if_neg (by decide)] at hlink
      exact fin (va_runI (bytes := am_by M') (maxL := am_mx M') (n := am_np M') hfix hMet ⟨⟨rfl, rfl, hfl.1, hfl.2, hwords, hmem, hts _ hc1', hts _ hc4, hc5, hpar, hts _ hlink⟩, hnm, hts _ hi1⟩ hPS rfl (by rw [List.length_map]; exact hn) hsz hst hlr hd hcells)
    · rw [if_pos (by decide)] at hlink
      exact fin (va_runIN (bytes := am_by M') (maxL := am_mx M') (n := am_np M') hfix hMet ⟨⟨⟨rfl, rfl, hfl.1, hfl.2, hwords, hmem⟩, hts _ hc1', hts _ hc4, hc5, hpar, va_Nw.use rfl (hSt.2.1 _ hlink rfl)⟩, hnm, hts _ hi1⟩ hPS rfl (by rw [List.length_map]; exact hn) hsz hst hlr hd hcells)
end AMSO
