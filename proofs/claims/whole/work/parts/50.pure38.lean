theorem lgp (x y : Int32) : (0 < lg_cmp x.toInt64 y.toInt64) = (y < x) := by
  unfold lg_cmp
  have h1 : (x.toInt64 > y.toInt64) = (y < x) := by simp [Int32.toInt64_lt]
  simp only [h1]
  by_cases c : y < x
  · simp only [c, if_true]; decide
  · simp only [c, if_false]
    split <;> decide
theorem lgn (x y : Int32) : (lg_cmp x.toInt64 y.toInt64 < 0) = (x < y) := by
  unfold lg_cmp
  have h1 : (x.toInt64 > y.toInt64) = (y < x) := by simp [Int32.toInt64_lt]
  have h2 : (x.toInt64 = y.toInt64) = (x = y) := to64_inj x y
  simp only [h1, h2]
  by_cases c : y < x
  · have : ¬ x < y := by rw [tlt] at *; omega
    simp only [c, if_true, this]; decide
  · by_cases d : x = y
    · have : ¬ x < y := by rw [d, tlt]; omega
      simp only [c, d, if_true, if_false]
      rw [d] at this
      simp only [this]; decide
    · have : x < y := by
        rw [tlt] at *
        have : x.toInt ≠ y.toInt := fun e => d (Int32.toInt_inj.1 e)
        omega
      simp only [c, d, if_false, this]; decide
theorem mxe (a c : Int32) : (if c < a then a else c) = (if a < c then c else a) := by
  by_cases h1 : c < a <;> by_cases h2 : a < c <;> simp only [h1, h2, if_true, if_false]
  · rw [tlt] at *; omega
  · rw [tlt] at *; exact Int32.toInt_inj.1 (by omega)
theorem mne (a c : Int32) : (if a < c then a else c) = (if c < a then c else a) := by
  by_cases h1 : c < a <;> by_cases h2 : a < c <;> simp only [h1, h2, if_true, if_false]
  · rw [tlt] at *; omega
  · rw [tlt] at *; exact Int32.toInt_inj.1 (by omega)
theorem v104_c (τ : am_M) (r s : Nat → Int32) (hA : BF τ 0 r) (hB : BF τ 4 s) {j j' : Nat} (hj : j < 4) (hj' : j' < 4) : p_104 τ (Int32.ofNat j) (Int32.ofNat (4 + j')) ∧ v_104 τ (Int32.ofNat j) (Int32.ofNat (4 + j')) = bi (st_ r s j j') := by
  have a := hA j hj
  have b := hB j' hj'
  rw [Nat.zero_add] at a
  unfold p_104 v_104
  simp (disch := omega) only [pi_nn, pi_ng, pi_nle, false_or, not_false_eq_true, implies_true, and_self, true_and, a, b, bi_0, lgp, lgn]
  have e1 : (if iB s j' < iB r j then (iB r j).toInt64 else (iB s j').toInt64) = (if iB r j < iB s j' then iB s j' else iB r j).toInt64 := by
    rw [← mxe]; split <;> rfl
  have e2 : (if oB r j < oB s j' then (oB r j).toInt64 else (oB s j').toInt64) = (if oB s j' < oB r j then oB s j' else oB r j).toInt64 := by
    rw [← mne]; split <;> rfl
  rw [e1, e2]
  simp only [lgn]
  unfold st_
  cases tB r j <;> cases tB s j' <;> simp [bi]
theorem swe (r s : Nat → Int32) (o j : Nat) (z : Bool) : (if z = false then ((if st_ r s j j = false then ((if st_ r s j ((j + o) % 4) = false then (0 : Int32) else 1) : Int32) else 1) : Int32) else 1) = bi (z || swJ r s o j) := by
  unfold swJ
  cases z <;> cases st_ r s j j <;> cases st_ r s j ((j + o) % 4) <;> rfl
theorem l108_c (τ : am_M) (x1 x2 x3 : Int32) {o : Nat} (ho : o = 1 ∨ o = 3) (r s : Nat → Int32) (hA : BF τ 0 r) (hB : BF τ 4 s) : q_108_36 14 τ x1 x2 x3 (Int32.ofNat o) 0 0 ∧ l_108_36 14 τ x1 x2 x3 (Int32.ofNat o) 0 0 = (bi (swB r s o), τ) := by
  have st : ∀ (f j : Nat) (z : Bool), j < 4 → (q_108_36 f τ x1 x2 x3 (Int32.ofNat o) (bi (z || swJ r s o j)) (Int32.ofNat (j + 1)) → q_108_36 (f + 1) τ x1 x2 x3 (Int32.ofNat o) (bi z) (Int32.ofNat j)) ∧ l_108_36 (f + 1) τ x1 x2 x3 (Int32.ofNat o) (bi z) (Int32.ofNat j) = l_108_36 f τ x1 x2 x3 (Int32.ofNat o) (bi (z || swJ r s o j)) (Int32.ofNat (j + 1)) := by
    intro f j z hj
    have n1 := (oi ho hj).2
    have hj' : (j + o) % 4 < 4 := by omega
    obtain ⟨a1, a2⟩ := v104_c τ r s hA hB hj hj
    obtain ⟨b1, b2⟩ := v104_c τ r s hA hB hj hj'
    have e4 : ∀ m, (4 : Int32) + Int32.ofNat m = Int32.ofNat (4 + m) := fun m => (Int32.ofNat_add 4 m).symm
    rw [q_108_36, l_108_36]
    simp (disch := omega) only [lt4_i, hj, if_true, true_implies, n1, e4, a1, a2, b1, b2, bi_0, swe, pi_a1, true_and, implies_true, not_true_eq_false, false_implies, and_true]
    exact fun h => h
  obtain ⟨a1, a2⟩ := st 13 0 false (by decide)
  obtain ⟨b1, b2⟩ := st 12 1 (false || swJ r s o 0) (by decide)
  obtain ⟨c1, c2⟩ := st 11 2 ((false || swJ r s o 0) || swJ r s o 1) (by decide)
  obtain ⟨d1, d2⟩ := st 10 3 (((false || swJ r s o 0) || swJ r s o 1) || swJ r s o 2) (by decide)
  simp only [l_0, l_1, l_2, l_3, Nat.reduceAdd, bf_] at a1 a2 b1 b2 c1 c2 d1 d2
  constructor
  · refine a1 (b1 (c1 (d1 ?_)))
    rw [q_108_36]
    refine ⟨fun h => absurd h (by decide), fun _ => ?_⟩
    cases ((((false || swJ r s o 0) || swJ r s o 1) || swJ r s o 2) || swJ r s o 3)
    · exact Or.inl rfl
    · exact Or.inr rfl
  · rw [a2, b2, c2, d2, l_108_36, if_neg (by decide)]
    unfold swB
    rw [Bool.false_or]
theorem v107_c {P : Pl} (h13 : P.n ≤ 13) (b : Int32) (τ : am_M) (hG : GC τ P b) {a f w : Nat} (hw : w < 3) (ha : a < P.n) (hf : f < P.n) : p_107 τ (Int32.ofNat a) (Int32.ofNat f) (Int32.ofNat w) ∧ v_107 τ (Int32.ofNat a) (Int32.ofNat f) (Int32.ofNat w) = bi (bsd P b w a f) := by
  have ga := (hG a ha w hw).2.2.2.2
  have gf := (hG f hf w hw).2.2.2.2
  unfold p_107 v_107 bsd
  simp (disch := omega) only [pi_6, pi_a3, pi_ab, if_true, if_false, pi_pos, pi_npos, pi_nn, pi_ng, pi_nle, pi_lt, false_or, or_false, not_false_eq_true, true_and, and_true, false_and, and_false, implies_true, not_true, not_true_eq_false, false_implies, true_implies, pi_a1, pi_a2, pi_a3, pi_ab, pi_4, pi_3, pi_6, v_70_i, v_68_i, v_69_i, mod2_i, bi_0, bi_n, vp_bi, enc_flip, flip_s, ga, gf, and_self]
  generalize lo P b a w = x1
  generalize hi P b a w = x2
  generalize lo P b f w = y1
  generalize hi P b f w = y2
  by_cases c1 : x1 = x2
  · subst c1
    by_cases c2 : y1 = y2
    · subst c2
      by_cases c5 : x1 = y1 <;> simp [c5, bi]
    · by_cases c3 : x1 < y2 <;> by_cases c4 : y1 < x1 <;> simp [c2, c3, c4, bi]
  · by_cases c2 : y1 = y2
    · subst c2
      by_cases c3 : x1 < y1 <;> by_cases c4 : y1 < x2 <;> simp [c1, c3, c4, bi]
    · by_cases c3 : x1 < y2 <;> by_cases c4 : y1 < x2 <;> simp [c1, c2, c3, c4, bi]
theorem v108_c {P : Pl} (hV : VP P) (b : Int32) (τ : am_M) (hR : RP τ P) (hG : GC τ P b) {k a f o : Nat} (hk : k < P.n) (h0 : 0 < k) (ha : a < P.n) (hf : f < P.n) (ho : o = 1 ∨ o = 3) : p_108 τ (Int32.ofNat k) (Int32.ofNat a) (Int32.ofNat f) (Int32.ofNat o) ∧ Kr τ (w_108 τ (Int32.ofNat k) (Int32.ofNat a) (Int32.ofNat f) (Int32.ofNat o)) ∧ v_108 τ (Int32.ofNat k) (Int32.ofNat a) (Int32.ofNat f) (Int32.ofNat o) = bi (bsd P b (axs P b (P.par k) (P.sd k)) a f && swB (rch P b k a) (rch P b k f) o) := by
  have h13 := hV.n13
  obtain ⟨hq, hs⟩ := hV.tr k hk h0
  obtain ⟨a1, a2⟩ := v106_c P hV b τ hR hG hk h0
  obtain ⟨b1, b2⟩ := v107_c h13 b τ hG (axs_3 hV b (show P.par k < P.n by omega) (P.sd k)) ha hf
  unfold p_108 w_108 v_108 f_108
  simp only [a1, a2, b1, b2, true_and, bi_0]
  by_cases c : bsd P b (axs P b (P.par k) (P.sd k)) a f = false
  · simp only [c, if_true, not_true_eq_false, false_implies, true_and, Bool.false_and, bf_, and_true]
    exact Kr.refl _
  · have c' : bsd P b (axs P b (P.par k) (P.sd k)) a f = true := by simpa using c
    obtain ⟨w1, w2⟩ := w102_c hV b τ hR hG hk h0 ha
    have K1 : Kr τ (plc P b k a τ) := ((((Kr.refl _).put _ _ (by decide)).put _ _ (by decide)).put _ _ (by decide)).put _ _ (by decide)
    obtain ⟨d1, d2, d3⟩ := bnds_c (plc P b k a τ) (t := 0) (rch P b k a) (rch_b hV b hk h0 ha) (by unfold plc; simp [am_rd]) (by unfold plc; simp [am_rd]) (by unfold plc; simp [am_rd]) (by unfold plc; simp [am_rd])
    have K2 : Kr τ (bnds (plc P b k a τ) 0) := K1.trans d2
    have e1 : w_103 τ (Int32.ofNat k) (Int32.ofNat a) 0 = bnds (plc P b k a τ) 0 := by rw [w103_0, w2]
    generalize hτ1 : bnds (plc P b k a τ) 0 = τ1 at *
    obtain ⟨w3, w4⟩ := w102_c hV b τ1 (hR.kr K2) (hG.kr K2) hk h0 hf
    have K3 : Kr τ1 (plc P b k f τ1) := ((((Kr.refl _).put _ _ (by decide)).put _ _ (by decide)).put _ _ (by decide)).put _ _ (by decide)
    obtain ⟨d4, d5, d6⟩ := bnds_c (plc P b k f τ1) (t := 4) (rch P b k f) (rch_b hV b hk h0 hf) (by unfold plc; simp [am_rd]) (by unfold plc; simp [am_rd]) (by unfold plc; simp [am_rd]) (by unfold plc; simp [am_rd])
    have K4 : Kr τ (bnds (plc P b k f τ1) 4) := (K2.trans K3).trans d5
    have e2 : w_103 τ1 (Int32.ofNat k) (Int32.ofNat f) 4 = bnds (plc P b k f τ1) 4 := by rw [w103_4, w4]
    have pl64 : ∀ j, (plc P b k f τ1).1 64 j = τ1.1 64 j := by
      intro j; unfold plc
      simp only [am_rd, Nat.reduceEqDiff, false_and, if_false]
    have plL : (plc P b k f τ1).2 = τ1.2 := rfl
    have d7 : BF (bnds (plc P b k f τ1) 4) 0 (rch P b k a) := by
      intro j hj
      obtain ⟨g1', g2', g3'⟩ := d6 (0 + j) (by omega)
      rw [g1', g2', g3', pl64, plL]
      exact d1 j hj
    obtain ⟨l1, l2⟩ := l108_c (bnds (plc P b k f τ1) 4) (Int32.ofNat k) (Int32.ofNat a) (Int32.ofNat f) ho _ _ d7 d4
    simp only [c', Bool.true_eq_false, if_false, not_false_eq_true, true_implies, e1, e2, l1, l2, Bool.true_and, and_true]
    exact ⟨⟨p103_0 _ _ _ w1, p103_4 _ _ _ w3⟩, K4⟩
theorem pair_i (mv : Int32) {a f : Nat} (ha : a < 13) (hf : f < 13) : ((if ((mv >>> (Int32.ofNat a &&& (31 : Int32))) &&& (1 : Int32)) = 1 then ((if ((mv >>> (Int32.ofNat f &&& (31 : Int32))) &&& (1 : Int32)) = 0 then (1 : Int32) else 0) : Int32) else 0) = 0) = ¬ (isF mv a = true ∧ isF mv f = false) := by
  simp only [isF_1 mv ha, isF_0 mv hf]
  cases isF mv a <;> cases isF mv f <;> simp
theorem l109_in {P : Pl} (hV : VP P) (b : Int32) {k a o : Nat} (hk : k < P.n) (h0 : 0 < k) (ha : a < P.n) (ho : o = 1 ∨ o = 3) (mv : Int32) (k24 : am_M → Int32 → Int32 → Int32 → Int32 → Int32 × am_M) (c24 : am_M → Int32 → Int32 → Int32 → Int32 → Prop) : ∀ (fu f : Nat) (τ : am_M), P.n < f + fu → f ≤ P.n → RP τ P → GC τ P b →
    ∃ τ', Kr τ τ' ∧ ((l_109_36 k24 fu τ (Int32.ofNat k) mv (Int32.ofNat o) (Int32.ofNat a) (Int32.ofNat f) = (0, τ') ∧ q_109_36 c24 fu τ (Int32.ofNat k) mv (Int32.ofNat o) (Int32.ofNat a) (Int32.ofNat f) ∧ isF mv a = true ∧ ∃ f', f ≤ f' ∧ f' < P.n ∧ isF mv f' = false ∧ hitB P b k o a f') ∨ (l_109_36 k24 fu τ (Int32.ofNat k) mv (Int32.ofNat o) (Int32.ofNat a) (Int32.ofNat f) = k24 τ' (Int32.ofNat k) mv (Int32.ofNat o) (Int32.ofNat (a + 1)) ∧ (c24 τ' (Int32.ofNat k) mv (Int32.ofNat o) (Int32.ofNat (a + 1)) → q_109_36 c24 fu τ (Int32.ofNat k) mv (Int32.ofNat o) (Int32.ofNat a) (Int32.ofNat f)) ∧ (isF mv a = true → ∀ f', f ≤ f' → f' < P.n → isF mv f' = false → ¬ hitB P b k o a f'))) := by
  intro fu
  induction fu with
  | zero => intro f τ h1 h2; omega
  | succ fu ih =>
    intro f τ h1 h2 hR hG
    have h13 := hV.n13
    obtain ⟨hq, hs⟩ := hV.tr k hk h0
    have e := ((hR.2 k hk).1 h0).1
    rw [q_109_36, l_109_36]
    have hlt : (Int32.ofNat f < τ.1 50 1) = (f < P.n) := by rw [hR.1]; exact pi_lt (by omega) (by omega)
    by_cases hf : f < P.n
    · obtain ⟨a1, a2, a3⟩ := v108_c hV b τ hR hG hk h0 ha hf ho
      have ow := own_i P (show k < 200 by omega) (show a < 200 by omega) (show f < 200 by omega) (show P.par k < 200 by omega) (y := τ.1 51 (Int32.ofNat k).toNatClampNeg) (by rw [pi_nn (by omega)]; exact e)
      have pa := pair_i mv (show a < 13 by omega) (show f < 13 by omega)
      have dec : Decidable (own P k a f) := Classical.propDecidable _
      simp only [ow, pa]
      have pre : (Int32.ofNat a = Int32.ofNat k → ¬ (Int32.ofNat k < 0 ∨ 13 ≤ (Int32.ofNat k).toNatClampNeg) ∧ (¬ Int32.ofNat f = τ.1 51 (Int32.ofNat k).toNatClampNeg → Int32.ofNat f = Int32.ofNat k → ¬ (Int32.ofNat k < 0 ∨ 13 ≤ (Int32.ofNat k).toNatClampNeg))) ∧ (¬ Int32.ofNat a = Int32.ofNat k → Int32.ofNat f = Int32.ofNat k → ¬ (Int32.ofNat k < 0 ∨ 13 ≤ (Int32.ofNat k).toNatClampNeg)) := by
        have hin : ¬ (Int32.ofNat k < 0 ∨ 13 ≤ (Int32.ofNat k).toNatClampNeg) := pi_in (by omega) (by omega)
        exact ⟨fun _ => ⟨hin, fun _ _ => hin⟩, fun _ _ => hin⟩
      simp only [eq_true pre]
      simp only [hlt, hf, if_true, true_implies, true_and, a1, a3, bi_0, pi_a1, not_true_eq_false, false_implies, and_true, and_self]
      obtain ⟨τ1, i1, i2⟩ := ih (f + 1) τ (by omega) (by omega) hR hG
      have skip : (isF mv a = true → isF mv f = false → ¬ hitB P b k o a f) → ∃ τ', Kr τ τ' ∧ ((l_109_36 k24 fu τ (Int32.ofNat k) mv (Int32.ofNat o) (Int32.ofNat a) (Int32.ofNat (f + 1)) = (0, τ') ∧ q_109_36 c24 fu τ (Int32.ofNat k) mv (Int32.ofNat o) (Int32.ofNat a) (Int32.ofNat (f + 1)) ∧ isF mv a = true ∧ ∃ f', f ≤ f' ∧ f' < P.n ∧ isF mv f' = false ∧ hitB P b k o a f') ∨ (l_109_36 k24 fu τ (Int32.ofNat k) mv (Int32.ofNat o) (Int32.ofNat a) (Int32.ofNat (f + 1)) = k24 τ' (Int32.ofNat k) mv (Int32.ofNat o) (Int32.ofNat (a + 1)) ∧ (c24 τ' (Int32.ofNat k) mv (Int32.ofNat o) (Int32.ofNat (a + 1)) → q_109_36 c24 fu τ (Int32.ofNat k) mv (Int32.ofNat o) (Int32.ofNat a) (Int32.ofNat (f + 1))) ∧ (isF mv a = true → ∀ f', f ≤ f' → f' < P.n → isF mv f' = false → ¬ hitB P b k o a f'))) := by
        intro hn
        refine ⟨τ1, i1, ?_⟩
        rcases i2 with ⟨j1, j2, j3, f', j4, j5, j6⟩ | ⟨j1, j2, j3⟩
        · exact Or.inl ⟨j1, j2, j3, f', by omega, j5, j6⟩
        · refine Or.inr ⟨j1, j2, fun hm f' h1 h2 h3 => ?_⟩
          by_cases hff : f' = f
          · subst hff; exact hn hm h3
          · exact j3 hm f' (by omega) h2 h3
      by_cases c1 : isF mv a = true ∧ isF mv f = false
      · have c1' : (¬ (isF mv a = true ∧ isF mv f = false)) = False := eq_false (fun h => h c1)
        simp only [c1', if_false, false_implies, true_and, not_false_eq_true, true_implies]
        by_cases c2 : own P k a f
        · simp only [c2, not_true_eq_false, if_false, false_implies, true_and, not_false_eq_true, true_implies]
          exact skip (fun _ _ h => h.1 c2)
        · simp only [c2, not_false_eq_true, if_true, true_implies, not_true_eq_false, false_implies, and_true]
          by_cases c3 : (bsd P b (axs P b (P.par k) (P.sd k)) a f && swB (rch P b k a) (rch P b k f) o) = false
          · simp only [c3, if_true, true_implies]
            obtain ⟨τ2, i3, i4⟩ := ih (f + 1) _ (by omega) (by omega) (hR.kr a2) (hG.kr a2)
            refine ⟨τ2, a2.trans i3, ?_⟩
            have hn : ¬ hitB P b k o a f := fun h => by
              rw [h.2.1, h.2.2] at c3
              exact absurd c3 (by decide)
            rcases i4 with ⟨j1, j2, j3, f', j4, j5, j6⟩ | ⟨j1, j2, j3⟩
            · exact Or.inl ⟨j1, j2, j3, f', by omega, j5, j6⟩
            · refine Or.inr ⟨j1, j2, fun hm f' h1 h2 h3 => ?_⟩
              by_cases hff : f' = f
              · subst hff; exact hn
              · exact j3 hm f' (by omega) h2 h3
          · have c3' : (bsd P b (axs P b (P.par k) (P.sd k)) a f && swB (rch P b k a) (rch P b k f) o) = true := by simpa using c3
            simp only [c3', Bool.true_eq_false, if_false, false_implies]
            have c4 := Bool.and_eq_true_iff.1 c3'
            exact ⟨_, a2, Or.inl ⟨rfl, trivial, c1.1, f, Nat.le_refl f, hf, c1.2, c2, c4.1, c4.2⟩⟩
      · have c1' : (¬ (isF mv a = true ∧ isF mv f = false)) = True := eq_true c1
        simp only [c1', if_true, true_implies, not_true_eq_false, false_implies, and_true]
        exact skip (fun h1 h2 => absurd ⟨h1, h2⟩ c1)
    · simp only [hlt, hf, if_false, false_implies, true_and, not_false_eq_true, true_implies, pi_a1]
      exact ⟨τ, Kr.refl _, Or.inr ⟨rfl, fun h => h, fun _ f' h1 h2 => by omega⟩⟩
theorem l109_out {P : Pl} (hV : VP P) (b : Int32) {k o : Nat} (hk : k < P.n) (h0 : 0 < k) (ho : o = 1 ∨ o = 3) (mv : Int32) : ∀ (fu a : Nat) (τ : am_M), P.n < a + fu → a ≤ P.n → RP τ P → GC τ P b →
    q_109_24 fu τ (Int32.ofNat k) mv (Int32.ofNat o) (Int32.ofNat a) ∧ ∃ τ', Kr τ τ' ∧ ((l_109_24 fu τ (Int32.ofNat k) mv (Int32.ofNat o) (Int32.ofNat a) = (1, τ') ∧ ∀ a', a ≤ a' → a' < P.n → isF mv a' = true → ∀ f < P.n, isF mv f = false → ¬ hitB P b k o a' f) ∨ (l_109_24 fu τ (Int32.ofNat k) mv (Int32.ofNat o) (Int32.ofNat a) = (0, τ') ∧ ∃ a', a ≤ a' ∧ a' < P.n ∧ isF mv a' = true ∧ ∃ f, f < P.n ∧ isF mv f = false ∧ hitB P b k o a' f)) := by
  intro fu
  induction fu with
  | zero => intro a τ h1 h2; omega
  | succ fu ih =>
    intro a τ h1 h2 hR hG
    have h13 := hV.n13
    rw [q_109_24, l_109_24]
    have hlt : (Int32.ofNat a < τ.1 50 1) = (a < P.n) := by rw [hR.1]; exact pi_lt (by omega) (by omega)
    by_cases ha : a < P.n
    · obtain ⟨τ1, k1, k2⟩ := l109_in hV b hk h0 ha ho mv (l_109_24 fu) (q_109_24 fu) 14 0 τ (by omega) (by omega) hR hG
      rw [l_0] at k2
      simp only [hlt, ha, if_true, true_implies]
      rcases k2 with ⟨j1, j2, j3, f', j4, j5, j6, j7⟩ | ⟨j1, j2, j3⟩
      · rw [j1]
        exact ⟨j2, τ1, k1, Or.inr ⟨rfl, a, Nat.le_refl a, ha, j3, f', j5, j6, j7⟩⟩
      · obtain ⟨i1, τ2, i2, i3⟩ := ih (a + 1) τ1 (by omega) (by omega) (hR.kr k1) (hG.kr k1)
        rw [j1]
        refine ⟨j2 i1, τ2, k1.trans i2, ?_⟩
        rcases i3 with ⟨m1, m2⟩ | ⟨m1, a', m2, m3, m4⟩
        · refine Or.inl ⟨m1, fun a' h1 h2 h3 => ?_⟩
          by_cases haa : a' = a
          · subst haa
            exact fun f hf => j3 h3 f (Nat.zero_le f) hf
          · exact m2 a' (by omega) h2 h3
        · exact Or.inr ⟨m1, a', by omega, m3, m4⟩
    · simp only [hlt, ha, if_false, false_implies, true_and]
      exact ⟨τ, Kr.refl _, Or.inl ⟨rfl, fun a' h1 h2 => by omega⟩⟩
theorem v109_c {P : Pl} (hV : VP P) (b : Int32) (τ : am_M) (hR : RP τ P) (hG : GC τ P b) {k : Nat} (hk : k < P.n) (h0 : 0 < k) : p_109 τ (Int32.ofNat k) ∧ Kr τ (w_109 τ (Int32.ofNat k)) ∧ ((v_109 τ (Int32.ofNat k) = 1 ∧ free P b k) ∨ (v_109 τ (Int32.ofNat k) = 0 ∧ ¬ free P b k)) := by
  have h13 := hV.n13
  obtain ⟨m1, m2⟩ := v97_c P hV τ hR hk
  have o2 : (if isF (mvg P k) k = true then (1 : Int32) else 3) = Int32.ofNat (onw P k) := by
    unfold onw; cases isF (mvg P k) k <;> rfl
  have ho' : onw P k = 1 ∨ onw P k = 3 := by
    unfold onw; cases isF (mvg P k) k
    · exact Or.inr rfl
    · exact Or.inl rfl
  obtain ⟨k1, τ', k2, k3⟩ := l109_out hV b hk h0 ho' (mvg P k) 14 0 τ (by omega) (by omega) hR hG
  rw [l_0] at k1 k3
  unfold p_109 w_109 v_109 f_109
  simp (disch := omega) only [m1, m2, isF_1, o2, k1, true_and]
  rcases k3 with ⟨z1, z2⟩ | ⟨z1, a', z2, z3, z4, f, z5, z6, z7⟩
  · rw [z1]
    exact ⟨k2, Or.inl ⟨rfl, fun a ha => z2 a (Nat.zero_le a) ha⟩⟩
  · rw [z1]
    exact ⟨k2, Or.inr ⟨rfl, fun h => h a' z3 z4 f z5 z6 z7⟩⟩
theorem Kr.keep {τ τ' : am_M} (h : Kr τ τ') : Keep τ τ' := by
  refine ⟨fun l hl => h.1 l (by revert hl; revert l; decide), ?_, ?_, ?_, h.2 1 (by decide), h.2 2 (by decide), h.2 3 (by decide), h.2 16 (by decide), h.2 17 (by decide)⟩ <;> rw [h.1 1 (by decide)]
/-- the program's rows, the mark, the reference's rows, and what a turn's questions leave -/
theorem ask4 {σ τ τ' τ'' : am_M} {P : Pl} {A B : List Nat} (hP : InvP σ P) (h1 : Fr A σ τ) (h2 : Fr B (am_put τ 50 0 0) τ') (h3 : Kr τ' τ'') (hA : ([0, 2, 3, 4, 5, 6, 8, 9, 10, 11, 49, 51, 52, 53, 54, 61, 1, 50].all fun x => !A.contains x) = true) (hB : ([0, 2, 3, 4, 5, 6, 8, 9, 10, 11, 49, 51, 52, 53, 54, 61, 1, 50].all fun x => !B.contains x) = true) : Inv τ'' ∧ τ''.1 0 = σ.1 0 := by
  have a1 := h1.1 1 (dj hA 1 (by decide))
  have a50 := h1.1 50 (dj hA 50 (by decide))
  have b1 := h2.1 1 (dj hB 1 (by decide))
  have b50 := h2.1 50 (dj hB 50 (by decide))
  refine ask hP ((((Keep.fr h1 (dj hA)).trans (p500 τ 0)).trans (Keep.fr h2 (dj hB))).trans h3.keep) ?_ ?_ ?_ ?_
  · rw [h3.1 1 (by decide), b1, am_ne _ _ _ _ _ (by decide), a1]
  · rw [h3.1 1 (by decide), b1, am_ne _ _ _ _ _ (by decide), a1]
  · rw [h3.2 9 (by decide), b50, am_rd, if_neg (by decide), a50]
  · rw [h3.2 10 (by decide), b50, am_rd, if_neg (by decide), a50]
theorem c_clear (σ : am_M) (h : Inv σ) (x1 x2 : Int32) : p_61 σ x1 x2 ∧ p_111 (w_61 σ x1 x2) x1 x2 ∧ v_61 σ x1 x2 = v_111 (w_61 σ x1 x2) x1 x2 ∧ Inv (w_111 (w_61 σ x1 x2) x1 x2) ∧ (w_111 (w_61 σ x1 x2) x1 x2).1 0 = σ.1 0 := by
  have hI := h
  obtain ⟨P, hP⟩ := h
  have hP' := hP
  obtain ⟨hV, hC, hR, hM, hO⟩ := hP
  have h13 := hV.n13
  have hR0 : RP (am_put σ 50 0 0) P := hR.put _ _ _ (by decide) (by decide)
  unfold p_61 p_111 v_61 v_111 w_111 w_61
  by_cases c : 1 ≤ x2 ∧ x2 ≤ Int32.ofNat P.n - 1
  · obtain ⟨k, hk0, hk, rfl⟩ := rngb h13 c
    simp only [v71_c P σ hC h13 hk hk0, bi_0]
    by_cases c2 : ask_ P x1 k = false
    · simp only [c2, not_true_eq_false, false_implies, if_true, v110_c P _ hR0 h13 hk hk0, bi_0, true_and]
      exact inv500 hI 0
    · obtain ⟨a1, a2, a3⟩ := fold_c P hV x1 σ hC
      obtain ⟨b1, b2, b3⟩ := v42_c hV x1 _ (hC.fr a3 (by decide)) a2 hk hk0
      have f1 : Fr [21, 22, 23, 25, 26, 27, 29, 30, 31, 33, 34, 35, 36, 37, 38, 40, 41, 42, 43, 45, 46, 47, 48] σ (w_42 (w_1 σ x1) (Int32.ofNat k)) := (a3.mono (by decide)).trans (b2.mono (by decide))
      have hRm : RP (am_put (w_42 (w_1 σ x1) (Int32.ofNat k)) 50 0 0) P := (hR.fr f1 (by decide)).put _ _ _ (by decide) (by decide)
      obtain ⟨c1, c2', c3⟩ := rfold_c P hV x1 _ hRm
      obtain ⟨d1, d2, d3⟩ := v109_c hV x1 _ (hRm.fr c3 (by decide)) c2' hk hk0
      simp only [c2, Bool.true_eq_false, not_false_eq_true, true_implies, if_false, v110_c P _ hRm h13 hk hk0, bi_0, a1, b1, c1, d1, true_and]
      refine ⟨?_, ask4 hP' f1 c3 d2 (by decide) (by decide)⟩
      rcases b3 with ⟨b4, b5⟩ | ⟨b4, b5⟩ <;> rcases d3 with ⟨d4, d5⟩ | ⟨d4, d5⟩
      · rw [b4, d4]
      · exact absurd b5 d5
      · exact absurd d5 b5
      · rw [b4, d4]
  · simp only [v71_n P σ hC h13 c, not_true_eq_false, false_implies, if_true, v110_n P _ hR0 h13 c, true_and]
    exact inv500 hI 0
