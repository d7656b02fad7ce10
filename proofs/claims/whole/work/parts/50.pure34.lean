theorem stq (σ : am_M) (r s : Nat → Int32) (j j' : Nat) : (v_120 σ (if tB r j then iB r j else 0) (if tB s j' then iB s j' else 0) < v_121 σ (if tB r j then oB r j else 0) (if tB s j' then oB s j' else 0)) = (st_ r s j j' = true) := by
  unfold st_
  rw [v120_i, v121_i]
  generalize iB r j = a
  generalize iB s j' = c
  generalize oB r j = d
  generalize oB s j' = e
  cases tB r j
  · cases tB s j'
    · simp
    · have h1 : ¬ ((if 0 < c then c else 0) < (if e < 0 then e else (0 : Int32))) := by grind
      simp [h1]
  · cases tB s j'
    · have h1 : ¬ ((if a < 0 then 0 else a) < (if 0 < d then (0 : Int32) else d)) := by grind
      simp [h1]
    · simp
theorem oi {o : Nat} (ho : o = 1 ∨ o = 3) {j : Nat} (hj : j < 4) : ((Int32.ofNat j + Int32.ofNat o) &&& (3 : Int32)) = Int32.ofNat ((j + o) % 4) ∧ (Int32.ofNat j + Int32.ofNat o) - (Int32.ofNat j + Int32.ofNat o) / 4 * 4 = Int32.ofNat ((j + o) % 4) := by
  have : ∀ j < 4, (((Int32.ofNat j + Int32.ofNat 1) &&& (3 : Int32)) = Int32.ofNat ((j + 1) % 4) ∧ (Int32.ofNat j + Int32.ofNat 1) - (Int32.ofNat j + Int32.ofNat 1) / 4 * 4 = Int32.ofNat ((j + 1) % 4)) ∧ (((Int32.ofNat j + Int32.ofNat 3) &&& (3 : Int32)) = Int32.ofNat ((j + 3) % 4) ∧ (Int32.ofNat j + Int32.ofNat 3) - (Int32.ofNat j + Int32.ofNat 3) / 4 * 4 = Int32.ofNat ((j + 3) % 4)) := by decide
  rcases ho with rfl | rfl
  · exact (this j hj).1
  · exact (this j hj).2
theorem v47_c {P : Pl} (h13 : P.n ≤ 13) (b : Int32) (σ : am_M) {k a f o : Nat} (ho : o = 1 ∨ o = 3) (ha : a < P.n) (hf : f < P.n) (hA : BE σ P b k a) (hB : BE σ P b k f) : p_47 σ (Int32.ofNat a) (Int32.ofNat f) (Int32.ofNat o) ∧ v_47 σ (Int32.ofNat a) (Int32.ofNat f) (Int32.ofNat o) = bi (swB (rch P b k a) (rch P b k f) o) := by
  have st : ∀ (fu j : Nat), j < 4 → (q_47_3 fu σ (Int32.ofNat a) (Int32.ofNat f) (Int32.ofNat o) (Int32.ofNat (j + 1)) → q_47_3 (fu + 1) σ (Int32.ofNat a) (Int32.ofNat f) (Int32.ofNat o) (Int32.ofNat j)) ∧ l_47_3 (fu + 1) σ (Int32.ofNat a) (Int32.ofNat f) (Int32.ofNat o) (Int32.ofNat j) = if swJ (rch P b k a) (rch P b k f) o j then 1 else l_47_3 fu σ (Int32.ofNat a) (Int32.ofNat f) (Int32.ofNat o) (Int32.ofNat (j + 1)) := by
    intro fu j hj
    have n1 := (oi ho hj).1
    rw [pi_ab] at n1
    have hj' : (j + o) % 4 < 4 := by omega
    have a1 := hA j hj
    have b1 := hB j hj
    have b2 := hB _ hj'
    rw [q_47_3, l_47_3]
    have hob : o < 4 := by omega
    simp (disch := omega) only [lt4_i, hj, if_true, true_implies, pi_ab, n1, pi_nn, pi_ng, pi_nle, false_or, not_false_eq_true, true_and, a1, b1, b2, stq, pi_a1]
    unfold swJ
    constructor
    · intro h _ _; exact h
    · cases st_ (rch P b k a) (rch P b k f) j j <;> cases st_ (rch P b k a) (rch P b k f) j ((j + o) % 4) <;> simp
  unfold p_47 v_47 f_47 swB
  obtain ⟨a1, a2⟩ := st 13 0 (by decide)
  obtain ⟨b1, b2⟩ := st 12 1 (by decide)
  obtain ⟨c1, c2⟩ := st 11 2 (by decide)
  obtain ⟨d1, d2⟩ := st 10 3 (by decide)
  simp only [l_0, l_1, l_2, l_3, Nat.reduceAdd] at a1 a2 b1 b2 c1 c2 d1 d2
  have e4 : Int32.ofNat 4 = 4 := rfl
  constructor
  · refine a1 (b1 (c1 (d1 ?_)))
    rw [q_47_3]
    exact fun h => absurd h (by decide)
  · have z : l_47_3 10 σ (Int32.ofNat a) (Int32.ofNat f) (Int32.ofNat o) (Int32.ofNat 4) = 0 := by rw [l_47_3, if_neg (by decide)]
    rw [a2, b2, c2, d2, z]
    cases swJ (rch P b k a) (rch P b k f) o 0 <;> cases swJ (rch P b k a) (rch P b k f) o 1 <;> cases swJ (rch P b k a) (rch P b k f) o 2 <;> cases swJ (rch P b k a) (rch P b k f) o 3 <;> rfl
theorem v46_c {P : Pl} (h13 : P.n ≤ 13) (b : Int32) (σ : am_M) (hF : FC σ P b) {a f w : Nat} (hw : w < 3) (h36 : σ.1 36 1 = Int32.ofNat w) (ha : a < P.n) (hf : f < P.n) : p_46 σ (Int32.ofNat a) (Int32.ofNat f) ∧ v_46 σ (Int32.ofNat a) (Int32.ofNat f) = bi (bsd P b w a f) := by
  have fa := (hF a ha).2.2.2.2 w hw
  have ff := (hF f hf).2.2.2.2 w hw
  unfold p_46 v_46 bsd
  simp (disch := omega) only [h36, if_true, if_false, pi_pos, pi_npos, pi_nn, pi_ng, pi_nle, pi_lt, false_or, or_false, not_false_eq_true, true_and, and_true, false_and, and_false, implies_true, not_true, not_true_eq_false, false_implies, true_implies, pi_a1, pi_a2, pi_a3, pi_ab, pi_4, pi_3, pi_6, v_70_i, v_68_i, v_69_i, mod2_i, bi_0, bi_n, vp_bi, enc_flip, flip_s, fa, ff, and_self]
  generalize lo P b a w = x1
  generalize hi P b a w = x2
  generalize lo P b f w = y1
  generalize hi P b f w = y2
  by_cases c1 : x1 = x2 <;> by_cases c2 : y1 = y2 <;> by_cases c3 : x1 < y2 <;> by_cases c4 : y1 < x2 <;> by_cases c5 : x1 = y1 <;> simp [c1, c2, c3, c4, c5, bi] <;> simp_all
def own (P : Pl) (k a f : Nat) : Prop := (a = k ∧ f = P.par k) ∨ (f = k ∧ a = P.par k)
theorem own_n (P : Pl) (k a f : Nat) : ((if a = k then ((if f = P.par k then (1 : Int32) else (if f = k then ((if a = P.par k then (1 : Int32) else 0) : Int32) else 0)) : Int32) else (if f = k then ((if a = P.par k then (1 : Int32) else 0) : Int32) else 0)) = 0) ↔ ¬ own P k a f := by
  unfold own
  have : ¬ (1 : Int32) = 0 := by decide
  constructor
  · intro h h2
    rcases h2 with ⟨h3, h4⟩ | ⟨h3, h4⟩
    · rw [if_pos h3, if_pos h4] at h; exact this h
    · rw [if_pos h3, if_pos h4] at h
      split at h
      · split at h <;> exact this h
      · exact this h
  · intro h
    split
    · next h3 =>
      rw [if_neg (fun h4 => h (Or.inl ⟨h3, h4⟩))]
      split
      · next h5 => rw [if_neg (fun h4 => h (Or.inr ⟨h5, h4⟩))]
      · rfl
    · split
      · next h5 => rw [if_neg (fun h4 => h (Or.inr ⟨h5, h4⟩))]
      · rfl
theorem own_i (P : Pl) {k a f : Nat} (hk : k < 200) (ha : a < 200) (hf : f < 200) (hq : P.par k < 200) {y : Int32} (hy : y = Int32.ofNat (P.par k)) : ((if Int32.ofNat a = Int32.ofNat k then ((if Int32.ofNat f = y then (1 : Int32) else (if Int32.ofNat f = Int32.ofNat k then ((if Int32.ofNat a = y then (1 : Int32) else 0) : Int32) else 0)) : Int32) else (if Int32.ofNat f = Int32.ofNat k then ((if Int32.ofNat a = y then (1 : Int32) else 0) : Int32) else 0)) = 0) = ¬ own P k a f := by
  subst hy
  have := own_n P k a f
  simp (disch := omega) only [pi_inj]
  exact propext this
/-- what stands in the way of a moving panel -/
def hitB (P : Pl) (b : Int32) (k o a f : Nat) : Prop := ¬ own P k a f ∧ bsd P b (axs P b (P.par k) (P.sd k)) a f = true ∧ swB (rch P b k a) (rch P b k f) o = true
theorem l45_c {P : Pl} (hV : VP P) (b : Int32) (σ : am_M) (hC : CP σ P) (hF : FC σ P b) {k a o : Nat} (hk : k < P.n) (h0 : 0 < k) (ha : a < P.n) (ho : o = 1 ∨ o = 3) (h36 : σ.1 36 1 = Int32.ofNat (axs P b (P.par k) (P.sd k))) (hB : ∀ p < P.n, BE σ P b k p) (mv : Int32) : ∀ (fu f : Nat), P.n < f + fu → f ≤ P.n →
    q_45_3 fu σ (Int32.ofNat k) mv (Int32.ofNat a) (Int32.ofNat o) (Int32.ofNat f) ∧ ((l_45_3 fu σ (Int32.ofNat k) mv (Int32.ofNat a) (Int32.ofNat o) (Int32.ofNat f) = 0 ∧ ∀ f', f ≤ f' → f' < P.n → isF mv f' = false → ¬ hitB P b k o a f') ∨ (l_45_3 fu σ (Int32.ofNat k) mv (Int32.ofNat a) (Int32.ofNat o) (Int32.ofNat f) = 1 ∧ ∃ f', f ≤ f' ∧ f' < P.n ∧ isF mv f' = false ∧ hitB P b k o a f')) := by
  intro fu
  induction fu with
  | zero => intro f h1 h2; omega
  | succ fu ih =>
    intro f h1 h2
    have h13 := hV.n13
    obtain ⟨hq, hs⟩ := hV.tr k hk h0
    have e := ((hC.2 k hk).1 h0).1
    rw [q_45_3, l_45_3]
    have hlt : (Int32.ofNat f < σ.1 2 0) = (f < P.n) := by rw [hC.1]; exact pi_lt (by omega) (by omega)
    by_cases hf : f < P.n
    · obtain ⟨a1, a2⟩ := v46_c h13 b σ hF (axs_3 hV b (show P.par k < P.n by omega) (P.sd k)) h36 ha hf
      obtain ⟨b1, b2⟩ := v47_c h13 b σ ho ha hf (hB a ha) (hB f hf)
      have ow := own_i P (show k < 200 by omega) (show a < 200 by omega) (show f < 200 by omega) (show P.par k < 200 by omega) (y := σ.1 3 (Int32.ofNat k).toNatClampNeg) (by rw [pi_nn (by omega)]; exact e)
      have dec : Decidable (own P k a f) := Classical.propDecidable _
      simp only [ow]
      obtain ⟨i1, i2⟩ := ih (f + 1) (by omega) (by omega)
      have skip : (isF mv f = false → ¬ hitB P b k o a f) → ((l_45_3 fu σ (Int32.ofNat k) mv (Int32.ofNat a) (Int32.ofNat o) (Int32.ofNat (f + 1)) = 0 ∧ ∀ f', f ≤ f' → f' < P.n → isF mv f' = false → ¬ hitB P b k o a f') ∨ (l_45_3 fu σ (Int32.ofNat k) mv (Int32.ofNat a) (Int32.ofNat o) (Int32.ofNat (f + 1)) = 1 ∧ ∃ f', f ≤ f' ∧ f' < P.n ∧ isF mv f' = false ∧ hitB P b k o a f')) := by
        intro hn
        rcases i2 with ⟨j1, j2⟩ | ⟨j1, f', j2, j3, j4⟩
        · refine Or.inl ⟨j1, fun f' h1 h2 h3 => ?_⟩
          by_cases hff : f' = f
          · subst hff; exact hn h3
          · exact j2 f' (by omega) h2 h3
        · exact Or.inr ⟨j1, f', by omega, j3, j4⟩
      have pre : (Int32.ofNat a = Int32.ofNat k → ¬ (Int32.ofNat k < 0 ∨ 13 ≤ (Int32.ofNat k).toNatClampNeg) ∧ (¬ Int32.ofNat f = Int32.ofNat (P.par k) → Int32.ofNat f = Int32.ofNat k → ¬ (Int32.ofNat k < 0 ∨ 13 ≤ (Int32.ofNat k).toNatClampNeg))) ∧ (¬ Int32.ofNat a = Int32.ofNat k → Int32.ofNat f = Int32.ofNat k → ¬ (Int32.ofNat k < 0 ∨ 13 ≤ (Int32.ofNat k).toNatClampNeg)) := by
        have hin : ¬ (Int32.ofNat k < 0 ∨ 13 ≤ (Int32.ofNat k).toNatClampNeg) := pi_in (by omega) (by omega)
        exact ⟨fun _ => ⟨hin, fun _ _ => hin⟩, fun _ _ => hin⟩
      simp (disch := omega) only [pi_nn, e] at pre ⊢
      simp (disch := omega) only [hlt, hf, if_true, true_implies, isF_0, a1, a2, b1, b2, bi_0, pi_a1, true_and]
      refine ⟨⟨by simpa (disch := omega) only [pi_nn] using pre, ?_⟩, ?_⟩
      · exact ⟨fun _ => ⟨fun _ => ⟨fun _ => i1, fun _ _ => i1⟩, fun _ => i1⟩, fun _ => i1⟩
      · by_cases c1 : isF mv f = false
        · by_cases c2 : own P k a f
          · simp only [c1, c2, if_true, not_true_eq_false, if_false]
            exact skip (fun _ h => h.1 c2)
          · by_cases c3 : bsd P b (axs P b (P.par k) (P.sd k)) a f = false
            · simp only [c1, c2, c3, if_true, not_false_eq_true]
              exact skip (fun _ h => by rw [h.2.1] at c3; cases c3)
            · by_cases c4 : swB (rch P b k a) (rch P b k f) o = false
              · simp only [c1, c2, c3, c4, if_true, not_false_eq_true, Bool.true_eq_false, if_false]
                exact skip (fun _ h => by rw [h.2.2] at c4; cases c4)
              · simp only [c1, c2, c3, c4, if_true, not_false_eq_true, Bool.true_eq_false, if_false]
                exact Or.inr ⟨trivial, f, Nat.le_refl f, hf, c1, c2, by simpa using c3, by simpa using c4⟩
        · simp only [c1, Bool.true_eq_false, if_false]
          exact skip (fun h => absurd h c1)
    · simp only [hlt, hf, if_false, false_implies, true_and]
      exact Or.inl (fun f' h1 h2 => by omega)
def clr (P : Pl) (b : Int32) (k o : Nat) (mv : Int32) : Prop := ∀ a < P.n, isF mv a = true → ∀ f < P.n, isF mv f = false → ¬ hitB P b k o a f
theorem isF_1 (x : Int32) {k : Nat} (hk : k < 13) : (((x >>> (Int32.ofNat k &&& (31 : Int32))) &&& (1 : Int32)) = 1) = (isF x k = true) := by
  rw [gb x hk, isF_b x hk, bi_1]
theorem l42_c {P : Pl} (hV : VP P) (b : Int32) (σ : am_M) (hC : CP σ P) (hF : FC σ P b) {k o : Nat} (hk : k < P.n) (h0 : 0 < k) (ho : o = 1 ∨ o = 3) (h36 : σ.1 36 1 = Int32.ofNat (axs P b (P.par k) (P.sd k))) (hB : ∀ p < P.n, BE σ P b k p) (mv : Int32) : ∀ (fu a : Nat), P.n < a + fu → a ≤ P.n →
    q_42_65 fu σ (Int32.ofNat k) mv (Int32.ofNat o) (Int32.ofNat a) ∧ ((l_42_65 fu σ (Int32.ofNat k) mv (Int32.ofNat o) (Int32.ofNat a) = (1, σ) ∧ ∀ a', a ≤ a' → a' < P.n → isF mv a' = true → ∀ f < P.n, isF mv f = false → ¬ hitB P b k o a' f) ∨ (l_42_65 fu σ (Int32.ofNat k) mv (Int32.ofNat o) (Int32.ofNat a) = (0, σ) ∧ ∃ a', a ≤ a' ∧ a' < P.n ∧ isF mv a' = true ∧ ∃ f, f < P.n ∧ isF mv f = false ∧ hitB P b k o a' f)) := by
  intro fu
  induction fu with
  | zero => intro a h1 h2; omega
  | succ fu ih =>
    intro a h1 h2
    have h13 := hV.n13
    rw [q_42_65, l_42_65]
    have hlt : (Int32.ofNat a < σ.1 2 0) = (a < P.n) := by rw [hC.1]; exact pi_lt (by omega) (by omega)
    by_cases ha : a < P.n
    · obtain ⟨k1, k2⟩ := l45_c hV b σ hC hF hk h0 ha ho h36 hB mv 14 0 (by omega) (by omega)
      rw [l_0] at k1 k2
      have p45 : p_45 σ (Int32.ofNat k) mv (Int32.ofNat a) (Int32.ofNat o) := k1
      have v45 : v_45 σ (Int32.ofNat k) mv (Int32.ofNat a) (Int32.ofNat o) = l_45_3 14 σ (Int32.ofNat k) mv (Int32.ofNat a) (Int32.ofNat o) 0 := rfl
      obtain ⟨i1, i2⟩ := ih (a + 1) (by omega) (by omega)
      simp (disch := omega) only [hlt, ha, if_true, true_implies, isF_1, p45, pi_a1, true_and, v45]
      refine ⟨⟨fun _ _ => i1, fun _ => i1⟩, ?_⟩
      have skip : (isF mv a = true → ∀ f < P.n, isF mv f = false → ¬ hitB P b k o a f) → ((l_42_65 fu σ (Int32.ofNat k) mv (Int32.ofNat o) (Int32.ofNat (a + 1)) = (1, σ) ∧ ∀ a', a ≤ a' → a' < P.n → isF mv a' = true → ∀ f < P.n, isF mv f = false → ¬ hitB P b k o a' f) ∨ (l_42_65 fu σ (Int32.ofNat k) mv (Int32.ofNat o) (Int32.ofNat (a + 1)) = (0, σ) ∧ ∃ a', a ≤ a' ∧ a' < P.n ∧ isF mv a' = true ∧ ∃ f, f < P.n ∧ isF mv f = false ∧ hitB P b k o a' f)) := by
        intro hn
        rcases i2 with ⟨j1, j2⟩ | ⟨j1, a', j2, j3, j4⟩
        · refine Or.inl ⟨j1, fun a' h1 h2 h3 => ?_⟩
          by_cases haa : a' = a
          · subst haa; exact hn h3
          · exact j2 a' (by omega) h2 h3
        · exact Or.inr ⟨j1, a', by omega, j3, j4⟩
      by_cases c1 : isF mv a = true
      · rcases k2 with ⟨z1, z2⟩ | ⟨z1, f', z2, z3, z4, z5⟩
        · simp only [c1, z1, if_true]
          exact skip (fun _ f hf => z2 f (Nat.zero_le f) hf)
        · simp only [c1, z1, if_true, i10, if_false]
          exact Or.inr ⟨trivial, a, Nat.le_refl a, ha, c1, f', z3, z4, z5⟩
      · simp only [c1, Bool.false_eq_true, if_false]
        exact skip (fun h => absurd h c1)
    · simp only [hlt, ha, if_false, false_implies, true_and]
      exact Or.inl (fun f' h1 h2 => by omega)
theorem l4210_c {P : Pl} (hV : VP P) (b : Int32) {k : Nat} (hk : k < P.n) (h0 : 0 < k) (o : Nat) (ho : o = if isF (mvg P k) k = true then 1 else 3) : ∀ (fu p : Nat) (σ : am_M), CP σ P → FC σ P b → DR σ P b k → P.n < p + fu → p ≤ P.n → (∀ p' < p, BE σ P b k p') →
    q_42_10 fu σ (Int32.ofNat k) (Int32.ofNat p) ∧ Fr [38, 40, 41, 42, 43, 45, 46, 47, 48] σ (l_42_10 fu σ (Int32.ofNat k) (Int32.ofNat p)).2 ∧ (((l_42_10 fu σ (Int32.ofNat k) (Int32.ofNat p)).1 = 1 ∧ clr P b k o (mvg P k)) ∨ ((l_42_10 fu σ (Int32.ofNat k) (Int32.ofNat p)).1 = 0 ∧ ¬ clr P b k o (mvg P k))) := by
  intro fu
  induction fu with
  | zero => intro p σ _ _ _ h1 h2; omega
  | succ fu ih =>
    intro p σ hC hF hD h1 h2 hA
    have h13 := hV.n13
    obtain ⟨hq, hs⟩ := hV.tr k hk h0
    have e := ((hC.2 k hk).1 h0).1
    rw [q_42_10, l_42_10]
    have hlt : (Int32.ofNat p < σ.1 2 0) = (p < P.n) := by rw [hC.1]; exact pi_lt (by omega) (by omega)
    by_cases hp : p < P.n
    · obtain ⟨a1, σ', a2, a3, a4, a5⟩ := w44_c hV b σ hF hk h0 hD hp
      obtain ⟨i1, i2, i3⟩ := ih (p + 1) σ' (hC.fr a3 (by decide)) (hF.fr a3 (by decide)) (by
        unfold DR
        rw [a3.1 37 (by decide), a3.1 36 (by decide)]; exact hD) (by omega) (by omega) (by
        intro p' hp'
        by_cases hpp : p' = p
        · subst hpp; exact a4
        · exact a5 p' hpp (hA p' (by omega)))
      simp (disch := omega) only [hlt, hp, if_true, if_false, pi_pos, pi_npos, pi_nn, pi_ng, pi_nle, pi_lt, false_or, or_false, not_false_eq_true, true_and, and_true, false_and, and_false, implies_true, not_true, not_true_eq_false, false_implies, true_implies, pi_a1, pi_a2, pi_a3, pi_ab, pi_4, pi_3, pi_6, v_70_i, v_68_i, v_69_i, mod2_i, bi_0, bi_n, vp_bi, enc_flip, flip_s, e, a1, a2]
      exact ⟨i1, a3.trans i2, i3⟩
    · obtain ⟨m1, m2⟩ := v40_c P hV σ hC hk
      have hB : ∀ p < P.n, BE σ P b k p := fun p' hp' => hA p' (by omega)
      have o2 : (if isF (mvg P k) k = true then (1 : Int32) else 3) = Int32.ofNat o := by
        rw [ho]; cases isF (mvg P k) k <;> rfl
      have ho' : o = 1 ∨ o = 3 := by
        rw [ho]; cases isF (mvg P k) k
        · exact Or.inr rfl
        · exact Or.inl rfl
      obtain ⟨k1, k2⟩ := l42_c hV b σ hC hF hk h0 ho' hD.2.2.2.2 hB (mvg P k) 14 0 (by omega) (by omega)
      rw [l_0] at k1 k2
      simp (disch := omega) only [hlt, hp, if_false, false_implies, true_and, not_false_eq_true, true_implies, m1, m2, isF_1, o2, k1]
      rcases k2 with ⟨z1, z2⟩ | ⟨z1, a', z2, z3, z4, f, z5, z6, z7⟩
      · rw [z1]
        exact ⟨Fr.refl _ _, Or.inl ⟨rfl, fun a ha => z2 a (Nat.zero_le a) ha⟩⟩
      · rw [z1]
        exact ⟨Fr.refl _ _, Or.inr ⟨rfl, fun h => h a' z3 z4 f z5 z6 z7⟩⟩
def onw (P : Pl) (k : Nat) : Nat := if isF (mvg P k) k = true then 1 else 3
/-- a bend's turn is free -/
def free (P : Pl) (b : Int32) (k : Nat) : Prop := clr P b k (onw P k) (mvg P k)
theorem v42_c {P : Pl} (hV : VP P) (b : Int32) (σ : am_M) (hC : CP σ P) (hF : FC σ P b) {k : Nat} (hk : k < P.n) (h0 : 0 < k) :
    p_42 σ (Int32.ofNat k) ∧ Fr [36, 37, 38, 40, 41, 42, 43, 45, 46, 47, 48] σ (w_42 σ (Int32.ofNat k)) ∧ ((v_42 σ (Int32.ofNat k) = 1 ∧ free P b k) ∨ (v_42 σ (Int32.ofNat k) = 0 ∧ ¬ free P b k)) := by
  have h13 := hV.n13
  obtain ⟨a1, a2, a3⟩ := w43_c hV b σ hC hF hk h0
  obtain ⟨k1, k2, k3⟩ := l4210_c hV b hk h0 (onw P k) rfl 14 0 _ (hC.fr a3 (by decide)) (hF.fr a3 (by decide)) a2 (by omega) (by omega) (fun p hp => by omega)
  rw [l_0] at k1 k2 k3
  exact ⟨⟨a1, k1⟩, (a3.mono (by decide)).trans (k2.mono (by decide)), k3⟩
