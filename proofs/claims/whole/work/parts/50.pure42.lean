/-! the orders: both tables, then the three questions -/
def Ks (τ τ' : am_M) : Prop := (∀ l, l ∉ [50, 56, 57, 58, 59, 60, 62, 63, 64] → τ'.1 l = τ.1 l) ∧ ∀ j, j ∉ [19, 20, 21, 22] → τ'.1 50 j = τ.1 50 j
theorem Ks.refl (τ : am_M) : Ks τ τ := ⟨fun _ _ => rfl, fun _ _ => rfl⟩
theorem Ks.trans {τ τ' τ'' : am_M} (h : Ks τ τ') (h' : Ks τ' τ'') : Ks τ τ'' := ⟨fun l hl => (h'.1 l hl).trans (h.1 l hl), fun j hj => (h'.2 j hj).trans (h.2 j hj)⟩
theorem Kr.ks {τ τ' : am_M} (h : Kr τ τ') : Ks τ τ' := ⟨fun l hl => h.1 l (fun h2 => hl ((show ∀ x ∈ [50, 62, 63, 64], x ∈ [50, 56, 57, 58, 59, 60, 62, 63, 64] by decide) l h2)), h.2⟩
theorem Ks.fr {τ τ' : am_M} (h : Fr [56, 57, 58, 59, 60] τ τ') : Ks τ τ' := ⟨fun l hl => h.1 l (fun h2 => hl ((show ∀ x ∈ [56, 57, 58, 59, 60], x ∈ [50, 56, 57, 58, 59, 60, 62, 63, 64] by decide) l h2)), fun j _ => by rw [h.1 50 (by decide)]⟩
theorem RP.ks {τ τ' : am_M} {P : Pl} (hR : RP τ P) (h : Ks τ τ') : RP τ' P := hR.ag (fun l hl => h.1 l (by revert hl; revert l; decide)) (h.2 1 (by decide))
theorem Ks.keep {τ τ' : am_M} (h : Ks τ τ') : Keep τ τ' := by
  refine ⟨fun l hl => h.1 l (by revert hl; revert l; decide), ?_, ?_, ?_, h.2 1 (by decide), h.2 2 (by decide), h.2 3 (by decide), h.2 16 (by decide), h.2 17 (by decide)⟩ <;> rw [h.1 1 (by decide)]
theorem Ks.inv {σ τ : am_M} {P : Pl} (h : Ks σ τ) (hP : InvP σ P) : Inv τ ∧ τ.1 0 = σ.1 0 := by
  refine ask hP h.keep ?_ ?_ (h.2 9 (by decide)) (h.2 10 (by decide)) <;> rw [h.1 1 (by decide)]
/-- what learning leaves, on both sides -/
theorem learn {σ : am_M} {P : Pl} (hP : InvP σ P) (hn : 0 < P.n) : p_72 σ ∧ CP (w_72 σ) P ∧ p_114 (am_put (w_72 σ) 50 0 0) ∧ InvP (w_114 (am_put (w_72 σ) 50 0 0)) P ∧ (w_114 (am_put (w_72 σ) 50 0 0)).1 0 = σ.1 0 ∧ Kn (w_114 (am_put (w_72 σ) 50 0 0)) P ∧ (w_114 (am_put (w_72 σ) 50 0 0)).1 49 = (w_72 σ).1 49 ∧ (w_114 (am_put (w_72 σ) 50 0 0)).1 1 5 = (w_114 (am_put (w_72 σ) 50 0 0)).1 50 3 := by
  have hP' := hP
  obtain ⟨hV, hC, hR, hM, hO⟩ := hP
  rcases hO with ⟨z1, z2⟩ | ⟨z1, z2, -, z3⟩
  · obtain ⟨a1, σ', a2, a3, a4⟩ := w72_c hV σ hC hR hn z1
    rw [a2]
    have s1 : ∀ l, l ∉ LA → l ≠ 1 → (am_put σ' 1 9 1).1 l = σ.1 l := by
      intro l hl h1
      rw [am_ne _ _ _ _ _ h1, a3.1 l hl]
    have s11 : ∀ j, j ≠ 9 → (am_put σ' 1 9 1).1 1 j = σ.1 1 j := by
      intro j hj
      rw [am_rd, if_neg (fun h => hj h.2), a3.1 1 (by decide)]
    have hC1 : CP (am_put σ' 1 9 1) P := (hC.fr a3 (by decide)).put _ _ _ (by decide)
    have hR1 : RP (am_put (am_put σ' 1 9 1) 50 0 0) P := ((hR.fr a3 (by decide)).put _ _ _ (by decide) (by decide)).put _ _ _ (by decide) (by decide)
    have h50 : ∀ j, j ≠ 0 → (am_put (am_put σ' 1 9 1) 50 0 0).1 50 j = σ.1 50 j := by
      intro j hj
      rw [am_rd, if_neg (fun h => hj h.2), s1 50 (by decide) (by decide)]
    have hg : (am_put (am_put σ' 1 9 1) 50 0 0).1 50 3 = σ.1 1 5 := by rw [h50 3 (by decide)]; exact hM.2.1.symm
    have hT : Tab ((am_put σ' 1 9 1).1 49) P (σ.1 1 5) 0 := a4
    obtain ⟨b1, b2, b3, b4⟩ := w114_c hV (σ.1 1 5) _ hn hT _ hR1 hg (by rw [h50 16 (by decide)]; exact z2)
    generalize hτ : w_114 (am_put (am_put σ' 1 9 1) 50 0 0) = τ at *
    have t1 : ∀ l, l ∉ [50, 56, 57, 58, 59, 60, 61, 62, 63, 64] → τ.1 l = (am_put σ' 1 9 1).1 l := by
      intro l hl
      rw [b2.1 l hl, am_ne _ _ _ _ _ (fun e => hl (by rw [e]; decide)), am_ne _ _ _ _ _ (fun e => hl (by rw [e]; decide))]
    have t50 : ∀ j, j ∉ [0, 16, 17, 19, 20, 21, 22] → τ.1 50 j = σ.1 50 j := by
      intro j hj
      rw [b2.2 j (fun h => hj ((show ∀ x ∈ [17, 19, 20, 21, 22], x ∈ [0, 16, 17, 19, 20, 21, 22] by decide) j h)), am_rd, if_neg (fun e => hj (by rw [e.2]; decide)), h50 j (fun e => hj (by rw [e]; decide))]
    have e16 : τ.1 50 16 = 1 := by rw [b2.2 16 (by decide), am_rd, if_pos ⟨rfl, rfl⟩]
    have e49 : τ.1 49 = (am_put σ' 1 9 1).1 49 := t1 49 (by decide)
    have e1 : τ.1 1 = (am_put σ' 1 9 1).1 1 := t1 1 (by decide)
    have hCt : CP τ P := hC1.ag (fun l hl => t1 l (by revert hl; revert l; decide))
    have hRt : RP τ P := (hR1.put 50 16 1 (by decide) (by decide)).kq b2
    have hKn : Kn τ P := by
      refine ⟨?_, ?_, ?_, ?_⟩
      · intro b hb; rw [b3 b hb, e49]
      · rw [e49]; exact hT.1
      · intro b hb
        rw [e49, e1, s11 5 (by decide)]
        exact hT.2 b (Nat.zero_le b) hb
      · rw [b4, e49]
    have e15 : τ.1 1 5 = τ.1 50 3 := by rw [e1, s11 5 (by decide), t50 3 (by decide)]; exact hM.2.1
    refine ⟨a1, hC1, b1, ⟨hV, hCt, hRt, ⟨?_, e15, ?_, ?_⟩, Or.inr ⟨?_, e16, hn, hKn⟩⟩, ?_, hKn, e49, e15⟩
    · rw [e1, s11 4 (by decide), t50 2 (by decide)]; exact hM.1
    · rw [e1, s11 6 (by decide), t50 9 (by decide)]; exact hM.2.2.1
    · rw [e1, s11 7 (by decide), t50 10 (by decide)]; exact hM.2.2.2
    · rw [e1, am_rd, if_pos ⟨rfl, rfl⟩]
    · rw [t1 0 (by decide), s1 0 (by decide) (by decide)]
  · have n10 : ¬ (1 : Int32) = 0 := by decide
    have w1 : w_72 σ = σ := by unfold w_72 f_72; rw [z1, if_neg n10]
    have p1 : p_72 σ := by unfold p_72; rw [z1]; exact fun h => absurd h n10
    have h16 : (am_put σ 50 0 0).1 50 16 = 1 := by rw [am_rd, if_neg (by decide)]; exact z2
    have w2 : w_114 (am_put σ 50 0 0) = am_put σ 50 0 0 := by unfold w_114 f_114; rw [h16, if_neg n10]
    have p2 : p_114 (am_put σ 50 0 0) := by unfold p_114; rw [h16]; exact fun h => absurd h n10
    rw [w1, w2]
    have K : Keep σ (am_put σ 50 0 0) := p500 σ 0
    have hI : InvP (am_put σ 50 0 0) P := K.toInv hP' (by simp only [am_rd]; simpa using hM.2.2.1) (by simp only [am_rd]; simpa using hM.2.2.2)
    refine ⟨p1, hC, p2, hI, rfl, ?_, rfl, hI.2.2.2.1.2.1⟩
    rcases hI.2.2.2.2 with ⟨y1, -⟩ | ⟨-, -, -, y3⟩
    · exact absurd (by rw [← y1]; simp only [am_rd]; simpa using z1.symm) n10
    · exact y3
theorem c_order (σ : am_M) (h : Inv σ) : p_63 σ ∧ p_115 (w_63 σ) ∧ v_63 σ = v_115 (w_63 σ) ∧ Inv (w_115 (w_63 σ)) ∧ (w_115 (w_63 σ)).1 0 = σ.1 0 := by
  have hI := h
  obtain ⟨P, hP⟩ := h
  have hP' := hP
  obtain ⟨hV, hC, hR, hM, hO⟩ := hP
  have h13 := hV.n13
  have hz := pi_z (show P.n < 200 by omega)
  unfold p_63 p_115 v_63 v_115 w_115 w_63
  by_cases hn : P.n = 0
  · have hc : σ.1 2 0 = 0 := by rw [hC.1, hn]; rfl
    have hr : σ.1 50 1 = 0 := by rw [hR.1, hn]; rfl
    simp only [hc, hr, if_true, not_true_eq_false, false_implies, true_and]
    exact inv500 hI 0
  · have hc : σ.1 2 0 ≠ 0 := by rw [hC.1]; simpa [hz] using hn
    have h0 : 0 < P.n := by omega
    obtain ⟨a1, a2, a3, a4, a5, a6, a7, a8⟩ := learn hP' h0
    have hr : (w_72 σ).1 50 1 ≠ 0 := by
      have := a4.2.2.1.1
      unfold w_72 f_72 at *
      intro h
      by_cases z : σ.1 1 9 = 0
      · obtain ⟨-, σ', b2, b3, -⟩ := w72_c hV σ hC hR h0 z
        unfold w_72 f_72 at b2
        rw [b2, am_ne _ _ _ _ _ (by decide), b3.1 50 (by decide), hR.1, hz] at h
        exact hn h
      · rw [if_neg z, hR.1, hz] at h
        exact hn h
    simp only [hc, hr, if_false, not_false_eq_true, true_implies, a1, a3, true_and]
    refine ⟨?_, ⟨P, a4⟩, a5⟩
    have hM0 : 0 < 2 ^ (P.n - 1) := Nat.two_pow_pos _
    have k := a6.1 0 hM0
    rw [a7] at k
    rw [k, a2.1, a4.2.2.1.1]
    by_cases c : (w_72 σ).1 49 0 = -1
    · simp [c, bi]
    · simp [c, bi]
theorem w72_50 {P : Pl} {σ : am_M} (hP : InvP σ P) (hn : 0 < P.n) : (w_72 σ).1 50 1 = Int32.ofNat P.n := by
  obtain ⟨hV, hC, hR, hM, hO⟩ := hP
  by_cases z : σ.1 1 9 = 0
  · obtain ⟨-, σ', b2, b3, -⟩ := w72_c hV σ hC hR hn z
    rw [b2, am_ne _ _ _ _ _ (by decide), b3.1 50 (by decide), hR.1]
  · unfold w_72 f_72
    rw [if_neg z, hR.1]
theorem c_count (σ : am_M) (h : Inv σ) (x1 : Int32) : p_65 σ x1 ∧ p_117 (w_65 σ x1) x1 ∧ v_65 σ x1 = v_117 (w_65 σ x1) x1 ∧ Inv (w_117 (w_65 σ x1) x1) ∧ (w_117 (w_65 σ x1) x1).1 0 = σ.1 0 := by
  have hI := h
  obtain ⟨P, hP⟩ := h
  have hP' := hP
  obtain ⟨hV, hC, hR, hM, hO⟩ := hP
  have h13 := hV.n13
  have hz := pi_z (show P.n < 200 by omega)
  unfold p_65 p_117 v_65 v_117 w_117 w_65 f_65
  by_cases c0 : x1 = 0
  · subst c0
    have i01 : ((0 : Int32) = 1) = False := by decide
    simp only [i01, if_true, if_false, not_true_eq_false, false_implies, true_and]
    refine ⟨?_, inv500 hI 0⟩
    rw [hC.1, hR.1]
  · by_cases c1 : x1 = 1
    · subst c1
      simp only [i10, if_true, if_false, not_false_eq_true, true_implies]
      by_cases hn : P.n = 0
      · have hc : σ.1 2 0 = 0 := by rw [hC.1, hn]; rfl
        have hr : ¬ (0 : Int32) < σ.1 50 1 := by rw [hR.1, hn]; decide
        simp only [hc, hr, if_true, if_false, not_true_eq_false, false_implies, true_and]
        exact inv500 hI 0
      · have hc : σ.1 2 0 ≠ 0 := by rw [hC.1]; simpa [hz] using hn
        have h0 : 0 < P.n := by omega
        have hp := pw h13 h0
        have hM0 : 0 < 2 ^ (P.n - 1) := Nat.two_pow_pos _
        obtain ⟨a1, a2, a3, a4, a5, a6, a7, a8⟩ := learn hP' h0
        obtain ⟨b1, b2⟩ := l65_c ((w_72 σ).1 49) 1 (w_72 σ) rfl (cnt ((w_72 σ).1 49) (2 ^ (P.n - 1))) 4097 (2 ^ (P.n - 1)) 0 (by omega) (by omega) (by rw [Int32.zero_add])
        have ey : xb (2 ^ (P.n - 1)) = v_28 (w_72 σ) := by
          have : 2 ^ (P.n - 1) = (2 ^ (P.n - 1) - 1) + 1 := by omega
          rw [v28_c _ a2 h0 h13, this, xb_s, ← this]
        rw [ey] at b1 b2
        have hr : (0 : Int32) < (w_72 σ).1 50 1 := by
          rw [w72_50 hP' h0, pi_pos h0 (by omega)]; trivial
        simp only [hc, if_false, not_false_eq_true, true_implies, b1, b2, hr, if_true, a1, a3, true_and]
        refine ⟨?_, ⟨P, a4⟩, a5⟩
        rw [a6.2.2.2, a7]
    · simp only [c0, c1, if_false, not_false_eq_true, true_implies, false_implies, true_and]
      exact inv500 hI 0
/-- how many bits a set has -/
def pcn (m : Nat) : Nat → Nat
  | 0 => 0
  | N + 1 => pcn m N + (if m.testBit N then 1 else 0)
theorem pcn_0 : ∀ N, pcn 0 N = 0 := by
  intro N
  induction N with
  | zero => rfl
  | succ N ih => rw [pcn, ih]; simp
theorem pcn_o {m j : Nat} (h : m.testBit j = false) : ∀ N, (N ≤ j → pcn (m ||| 2 ^ j) N = pcn m N) ∧ (j < N → pcn (m ||| 2 ^ j) N = pcn m N + 1) := by
  intro N
  induction N with
  | zero => exact ⟨fun _ => rfl, fun h => by omega⟩
  | succ N ih =>
    have e : ∀ i, i ≠ j → (m ||| 2 ^ j).testBit i = m.testBit i := by
      intro i hi
      rw [Nat.testBit_or, Nat.testBit_two_pow]
      have : ¬ j = i := fun e => hi e.symm
      simp [this]
    constructor
    · intro hN
      rw [pcn, pcn, ih.1 (by omega), e N (by omega)]
    · intro hN
      by_cases hj : j = N
      · subst hj
        rw [pcn, pcn, ih.1 (Nat.le_refl _), h, Nat.testBit_or, Nat.testBit_two_pow_self]
        simp
      · rw [pcn, pcn, ih.2 (by omega), e N (by omega)]
        omega
theorem pcn_M : ∀ N n, N ≤ n → pcn (2 ^ n - 1) N = N := by
  intro N
  induction N with
  | zero => intro n _; rfl
  | succ N ih =>
    intro n hN
    rw [pcn, ih n (by omega), Nat.testBit_two_pow_sub_one]
    simp; omega
theorem l116_f {P : Pl} (hV : VP P) (g x1 : Int32) (nb : Nat → Int32) {m j : Nat} (hm : m < 2 ^ (P.n - 1)) (hn : 0 < P.n) (hc : cand nb P g m (j + 1)) (hl : ∀ k' < j + 1, ¬ cand nb P g m k') (k47 : am_M → Int32 → Int32 → Int32 → Int32 → Int32 × am_M) (c47 : am_M → Int32 → Int32 → Int32 → Int32 → Prop) (x4 : Int32) : ∀ (f k : Nat) (τ : am_M), j + 1 < k + f → k ≤ j + 1 → 0 < k → RP τ P → GC τ P (Int32.ofNat (2 * m)) → τ.1 50 3 = g → (∀ c < 2 ^ (P.n - 1), τ.1 61 c = bi (!decide (nb c = -1))) →
    ∃ τ', Kr τ τ' ∧ l_116_60 k47 f τ x1 (Int32.ofNat (2 * m)) (Int32.ofNat k) x4 = k47 τ' x1 (Int32.ofNat (2 * (m ||| 2 ^ j))) (Int32.ofNat (j + 1)) (x4 + 1) ∧ (c47 τ' x1 (Int32.ofNat (2 * (m ||| 2 ^ j))) (Int32.ofNat (j + 1)) (x4 + 1) → q_116_60 c47 f τ x1 (Int32.ofNat (2 * m)) (Int32.ofNat k) x4) := by
  intro f
  induction f with
  | zero => intro k τ h1 h2; omega
  | succ f ih =>
    intro k τ h1 h2 h0 hR hG hg h61
    have h13 := hV.n13
    have hp := pw h13 hn
    have hjn := hc.2.1
    obtain ⟨i, rfl⟩ : ∃ i, k = i + 1 := ⟨k - 1, by omega⟩
    have hk : i + 1 < P.n := by omega
    have hor : (m ||| 2 ^ i) < 2 ^ (P.n - 1) := or_lt hm (by omega)
    have e1 := setbit (m := m) (show i < 12 by omega)
    have e3 := (sh1 (show (m ||| 2 ^ i) < 4096 by omega)).2
    have e4 := nn4 (show (m ||| 2 ^ i) < 100000 by omega)
    have e5 := in4 (show (m ||| 2 ^ i) < 4096 by omega)
    rw [nn4 (by omega)] at e5
    have e6 := isF_1 (Int32.ofNat (2 * m)) (show i + 1 < 13 by omega)
    rw [isF2 m (by omega)] at e6
    have ci := cand_i hV τ hR nb g m i
    have h61' := h61 (m ||| 2 ^ i) hor
    obtain ⟨b1, b2, b3⟩ := v109_c hV (Int32.ofNat (2 * m)) τ hR hG hk (by omega)
    obtain ⟨d1, d2⟩ := v112_c P hV (Int32.ofNat (2 * m)) _ (hR.kr b2) (hG.kr b2) hk (by omega)
    rw [b2.2 3 (by decide), hg] at d2
    rw [l_116_60, q_116_60]
    simp only [e1, e3, e4, e6, eq_true e5, true_and, h61', bi_0, b1, d1, d2, pi_a1]
    have go : ∀ τ1 : am_M, Kr τ τ1 → ¬ cand nb P g m (i + 1) → ∃ τ', Kr τ τ' ∧ l_116_60 k47 f τ1 x1 (Int32.ofNat (2 * m)) (Int32.ofNat (i + 1 + 1)) x4 = k47 τ' x1 (Int32.ofNat (2 * (m ||| 2 ^ j))) (Int32.ofNat (j + 1)) (x4 + 1) ∧ (c47 τ' x1 (Int32.ofNat (2 * (m ||| 2 ^ j))) (Int32.ofNat (j + 1)) (x4 + 1) → q_116_60 c47 f τ1 x1 (Int32.ofNat (2 * m)) (Int32.ofNat (i + 1 + 1)) x4) := by
      intro τ1 hK hnc
      have hij : i ≠ j := fun e => by rw [e] at hnc; exact hnc hc
      obtain ⟨τ', i1, i2, i3⟩ := ih (i + 1 + 1) τ1 (by omega) (by omega) (by omega) (hR.kr hK) (hG.kr hK) (by rw [hK.2 3 (by decide)]; exact hg) (by intro c h; rw [hK.1 61 (by decide)]; exact h61 c h)
      exact ⟨τ', hK.trans i1, i2, i3⟩
    by_cases c1 : m.testBit i = true
    · simp only [c1, if_true, true_implies, not_true_eq_false, false_implies, and_true]
      exact go τ (Kr.refl _) (fun h => by
        have := (ci.1 h).2.1
        rw [c1] at this; cases this)
    · have c1' : m.testBit i = false := by simpa using c1
      simp only [c1', Bool.false_eq_true, if_false, false_implies, not_false_eq_true, true_implies, true_and]
      by_cases c2 : nb (m ||| 2 ^ i) = -1
      · have c2' : (!decide (nb (m ||| 2 ^ i) = -1)) = false := by simp [c2]
        simp only [c2', if_true, true_implies, not_true_eq_false, false_implies, and_true]
        exact go τ (Kr.refl _) (fun h => (ci.1 h).2.2.1 c2)
      · have c2' : (!decide (nb (m ||| 2 ^ i) = -1)) = true := by simp [c2]
        simp only [c2', Bool.true_eq_false, if_false, false_implies, not_false_eq_true, true_implies, true_and]
        rcases b3 with ⟨b4, b5⟩ | ⟨b4, b5⟩
        · simp only [b4, i10, if_false, false_implies, not_false_eq_true, true_implies, true_and]
          by_cases c3 : edg P (Int32.ofNat (2 * m)) g (i + 1) = -1
          · simp only [c3, if_true, true_implies, not_true_eq_false, false_implies, and_true]
            exact go _ b2 (fun h => (ci.1 h).2.2.2.2 c3)
          · simp only [c3, if_false, false_implies, not_false_eq_true, true_implies, true_and]
            have hcc : cand nb P g m (i + 1) := ci.2 ⟨hk, c1', c2, b5, c3⟩
            have hij : i = j := by
              by_cases h : i + 1 < j + 1
              · exact absurd hcc (hl _ h)
              · omega
            subst hij
            exact ⟨_, b2, rfl, fun h => h⟩
        · simp only [b4, if_true, true_implies, not_true_eq_false, false_implies, and_true]
          exact go _ b2 (fun h => b5 (ci.1 h).2.2.2.1)
theorem stp {P : Pl} (hV : VP P) (g : Int32) (nb : Nat → Int32) (hn : 0 < P.n) (hT : Tab nb P g 0) (σ : am_M) (h49 : σ.1 49 = nb) (i : Nat) (hi : i + 1 < P.n) : ∀ (d t m : Nat) (τ : am_M) (z : Int32) (f1 f2 : Nat), d + t = i → d < f1 → d + 1 < f2 → m < 2 ^ (P.n - 1) → pcn m (P.n - 1) = t → nb m ≠ -1 → RP τ P → τ.1 50 3 = g → (∀ c < 2 ^ (P.n - 1), τ.1 61 c = bi (!decide (nb c = -1))) →
    ∃ (v : Int32) (τ' : am_M), Ks τ τ' ∧ l_64_45 f1 σ (Int32.ofNat i) (Int32.ofNat (2 * m)) (nb m) (Int32.ofNat t) = (v, σ) ∧ l_116_47 f2 τ (Int32.ofNat i) (Int32.ofNat (2 * m)) z (Int32.ofNat t) = (v, τ') ∧ q_64_45 f1 σ (Int32.ofNat i) (Int32.ofNat (2 * m)) (nb m) (Int32.ofNat t) ∧ q_116_47 f2 τ (Int32.ofNat i) (Int32.ofNat (2 * m)) z (Int32.ofNat t) := by
  intro d
  induction d with
  | zero =>
    intro t m τ z f1 f2 hd hf1 hf2 hm hpc hnb hR hg h61
    have h13 := hV.n13
    have hp := pw h13 hn
    have ht : t = i := by omega
    subst ht
    obtain ⟨f1, rfl⟩ : ∃ f, f1 = f + 1 := ⟨f1 - 1, by omega⟩
    obtain ⟨f2, rfl⟩ : ∃ f, f2 = f + 1 + 1 := ⟨f2 - 2, by omega⟩
    have hmM : m < 2 ^ (P.n - 1) - 1 := by
      have : m ≠ 2 ^ (P.n - 1) - 1 := fun e => by
        rw [e, pcn_M _ _ (Nat.le_refl _)] at hpc
        omega
      omega
    rcases hT.2 m (Nat.zero_le m) hmM with ⟨z1, z2⟩ | ⟨k, z1, z2, z3⟩
    · exact absurd z1 hnb
    · obtain ⟨j, rfl⟩ : ∃ j, k = j + 1 := ⟨k - 1, by have := z2.1; omega⟩
      have hjn := z2.2.1
      have lt1 : ¬ (Int32.ofNat t < Int32.ofNat t) := by rw [pi_lt (by omega) (by omega)]; omega
      have lt2 : Int32.ofNat t < Int32.ofNat (t + 1) := by rw [pi_lt (by omega) (by omega)]; omega
      obtain ⟨a1, a2, a3⟩ := rfold_c P hV (Int32.ofNat (2 * m)) τ hR
      obtain ⟨τ', b1, b2, b3⟩ := l116_f hV g (Int32.ofNat t) nb hm hn z2 z3 (l_116_47 (f2 + 1)) (q_116_47 (f2 + 1)) (Int32.ofNat t) 14 1 (w_90 τ (Int32.ofNat (2 * m))) (by omega) (by omega) (by omega) (hR.fr a3 (by decide)) a2 (by rw [a3.1 50 (by decide)]; exact hg) (by intro c h; rw [a3.1 61 (by decide)]; exact h61 c h)
      rw [l_1, pi_a1] at b2 b3
      have en : l_116_47 (f2 + 1) τ' (Int32.ofNat t) (Int32.ofNat (2 * (m ||| 2 ^ j))) (Int32.ofNat (j + 1)) (Int32.ofNat (t + 1)) = (Int32.ofNat (j + 1), τ') := by rw [l_116_47, if_pos lt2]
      have qn : q_116_47 (f2 + 1) τ' (Int32.ofNat t) (Int32.ofNat (2 * (m ||| 2 ^ j))) (Int32.ofNat (j + 1)) (Int32.ofNat (t + 1)) := by rw [q_116_47]; exact fun h => absurd lt2 h
      refine ⟨Int32.ofNat (j + 1), τ', (Ks.fr a3).trans b1.ks, ?_, ?_, ?_, ?_⟩
      · rw [l_64_45, if_neg lt1, z1]
      · rw [l_116_47, if_neg lt1, b2, en]
      · rw [q_64_45]; exact fun h => absurd h lt1
      · rw [q_116_47]; exact fun _ => ⟨a1, b3 qn⟩
  | succ d ih =>
    intro t m τ z f1 f2 hd hf1 hf2 hm hpc hnb hR hg h61
    have h13 := hV.n13
    have hp := pw h13 hn
    obtain ⟨f1, rfl⟩ : ∃ f, f1 = f + 1 := ⟨f1 - 1, by omega⟩
    obtain ⟨f2, rfl⟩ : ∃ f, f2 = f + 1 := ⟨f2 - 1, by omega⟩
    have hmM : m < 2 ^ (P.n - 1) - 1 := by
      have : m ≠ 2 ^ (P.n - 1) - 1 := fun e => by
        rw [e, pcn_M _ _ (Nat.le_refl _)] at hpc
        omega
      omega
    rcases hT.2 m (Nat.zero_le m) hmM with ⟨z1, z2⟩ | ⟨k, z1, z2, z3⟩
    · exact absurd z1 hnb
    · obtain ⟨j, rfl⟩ : ∃ j, k = j + 1 := ⟨k - 1, by have := z2.1; omega⟩
      have hjn := z2.2.1
      have hbit : m.testBit j = false := by have := z2.2.2.1; rwa [Nat.add_sub_cancel] at this
      have hnb' : nb (m ||| 2 ^ j) ≠ -1 := by have := z2.2.2.2.1; rwa [Nat.add_sub_cancel] at this
      have hor : (m ||| 2 ^ j) < 2 ^ (P.n - 1) := or_lt hm (by omega)
      have lt1 : Int32.ofNat t < Int32.ofNat i := by rw [pi_lt (by omega) (by omega)]; omega
      have lt2 : ¬ (Int32.ofNat i < Int32.ofNat t) := by rw [pi_lt (by omega) (by omega)]; omega
      obtain ⟨a1, a2, a3⟩ := rfold_c P hV (Int32.ofNat (2 * m)) τ hR
      obtain ⟨τ', b1, b2, b3⟩ := l116_f hV g (Int32.ofNat i) nb hm hn z2 z3 (l_116_47 f2) (q_116_47 f2) (Int32.ofNat t) 14 1 (w_90 τ (Int32.ofNat (2 * m))) (by omega) (by omega) (by omega) (hR.fr a3 (by decide)) a2 (by rw [a3.1 50 (by decide)]; exact hg) (by intro c h; rw [a3.1 61 (by decide)]; exact h61 c h)
      rw [l_1, pi_a1] at b2 b3
      have K : Ks τ τ' := (Ks.fr a3).trans b1.ks
      obtain ⟨v, τ'', i1, i2, i3, i4, i5⟩ := ih (t + 1) (m ||| 2 ^ j) τ' (Int32.ofNat (j + 1)) f1 f2 (by omega) (by omega) (by omega) hor (by rw [(pcn_o hbit (P.n - 1)).2 (by omega), hpc]) hnb' (hR.ks K) (by rw [K.2 3 (by decide)]; exact hg) (by intro c h; rw [K.1 61 (by decide)]; exact h61 c h)
      have e1 := setbit (m := m) (show j < 12 by omega)
      have e3 := (sh1 (show (m ||| 2 ^ j) < 4096 by omega)).1
      have e4 := nn4 (show (m ||| 2 ^ j) < 100000 by omega)
      have e5 := in4 (show (m ||| 2 ^ j) < 4096 by omega)
      refine ⟨v, τ'', K.trans i1, ?_, ?_, ?_, ?_⟩
      · rw [l_64_45, if_pos lt1, if_neg hnb, z1, e1, e3, e4, h49, pi_a1]; exact i2
      · rw [l_116_47, if_neg lt2, b2]; exact i3
      · rw [q_64_45]
        intro _ _
        rw [z1, e1, e3]
        refine ⟨e5, ?_⟩
        rw [e4, h49, pi_a1]; exact i4
      · rw [q_116_47]; exact fun _ => ⟨a1, b3 i5⟩
theorem rng2 {x : Int32} {n : Nat} (hn : n ≤ 13) (h : 0 ≤ x ∧ x ≤ Int32.ofNat n - 2) : ∃ i, i + 1 < n ∧ x = Int32.ofNat i := by
  have h1 : 0 ≤ x ∧ x ≤ Int32.ofNat n - 1 := by
    refine ⟨h.1, ?_⟩
    have : ∀ n ≤ 13, Int32.ofNat n - 2 ≤ Int32.ofNat n - 1 := by decide
    exact Int32.le_trans h.2 (this n hn)
  obtain ⟨i, hi, rfl⟩ := rng' hn h1
  refine ⟨i, ?_, rfl⟩
  have : ∀ n ≤ 13, ∀ i < n, Int32.ofNat i ≤ Int32.ofNat n - 2 → i + 1 < n := by decide
  exact this n hn i hi h.2
theorem c_step (σ : am_M) (h : Inv σ) (x1 : Int32) : p_64 σ x1 ∧ p_116 (w_64 σ x1) x1 ∧ v_64 σ x1 = v_116 (w_64 σ x1) x1 ∧ Inv (w_116 (w_64 σ x1) x1) ∧ (w_116 (w_64 σ x1) x1).1 0 = σ.1 0 := by
  have hI := h
  obtain ⟨P, hP⟩ := h
  have hP' := hP
  obtain ⟨hV, hC, hR, hM, hO⟩ := hP
  have h13 := hV.n13
  have hz := pi_z (show P.n < 200 by omega)
  have hR0 : RP (am_put σ 50 0 0) P := hR.put _ _ _ (by decide) (by decide)
  unfold p_64 p_116 v_64 v_116 w_116 f_116 w_64 f_64
  by_cases hn : P.n = 0
  · have hc : σ.1 2 0 = 0 := by rw [hC.1, hn]; rfl
    have hr : σ.1 50 1 = Int32.ofNat P.n := hR.1
    simp only [hc, if_true, not_true_eq_false, false_implies, true_and, hr, pi_lm2 h13, isIn_i, bi_0, decide_eq_false_iff_not]
    have hno : ¬ (0 ≤ x1 ∧ x1 ≤ Int32.ofNat P.n - 2) := fun h => by
      obtain ⟨i, hi, -⟩ := rng2 h13 h
      omega
    simp only [hno, not_false_eq_true, not_true_eq_false, false_implies, if_true, true_and]
    exact inv500 hI 0
  · have hc : σ.1 2 0 ≠ 0 := by rw [hC.1]; simpa [hz] using hn
    have h0 : 0 < P.n := by omega
    simp only [hc, if_false, not_false_eq_true, true_implies, isWi_i, bi_0, decide_eq_false_iff_not]
    rw [hC.1]
    by_cases c : 0 ≤ x1 ∧ x1 ≤ Int32.ofNat P.n - 2
    · obtain ⟨i, hi, rfl⟩ := rng2 h13 c
      obtain ⟨a1, a2, a3, a4, a5, a6, a7, a8⟩ := learn hP' h0
      have hr := w72_50 hP' h0
      have hM0 : 0 < 2 ^ (P.n - 1) := Nat.two_pow_pos _
      have k0 := a6.1 0 hM0
      rw [a7] at k0
      simp only [c, and_self, not_true_eq_false, not_false_eq_true, true_implies, if_false, a1, true_and]
      by_cases c2 : (w_72 σ).1 49 0 = -1
      · have k0' : (w_114 (am_put (w_72 σ) 50 0 0)).1 61 0 = 0 := by rw [k0, c2]; rfl
        have el : l_64_45 14 (w_72 σ) (Int32.ofNat i) 0 ((w_72 σ).1 49 0) 0 = (-1, w_72 σ) := by
          rw [l_64_45, c2]
          split <;> rfl
        have eq : q_64_45 14 (w_72 σ) (Int32.ofNat i) 0 ((w_72 σ).1 49 0) 0 := by
          rw [q_64_45, c2]
          exact fun _ h => absurd rfl h
        simp only [el, eq, hr, pi_lm2 h13, isIn_i, bi_0, c, and_self, decide_true, Bool.true_eq_false, if_false, not_false_eq_true, true_implies, a3, k0', if_true, not_true_eq_false, false_implies, true_and]
        exact ⟨⟨P, a4⟩, a5⟩
      · have k0' : ¬ (w_114 (am_put (w_72 σ) 50 0 0)).1 61 0 = 0 := by
          rw [k0, bi_0]; simp [c2]
        have hT : Tab ((w_72 σ).1 49) P ((w_114 (am_put (w_72 σ) 50 0 0)).1 50 3) 0 := by
          refine ⟨?_, ?_⟩
          · rw [← a7]; exact a6.2.1
          · intro b _ hb
            rw [← a7, ← a8]; exact a6.2.2.1 b hb
        obtain ⟨v, τ', s1, s2, s3, s4, s5⟩ := stp hV _ ((w_72 σ).1 49) h0 hT (w_72 σ) rfl i hi i 0 0 (w_114 (am_put (w_72 σ) 50 0 0)) (-1) 14 14 (by omega) (by omega) (by omega) hM0 (pcn_0 _) c2 a4.2.2.1 rfl (by intro c hc'; rw [a6.1 c hc', a7])
        rw [Nat.mul_zero, l_0] at s2 s3 s4 s5
        simp only [s2, s4, hr, pi_lm2 h13, isIn_i, bi_0, c, and_self, decide_true, Bool.true_eq_false, if_false, not_false_eq_true, true_implies, a3, k0', s3, s5, true_and]
        have := s1.inv a4
        exact ⟨this.1, this.2.trans a5⟩
    · simp only [c, not_false_eq_true, not_true_eq_false, false_implies, if_true, true_and, hR.1, pi_lm2 h13, isIn_i, bi_0, decide_eq_false_iff_not]
      exact inv500 hI 0
