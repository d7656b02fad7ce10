theorem m2_0 : ((0 : Int32) - 0 / 2 * 2 = 0) = True := by decide
theorem m2_1 : ((1 : Int32) - 1 / 2 * 2 = 0) = False := by decide
theorem m2_2 : ((2 : Int32) - 2 / 2 * 2 = 0) = True := by decide
theorem m2_3 : ((3 : Int32) - 3 / 2 * 2 = 0) = False := by decide
theorem i_20 : ((2 : Int32) = 0) = False := by decide
theorem i_31 : ((3 : Int32) = 1) = False := by decide
theorem join_r0 (σ : am_M) (P : Pl) (hV : VP P) (hR : RP σ P) {q : Nat} (hn : P.n < 13) (hq : q < P.n) (o w d x6 : Int32) (h6 : 0 ≤ x6 ∧ x6 ≤ 1) (hqs : q = 0 ∨ 0 ≠ (P.sd q + 2) % 4) (h4 : 1 ≤ w ∧ w ≤ 2000) (h5 : 1 ≤ d ∧ d ≤ 2000) (h3 : 0 ≤ o ∧ o ≤ plen P q 0 - w) :
    p_77 σ (Int32.ofNat q) 0 o w d x6 ∧ v_77 σ (Int32.ofNat q) 0 o w d x6 = Int32.ofNat P.n ∧ RP (w_77 σ (Int32.ofNat q) 0 o w d x6) (P.join q 0 o w d (x6 == 1)) ∧ Fr [50, 51, 52, 53, 54] σ (w_77 σ (Int32.ofNat q) 0 o w d x6) ∧ (w_77 σ (Int32.ofNat q) 0 o w d x6).1 50 16 = 0 ∧ (∀ i, i ≠ 0 → i ≠ 1 → i ≠ 16 → (w_77 σ (Int32.ofNat q) 0 o w d x6).1 50 i = σ.1 50 i) := by
  have h13 := hV.n13
  have hE := hR.2 q hq
  have c1 := pi_mx hq h13
  have c2 : (0 : Int32) ≤ 0 ∧ (0 : Int32) ≤ 3 := by decide
  have c4 : ¬ P.n = 13 := by omega
  have hx3 : ¬ o < 0 := by have := h3.1; clear hqs; grind
  have hl := rlen σ P hR h13 hq (show 0 < 4 by decide)
  have hg := lgsum h3.1 h4 (pl_b (s := 0) hV hq)
  simp only [h3.2, not_true_eq_false, eq_iff_iff, iff_false] at hg
  simp only [l_0, l_1, l_2, l_3] at hl
  have hu := up_i h6
  have hside : (0 < Int32.ofNat q) → ¬ ((0 : Int32) = (σ.1 52 ((Int32.ofNat q).toNatClampNeg) + 2) - (σ.1 52 ((Int32.ofNat q).toNatClampNeg) + 2) / 4 * 4) := by
    intro h0
    have h0' : 0 < q := by
      rcases Nat.eq_zero_or_pos q with h | h
      · subst h; exact absurd h0 (by decide)
      · exact h
    have hsd := (hV.tr q hq h0').2
    rw [pi_nn (by omega), (hE.1 h0').2.1, pi_a2, mod4_i hsd]
    intro e
    have : Int32.ofNat 0 = Int32.ofNat ((P.sd q + 2) % 4) := e
    rw [pi_inj (by omega) (by omega)] at this
    rcases hqs with h | h
    · omega
    · exact h this
  unfold RE at hE
  unfold p_77 v_77 w_77
  simp only [hl, hg, hu, hR.1, pi_e13 h13, pi_lm1 h13, isIn_i, bi_0, decide_eq_false_iff_not, c1, c2, c4, h6, h4, h5, hx3, and_self, not_true_eq_false, not_false_eq_true, true_implies, if_true, if_false]
  have key : (∀ (A B : Int32), (if 0 < Int32.ofNat q then (if (0 : Int32) = (σ.1 52 ((Int32.ofNat q).toNatClampNeg) + 2) - (σ.1 52 ((Int32.ofNat q).toNatClampNeg) + 2) / 4 * 4 then A else B) else B) = B) ∧ (∀ (A B : am_M), (if 0 < Int32.ofNat q then (if (0 : Int32) = (σ.1 52 ((Int32.ofNat q).toNatClampNeg) + 2) - (σ.1 52 ((Int32.ofNat q).toNatClampNeg) + 2) / 4 * 4 then A else B) else B) = B) := by
    constructor <;> intro A B <;> split <;> rename_i h
    · rw [if_neg (hside h)]
    · rfl
    · rw [if_neg (hside h)]
    · rfl
  rw [key.1, key.2]
  simp (disch := omega) only [if_true, if_false, pi_pos, pi_npos, pi_nn, pi_ng, pi_nle, pi_lt, false_or, or_false, not_false_eq_true, true_and, and_true, false_and, and_false, implies_true, not_true, not_true_eq_false, false_implies, true_implies, pi_a1, pi_a2, pi_a3, pi_ab, pi_4, pi_3, pi_6, v_70_i, v_68_i, v_69_i, mod2_i, bi_0, bi_n, vp_bi, enc_flip, flip_s, m2_0, m2_1, m2_2, m2_3, n_0, n_1, n_2, n_3, g_0, g_1, g_2, g_3, i10, i_20, i_31, pi_a1]
  refine ⟨⟨?_, ?_⟩, ?_, ?_, ?_⟩
  · simp (disch := omega) only [am_rd, pi_neq, true_and, and_true, false_and, and_false, if_true, if_false]
    rfl
  · intro p hp
    have hp' : p < P.n + 1 := hp
    by_cases h1 : p = P.n
    · subst h1
      simp (disch := omega) only [am_rd, pi_neq, true_and, and_true, false_and, and_false, if_true, if_false, RE, Pl.join, Pl.mk_par, Pl.mk_sd, Pl.mk_up, Pl.mk_bt, Pl.mk_W, Pl.mk_S, Pl.mk_E, Pl.mk_N, hE]
      simp
    · have hE' := hR.2 p (by omega)
      unfold RE at hE'
      simp (disch := omega) only [am_rd, pi_neq, true_and, and_true, false_and, and_false, if_true, if_false, RE, Pl.join, Pl.mk_par, Pl.mk_sd, Pl.mk_up, Pl.mk_bt, Pl.mk_W, Pl.mk_S, Pl.mk_E, Pl.mk_N, hE', h1]
      exact hE'.1
  · exact ((((((((((Fr.refl _ _).put _ _ _ (by decide)).put _ _ _ (by decide)).put _ _ _ (by decide)).put _ _ _ (by decide)).put _ _ _ (by decide)).put _ _ _ (by decide)).put _ _ _ (by decide)).put _ _ _ (by decide)).put _ _ _ (by decide)).put _ _ _ (by decide)
  · simp (disch := omega) only [am_rd, pi_neq, true_and, and_true, false_and, and_false, if_true, if_false]
  · intro i h0 h1 h16
    simp (disch := omega) only [am_rd, pi_neq, true_and, and_true, false_and, and_false, if_true, if_false]
theorem join_r1 (σ : am_M) (P : Pl) (hV : VP P) (hR : RP σ P) {q : Nat} (hn : P.n < 13) (hq : q < P.n) (o w d x6 : Int32) (h6 : 0 ≤ x6 ∧ x6 ≤ 1) (hqs : q = 0 ∨ 1 ≠ (P.sd q + 2) % 4) (h4 : 1 ≤ w ∧ w ≤ 2000) (h5 : 1 ≤ d ∧ d ≤ 2000) (h3 : 0 ≤ o ∧ o ≤ plen P q 1 - w) :
    p_77 σ (Int32.ofNat q) 1 o w d x6 ∧ v_77 σ (Int32.ofNat q) 1 o w d x6 = Int32.ofNat P.n ∧ RP (w_77 σ (Int32.ofNat q) 1 o w d x6) (P.join q 1 o w d (x6 == 1)) ∧ Fr [50, 51, 52, 53, 54] σ (w_77 σ (Int32.ofNat q) 1 o w d x6) ∧ (w_77 σ (Int32.ofNat q) 1 o w d x6).1 50 16 = 0 ∧ (∀ i, i ≠ 0 → i ≠ 1 → i ≠ 16 → (w_77 σ (Int32.ofNat q) 1 o w d x6).1 50 i = σ.1 50 i) := by
  have h13 := hV.n13
  have hE := hR.2 q hq
  have c1 := pi_mx hq h13
  have c2 : (0 : Int32) ≤ 1 ∧ (1 : Int32) ≤ 3 := by decide
  have c4 : ¬ P.n = 13 := by omega
  have hx3 : ¬ o < 0 := by have := h3.1; clear hqs; grind
  have hl := rlen σ P hR h13 hq (show 1 < 4 by decide)
  have hg := lgsum h3.1 h4 (pl_b (s := 1) hV hq)
  simp only [h3.2, not_true_eq_false, eq_iff_iff, iff_false] at hg
  simp only [l_0, l_1, l_2, l_3] at hl
  have hu := up_i h6
  have hside : (0 < Int32.ofNat q) → ¬ ((1 : Int32) = (σ.1 52 ((Int32.ofNat q).toNatClampNeg) + 2) - (σ.1 52 ((Int32.ofNat q).toNatClampNeg) + 2) / 4 * 4) := by
    intro h0
    have h0' : 0 < q := by
      rcases Nat.eq_zero_or_pos q with h | h
      · subst h; exact absurd h0 (by decide)
      · exact h
    have hsd := (hV.tr q hq h0').2
    rw [pi_nn (by omega), (hE.1 h0').2.1, pi_a2, mod4_i hsd]
    intro e
    have : Int32.ofNat 1 = Int32.ofNat ((P.sd q + 2) % 4) := e
    rw [pi_inj (by omega) (by omega)] at this
    rcases hqs with h | h
    · omega
    · exact h this
  unfold RE at hE
  unfold p_77 v_77 w_77
  simp only [hl, hg, hu, hR.1, pi_e13 h13, pi_lm1 h13, isIn_i, bi_0, decide_eq_false_iff_not, c1, c2, c4, h6, h4, h5, hx3, and_self, not_true_eq_false, not_false_eq_true, true_implies, if_true, if_false]
  have key : (∀ (A B : Int32), (if 0 < Int32.ofNat q then (if (1 : Int32) = (σ.1 52 ((Int32.ofNat q).toNatClampNeg) + 2) - (σ.1 52 ((Int32.ofNat q).toNatClampNeg) + 2) / 4 * 4 then A else B) else B) = B) ∧ (∀ (A B : am_M), (if 0 < Int32.ofNat q then (if (1 : Int32) = (σ.1 52 ((Int32.ofNat q).toNatClampNeg) + 2) - (σ.1 52 ((Int32.ofNat q).toNatClampNeg) + 2) / 4 * 4 then A else B) else B) = B) := by
    constructor <;> intro A B <;> split <;> rename_i h
    · rw [if_neg (hside h)]
    · rfl
    · rw [if_neg (hside h)]
    · rfl
  rw [key.1, key.2]
  simp (disch := omega) only [if_true, if_false, pi_pos, pi_npos, pi_nn, pi_ng, pi_nle, pi_lt, false_or, or_false, not_false_eq_true, true_and, and_true, false_and, and_false, implies_true, not_true, not_true_eq_false, false_implies, true_implies, pi_a1, pi_a2, pi_a3, pi_ab, pi_4, pi_3, pi_6, v_70_i, v_68_i, v_69_i, mod2_i, bi_0, bi_n, vp_bi, enc_flip, flip_s, m2_0, m2_1, m2_2, m2_3, n_0, n_1, n_2, n_3, g_0, g_1, g_2, g_3, i10, i_20, i_31, pi_a1]
  refine ⟨⟨?_, ?_⟩, ?_, ?_, ?_⟩
  · simp (disch := omega) only [am_rd, pi_neq, true_and, and_true, false_and, and_false, if_true, if_false]
    rfl
  · intro p hp
    have hp' : p < P.n + 1 := hp
    by_cases h1 : p = P.n
    · subst h1
      simp (disch := omega) only [am_rd, pi_neq, true_and, and_true, false_and, and_false, if_true, if_false, RE, Pl.join, Pl.mk_par, Pl.mk_sd, Pl.mk_up, Pl.mk_bt, Pl.mk_W, Pl.mk_S, Pl.mk_E, Pl.mk_N, hE]
      simp
    · have hE' := hR.2 p (by omega)
      unfold RE at hE'
      simp (disch := omega) only [am_rd, pi_neq, true_and, and_true, false_and, and_false, if_true, if_false, RE, Pl.join, Pl.mk_par, Pl.mk_sd, Pl.mk_up, Pl.mk_bt, Pl.mk_W, Pl.mk_S, Pl.mk_E, Pl.mk_N, hE', h1]
      exact hE'.1
  · exact ((((((((((Fr.refl _ _).put _ _ _ (by decide)).put _ _ _ (by decide)).put _ _ _ (by decide)).put _ _ _ (by decide)).put _ _ _ (by decide)).put _ _ _ (by decide)).put _ _ _ (by decide)).put _ _ _ (by decide)).put _ _ _ (by decide)).put _ _ _ (by decide)
  · simp (disch := omega) only [am_rd, pi_neq, true_and, and_true, false_and, and_false, if_true, if_false]
  · intro i h0 h1 h16
    simp (disch := omega) only [am_rd, pi_neq, true_and, and_true, false_and, and_false, if_true, if_false]
theorem join_r2 (σ : am_M) (P : Pl) (hV : VP P) (hR : RP σ P) {q : Nat} (hn : P.n < 13) (hq : q < P.n) (o w d x6 : Int32) (h6 : 0 ≤ x6 ∧ x6 ≤ 1) (hqs : q = 0 ∨ 2 ≠ (P.sd q + 2) % 4) (h4 : 1 ≤ w ∧ w ≤ 2000) (h5 : 1 ≤ d ∧ d ≤ 2000) (h3 : 0 ≤ o ∧ o ≤ plen P q 2 - w) :
    p_77 σ (Int32.ofNat q) 2 o w d x6 ∧ v_77 σ (Int32.ofNat q) 2 o w d x6 = Int32.ofNat P.n ∧ RP (w_77 σ (Int32.ofNat q) 2 o w d x6) (P.join q 2 o w d (x6 == 1)) ∧ Fr [50, 51, 52, 53, 54] σ (w_77 σ (Int32.ofNat q) 2 o w d x6) ∧ (w_77 σ (Int32.ofNat q) 2 o w d x6).1 50 16 = 0 ∧ (∀ i, i ≠ 0 → i ≠ 1 → i ≠ 16 → (w_77 σ (Int32.ofNat q) 2 o w d x6).1 50 i = σ.1 50 i) := by
  have h13 := hV.n13
  have hE := hR.2 q hq
  have c1 := pi_mx hq h13
  have c2 : (0 : Int32) ≤ 2 ∧ (2 : Int32) ≤ 3 := by decide
  have c4 : ¬ P.n = 13 := by omega
  have hx3 : ¬ o < 0 := by have := h3.1; clear hqs; grind
  have hl := rlen σ P hR h13 hq (show 2 < 4 by decide)
  have hg := lgsum h3.1 h4 (pl_b (s := 2) hV hq)
  simp only [h3.2, not_true_eq_false, eq_iff_iff, iff_false] at hg
  simp only [l_0, l_1, l_2, l_3] at hl
  have hu := up_i h6
  have hside : (0 < Int32.ofNat q) → ¬ ((2 : Int32) = (σ.1 52 ((Int32.ofNat q).toNatClampNeg) + 2) - (σ.1 52 ((Int32.ofNat q).toNatClampNeg) + 2) / 4 * 4) := by
    intro h0
    have h0' : 0 < q := by
      rcases Nat.eq_zero_or_pos q with h | h
      · subst h; exact absurd h0 (by decide)
      · exact h
    have hsd := (hV.tr q hq h0').2
    rw [pi_nn (by omega), (hE.1 h0').2.1, pi_a2, mod4_i hsd]
    intro e
    have : Int32.ofNat 2 = Int32.ofNat ((P.sd q + 2) % 4) := e
    rw [pi_inj (by omega) (by omega)] at this
    rcases hqs with h | h
    · omega
    · exact h this
  unfold RE at hE
  unfold p_77 v_77 w_77
  simp only [hl, hg, hu, hR.1, pi_e13 h13, pi_lm1 h13, isIn_i, bi_0, decide_eq_false_iff_not, c1, c2, c4, h6, h4, h5, hx3, and_self, not_true_eq_false, not_false_eq_true, true_implies, if_true, if_false]
  have key : (∀ (A B : Int32), (if 0 < Int32.ofNat q then (if (2 : Int32) = (σ.1 52 ((Int32.ofNat q).toNatClampNeg) + 2) - (σ.1 52 ((Int32.ofNat q).toNatClampNeg) + 2) / 4 * 4 then A else B) else B) = B) ∧ (∀ (A B : am_M), (if 0 < Int32.ofNat q then (if (2 : Int32) = (σ.1 52 ((Int32.ofNat q).toNatClampNeg) + 2) - (σ.1 52 ((Int32.ofNat q).toNatClampNeg) + 2) / 4 * 4 then A else B) else B) = B) := by
    constructor <;> intro A B <;> split <;> rename_i h
    · rw [if_neg (hside h)]
    · rfl
    · rw [if_neg (hside h)]
    · rfl
  rw [key.1, key.2]
  simp (disch := omega) only [if_true, if_false, pi_pos, pi_npos, pi_nn, pi_ng, pi_nle, pi_lt, false_or, or_false, not_false_eq_true, true_and, and_true, false_and, and_false, implies_true, not_true, not_true_eq_false, false_implies, true_implies, pi_a1, pi_a2, pi_a3, pi_ab, pi_4, pi_3, pi_6, v_70_i, v_68_i, v_69_i, mod2_i, bi_0, bi_n, vp_bi, enc_flip, flip_s, m2_0, m2_1, m2_2, m2_3, n_0, n_1, n_2, n_3, g_0, g_1, g_2, g_3, i10, i_20, i_31, pi_a1]
  refine ⟨⟨?_, ?_⟩, ?_, ?_, ?_⟩
  · simp (disch := omega) only [am_rd, pi_neq, true_and, and_true, false_and, and_false, if_true, if_false]
    rfl
  · intro p hp
    have hp' : p < P.n + 1 := hp
    by_cases h1 : p = P.n
    · subst h1
      simp (disch := omega) only [am_rd, pi_neq, true_and, and_true, false_and, and_false, if_true, if_false, RE, Pl.join, Pl.mk_par, Pl.mk_sd, Pl.mk_up, Pl.mk_bt, Pl.mk_W, Pl.mk_S, Pl.mk_E, Pl.mk_N, hE]
      simp
    · have hE' := hR.2 p (by omega)
      unfold RE at hE'
      simp (disch := omega) only [am_rd, pi_neq, true_and, and_true, false_and, and_false, if_true, if_false, RE, Pl.join, Pl.mk_par, Pl.mk_sd, Pl.mk_up, Pl.mk_bt, Pl.mk_W, Pl.mk_S, Pl.mk_E, Pl.mk_N, hE', h1]
      exact hE'.1
  · exact ((((((((((Fr.refl _ _).put _ _ _ (by decide)).put _ _ _ (by decide)).put _ _ _ (by decide)).put _ _ _ (by decide)).put _ _ _ (by decide)).put _ _ _ (by decide)).put _ _ _ (by decide)).put _ _ _ (by decide)).put _ _ _ (by decide)).put _ _ _ (by decide)
  · simp (disch := omega) only [am_rd, pi_neq, true_and, and_true, false_and, and_false, if_true, if_false]
  · intro i h0 h1 h16
    simp (disch := omega) only [am_rd, pi_neq, true_and, and_true, false_and, and_false, if_true, if_false]
theorem join_r3 (σ : am_M) (P : Pl) (hV : VP P) (hR : RP σ P) {q : Nat} (hn : P.n < 13) (hq : q < P.n) (o w d x6 : Int32) (h6 : 0 ≤ x6 ∧ x6 ≤ 1) (hqs : q = 0 ∨ 3 ≠ (P.sd q + 2) % 4) (h4 : 1 ≤ w ∧ w ≤ 2000) (h5 : 1 ≤ d ∧ d ≤ 2000) (h3 : 0 ≤ o ∧ o ≤ plen P q 3 - w) :
    p_77 σ (Int32.ofNat q) 3 o w d x6 ∧ v_77 σ (Int32.ofNat q) 3 o w d x6 = Int32.ofNat P.n ∧ RP (w_77 σ (Int32.ofNat q) 3 o w d x6) (P.join q 3 o w d (x6 == 1)) ∧ Fr [50, 51, 52, 53, 54] σ (w_77 σ (Int32.ofNat q) 3 o w d x6) ∧ (w_77 σ (Int32.ofNat q) 3 o w d x6).1 50 16 = 0 ∧ (∀ i, i ≠ 0 → i ≠ 1 → i ≠ 16 → (w_77 σ (Int32.ofNat q) 3 o w d x6).1 50 i = σ.1 50 i) := by
  have h13 := hV.n13
  have hE := hR.2 q hq
  have c1 := pi_mx hq h13
  have c2 : (0 : Int32) ≤ 3 ∧ (3 : Int32) ≤ 3 := by decide
  have c4 : ¬ P.n = 13 := by omega
  have hx3 : ¬ o < 0 := by have := h3.1; clear hqs; grind
  have hl := rlen σ P hR h13 hq (show 3 < 4 by decide)
  have hg := lgsum h3.1 h4 (pl_b (s := 3) hV hq)
  simp only [h3.2, not_true_eq_false, eq_iff_iff, iff_false] at hg
  simp only [l_0, l_1, l_2, l_3] at hl
  have hu := up_i h6
  have hside : (0 < Int32.ofNat q) → ¬ ((3 : Int32) = (σ.1 52 ((Int32.ofNat q).toNatClampNeg) + 2) - (σ.1 52 ((Int32.ofNat q).toNatClampNeg) + 2) / 4 * 4) := by
    intro h0
    have h0' : 0 < q := by
      rcases Nat.eq_zero_or_pos q with h | h
      · subst h; exact absurd h0 (by decide)
      · exact h
    have hsd := (hV.tr q hq h0').2
    rw [pi_nn (by omega), (hE.1 h0').2.1, pi_a2, mod4_i hsd]
    intro e
    have : Int32.ofNat 3 = Int32.ofNat ((P.sd q + 2) % 4) := e
    rw [pi_inj (by omega) (by omega)] at this
    rcases hqs with h | h
    · omega
    · exact h this
  unfold RE at hE
  unfold p_77 v_77 w_77
  simp only [hl, hg, hu, hR.1, pi_e13 h13, pi_lm1 h13, isIn_i, bi_0, decide_eq_false_iff_not, c1, c2, c4, h6, h4, h5, hx3, and_self, not_true_eq_false, not_false_eq_true, true_implies, if_true, if_false]
  have key : (∀ (A B : Int32), (if 0 < Int32.ofNat q then (if (3 : Int32) = (σ.1 52 ((Int32.ofNat q).toNatClampNeg) + 2) - (σ.1 52 ((Int32.ofNat q).toNatClampNeg) + 2) / 4 * 4 then A else B) else B) = B) ∧ (∀ (A B : am_M), (if 0 < Int32.ofNat q then (if (3 : Int32) = (σ.1 52 ((Int32.ofNat q).toNatClampNeg) + 2) - (σ.1 52 ((Int32.ofNat q).toNatClampNeg) + 2) / 4 * 4 then A else B) else B) = B) := by
    constructor <;> intro A B <;> split <;> rename_i h
    · rw [if_neg (hside h)]
    · rfl
    · rw [if_neg (hside h)]
    · rfl
  rw [key.1, key.2]
  simp (disch := omega) only [if_true, if_false, pi_pos, pi_npos, pi_nn, pi_ng, pi_nle, pi_lt, false_or, or_false, not_false_eq_true, true_and, and_true, false_and, and_false, implies_true, not_true, not_true_eq_false, false_implies, true_implies, pi_a1, pi_a2, pi_a3, pi_ab, pi_4, pi_3, pi_6, v_70_i, v_68_i, v_69_i, mod2_i, bi_0, bi_n, vp_bi, enc_flip, flip_s, m2_0, m2_1, m2_2, m2_3, n_0, n_1, n_2, n_3, g_0, g_1, g_2, g_3, i10, i_20, i_31, pi_a1]
  refine ⟨⟨?_, ?_⟩, ?_, ?_, ?_⟩
  · simp (disch := omega) only [am_rd, pi_neq, true_and, and_true, false_and, and_false, if_true, if_false]
    rfl
  · intro p hp
    have hp' : p < P.n + 1 := hp
    by_cases h1 : p = P.n
    · subst h1
      simp (disch := omega) only [am_rd, pi_neq, true_and, and_true, false_and, and_false, if_true, if_false, RE, Pl.join, Pl.mk_par, Pl.mk_sd, Pl.mk_up, Pl.mk_bt, Pl.mk_W, Pl.mk_S, Pl.mk_E, Pl.mk_N, hE]
      simp
    · have hE' := hR.2 p (by omega)
      unfold RE at hE'
      simp (disch := omega) only [am_rd, pi_neq, true_and, and_true, false_and, and_false, if_true, if_false, RE, Pl.join, Pl.mk_par, Pl.mk_sd, Pl.mk_up, Pl.mk_bt, Pl.mk_W, Pl.mk_S, Pl.mk_E, Pl.mk_N, hE', h1]
      exact hE'.1
  · exact ((((((((((Fr.refl _ _).put _ _ _ (by decide)).put _ _ _ (by decide)).put _ _ _ (by decide)).put _ _ _ (by decide)).put _ _ _ (by decide)).put _ _ _ (by decide)).put _ _ _ (by decide)).put _ _ _ (by decide)).put _ _ _ (by decide)).put _ _ _ (by decide)
  · simp (disch := omega) only [am_rd, pi_neq, true_and, and_true, false_and, and_false, if_true, if_false]
  · intro i h0 h1 h16
    simp (disch := omega) only [am_rd, pi_neq, true_and, and_true, false_and, and_false, if_true, if_false]
