theorem enc_or (f : Nat → Bool) {s : Nat} (hs : s < 4) : (enc f ||| ((1 : Int32) <<< (Int32.ofNat s &&& (31 : Int32)))) = enc (fun t => if t = s then true else f t) := by
  unfold enc
  match s, hs with
  | 0, _ => simp only [if_true, if_neg (by decide : ¬ (1 : Nat) = 0), if_neg (by decide : ¬ (2 : Nat) = 0), if_neg (by decide : ¬ (3 : Nat) = 0)]; cases f 0 <;> cases f 1 <;> cases f 2 <;> cases f 3 <;> decide
  | 1, _ => simp only [if_true, if_neg (by decide : ¬ (0 : Nat) = 1), if_neg (by decide : ¬ (2 : Nat) = 1), if_neg (by decide : ¬ (3 : Nat) = 1)]; cases f 0 <;> cases f 1 <;> cases f 2 <;> cases f 3 <;> decide
  | 2, _ => simp only [if_true, if_neg (by decide : ¬ (0 : Nat) = 2), if_neg (by decide : ¬ (1 : Nat) = 2), if_neg (by decide : ¬ (3 : Nat) = 2)]; cases f 0 <;> cases f 1 <;> cases f 2 <;> cases f 3 <;> decide
  | 3, _ => simp only [if_true, if_neg (by decide : ¬ (0 : Nat) = 3), if_neg (by decide : ¬ (1 : Nat) = 3), if_neg (by decide : ¬ (2 : Nat) = 3)]; cases f 0 <;> cases f 1 <;> cases f 2 <;> cases f 3 <;> decide
theorem enc_1 {s : Nat} (hs : s < 4) : ((1 : Int32) <<< (Int32.ofNat ((s + 2) % 4) &&& (31 : Int32))) = enc (fun t => t == (s + 2) % 4) := by
  match s, hs with
  | 0, _ => decide
  | 1, _ => decide
  | 2, _ => decide
  | 3, _ => decide
theorem up_i {x : Int32} (h : 0 ≤ x ∧ x ≤ 1) : (if x = 1 then (1 : Int32) else 0) = bi (x == 1) := by
  unfold bi; by_cases c : x = 1 <;> simp [c]
theorem n_0 : (0 : Int32).toNatClampNeg = 0 := rfl
theorem n_1 : (1 : Int32).toNatClampNeg = 1 := rfl
theorem n_2 : (2 : Int32).toNatClampNeg = 2 := rfl
theorem n_3 : (3 : Int32).toNatClampNeg = 3 := rfl
theorem g_0 : ((0 : Int32) < 0) = False := by decide
theorem g_1 : ((1 : Int32) < 0) = False := by decide
theorem g_2 : ((2 : Int32) < 0) = False := by decide
theorem g_3 : ((3 : Int32) < 0) = False := by decide
theorem v_68_0 (σ : am_M) : v_68 σ 0 = 2 := by unfold v_68; decide
theorem v_68_1 (σ : am_M) : v_68 σ 1 = 3 := by unfold v_68; decide
theorem v_68_2 (σ : am_M) : v_68 σ 2 = 0 := by unfold v_68; decide
theorem v_68_3 (σ : am_M) : v_68 σ 3 = 1 := by unfold v_68; decide
theorem v_70_0 (σ : am_M) : v_70 σ 0 = 1 := by unfold v_70; decide
theorem v_70_1 (σ : am_M) : v_70 σ 1 = 0 := by unfold v_70; decide
theorem v_70_2 (σ : am_M) : v_70 σ 2 = 1 := by unfold v_70; decide
theorem v_70_3 (σ : am_M) : v_70 σ 3 = 0 := by unfold v_70; decide
theorem v_69_0 (σ : am_M) : v_69 σ 0 = 1 := by unfold v_69; decide
theorem v_69_1 (σ : am_M) : v_69 σ 1 = 1 := by unfold v_69; decide
theorem v_69_2 (σ : am_M) : v_69 σ 2 = 0 := by unfold v_69; decide
theorem v_69_3 (σ : am_M) : v_69 σ 3 = 0 := by unfold v_69; decide
theorem i10 : ((1 : Int32) = 0) = False := by decide
theorem l_0 : Int32.ofNat 0 = 0 := rfl
theorem l_1 : Int32.ofNat 1 = 1 := rfl
theorem l_2 : Int32.ofNat 2 = 2 := rfl
theorem l_3 : Int32.ofNat 3 = 3 := rfl
theorem join_c0 (σ : am_M) (P : Pl) (hC : CP σ P) {q : Nat} (hn : P.n < 13) (hq : q < P.n) (o w d : Int32) (u : Bool) :
    p_35 σ (Int32.ofNat q) 0 o w d (bi u) ∧ CP (w_35 σ (Int32.ofNat q) 0 o w d (bi u)) (P.join q 0 o w d u) ∧ Fr [2, 3, 4, 5, 6, 8, 9, 10, 11] σ (w_35 σ (Int32.ofNat q) 0 o w d (bi u)) := by
  have hE := hC.2 q hq
  unfold CE at hE
  have eo := enc_or (P.bt q) (show 0 < 4 by decide)
  have e1 := enc_1 (show 0 < 4 by decide)
  simp only [l_0, l_1, l_2, l_3] at eo
  simp only [Nat.reduceAdd, Nat.reduceMod, l_0, l_1, l_2, l_3] at e1
  unfold p_35 w_35
  simp (disch := omega) only [if_true, if_false, pi_pos, pi_npos, pi_nn, pi_ng, pi_nle, pi_lt, false_or, or_false, not_false_eq_true, true_and, and_true, false_and, and_false, implies_true, not_true, not_true_eq_false, false_implies, true_implies, pi_a1, pi_a2, pi_a3, pi_ab, pi_4, pi_3, pi_6, v_70_i, v_68_i, v_69_i, mod2_i, bi_0, bi_n, vp_bi, enc_flip, flip_s, hC.1, v_68_0, v_68_1, v_68_2, v_68_3, v_69_0, v_69_1, v_69_2, v_69_3, v_70_0, v_70_1, v_70_2, v_70_3, n_0, n_1, n_2, n_3, g_0, g_1, g_2, g_3, i10, Nat.reduceLeDiff, Nat.reduceAdd]
  refine ⟨⟨?_, ?_⟩, ?_⟩
  · simp (disch := omega) only [am_rd, pi_neq, true_and, and_true, false_and, and_false, if_true, if_false]
    rfl
  · intro p hp
    have hp' : p < P.n + 1 := hp
    by_cases h1 : p = P.n
    · subst h1
      have hqn : q ≠ P.n := by omega
      simp (disch := omega) only [am_rd, pi_neq, true_and, and_true, false_and, and_false, if_true, if_false, CE, Pl.join, Pl.mk_par, Pl.mk_sd, Pl.mk_up, Pl.mk_bt, Pl.mk_W, Pl.mk_S, Pl.mk_E, Pl.mk_N, hqn, hE, e1]
      simp [Int32.sub_eq_add_neg]
    · have hE' := hC.2 p (by omega)
      unfold CE at hE'
      by_cases h2 : p = q
      · subst h2
        simp (disch := omega) only [am_rd, pi_neq, true_and, and_true, false_and, and_false, if_true, if_false, CE, Pl.join, Pl.mk_par, Pl.mk_sd, Pl.mk_up, Pl.mk_bt, Pl.mk_W, Pl.mk_S, Pl.mk_E, Pl.mk_N, hE', h1, eo]
        exact hE'.1
      · simp (disch := omega) only [am_rd, pi_neq, true_and, and_true, false_and, and_false, if_true, if_false, CE, Pl.join, Pl.mk_par, Pl.mk_sd, Pl.mk_up, Pl.mk_bt, Pl.mk_W, Pl.mk_S, Pl.mk_E, Pl.mk_N, hE', h1, h2]
        exact hE'.1
  · exact ((((((((((Fr.refl _ _).put _ _ _ (by decide)).put _ _ _ (by decide)).put _ _ _ (by decide)).put _ _ _ (by decide)).put _ _ _ (by decide)).put _ _ _ (by decide)).put _ _ _ (by decide)).put _ _ _ (by decide)).put _ _ _ (by decide)).put _ _ _ (by decide)
theorem join_c1 (σ : am_M) (P : Pl) (hC : CP σ P) {q : Nat} (hn : P.n < 13) (hq : q < P.n) (o w d : Int32) (u : Bool) :
    p_35 σ (Int32.ofNat q) 1 o w d (bi u) ∧ CP (w_35 σ (Int32.ofNat q) 1 o w d (bi u)) (P.join q 1 o w d u) ∧ Fr [2, 3, 4, 5, 6, 8, 9, 10, 11] σ (w_35 σ (Int32.ofNat q) 1 o w d (bi u)) := by
  have hE := hC.2 q hq
  unfold CE at hE
  have eo := enc_or (P.bt q) (show 1 < 4 by decide)
  have e1 := enc_1 (show 1 < 4 by decide)
  simp only [l_0, l_1, l_2, l_3] at eo
  simp only [Nat.reduceAdd, Nat.reduceMod, l_0, l_1, l_2, l_3] at e1
  unfold p_35 w_35
  simp (disch := omega) only [if_true, if_false, pi_pos, pi_npos, pi_nn, pi_ng, pi_nle, pi_lt, false_or, or_false, not_false_eq_true, true_and, and_true, false_and, and_false, implies_true, not_true, not_true_eq_false, false_implies, true_implies, pi_a1, pi_a2, pi_a3, pi_ab, pi_4, pi_3, pi_6, v_70_i, v_68_i, v_69_i, mod2_i, bi_0, bi_n, vp_bi, enc_flip, flip_s, hC.1, v_68_0, v_68_1, v_68_2, v_68_3, v_69_0, v_69_1, v_69_2, v_69_3, v_70_0, v_70_1, v_70_2, v_70_3, n_0, n_1, n_2, n_3, g_0, g_1, g_2, g_3, i10, Nat.reduceLeDiff, Nat.reduceAdd]
  refine ⟨⟨?_, ?_⟩, ?_⟩
  · simp (disch := omega) only [am_rd, pi_neq, true_and, and_true, false_and, and_false, if_true, if_false]
    rfl
  · intro p hp
    have hp' : p < P.n + 1 := hp
    by_cases h1 : p = P.n
    · subst h1
      have hqn : q ≠ P.n := by omega
      simp (disch := omega) only [am_rd, pi_neq, true_and, and_true, false_and, and_false, if_true, if_false, CE, Pl.join, Pl.mk_par, Pl.mk_sd, Pl.mk_up, Pl.mk_bt, Pl.mk_W, Pl.mk_S, Pl.mk_E, Pl.mk_N, hqn, hE, e1]
      simp [Int32.sub_eq_add_neg]
    · have hE' := hC.2 p (by omega)
      unfold CE at hE'
      by_cases h2 : p = q
      · subst h2
        simp (disch := omega) only [am_rd, pi_neq, true_and, and_true, false_and, and_false, if_true, if_false, CE, Pl.join, Pl.mk_par, Pl.mk_sd, Pl.mk_up, Pl.mk_bt, Pl.mk_W, Pl.mk_S, Pl.mk_E, Pl.mk_N, hE', h1, eo]
        exact hE'.1
      · simp (disch := omega) only [am_rd, pi_neq, true_and, and_true, false_and, and_false, if_true, if_false, CE, Pl.join, Pl.mk_par, Pl.mk_sd, Pl.mk_up, Pl.mk_bt, Pl.mk_W, Pl.mk_S, Pl.mk_E, Pl.mk_N, hE', h1, h2]
        exact hE'.1
  · exact ((((((((((Fr.refl _ _).put _ _ _ (by decide)).put _ _ _ (by decide)).put _ _ _ (by decide)).put _ _ _ (by decide)).put _ _ _ (by decide)).put _ _ _ (by decide)).put _ _ _ (by decide)).put _ _ _ (by decide)).put _ _ _ (by decide)).put _ _ _ (by decide)
theorem join_c2 (σ : am_M) (P : Pl) (hC : CP σ P) {q : Nat} (hn : P.n < 13) (hq : q < P.n) (o w d : Int32) (u : Bool) :
    p_35 σ (Int32.ofNat q) 2 o w d (bi u) ∧ CP (w_35 σ (Int32.ofNat q) 2 o w d (bi u)) (P.join q 2 o w d u) ∧ Fr [2, 3, 4, 5, 6, 8, 9, 10, 11] σ (w_35 σ (Int32.ofNat q) 2 o w d (bi u)) := by
  have hE := hC.2 q hq
  unfold CE at hE
  have eo := enc_or (P.bt q) (show 2 < 4 by decide)
  have e1 := enc_1 (show 2 < 4 by decide)
  simp only [l_0, l_1, l_2, l_3] at eo
  simp only [Nat.reduceAdd, Nat.reduceMod, l_0, l_1, l_2, l_3] at e1
  unfold p_35 w_35
  simp (disch := omega) only [if_true, if_false, pi_pos, pi_npos, pi_nn, pi_ng, pi_nle, pi_lt, false_or, or_false, not_false_eq_true, true_and, and_true, false_and, and_false, implies_true, not_true, not_true_eq_false, false_implies, true_implies, pi_a1, pi_a2, pi_a3, pi_ab, pi_4, pi_3, pi_6, v_70_i, v_68_i, v_69_i, mod2_i, bi_0, bi_n, vp_bi, enc_flip, flip_s, hC.1, v_68_0, v_68_1, v_68_2, v_68_3, v_69_0, v_69_1, v_69_2, v_69_3, v_70_0, v_70_1, v_70_2, v_70_3, n_0, n_1, n_2, n_3, g_0, g_1, g_2, g_3, i10, Nat.reduceLeDiff, Nat.reduceAdd]
  refine ⟨⟨?_, ?_⟩, ?_⟩
  · simp (disch := omega) only [am_rd, pi_neq, true_and, and_true, false_and, and_false, if_true, if_false]
    rfl
  · intro p hp
    have hp' : p < P.n + 1 := hp
    by_cases h1 : p = P.n
    · subst h1
      have hqn : q ≠ P.n := by omega
      simp (disch := omega) only [am_rd, pi_neq, true_and, and_true, false_and, and_false, if_true, if_false, CE, Pl.join, Pl.mk_par, Pl.mk_sd, Pl.mk_up, Pl.mk_bt, Pl.mk_W, Pl.mk_S, Pl.mk_E, Pl.mk_N, hqn, hE, e1]
      simp [Int32.sub_eq_add_neg]
    · have hE' := hC.2 p (by omega)
      unfold CE at hE'
      by_cases h2 : p = q
      · subst h2
        simp (disch := omega) only [am_rd, pi_neq, true_and, and_true, false_and, and_false, if_true, if_false, CE, Pl.join, Pl.mk_par, Pl.mk_sd, Pl.mk_up, Pl.mk_bt, Pl.mk_W, Pl.mk_S, Pl.mk_E, Pl.mk_N, hE', h1, eo]
        exact hE'.1
      · simp (disch := omega) only [am_rd, pi_neq, true_and, and_true, false_and, and_false, if_true, if_false, CE, Pl.join, Pl.mk_par, Pl.mk_sd, Pl.mk_up, Pl.mk_bt, Pl.mk_W, Pl.mk_S, Pl.mk_E, Pl.mk_N, hE', h1, h2]
        exact hE'.1
  · exact ((((((((((Fr.refl _ _).put _ _ _ (by decide)).put _ _ _ (by decide)).put _ _ _ (by decide)).put _ _ _ (by decide)).put _ _ _ (by decide)).put _ _ _ (by decide)).put _ _ _ (by decide)).put _ _ _ (by decide)).put _ _ _ (by decide)).put _ _ _ (by decide)
theorem join_c3 (σ : am_M) (P : Pl) (hC : CP σ P) {q : Nat} (hn : P.n < 13) (hq : q < P.n) (o w d : Int32) (u : Bool) :
    p_35 σ (Int32.ofNat q) 3 o w d (bi u) ∧ CP (w_35 σ (Int32.ofNat q) 3 o w d (bi u)) (P.join q 3 o w d u) ∧ Fr [2, 3, 4, 5, 6, 8, 9, 10, 11] σ (w_35 σ (Int32.ofNat q) 3 o w d (bi u)) := by
  have hE := hC.2 q hq
  unfold CE at hE
  have eo := enc_or (P.bt q) (show 3 < 4 by decide)
  have e1 := enc_1 (show 3 < 4 by decide)
  simp only [l_0, l_1, l_2, l_3] at eo
  simp only [Nat.reduceAdd, Nat.reduceMod, l_0, l_1, l_2, l_3] at e1
  unfold p_35 w_35
  simp (disch := omega) only [if_true, if_false, pi_pos, pi_npos, pi_nn, pi_ng, pi_nle, pi_lt, false_or, or_false, not_false_eq_true, true_and, and_true, false_and, and_false, implies_true, not_true, not_true_eq_false, false_implies, true_implies, pi_a1, pi_a2, pi_a3, pi_ab, pi_4, pi_3, pi_6, v_70_i, v_68_i, v_69_i, mod2_i, bi_0, bi_n, vp_bi, enc_flip, flip_s, hC.1, v_68_0, v_68_1, v_68_2, v_68_3, v_69_0, v_69_1, v_69_2, v_69_3, v_70_0, v_70_1, v_70_2, v_70_3, n_0, n_1, n_2, n_3, g_0, g_1, g_2, g_3, i10, Nat.reduceLeDiff, Nat.reduceAdd]
  refine ⟨⟨?_, ?_⟩, ?_⟩
  · simp (disch := omega) only [am_rd, pi_neq, true_and, and_true, false_and, and_false, if_true, if_false]
    rfl
  · intro p hp
    have hp' : p < P.n + 1 := hp
    by_cases h1 : p = P.n
    · subst h1
      have hqn : q ≠ P.n := by omega
      simp (disch := omega) only [am_rd, pi_neq, true_and, and_true, false_and, and_false, if_true, if_false, CE, Pl.join, Pl.mk_par, Pl.mk_sd, Pl.mk_up, Pl.mk_bt, Pl.mk_W, Pl.mk_S, Pl.mk_E, Pl.mk_N, hqn, hE, e1]
      simp [Int32.sub_eq_add_neg]
    · have hE' := hC.2 p (by omega)
      unfold CE at hE'
      by_cases h2 : p = q
      · subst h2
        simp (disch := omega) only [am_rd, pi_neq, true_and, and_true, false_and, and_false, if_true, if_false, CE, Pl.join, Pl.mk_par, Pl.mk_sd, Pl.mk_up, Pl.mk_bt, Pl.mk_W, Pl.mk_S, Pl.mk_E, Pl.mk_N, hE', h1, eo]
        exact hE'.1
      · simp (disch := omega) only [am_rd, pi_neq, true_and, and_true, false_and, and_false, if_true, if_false, CE, Pl.join, Pl.mk_par, Pl.mk_sd, Pl.mk_up, Pl.mk_bt, Pl.mk_W, Pl.mk_S, Pl.mk_E, Pl.mk_N, hE', h1, h2]
        exact hE'.1
  · exact ((((((((((Fr.refl _ _).put _ _ _ (by decide)).put _ _ _ (by decide)).put _ _ _ (by decide)).put _ _ _ (by decide)).put _ _ _ (by decide)).put _ _ _ (by decide)).put _ _ _ (by decide)).put _ _ _ (by decide)).put _ _ _ (by decide)).put _ _ _ (by decide)
