theorem w2_c (P : Pl) (hV : VP P) (b : Int32) (σ : am_M) (hC : CP σ P) {p : Nat} (hp : p < P.n) (h0 : 0 < p) :
    p_2 σ (Int32.ofNat p) (if ((b >>> (Int32.ofNat p &&& (31 : Int32))) &&& (1 : Int32)) = 1 then (1 : Int32) else 0) ∧ ∃ σ', w_2 σ (Int32.ofNat p) (if ((b >>> (Int32.ofNat p &&& (31 : Int32))) &&& (1 : Int32)) = 1 then (1 : Int32) else 0) = σ' ∧ Fr [21, 22, 23] σ σ' ∧ (∀ j, j ≠ p → σ'.1 21 j = σ.1 21 j ∧ σ'.1 22 j = σ.1 22 j ∧ σ'.1 23 j = σ.1 23 j) ∧ σ'.1 21 p = nX P b p (σ.1 21 (P.par p)) (σ.1 22 (P.par p)) (σ.1 23 (P.par p)) ∧ σ'.1 22 p = nY P b p (σ.1 21 (P.par p)) (σ.1 22 (P.par p)) (σ.1 23 (P.par p)) ∧ σ'.1 23 p = nZ P b p (σ.1 21 (P.par p)) (σ.1 22 (P.par p)) (σ.1 23 (P.par p)) := by
  have h13 := hV.n13
  obtain ⟨hq, hs⟩ := hV.tr p hp h0
  have hE := hC.2 p hp
  unfold CE at hE
  obtain ⟨e1, e2, e3⟩ := hE.1 h0
  have hqp : P.par p ≠ p := by omega
  have ib : (if ((b >>> (Int32.ofNat p &&& (31 : Int32))) &&& (1 : Int32)) = 1 then (1 : Int32) else 0) = bi (isF b p) := by unfold isF bi; simp
  rw [ib]
  unfold p_2 w_2 p_2_127 w_2_127 p_8 v_8 nX nY nZ
  simp (disch := omega) only [if_true, if_false, pi_pos, pi_npos, pi_nn, pi_ng, pi_nle, pi_lt, false_or, or_false, not_false_eq_true, true_and, and_true, false_and, and_false, implies_true, not_true, not_true_eq_false, false_implies, true_implies, pi_a1, pi_a2, pi_a3, pi_ab, pi_4, pi_3, pi_6, v_70_i, v_68_i, v_69_i, mod2_i, bi_0, bi_n, vp_bi, enc_flip, flip_s, e1, e2, e3, and_self]
  cases hf : isF b p
  · simp only [if_true, if_false, Bool.false_eq_true, not_true_eq_false, false_implies, true_and]
    refine ⟨_, rfl, (((Fr.refl _ _).put _ _ _ (by decide)).put _ _ _ (by decide)).put _ _ _ (by decide), ?_, ?_, ?_, ?_⟩
    · intro j hj
      simp (disch := omega) only [am_rd, pi_neq, true_and, and_true, false_and, and_false, if_true, if_false, hj, and_self]
    all_goals simp (disch := omega) only [am_rd, pi_neq, true_and, and_true, false_and, and_false, if_true, if_false]
  · simp only [if_true, if_false, Bool.true_eq_false, Bool.false_eq_true, not_true_eq_false, false_implies, true_and]
    generalize P.up p = u
    match hsd : P.sd p, hs with
    | 0, _ => 
      simp (disch := omega) only [am_rd, pi_neq, true_and, and_true, false_and, and_false, if_true, if_false, beq_self_eq_true, Bool.true_or, Bool.true_eq_false, Nat.reduceEqDiff, aw, sg]
      refine ⟨_, rfl, ?_, ?_, ?_, ?_, ?_⟩
      · exact (((((Fr.refl _ _).put _ _ _ (by decide)).put _ _ _ (by decide)).put _ _ _ (by decide)).put _ _ _ (by decide)).put _ _ _ (by decide)
      · intro j hj
        simp (disch := omega) only [am_rd, pi_neq, true_and, and_true, false_and, and_false, if_true, if_false, hj, and_self]
      all_goals (simp (disch := omega) only [am_rd, pi_neq, true_and, and_true, false_and, and_false, if_true, if_false]; try (cases u <;> rfl))
    | 1, _ =>
      have z : (((1 : Nat) == 0) || ((1 : Nat) == 2)) = false := by decide
      have z' : (((1 : Nat) == 0) || ((1 : Nat) == 1)) = true := by decide
      simp (disch := omega) only [am_rd, pi_neq, true_and, and_true, false_and, and_false, if_true, if_false, z, z', Bool.true_eq_false, Nat.reduceEqDiff, aw, sg]
      refine ⟨_, rfl, ?_, ?_, ?_, ?_, ?_⟩
      · exact (((((Fr.refl _ _).put _ _ _ (by decide)).put _ _ _ (by decide)).put _ _ _ (by decide)).put _ _ _ (by decide)).put _ _ _ (by decide)
      · intro j hj
        simp (disch := omega) only [am_rd, pi_neq, true_and, and_true, false_and, and_false, if_true, if_false, hj, and_self]
      all_goals (simp (disch := omega) only [am_rd, pi_neq, true_and, and_true, false_and, and_false, if_true, if_false]; try (cases u <;> rfl))
    | 2, _ =>
      have z : (((2 : Nat) == 0) || ((2 : Nat) == 2)) = true := by decide
      have z' : (((2 : Nat) == 0) || ((2 : Nat) == 1)) = false := by decide
      simp (disch := omega) only [am_rd, pi_neq, true_and, and_true, false_and, and_false, if_true, if_false, z, z', Bool.true_eq_false, Nat.reduceEqDiff, aw, sg]
      refine ⟨_, rfl, ?_, ?_, ?_, ?_, ?_⟩
      · exact (((((Fr.refl _ _).put _ _ _ (by decide)).put _ _ _ (by decide)).put _ _ _ (by decide)).put _ _ _ (by decide)).put _ _ _ (by decide)
      · intro j hj
        simp (disch := omega) only [am_rd, pi_neq, true_and, and_true, false_and, and_false, if_true, if_false, hj, and_self]
      all_goals (simp (disch := omega) only [am_rd, pi_neq, true_and, and_true, false_and, and_false, if_true, if_false]; try (cases u <;> rfl))
    | 3, _ =>
      have z : (((3 : Nat) == 0) || ((3 : Nat) == 2)) = false := by decide
      have z' : (((3 : Nat) == 0) || ((3 : Nat) == 1)) = false := by decide
      simp (disch := omega) only [am_rd, pi_neq, true_and, and_true, false_and, and_false, if_true, if_false, z, z', Bool.true_eq_false, Nat.reduceEqDiff, aw, sg]
      refine ⟨_, rfl, ?_, ?_, ?_, ?_, ?_⟩
      · exact (((((Fr.refl _ _).put _ _ _ (by decide)).put _ _ _ (by decide)).put _ _ _ (by decide)).put _ _ _ (by decide)).put _ _ _ (by decide)
      · intro j hj
        simp (disch := omega) only [am_rd, pi_neq, true_and, and_true, false_and, and_false, if_true, if_false, hj, and_self]
      all_goals (simp (disch := omega) only [am_rd, pi_neq, true_and, and_true, false_and, and_false, if_true, if_false]; try (cases u <;> rfl))
