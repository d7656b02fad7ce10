-- 104: X5_haveStretch
def p_104 (σ : am_M) (x1 : Int32) (x2 : Int32) : Prop := (¬ (x1 < 0 ∨ 8 ≤ x1.toNatClampNeg)) ∧ ((¬ (x2 < 0 ∨ 8 ≤ x2.toNatClampNeg)) ∧ ((((0 < (lg_cmp (σ.2 62 x1.toNatClampNeg) (σ.2 62 x2.toNatClampNeg))) → (¬ (x1 < 0 ∨ 8 ≤ x1.toNatClampNeg))) ∧ (¬ (0 < (lg_cmp (σ.2 62 x1.toNatClampNeg) (σ.2 62 x2.toNatClampNeg))) → (¬ (x2 < 0 ∨ 8 ≤ x2.toNatClampNeg)))) ∧ ((¬ (x1 < 0 ∨ 8 ≤ x1.toNatClampNeg)) ∧ ((¬ (x2 < 0 ∨ 8 ≤ x2.toNatClampNeg)) ∧ (((((lg_cmp (σ.2 63 x1.toNatClampNeg) (σ.2 63 x2.toNatClampNeg)) < 0) → (¬ (x1 < 0 ∨ 8 ≤ x1.toNatClampNeg))) ∧ (¬ ((lg_cmp (σ.2 63 x1.toNatClampNeg) (σ.2 63 x2.toNatClampNeg)) < 0) → (¬ (x2 < 0 ∨ 8 ≤ x2.toNatClampNeg)))) ∧ ((¬ (x1 < 0 ∨ 8 ≤ x1.toNatClampNeg)) ∧ (¬ ((σ.1 64 x1.toNatClampNeg) = 0) → (¬ (x2 < 0 ∨ 8 ≤ x2.toNatClampNeg)))))))))
def v_104 (σ : am_M) (x1 : Int32) (x2 : Int32) : Int32 := (if (σ.1 64 x1.toNatClampNeg) = 0 then (0 : Int32) else (if (σ.1 64 x2.toNatClampNeg) = 0 then (0 : Int32) else (if (lg_cmp (if 0 < (lg_cmp (σ.2 62 x1.toNatClampNeg) (σ.2 62 x2.toNatClampNeg)) then (σ.2 62 x1.toNatClampNeg) else (σ.2 62 x2.toNatClampNeg)) (if (lg_cmp (σ.2 63 x1.toNatClampNeg) (σ.2 63 x2.toNatClampNeg)) < 0 then (σ.2 63 x1.toNatClampNeg) else (σ.2 63 x2.toNatClampNeg))) < 0 then (1 : Int32) else 0)))
set_option maxRecDepth 20000 in
theorem s_104 (L : Nat) (σ : am_M) (x1 : Int32) (x2 : Int32) (h : p_104 σ x1 x2) : am_r L 104 0 [some (.inr (.inr (50, none))), some (.inl x1), some (.inl x2), none, none, none, none] [] σ = some (some (.inl (v_104 σ x1 x2)), am_sh0 L, σ) := by
  unfold p_104 at h
  unfold v_104
  refine (e_104_0 _ _ _ _).trans ?_
  refine (if_neg h.1).trans ?_
  refine (if_neg h.2.1).trans ?_
  refine Eq.trans (b := am_r L 104 31 [some (.inr (.inr (50, none))), some (.inl x1), some (.inl x2), none, none, none, none] [.inr (.inl (if 0 < (lg_cmp (σ.2 62 x1.toNatClampNeg) (σ.2 62 x2.toNatClampNeg)) then (σ.2 62 x1.toNatClampNeg) else (σ.2 62 x2.toNatClampNeg)))] σ) ?_ ?_
  · by_cases hc363 : 0 < (lg_cmp (σ.2 62 x1.toNatClampNeg) (σ.2 62 x2.toNatClampNeg))
    · simp only [if_pos hc363]
      all_goals
        refine (if_neg ((h.2.2.1.1 hc363))).trans ?_
        rfl
    · simp only [if_neg hc363]
      all_goals
        refine (e_104_25 _ _ _ _).trans ?_
        refine (if_neg ((h.2.2.1.2 hc363))).trans ?_
        rfl
  refine (e_104_31 _ _ _ _ _).trans ?_
  refine (if_neg h.2.2.2.1).trans ?_
  refine (if_neg h.2.2.2.2.1).trans ?_
  refine Eq.trans (b := am_r L 104 63 [some (.inr (.inr (50, none))), some (.inl x1), some (.inl x2), some (.inr (.inl (if 0 < (lg_cmp (σ.2 62 x1.toNatClampNeg) (σ.2 62 x2.toNatClampNeg)) then (σ.2 62 x1.toNatClampNeg) else (σ.2 62 x2.toNatClampNeg)))), none, none, none] [.inr (.inl (if (lg_cmp (σ.2 63 x1.toNatClampNeg) (σ.2 63 x2.toNatClampNeg)) < 0 then (σ.2 63 x1.toNatClampNeg) else (σ.2 63 x2.toNatClampNeg)))] σ) ?_ ?_
  · by_cases hc364 : (lg_cmp (σ.2 63 x1.toNatClampNeg) (σ.2 63 x2.toNatClampNeg)) < 0
    · simp only [if_pos hc364]
      all_goals
        refine (if_neg ((h.2.2.2.2.2.1.1 hc364))).trans ?_
        rfl
    · simp only [if_neg hc364]
      all_goals
        refine (e_104_57 _ _ _ _ _).trans ?_
        refine (if_neg ((h.2.2.2.2.2.1.2 hc364))).trans ?_
        rfl
  refine (e_104_63 _ _ _ _ _ _).trans ?_
  refine (if_neg h.2.2.2.2.2.2.1).trans ?_
  refine Eq.trans (b := am_r L 104 95 [some (.inr (.inr (50, none))), some (.inl x1), some (.inl x2), some (.inr (.inl (if 0 < (lg_cmp (σ.2 62 x1.toNatClampNeg) (σ.2 62 x2.toNatClampNeg)) then (σ.2 62 x1.toNatClampNeg) else (σ.2 62 x2.toNatClampNeg)))), none, some (.inr (.inl (if (lg_cmp (σ.2 63 x1.toNatClampNeg) (σ.2 63 x2.toNatClampNeg)) < 0 then (σ.2 63 x1.toNatClampNeg) else (σ.2 63 x2.toNatClampNeg)))), none] [.inl (if (σ.1 64 x1.toNatClampNeg) = 0 then (0 : Int32) else (if (σ.1 64 x2.toNatClampNeg) = 0 then (0 : Int32) else (if (lg_cmp (if 0 < (lg_cmp (σ.2 62 x1.toNatClampNeg) (σ.2 62 x2.toNatClampNeg)) then (σ.2 62 x1.toNatClampNeg) else (σ.2 62 x2.toNatClampNeg)) (if (lg_cmp (σ.2 63 x1.toNatClampNeg) (σ.2 63 x2.toNatClampNeg)) < 0 then (σ.2 63 x1.toNatClampNeg) else (σ.2 63 x2.toNatClampNeg))) < 0 then (1 : Int32) else 0)))] σ) ?_ ?_
  · by_cases hc365 : (σ.1 64 x1.toNatClampNeg) = 0
    · simp only [if_pos hc365]
      all_goals
        refine (e_104_94 _ _ _ _ _ _).trans ?_
        rfl
    · simp only [if_neg hc365]
      all_goals
        refine (if_neg ((h.2.2.2.2.2.2.2 hc365))).trans ?_
        refine Eq.trans (b := am_r L 104 95 [some (.inr (.inr (50, none))), some (.inl x1), some (.inl x2), some (.inr (.inl (if 0 < (lg_cmp (σ.2 62 x1.toNatClampNeg) (σ.2 62 x2.toNatClampNeg)) then (σ.2 62 x1.toNatClampNeg) else (σ.2 62 x2.toNatClampNeg)))), none, some (.inr (.inl (if (lg_cmp (σ.2 63 x1.toNatClampNeg) (σ.2 63 x2.toNatClampNeg)) < 0 then (σ.2 63 x1.toNatClampNeg) else (σ.2 63 x2.toNatClampNeg)))), none] [.inl (if (σ.1 64 x2.toNatClampNeg) = 0 then (0 : Int32) else (if (lg_cmp (if 0 < (lg_cmp (σ.2 62 x1.toNatClampNeg) (σ.2 62 x2.toNatClampNeg)) then (σ.2 62 x1.toNatClampNeg) else (σ.2 62 x2.toNatClampNeg)) (if (lg_cmp (σ.2 63 x1.toNatClampNeg) (σ.2 63 x2.toNatClampNeg)) < 0 then (σ.2 63 x1.toNatClampNeg) else (σ.2 63 x2.toNatClampNeg))) < 0 then (1 : Int32) else 0))] σ) ?_ ?_
        · by_cases hc366 : (σ.1 64 x2.toNatClampNeg) = 0
          · simp only [if_pos hc366]
            all_goals
              refine (e_104_94 _ _ _ _ _ _).trans ?_
              rfl
          · simp only [if_neg hc366]
            all_goals
              refine Eq.trans (b := am_r L 104 95 [some (.inr (.inr (50, none))), some (.inl x1), some (.inl x2), some (.inr (.inl (if 0 < (lg_cmp (σ.2 62 x1.toNatClampNeg) (σ.2 62 x2.toNatClampNeg)) then (σ.2 62 x1.toNatClampNeg) else (σ.2 62 x2.toNatClampNeg)))), none, some (.inr (.inl (if (lg_cmp (σ.2 63 x1.toNatClampNeg) (σ.2 63 x2.toNatClampNeg)) < 0 then (σ.2 63 x1.toNatClampNeg) else (σ.2 63 x2.toNatClampNeg)))), none] [.inl (if (lg_cmp (if 0 < (lg_cmp (σ.2 62 x1.toNatClampNeg) (σ.2 62 x2.toNatClampNeg)) then (σ.2 62 x1.toNatClampNeg) else (σ.2 62 x2.toNatClampNeg)) (if (lg_cmp (σ.2 63 x1.toNatClampNeg) (σ.2 63 x2.toNatClampNeg)) < 0 then (σ.2 63 x1.toNatClampNeg) else (σ.2 63 x2.toNatClampNeg))) < 0 then (1 : Int32) else 0)] σ) ?_ ?_
              · by_cases hc367 : (lg_cmp (if 0 < (lg_cmp (σ.2 62 x1.toNatClampNeg) (σ.2 62 x2.toNatClampNeg)) then (σ.2 62 x1.toNatClampNeg) else (σ.2 62 x2.toNatClampNeg)) (if (lg_cmp (σ.2 63 x1.toNatClampNeg) (σ.2 63 x2.toNatClampNeg)) < 0 then (σ.2 63 x1.toNatClampNeg) else (σ.2 63 x2.toNatClampNeg))) < 0
                · simp only [if_pos hc367]
                  all_goals
                    rfl
                · simp only [if_neg hc367]
                  all_goals
                    refine (e_104_94 _ _ _ _ _ _).trans ?_
                    rfl
              rfl
        rfl
  refine (e_104_95 _ _ _ _ _ _ _).trans ?_
  refine (if_pos (am_01 (Or.inl rfl) (am_01 (Or.inl rfl) (am_01 (Or.inr rfl) (Or.inl rfl))))).trans ?_
  rfl
theorem b_104 (σ : am_M) (x1 : Int32) (x2 : Int32) : v_104 σ x1 x2 = 0 ∨ v_104 σ x1 x2 = 1 := (am_01 (Or.inl rfl) (am_01 (Or.inl rfl) (am_01 (Or.inr rfl) (Or.inl rfl))))
-- 105a57: X5_axis
def p_105a57 (σ : am_M) (x1 : Int32) : Prop := (¬ (x1 < 0 ∨ 39 ≤ x1.toNatClampNeg)) ∧ (((σ.1 57 x1.toNatClampNeg) = 0) → (¬ ((x1 + 1) < 0 ∨ 39 ≤ ((x1 + 1)).toNatClampNeg)))
def v_105a57 (σ : am_M) (x1 : Int32) : Int32 := (if (σ.1 57 x1.toNatClampNeg) = 0 then ((if (σ.1 57 (((x1 + 1)).toNatClampNeg)) = 0 then (2 : Int32) else 1) : Int32) else 0)
set_option maxRecDepth 20000 in
theorem s_105a57 (L : Nat) (σ : am_M) (x1 : Int32) (h : p_105a57 σ x1) : am_r L 105 0 [some (.inr (.inr (57, none))), some (.inl x1)] [] σ = some (some (.inl (v_105a57 σ x1)), am_sh0 L, σ) := by
  unfold p_105a57 at h
  unfold v_105a57
  refine (e_105a57_0 _ _ _).trans ?_
  refine (if_neg h.1).trans ?_
  refine Eq.trans (b := am_r L 105 23 [some (.inr (.inr (57, none))), some (.inl x1)] [.inl (if (σ.1 57 x1.toNatClampNeg) = 0 then ((if (σ.1 57 (((x1 + 1)).toNatClampNeg)) = 0 then (2 : Int32) else 1) : Int32) else 0)] σ) ?_ ?_
  · by_cases hc368 : (σ.1 57 x1.toNatClampNeg) = 0
    · simp only [if_pos hc368]
      all_goals
        refine (e_105a57_10 _ _ _).trans ?_
        refine (if_neg ((h.2 hc368))).trans ?_
        refine Eq.trans (b := am_r L 105 23 [some (.inr (.inr (57, none))), some (.inl x1)] [.inl (if (σ.1 57 (((x1 + 1)).toNatClampNeg)) = 0 then (2 : Int32) else 1)] σ) ?_ ?_
        · by_cases hc369 : (σ.1 57 (((x1 + 1)).toNatClampNeg)) = 0
          · simp only [if_pos hc369]
            all_goals
              refine (e_105a57_22 _ _ _).trans ?_
              rfl
          · simp only [if_neg hc369]
            all_goals
              rfl
        rfl
    · simp only [if_neg hc368]
      all_goals
        rfl
  refine (e_105a57_23 _ _ _ _).trans ?_
  rfl
-- 105a58: X5_axis
def p_105a58 (σ : am_M) (x1 : Int32) : Prop := (¬ (x1 < 0 ∨ 39 ≤ x1.toNatClampNeg)) ∧ (((σ.1 58 x1.toNatClampNeg) = 0) → (¬ ((x1 + 1) < 0 ∨ 39 ≤ ((x1 + 1)).toNatClampNeg)))
def v_105a58 (σ : am_M) (x1 : Int32) : Int32 := (if (σ.1 58 x1.toNatClampNeg) = 0 then ((if (σ.1 58 (((x1 + 1)).toNatClampNeg)) = 0 then (2 : Int32) else 1) : Int32) else 0)
set_option maxRecDepth 20000 in
theorem s_105a58 (L : Nat) (σ : am_M) (x1 : Int32) (h : p_105a58 σ x1) : am_r L 105 0 [some (.inr (.inr (58, none))), some (.inl x1)] [] σ = some (some (.inl (v_105a58 σ x1)), am_sh0 L, σ) := by
  unfold p_105a58 at h
  unfold v_105a58
  refine (e_105a58_0 _ _ _).trans ?_
  refine (if_neg h.1).trans ?_
  refine Eq.trans (b := am_r L 105 23 [some (.inr (.inr (58, none))), some (.inl x1)] [.inl (if (σ.1 58 x1.toNatClampNeg) = 0 then ((if (σ.1 58 (((x1 + 1)).toNatClampNeg)) = 0 then (2 : Int32) else 1) : Int32) else 0)] σ) ?_ ?_
  · by_cases hc370 : (σ.1 58 x1.toNatClampNeg) = 0
    · simp only [if_pos hc370]
      all_goals
        refine (e_105a58_10 _ _ _).trans ?_
        refine (if_neg ((h.2 hc370))).trans ?_
        refine Eq.trans (b := am_r L 105 23 [some (.inr (.inr (58, none))), some (.inl x1)] [.inl (if (σ.1 58 (((x1 + 1)).toNatClampNeg)) = 0 then (2 : Int32) else 1)] σ) ?_ ?_
        · by_cases hc371 : (σ.1 58 (((x1 + 1)).toNatClampNeg)) = 0
          · simp only [if_pos hc371]
            all_goals
              refine (e_105a58_22 _ _ _).trans ?_
              rfl
          · simp only [if_neg hc371]
            all_goals
              rfl
        rfl
    · simp only [if_neg hc370]
      all_goals
        rfl
  refine (e_105a58_23 _ _ _ _).trans ?_
  rfl
-- 106: X5_bendAxis
def p_106 (σ : am_M) (x1 : Int32) : Prop := (¬ (x1 < 0 ∨ 13 ≤ x1.toNatClampNeg)) ∧ ((¬ (x1 < 0 ∨ 13 ≤ x1.toNatClampNeg)) ∧ (((((σ.1 52 x1.toNatClampNeg) - (σ.1 52 x1.toNatClampNeg) / 2 * 2) = 0) → (p_105a58 σ (3 * (σ.1 51 x1.toNatClampNeg)))) ∧ (¬ (((σ.1 52 x1.toNatClampNeg) - (σ.1 52 x1.toNatClampNeg) / 2 * 2) = 0) → (p_105a57 σ (3 * (σ.1 51 x1.toNatClampNeg))))))
def v_106 (σ : am_M) (x1 : Int32) : Int32 := (if ((σ.1 52 x1.toNatClampNeg) - (σ.1 52 x1.toNatClampNeg) / 2 * 2) = 0 then ((v_105a58 σ (3 * (σ.1 51 x1.toNatClampNeg))) : Int32) else (v_105a57 σ (3 * (σ.1 51 x1.toNatClampNeg))))
set_option maxRecDepth 20000 in
theorem s_106 (L : Nat) (σ : am_M) (x1 : Int32) (h : p_106 σ x1) : am_r L 106 0 [some (.inr (.inr (50, none))), some (.inl x1), none] [] σ = some (some (.inl (v_106 σ x1)), am_sh0 L, σ) := by
  unfold p_106 at h
  unfold v_106
  refine (e_106_0 _ _ _).trans ?_
  refine (if_neg h.1).trans ?_
  refine (if_neg h.2.1).trans ?_
  refine Eq.trans (b := am_r L 106 39 [some (.inr (.inr (50, none))), some (.inl x1), some (.inl (3 * (σ.1 51 x1.toNatClampNeg)))] [.inl (if ((σ.1 52 x1.toNatClampNeg) - (σ.1 52 x1.toNatClampNeg) / 2 * 2) = 0 then ((v_105a58 σ (3 * (σ.1 51 x1.toNatClampNeg))) : Int32) else (v_105a57 σ (3 * (σ.1 51 x1.toNatClampNeg))))] σ) ?_ ?_
  · by_cases hc372 : ((σ.1 52 x1.toNatClampNeg) - (σ.1 52 x1.toNatClampNeg) / 2 * 2) = 0
    · simp only [if_pos hc372]
      all_goals
        refine (am_bind_i (s_105a58 L σ (3 * (σ.1 51 x1.toNatClampNeg)) ((h.2.2.1 hc372)))).trans ?_
        refine (e_106_28 _ _ _ _ _).trans ?_
        rfl
    · simp only [if_neg hc372]
      all_goals
        refine (e_106_31 _ _ _ _).trans ?_
        refine (am_bind_i (s_105a57 L σ (3 * (σ.1 51 x1.toNatClampNeg)) ((h.2.2.2 hc372)))).trans ?_
        rfl
  refine (e_106_39 _ _ _ _ _).trans ?_
  rfl
-- 107: X5_areBeside
def p_107 (σ : am_M) (x1 : Int32) (x2 : Int32) (x3 : Int32) : Prop := (¬ (((6 * x1) + x3) < 0 ∨ 78 ≤ (((6 * x1) + x3)).toNatClampNeg)) ∧ ((¬ ((((6 * x1) + 3) + x3) < 0 ∨ 78 ≤ ((((6 * x1) + 3) + x3)).toNatClampNeg)) ∧ ((¬ (((6 * x2) + x3) < 0 ∨ 78 ≤ (((6 * x2) + x3)).toNatClampNeg)) ∧ (¬ ((((6 * x2) + 3) + x3) < 0 ∨ 78 ≤ ((((6 * x2) + 3) + x3)).toNatClampNeg))))
def v_107 (σ : am_M) (x1 : Int32) (x2 : Int32) (x3 : Int32) : Int32 := (if (σ.1 60 ((((6 * x1) + x3)).toNatClampNeg)) = (σ.1 60 (((((6 * x1) + 3) + x3)).toNatClampNeg)) then (if (σ.1 60 ((((6 * x1) + x3)).toNatClampNeg)) = (σ.1 60 (((((6 * x1) + 3) + x3)).toNatClampNeg)) then ((if (σ.1 60 ((((6 * x2) + x3)).toNatClampNeg)) = (σ.1 60 (((((6 * x2) + 3) + x3)).toNatClampNeg)) then ((if (σ.1 60 ((((6 * x1) + x3)).toNatClampNeg)) = (σ.1 60 ((((6 * x2) + x3)).toNatClampNeg)) then (1 : Int32) else 0) : Int32) else (if (σ.1 60 ((((6 * x1) + x3)).toNatClampNeg)) = (σ.1 60 (((((6 * x1) + 3) + x3)).toNatClampNeg)) then ((if (σ.1 60 ((((6 * x2) + x3)).toNatClampNeg)) < (σ.1 60 ((((6 * x1) + x3)).toNatClampNeg)) then ((if (σ.1 60 ((((6 * x1) + x3)).toNatClampNeg)) < (σ.1 60 (((((6 * x2) + 3) + x3)).toNatClampNeg)) then (1 : Int32) else 0) : Int32) else 0) : Int32) else (if (σ.1 60 ((((6 * x1) + x3)).toNatClampNeg)) < (σ.1 60 ((((6 * x2) + x3)).toNatClampNeg)) then ((if (σ.1 60 ((((6 * x2) + x3)).toNatClampNeg)) < (σ.1 60 (((((6 * x1) + 3) + x3)).toNatClampNeg)) then (1 : Int32) else 0) : Int32) else 0))) : Int32) else (if (σ.1 60 ((((6 * x1) + x3)).toNatClampNeg)) = (σ.1 60 (((((6 * x1) + 3) + x3)).toNatClampNeg)) then ((if (σ.1 60 ((((6 * x2) + x3)).toNatClampNeg)) < (σ.1 60 ((((6 * x1) + x3)).toNatClampNeg)) then ((if (σ.1 60 ((((6 * x1) + x3)).toNatClampNeg)) < (σ.1 60 (((((6 * x2) + 3) + x3)).toNatClampNeg)) then (1 : Int32) else 0) : Int32) else 0) : Int32) else (if (σ.1 60 ((((6 * x1) + x3)).toNatClampNeg)) < (σ.1 60 ((((6 * x2) + x3)).toNatClampNeg)) then ((if (σ.1 60 ((((6 * x2) + x3)).toNatClampNeg)) < (σ.1 60 (((((6 * x1) + 3) + x3)).toNatClampNeg)) then (1 : Int32) else 0) : Int32) else 0))) else (if (σ.1 60 ((((6 * x2) + x3)).toNatClampNeg)) = (σ.1 60 (((((6 * x2) + 3) + x3)).toNatClampNeg)) then (if (σ.1 60 ((((6 * x1) + x3)).toNatClampNeg)) = (σ.1 60 (((((6 * x1) + 3) + x3)).toNatClampNeg)) then ((if (σ.1 60 ((((6 * x2) + x3)).toNatClampNeg)) = (σ.1 60 (((((6 * x2) + 3) + x3)).toNatClampNeg)) then ((if (σ.1 60 ((((6 * x1) + x3)).toNatClampNeg)) = (σ.1 60 ((((6 * x2) + x3)).toNatClampNeg)) then (1 : Int32) else 0) : Int32) else (if (σ.1 60 ((((6 * x1) + x3)).toNatClampNeg)) = (σ.1 60 (((((6 * x1) + 3) + x3)).toNatClampNeg)) then ((if (σ.1 60 ((((6 * x2) + x3)).toNatClampNeg)) < (σ.1 60 ((((6 * x1) + x3)).toNatClampNeg)) then ((if (σ.1 60 ((((6 * x1) + x3)).toNatClampNeg)) < (σ.1 60 (((((6 * x2) + 3) + x3)).toNatClampNeg)) then (1 : Int32) else 0) : Int32) else 0) : Int32) else (if (σ.1 60 ((((6 * x1) + x3)).toNatClampNeg)) < (σ.1 60 ((((6 * x2) + x3)).toNatClampNeg)) then ((if (σ.1 60 ((((6 * x2) + x3)).toNatClampNeg)) < (σ.1 60 (((((6 * x1) + 3) + x3)).toNatClampNeg)) then (1 : Int32) else 0) : Int32) else 0))) : Int32) else (if (σ.1 60 ((((6 * x1) + x3)).toNatClampNeg)) = (σ.1 60 (((((6 * x1) + 3) + x3)).toNatClampNeg)) then ((if (σ.1 60 ((((6 * x2) + x3)).toNatClampNeg)) < (σ.1 60 ((((6 * x1) + x3)).toNatClampNeg)) then ((if (σ.1 60 ((((6 * x1) + x3)).toNatClampNeg)) < (σ.1 60 (((((6 * x2) + 3) + x3)).toNatClampNeg)) then (1 : Int32) else 0) : Int32) else 0) : Int32) else (if (σ.1 60 ((((6 * x1) + x3)).toNatClampNeg)) < (σ.1 60 ((((6 * x2) + x3)).toNatClampNeg)) then ((if (σ.1 60 ((((6 * x2) + x3)).toNatClampNeg)) < (σ.1 60 (((((6 * x1) + 3) + x3)).toNatClampNeg)) then (1 : Int32) else 0) : Int32) else 0))) else (if (σ.1 60 ((((6 * x1) + x3)).toNatClampNeg)) < (σ.1 60 (((((6 * x2) + 3) + x3)).toNatClampNeg)) then ((if (σ.1 60 ((((6 * x2) + x3)).toNatClampNeg)) < (σ.1 60 (((((6 * x1) + 3) + x3)).toNatClampNeg)) then (1 : Int32) else 0) : Int32) else 0)))
set_option maxRecDepth 20000 in
theorem s_107 (L : Nat) (σ : am_M) (x1 : Int32) (x2 : Int32) (x3 : Int32) (h : p_107 σ x1 x2 x3) : am_r L 107 0 [some (.inr (.inr (50, none))), some (.inl x1), some (.inl x2), some (.inl x3), none, none, none, none] [] σ = some (some (.inl (v_107 σ x1 x2 x3)), am_sh0 L, σ) := by
  unfold p_107 at h
  unfold v_107
  refine (e_107_0 _ _ _ _ _).trans ?_
  refine (if_neg h.1).trans ?_
  refine (if_neg h.2.1).trans ?_
  refine (e_107_29 _ _ _ _ _ _ _).trans ?_
  refine (if_neg h.2.2.1).trans ?_
  refine (if_neg h.2.2.2).trans ?_
  refine (e_107_60 _ _ _ _ _ _ _ _ _ _ _).trans ?_
  by_cases hc373 : (σ.1 60 ((((6 * x1) + x3)).toNatClampNeg)) = (σ.1 60 (((((6 * x1) + 3) + x3)).toNatClampNeg))
  · simp only [if_pos hc373]
    all_goals
      refine (e_107_70 _ _ _ _ _ _ _ _ _).trans ?_
      refine Eq.trans (b := am_r L 107 147 [some (.inr (.inr (50, none))), some (.inl x1), some (.inl x2), some (.inl x3), some (.inl (σ.1 60 ((((6 * x1) + x3)).toNatClampNeg))), some (.inl (σ.1 60 (((((6 * x1) + 3) + x3)).toNatClampNeg))), some (.inl (σ.1 60 ((((6 * x2) + x3)).toNatClampNeg))), some (.inl (σ.1 60 (((((6 * x2) + 3) + x3)).toNatClampNeg)))] [.inl (if (σ.1 60 ((((6 * x1) + x3)).toNatClampNeg)) = (σ.1 60 (((((6 * x1) + 3) + x3)).toNatClampNeg)) then ((if (σ.1 60 ((((6 * x2) + x3)).toNatClampNeg)) = (σ.1 60 (((((6 * x2) + 3) + x3)).toNatClampNeg)) then ((if (σ.1 60 ((((6 * x1) + x3)).toNatClampNeg)) = (σ.1 60 ((((6 * x2) + x3)).toNatClampNeg)) then (1 : Int32) else 0) : Int32) else (if (σ.1 60 ((((6 * x1) + x3)).toNatClampNeg)) = (σ.1 60 (((((6 * x1) + 3) + x3)).toNatClampNeg)) then ((if (σ.1 60 ((((6 * x2) + x3)).toNatClampNeg)) < (σ.1 60 ((((6 * x1) + x3)).toNatClampNeg)) then ((if (σ.1 60 ((((6 * x1) + x3)).toNatClampNeg)) < (σ.1 60 (((((6 * x2) + 3) + x3)).toNatClampNeg)) then (1 : Int32) else 0) : Int32) else 0) : Int32) else (if (σ.1 60 ((((6 * x1) + x3)).toNatClampNeg)) < (σ.1 60 ((((6 * x2) + x3)).toNatClampNeg)) then ((if (σ.1 60 ((((6 * x2) + x3)).toNatClampNeg)) < (σ.1 60 (((((6 * x1) + 3) + x3)).toNatClampNeg)) then (1 : Int32) else 0) : Int32) else 0))) : Int32) else (if (σ.1 60 ((((6 * x1) + x3)).toNatClampNeg)) = (σ.1 60 (((((6 * x1) + 3) + x3)).toNatClampNeg)) then ((if (σ.1 60 ((((6 * x2) + x3)).toNatClampNeg)) < (σ.1 60 ((((6 * x1) + x3)).toNatClampNeg)) then ((if (σ.1 60 ((((6 * x1) + x3)).toNatClampNeg)) < (σ.1 60 (((((6 * x2) + 3) + x3)).toNatClampNeg)) then (1 : Int32) else 0) : Int32) else 0) : Int32) else (if (σ.1 60 ((((6 * x1) + x3)).toNatClampNeg)) < (σ.1 60 ((((6 * x2) + x3)).toNatClampNeg)) then ((if (σ.1 60 ((((6 * x2) + x3)).toNatClampNeg)) < (σ.1 60 (((((6 * x1) + 3) + x3)).toNatClampNeg)) then (1 : Int32) else 0) : Int32) else 0)))] σ) ?_ ?_
      · by_cases hc374 : (σ.1 60 ((((6 * x1) + x3)).toNatClampNeg)) = (σ.1 60 (((((6 * x1) + 3) + x3)).toNatClampNeg))
        · simp only [if_pos hc374]
          all_goals
            refine Eq.trans (b := am_r L 107 147 [some (.inr (.inr (50, none))), some (.inl x1), some (.inl x2), some (.inl x3), some (.inl (σ.1 60 ((((6 * x1) + x3)).toNatClampNeg))), some (.inl (σ.1 60 (((((6 * x1) + 3) + x3)).toNatClampNeg))), some (.inl (σ.1 60 ((((6 * x2) + x3)).toNatClampNeg))), some (.inl (σ.1 60 (((((6 * x2) + 3) + x3)).toNatClampNeg)))] [.inl (if (σ.1 60 ((((6 * x2) + x3)).toNatClampNeg)) = (σ.1 60 (((((6 * x2) + 3) + x3)).toNatClampNeg)) then ((if (σ.1 60 ((((6 * x1) + x3)).toNatClampNeg)) = (σ.1 60 ((((6 * x2) + x3)).toNatClampNeg)) then (1 : Int32) else 0) : Int32) else (if (σ.1 60 ((((6 * x1) + x3)).toNatClampNeg)) = (σ.1 60 (((((6 * x1) + 3) + x3)).toNatClampNeg)) then ((if (σ.1 60 ((((6 * x2) + x3)).toNatClampNeg)) < (σ.1 60 ((((6 * x1) + x3)).toNatClampNeg)) then ((if (σ.1 60 ((((6 * x1) + x3)).toNatClampNeg)) < (σ.1 60 (((((6 * x2) + 3) + x3)).toNatClampNeg)) then (1 : Int32) else 0) : Int32) else 0) : Int32) else (if (σ.1 60 ((((6 * x1) + x3)).toNatClampNeg)) < (σ.1 60 ((((6 * x2) + x3)).toNatClampNeg)) then ((if (σ.1 60 ((((6 * x2) + x3)).toNatClampNeg)) < (σ.1 60 (((((6 * x1) + 3) + x3)).toNatClampNeg)) then (1 : Int32) else 0) : Int32) else 0)))] σ) ?_ ?_
            · by_cases hc375 : (σ.1 60 ((((6 * x2) + x3)).toNatClampNeg)) = (σ.1 60 (((((6 * x2) + 3) + x3)).toNatClampNeg))
              · simp only [if_pos hc375]
                all_goals
                  refine Eq.trans (b := am_r L 107 147 [some (.inr (.inr (50, none))), some (.inl x1), some (.inl x2), some (.inl x3), some (.inl (σ.1 60 ((((6 * x1) + x3)).toNatClampNeg))), some (.inl (σ.1 60 (((((6 * x1) + 3) + x3)).toNatClampNeg))), some (.inl (σ.1 60 ((((6 * x2) + x3)).toNatClampNeg))), some (.inl (σ.1 60 (((((6 * x2) + 3) + x3)).toNatClampNeg)))] [.inl (if (σ.1 60 ((((6 * x1) + x3)).toNatClampNeg)) = (σ.1 60 ((((6 * x2) + x3)).toNatClampNeg)) then (1 : Int32) else 0)] σ) ?_ ?_
                  · by_cases hc376 : (σ.1 60 ((((6 * x1) + x3)).toNatClampNeg)) = (σ.1 60 ((((6 * x2) + x3)).toNatClampNeg))
                    · simp only [if_pos hc376]
                      all_goals
                        rfl
                    · simp only [if_neg hc376]
                      all_goals
                        refine (e_107_95 _ _ _ _ _ _ _ _ _).trans ?_
                        rfl
                  rfl
              · simp only [if_neg hc375]
                all_goals
                  refine (e_107_99 _ _ _ _ _ _ _ _ _).trans ?_
                  refine Eq.trans (b := am_r L 107 147 [some (.inr (.inr (50, none))), some (.inl x1), some (.inl x2), some (.inl x3), some (.inl (σ.1 60 ((((6 * x1) + x3)).toNatClampNeg))), some (.inl (σ.1 60 (((((6 * x1) + 3) + x3)).toNatClampNeg))), some (.inl (σ.1 60 ((((6 * x2) + x3)).toNatClampNeg))), some (.inl (σ.1 60 (((((6 * x2) + 3) + x3)).toNatClampNeg)))] [.inl (if (σ.1 60 ((((6 * x1) + x3)).toNatClampNeg)) = (σ.1 60 (((((6 * x1) + 3) + x3)).toNatClampNeg)) then ((if (σ.1 60 ((((6 * x2) + x3)).toNatClampNeg)) < (σ.1 60 ((((6 * x1) + x3)).toNatClampNeg)) then ((if (σ.1 60 ((((6 * x1) + x3)).toNatClampNeg)) < (σ.1 60 (((((6 * x2) + 3) + x3)).toNatClampNeg)) then (1 : Int32) else 0) : Int32) else 0) : Int32) else (if (σ.1 60 ((((6 * x1) + x3)).toNatClampNeg)) < (σ.1 60 ((((6 * x2) + x3)).toNatClampNeg)) then ((if (σ.1 60 ((((6 * x2) + x3)).toNatClampNeg)) < (σ.1 60 (((((6 * x1) + 3) + x3)).toNatClampNeg)) then (1 : Int32) else 0) : Int32) else 0))] σ) ?_ ?_
                  · by_cases hc377 : (σ.1 60 ((((6 * x1) + x3)).toNatClampNeg)) = (σ.1 60 (((((6 * x1) + 3) + x3)).toNatClampNeg))
                    · simp only [if_pos hc377]
                      all_goals
                        refine Eq.trans (b := am_r L 107 147 [some (.inr (.inr (50, none))), some (.inl x1), some (.inl x2), some (.inl x3), some (.inl (σ.1 60 ((((6 * x1) + x3)).toNatClampNeg))), some (.inl (σ.1 60 (((((6 * x1) + 3) + x3)).toNatClampNeg))), some (.inl (σ.1 60 ((((6 * x2) + x3)).toNatClampNeg))), some (.inl (σ.1 60 (((((6 * x2) + 3) + x3)).toNatClampNeg)))] [.inl (if (σ.1 60 ((((6 * x2) + x3)).toNatClampNeg)) < (σ.1 60 ((((6 * x1) + x3)).toNatClampNeg)) then ((if (σ.1 60 ((((6 * x1) + x3)).toNatClampNeg)) < (σ.1 60 (((((6 * x2) + 3) + x3)).toNatClampNeg)) then (1 : Int32) else 0) : Int32) else 0)] σ) ?_ ?_
                        · by_cases hc378 : (σ.1 60 ((((6 * x2) + x3)).toNatClampNeg)) < (σ.1 60 ((((6 * x1) + x3)).toNatClampNeg))
                          · simp only [if_pos hc378]
                            all_goals
                              refine Eq.trans (b := am_r L 107 147 [some (.inr (.inr (50, none))), some (.inl x1), some (.inl x2), some (.inl x3), some (.inl (σ.1 60 ((((6 * x1) + x3)).toNatClampNeg))), some (.inl (σ.1 60 (((((6 * x1) + 3) + x3)).toNatClampNeg))), some (.inl (σ.1 60 ((((6 * x2) + x3)).toNatClampNeg))), some (.inl (σ.1 60 (((((6 * x2) + 3) + x3)).toNatClampNeg)))] [.inl (if (σ.1 60 ((((6 * x1) + x3)).toNatClampNeg)) < (σ.1 60 (((((6 * x2) + 3) + x3)).toNatClampNeg)) then (1 : Int32) else 0)] σ) ?_ ?_
                              · by_cases hc379 : (σ.1 60 ((((6 * x1) + x3)).toNatClampNeg)) < (σ.1 60 (((((6 * x2) + 3) + x3)).toNatClampNeg))
                                · simp only [if_pos hc379]
                                  all_goals
                                    rfl
                                · simp only [if_neg hc379]
                                  all_goals
                                    refine (e_107_124 _ _ _ _ _ _ _ _ _).trans ?_
                                    rfl
                              rfl
                          · simp only [if_neg hc378]
                            all_goals
                              refine (e_107_124 _ _ _ _ _ _ _ _ _).trans ?_
                              rfl
                        rfl
                    · simp only [if_neg hc377]
                      all_goals
                        refine (e_107_128 _ _ _ _ _ _ _ _ _).trans ?_
                        refine Eq.trans (b := am_r L 107 147 [some (.inr (.inr (50, none))), some (.inl x1), some (.inl x2), some (.inl x3), some (.inl (σ.1 60 ((((6 * x1) + x3)).toNatClampNeg))), some (.inl (σ.1 60 (((((6 * x1) + 3) + x3)).toNatClampNeg))), some (.inl (σ.1 60 ((((6 * x2) + x3)).toNatClampNeg))), some (.inl (σ.1 60 (((((6 * x2) + 3) + x3)).toNatClampNeg)))] [.inl (if (σ.1 60 ((((6 * x1) + x3)).toNatClampNeg)) < (σ.1 60 ((((6 * x2) + x3)).toNatClampNeg)) then ((if (σ.1 60 ((((6 * x2) + x3)).toNatClampNeg)) < (σ.1 60 (((((6 * x1) + 3) + x3)).toNatClampNeg)) then (1 : Int32) else 0) : Int32) else 0)] σ) ?_ ?_
                        · by_cases hc380 : (σ.1 60 ((((6 * x1) + x3)).toNatClampNeg)) < (σ.1 60 ((((6 * x2) + x3)).toNatClampNeg))
                          · simp only [if_pos hc380]
                            all_goals
                              refine Eq.trans (b := am_r L 107 147 [some (.inr (.inr (50, none))), some (.inl x1), some (.inl x2), some (.inl x3), some (.inl (σ.1 60 ((((6 * x1) + x3)).toNatClampNeg))), some (.inl (σ.1 60 (((((6 * x1) + 3) + x3)).toNatClampNeg))), some (.inl (σ.1 60 ((((6 * x2) + x3)).toNatClampNeg))), some (.inl (σ.1 60 (((((6 * x2) + 3) + x3)).toNatClampNeg)))] [.inl (if (σ.1 60 ((((6 * x2) + x3)).toNatClampNeg)) < (σ.1 60 (((((6 * x1) + 3) + x3)).toNatClampNeg)) then (1 : Int32) else 0)] σ) ?_ ?_
                              · by_cases hc381 : (σ.1 60 ((((6 * x2) + x3)).toNatClampNeg)) < (σ.1 60 (((((6 * x1) + 3) + x3)).toNatClampNeg))
                                · simp only [if_pos hc381]
                                  all_goals
                                    rfl
                                · simp only [if_neg hc381]
                                  all_goals
                                    refine (e_107_146 _ _ _ _ _ _ _ _ _).trans ?_
                                    rfl
                              rfl
                          · simp only [if_neg hc380]
                            all_goals
                              refine (e_107_146 _ _ _ _ _ _ _ _ _).trans ?_
                              rfl
                        rfl
                  rfl
            rfl
        · simp only [if_neg hc374]
          all_goals
            refine (e_107_99 _ _ _ _ _ _ _ _ _).trans ?_
            refine Eq.trans (b := am_r L 107 147 [some (.inr (.inr (50, none))), some (.inl x1), some (.inl x2), some (.inl x3), some (.inl (σ.1 60 ((((6 * x1) + x3)).toNatClampNeg))), some (.inl (σ.1 60 (((((6 * x1) + 3) + x3)).toNatClampNeg))), some (.inl (σ.1 60 ((((6 * x2) + x3)).toNatClampNeg))), some (.inl (σ.1 60 (((((6 * x2) + 3) + x3)).toNatClampNeg)))] [.inl (if (σ.1 60 ((((6 * x1) + x3)).toNatClampNeg)) = (σ.1 60 (((((6 * x1) + 3) + x3)).toNatClampNeg)) then ((if (σ.1 60 ((((6 * x2) + x3)).toNatClampNeg)) < (σ.1 60 ((((6 * x1) + x3)).toNatClampNeg)) then ((if (σ.1 60 ((((6 * x1) + x3)).toNatClampNeg)) < (σ.1 60 (((((6 * x2) + 3) + x3)).toNatClampNeg)) then (1 : Int32) else 0) : Int32) else 0) : Int32) else (if (σ.1 60 ((((6 * x1) + x3)).toNatClampNeg)) < (σ.1 60 ((((6 * x2) + x3)).toNatClampNeg)) then ((if (σ.1 60 ((((6 * x2) + x3)).toNatClampNeg)) < (σ.1 60 (((((6 * x1) + 3) + x3)).toNatClampNeg)) then (1 : Int32) else 0) : Int32) else 0))] σ) ?_ ?_
            · by_cases hc382 : (σ.1 60 ((((6 * x1) + x3)).toNatClampNeg)) = (σ.1 60 (((((6 * x1) + 3) + x3)).toNatClampNeg))
              · simp only [if_pos hc382]
                all_goals
                  refine Eq.trans (b := am_r L 107 147 [some (.inr (.inr (50, none))), some (.inl x1), some (.inl x2), some (.inl x3), some (.inl (σ.1 60 ((((6 * x1) + x3)).toNatClampNeg))), some (.inl (σ.1 60 (((((6 * x1) + 3) + x3)).toNatClampNeg))), some (.inl (σ.1 60 ((((6 * x2) + x3)).toNatClampNeg))), some (.inl (σ.1 60 (((((6 * x2) + 3) + x3)).toNatClampNeg)))] [.inl (if (σ.1 60 ((((6 * x2) + x3)).toNatClampNeg)) < (σ.1 60 ((((6 * x1) + x3)).toNatClampNeg)) then ((if (σ.1 60 ((((6 * x1) + x3)).toNatClampNeg)) < (σ.1 60 (((((6 * x2) + 3) + x3)).toNatClampNeg)) then (1 : Int32) else 0) : Int32) else 0)] σ) ?_ ?_
                  · by_cases hc383 : (σ.1 60 ((((6 * x2) + x3)).toNatClampNeg)) < (σ.1 60 ((((6 * x1) + x3)).toNatClampNeg))
                    · simp only [if_pos hc383]
                      all_goals
                        refine Eq.trans (b := am_r L 107 147 [some (.inr (.inr (50, none))), some (.inl x1), some (.inl x2), some (.inl x3), some (.inl (σ.1 60 ((((6 * x1) + x3)).toNatClampNeg))), some (.inl (σ.1 60 (((((6 * x1) + 3) + x3)).toNatClampNeg))), some (.inl (σ.1 60 ((((6 * x2) + x3)).toNatClampNeg))), some (.inl (σ.1 60 (((((6 * x2) + 3) + x3)).toNatClampNeg)))] [.inl (if (σ.1 60 ((((6 * x1) + x3)).toNatClampNeg)) < (σ.1 60 (((((6 * x2) + 3) + x3)).toNatClampNeg)) then (1 : Int32) else 0)] σ) ?_ ?_
                        · by_cases hc384 : (σ.1 60 ((((6 * x1) + x3)).toNatClampNeg)) < (σ.1 60 (((((6 * x2) + 3) + x3)).toNatClampNeg))
                          · simp only [if_pos hc384]
                            all_goals
                              rfl
                          · simp only [if_neg hc384]
                            all_goals
                              refine (e_107_124 _ _ _ _ _ _ _ _ _).trans ?_
                              rfl
                        rfl
                    · simp only [if_neg hc383]
                      all_goals
                        refine (e_107_124 _ _ _ _ _ _ _ _ _).trans ?_
                        rfl
                  rfl
              · simp only [if_neg hc382]
                all_goals
                  refine (e_107_128 _ _ _ _ _ _ _ _ _).trans ?_
                  refine Eq.trans (b := am_r L 107 147 [some (.inr (.inr (50, none))), some (.inl x1), some (.inl x2), some (.inl x3), some (.inl (σ.1 60 ((((6 * x1) + x3)).toNatClampNeg))), some (.inl (σ.1 60 (((((6 * x1) + 3) + x3)).toNatClampNeg))), some (.inl (σ.1 60 ((((6 * x2) + x3)).toNatClampNeg))), some (.inl (σ.1 60 (((((6 * x2) + 3) + x3)).toNatClampNeg)))] [.inl (if (σ.1 60 ((((6 * x1) + x3)).toNatClampNeg)) < (σ.1 60 ((((6 * x2) + x3)).toNatClampNeg)) then ((if (σ.1 60 ((((6 * x2) + x3)).toNatClampNeg)) < (σ.1 60 (((((6 * x1) + 3) + x3)).toNatClampNeg)) then (1 : Int32) else 0) : Int32) else 0)] σ) ?_ ?_
                  · by_cases hc385 : (σ.1 60 ((((6 * x1) + x3)).toNatClampNeg)) < (σ.1 60 ((((6 * x2) + x3)).toNatClampNeg))
                    · simp only [if_pos hc385]
                      all_goals
                        refine Eq.trans (b := am_r L 107 147 [some (.inr (.inr (50, none))), some (.inl x1), some (.inl x2), some (.inl x3), some (.inl (σ.1 60 ((((6 * x1) + x3)).toNatClampNeg))), some (.inl (σ.1 60 (((((6 * x1) + 3) + x3)).toNatClampNeg))), some (.inl (σ.1 60 ((((6 * x2) + x3)).toNatClampNeg))), some (.inl (σ.1 60 (((((6 * x2) + 3) + x3)).toNatClampNeg)))] [.inl (if (σ.1 60 ((((6 * x2) + x3)).toNatClampNeg)) < (σ.1 60 (((((6 * x1) + 3) + x3)).toNatClampNeg)) then (1 : Int32) else 0)] σ) ?_ ?_
                        · by_cases hc386 : (σ.1 60 ((((6 * x2) + x3)).toNatClampNeg)) < (σ.1 60 (((((6 * x1) + 3) + x3)).toNatClampNeg))
                          · simp only [if_pos hc386]
                            all_goals
                              rfl
                          · simp only [if_neg hc386]
                            all_goals
                              refine (e_107_146 _ _ _ _ _ _ _ _ _).trans ?_
                              rfl
                        rfl
                    · simp only [if_neg hc385]
                      all_goals
                        refine (e_107_146 _ _ _ _ _ _ _ _ _).trans ?_
                        rfl
                  rfl
            rfl
      refine (e_107_147 _ _ _ _ _ _ _ _ _ _).trans ?_
      refine (if_pos (am_01 (am_01 (am_01 (Or.inr rfl) (Or.inl rfl)) (am_01 (am_01 (am_01 (Or.inr rfl) (Or.inl rfl)) (Or.inl rfl)) (am_01 (am_01 (Or.inr rfl) (Or.inl rfl)) (Or.inl rfl)))) (am_01 (am_01 (am_01 (Or.inr rfl) (Or.inl rfl)) (Or.inl rfl)) (am_01 (am_01 (Or.inr rfl) (Or.inl rfl)) (Or.inl rfl))))).trans ?_
      rfl
  · simp only [if_neg hc373]
    all_goals
      by_cases hc387 : (σ.1 60 ((((6 * x2) + x3)).toNatClampNeg)) = (σ.1 60 (((((6 * x2) + 3) + x3)).toNatClampNeg))
      · simp only [if_pos hc387]
        all_goals
          refine (e_107_70 _ _ _ _ _ _ _ _ _).trans ?_
          refine Eq.trans (b := am_r L 107 147 [some (.inr (.inr (50, none))), some (.inl x1), some (.inl x2), some (.inl x3), some (.inl (σ.1 60 ((((6 * x1) + x3)).toNatClampNeg))), some (.inl (σ.1 60 (((((6 * x1) + 3) + x3)).toNatClampNeg))), some (.inl (σ.1 60 ((((6 * x2) + x3)).toNatClampNeg))), some (.inl (σ.1 60 (((((6 * x2) + 3) + x3)).toNatClampNeg)))] [.inl (if (σ.1 60 ((((6 * x1) + x3)).toNatClampNeg)) = (σ.1 60 (((((6 * x1) + 3) + x3)).toNatClampNeg)) then ((if (σ.1 60 ((((6 * x2) + x3)).toNatClampNeg)) = (σ.1 60 (((((6 * x2) + 3) + x3)).toNatClampNeg)) then ((if (σ.1 60 ((((6 * x1) + x3)).toNatClampNeg)) = (σ.1 60 ((((6 * x2) + x3)).toNatClampNeg)) then (1 : Int32) else 0) : Int32) else (if (σ.1 60 ((((6 * x1) + x3)).toNatClampNeg)) = (σ.1 60 (((((6 * x1) + 3) + x3)).toNatClampNeg)) then ((if (σ.1 60 ((((6 * x2) + x3)).toNatClampNeg)) < (σ.1 60 ((((6 * x1) + x3)).toNatClampNeg)) then ((if (σ.1 60 ((((6 * x1) + x3)).toNatClampNeg)) < (σ.1 60 (((((6 * x2) + 3) + x3)).toNatClampNeg)) then (1 : Int32) else 0) : Int32) else 0) : Int32) else (if (σ.1 60 ((((6 * x1) + x3)).toNatClampNeg)) < (σ.1 60 ((((6 * x2) + x3)).toNatClampNeg)) then ((if (σ.1 60 ((((6 * x2) + x3)).toNatClampNeg)) < (σ.1 60 (((((6 * x1) + 3) + x3)).toNatClampNeg)) then (1 : Int32) else 0) : Int32) else 0))) : Int32) else (if (σ.1 60 ((((6 * x1) + x3)).toNatClampNeg)) = (σ.1 60 (((((6 * x1) + 3) + x3)).toNatClampNeg)) then ((if (σ.1 60 ((((6 * x2) + x3)).toNatClampNeg)) < (σ.1 60 ((((6 * x1) + x3)).toNatClampNeg)) then ((if (σ.1 60 ((((6 * x1) + x3)).toNatClampNeg)) < (σ.1 60 (((((6 * x2) + 3) + x3)).toNatClampNeg)) then (1 : Int32) else 0) : Int32) else 0) : Int32) else (if (σ.1 60 ((((6 * x1) + x3)).toNatClampNeg)) < (σ.1 60 ((((6 * x2) + x3)).toNatClampNeg)) then ((if (σ.1 60 ((((6 * x2) + x3)).toNatClampNeg)) < (σ.1 60 (((((6 * x1) + 3) + x3)).toNatClampNeg)) then (1 : Int32) else 0) : Int32) else 0)))] σ) ?_ ?_
          · by_cases hc388 : (σ.1 60 ((((6 * x1) + x3)).toNatClampNeg)) = (σ.1 60 (((((6 * x1) + 3) + x3)).toNatClampNeg))
            · simp only [if_pos hc388]
              all_goals
                refine Eq.trans (b := am_r L 107 147 [some (.inr (.inr (50, none))), some (.inl x1), some (.inl x2), some (.inl x3), some (.inl (σ.1 60 ((((6 * x1) + x3)).toNatClampNeg))), some (.inl (σ.1 60 (((((6 * x1) + 3) + x3)).toNatClampNeg))), some (.inl (σ.1 60 ((((6 * x2) + x3)).toNatClampNeg))), some (.inl (σ.1 60 (((((6 * x2) + 3) + x3)).toNatClampNeg)))] [.inl (if (σ.1 60 ((((6 * x2) + x3)).toNatClampNeg)) = (σ.1 60 (((((6 * x2) + 3) + x3)).toNatClampNeg)) then ((if (σ.1 60 ((((6 * x1) + x3)).toNatClampNeg)) = (σ.1 60 ((((6 * x2) + x3)).toNatClampNeg)) then (1 : Int32) else 0) : Int32) else (if (σ.1 60 ((((6 * x1) + x3)).toNatClampNeg)) = (σ.1 60 (((((6 * x1) + 3) + x3)).toNatClampNeg)) then ((if (σ.1 60 ((((6 * x2) + x3)).toNatClampNeg)) < (σ.1 60 ((((6 * x1) + x3)).toNatClampNeg)) then ((if (σ.1 60 ((((6 * x1) + x3)).toNatClampNeg)) < (σ.1 60 (((((6 * x2) + 3) + x3)).toNatClampNeg)) then (1 : Int32) else 0) : Int32) else 0) : Int32) else (if (σ.1 60 ((((6 * x1) + x3)).toNatClampNeg)) < (σ.1 60 ((((6 * x2) + x3)).toNatClampNeg)) then ((if (σ.1 60 ((((6 * x2) + x3)).toNatClampNeg)) < (σ.1 60 (((((6 * x1) + 3) + x3)).toNatClampNeg)) then (1 : Int32) else 0) : Int32) else 0)))] σ) ?_ ?_
                · by_cases hc389 : (σ.1 60 ((((6 * x2) + x3)).toNatClampNeg)) = (σ.1 60 (((((6 * x2) + 3) + x3)).toNatClampNeg))
                  · simp only [if_pos hc389]
                    all_goals
                      refine Eq.trans (b := am_r L 107 147 [some (.inr (.inr (50, none))), some (.inl x1), some (.inl x2), some (.inl x3), some (.inl (σ.1 60 ((((6 * x1) + x3)).toNatClampNeg))), some (.inl (σ.1 60 (((((6 * x1) + 3) + x3)).toNatClampNeg))), some (.inl (σ.1 60 ((((6 * x2) + x3)).toNatClampNeg))), some (.inl (σ.1 60 (((((6 * x2) + 3) + x3)).toNatClampNeg)))] [.inl (if (σ.1 60 ((((6 * x1) + x3)).toNatClampNeg)) = (σ.1 60 ((((6 * x2) + x3)).toNatClampNeg)) then (1 : Int32) else 0)] σ) ?_ ?_
                      · by_cases hc390 : (σ.1 60 ((((6 * x1) + x3)).toNatClampNeg)) = (σ.1 60 ((((6 * x2) + x3)).toNatClampNeg))
                        · simp only [if_pos hc390]
                          all_goals
                            rfl
                        · simp only [if_neg hc390]
                          all_goals
                            refine (e_107_95 _ _ _ _ _ _ _ _ _).trans ?_
                            rfl
                      rfl
                  · simp only [if_neg hc389]
                    all_goals
                      refine (e_107_99 _ _ _ _ _ _ _ _ _).trans ?_
                      refine Eq.trans (b := am_r L 107 147 [some (.inr (.inr (50, none))), some (.inl x1), some (.inl x2), some (.inl x3), some (.inl (σ.1 60 ((((6 * x1) + x3)).toNatClampNeg))), some (.inl (σ.1 60 (((((6 * x1) + 3) + x3)).toNatClampNeg))), some (.inl (σ.1 60 ((((6 * x2) + x3)).toNatClampNeg))), some (.inl (σ.1 60 (((((6 * x2) + 3) + x3)).toNatClampNeg)))] [.inl (if (σ.1 60 ((((6 * x1) + x3)).toNatClampNeg)) = (σ.1 60 (((((6 * x1) + 3) + x3)).toNatClampNeg)) then ((if (σ.1 60 ((((6 * x2) + x3)).toNatClampNeg)) < (σ.1 60 ((((6 * x1) + x3)).toNatClampNeg)) then ((if (σ.1 60 ((((6 * x1) + x3)).toNatClampNeg)) < (σ.1 60 (((((6 * x2) + 3) + x3)).toNatClampNeg)) then (1 : Int32) else 0) : Int32) else 0) : Int32) else (if (σ.1 60 ((((6 * x1) + x3)).toNatClampNeg)) < (σ.1 60 ((((6 * x2) + x3)).toNatClampNeg)) then ((if (σ.1 60 ((((6 * x2) + x3)).toNatClampNeg)) < (σ.1 60 (((((6 * x1) + 3) + x3)).toNatClampNeg)) then (1 : Int32) else 0) : Int32) else 0))] σ) ?_ ?_
                      · by_cases hc391 : (σ.1 60 ((((6 * x1) + x3)).toNatClampNeg)) = (σ.1 60 (((((6 * x1) + 3) + x3)).toNatClampNeg))
                        · simp only [if_pos hc391]
                          all_goals
                            refine Eq.trans (b := am_r L 107 147 [some (.inr (.inr (50, none))), some (.inl x1), some (.inl x2), some (.inl x3), some (.inl (σ.1 60 ((((6 * x1) + x3)).toNatClampNeg))), some (.inl (σ.1 60 (((((6 * x1) + 3) + x3)).toNatClampNeg))), some (.inl (σ.1 60 ((((6 * x2) + x3)).toNatClampNeg))), some (.inl (σ.1 60 (((((6 * x2) + 3) + x3)).toNatClampNeg)))] [.inl (if (σ.1 60 ((((6 * x2) + x3)).toNatClampNeg)) < (σ.1 60 ((((6 * x1) + x3)).toNatClampNeg)) then ((if (σ.1 60 ((((6 * x1) + x3)).toNatClampNeg)) < (σ.1 60 (((((6 * x2) + 3) + x3)).toNatClampNeg)) then (1 : Int32) else 0) : Int32) else 0)] σ) ?_ ?_
                            · by_cases hc392 : (σ.1 60 ((((6 * x2) + x3)).toNatClampNeg)) < (σ.1 60 ((((6 * x1) + x3)).toNatClampNeg))
                              · simp only [if_pos hc392]
                                all_goals
                                  refine Eq.trans (b := am_r L 107 147 [some (.inr (.inr (50, none))), some (.inl x1), some (.inl x2), some (.inl x3), some (.inl (σ.1 60 ((((6 * x1) + x3)).toNatClampNeg))), some (.inl (σ.1 60 (((((6 * x1) + 3) + x3)).toNatClampNeg))), some (.inl (σ.1 60 ((((6 * x2) + x3)).toNatClampNeg))), some (.inl (σ.1 60 (((((6 * x2) + 3) + x3)).toNatClampNeg)))] [.inl (if (σ.1 60 ((((6 * x1) + x3)).toNatClampNeg)) < (σ.1 60 (((((6 * x2) + 3) + x3)).toNatClampNeg)) then (1 : Int32) else 0)] σ) ?_ ?_
                                  · by_cases hc393 : (σ.1 60 ((((6 * x1) + x3)).toNatClampNeg)) < (σ.1 60 (((((6 * x2) + 3) + x3)).toNatClampNeg))
                                    · simp only [if_pos hc393]
                                      all_goals
                                        rfl
                                    · simp only [if_neg hc393]
                                      all_goals
                                        refine (e_107_124 _ _ _ _ _ _ _ _ _).trans ?_
                                        rfl
                                  rfl
                              · simp only [if_neg hc392]
                                all_goals
                                  refine (e_107_124 _ _ _ _ _ _ _ _ _).trans ?_
                                  rfl
                            rfl
                        · simp only [if_neg hc391]
                          all_goals
                            refine (e_107_128 _ _ _ _ _ _ _ _ _).trans ?_
                            refine Eq.trans (b := am_r L 107 147 [some (.inr (.inr (50, none))), some (.inl x1), some (.inl x2), some (.inl x3), some (.inl (σ.1 60 ((((6 * x1) + x3)).toNatClampNeg))), some (.inl (σ.1 60 (((((6 * x1) + 3) + x3)).toNatClampNeg))), some (.inl (σ.1 60 ((((6 * x2) + x3)).toNatClampNeg))), some (.inl (σ.1 60 (((((6 * x2) + 3) + x3)).toNatClampNeg)))] [.inl (if (σ.1 60 ((((6 * x1) + x3)).toNatClampNeg)) < (σ.1 60 ((((6 * x2) + x3)).toNatClampNeg)) then ((if (σ.1 60 ((((6 * x2) + x3)).toNatClampNeg)) < (σ.1 60 (((((6 * x1) + 3) + x3)).toNatClampNeg)) then (1 : Int32) else 0) : Int32) else 0)] σ) ?_ ?_
                            · by_cases hc394 : (σ.1 60 ((((6 * x1) + x3)).toNatClampNeg)) < (σ.1 60 ((((6 * x2) + x3)).toNatClampNeg))
                              · simp only [if_pos hc394]
                                all_goals
                                  refine Eq.trans (b := am_r L 107 147 [some (.inr (.inr (50, none))), some (.inl x1), some (.inl x2), some (.inl x3), some (.inl (σ.1 60 ((((6 * x1) + x3)).toNatClampNeg))), some (.inl (σ.1 60 (((((6 * x1) + 3) + x3)).toNatClampNeg))), some (.inl (σ.1 60 ((((6 * x2) + x3)).toNatClampNeg))), some (.inl (σ.1 60 (((((6 * x2) + 3) + x3)).toNatClampNeg)))] [.inl (if (σ.1 60 ((((6 * x2) + x3)).toNatClampNeg)) < (σ.1 60 (((((6 * x1) + 3) + x3)).toNatClampNeg)) then (1 : Int32) else 0)] σ) ?_ ?_
                                  · by_cases hc395 : (σ.1 60 ((((6 * x2) + x3)).toNatClampNeg)) < (σ.1 60 (((((6 * x1) + 3) + x3)).toNatClampNeg))
                                    · simp only [if_pos hc395]
                                      all_goals
                                        rfl
                                    · simp only [if_neg hc395]
                                      all_goals
                                        refine (e_107_146 _ _ _ _ _ _ _ _ _).trans ?_
                                        rfl
                                  rfl
                              · simp only [if_neg hc394]
                                all_goals
                                  refine (e_107_146 _ _ _ _ _ _ _ _ _).trans ?_
                                  rfl
                            rfl
                      rfl
                rfl
            · simp only [if_neg hc388]
              all_goals
                refine (e_107_99 _ _ _ _ _ _ _ _ _).trans ?_
                refine Eq.trans (b := am_r L 107 147 [some (.inr (.inr (50, none))), some (.inl x1), some (.inl x2), some (.inl x3), some (.inl (σ.1 60 ((((6 * x1) + x3)).toNatClampNeg))), some (.inl (σ.1 60 (((((6 * x1) + 3) + x3)).toNatClampNeg))), some (.inl (σ.1 60 ((((6 * x2) + x3)).toNatClampNeg))), some (.inl (σ.1 60 (((((6 * x2) + 3) + x3)).toNatClampNeg)))] [.inl (if (σ.1 60 ((((6 * x1) + x3)).toNatClampNeg)) = (σ.1 60 (((((6 * x1) + 3) + x3)).toNatClampNeg)) then ((if (σ.1 60 ((((6 * x2) + x3)).toNatClampNeg)) < (σ.1 60 ((((6 * x1) + x3)).toNatClampNeg)) then ((if (σ.1 60 ((((6 * x1) + x3)).toNatClampNeg)) < (σ.1 60 (((((6 * x2) + 3) + x3)).toNatClampNeg)) then (1 : Int32) else 0) : Int32) else 0) : Int32) else (if (σ.1 60 ((((6 * x1) + x3)).toNatClampNeg)) < (σ.1 60 ((((6 * x2) + x3)).toNatClampNeg)) then ((if (σ.1 60 ((((6 * x2) + x3)).toNatClampNeg)) < (σ.1 60 (((((6 * x1) + 3) + x3)).toNatClampNeg)) then (1 : Int32) else 0) : Int32) else 0))] σ) ?_ ?_
                · by_cases hc396 : (σ.1 60 ((((6 * x1) + x3)).toNatClampNeg)) = (σ.1 60 (((((6 * x1) + 3) + x3)).toNatClampNeg))
                  · simp only [if_pos hc396]
                    all_goals
                      refine Eq.trans (b := am_r L 107 147 [some (.inr (.inr (50, none))), some (.inl x1), some (.inl x2), some (.inl x3), some (.inl (σ.1 60 ((((6 * x1) + x3)).toNatClampNeg))), some (.inl (σ.1 60 (((((6 * x1) + 3) + x3)).toNatClampNeg))), some (.inl (σ.1 60 ((((6 * x2) + x3)).toNatClampNeg))), some (.inl (σ.1 60 (((((6 * x2) + 3) + x3)).toNatClampNeg)))] [.inl (if (σ.1 60 ((((6 * x2) + x3)).toNatClampNeg)) < (σ.1 60 ((((6 * x1) + x3)).toNatClampNeg)) then ((if (σ.1 60 ((((6 * x1) + x3)).toNatClampNeg)) < (σ.1 60 (((((6 * x2) + 3) + x3)).toNatClampNeg)) then (1 : Int32) else 0) : Int32) else 0)] σ) ?_ ?_
                      · by_cases hc397 : (σ.1 60 ((((6 * x2) + x3)).toNatClampNeg)) < (σ.1 60 ((((6 * x1) + x3)).toNatClampNeg))
                        · simp only [if_pos hc397]
                          all_goals
                            refine Eq.trans (b := am_r L 107 147 [some (.inr (.inr (50, none))), some (.inl x1), some (.inl x2), some (.inl x3), some (.inl (σ.1 60 ((((6 * x1) + x3)).toNatClampNeg))), some (.inl (σ.1 60 (((((6 * x1) + 3) + x3)).toNatClampNeg))), some (.inl (σ.1 60 ((((6 * x2) + x3)).toNatClampNeg))), some (.inl (σ.1 60 (((((6 * x2) + 3) + x3)).toNatClampNeg)))] [.inl (if (σ.1 60 ((((6 * x1) + x3)).toNatClampNeg)) < (σ.1 60 (((((6 * x2) + 3) + x3)).toNatClampNeg)) then (1 : Int32) else 0)] σ) ?_ ?_
                            · by_cases hc398 : (σ.1 60 ((((6 * x1) + x3)).toNatClampNeg)) < (σ.1 60 (((((6 * x2) + 3) + x3)).toNatClampNeg))
                              · simp only [if_pos hc398]
                                all_goals
                                  rfl
                              · simp only [if_neg hc398]
                                all_goals
                                  refine (e_107_124 _ _ _ _ _ _ _ _ _).trans ?_
                                  rfl
                            rfl
                        · simp only [if_neg hc397]
                          all_goals
                            refine (e_107_124 _ _ _ _ _ _ _ _ _).trans ?_
                            rfl
                      rfl
                  · simp only [if_neg hc396]
                    all_goals
                      refine (e_107_128 _ _ _ _ _ _ _ _ _).trans ?_
                      refine Eq.trans (b := am_r L 107 147 [some (.inr (.inr (50, none))), some (.inl x1), some (.inl x2), some (.inl x3), some (.inl (σ.1 60 ((((6 * x1) + x3)).toNatClampNeg))), some (.inl (σ.1 60 (((((6 * x1) + 3) + x3)).toNatClampNeg))), some (.inl (σ.1 60 ((((6 * x2) + x3)).toNatClampNeg))), some (.inl (σ.1 60 (((((6 * x2) + 3) + x3)).toNatClampNeg)))] [.inl (if (σ.1 60 ((((6 * x1) + x3)).toNatClampNeg)) < (σ.1 60 ((((6 * x2) + x3)).toNatClampNeg)) then ((if (σ.1 60 ((((6 * x2) + x3)).toNatClampNeg)) < (σ.1 60 (((((6 * x1) + 3) + x3)).toNatClampNeg)) then (1 : Int32) else 0) : Int32) else 0)] σ) ?_ ?_
                      · by_cases hc399 : (σ.1 60 ((((6 * x1) + x3)).toNatClampNeg)) < (σ.1 60 ((((6 * x2) + x3)).toNatClampNeg))
                        · simp only [if_pos hc399]
                          all_goals
                            refine Eq.trans (b := am_r L 107 147 [some (.inr (.inr (50, none))), some (.inl x1), some (.inl x2), some (.inl x3), some (.inl (σ.1 60 ((((6 * x1) + x3)).toNatClampNeg))), some (.inl (σ.1 60 (((((6 * x1) + 3) + x3)).toNatClampNeg))), some (.inl (σ.1 60 ((((6 * x2) + x3)).toNatClampNeg))), some (.inl (σ.1 60 (((((6 * x2) + 3) + x3)).toNatClampNeg)))] [.inl (if (σ.1 60 ((((6 * x2) + x3)).toNatClampNeg)) < (σ.1 60 (((((6 * x1) + 3) + x3)).toNatClampNeg)) then (1 : Int32) else 0)] σ) ?_ ?_
                            · by_cases hc400 : (σ.1 60 ((((6 * x2) + x3)).toNatClampNeg)) < (σ.1 60 (((((6 * x1) + 3) + x3)).toNatClampNeg))
                              · simp only [if_pos hc400]
                                all_goals
                                  rfl
                              · simp only [if_neg hc400]
                                all_goals
                                  refine (e_107_146 _ _ _ _ _ _ _ _ _).trans ?_
                                  rfl
                            rfl
                        · simp only [if_neg hc399]
                          all_goals
                            refine (e_107_146 _ _ _ _ _ _ _ _ _).trans ?_
                            rfl
                      rfl
                rfl
          refine (e_107_147 _ _ _ _ _ _ _ _ _ _).trans ?_
          refine (if_pos (am_01 (am_01 (am_01 (Or.inr rfl) (Or.inl rfl)) (am_01 (am_01 (am_01 (Or.inr rfl) (Or.inl rfl)) (Or.inl rfl)) (am_01 (am_01 (Or.inr rfl) (Or.inl rfl)) (Or.inl rfl)))) (am_01 (am_01 (am_01 (Or.inr rfl) (Or.inl rfl)) (Or.inl rfl)) (am_01 (am_01 (Or.inr rfl) (Or.inl rfl)) (Or.inl rfl))))).trans ?_
          rfl
      · simp only [if_neg hc387]
        all_goals
          refine (e_107_148 _ _ _ _ _ _ _ _ _).trans ?_
          refine Eq.trans (b := am_r L 107 167 [some (.inr (.inr (50, none))), some (.inl x1), some (.inl x2), some (.inl x3), some (.inl (σ.1 60 ((((6 * x1) + x3)).toNatClampNeg))), some (.inl (σ.1 60 (((((6 * x1) + 3) + x3)).toNatClampNeg))), some (.inl (σ.1 60 ((((6 * x2) + x3)).toNatClampNeg))), some (.inl (σ.1 60 (((((6 * x2) + 3) + x3)).toNatClampNeg)))] [.inl (if (σ.1 60 ((((6 * x1) + x3)).toNatClampNeg)) < (σ.1 60 (((((6 * x2) + 3) + x3)).toNatClampNeg)) then ((if (σ.1 60 ((((6 * x2) + x3)).toNatClampNeg)) < (σ.1 60 (((((6 * x1) + 3) + x3)).toNatClampNeg)) then (1 : Int32) else 0) : Int32) else 0)] σ) ?_ ?_
          · by_cases hc401 : (σ.1 60 ((((6 * x1) + x3)).toNatClampNeg)) < (σ.1 60 (((((6 * x2) + 3) + x3)).toNatClampNeg))
            · simp only [if_pos hc401]
              all_goals
                refine Eq.trans (b := am_r L 107 167 [some (.inr (.inr (50, none))), some (.inl x1), some (.inl x2), some (.inl x3), some (.inl (σ.1 60 ((((6 * x1) + x3)).toNatClampNeg))), some (.inl (σ.1 60 (((((6 * x1) + 3) + x3)).toNatClampNeg))), some (.inl (σ.1 60 ((((6 * x2) + x3)).toNatClampNeg))), some (.inl (σ.1 60 (((((6 * x2) + 3) + x3)).toNatClampNeg)))] [.inl (if (σ.1 60 ((((6 * x2) + x3)).toNatClampNeg)) < (σ.1 60 (((((6 * x1) + 3) + x3)).toNatClampNeg)) then (1 : Int32) else 0)] σ) ?_ ?_
                · by_cases hc402 : (σ.1 60 ((((6 * x2) + x3)).toNatClampNeg)) < (σ.1 60 (((((6 * x1) + 3) + x3)).toNatClampNeg))
                  · simp only [if_pos hc402]
                    all_goals
                      rfl
                  · simp only [if_neg hc402]
                    all_goals
                      refine (e_107_166 _ _ _ _ _ _ _ _ _).trans ?_
                      rfl
                rfl
            · simp only [if_neg hc401]
              all_goals
                refine (e_107_166 _ _ _ _ _ _ _ _ _).trans ?_
                rfl
          refine (e_107_167 _ _ _ _ _ _ _ _ _ _).trans ?_
          refine (if_pos (am_01 (am_01 (Or.inr rfl) (Or.inl rfl)) (Or.inl rfl))).trans ?_
          rfl
theorem b_107 (σ : am_M) (x1 : Int32) (x2 : Int32) (x3 : Int32) : v_107 σ x1 x2 x3 = 0 ∨ v_107 σ x1 x2 x3 = 1 := (am_01 (am_01 (am_01 (am_01 (Or.inr rfl) (Or.inl rfl)) (am_01 (am_01 (am_01 (Or.inr rfl) (Or.inl rfl)) (Or.inl rfl)) (am_01 (am_01 (Or.inr rfl) (Or.inl rfl)) (Or.inl rfl)))) (am_01 (am_01 (am_01 (Or.inr rfl) (Or.inl rfl)) (Or.inl rfl)) (am_01 (am_01 (Or.inr rfl) (Or.inl rfl)) (Or.inl rfl)))) (am_01 (am_01 (am_01 (am_01 (Or.inr rfl) (Or.inl rfl)) (am_01 (am_01 (am_01 (Or.inr rfl) (Or.inl rfl)) (Or.inl rfl)) (am_01 (am_01 (Or.inr rfl) (Or.inl rfl)) (Or.inl rfl)))) (am_01 (am_01 (am_01 (Or.inr rfl) (Or.inl rfl)) (Or.inl rfl)) (am_01 (am_01 (Or.inr rfl) (Or.inl rfl)) (Or.inl rfl)))) (am_01 (am_01 (Or.inr rfl) (Or.inl rfl)) (Or.inl rfl))))
-- 108: X5_sweeps
def l_108_36 : Nat → am_M → Int32 → Int32 → Int32 → Int32 → Int32 → Int32 → Int32 × am_M
  | 0, σ, x1, x2, x3, x4, x5, x6 => (0, σ)
  | n + 1, σ, x1, x2, x3, x4, x5, x6 => (if x6 < 4 then (l_108_36 n σ x1 x2 x3 x4 (if x5 = 0 then ((if (v_104 σ x6 (4 + x6)) = 0 then ((if (v_104 σ x6 (4 + ((x6 + x4) - (x6 + x4) / 4 * 4))) = 0 then (0 : Int32) else 1) : Int32) else 1) : Int32) else 1) (x6 + 1)) else (x5, σ))
def q_108_36 : Nat → am_M → Int32 → Int32 → Int32 → Int32 → Int32 → Int32 → Prop
  | 0, _, _, _, _, _, _, _ => False
  | n + 1, σ, x1, x2, x3, x4, x5, x6 => ((x6 < 4) → (((x5 = 0) → ((p_104 σ x6 (4 + x6)) ∧ (((v_104 σ x6 (4 + x6)) = 0) → (p_104 σ x6 (4 + ((x6 + x4) - (x6 + x4) / 4 * 4)))))) ∧ (q_108_36 n σ x1 x2 x3 x4 (if x5 = 0 then ((if (v_104 σ x6 (4 + x6)) = 0 then ((if (v_104 σ x6 (4 + ((x6 + x4) - (x6 + x4) / 4 * 4))) = 0 then (0 : Int32) else 1) : Int32) else 1) : Int32) else 1) (x6 + 1)))) ∧ (¬ (x6 < 4) → ((x5 = 0 ∨ x5 = 1)))
set_option maxRecDepth 20000 in
theorem t_108_36 (L : Nat) : ∀ (n : Nat) (σ : am_M) (x1 : Int32) (x2 : Int32) (x3 : Int32) (x4 : Int32) (x5 : Int32) (x6 : Int32), q_108_36 n σ x1 x2 x3 x4 x5 x6 → am_r L 108 36 [some (.inr (.inr (50, none))), some (.inl x1), some (.inl x2), some (.inl x3), some (.inl x4), some (.inl x5), some (.inl x6)] [] σ = some (some (.inl (l_108_36 n σ x1 x2 x3 x4 x5 x6).1), am_sh0 L, (l_108_36 n σ x1 x2 x3 x4 x5 x6).2) := by
  intro n
  induction n with
  | zero => intro σ x1 x2 x3 x4 x5 x6 h; exact h.elim
  | succ n ih =>
    intro σ x1 x2 x3 x4 x5 x6 h
    unfold q_108_36 at h
    unfold l_108_36
    refine (e_108_36 _ _ _ _ _ _ _ _).trans ?_
    by_cases hc403 : x6 < 4
    · simp only [if_pos hc403]
      all_goals
        refine Eq.trans (b := am_r L 108 83 [some (.inr (.inr (50, none))), some (.inl x1), some (.inl x2), some (.inl x3), some (.inl x4), some (.inl x5), some (.inl x6)] [.inl (if x5 = 0 then ((if (v_104 σ x6 (4 + x6)) = 0 then ((if (v_104 σ x6 (4 + ((x6 + x4) - (x6 + x4) / 4 * 4))) = 0 then (0 : Int32) else 1) : Int32) else 1) : Int32) else 1)] σ) ?_ ?_
        · by_cases hc404 : x5 = 0
          · simp only [if_pos hc404]
            all_goals
              refine (am_bind_i (s_104 L σ x6 (4 + x6) (((h.1 hc403).1 hc404).1))).trans ?_
              refine (e_108_57 _ _ _ _ _ _ _ _ _).trans ?_
              refine Eq.trans (b := am_r L 108 83 [some (.inr (.inr (50, none))), some (.inl x1), some (.inl x2), some (.inl x3), some (.inl x4), some (.inl x5), some (.inl x6)] [.inl (if (v_104 σ x6 (4 + x6)) = 0 then ((if (v_104 σ x6 (4 + ((x6 + x4) - (x6 + x4) / 4 * 4))) = 0 then (0 : Int32) else 1) : Int32) else 1)] σ) ?_ ?_
              · by_cases hc405 : (v_104 σ x6 (4 + x6)) = 0
                · simp only [if_pos hc405]
                  all_goals
                    refine (am_bind_i (s_104 L σ x6 (4 + ((x6 + x4) - (x6 + x4) / 4 * 4)) ((((h.1 hc403).1 hc404).2 hc405)))).trans ?_
                    refine (e_108_75 _ _ _ _ _ _ _ _ _).trans ?_
                    refine Eq.trans (b := am_r L 108 83 [some (.inr (.inr (50, none))), some (.inl x1), some (.inl x2), some (.inl x3), some (.inl x4), some (.inl x5), some (.inl x6)] [.inl (if (v_104 σ x6 (4 + ((x6 + x4) - (x6 + x4) / 4 * 4))) = 0 then (0 : Int32) else 1)] σ) ?_ ?_
                    · by_cases hc406 : (v_104 σ x6 (4 + ((x6 + x4) - (x6 + x4) / 4 * 4))) = 0
                      · simp only [if_pos hc406]
                        all_goals
                          refine (e_108_82 _ _ _ _ _ _ _ _).trans ?_
                          rfl
                      · simp only [if_neg hc406]
                        all_goals
                          refine (e_108_78 _ _ _ _ _ _ _ _).trans ?_
                          rfl
                    rfl
                · simp only [if_neg hc405]
                  all_goals
                    refine (e_108_78 _ _ _ _ _ _ _ _).trans ?_
                    rfl
              rfl
          · simp only [if_neg hc404]
            all_goals
              refine (e_108_78 _ _ _ _ _ _ _ _).trans ?_
              rfl
        refine (e_108_83 _ _ _ _ _ _ _ _ _).trans ?_
        exact ih σ x1 x2 x3 x4 (if x5 = 0 then ((if (v_104 σ x6 (4 + x6)) = 0 then ((if (v_104 σ x6 (4 + ((x6 + x4) - (x6 + x4) / 4 * 4))) = 0 then (0 : Int32) else 1) : Int32) else 1) : Int32) else 1) (x6 + 1) ((h.1 hc403).2)
    · simp only [if_neg hc403]
      all_goals
        refine (e_108_91 _ _ _ _ _ _ _ _).trans ?_
        refine (e_108_93 _ _ _ _ _ _ _ _ _).trans ?_
        refine (if_pos ((h.2 hc403))).trans ?_
        rfl
def p_108 (σ : am_M) (x1 : Int32) (x2 : Int32) (x3 : Int32) (x4 : Int32) : Prop := (p_106 σ x1) ∧ ((p_107 σ x2 x3 (v_106 σ x1)) ∧ (¬ ((v_107 σ x2 x3 (v_106 σ x1)) = 0) → ((p_103 σ x1 x2 0) ∧ ((p_103 (w_103 σ x1 x2 0) x1 x3 4) ∧ (q_108_36 14 (w_103 (w_103 σ x1 x2 0) x1 x3 4) x1 x2 x3 x4 0 0)))))
def f_108 (σ : am_M) (x1 : Int32) (x2 : Int32) (x3 : Int32) (x4 : Int32) : Int32 × am_M := (if (v_107 σ x2 x3 (v_106 σ x1)) = 0 then (0, σ) else (l_108_36 14 (w_103 (w_103 σ x1 x2 0) x1 x3 4) x1 x2 x3 x4 0 0))
set_option maxRecDepth 20000 in
theorem sf_108 (L : Nat) (σ : am_M) (x1 : Int32) (x2 : Int32) (x3 : Int32) (x4 : Int32) (h : p_108 σ x1 x2 x3 x4) : am_r L 108 0 [some (.inr (.inr (50, none))), some (.inl x1), some (.inl x2), some (.inl x3), some (.inl x4), none, none] [] σ = some (some (.inl (f_108 σ x1 x2 x3 x4).1), am_sh0 L, (f_108 σ x1 x2 x3 x4).2) := by
  unfold p_108 at h
  unfold f_108
  refine (e_108_0 _ _ _ _ _ _).trans ?_
  refine (am_bind_i (s_106 L σ x1 h.1)).trans ?_
  refine (e_108_8 _ _ _ _ _ _ _ _ _).trans ?_
  refine (am_bind_i (s_107 L σ x2 x3 (v_106 σ x1) h.2.1)).trans ?_
  refine (e_108_11 _ _ _ _ _ _ _).trans ?_
  by_cases hc407 : (v_107 σ x2 x3 (v_106 σ x1)) = 0
  · simp only [if_pos hc407]
    all_goals
      refine (e_108_15 _ _ _ _ _ _ _).trans ?_
      rfl
  · simp only [if_neg hc407]
    all_goals
      refine (e_108_16 _ _ _ _ _ _).trans ?_
      refine (am_bind_v (s_103 L σ x1 x2 0 ((h.2.2 hc407).1))).trans ?_
      refine (e_108_23 _ _ _ _ _ _).trans ?_
      refine (am_bind_v (s_103 L (w_103 σ x1 x2 0) x1 x3 4 ((h.2.2 hc407).2.1))).trans ?_
      refine (e_108_30 _ _ _ _ _ _).trans ?_
      exact t_108_36 L 14 (w_103 (w_103 σ x1 x2 0) x1 x3 4) x1 x2 x3 x4 0 0 ((h.2.2 hc407).2.2)
def v_108 (σ : am_M) (x1 : Int32) (x2 : Int32) (x3 : Int32) (x4 : Int32) : Int32 := (f_108 σ x1 x2 x3 x4).1
def w_108 (σ : am_M) (x1 : Int32) (x2 : Int32) (x3 : Int32) (x4 : Int32) : am_M := (f_108 σ x1 x2 x3 x4).2
theorem s_108 (L : Nat) (σ : am_M) (x1 : Int32) (x2 : Int32) (x3 : Int32) (x4 : Int32) (h : p_108 σ x1 x2 x3 x4) : am_r L 108 0 [some (.inr (.inr (50, none))), some (.inl x1), some (.inl x2), some (.inl x3), some (.inl x4), none, none] [] σ = some (some (.inl (v_108 σ x1 x2 x3 x4)), am_sh0 L, w_108 σ x1 x2 x3 x4) := sf_108 L σ x1 x2 x3 x4 h
-- 109: X5_isClear
def l_109_36 (k24 : am_M → Int32 → Int32 → Int32 → Int32 → Int32 × am_M) : Nat → am_M → Int32 → Int32 → Int32 → Int32 → Int32 → Int32 × am_M
  | 0, σ, x1, x2, x3, x4, x5 => (0, σ)
  | n + 1, σ, x1, x2, x3, x4, x5 => (if x5 < (σ.1 50 1) then (if (if ((x2 >>> (x4 &&& 31)) &&& 1) = 1 then ((if ((x2 >>> (x5 &&& 31)) &&& 1) = 0 then (1 : Int32) else 0) : Int32) else 0) = 0 then (l_109_36 k24 n σ x1 x2 x3 x4 (x5 + 1)) else (if (if x4 = x1 then ((if x5 = (σ.1 51 x1.toNatClampNeg) then (1 : Int32) else (if x5 = x1 then ((if x4 = (σ.1 51 x1.toNatClampNeg) then (1 : Int32) else 0) : Int32) else 0)) : Int32) else (if x5 = x1 then ((if x4 = (σ.1 51 x1.toNatClampNeg) then (1 : Int32) else 0) : Int32) else 0)) = 0 then (if (v_108 σ x1 x4 x5 x3) = 0 then (l_109_36 k24 n (w_108 σ x1 x4 x5 x3) x1 x2 x3 x4 (x5 + 1)) else (0, (w_108 σ x1 x4 x5 x3))) else (l_109_36 k24 n σ x1 x2 x3 x4 (x5 + 1)))) else (k24 σ x1 x2 x3 (x4 + 1)))
def q_109_36 (c24 : am_M → Int32 → Int32 → Int32 → Int32 → Prop) : Nat → am_M → Int32 → Int32 → Int32 → Int32 → Int32 → Prop
  | 0, _, _, _, _, _, _ => False
  | n + 1, σ, x1, x2, x3, x4, x5 => ((x5 < (σ.1 50 1)) → ((((x4 = x1) → ((¬ (x1 < 0 ∨ 13 ≤ x1.toNatClampNeg)) ∧ (¬ (x5 = (σ.1 51 x1.toNatClampNeg)) → ((x5 = x1) → (¬ (x1 < 0 ∨ 13 ≤ x1.toNatClampNeg)))))) ∧ (¬ (x4 = x1) → ((x5 = x1) → (¬ (x1 < 0 ∨ 13 ≤ x1.toNatClampNeg))))) ∧ ((((if ((x2 >>> (x4 &&& 31)) &&& 1) = 1 then ((if ((x2 >>> (x5 &&& 31)) &&& 1) = 0 then (1 : Int32) else 0) : Int32) else 0) = 0) → (q_109_36 c24 n σ x1 x2 x3 x4 (x5 + 1))) ∧ (¬ ((if ((x2 >>> (x4 &&& 31)) &&& 1) = 1 then ((if ((x2 >>> (x5 &&& 31)) &&& 1) = 0 then (1 : Int32) else 0) : Int32) else 0) = 0) → ((((if x4 = x1 then ((if x5 = (σ.1 51 x1.toNatClampNeg) then (1 : Int32) else (if x5 = x1 then ((if x4 = (σ.1 51 x1.toNatClampNeg) then (1 : Int32) else 0) : Int32) else 0)) : Int32) else (if x5 = x1 then ((if x4 = (σ.1 51 x1.toNatClampNeg) then (1 : Int32) else 0) : Int32) else 0)) = 0) → ((p_108 σ x1 x4 x5 x3) ∧ (((v_108 σ x1 x4 x5 x3) = 0) → (q_109_36 c24 n (w_108 σ x1 x4 x5 x3) x1 x2 x3 x4 (x5 + 1))))) ∧ (¬ ((if x4 = x1 then ((if x5 = (σ.1 51 x1.toNatClampNeg) then (1 : Int32) else (if x5 = x1 then ((if x4 = (σ.1 51 x1.toNatClampNeg) then (1 : Int32) else 0) : Int32) else 0)) : Int32) else (if x5 = x1 then ((if x4 = (σ.1 51 x1.toNatClampNeg) then (1 : Int32) else 0) : Int32) else 0)) = 0) → (q_109_36 c24 n σ x1 x2 x3 x4 (x5 + 1)))))))) ∧ (¬ (x5 < (σ.1 50 1)) → (c24 σ x1 x2 x3 (x4 + 1)))
set_option maxRecDepth 20000 in
theorem t_109_36 (L : Nat) (k24 : am_M → Int32 → Int32 → Int32 → Int32 → Int32 × am_M) (c24 : am_M → Int32 → Int32 → Int32 → Int32 → Prop) (hk24 : ∀ (σ : am_M) (x1 : Int32) (x2 : Int32) (x3 : Int32) (x4 : Int32) (o5 : Option am_V) (o6 : Option am_V) (o7 : Option am_V), c24 σ x1 x2 x3 x4 → am_r L 109 24 [some (.inr (.inr (50, none))), some (.inl x1), some (.inl x2), some (.inl x3), some (.inl x4), o5, o6, o7] [] σ = some (some (.inl (k24 σ x1 x2 x3 x4).1), am_sh0 L, (k24 σ x1 x2 x3 x4).2)) : ∀ (n : Nat) (σ : am_M) (x1 : Int32) (x2 : Int32) (x3 : Int32) (x4 : Int32) (x5 : Int32) (o6 : Option am_V) (o7 : Option am_V), q_109_36 c24 n σ x1 x2 x3 x4 x5 → am_r L 109 36 [some (.inr (.inr (50, none))), some (.inl x1), some (.inl x2), some (.inl x3), some (.inl x4), some (.inl x5), o6, o7] [] σ = some (some (.inl (l_109_36 k24 n σ x1 x2 x3 x4 x5).1), am_sh0 L, (l_109_36 k24 n σ x1 x2 x3 x4 x5).2) := by
  intro n
  induction n with
  | zero => intro σ x1 x2 x3 x4 x5 o6 o7 h; exact h.elim
  | succ n ih =>
    intro σ x1 x2 x3 x4 x5 o6 o7 h
    unfold q_109_36 at h
    unfold l_109_36
    refine (e_109_36 _ _ _ _ _ _ _ _ _).trans ?_
    by_cases hc408 : x5 < (σ.1 50 1)
    · simp only [if_pos hc408]
      all_goals
        refine Eq.trans (b := am_r L 109 69 [some (.inr (.inr (50, none))), some (.inl x1), some (.inl x2), some (.inl x3), some (.inl x4), some (.inl x5), o6, o7] [.inl (if ((x2 >>> (x4 &&& 31)) &&& 1) = 1 then ((if ((x2 >>> (x5 &&& 31)) &&& 1) = 0 then (1 : Int32) else 0) : Int32) else 0)] σ) ?_ ?_
        · by_cases hc409 : ((x2 >>> (x4 &&& 31)) &&& 1) = 1
          · simp only [if_pos hc409]
            all_goals
              refine Eq.trans (b := am_r L 109 69 [some (.inr (.inr (50, none))), some (.inl x1), some (.inl x2), some (.inl x3), some (.inl x4), some (.inl x5), o6, o7] [.inl (if ((x2 >>> (x5 &&& 31)) &&& 1) = 0 then (1 : Int32) else 0)] σ) ?_ ?_
              · by_cases hc410 : ((x2 >>> (x5 &&& 31)) &&& 1) = 0
                · simp only [if_pos hc410]
                  all_goals
                    rfl
                · simp only [if_neg hc410]
                  all_goals
                    refine (e_109_68 _ _ _ _ _ _ _ _ _).trans ?_
                    rfl
              rfl
          · simp only [if_neg hc409]
            all_goals
              refine (e_109_68 _ _ _ _ _ _ _ _ _).trans ?_
              rfl
        refine (e_109_69 _ _ _ _ _ _ _ _ _ _).trans ?_
        refine Eq.trans (b := am_r L 109 110 [some (.inr (.inr (50, none))), some (.inl x1), some (.inl x2), some (.inl x3), some (.inl x4), some (.inl x5), some (.inl (if ((x2 >>> (x4 &&& 31)) &&& 1) = 1 then ((if ((x2 >>> (x5 &&& 31)) &&& 1) = 0 then (1 : Int32) else 0) : Int32) else 0)), o7] [.inl (if x4 = x1 then ((if x5 = (σ.1 51 x1.toNatClampNeg) then (1 : Int32) else (if x5 = x1 then ((if x4 = (σ.1 51 x1.toNatClampNeg) then (1 : Int32) else 0) : Int32) else 0)) : Int32) else (if x5 = x1 then ((if x4 = (σ.1 51 x1.toNatClampNeg) then (1 : Int32) else 0) : Int32) else 0))] σ) ?_ ?_
        · by_cases hc411 : x4 = x1
          · simp only [if_pos hc411]
            all_goals
              refine (if_neg (((h.1 hc408).1.1 hc411).1)).trans ?_
              refine Eq.trans (b := am_r L 109 110 [some (.inr (.inr (50, none))), some (.inl x1), some (.inl x2), some (.inl x3), some (.inl x4), some (.inl x5), some (.inl (if ((x2 >>> (x4 &&& 31)) &&& 1) = 1 then ((if ((x2 >>> (x5 &&& 31)) &&& 1) = 0 then (1 : Int32) else 0) : Int32) else 0)), o7] [.inl (if x5 = (σ.1 51 x1.toNatClampNeg) then (1 : Int32) else (if x5 = x1 then ((if x4 = (σ.1 51 x1.toNatClampNeg) then (1 : Int32) else 0) : Int32) else 0))] σ) ?_ ?_
              · by_cases hc412 : x5 = (σ.1 51 x1.toNatClampNeg)
                · simp only [if_pos hc412]
                  all_goals
                    refine (e_109_105 _ _ _ _ _ _ _ _ _).trans ?_
                    rfl
                · simp only [if_neg hc412]
                  all_goals
                    refine (e_109_88 _ _ _ _ _ _ _ _ _).trans ?_
                    refine Eq.trans (b := am_r L 109 110 [some (.inr (.inr (50, none))), some (.inl x1), some (.inl x2), some (.inl x3), some (.inl x4), some (.inl x5), some (.inl (if ((x2 >>> (x4 &&& 31)) &&& 1) = 1 then ((if ((x2 >>> (x5 &&& 31)) &&& 1) = 0 then (1 : Int32) else 0) : Int32) else 0)), o7] [.inl (if x5 = x1 then ((if x4 = (σ.1 51 x1.toNatClampNeg) then (1 : Int32) else 0) : Int32) else 0)] σ) ?_ ?_
                    · by_cases hc413 : x5 = x1
                      · simp only [if_pos hc413]
                        all_goals
                          refine (if_neg (((((h.1 hc408).1.1 hc411).2 hc412) hc413))).trans ?_
                          refine Eq.trans (b := am_r L 109 110 [some (.inr (.inr (50, none))), some (.inl x1), some (.inl x2), some (.inl x3), some (.inl x4), some (.inl x5), some (.inl (if ((x2 >>> (x4 &&& 31)) &&& 1) = 1 then ((if ((x2 >>> (x5 &&& 31)) &&& 1) = 0 then (1 : Int32) else 0) : Int32) else 0)), o7] [.inl (if x4 = (σ.1 51 x1.toNatClampNeg) then (1 : Int32) else 0)] σ) ?_ ?_
                          · by_cases hc414 : x4 = (σ.1 51 x1.toNatClampNeg)
                            · simp only [if_pos hc414]
                              all_goals
                                refine (e_109_105 _ _ _ _ _ _ _ _ _).trans ?_
                                rfl
                            · simp only [if_neg hc414]
                              all_goals
                                refine (e_109_109 _ _ _ _ _ _ _ _ _).trans ?_
                                rfl
                          rfl
                      · simp only [if_neg hc413]
                        all_goals
                          refine (e_109_109 _ _ _ _ _ _ _ _ _).trans ?_
                          rfl
                    rfl
              rfl
          · simp only [if_neg hc411]
            all_goals
              refine (e_109_88 _ _ _ _ _ _ _ _ _).trans ?_
              refine Eq.trans (b := am_r L 109 110 [some (.inr (.inr (50, none))), some (.inl x1), some (.inl x2), some (.inl x3), some (.inl x4), some (.inl x5), some (.inl (if ((x2 >>> (x4 &&& 31)) &&& 1) = 1 then ((if ((x2 >>> (x5 &&& 31)) &&& 1) = 0 then (1 : Int32) else 0) : Int32) else 0)), o7] [.inl (if x5 = x1 then ((if x4 = (σ.1 51 x1.toNatClampNeg) then (1 : Int32) else 0) : Int32) else 0)] σ) ?_ ?_
              · by_cases hc415 : x5 = x1
                · simp only [if_pos hc415]
                  all_goals
                    refine (if_neg ((((h.1 hc408).1.2 hc411) hc415))).trans ?_
                    refine Eq.trans (b := am_r L 109 110 [some (.inr (.inr (50, none))), some (.inl x1), some (.inl x2), some (.inl x3), some (.inl x4), some (.inl x5), some (.inl (if ((x2 >>> (x4 &&& 31)) &&& 1) = 1 then ((if ((x2 >>> (x5 &&& 31)) &&& 1) = 0 then (1 : Int32) else 0) : Int32) else 0)), o7] [.inl (if x4 = (σ.1 51 x1.toNatClampNeg) then (1 : Int32) else 0)] σ) ?_ ?_
                    · by_cases hc416 : x4 = (σ.1 51 x1.toNatClampNeg)
                      · simp only [if_pos hc416]
                        all_goals
                          refine (e_109_105 _ _ _ _ _ _ _ _ _).trans ?_
                          rfl
                      · simp only [if_neg hc416]
                        all_goals
                          refine (e_109_109 _ _ _ _ _ _ _ _ _).trans ?_
                          rfl
                    rfl
                · simp only [if_neg hc415]
                  all_goals
                    refine (e_109_109 _ _ _ _ _ _ _ _ _).trans ?_
                    rfl
              rfl
        refine (e_109_110 _ _ _ _ _ _ _ _ _ _).trans ?_
        by_cases hc417 : (if ((x2 >>> (x4 &&& 31)) &&& 1) = 1 then ((if ((x2 >>> (x5 &&& 31)) &&& 1) = 0 then (1 : Int32) else 0) : Int32) else 0) = 0
        · simp only [if_pos hc417]
          all_goals
            refine (e_109_137 _ _ _ _ _ _ _ _ _).trans ?_
            exact ih σ x1 x2 x3 x4 (x5 + 1) (some (.inl (if ((x2 >>> (x4 &&& 31)) &&& 1) = 1 then ((if ((x2 >>> (x5 &&& 31)) &&& 1) = 0 then (1 : Int32) else 0) : Int32) else 0))) (some (.inl (if x4 = x1 then ((if x5 = (σ.1 51 x1.toNatClampNeg) then (1 : Int32) else (if x5 = x1 then ((if x4 = (σ.1 51 x1.toNatClampNeg) then (1 : Int32) else 0) : Int32) else 0)) : Int32) else (if x5 = x1 then ((if x4 = (σ.1 51 x1.toNatClampNeg) then (1 : Int32) else 0) : Int32) else 0)))) (((h.1 hc408).2.1 hc417))
        · simp only [if_neg hc417]
          all_goals
            by_cases hc418 : (if x4 = x1 then ((if x5 = (σ.1 51 x1.toNatClampNeg) then (1 : Int32) else (if x5 = x1 then ((if x4 = (σ.1 51 x1.toNatClampNeg) then (1 : Int32) else 0) : Int32) else 0)) : Int32) else (if x5 = x1 then ((if x4 = (σ.1 51 x1.toNatClampNeg) then (1 : Int32) else 0) : Int32) else 0)) = 0
            · simp only [if_pos hc418]
              all_goals
                refine (am_bind_i (s_108 L σ x1 x4 x5 x3 ((((h.1 hc408).2.2 hc417).1 hc418).1))).trans ?_
                refine (e_109_132 _ _ _ _ _ _ _ _ _ _).trans ?_
                by_cases hc419 : (v_108 σ x1 x4 x5 x3) = 0
                · simp only [if_pos hc419]
                  all_goals
                    refine (e_109_137 _ _ _ _ _ _ _ _ _).trans ?_
                    exact ih (w_108 σ x1 x4 x5 x3) x1 x2 x3 x4 (x5 + 1) (some (.inl (if ((x2 >>> (x4 &&& 31)) &&& 1) = 1 then ((if ((x2 >>> (x5 &&& 31)) &&& 1) = 0 then (1 : Int32) else 0) : Int32) else 0))) (some (.inl (if x4 = x1 then ((if x5 = (σ.1 51 x1.toNatClampNeg) then (1 : Int32) else (if x5 = x1 then ((if x4 = (σ.1 51 x1.toNatClampNeg) then (1 : Int32) else 0) : Int32) else 0)) : Int32) else (if x5 = x1 then ((if x4 = (σ.1 51 x1.toNatClampNeg) then (1 : Int32) else 0) : Int32) else 0)))) (((((h.1 hc408).2.2 hc417).1 hc418).2 hc419))
                · simp only [if_neg hc419]
                  all_goals
                    refine (e_109_136 _ _ _ _ _ _ _ _ _ _).trans ?_
                    rfl
            · simp only [if_neg hc418]
              all_goals
                refine (e_109_137 _ _ _ _ _ _ _ _ _).trans ?_
                exact ih σ x1 x2 x3 x4 (x5 + 1) (some (.inl (if ((x2 >>> (x4 &&& 31)) &&& 1) = 1 then ((if ((x2 >>> (x5 &&& 31)) &&& 1) = 0 then (1 : Int32) else 0) : Int32) else 0))) (some (.inl (if x4 = x1 then ((if x5 = (σ.1 51 x1.toNatClampNeg) then (1 : Int32) else (if x5 = x1 then ((if x4 = (σ.1 51 x1.toNatClampNeg) then (1 : Int32) else 0) : Int32) else 0)) : Int32) else (if x5 = x1 then ((if x4 = (σ.1 51 x1.toNatClampNeg) then (1 : Int32) else 0) : Int32) else 0)))) ((((h.1 hc408).2.2 hc417).2 hc418))
    · simp only [if_neg hc408]
      all_goals
        refine (e_109_143 _ _ _ _ _ _ _ _ _).trans ?_
        exact hk24 σ x1 x2 x3 (x4 + 1) (some (.inl x5)) o6 o7 ((h.2 hc408))
def l_109_24 : Nat → am_M → Int32 → Int32 → Int32 → Int32 → Int32 × am_M
  | 0, σ, x1, x2, x3, x4 => (0, σ)
  | n + 1, σ, x1, x2, x3, x4 => (if x4 < (σ.1 50 1) then (l_109_36 (l_109_24 n) 14 σ x1 x2 x3 x4 0) else (1, σ))
def q_109_24 : Nat → am_M → Int32 → Int32 → Int32 → Int32 → Prop
  | 0, _, _, _, _, _ => False
  | n + 1, σ, x1, x2, x3, x4 => (x4 < (σ.1 50 1)) → (q_109_36 (q_109_24 n) 14 σ x1 x2 x3 x4 0)
set_option maxRecDepth 20000 in
theorem t_109_24 (L : Nat) : ∀ (n : Nat) (σ : am_M) (x1 : Int32) (x2 : Int32) (x3 : Int32) (x4 : Int32) (o5 : Option am_V) (o6 : Option am_V) (o7 : Option am_V), q_109_24 n σ x1 x2 x3 x4 → am_r L 109 24 [some (.inr (.inr (50, none))), some (.inl x1), some (.inl x2), some (.inl x3), some (.inl x4), o5, o6, o7] [] σ = some (some (.inl (l_109_24 n σ x1 x2 x3 x4).1), am_sh0 L, (l_109_24 n σ x1 x2 x3 x4).2) := by
  intro n
  induction n with
  | zero => intro σ x1 x2 x3 x4 o5 o6 o7 h; exact h.elim
  | succ n ih =>
    intro σ x1 x2 x3 x4 o5 o6 o7 h
    unfold q_109_24 at h
    unfold l_109_24
    refine (e_109_24 _ _ _ _ _ _ _ _ _).trans ?_
    by_cases hc420 : x4 < (σ.1 50 1)
    · simp only [if_pos hc420]
      all_goals
        exact t_109_36 L (l_109_24 n) (q_109_24 n) ih 14 σ x1 x2 x3 x4 0 o6 o7 ((h hc420))
    · simp only [if_neg hc420]
      all_goals
        refine (e_109_149 _ _ _ _ _ _ _ _ _).trans ?_
        refine (e_109_150 _ _ _ _ _ _ _ _ _ _).trans ?_
        rfl
def p_109 (σ : am_M) (x1 : Int32) : Prop := (p_97 σ x1) ∧ (q_109_24 14 σ x1 (v_97 σ x1) (if (((v_97 σ x1) >>> (x1 &&& 31)) &&& 1) = 1 then (1 : Int32) else 3) 0)
def f_109 (σ : am_M) (x1 : Int32) : Int32 × am_M := (l_109_24 14 σ x1 (v_97 σ x1) (if (((v_97 σ x1) >>> (x1 &&& 31)) &&& 1) = 1 then (1 : Int32) else 3) 0)
set_option maxRecDepth 20000 in
theorem sf_109 (L : Nat) (σ : am_M) (x1 : Int32) (h : p_109 σ x1) : am_r L 109 0 [some (.inr (.inr (50, none))), some (.inl x1), none, none, none, none, none, none] [] σ = some (some (.inl (f_109 σ x1).1), am_sh0 L, (f_109 σ x1).2) := by
  unfold p_109 at h
  unfold f_109
  refine (e_109_0 _ _ _).trans ?_
  refine (am_bind_i (s_97 L σ x1 h.1)).trans ?_
  refine (e_109_5 _ _ _ _).trans ?_
  refine Eq.trans (b := am_r L 109 20 [some (.inr (.inr (50, none))), some (.inl x1), some (.inl (v_97 σ x1)), none, none, none, none, none] [.inl (if (((v_97 σ x1) >>> (x1 &&& 31)) &&& 1) = 1 then (1 : Int32) else 3)] σ) ?_ ?_
  · by_cases hc421 : (((v_97 σ x1) >>> (x1 &&& 31)) &&& 1) = 1
    · simp only [if_pos hc421]
      all_goals
        rfl
    · simp only [if_neg hc421]
      all_goals
        refine (e_109_19 _ _ _ _).trans ?_
        rfl
  refine (e_109_20 _ _ _ _ _).trans ?_
  exact t_109_24 L 14 σ x1 (v_97 σ x1) (if (((v_97 σ x1) >>> (x1 &&& 31)) &&& 1) = 1 then (1 : Int32) else 3) 0 none none none h.2
def v_109 (σ : am_M) (x1 : Int32) : Int32 := (f_109 σ x1).1
def w_109 (σ : am_M) (x1 : Int32) : am_M := (f_109 σ x1).2
theorem s_109 (L : Nat) (σ : am_M) (x1 : Int32) (h : p_109 σ x1) : am_r L 109 0 [some (.inr (.inr (50, none))), some (.inl x1), none, none, none, none, none, none] [] σ = some (some (.inl (v_109 σ x1)), am_sh0 L, w_109 σ x1) := sf_109 L σ x1 h
