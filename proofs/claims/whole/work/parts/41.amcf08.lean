-- 91: X5_place
def p_91 (σ : am_M) (x1 : Int32) (x2 : Int32) (x3 : Int32) : Prop := ¬ ((v_88 (am_put σ 50 0 0) x1) = 0) → (¬ ((v_75 (am_put σ 50 0 0) (Int32.toInt64 x2) ((0 : Int32).toInt64) ((Int32.toInt64 (σ.1 50 1)) - (1 : Int32).toInt64)) = 0) → (¬ ((v_75 (am_put σ 50 0 0) (Int32.toInt64 x3) ((0 : Int32).toInt64) ((5 : Int32).toInt64)) = 0) → ((p_90 (am_put σ 50 0 0) x1) ∧ (¬ (((6 * x2) + x3) < 0 ∨ 78 ≤ (((6 * x2) + x3)).toNatClampNeg)))))
def v_91 (σ : am_M) (x1 : Int32) (x2 : Int32) (x3 : Int32) : Int32 := (if (v_88 (am_put σ 50 0 0) x1) = 0 then (-1000000) else (if (v_75 (am_put σ 50 0 0) (Int32.toInt64 x2) ((0 : Int32).toInt64) ((Int32.toInt64 (σ.1 50 1)) - (1 : Int32).toInt64)) = 0 then (-1000000) else (if (v_75 (am_put σ 50 0 0) (Int32.toInt64 x3) ((0 : Int32).toInt64) ((5 : Int32).toInt64)) = 0 then (-1000000) else ((w_90 (am_put σ 50 0 0) x1).1 60 ((((6 * x2) + x3)).toNatClampNeg)))))
def w_91 (σ : am_M) (x1 : Int32) (x2 : Int32) (x3 : Int32) : am_M := (if (v_88 (am_put σ 50 0 0) x1) = 0 then (am_put σ 50 0 0) else (if (v_75 (am_put σ 50 0 0) (Int32.toInt64 x2) ((0 : Int32).toInt64) ((Int32.toInt64 (σ.1 50 1)) - (1 : Int32).toInt64)) = 0 then (am_put σ 50 0 0) else (if (v_75 (am_put σ 50 0 0) (Int32.toInt64 x3) ((0 : Int32).toInt64) ((5 : Int32).toInt64)) = 0 then (am_put σ 50 0 0) else (w_90 (am_put σ 50 0 0) x1))))
set_option maxRecDepth 20000 in
theorem s_91 (L : Nat) (σ : am_M) (x1 : Int32) (x2 : Int32) (x3 : Int32) (h : p_91 σ x1 x2 x3) : am_r L 91 0 [some (.inr (.inr (50, none))), some (.inl x1), some (.inl x2), some (.inl x3)] [] σ = some (some (.inl (v_91 σ x1 x2 x3)), am_sh0 L, w_91 σ x1 x2 x3) := by
  unfold p_91 at h
  unfold v_91 w_91
  refine (e_91_0 _ _ _ _ _).trans ?_
  refine (am_bind_i (s_88 L (am_put σ 50 0 0) x1)).trans ?_
  refine (e_91_10 _ _ _ _ _ _).trans ?_
  by_cases hc291 : (v_88 (am_put σ 50 0 0) x1) = 0
  · simp only [if_pos hc291]
    all_goals
      refine (e_91_41 _ _ _ _ _).trans ?_
      rfl
  · simp only [if_neg hc291]
    all_goals
      refine (am_bind_i (s_75 L (am_put σ 50 0 0) (Int32.toInt64 x2) ((0 : Int32).toInt64) ((Int32.toInt64 (σ.1 50 1)) - (1 : Int32).toInt64))).trans ?_
      refine (e_91_26 _ _ _ _ _ _).trans ?_
      by_cases hc292 : (v_75 (am_put σ 50 0 0) (Int32.toInt64 x2) ((0 : Int32).toInt64) ((Int32.toInt64 (σ.1 50 1)) - (1 : Int32).toInt64)) = 0
      · simp only [if_pos hc292]
        all_goals
          refine (e_91_41 _ _ _ _ _).trans ?_
          rfl
      · simp only [if_neg hc292]
        all_goals
          refine (am_bind_i (s_75 L (am_put σ 50 0 0) (Int32.toInt64 x3) ((0 : Int32).toInt64) ((5 : Int32).toInt64))).trans ?_
          refine (e_91_38 _ _ _ _ _ _).trans ?_
          by_cases hc293 : (v_75 (am_put σ 50 0 0) (Int32.toInt64 x3) ((0 : Int32).toInt64) ((5 : Int32).toInt64)) = 0
          · simp only [if_pos hc293]
            all_goals
              refine (e_91_41 _ _ _ _ _).trans ?_
              rfl
          · simp only [if_neg hc293]
            all_goals
              refine (e_91_44 _ _ _ _ _).trans ?_
              refine (am_bind_v (s_90 L (am_put σ 50 0 0) x1 ((((h hc291) hc292) hc293).1))).trans ?_
              refine (e_91_49 _ _ _ _ _).trans ?_
              refine (if_neg ((((h hc291) hc292) hc293).2)).trans ?_
              rfl
-- 92: X5_isInner
def l_92_5 : Nat → am_M → Int32 → Int32 → Int32 → Int32 → Int32
  | 0, _, _, _, _, _ => 0
  | n + 1, σ, x1, x2, x3, x4 => (if x4 < 3 then (l_92_5 n σ x1 x2 (if x3 = 0 then (0 : Int32) else (if (σ.1 60 ((((6 * x1) + x4)).toNatClampNeg)) = (σ.1 60 (((((6 * x1) + 3) + x4)).toNatClampNeg)) then ((if (σ.1 60 ((((6 * x1) + x4)).toNatClampNeg)) < (σ.1 60 ((((6 * x2) + x4)).toNatClampNeg)) then (0 : Int32) else (if (σ.1 60 (((((6 * x2) + 3) + x4)).toNatClampNeg)) < (σ.1 60 ((((6 * x1) + x4)).toNatClampNeg)) then (0 : Int32) else 1)) : Int32) else (if (σ.1 60 ((((6 * x1) + x4)).toNatClampNeg)) < (σ.1 60 (((((6 * x2) + 3) + x4)).toNatClampNeg)) then ((if (σ.1 60 ((((6 * x2) + x4)).toNatClampNeg)) < (σ.1 60 (((((6 * x1) + 3) + x4)).toNatClampNeg)) then (1 : Int32) else 0) : Int32) else 0))) (x4 + 1)) else x3)
def q_92_5 : Nat → am_M → Int32 → Int32 → Int32 → Int32 → Prop
  | 0, _, _, _, _, _ => False
  | n + 1, σ, x1, x2, x3, x4 => ((x4 < 3) → ((¬ (((6 * x1) + x4) < 0 ∨ 78 ≤ (((6 * x1) + x4)).toNatClampNeg)) ∧ ((¬ ((((6 * x1) + 3) + x4) < 0 ∨ 78 ≤ ((((6 * x1) + 3) + x4)).toNatClampNeg)) ∧ ((¬ (((6 * x2) + x4) < 0 ∨ 78 ≤ (((6 * x2) + x4)).toNatClampNeg)) ∧ ((¬ ((((6 * x2) + 3) + x4) < 0 ∨ 78 ≤ ((((6 * x2) + 3) + x4)).toNatClampNeg)) ∧ (q_92_5 n σ x1 x2 (if x3 = 0 then (0 : Int32) else (if (σ.1 60 ((((6 * x1) + x4)).toNatClampNeg)) = (σ.1 60 (((((6 * x1) + 3) + x4)).toNatClampNeg)) then ((if (σ.1 60 ((((6 * x1) + x4)).toNatClampNeg)) < (σ.1 60 ((((6 * x2) + x4)).toNatClampNeg)) then (0 : Int32) else (if (σ.1 60 (((((6 * x2) + 3) + x4)).toNatClampNeg)) < (σ.1 60 ((((6 * x1) + x4)).toNatClampNeg)) then (0 : Int32) else 1)) : Int32) else (if (σ.1 60 ((((6 * x1) + x4)).toNatClampNeg)) < (σ.1 60 (((((6 * x2) + 3) + x4)).toNatClampNeg)) then ((if (σ.1 60 ((((6 * x2) + x4)).toNatClampNeg)) < (σ.1 60 (((((6 * x1) + 3) + x4)).toNatClampNeg)) then (1 : Int32) else 0) : Int32) else 0))) (x4 + 1))))))) ∧ (¬ (x4 < 3) → ((x3 = 0 ∨ x3 = 1)))
set_option maxRecDepth 20000 in
theorem t_92_5 (L : Nat) (σ : am_M) : ∀ (n : Nat) (x1 : Int32) (x2 : Int32) (x3 : Int32) (x4 : Int32) (o5 : Option am_V) (o6 : Option am_V) (o7 : Option am_V) (o8 : Option am_V), q_92_5 n σ x1 x2 x3 x4 → am_r L 92 5 [some (.inr (.inr (50, none))), some (.inl x1), some (.inl x2), some (.inl x3), some (.inl x4), o5, o6, o7, o8] [] σ = some (some (.inl (l_92_5 n σ x1 x2 x3 x4)), am_sh0 L, σ) := by
  intro n
  induction n with
  | zero => intro x1 x2 x3 x4 o5 o6 o7 o8 h; exact h.elim
  | succ n ih =>
    intro x1 x2 x3 x4 o5 o6 o7 o8 h
    unfold q_92_5 at h
    unfold l_92_5
    refine (e_92_5 _ _ _ _ _ _ _ _ _ _).trans ?_
    by_cases hc294 : x4 < 3
    · simp only [if_pos hc294]
      all_goals
        refine (if_neg ((h.1 hc294).1)).trans ?_
        refine (if_neg ((h.1 hc294).2.1)).trans ?_
        refine (e_92_39 _ _ _ _ _ _ _ _ _ _ _).trans ?_
        refine (if_neg ((h.1 hc294).2.2.1)).trans ?_
        refine (if_neg ((h.1 hc294).2.2.2.1)).trans ?_
        refine (e_92_71 _ _ _ _ _ _ _ _ _ _).trans ?_
        refine Eq.trans (b := am_r L 92 118 [some (.inr (.inr (50, none))), some (.inl x1), some (.inl x2), some (.inl x3), some (.inl x4), some (.inl (σ.1 60 ((((6 * x1) + x4)).toNatClampNeg))), some (.inl (σ.1 60 (((((6 * x1) + 3) + x4)).toNatClampNeg))), some (.inl (σ.1 60 ((((6 * x2) + x4)).toNatClampNeg))), some (.inl (σ.1 60 (((((6 * x2) + 3) + x4)).toNatClampNeg)))] [.inl (if x3 = 0 then (0 : Int32) else (if (σ.1 60 ((((6 * x1) + x4)).toNatClampNeg)) = (σ.1 60 (((((6 * x1) + 3) + x4)).toNatClampNeg)) then ((if (σ.1 60 ((((6 * x1) + x4)).toNatClampNeg)) < (σ.1 60 ((((6 * x2) + x4)).toNatClampNeg)) then (0 : Int32) else (if (σ.1 60 (((((6 * x2) + 3) + x4)).toNatClampNeg)) < (σ.1 60 ((((6 * x1) + x4)).toNatClampNeg)) then (0 : Int32) else 1)) : Int32) else (if (σ.1 60 ((((6 * x1) + x4)).toNatClampNeg)) < (σ.1 60 (((((6 * x2) + 3) + x4)).toNatClampNeg)) then ((if (σ.1 60 ((((6 * x2) + x4)).toNatClampNeg)) < (σ.1 60 (((((6 * x1) + 3) + x4)).toNatClampNeg)) then (1 : Int32) else 0) : Int32) else 0)))] σ) ?_ ?_
        · by_cases hc295 : x3 = 0
          · simp only [if_pos hc295]
            all_goals
              refine (e_92_117 _ _ _ _ _ _ _ _ _ _).trans ?_
              rfl
          · simp only [if_neg hc295]
            all_goals
              refine Eq.trans (b := am_r L 92 118 [some (.inr (.inr (50, none))), some (.inl x1), some (.inl x2), some (.inl x3), some (.inl x4), some (.inl (σ.1 60 ((((6 * x1) + x4)).toNatClampNeg))), some (.inl (σ.1 60 (((((6 * x1) + 3) + x4)).toNatClampNeg))), some (.inl (σ.1 60 ((((6 * x2) + x4)).toNatClampNeg))), some (.inl (σ.1 60 (((((6 * x2) + 3) + x4)).toNatClampNeg)))] [.inl (if (σ.1 60 ((((6 * x1) + x4)).toNatClampNeg)) = (σ.1 60 (((((6 * x1) + 3) + x4)).toNatClampNeg)) then ((if (σ.1 60 ((((6 * x1) + x4)).toNatClampNeg)) < (σ.1 60 ((((6 * x2) + x4)).toNatClampNeg)) then (0 : Int32) else (if (σ.1 60 (((((6 * x2) + 3) + x4)).toNatClampNeg)) < (σ.1 60 ((((6 * x1) + x4)).toNatClampNeg)) then (0 : Int32) else 1)) : Int32) else (if (σ.1 60 ((((6 * x1) + x4)).toNatClampNeg)) < (σ.1 60 (((((6 * x2) + 3) + x4)).toNatClampNeg)) then ((if (σ.1 60 ((((6 * x2) + x4)).toNatClampNeg)) < (σ.1 60 (((((6 * x1) + 3) + x4)).toNatClampNeg)) then (1 : Int32) else 0) : Int32) else 0))] σ) ?_ ?_
              · by_cases hc296 : (σ.1 60 ((((6 * x1) + x4)).toNatClampNeg)) = (σ.1 60 (((((6 * x1) + 3) + x4)).toNatClampNeg))
                · simp only [if_pos hc296]
                  all_goals
                    refine Eq.trans (b := am_r L 92 118 [some (.inr (.inr (50, none))), some (.inl x1), some (.inl x2), some (.inl x3), some (.inl x4), some (.inl (σ.1 60 ((((6 * x1) + x4)).toNatClampNeg))), some (.inl (σ.1 60 (((((6 * x1) + 3) + x4)).toNatClampNeg))), some (.inl (σ.1 60 ((((6 * x2) + x4)).toNatClampNeg))), some (.inl (σ.1 60 (((((6 * x2) + 3) + x4)).toNatClampNeg)))] [.inl (if (σ.1 60 ((((6 * x1) + x4)).toNatClampNeg)) < (σ.1 60 ((((6 * x2) + x4)).toNatClampNeg)) then (0 : Int32) else (if (σ.1 60 (((((6 * x2) + 3) + x4)).toNatClampNeg)) < (σ.1 60 ((((6 * x1) + x4)).toNatClampNeg)) then (0 : Int32) else 1))] σ) ?_ ?_
                    · by_cases hc297 : (σ.1 60 ((((6 * x1) + x4)).toNatClampNeg)) < (σ.1 60 ((((6 * x2) + x4)).toNatClampNeg))
                      · simp only [if_pos hc297]
                        all_goals
                          refine (e_92_117 _ _ _ _ _ _ _ _ _ _).trans ?_
                          rfl
                      · simp only [if_neg hc297]
                        all_goals
                          refine Eq.trans (b := am_r L 92 118 [some (.inr (.inr (50, none))), some (.inl x1), some (.inl x2), some (.inl x3), some (.inl x4), some (.inl (σ.1 60 ((((6 * x1) + x4)).toNatClampNeg))), some (.inl (σ.1 60 (((((6 * x1) + 3) + x4)).toNatClampNeg))), some (.inl (σ.1 60 ((((6 * x2) + x4)).toNatClampNeg))), some (.inl (σ.1 60 (((((6 * x2) + 3) + x4)).toNatClampNeg)))] [.inl (if (σ.1 60 (((((6 * x2) + 3) + x4)).toNatClampNeg)) < (σ.1 60 ((((6 * x1) + x4)).toNatClampNeg)) then (0 : Int32) else 1)] σ) ?_ ?_
                          · by_cases hc298 : (σ.1 60 (((((6 * x2) + 3) + x4)).toNatClampNeg)) < (σ.1 60 ((((6 * x1) + x4)).toNatClampNeg))
                            · simp only [if_pos hc298]
                              all_goals
                                refine (e_92_117 _ _ _ _ _ _ _ _ _ _).trans ?_
                                rfl
                            · simp only [if_neg hc298]
                              all_goals
                                refine (e_92_113 _ _ _ _ _ _ _ _ _ _).trans ?_
                                rfl
                          rfl
                    rfl
                · simp only [if_neg hc296]
                  all_goals
                    refine (e_92_99 _ _ _ _ _ _ _ _ _ _).trans ?_
                    refine Eq.trans (b := am_r L 92 118 [some (.inr (.inr (50, none))), some (.inl x1), some (.inl x2), some (.inl x3), some (.inl x4), some (.inl (σ.1 60 ((((6 * x1) + x4)).toNatClampNeg))), some (.inl (σ.1 60 (((((6 * x1) + 3) + x4)).toNatClampNeg))), some (.inl (σ.1 60 ((((6 * x2) + x4)).toNatClampNeg))), some (.inl (σ.1 60 (((((6 * x2) + 3) + x4)).toNatClampNeg)))] [.inl (if (σ.1 60 ((((6 * x1) + x4)).toNatClampNeg)) < (σ.1 60 (((((6 * x2) + 3) + x4)).toNatClampNeg)) then ((if (σ.1 60 ((((6 * x2) + x4)).toNatClampNeg)) < (σ.1 60 (((((6 * x1) + 3) + x4)).toNatClampNeg)) then (1 : Int32) else 0) : Int32) else 0)] σ) ?_ ?_
                    · by_cases hc299 : (σ.1 60 ((((6 * x1) + x4)).toNatClampNeg)) < (σ.1 60 (((((6 * x2) + 3) + x4)).toNatClampNeg))
                      · simp only [if_pos hc299]
                        all_goals
                          refine Eq.trans (b := am_r L 92 118 [some (.inr (.inr (50, none))), some (.inl x1), some (.inl x2), some (.inl x3), some (.inl x4), some (.inl (σ.1 60 ((((6 * x1) + x4)).toNatClampNeg))), some (.inl (σ.1 60 (((((6 * x1) + 3) + x4)).toNatClampNeg))), some (.inl (σ.1 60 ((((6 * x2) + x4)).toNatClampNeg))), some (.inl (σ.1 60 (((((6 * x2) + 3) + x4)).toNatClampNeg)))] [.inl (if (σ.1 60 ((((6 * x2) + x4)).toNatClampNeg)) < (σ.1 60 (((((6 * x1) + 3) + x4)).toNatClampNeg)) then (1 : Int32) else 0)] σ) ?_ ?_
                          · by_cases hc300 : (σ.1 60 ((((6 * x2) + x4)).toNatClampNeg)) < (σ.1 60 (((((6 * x1) + 3) + x4)).toNatClampNeg))
                            · simp only [if_pos hc300]
                              all_goals
                                refine (e_92_113 _ _ _ _ _ _ _ _ _ _).trans ?_
                                rfl
                            · simp only [if_neg hc300]
                              all_goals
                                refine (e_92_117 _ _ _ _ _ _ _ _ _ _).trans ?_
                                rfl
                          rfl
                      · simp only [if_neg hc299]
                        all_goals
                          refine (e_92_117 _ _ _ _ _ _ _ _ _ _).trans ?_
                          rfl
                    rfl
              rfl
        refine (e_92_118 _ _ _ _ _ _ _ _ _ _ _).trans ?_
        exact ih x1 x2 (if x3 = 0 then (0 : Int32) else (if (σ.1 60 ((((6 * x1) + x4)).toNatClampNeg)) = (σ.1 60 (((((6 * x1) + 3) + x4)).toNatClampNeg)) then ((if (σ.1 60 ((((6 * x1) + x4)).toNatClampNeg)) < (σ.1 60 ((((6 * x2) + x4)).toNatClampNeg)) then (0 : Int32) else (if (σ.1 60 (((((6 * x2) + 3) + x4)).toNatClampNeg)) < (σ.1 60 ((((6 * x1) + x4)).toNatClampNeg)) then (0 : Int32) else 1)) : Int32) else (if (σ.1 60 ((((6 * x1) + x4)).toNatClampNeg)) < (σ.1 60 (((((6 * x2) + 3) + x4)).toNatClampNeg)) then ((if (σ.1 60 ((((6 * x2) + x4)).toNatClampNeg)) < (σ.1 60 (((((6 * x1) + 3) + x4)).toNatClampNeg)) then (1 : Int32) else 0) : Int32) else 0))) (x4 + 1) (some (.inl (σ.1 60 ((((6 * x1) + x4)).toNatClampNeg)))) (some (.inl (σ.1 60 (((((6 * x1) + 3) + x4)).toNatClampNeg)))) (some (.inl (σ.1 60 ((((6 * x2) + x4)).toNatClampNeg)))) (some (.inl (σ.1 60 (((((6 * x2) + 3) + x4)).toNatClampNeg)))) ((h.1 hc294).2.2.2.2)
    · simp only [if_neg hc294]
      all_goals
        refine (e_92_125 _ _ _ _ _ _ _ _ _ _).trans ?_
        refine (e_92_126 _ _ _ _ _ _ _ _ _ _ _).trans ?_
        refine (if_pos ((h.2 hc294))).trans ?_
        rfl
def p_92 (σ : am_M) (x1 : Int32) (x2 : Int32) : Prop := q_92_5 14 σ x1 x2 1 0
def f_92 (σ : am_M) (x1 : Int32) (x2 : Int32) : Int32 := (l_92_5 14 σ x1 x2 1 0)
set_option maxRecDepth 20000 in
theorem sf_92 (L : Nat) (σ : am_M) (x1 : Int32) (x2 : Int32) (h : p_92 σ x1 x2) : am_r L 92 0 [some (.inr (.inr (50, none))), some (.inl x1), some (.inl x2), none, none, none, none, none, none] [] σ = some (some (.inl (f_92 σ x1 x2)), am_sh0 L, σ) := by
  unfold p_92 at h
  unfold f_92
  refine (e_92_0 _ _ _ _).trans ?_
  exact t_92_5 L σ 14 x1 x2 1 0 none none none none h
def v_92 (σ : am_M) (x1 : Int32) (x2 : Int32) : Int32 := f_92 σ x1 x2
theorem s_92 (L : Nat) (σ : am_M) (x1 : Int32) (x2 : Int32) (h : p_92 σ x1 x2) : am_r L 92 0 [some (.inr (.inr (50, none))), some (.inl x1), some (.inl x2), none, none, none, none, none, none] [] σ = some (some (.inl (v_92 σ x1 x2)), am_sh0 L, σ) := sf_92 L σ x1 x2 h
-- 93: X5_meets
def l_93_37 (k24 : am_M → Int32 → Int32 → Int32 → Int32 × am_M) : Nat → am_M → Int32 → Int32 → Int32 → Int32 → Int32 × am_M
  | 0, σ, x1, x2, x3, x4 => (0, σ)
  | n + 1, σ, x1, x2, x3, x4 => (if x4 < (σ.1 50 1) then (l_93_37 k24 n σ x1 (x2 + (if (σ.1 51 x4.toNatClampNeg) = x3 then (0 : Int32) else (if (v_92 σ x3 x4) = 0 then ((if (v_92 σ x4 x3) = 0 then (0 : Int32) else 1) : Int32) else 1))) x3 (x4 + 1)) else (k24 σ x1 x2 (x3 + 1)))
def q_93_37 (c24 : am_M → Int32 → Int32 → Int32 → Prop) : Nat → am_M → Int32 → Int32 → Int32 → Int32 → Prop
  | 0, _, _, _, _, _ => False
  | n + 1, σ, x1, x2, x3, x4 => ((x4 < (σ.1 50 1)) → ((¬ (x4 < 0 ∨ 13 ≤ x4.toNatClampNeg)) ∧ ((¬ ((σ.1 51 x4.toNatClampNeg) = x3) → ((p_92 σ x3 x4) ∧ (((v_92 σ x3 x4) = 0) → (p_92 σ x4 x3)))) ∧ (q_93_37 c24 n σ x1 (x2 + (if (σ.1 51 x4.toNatClampNeg) = x3 then (0 : Int32) else (if (v_92 σ x3 x4) = 0 then ((if (v_92 σ x4 x3) = 0 then (0 : Int32) else 1) : Int32) else 1))) x3 (x4 + 1))))) ∧ (¬ (x4 < (σ.1 50 1)) → (c24 σ x1 x2 (x3 + 1)))
set_option maxRecDepth 20000 in
theorem t_93_37 (L : Nat) (k24 : am_M → Int32 → Int32 → Int32 → Int32 × am_M) (c24 : am_M → Int32 → Int32 → Int32 → Prop) (hk24 : ∀ (σ : am_M) (x1 : Int32) (x2 : Int32) (x3 : Int32) (o4 : Option am_V), c24 σ x1 x2 x3 → am_r L 93 24 [some (.inr (.inr (50, none))), some (.inl x1), some (.inl x2), some (.inl x3), o4] [] σ = some (some (.inl (k24 σ x1 x2 x3).1), am_sh0 L, (k24 σ x1 x2 x3).2)) : ∀ (n : Nat) (σ : am_M) (x1 : Int32) (x2 : Int32) (x3 : Int32) (x4 : Int32), q_93_37 c24 n σ x1 x2 x3 x4 → am_r L 93 37 [some (.inr (.inr (50, none))), some (.inl x1), some (.inl x2), some (.inl x3), some (.inl x4)] [] σ = some (some (.inl (l_93_37 k24 n σ x1 x2 x3 x4).1), am_sh0 L, (l_93_37 k24 n σ x1 x2 x3 x4).2) := by
  intro n
  induction n with
  | zero => intro σ x1 x2 x3 x4 h; exact h.elim
  | succ n ih =>
    intro σ x1 x2 x3 x4 h
    unfold q_93_37 at h
    unfold l_93_37
    refine (e_93_37 _ _ _ _ _ _).trans ?_
    by_cases hc301 : x4 < (σ.1 50 1)
    · simp only [if_pos hc301]
      all_goals
        refine (if_neg ((h.1 hc301).1)).trans ?_
        refine Eq.trans (b := am_r L 93 83 [some (.inr (.inr (50, none))), some (.inl x1), some (.inl x2), some (.inl x3), some (.inl x4)] [.inl (if (σ.1 51 x4.toNatClampNeg) = x3 then (0 : Int32) else (if (v_92 σ x3 x4) = 0 then ((if (v_92 σ x4 x3) = 0 then (0 : Int32) else 1) : Int32) else 1)), .inl x2] σ) ?_ ?_
        · by_cases hc302 : (σ.1 51 x4.toNatClampNeg) = x3
          · simp only [if_pos hc302]
            all_goals
              refine (e_93_82 _ _ _ _ _ _ _).trans ?_
              rfl
          · simp only [if_neg hc302]
            all_goals
              refine (am_bind_i (s_92 L σ x3 x4 (((h.1 hc301).2.1 hc302).1))).trans ?_
              refine (e_93_65 _ _ _ _ _ _ _ _).trans ?_
              refine Eq.trans (b := am_r L 93 83 [some (.inr (.inr (50, none))), some (.inl x1), some (.inl x2), some (.inl x3), some (.inl x4)] [.inl (if (v_92 σ x3 x4) = 0 then ((if (v_92 σ x4 x3) = 0 then (0 : Int32) else 1) : Int32) else 1), .inl x2] σ) ?_ ?_
              · by_cases hc303 : (v_92 σ x3 x4) = 0
                · simp only [if_pos hc303]
                  all_goals
                    refine (am_bind_i (s_92 L σ x4 x3 ((((h.1 hc301).2.1 hc302).2 hc303)))).trans ?_
                    refine (e_93_75 _ _ _ _ _ _ _ _).trans ?_
                    refine Eq.trans (b := am_r L 93 83 [some (.inr (.inr (50, none))), some (.inl x1), some (.inl x2), some (.inl x3), some (.inl x4)] [.inl (if (v_92 σ x4 x3) = 0 then (0 : Int32) else 1), .inl x2] σ) ?_ ?_
                    · by_cases hc304 : (v_92 σ x4 x3) = 0
                      · simp only [if_pos hc304]
                        all_goals
                          refine (e_93_82 _ _ _ _ _ _ _).trans ?_
                          rfl
                      · simp only [if_neg hc304]
                        all_goals
                          refine (e_93_78 _ _ _ _ _ _ _).trans ?_
                          rfl
                    rfl
                · simp only [if_neg hc303]
                  all_goals
                    refine (e_93_78 _ _ _ _ _ _ _).trans ?_
                    rfl
              rfl
        refine (e_93_83 _ _ _ _ _ _ _ _).trans ?_
        exact ih σ x1 (x2 + (if (σ.1 51 x4.toNatClampNeg) = x3 then (0 : Int32) else (if (v_92 σ x3 x4) = 0 then ((if (v_92 σ x4 x3) = 0 then (0 : Int32) else 1) : Int32) else 1))) x3 (x4 + 1) ((h.1 hc301).2.2)
    · simp only [if_neg hc301]
      all_goals
        refine (e_93_91 _ _ _ _ _ _).trans ?_
        exact hk24 σ x1 x2 (x3 + 1) (some (.inl x4)) ((h.2 hc301))
def l_93_24 : Nat → am_M → Int32 → Int32 → Int32 → Int32 × am_M
  | 0, σ, x1, x2, x3 => (0, σ)
  | n + 1, σ, x1, x2, x3 => (if x3 < (σ.1 50 1) then (l_93_37 (l_93_24 n) 14 σ x1 x2 x3 (x3 + 1)) else (x2, σ))
def q_93_24 : Nat → am_M → Int32 → Int32 → Int32 → Prop
  | 0, _, _, _, _ => False
  | n + 1, σ, x1, x2, x3 => (x3 < (σ.1 50 1)) → (q_93_37 (q_93_24 n) 14 σ x1 x2 x3 (x3 + 1))
set_option maxRecDepth 20000 in
theorem t_93_24 (L : Nat) : ∀ (n : Nat) (σ : am_M) (x1 : Int32) (x2 : Int32) (x3 : Int32) (o4 : Option am_V), q_93_24 n σ x1 x2 x3 → am_r L 93 24 [some (.inr (.inr (50, none))), some (.inl x1), some (.inl x2), some (.inl x3), o4] [] σ = some (some (.inl (l_93_24 n σ x1 x2 x3).1), am_sh0 L, (l_93_24 n σ x1 x2 x3).2) := by
  intro n
  induction n with
  | zero => intro σ x1 x2 x3 o4 h; exact h.elim
  | succ n ih =>
    intro σ x1 x2 x3 o4 h
    unfold q_93_24 at h
    unfold l_93_24
    refine (e_93_24 _ _ _ _ _ _).trans ?_
    by_cases hc305 : x3 < (σ.1 50 1)
    · simp only [if_pos hc305]
      all_goals
        exact t_93_37 L (l_93_24 n) (q_93_24 n) ih 14 σ x1 x2 x3 (x3 + 1) ((h hc305))
    · simp only [if_neg hc305]
      all_goals
        refine (e_93_97 _ _ _ _ _ _).trans ?_
        rfl
def p_93 (σ : am_M) (x1 : Int32) : Prop := ¬ ((v_88 (am_put σ 50 0 0) x1) = 0) → ((p_90 (am_put σ 50 0 0) x1) ∧ (q_93_24 14 (w_90 (am_put σ 50 0 0) x1) x1 0 0))
def f_93 (σ : am_M) (x1 : Int32) : Int32 × am_M := (if (v_88 (am_put σ 50 0 0) x1) = 0 then ((-1), (am_put σ 50 0 0)) else (l_93_24 14 (w_90 (am_put σ 50 0 0) x1) x1 0 0))
set_option maxRecDepth 20000 in
theorem sf_93 (L : Nat) (σ : am_M) (x1 : Int32) (h : p_93 σ x1) : am_r L 93 0 [some (.inr (.inr (50, none))), some (.inl x1), none, none, none] [] σ = some (some (.inl (f_93 σ x1).1), am_sh0 L, (f_93 σ x1).2) := by
  unfold p_93 at h
  unfold f_93
  refine (e_93_0 _ _ _).trans ?_
  refine (am_bind_i (s_88 L (am_put σ 50 0 0) x1)).trans ?_
  refine (e_93_10 _ _ _ _).trans ?_
  by_cases hc306 : (v_88 (am_put σ 50 0 0) x1) = 0
  · simp only [if_pos hc306]
    all_goals
      rfl
  · simp only [if_neg hc306]
    all_goals
      refine (e_93_15 _ _ _).trans ?_
      refine (am_bind_v (s_90 L (am_put σ 50 0 0) x1 ((h hc306).1))).trans ?_
      refine (e_93_20 _ _ _).trans ?_
      exact t_93_24 L 14 (w_90 (am_put σ 50 0 0) x1) x1 0 0 none ((h hc306).2)
def v_93 (σ : am_M) (x1 : Int32) : Int32 := (f_93 σ x1).1
def w_93 (σ : am_M) (x1 : Int32) : am_M := (f_93 σ x1).2
theorem s_93 (L : Nat) (σ : am_M) (x1 : Int32) (h : p_93 σ x1) : am_r L 93 0 [some (.inr (.inr (50, none))), some (.inl x1), none, none, none] [] σ = some (some (.inl (v_93 σ x1)), am_sh0 L, w_93 σ x1) := sf_93 L σ x1 h
-- 94: X5_isBend
def v_94 (σ : am_M) (x1 : Int32) : Int32 := (v_75 σ (Int32.toInt64 x1) ((1 : Int32).toInt64) ((Int32.toInt64 (σ.1 50 1)) - (1 : Int32).toInt64))
set_option maxRecDepth 20000 in
theorem s_94 (L : Nat) (σ : am_M) (x1 : Int32) : am_r L 94 0 [some (.inr (.inr (50, none))), some (.inl x1)] [] σ = some (some (.inl (v_94 σ x1)), am_sh0 L, σ) := by
  unfold v_94
  refine (e_94_0 _ _ _).trans ?_
  refine (am_bind_i (s_75 L σ (Int32.toInt64 x1) ((1 : Int32).toInt64) ((Int32.toInt64 (σ.1 50 1)) - (1 : Int32).toInt64))).trans ?_
  refine (e_94_13 _ _ _ _).trans ?_
  refine (if_pos (b_75 σ (Int32.toInt64 x1) ((1 : Int32).toInt64) ((Int32.toInt64 (σ.1 50 1)) - (1 : Int32).toInt64))).trans ?_
  rfl
theorem b_94 (σ : am_M) (x1 : Int32) : v_94 σ x1 = 0 ∨ v_94 σ x1 = 1 := (b_75 σ (Int32.toInt64 x1) ((1 : Int32).toInt64) ((Int32.toInt64 (σ.1 50 1)) - (1 : Int32).toInt64))
-- 95: X5_behind
def l_95_8 : Nat → am_M → Int32 → Int32 → Int32 → Int32
  | 0, _, _, _, _ => 0
  | n + 1, σ, x1, x2, x3 => (if x3 < (σ.1 50 1) then (l_95_8 n σ x1 (x2 ||| (((x2 >>> ((σ.1 51 x3.toNatClampNeg) &&& 31)) &&& 1) <<< (x3 &&& 31))) (x3 + 1)) else x2)
def q_95_8 : Nat → am_M → Int32 → Int32 → Int32 → Prop
  | 0, _, _, _, _ => False
  | n + 1, σ, x1, x2, x3 => (x3 < (σ.1 50 1)) → ((¬ (x3 < 0 ∨ 13 ≤ x3.toNatClampNeg)) ∧ (q_95_8 n σ x1 (x2 ||| (((x2 >>> ((σ.1 51 x3.toNatClampNeg) &&& 31)) &&& 1) <<< (x3 &&& 31))) (x3 + 1)))
set_option maxRecDepth 20000 in
theorem t_95_8 (L : Nat) (σ : am_M) : ∀ (n : Nat) (x1 : Int32) (x2 : Int32) (x3 : Int32), q_95_8 n σ x1 x2 x3 → am_r L 95 8 [some (.inr (.inr (50, none))), some (.inl x1), some (.inl x2), some (.inl x3)] [] σ = some (some (.inl (l_95_8 n σ x1 x2 x3)), am_sh0 L, σ) := by
  intro n
  induction n with
  | zero => intro x1 x2 x3 h; exact h.elim
  | succ n ih =>
    intro x1 x2 x3 h
    unfold q_95_8 at h
    unfold l_95_8
    refine (e_95_8 _ _ _ _ _).trans ?_
    by_cases hc307 : x3 < (σ.1 50 1)
    · simp only [if_pos hc307]
      all_goals
        refine (if_neg ((h hc307).1)).trans ?_
        exact ih x1 (x2 ||| (((x2 >>> ((σ.1 51 x3.toNatClampNeg) &&& 31)) &&& 1) <<< (x3 &&& 31))) (x3 + 1) ((h hc307).2)
    · simp only [if_neg hc307]
      all_goals
        refine (e_95_37 _ _ _ _ _).trans ?_
        rfl
def p_95 (σ : am_M) (x1 : Int32) : Prop := q_95_8 14 σ x1 (1 <<< (x1 &&& 31)) (x1 + 1)
def f_95 (σ : am_M) (x1 : Int32) : Int32 := (l_95_8 14 σ x1 (1 <<< (x1 &&& 31)) (x1 + 1))
set_option maxRecDepth 20000 in
theorem sf_95 (L : Nat) (σ : am_M) (x1 : Int32) (h : p_95 σ x1) : am_r L 95 0 [some (.inr (.inr (50, none))), some (.inl x1), none, none] [] σ = some (some (.inl (f_95 σ x1)), am_sh0 L, σ) := by
  unfold p_95 at h
  unfold f_95
  refine (e_95_0 _ _ _).trans ?_
  exact t_95_8 L σ 14 x1 (1 <<< (x1 &&& 31)) (x1 + 1) h
def v_95 (σ : am_M) (x1 : Int32) : Int32 := f_95 σ x1
theorem s_95 (L : Nat) (σ : am_M) (x1 : Int32) (h : p_95 σ x1) : am_r L 95 0 [some (.inr (.inr (50, none))), some (.inl x1), none, none] [] σ = some (some (.inl (v_95 σ x1)), am_sh0 L, σ) := sf_95 L σ x1 h
-- 96: X5_many
def l_96_4 : Nat → am_M → Int32 → Int32 → Int32 → Int32
  | 0, _, _, _, _ => 0
  | n + 1, σ, x0, x1, x2 => (if x2 < 13 then (l_96_4 n σ x0 (x1 + ((x0 >>> (x2 &&& 31)) &&& 1)) (x2 + 1)) else x1)
def q_96_4 : Nat → am_M → Int32 → Int32 → Int32 → Prop
  | 0, _, _, _, _ => False
  | n + 1, σ, x0, x1, x2 => (x2 < 13) → (q_96_4 n σ x0 (x1 + ((x0 >>> (x2 &&& 31)) &&& 1)) (x2 + 1))
set_option maxRecDepth 20000 in
theorem t_96_4 (L : Nat) (σ : am_M) : ∀ (n : Nat) (x0 : Int32) (x1 : Int32) (x2 : Int32), q_96_4 n σ x0 x1 x2 → am_r L 96 4 [some (.inl x0), some (.inl x1), some (.inl x2)] [] σ = some (some (.inl (l_96_4 n σ x0 x1 x2)), am_sh0 L, σ) := by
  intro n
  induction n with
  | zero => intro x0 x1 x2 h; exact h.elim
  | succ n ih =>
    intro x0 x1 x2 h
    unfold q_96_4 at h
    unfold l_96_4
    refine (e_96_4 _ _ _ _ _).trans ?_
    by_cases hc308 : x2 < 13
    · simp only [if_pos hc308]
      all_goals
        exact ih x0 (x1 + ((x0 >>> (x2 &&& 31)) &&& 1)) (x2 + 1) ((h hc308))
    · simp only [if_neg hc308]
      all_goals
        refine (e_96_24 _ _ _ _ _).trans ?_
        rfl
def p_96 (σ : am_M) (x0 : Int32) : Prop := q_96_4 14 σ x0 0 0
def f_96 (σ : am_M) (x0 : Int32) : Int32 := (l_96_4 14 σ x0 0 0)
set_option maxRecDepth 20000 in
theorem sf_96 (L : Nat) (σ : am_M) (x0 : Int32) (h : p_96 σ x0) : am_r L 96 0 [some (.inl x0), none, none] [] σ = some (some (.inl (f_96 σ x0)), am_sh0 L, σ) := by
  unfold p_96 at h
  unfold f_96
  refine (e_96_0 _ _ _).trans ?_
  exact t_96_4 L σ 14 x0 0 0 h
def v_96 (σ : am_M) (x0 : Int32) : Int32 := f_96 σ x0
theorem s_96 (L : Nat) (σ : am_M) (x0 : Int32) (h : p_96 σ x0) : am_r L 96 0 [some (.inl x0), none, none] [] σ = some (some (.inl (v_96 σ x0)), am_sh0 L, σ) := sf_96 L σ x0 h
-- 97: X5_moving
def p_97 (σ : am_M) (x1 : Int32) : Prop := (p_95 σ x1) ∧ ((p_96 σ (v_95 σ x1)) ∧ (p_96 σ (v_95 σ x1)))
def v_97 (σ : am_M) (x1 : Int32) : Int32 := (if ((σ.1 50 1) - (v_96 σ (v_95 σ x1))) < (v_96 σ (v_95 σ x1)) then ((((1 <<< ((σ.1 50 1) &&& 31)) - 1) &&& ((v_95 σ x1) ^^^ (-1))) : Int32) else (v_95 σ x1))
set_option maxRecDepth 20000 in
theorem s_97 (L : Nat) (σ : am_M) (x1 : Int32) (h : p_97 σ x1) : am_r L 97 0 [some (.inr (.inr (50, none))), some (.inl x1), none, none] [] σ = some (some (.inl (v_97 σ x1)), am_sh0 L, σ) := by
  unfold p_97 at h
  unfold v_97
  refine (e_97_0 _ _ _).trans ?_
  refine (am_bind_i (s_95 L σ x1 h.1)).trans ?_
  refine (e_97_5 _ _ _ _).trans ?_
  refine (am_bind_i (s_96 L σ (v_95 σ x1) h.2.1)).trans ?_
  refine (e_97_19 _ _ _ _ _ _).trans ?_
  refine (am_bind_i (s_96 L σ (v_95 σ x1) h.2.2)).trans ?_
  refine (e_97_27 _ _ _ _ _ _ _ _).trans ?_
  refine Eq.trans (b := am_r L 97 40 [some (.inr (.inr (50, none))), some (.inl x1), some (.inl (v_95 σ x1)), some (.inl ((1 <<< ((σ.1 50 1) &&& 31)) - 1))] [.inl (if ((σ.1 50 1) - (v_96 σ (v_95 σ x1))) < (v_96 σ (v_95 σ x1)) then ((((1 <<< ((σ.1 50 1) &&& 31)) - 1) &&& ((v_95 σ x1) ^^^ (-1))) : Int32) else (v_95 σ x1))] σ) ?_ ?_
  · by_cases hc309 : ((σ.1 50 1) - (v_96 σ (v_95 σ x1))) < (v_96 σ (v_95 σ x1))
    · simp only [if_pos hc309]
      all_goals
        refine (e_97_35 _ _ _ _ _).trans ?_
        rfl
    · simp only [if_neg hc309]
      all_goals
        rfl
  refine (e_97_40 _ _ _ _ _ _).trans ?_
  rfl
-- 98: X5_moves
def p_98 (σ : am_M) (x1 : Int32) : Prop := ¬ ((v_94 (am_put σ 50 0 0) x1) = 0) → (p_97 (am_put σ 50 0 0) x1)
def v_98 (σ : am_M) (x1 : Int32) : Int32 := (if (v_94 (am_put σ 50 0 0) x1) = 0 then ((-1) : Int32) else (v_97 (am_put σ 50 0 0) x1))
def w_98 (σ : am_M) (x1 : Int32) : am_M := (am_put σ 50 0 0)
set_option maxRecDepth 20000 in
theorem s_98 (L : Nat) (σ : am_M) (x1 : Int32) (h : p_98 σ x1) : am_r L 98 0 [some (.inr (.inr (50, none))), some (.inl x1)] [] σ = some (some (.inl (v_98 σ x1)), am_sh0 L, w_98 σ x1) := by
  unfold p_98 at h
  unfold v_98 w_98
  refine (e_98_0 _ _ _).trans ?_
  refine (am_bind_i (s_94 L (am_put σ 50 0 0) x1)).trans ?_
  refine (e_98_10 _ _ _ _).trans ?_
  refine Eq.trans (b := am_r L 98 22 [some (.inr (.inr (50, none))), some (.inl x1)] [.inl (if (v_94 (am_put σ 50 0 0) x1) = 0 then ((-1) : Int32) else (v_97 (am_put σ 50 0 0) x1))] (am_put σ 50 0 0)) ?_ ?_
  · by_cases hc310 : (v_94 (am_put σ 50 0 0) x1) = 0
    · simp only [if_pos hc310]
      all_goals
        refine (e_98_21 _ _ _).trans ?_
        rfl
    · simp only [if_neg hc310]
      all_goals
        refine (am_bind_i (s_97 L (am_put σ 50 0 0) x1 ((h hc310)))).trans ?_
        refine (e_98_18 _ _ _ _).trans ?_
        rfl
  refine (e_98_22 _ _ _ _).trans ?_
  rfl
-- 99: X5_square
def v_99 (σ : am_M) (x0 : Int64) : Int64 := (x0 * x0)
set_option maxRecDepth 20000 in
theorem s_99 (L : Nat) (σ : am_M) (x0 : Int64) : am_r L 99 0 [some (.inr (.inl x0)), none] [] σ = some (some (.inr (.inl (v_99 σ x0))), am_sh0 L, σ) := by
  unfold v_99
  refine (e_99_0 _ _ _).trans ?_
  rfl
-- 100a57: X5_along
def l_100a57_9 : Nat → am_M → Int32 → Int32 → Int32 → Int32 → Int32 → Int32 → Int32 → Int32 → Int32
  | 0, _, _, _, _, _, _, _, _, _ => 0
  | n + 1, σ, x1, x3, x4, x5, x6, x7, x8, x9 => (if x9 < 3 then (l_100a57_9 n σ x1 x3 x4 x5 x6 (if (x4 * (σ.1 57 (((x3 + x9)).toNatClampNeg))) = 0 then (x7 : Int32) else (if ((x4 * (σ.1 57 (((x3 + x9)).toNatClampNeg))) * (σ.1 60 ((((6 * x1) + x9)).toNatClampNeg))) < ((x4 * (σ.1 57 (((x3 + x9)).toNatClampNeg))) * (σ.1 60 (((((6 * x1) + 3) + x9)).toNatClampNeg))) then (((x4 * (σ.1 57 (((x3 + x9)).toNatClampNeg))) * (σ.1 60 ((((6 * x1) + x9)).toNatClampNeg))) : Int32) else ((x4 * (σ.1 57 (((x3 + x9)).toNatClampNeg))) * (σ.1 60 (((((6 * x1) + 3) + x9)).toNatClampNeg))))) (if (x4 * (σ.1 57 (((x3 + x9)).toNatClampNeg))) = 0 then (x8 : Int32) else (if ((x4 * (σ.1 57 (((x3 + x9)).toNatClampNeg))) * (σ.1 60 ((((6 * x1) + x9)).toNatClampNeg))) < ((x4 * (σ.1 57 (((x3 + x9)).toNatClampNeg))) * (σ.1 60 (((((6 * x1) + 3) + x9)).toNatClampNeg))) then (((x4 * (σ.1 57 (((x3 + x9)).toNatClampNeg))) * (σ.1 60 (((((6 * x1) + 3) + x9)).toNatClampNeg))) : Int32) else ((x4 * (σ.1 57 (((x3 + x9)).toNatClampNeg))) * (σ.1 60 ((((6 * x1) + x9)).toNatClampNeg))))) (x9 + 1)) else ((if x5 = 0 then (x7 : Int32) else x8) - x6))
def q_100a57_9 : Nat → am_M → Int32 → Int32 → Int32 → Int32 → Int32 → Int32 → Int32 → Int32 → Prop
  | 0, _, _, _, _, _, _, _, _, _ => False
  | n + 1, σ, x1, x3, x4, x5, x6, x7, x8, x9 => (x9 < 3) → ((¬ ((x3 + x9) < 0 ∨ 39 ≤ ((x3 + x9)).toNatClampNeg)) ∧ ((¬ ((x4 * (σ.1 57 (((x3 + x9)).toNatClampNeg))) = 0) → ((¬ (((6 * x1) + x9) < 0 ∨ 78 ≤ (((6 * x1) + x9)).toNatClampNeg)) ∧ (¬ ((((6 * x1) + 3) + x9) < 0 ∨ 78 ≤ ((((6 * x1) + 3) + x9)).toNatClampNeg)))) ∧ (q_100a57_9 n σ x1 x3 x4 x5 x6 (if (x4 * (σ.1 57 (((x3 + x9)).toNatClampNeg))) = 0 then (x7 : Int32) else (if ((x4 * (σ.1 57 (((x3 + x9)).toNatClampNeg))) * (σ.1 60 ((((6 * x1) + x9)).toNatClampNeg))) < ((x4 * (σ.1 57 (((x3 + x9)).toNatClampNeg))) * (σ.1 60 (((((6 * x1) + 3) + x9)).toNatClampNeg))) then (((x4 * (σ.1 57 (((x3 + x9)).toNatClampNeg))) * (σ.1 60 ((((6 * x1) + x9)).toNatClampNeg))) : Int32) else ((x4 * (σ.1 57 (((x3 + x9)).toNatClampNeg))) * (σ.1 60 (((((6 * x1) + 3) + x9)).toNatClampNeg))))) (if (x4 * (σ.1 57 (((x3 + x9)).toNatClampNeg))) = 0 then (x8 : Int32) else (if ((x4 * (σ.1 57 (((x3 + x9)).toNatClampNeg))) * (σ.1 60 ((((6 * x1) + x9)).toNatClampNeg))) < ((x4 * (σ.1 57 (((x3 + x9)).toNatClampNeg))) * (σ.1 60 (((((6 * x1) + 3) + x9)).toNatClampNeg))) then (((x4 * (σ.1 57 (((x3 + x9)).toNatClampNeg))) * (σ.1 60 (((((6 * x1) + 3) + x9)).toNatClampNeg))) : Int32) else ((x4 * (σ.1 57 (((x3 + x9)).toNatClampNeg))) * (σ.1 60 ((((6 * x1) + x9)).toNatClampNeg))))) (x9 + 1))))
set_option maxRecDepth 20000 in
theorem t_100a57_9 (L : Nat) (σ : am_M) : ∀ (n : Nat) (x1 : Int32) (x3 : Int32) (x4 : Int32) (x5 : Int32) (x6 : Int32) (x7 : Int32) (x8 : Int32) (x9 : Int32) (o10 : Option am_V) (o11 : Option am_V) (o12 : Option am_V), q_100a57_9 n σ x1 x3 x4 x5 x6 x7 x8 x9 → am_r L 100 9 [some (.inr (.inr (50, none))), some (.inl x1), some (.inr (.inr (57, none))), some (.inl x3), some (.inl x4), some (.inl x5), some (.inl x6), some (.inl x7), some (.inl x8), some (.inl x9), o10, o11, o12] [] σ = some (some (.inl (l_100a57_9 n σ x1 x3 x4 x5 x6 x7 x8 x9)), am_sh0 L, σ) := by
  intro n
  induction n with
  | zero => intro x1 x3 x4 x5 x6 x7 x8 x9 o10 o11 o12 h; exact h.elim
  | succ n ih =>
    intro x1 x3 x4 x5 x6 x7 x8 x9 o10 o11 o12 h
    unfold q_100a57_9 at h
    unfold l_100a57_9
    refine (e_100a57_9 _ _ _ _ _ _ _ _ _ _ _ _ _).trans ?_
    by_cases hc311 : x9 < 3
    · simp only [if_pos hc311]
      all_goals
        refine (if_neg ((h hc311).1)).trans ?_
        refine Eq.trans (b := am_r L 100 99 [some (.inr (.inr (50, none))), some (.inl x1), some (.inr (.inr (57, none))), some (.inl x3), some (.inl x4), some (.inl x5), some (.inl x6), some (.inl (if (x4 * (σ.1 57 (((x3 + x9)).toNatClampNeg))) = 0 then (x7 : Int32) else (if ((x4 * (σ.1 57 (((x3 + x9)).toNatClampNeg))) * (σ.1 60 ((((6 * x1) + x9)).toNatClampNeg))) < ((x4 * (σ.1 57 (((x3 + x9)).toNatClampNeg))) * (σ.1 60 (((((6 * x1) + 3) + x9)).toNatClampNeg))) then (((x4 * (σ.1 57 (((x3 + x9)).toNatClampNeg))) * (σ.1 60 ((((6 * x1) + x9)).toNatClampNeg))) : Int32) else ((x4 * (σ.1 57 (((x3 + x9)).toNatClampNeg))) * (σ.1 60 (((((6 * x1) + 3) + x9)).toNatClampNeg)))))), some (.inl (if (x4 * (σ.1 57 (((x3 + x9)).toNatClampNeg))) = 0 then (x8 : Int32) else (if ((x4 * (σ.1 57 (((x3 + x9)).toNatClampNeg))) * (σ.1 60 ((((6 * x1) + x9)).toNatClampNeg))) < ((x4 * (σ.1 57 (((x3 + x9)).toNatClampNeg))) * (σ.1 60 (((((6 * x1) + 3) + x9)).toNatClampNeg))) then (((x4 * (σ.1 57 (((x3 + x9)).toNatClampNeg))) * (σ.1 60 (((((6 * x1) + 3) + x9)).toNatClampNeg))) : Int32) else ((x4 * (σ.1 57 (((x3 + x9)).toNatClampNeg))) * (σ.1 60 ((((6 * x1) + x9)).toNatClampNeg)))))), some (.inl x9), some (.inl (x4 * (σ.1 57 (((x3 + x9)).toNatClampNeg)))), (if (x4 * (σ.1 57 (((x3 + x9)).toNatClampNeg))) = 0 then o11 else some (.inl ((x4 * (σ.1 57 (((x3 + x9)).toNatClampNeg))) * (σ.1 60 ((((6 * x1) + x9)).toNatClampNeg))))), (if (x4 * (σ.1 57 (((x3 + x9)).toNatClampNeg))) = 0 then o12 else some (.inl ((x4 * (σ.1 57 (((x3 + x9)).toNatClampNeg))) * (σ.1 60 (((((6 * x1) + 3) + x9)).toNatClampNeg)))))] [] σ) ?_ ?_
        · by_cases hc312 : (x4 * (σ.1 57 (((x3 + x9)).toNatClampNeg))) = 0
          · simp only [if_pos hc312]
            all_goals
              rfl
          · simp only [if_neg hc312]
            all_goals
              refine (if_neg (((h hc311).2.1 hc312).1)).trans ?_
              refine (e_100a57_45 _ _ _ _ _ _ _ _ _ _ _ _ _ _ _).trans ?_
              refine (if_neg (((h hc311).2.1 hc312).2)).trans ?_
              refine Eq.trans (b := am_r L 100 81 [some (.inr (.inr (50, none))), some (.inl x1), some (.inr (.inr (57, none))), some (.inl x3), some (.inl x4), some (.inl x5), some (.inl x6), some (.inl x7), some (.inl x8), some (.inl x9), some (.inl (x4 * (σ.1 57 (((x3 + x9)).toNatClampNeg)))), some (.inl ((x4 * (σ.1 57 (((x3 + x9)).toNatClampNeg))) * (σ.1 60 ((((6 * x1) + x9)).toNatClampNeg)))), some (.inl ((x4 * (σ.1 57 (((x3 + x9)).toNatClampNeg))) * (σ.1 60 (((((6 * x1) + 3) + x9)).toNatClampNeg))))] [.inl (if ((x4 * (σ.1 57 (((x3 + x9)).toNatClampNeg))) * (σ.1 60 ((((6 * x1) + x9)).toNatClampNeg))) < ((x4 * (σ.1 57 (((x3 + x9)).toNatClampNeg))) * (σ.1 60 (((((6 * x1) + 3) + x9)).toNatClampNeg))) then (((x4 * (σ.1 57 (((x3 + x9)).toNatClampNeg))) * (σ.1 60 ((((6 * x1) + x9)).toNatClampNeg))) : Int32) else ((x4 * (σ.1 57 (((x3 + x9)).toNatClampNeg))) * (σ.1 60 (((((6 * x1) + 3) + x9)).toNatClampNeg))))] σ) ?_ ?_
              · by_cases hc313 : ((x4 * (σ.1 57 (((x3 + x9)).toNatClampNeg))) * (σ.1 60 ((((6 * x1) + x9)).toNatClampNeg))) < ((x4 * (σ.1 57 (((x3 + x9)).toNatClampNeg))) * (σ.1 60 (((((6 * x1) + 3) + x9)).toNatClampNeg)))
                · simp only [if_pos hc313]
                  all_goals
                    rfl
                · simp only [if_neg hc313]
                  all_goals
                    refine (e_100a57_79 _ _ _ _ _ _ _ _ _ _ _ _ _).trans ?_
                    rfl
              refine (e_100a57_81 _ _ _ _ _ _ _ _ _ _ _ _ _ _).trans ?_
              refine Eq.trans (b := am_r L 100 97 [some (.inr (.inr (50, none))), some (.inl x1), some (.inr (.inr (57, none))), some (.inl x3), some (.inl x4), some (.inl x5), some (.inl x6), some (.inl (if ((x4 * (σ.1 57 (((x3 + x9)).toNatClampNeg))) * (σ.1 60 ((((6 * x1) + x9)).toNatClampNeg))) < ((x4 * (σ.1 57 (((x3 + x9)).toNatClampNeg))) * (σ.1 60 (((((6 * x1) + 3) + x9)).toNatClampNeg))) then (((x4 * (σ.1 57 (((x3 + x9)).toNatClampNeg))) * (σ.1 60 ((((6 * x1) + x9)).toNatClampNeg))) : Int32) else ((x4 * (σ.1 57 (((x3 + x9)).toNatClampNeg))) * (σ.1 60 (((((6 * x1) + 3) + x9)).toNatClampNeg))))), some (.inl x8), some (.inl x9), some (.inl (x4 * (σ.1 57 (((x3 + x9)).toNatClampNeg)))), some (.inl ((x4 * (σ.1 57 (((x3 + x9)).toNatClampNeg))) * (σ.1 60 ((((6 * x1) + x9)).toNatClampNeg)))), some (.inl ((x4 * (σ.1 57 (((x3 + x9)).toNatClampNeg))) * (σ.1 60 (((((6 * x1) + 3) + x9)).toNatClampNeg))))] [.inl (if ((x4 * (σ.1 57 (((x3 + x9)).toNatClampNeg))) * (σ.1 60 ((((6 * x1) + x9)).toNatClampNeg))) < ((x4 * (σ.1 57 (((x3 + x9)).toNatClampNeg))) * (σ.1 60 (((((6 * x1) + 3) + x9)).toNatClampNeg))) then (((x4 * (σ.1 57 (((x3 + x9)).toNatClampNeg))) * (σ.1 60 (((((6 * x1) + 3) + x9)).toNatClampNeg))) : Int32) else ((x4 * (σ.1 57 (((x3 + x9)).toNatClampNeg))) * (σ.1 60 ((((6 * x1) + x9)).toNatClampNeg))))] σ) ?_ ?_
              · by_cases hc314 : ((x4 * (σ.1 57 (((x3 + x9)).toNatClampNeg))) * (σ.1 60 ((((6 * x1) + x9)).toNatClampNeg))) < ((x4 * (σ.1 57 (((x3 + x9)).toNatClampNeg))) * (σ.1 60 (((((6 * x1) + 3) + x9)).toNatClampNeg)))
                · simp only [if_pos hc314]
                  all_goals
                    rfl
                · simp only [if_neg hc314]
                  all_goals
                    refine (e_100a57_95 _ _ _ _ _ _ _ _ _ _ _ _ _).trans ?_
                    rfl
              refine (e_100a57_97 _ _ _ _ _ _ _ _ _ _ _ _ _ _).trans ?_
              rfl
        refine (e_100a57_99 _ _ _ _ _ _ _ _ _ _ _ _ _).trans ?_
        exact ih x1 x3 x4 x5 x6 (if (x4 * (σ.1 57 (((x3 + x9)).toNatClampNeg))) = 0 then (x7 : Int32) else (if ((x4 * (σ.1 57 (((x3 + x9)).toNatClampNeg))) * (σ.1 60 ((((6 * x1) + x9)).toNatClampNeg))) < ((x4 * (σ.1 57 (((x3 + x9)).toNatClampNeg))) * (σ.1 60 (((((6 * x1) + 3) + x9)).toNatClampNeg))) then (((x4 * (σ.1 57 (((x3 + x9)).toNatClampNeg))) * (σ.1 60 ((((6 * x1) + x9)).toNatClampNeg))) : Int32) else ((x4 * (σ.1 57 (((x3 + x9)).toNatClampNeg))) * (σ.1 60 (((((6 * x1) + 3) + x9)).toNatClampNeg))))) (if (x4 * (σ.1 57 (((x3 + x9)).toNatClampNeg))) = 0 then (x8 : Int32) else (if ((x4 * (σ.1 57 (((x3 + x9)).toNatClampNeg))) * (σ.1 60 ((((6 * x1) + x9)).toNatClampNeg))) < ((x4 * (σ.1 57 (((x3 + x9)).toNatClampNeg))) * (σ.1 60 (((((6 * x1) + 3) + x9)).toNatClampNeg))) then (((x4 * (σ.1 57 (((x3 + x9)).toNatClampNeg))) * (σ.1 60 (((((6 * x1) + 3) + x9)).toNatClampNeg))) : Int32) else ((x4 * (σ.1 57 (((x3 + x9)).toNatClampNeg))) * (σ.1 60 ((((6 * x1) + x9)).toNatClampNeg))))) (x9 + 1) (some (.inl (x4 * (σ.1 57 (((x3 + x9)).toNatClampNeg))))) (if (x4 * (σ.1 57 (((x3 + x9)).toNatClampNeg))) = 0 then o11 else some (.inl ((x4 * (σ.1 57 (((x3 + x9)).toNatClampNeg))) * (σ.1 60 ((((6 * x1) + x9)).toNatClampNeg))))) (if (x4 * (σ.1 57 (((x3 + x9)).toNatClampNeg))) = 0 then o12 else some (.inl ((x4 * (σ.1 57 (((x3 + x9)).toNatClampNeg))) * (σ.1 60 (((((6 * x1) + 3) + x9)).toNatClampNeg))))) ((h hc311).2.2)
    · simp only [if_neg hc311]
      all_goals
        refine (e_100a57_105 _ _ _ _ _ _ _ _ _ _ _ _ _).trans ?_
        refine Eq.trans (b := am_r L 100 117 [some (.inr (.inr (50, none))), some (.inl x1), some (.inr (.inr (57, none))), some (.inl x3), some (.inl x4), some (.inl x5), some (.inl x6), some (.inl x7), some (.inl x8), some (.inl x9), o10, o11, o12] [.inl (if x5 = 0 then (x7 : Int32) else x8)] σ) ?_ ?_
        · by_cases hc315 : x5 = 0
          · simp only [if_pos hc315]
            all_goals
              refine (e_100a57_115 _ _ _ _ _ _ _ _ _ _ _ _ _).trans ?_
              rfl
          · simp only [if_neg hc315]
            all_goals
              rfl
        refine (e_100a57_117 _ _ _ _ _ _ _ _ _ _ _ _ _ _).trans ?_
        rfl
def p_100a57 (σ : am_M) (x1 : Int32) (x3 : Int32) (x4 : Int32) (x5 : Int32) (x6 : Int32) : Prop := q_100a57_9 14 σ x1 x3 x4 x5 x6 0 0 0
def f_100a57 (σ : am_M) (x1 : Int32) (x3 : Int32) (x4 : Int32) (x5 : Int32) (x6 : Int32) : Int32 := (l_100a57_9 14 σ x1 x3 x4 x5 x6 0 0 0)
set_option maxRecDepth 20000 in
theorem sf_100a57 (L : Nat) (σ : am_M) (x1 : Int32) (x3 : Int32) (x4 : Int32) (x5 : Int32) (x6 : Int32) (h : p_100a57 σ x1 x3 x4 x5 x6) : am_r L 100 0 [some (.inr (.inr (50, none))), some (.inl x1), some (.inr (.inr (57, none))), some (.inl x3), some (.inl x4), some (.inl x5), some (.inl x6), none, none, none, none, none, none] [] σ = some (some (.inl (f_100a57 σ x1 x3 x4 x5 x6)), am_sh0 L, σ) := by
  unfold p_100a57 at h
  unfold f_100a57
  refine (e_100a57_0 _ _ _ _ _ _ _).trans ?_
  exact t_100a57_9 L σ 14 x1 x3 x4 x5 x6 0 0 0 none none none h
def v_100a57 (σ : am_M) (x1 : Int32) (x3 : Int32) (x4 : Int32) (x5 : Int32) (x6 : Int32) : Int32 := f_100a57 σ x1 x3 x4 x5 x6
theorem s_100a57 (L : Nat) (σ : am_M) (x1 : Int32) (x3 : Int32) (x4 : Int32) (x5 : Int32) (x6 : Int32) (h : p_100a57 σ x1 x3 x4 x5 x6) : am_r L 100 0 [some (.inr (.inr (50, none))), some (.inl x1), some (.inr (.inr (57, none))), some (.inl x3), some (.inl x4), some (.inl x5), some (.inl x6), none, none, none, none, none, none] [] σ = some (some (.inl (v_100a57 σ x1 x3 x4 x5 x6)), am_sh0 L, σ) := sf_100a57 L σ x1 x3 x4 x5 x6 h
-- 100a58: X5_along
def l_100a58_9 : Nat → am_M → Int32 → Int32 → Int32 → Int32 → Int32 → Int32 → Int32 → Int32 → Int32
  | 0, _, _, _, _, _, _, _, _, _ => 0
  | n + 1, σ, x1, x3, x4, x5, x6, x7, x8, x9 => (if x9 < 3 then (l_100a58_9 n σ x1 x3 x4 x5 x6 (if (x4 * (σ.1 58 (((x3 + x9)).toNatClampNeg))) = 0 then (x7 : Int32) else (if ((x4 * (σ.1 58 (((x3 + x9)).toNatClampNeg))) * (σ.1 60 ((((6 * x1) + x9)).toNatClampNeg))) < ((x4 * (σ.1 58 (((x3 + x9)).toNatClampNeg))) * (σ.1 60 (((((6 * x1) + 3) + x9)).toNatClampNeg))) then (((x4 * (σ.1 58 (((x3 + x9)).toNatClampNeg))) * (σ.1 60 ((((6 * x1) + x9)).toNatClampNeg))) : Int32) else ((x4 * (σ.1 58 (((x3 + x9)).toNatClampNeg))) * (σ.1 60 (((((6 * x1) + 3) + x9)).toNatClampNeg))))) (if (x4 * (σ.1 58 (((x3 + x9)).toNatClampNeg))) = 0 then (x8 : Int32) else (if ((x4 * (σ.1 58 (((x3 + x9)).toNatClampNeg))) * (σ.1 60 ((((6 * x1) + x9)).toNatClampNeg))) < ((x4 * (σ.1 58 (((x3 + x9)).toNatClampNeg))) * (σ.1 60 (((((6 * x1) + 3) + x9)).toNatClampNeg))) then (((x4 * (σ.1 58 (((x3 + x9)).toNatClampNeg))) * (σ.1 60 (((((6 * x1) + 3) + x9)).toNatClampNeg))) : Int32) else ((x4 * (σ.1 58 (((x3 + x9)).toNatClampNeg))) * (σ.1 60 ((((6 * x1) + x9)).toNatClampNeg))))) (x9 + 1)) else ((if x5 = 0 then (x7 : Int32) else x8) - x6))
def q_100a58_9 : Nat → am_M → Int32 → Int32 → Int32 → Int32 → Int32 → Int32 → Int32 → Int32 → Prop
  | 0, _, _, _, _, _, _, _, _, _ => False
  | n + 1, σ, x1, x3, x4, x5, x6, x7, x8, x9 => (x9 < 3) → ((¬ ((x3 + x9) < 0 ∨ 39 ≤ ((x3 + x9)).toNatClampNeg)) ∧ ((¬ ((x4 * (σ.1 58 (((x3 + x9)).toNatClampNeg))) = 0) → ((¬ (((6 * x1) + x9) < 0 ∨ 78 ≤ (((6 * x1) + x9)).toNatClampNeg)) ∧ (¬ ((((6 * x1) + 3) + x9) < 0 ∨ 78 ≤ ((((6 * x1) + 3) + x9)).toNatClampNeg)))) ∧ (q_100a58_9 n σ x1 x3 x4 x5 x6 (if (x4 * (σ.1 58 (((x3 + x9)).toNatClampNeg))) = 0 then (x7 : Int32) else (if ((x4 * (σ.1 58 (((x3 + x9)).toNatClampNeg))) * (σ.1 60 ((((6 * x1) + x9)).toNatClampNeg))) < ((x4 * (σ.1 58 (((x3 + x9)).toNatClampNeg))) * (σ.1 60 (((((6 * x1) + 3) + x9)).toNatClampNeg))) then (((x4 * (σ.1 58 (((x3 + x9)).toNatClampNeg))) * (σ.1 60 ((((6 * x1) + x9)).toNatClampNeg))) : Int32) else ((x4 * (σ.1 58 (((x3 + x9)).toNatClampNeg))) * (σ.1 60 (((((6 * x1) + 3) + x9)).toNatClampNeg))))) (if (x4 * (σ.1 58 (((x3 + x9)).toNatClampNeg))) = 0 then (x8 : Int32) else (if ((x4 * (σ.1 58 (((x3 + x9)).toNatClampNeg))) * (σ.1 60 ((((6 * x1) + x9)).toNatClampNeg))) < ((x4 * (σ.1 58 (((x3 + x9)).toNatClampNeg))) * (σ.1 60 (((((6 * x1) + 3) + x9)).toNatClampNeg))) then (((x4 * (σ.1 58 (((x3 + x9)).toNatClampNeg))) * (σ.1 60 (((((6 * x1) + 3) + x9)).toNatClampNeg))) : Int32) else ((x4 * (σ.1 58 (((x3 + x9)).toNatClampNeg))) * (σ.1 60 ((((6 * x1) + x9)).toNatClampNeg))))) (x9 + 1))))
set_option maxRecDepth 20000 in
theorem t_100a58_9 (L : Nat) (σ : am_M) : ∀ (n : Nat) (x1 : Int32) (x3 : Int32) (x4 : Int32) (x5 : Int32) (x6 : Int32) (x7 : Int32) (x8 : Int32) (x9 : Int32) (o10 : Option am_V) (o11 : Option am_V) (o12 : Option am_V), q_100a58_9 n σ x1 x3 x4 x5 x6 x7 x8 x9 → am_r L 100 9 [some (.inr (.inr (50, none))), some (.inl x1), some (.inr (.inr (58, none))), some (.inl x3), some (.inl x4), some (.inl x5), some (.inl x6), some (.inl x7), some (.inl x8), some (.inl x9), o10, o11, o12] [] σ = some (some (.inl (l_100a58_9 n σ x1 x3 x4 x5 x6 x7 x8 x9)), am_sh0 L, σ) := by
  intro n
  induction n with
  | zero => intro x1 x3 x4 x5 x6 x7 x8 x9 o10 o11 o12 h; exact h.elim
  | succ n ih =>
    intro x1 x3 x4 x5 x6 x7 x8 x9 o10 o11 o12 h
    unfold q_100a58_9 at h
    unfold l_100a58_9
    refine (e_100a58_9 _ _ _ _ _ _ _ _ _ _ _ _ _).trans ?_
    by_cases hc316 : x9 < 3
    · simp only [if_pos hc316]
      all_goals
        refine (if_neg ((h hc316).1)).trans ?_
        refine Eq.trans (b := am_r L 100 99 [some (.inr (.inr (50, none))), some (.inl x1), some (.inr (.inr (58, none))), some (.inl x3), some (.inl x4), some (.inl x5), some (.inl x6), some (.inl (if (x4 * (σ.1 58 (((x3 + x9)).toNatClampNeg))) = 0 then (x7 : Int32) else (if ((x4 * (σ.1 58 (((x3 + x9)).toNatClampNeg))) * (σ.1 60 ((((6 * x1) + x9)).toNatClampNeg))) < ((x4 * (σ.1 58 (((x3 + x9)).toNatClampNeg))) * (σ.1 60 (((((6 * x1) + 3) + x9)).toNatClampNeg))) then (((x4 * (σ.1 58 (((x3 + x9)).toNatClampNeg))) * (σ.1 60 ((((6 * x1) + x9)).toNatClampNeg))) : Int32) else ((x4 * (σ.1 58 (((x3 + x9)).toNatClampNeg))) * (σ.1 60 (((((6 * x1) + 3) + x9)).toNatClampNeg)))))), some (.inl (if (x4 * (σ.1 58 (((x3 + x9)).toNatClampNeg))) = 0 then (x8 : Int32) else (if ((x4 * (σ.1 58 (((x3 + x9)).toNatClampNeg))) * (σ.1 60 ((((6 * x1) + x9)).toNatClampNeg))) < ((x4 * (σ.1 58 (((x3 + x9)).toNatClampNeg))) * (σ.1 60 (((((6 * x1) + 3) + x9)).toNatClampNeg))) then (((x4 * (σ.1 58 (((x3 + x9)).toNatClampNeg))) * (σ.1 60 (((((6 * x1) + 3) + x9)).toNatClampNeg))) : Int32) else ((x4 * (σ.1 58 (((x3 + x9)).toNatClampNeg))) * (σ.1 60 ((((6 * x1) + x9)).toNatClampNeg)))))), some (.inl x9), some (.inl (x4 * (σ.1 58 (((x3 + x9)).toNatClampNeg)))), (if (x4 * (σ.1 58 (((x3 + x9)).toNatClampNeg))) = 0 then o11 else some (.inl ((x4 * (σ.1 58 (((x3 + x9)).toNatClampNeg))) * (σ.1 60 ((((6 * x1) + x9)).toNatClampNeg))))), (if (x4 * (σ.1 58 (((x3 + x9)).toNatClampNeg))) = 0 then o12 else some (.inl ((x4 * (σ.1 58 (((x3 + x9)).toNatClampNeg))) * (σ.1 60 (((((6 * x1) + 3) + x9)).toNatClampNeg)))))] [] σ) ?_ ?_
        · by_cases hc317 : (x4 * (σ.1 58 (((x3 + x9)).toNatClampNeg))) = 0
          · simp only [if_pos hc317]
            all_goals
              rfl
          · simp only [if_neg hc317]
            all_goals
              refine (if_neg (((h hc316).2.1 hc317).1)).trans ?_
              refine (e_100a58_45 _ _ _ _ _ _ _ _ _ _ _ _ _ _ _).trans ?_
              refine (if_neg (((h hc316).2.1 hc317).2)).trans ?_
              refine Eq.trans (b := am_r L 100 81 [some (.inr (.inr (50, none))), some (.inl x1), some (.inr (.inr (58, none))), some (.inl x3), some (.inl x4), some (.inl x5), some (.inl x6), some (.inl x7), some (.inl x8), some (.inl x9), some (.inl (x4 * (σ.1 58 (((x3 + x9)).toNatClampNeg)))), some (.inl ((x4 * (σ.1 58 (((x3 + x9)).toNatClampNeg))) * (σ.1 60 ((((6 * x1) + x9)).toNatClampNeg)))), some (.inl ((x4 * (σ.1 58 (((x3 + x9)).toNatClampNeg))) * (σ.1 60 (((((6 * x1) + 3) + x9)).toNatClampNeg))))] [.inl (if ((x4 * (σ.1 58 (((x3 + x9)).toNatClampNeg))) * (σ.1 60 ((((6 * x1) + x9)).toNatClampNeg))) < ((x4 * (σ.1 58 (((x3 + x9)).toNatClampNeg))) * (σ.1 60 (((((6 * x1) + 3) + x9)).toNatClampNeg))) then (((x4 * (σ.1 58 (((x3 + x9)).toNatClampNeg))) * (σ.1 60 ((((6 * x1) + x9)).toNatClampNeg))) : Int32) else ((x4 * (σ.1 58 (((x3 + x9)).toNatClampNeg))) * (σ.1 60 (((((6 * x1) + 3) + x9)).toNatClampNeg))))] σ) ?_ ?_
              · by_cases hc318 : ((x4 * (σ.1 58 (((x3 + x9)).toNatClampNeg))) * (σ.1 60 ((((6 * x1) + x9)).toNatClampNeg))) < ((x4 * (σ.1 58 (((x3 + x9)).toNatClampNeg))) * (σ.1 60 (((((6 * x1) + 3) + x9)).toNatClampNeg)))
                · simp only [if_pos hc318]
                  all_goals
                    rfl
                · simp only [if_neg hc318]
                  all_goals
                    refine (e_100a58_79 _ _ _ _ _ _ _ _ _ _ _ _ _).trans ?_
                    rfl
              refine (e_100a58_81 _ _ _ _ _ _ _ _ _ _ _ _ _ _).trans ?_
              refine Eq.trans (b := am_r L 100 97 [some (.inr (.inr (50, none))), some (.inl x1), some (.inr (.inr (58, none))), some (.inl x3), some (.inl x4), some (.inl x5), some (.inl x6), some (.inl (if ((x4 * (σ.1 58 (((x3 + x9)).toNatClampNeg))) * (σ.1 60 ((((6 * x1) + x9)).toNatClampNeg))) < ((x4 * (σ.1 58 (((x3 + x9)).toNatClampNeg))) * (σ.1 60 (((((6 * x1) + 3) + x9)).toNatClampNeg))) then (((x4 * (σ.1 58 (((x3 + x9)).toNatClampNeg))) * (σ.1 60 ((((6 * x1) + x9)).toNatClampNeg))) : Int32) else ((x4 * (σ.1 58 (((x3 + x9)).toNatClampNeg))) * (σ.1 60 (((((6 * x1) + 3) + x9)).toNatClampNeg))))), some (.inl x8), some (.inl x9), some (.inl (x4 * (σ.1 58 (((x3 + x9)).toNatClampNeg)))), some (.inl ((x4 * (σ.1 58 (((x3 + x9)).toNatClampNeg))) * (σ.1 60 ((((6 * x1) + x9)).toNatClampNeg)))), some (.inl ((x4 * (σ.1 58 (((x3 + x9)).toNatClampNeg))) * (σ.1 60 (((((6 * x1) + 3) + x9)).toNatClampNeg))))] [.inl (if ((x4 * (σ.1 58 (((x3 + x9)).toNatClampNeg))) * (σ.1 60 ((((6 * x1) + x9)).toNatClampNeg))) < ((x4 * (σ.1 58 (((x3 + x9)).toNatClampNeg))) * (σ.1 60 (((((6 * x1) + 3) + x9)).toNatClampNeg))) then (((x4 * (σ.1 58 (((x3 + x9)).toNatClampNeg))) * (σ.1 60 (((((6 * x1) + 3) + x9)).toNatClampNeg))) : Int32) else ((x4 * (σ.1 58 (((x3 + x9)).toNatClampNeg))) * (σ.1 60 ((((6 * x1) + x9)).toNatClampNeg))))] σ) ?_ ?_
              · by_cases hc319 : ((x4 * (σ.1 58 (((x3 + x9)).toNatClampNeg))) * (σ.1 60 ((((6 * x1) + x9)).toNatClampNeg))) < ((x4 * (σ.1 58 (((x3 + x9)).toNatClampNeg))) * (σ.1 60 (((((6 * x1) + 3) + x9)).toNatClampNeg)))
                · simp only [if_pos hc319]
                  all_goals
                    rfl
                · simp only [if_neg hc319]
                  all_goals
                    refine (e_100a58_95 _ _ _ _ _ _ _ _ _ _ _ _ _).trans ?_
                    rfl
              refine (e_100a58_97 _ _ _ _ _ _ _ _ _ _ _ _ _ _).trans ?_
              rfl
        refine (e_100a58_99 _ _ _ _ _ _ _ _ _ _ _ _ _).trans ?_
        exact ih x1 x3 x4 x5 x6 (if (x4 * (σ.1 58 (((x3 + x9)).toNatClampNeg))) = 0 then (x7 : Int32) else (if ((x4 * (σ.1 58 (((x3 + x9)).toNatClampNeg))) * (σ.1 60 ((((6 * x1) + x9)).toNatClampNeg))) < ((x4 * (σ.1 58 (((x3 + x9)).toNatClampNeg))) * (σ.1 60 (((((6 * x1) + 3) + x9)).toNatClampNeg))) then (((x4 * (σ.1 58 (((x3 + x9)).toNatClampNeg))) * (σ.1 60 ((((6 * x1) + x9)).toNatClampNeg))) : Int32) else ((x4 * (σ.1 58 (((x3 + x9)).toNatClampNeg))) * (σ.1 60 (((((6 * x1) + 3) + x9)).toNatClampNeg))))) (if (x4 * (σ.1 58 (((x3 + x9)).toNatClampNeg))) = 0 then (x8 : Int32) else (if ((x4 * (σ.1 58 (((x3 + x9)).toNatClampNeg))) * (σ.1 60 ((((6 * x1) + x9)).toNatClampNeg))) < ((x4 * (σ.1 58 (((x3 + x9)).toNatClampNeg))) * (σ.1 60 (((((6 * x1) + 3) + x9)).toNatClampNeg))) then (((x4 * (σ.1 58 (((x3 + x9)).toNatClampNeg))) * (σ.1 60 (((((6 * x1) + 3) + x9)).toNatClampNeg))) : Int32) else ((x4 * (σ.1 58 (((x3 + x9)).toNatClampNeg))) * (σ.1 60 ((((6 * x1) + x9)).toNatClampNeg))))) (x9 + 1) (some (.inl (x4 * (σ.1 58 (((x3 + x9)).toNatClampNeg))))) (if (x4 * (σ.1 58 (((x3 + x9)).toNatClampNeg))) = 0 then o11 else some (.inl ((x4 * (σ.1 58 (((x3 + x9)).toNatClampNeg))) * (σ.1 60 ((((6 * x1) + x9)).toNatClampNeg))))) (if (x4 * (σ.1 58 (((x3 + x9)).toNatClampNeg))) = 0 then o12 else some (.inl ((x4 * (σ.1 58 (((x3 + x9)).toNatClampNeg))) * (σ.1 60 (((((6 * x1) + 3) + x9)).toNatClampNeg))))) ((h hc316).2.2)
    · simp only [if_neg hc316]
      all_goals
        refine (e_100a58_105 _ _ _ _ _ _ _ _ _ _ _ _ _).trans ?_
        refine Eq.trans (b := am_r L 100 117 [some (.inr (.inr (50, none))), some (.inl x1), some (.inr (.inr (58, none))), some (.inl x3), some (.inl x4), some (.inl x5), some (.inl x6), some (.inl x7), some (.inl x8), some (.inl x9), o10, o11, o12] [.inl (if x5 = 0 then (x7 : Int32) else x8)] σ) ?_ ?_
        · by_cases hc320 : x5 = 0
          · simp only [if_pos hc320]
            all_goals
              refine (e_100a58_115 _ _ _ _ _ _ _ _ _ _ _ _ _).trans ?_
              rfl
          · simp only [if_neg hc320]
            all_goals
              rfl
        refine (e_100a58_117 _ _ _ _ _ _ _ _ _ _ _ _ _ _).trans ?_
        rfl
def p_100a58 (σ : am_M) (x1 : Int32) (x3 : Int32) (x4 : Int32) (x5 : Int32) (x6 : Int32) : Prop := q_100a58_9 14 σ x1 x3 x4 x5 x6 0 0 0
def f_100a58 (σ : am_M) (x1 : Int32) (x3 : Int32) (x4 : Int32) (x5 : Int32) (x6 : Int32) : Int32 := (l_100a58_9 14 σ x1 x3 x4 x5 x6 0 0 0)
set_option maxRecDepth 20000 in
theorem sf_100a58 (L : Nat) (σ : am_M) (x1 : Int32) (x3 : Int32) (x4 : Int32) (x5 : Int32) (x6 : Int32) (h : p_100a58 σ x1 x3 x4 x5 x6) : am_r L 100 0 [some (.inr (.inr (50, none))), some (.inl x1), some (.inr (.inr (58, none))), some (.inl x3), some (.inl x4), some (.inl x5), some (.inl x6), none, none, none, none, none, none] [] σ = some (some (.inl (f_100a58 σ x1 x3 x4 x5 x6)), am_sh0 L, σ) := by
  unfold p_100a58 at h
  unfold f_100a58
  refine (e_100a58_0 _ _ _ _ _ _ _).trans ?_
  exact t_100a58_9 L σ 14 x1 x3 x4 x5 x6 0 0 0 none none none h
def v_100a58 (σ : am_M) (x1 : Int32) (x3 : Int32) (x4 : Int32) (x5 : Int32) (x6 : Int32) : Int32 := f_100a58 σ x1 x3 x4 x5 x6
theorem s_100a58 (L : Nat) (σ : am_M) (x1 : Int32) (x3 : Int32) (x4 : Int32) (x5 : Int32) (x6 : Int32) (h : p_100a58 σ x1 x3 x4 x5 x6) : am_r L 100 0 [some (.inr (.inr (50, none))), some (.inl x1), some (.inr (.inr (58, none))), some (.inl x3), some (.inl x4), some (.inl x5), some (.inl x6), none, none, none, none, none, none] [] σ = some (some (.inl (v_100a58 σ x1 x3 x4 x5 x6)), am_sh0 L, σ) := sf_100a58 L σ x1 x3 x4 x5 x6 h
-- 100a59: X5_along
def l_100a59_9 : Nat → am_M → Int32 → Int32 → Int32 → Int32 → Int32 → Int32 → Int32 → Int32 → Int32
  | 0, _, _, _, _, _, _, _, _, _ => 0
  | n + 1, σ, x1, x3, x4, x5, x6, x7, x8, x9 => (if x9 < 3 then (l_100a59_9 n σ x1 x3 x4 x5 x6 (if (x4 * (σ.1 59 (((x3 + x9)).toNatClampNeg))) = 0 then (x7 : Int32) else (if ((x4 * (σ.1 59 (((x3 + x9)).toNatClampNeg))) * (σ.1 60 ((((6 * x1) + x9)).toNatClampNeg))) < ((x4 * (σ.1 59 (((x3 + x9)).toNatClampNeg))) * (σ.1 60 (((((6 * x1) + 3) + x9)).toNatClampNeg))) then (((x4 * (σ.1 59 (((x3 + x9)).toNatClampNeg))) * (σ.1 60 ((((6 * x1) + x9)).toNatClampNeg))) : Int32) else ((x4 * (σ.1 59 (((x3 + x9)).toNatClampNeg))) * (σ.1 60 (((((6 * x1) + 3) + x9)).toNatClampNeg))))) (if (x4 * (σ.1 59 (((x3 + x9)).toNatClampNeg))) = 0 then (x8 : Int32) else (if ((x4 * (σ.1 59 (((x3 + x9)).toNatClampNeg))) * (σ.1 60 ((((6 * x1) + x9)).toNatClampNeg))) < ((x4 * (σ.1 59 (((x3 + x9)).toNatClampNeg))) * (σ.1 60 (((((6 * x1) + 3) + x9)).toNatClampNeg))) then (((x4 * (σ.1 59 (((x3 + x9)).toNatClampNeg))) * (σ.1 60 (((((6 * x1) + 3) + x9)).toNatClampNeg))) : Int32) else ((x4 * (σ.1 59 (((x3 + x9)).toNatClampNeg))) * (σ.1 60 ((((6 * x1) + x9)).toNatClampNeg))))) (x9 + 1)) else ((if x5 = 0 then (x7 : Int32) else x8) - x6))
def q_100a59_9 : Nat → am_M → Int32 → Int32 → Int32 → Int32 → Int32 → Int32 → Int32 → Int32 → Prop
  | 0, _, _, _, _, _, _, _, _, _ => False
  | n + 1, σ, x1, x3, x4, x5, x6, x7, x8, x9 => (x9 < 3) → ((¬ ((x3 + x9) < 0 ∨ 39 ≤ ((x3 + x9)).toNatClampNeg)) ∧ ((¬ ((x4 * (σ.1 59 (((x3 + x9)).toNatClampNeg))) = 0) → ((¬ (((6 * x1) + x9) < 0 ∨ 78 ≤ (((6 * x1) + x9)).toNatClampNeg)) ∧ (¬ ((((6 * x1) + 3) + x9) < 0 ∨ 78 ≤ ((((6 * x1) + 3) + x9)).toNatClampNeg)))) ∧ (q_100a59_9 n σ x1 x3 x4 x5 x6 (if (x4 * (σ.1 59 (((x3 + x9)).toNatClampNeg))) = 0 then (x7 : Int32) else (if ((x4 * (σ.1 59 (((x3 + x9)).toNatClampNeg))) * (σ.1 60 ((((6 * x1) + x9)).toNatClampNeg))) < ((x4 * (σ.1 59 (((x3 + x9)).toNatClampNeg))) * (σ.1 60 (((((6 * x1) + 3) + x9)).toNatClampNeg))) then (((x4 * (σ.1 59 (((x3 + x9)).toNatClampNeg))) * (σ.1 60 ((((6 * x1) + x9)).toNatClampNeg))) : Int32) else ((x4 * (σ.1 59 (((x3 + x9)).toNatClampNeg))) * (σ.1 60 (((((6 * x1) + 3) + x9)).toNatClampNeg))))) (if (x4 * (σ.1 59 (((x3 + x9)).toNatClampNeg))) = 0 then (x8 : Int32) else (if ((x4 * (σ.1 59 (((x3 + x9)).toNatClampNeg))) * (σ.1 60 ((((6 * x1) + x9)).toNatClampNeg))) < ((x4 * (σ.1 59 (((x3 + x9)).toNatClampNeg))) * (σ.1 60 (((((6 * x1) + 3) + x9)).toNatClampNeg))) then (((x4 * (σ.1 59 (((x3 + x9)).toNatClampNeg))) * (σ.1 60 (((((6 * x1) + 3) + x9)).toNatClampNeg))) : Int32) else ((x4 * (σ.1 59 (((x3 + x9)).toNatClampNeg))) * (σ.1 60 ((((6 * x1) + x9)).toNatClampNeg))))) (x9 + 1))))
set_option maxRecDepth 20000 in
theorem t_100a59_9 (L : Nat) (σ : am_M) : ∀ (n : Nat) (x1 : Int32) (x3 : Int32) (x4 : Int32) (x5 : Int32) (x6 : Int32) (x7 : Int32) (x8 : Int32) (x9 : Int32) (o10 : Option am_V) (o11 : Option am_V) (o12 : Option am_V), q_100a59_9 n σ x1 x3 x4 x5 x6 x7 x8 x9 → am_r L 100 9 [some (.inr (.inr (50, none))), some (.inl x1), some (.inr (.inr (59, none))), some (.inl x3), some (.inl x4), some (.inl x5), some (.inl x6), some (.inl x7), some (.inl x8), some (.inl x9), o10, o11, o12] [] σ = some (some (.inl (l_100a59_9 n σ x1 x3 x4 x5 x6 x7 x8 x9)), am_sh0 L, σ) := by
  intro n
  induction n with
  | zero => intro x1 x3 x4 x5 x6 x7 x8 x9 o10 o11 o12 h; exact h.elim
  | succ n ih =>
    intro x1 x3 x4 x5 x6 x7 x8 x9 o10 o11 o12 h
    unfold q_100a59_9 at h
    unfold l_100a59_9
    refine (e_100a59_9 _ _ _ _ _ _ _ _ _ _ _ _ _).trans ?_
    by_cases hc321 : x9 < 3
    · simp only [if_pos hc321]
      all_goals
        refine (if_neg ((h hc321).1)).trans ?_
        refine Eq.trans (b := am_r L 100 99 [some (.inr (.inr (50, none))), some (.inl x1), some (.inr (.inr (59, none))), some (.inl x3), some (.inl x4), some (.inl x5), some (.inl x6), some (.inl (if (x4 * (σ.1 59 (((x3 + x9)).toNatClampNeg))) = 0 then (x7 : Int32) else (if ((x4 * (σ.1 59 (((x3 + x9)).toNatClampNeg))) * (σ.1 60 ((((6 * x1) + x9)).toNatClampNeg))) < ((x4 * (σ.1 59 (((x3 + x9)).toNatClampNeg))) * (σ.1 60 (((((6 * x1) + 3) + x9)).toNatClampNeg))) then (((x4 * (σ.1 59 (((x3 + x9)).toNatClampNeg))) * (σ.1 60 ((((6 * x1) + x9)).toNatClampNeg))) : Int32) else ((x4 * (σ.1 59 (((x3 + x9)).toNatClampNeg))) * (σ.1 60 (((((6 * x1) + 3) + x9)).toNatClampNeg)))))), some (.inl (if (x4 * (σ.1 59 (((x3 + x9)).toNatClampNeg))) = 0 then (x8 : Int32) else (if ((x4 * (σ.1 59 (((x3 + x9)).toNatClampNeg))) * (σ.1 60 ((((6 * x1) + x9)).toNatClampNeg))) < ((x4 * (σ.1 59 (((x3 + x9)).toNatClampNeg))) * (σ.1 60 (((((6 * x1) + 3) + x9)).toNatClampNeg))) then (((x4 * (σ.1 59 (((x3 + x9)).toNatClampNeg))) * (σ.1 60 (((((6 * x1) + 3) + x9)).toNatClampNeg))) : Int32) else ((x4 * (σ.1 59 (((x3 + x9)).toNatClampNeg))) * (σ.1 60 ((((6 * x1) + x9)).toNatClampNeg)))))), some (.inl x9), some (.inl (x4 * (σ.1 59 (((x3 + x9)).toNatClampNeg)))), (if (x4 * (σ.1 59 (((x3 + x9)).toNatClampNeg))) = 0 then o11 else some (.inl ((x4 * (σ.1 59 (((x3 + x9)).toNatClampNeg))) * (σ.1 60 ((((6 * x1) + x9)).toNatClampNeg))))), (if (x4 * (σ.1 59 (((x3 + x9)).toNatClampNeg))) = 0 then o12 else some (.inl ((x4 * (σ.1 59 (((x3 + x9)).toNatClampNeg))) * (σ.1 60 (((((6 * x1) + 3) + x9)).toNatClampNeg)))))] [] σ) ?_ ?_
        · by_cases hc322 : (x4 * (σ.1 59 (((x3 + x9)).toNatClampNeg))) = 0
          · simp only [if_pos hc322]
            all_goals
              rfl
          · simp only [if_neg hc322]
            all_goals
              refine (if_neg (((h hc321).2.1 hc322).1)).trans ?_
              refine (e_100a59_45 _ _ _ _ _ _ _ _ _ _ _ _ _ _ _).trans ?_
              refine (if_neg (((h hc321).2.1 hc322).2)).trans ?_
              refine Eq.trans (b := am_r L 100 81 [some (.inr (.inr (50, none))), some (.inl x1), some (.inr (.inr (59, none))), some (.inl x3), some (.inl x4), some (.inl x5), some (.inl x6), some (.inl x7), some (.inl x8), some (.inl x9), some (.inl (x4 * (σ.1 59 (((x3 + x9)).toNatClampNeg)))), some (.inl ((x4 * (σ.1 59 (((x3 + x9)).toNatClampNeg))) * (σ.1 60 ((((6 * x1) + x9)).toNatClampNeg)))), some (.inl ((x4 * (σ.1 59 (((x3 + x9)).toNatClampNeg))) * (σ.1 60 (((((6 * x1) + 3) + x9)).toNatClampNeg))))] [.inl (if ((x4 * (σ.1 59 (((x3 + x9)).toNatClampNeg))) * (σ.1 60 ((((6 * x1) + x9)).toNatClampNeg))) < ((x4 * (σ.1 59 (((x3 + x9)).toNatClampNeg))) * (σ.1 60 (((((6 * x1) + 3) + x9)).toNatClampNeg))) then (((x4 * (σ.1 59 (((x3 + x9)).toNatClampNeg))) * (σ.1 60 ((((6 * x1) + x9)).toNatClampNeg))) : Int32) else ((x4 * (σ.1 59 (((x3 + x9)).toNatClampNeg))) * (σ.1 60 (((((6 * x1) + 3) + x9)).toNatClampNeg))))] σ) ?_ ?_
              · by_cases hc323 : ((x4 * (σ.1 59 (((x3 + x9)).toNatClampNeg))) * (σ.1 60 ((((6 * x1) + x9)).toNatClampNeg))) < ((x4 * (σ.1 59 (((x3 + x9)).toNatClampNeg))) * (σ.1 60 (((((6 * x1) + 3) + x9)).toNatClampNeg)))
                · simp only [if_pos hc323]
                  all_goals
                    rfl
                · simp only [if_neg hc323]
                  all_goals
                    refine (e_100a59_79 _ _ _ _ _ _ _ _ _ _ _ _ _).trans ?_
                    rfl
              refine (e_100a59_81 _ _ _ _ _ _ _ _ _ _ _ _ _ _).trans ?_
              refine Eq.trans (b := am_r L 100 97 [some (.inr (.inr (50, none))), some (.inl x1), some (.inr (.inr (59, none))), some (.inl x3), some (.inl x4), some (.inl x5), some (.inl x6), some (.inl (if ((x4 * (σ.1 59 (((x3 + x9)).toNatClampNeg))) * (σ.1 60 ((((6 * x1) + x9)).toNatClampNeg))) < ((x4 * (σ.1 59 (((x3 + x9)).toNatClampNeg))) * (σ.1 60 (((((6 * x1) + 3) + x9)).toNatClampNeg))) then (((x4 * (σ.1 59 (((x3 + x9)).toNatClampNeg))) * (σ.1 60 ((((6 * x1) + x9)).toNatClampNeg))) : Int32) else ((x4 * (σ.1 59 (((x3 + x9)).toNatClampNeg))) * (σ.1 60 (((((6 * x1) + 3) + x9)).toNatClampNeg))))), some (.inl x8), some (.inl x9), some (.inl (x4 * (σ.1 59 (((x3 + x9)).toNatClampNeg)))), some (.inl ((x4 * (σ.1 59 (((x3 + x9)).toNatClampNeg))) * (σ.1 60 ((((6 * x1) + x9)).toNatClampNeg)))), some (.inl ((x4 * (σ.1 59 (((x3 + x9)).toNatClampNeg))) * (σ.1 60 (((((6 * x1) + 3) + x9)).toNatClampNeg))))] [.inl (if ((x4 * (σ.1 59 (((x3 + x9)).toNatClampNeg))) * (σ.1 60 ((((6 * x1) + x9)).toNatClampNeg))) < ((x4 * (σ.1 59 (((x3 + x9)).toNatClampNeg))) * (σ.1 60 (((((6 * x1) + 3) + x9)).toNatClampNeg))) then (((x4 * (σ.1 59 (((x3 + x9)).toNatClampNeg))) * (σ.1 60 (((((6 * x1) + 3) + x9)).toNatClampNeg))) : Int32) else ((x4 * (σ.1 59 (((x3 + x9)).toNatClampNeg))) * (σ.1 60 ((((6 * x1) + x9)).toNatClampNeg))))] σ) ?_ ?_
              · by_cases hc324 : ((x4 * (σ.1 59 (((x3 + x9)).toNatClampNeg))) * (σ.1 60 ((((6 * x1) + x9)).toNatClampNeg))) < ((x4 * (σ.1 59 (((x3 + x9)).toNatClampNeg))) * (σ.1 60 (((((6 * x1) + 3) + x9)).toNatClampNeg)))
                · simp only [if_pos hc324]
                  all_goals
                    rfl
                · simp only [if_neg hc324]
                  all_goals
                    refine (e_100a59_95 _ _ _ _ _ _ _ _ _ _ _ _ _).trans ?_
                    rfl
              refine (e_100a59_97 _ _ _ _ _ _ _ _ _ _ _ _ _ _).trans ?_
              rfl
        refine (e_100a59_99 _ _ _ _ _ _ _ _ _ _ _ _ _).trans ?_
        exact ih x1 x3 x4 x5 x6 (if (x4 * (σ.1 59 (((x3 + x9)).toNatClampNeg))) = 0 then (x7 : Int32) else (if ((x4 * (σ.1 59 (((x3 + x9)).toNatClampNeg))) * (σ.1 60 ((((6 * x1) + x9)).toNatClampNeg))) < ((x4 * (σ.1 59 (((x3 + x9)).toNatClampNeg))) * (σ.1 60 (((((6 * x1) + 3) + x9)).toNatClampNeg))) then (((x4 * (σ.1 59 (((x3 + x9)).toNatClampNeg))) * (σ.1 60 ((((6 * x1) + x9)).toNatClampNeg))) : Int32) else ((x4 * (σ.1 59 (((x3 + x9)).toNatClampNeg))) * (σ.1 60 (((((6 * x1) + 3) + x9)).toNatClampNeg))))) (if (x4 * (σ.1 59 (((x3 + x9)).toNatClampNeg))) = 0 then (x8 : Int32) else (if ((x4 * (σ.1 59 (((x3 + x9)).toNatClampNeg))) * (σ.1 60 ((((6 * x1) + x9)).toNatClampNeg))) < ((x4 * (σ.1 59 (((x3 + x9)).toNatClampNeg))) * (σ.1 60 (((((6 * x1) + 3) + x9)).toNatClampNeg))) then (((x4 * (σ.1 59 (((x3 + x9)).toNatClampNeg))) * (σ.1 60 (((((6 * x1) + 3) + x9)).toNatClampNeg))) : Int32) else ((x4 * (σ.1 59 (((x3 + x9)).toNatClampNeg))) * (σ.1 60 ((((6 * x1) + x9)).toNatClampNeg))))) (x9 + 1) (some (.inl (x4 * (σ.1 59 (((x3 + x9)).toNatClampNeg))))) (if (x4 * (σ.1 59 (((x3 + x9)).toNatClampNeg))) = 0 then o11 else some (.inl ((x4 * (σ.1 59 (((x3 + x9)).toNatClampNeg))) * (σ.1 60 ((((6 * x1) + x9)).toNatClampNeg))))) (if (x4 * (σ.1 59 (((x3 + x9)).toNatClampNeg))) = 0 then o12 else some (.inl ((x4 * (σ.1 59 (((x3 + x9)).toNatClampNeg))) * (σ.1 60 (((((6 * x1) + 3) + x9)).toNatClampNeg))))) ((h hc321).2.2)
    · simp only [if_neg hc321]
      all_goals
        refine (e_100a59_105 _ _ _ _ _ _ _ _ _ _ _ _ _).trans ?_
        refine Eq.trans (b := am_r L 100 117 [some (.inr (.inr (50, none))), some (.inl x1), some (.inr (.inr (59, none))), some (.inl x3), some (.inl x4), some (.inl x5), some (.inl x6), some (.inl x7), some (.inl x8), some (.inl x9), o10, o11, o12] [.inl (if x5 = 0 then (x7 : Int32) else x8)] σ) ?_ ?_
        · by_cases hc325 : x5 = 0
          · simp only [if_pos hc325]
            all_goals
              refine (e_100a59_115 _ _ _ _ _ _ _ _ _ _ _ _ _).trans ?_
              rfl
          · simp only [if_neg hc325]
            all_goals
              rfl
        refine (e_100a59_117 _ _ _ _ _ _ _ _ _ _ _ _ _ _).trans ?_
        rfl
def p_100a59 (σ : am_M) (x1 : Int32) (x3 : Int32) (x4 : Int32) (x5 : Int32) (x6 : Int32) : Prop := q_100a59_9 14 σ x1 x3 x4 x5 x6 0 0 0
def f_100a59 (σ : am_M) (x1 : Int32) (x3 : Int32) (x4 : Int32) (x5 : Int32) (x6 : Int32) : Int32 := (l_100a59_9 14 σ x1 x3 x4 x5 x6 0 0 0)
set_option maxRecDepth 20000 in
theorem sf_100a59 (L : Nat) (σ : am_M) (x1 : Int32) (x3 : Int32) (x4 : Int32) (x5 : Int32) (x6 : Int32) (h : p_100a59 σ x1 x3 x4 x5 x6) : am_r L 100 0 [some (.inr (.inr (50, none))), some (.inl x1), some (.inr (.inr (59, none))), some (.inl x3), some (.inl x4), some (.inl x5), some (.inl x6), none, none, none, none, none, none] [] σ = some (some (.inl (f_100a59 σ x1 x3 x4 x5 x6)), am_sh0 L, σ) := by
  unfold p_100a59 at h
  unfold f_100a59
  refine (e_100a59_0 _ _ _ _ _ _ _).trans ?_
  exact t_100a59_9 L σ 14 x1 x3 x4 x5 x6 0 0 0 none none none h
def v_100a59 (σ : am_M) (x1 : Int32) (x3 : Int32) (x4 : Int32) (x5 : Int32) (x6 : Int32) : Int32 := f_100a59 σ x1 x3 x4 x5 x6
theorem s_100a59 (L : Nat) (σ : am_M) (x1 : Int32) (x3 : Int32) (x4 : Int32) (x5 : Int32) (x6 : Int32) (h : p_100a59 σ x1 x3 x4 x5 x6) : am_r L 100 0 [some (.inr (.inr (50, none))), some (.inl x1), some (.inr (.inr (59, none))), some (.inl x3), some (.inl x4), some (.inl x5), some (.inl x6), none, none, none, none, none, none] [] σ = some (some (.inl (v_100a59 σ x1 x3 x4 x5 x6)), am_sh0 L, σ) := sf_100a59 L σ x1 x3 x4 x5 x6 h
