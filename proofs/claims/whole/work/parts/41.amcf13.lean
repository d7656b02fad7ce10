-- 105a57: X5_axis
def p_105a57 (σ : am_M) (x1 : Int32) : Prop := (¬ (x1 < 0 ∨ 39 ≤ x1.toNatClampNeg)) ∧ (((σ.1 57 x1.toNatClampNeg) = 0) → (¬ ((x1 + 1) < 0 ∨ 39 ≤ ((x1 + 1)).toNatClampNeg)))
def v_105a57 (σ : am_M) (x1 : Int32) : Int32 := (if (σ.1 57 x1.toNatClampNeg) = 0 then ((if (σ.1 57 (((x1 + 1)).toNatClampNeg)) = 0 then (2 : Int32) else 1) : Int32) else 0)
set_option maxRecDepth 20000 in
theorem s_105a57 (L : Nat) (σ : am_M) (x1 : Int32) (h : p_105a57 σ x1) : am_r L 105 0 [some (.inr (.inr (57, none))), some (.inl x1)] [] σ = some (some (.inl (v_105a57 σ x1)), am_sh0 L, σ) := by
  unfold p_105a57 at h
  unfold v_105a57
  refine (e_105a57_0 _ _ _).trans ?_
  refine (if_neg h.1).trans ?_
  refine Eq.trans (b := am_r L 105 23 [some (.inr (.inr (57, none))), some (.inl x1)] [.inl (if (σ.1 57 x1.toNatClampNeg) = 0 then ((if (σ.1 57 (((x1 + 1)).toNatClampNeg)) = 0 then (2 : Int32) else 1) : Int32) else 0)] σ) ?_ ?_
  · by_cases hc368 : (σ.1 57 x1.toNatClampNeg) = 0
    · refine (if_pos hc368).trans ?_
      refine Eq.trans (b := am_r L 105 23 [some (.inr (.inr (57, none))), some (.inl x1)] [.inl (if (σ.1 57 (((x1 + 1)).toNatClampNeg)) = 0 then (2 : Int32) else 1)] σ) ?_ ?_
      · refine (e_105a57_10 _ _ _).trans ?_
        refine (if_neg ((h.2 hc368))).trans ?_
        refine Eq.trans (b := am_r L 105 23 [some (.inr (.inr (57, none))), some (.inl x1)] [.inl (if (σ.1 57 (((x1 + 1)).toNatClampNeg)) = 0 then (2 : Int32) else 1)] σ) ?_ ?_
        · by_cases hc369 : (σ.1 57 (((x1 + 1)).toNatClampNeg)) = 0
          · refine (if_pos hc369).trans ?_
            refine Eq.trans (b := am_r L 105 23 [some (.inr (.inr (57, none))), some (.inl x1)] [.inl 2] σ) ?_ ?_
            · refine (e_105a57_22 _ _ _).trans ?_
              rfl
            · first | with_reducible rfl | simp only [if_pos hc369]
          · refine (if_neg hc369).trans ?_
            refine Eq.trans (b := am_r L 105 23 [some (.inr (.inr (57, none))), some (.inl x1)] [.inl 1] σ) ?_ ?_
            · rfl
            · first | with_reducible rfl | simp only [if_neg hc369]
        rfl
      · first | with_reducible rfl | simp only [if_pos hc368]
    · refine (if_neg hc368).trans ?_
      refine Eq.trans (b := am_r L 105 23 [some (.inr (.inr (57, none))), some (.inl x1)] [.inl 0] σ) ?_ ?_
      · rfl
      · first | with_reducible rfl | simp only [if_neg hc368]
  refine (e_105a57_23 _ _ _ _).trans ?_
  rfl
-- 105a58: X5_axis
def p_105a58 (σ : am_M) (x1 : Int32) : Prop := (¬ (x1 < 0 ∨ 39 ≤ x1.toNatClampNeg)) ∧ (((σ.1 58 x1.toNatClampNeg) = 0) → (¬ ((x1 + 1) < 0 ∨ 39 ≤ ((x1 + 1)).toNatClampNeg)))
def v_105a58 (σ : am_M) (x1 : Int32) : Int32 := (if (σ.1 58 x1.toNatClampNeg) = 0 then ((if (σ.1 58 (((x1 + 1)).toNatClampNeg)) = 0 then (2 : Int32) else 1) : Int32) else 0)
set_option maxRecDepth 20000 in
theorem s_105a58 (L : Nat) (σ : am_M) (x1 : Int32) (h : p_105a58 σ x1) : am_r L 105 0 [some (.inr (.inr (58, none))), some (.inl x1)] [] σ = some (some (.inl (v_105a58 σ x1)), am_sh0 L, σ) := by
  unfold p_105a58 at h
  unfold v_105a58
  refine (e_105a58_0 _ _ _).trans ?_
  refine (if_neg h.1).trans ?_
  refine Eq.trans (b := am_r L 105 23 [some (.inr (.inr (58, none))), some (.inl x1)] [.inl (if (σ.1 58 x1.toNatClampNeg) = 0 then ((if (σ.1 58 (((x1 + 1)).toNatClampNeg)) = 0 then (2 : Int32) else 1) : Int32) else 0)] σ) ?_ ?_
  · by_cases hc370 : (σ.1 58 x1.toNatClampNeg) = 0
    · refine (if_pos hc370).trans ?_
      refine Eq.trans (b := am_r L 105 23 [some (.inr (.inr (58, none))), some (.inl x1)] [.inl (if (σ.1 58 (((x1 + 1)).toNatClampNeg)) = 0 then (2 : Int32) else 1)] σ) ?_ ?_
      · refine (e_105a58_10 _ _ _).trans ?_
        refine (if_neg ((h.2 hc370))).trans ?_
        refine Eq.trans (b := am_r L 105 23 [some (.inr (.inr (58, none))), some (.inl x1)] [.inl (if (σ.1 58 (((x1 + 1)).toNatClampNeg)) = 0 then (2 : Int32) else 1)] σ) ?_ ?_
        · by_cases hc371 : (σ.1 58 (((x1 + 1)).toNatClampNeg)) = 0
          · refine (if_pos hc371).trans ?_
            refine Eq.trans (b := am_r L 105 23 [some (.inr (.inr (58, none))), some (.inl x1)] [.inl 2] σ) ?_ ?_
            · refine (e_105a58_22 _ _ _).trans ?_
              rfl
            · first | with_reducible rfl | simp only [if_pos hc371]
          · refine (if_neg hc371).trans ?_
            refine Eq.trans (b := am_r L 105 23 [some (.inr (.inr (58, none))), some (.inl x1)] [.inl 1] σ) ?_ ?_
            · rfl
            · first | with_reducible rfl | simp only [if_neg hc371]
        rfl
      · first | with_reducible rfl | simp only [if_pos hc370]
    · refine (if_neg hc370).trans ?_
      refine Eq.trans (b := am_r L 105 23 [some (.inr (.inr (58, none))), some (.inl x1)] [.inl 0] σ) ?_ ?_
      · rfl
      · first | with_reducible rfl | simp only [if_neg hc370]
  refine (e_105a58_23 _ _ _ _).trans ?_
  rfl
-- 106: X5_bendAxis
def p_106 (σ : am_M) (x1 : Int32) : Prop := (¬ (x1 < 0 ∨ 13 ≤ x1.toNatClampNeg)) ∧ ((¬ (x1 < 0 ∨ 13 ≤ x1.toNatClampNeg)) ∧ (((((σ.1 52 x1.toNatClampNeg) - (σ.1 52 x1.toNatClampNeg) / 2 * 2) = 0) → (p_105a58 σ (3 * (σ.1 51 x1.toNatClampNeg)))) ∧ (¬ (((σ.1 52 x1.toNatClampNeg) - (σ.1 52 x1.toNatClampNeg) / 2 * 2) = 0) → (p_105a57 σ (3 * (σ.1 51 x1.toNatClampNeg))))))
def v_106 (σ : am_M) (x1 : Int32) : Int32 := (if ((σ.1 52 x1.toNatClampNeg) - (σ.1 52 x1.toNatClampNeg) / 2 * 2) = 0 then ((v_105a58 σ (3 * (σ.1 51 x1.toNatClampNeg))) : Int32) else (v_105a57 σ (3 * (σ.1 51 x1.toNatClampNeg))))
set_option maxRecDepth 20000 in
theorem s_106 (L : Nat) (σ : am_M) (x1 : Int32) (h : p_106 σ x1) : am_r L 106 0 [some (.inr (.inr (50, none))), some (.inl x1), none] [] σ = some (some (.inl (v_106 σ x1)), am_sh0 L, σ) := by
  unfold p_106 at h
  unfold v_106
  refine (e_106_0 _ _ _).trans ?_
  refine (if_neg h.1).trans ?_
  refine (if_neg h.2.1).trans ?_
  refine Eq.trans (b := am_r L 106 39 [some (.inr (.inr (50, none))), some (.inl x1), some (.inl (3 * (σ.1 51 x1.toNatClampNeg)))] [.inl (if ((σ.1 52 x1.toNatClampNeg) - (σ.1 52 x1.toNatClampNeg) / 2 * 2) = 0 then ((v_105a58 σ (3 * (σ.1 51 x1.toNatClampNeg))) : Int32) else (v_105a57 σ (3 * (σ.1 51 x1.toNatClampNeg))))] σ) ?_ ?_
  · by_cases hc372 : ((σ.1 52 x1.toNatClampNeg) - (σ.1 52 x1.toNatClampNeg) / 2 * 2) = 0
    · refine (if_pos hc372).trans ?_
      refine Eq.trans (b := am_r L 106 39 [some (.inr (.inr (50, none))), some (.inl x1), some (.inl (3 * (σ.1 51 x1.toNatClampNeg)))] [.inl (v_105a58 σ (3 * (σ.1 51 x1.toNatClampNeg)))] σ) ?_ ?_
      · refine (am_bind_i (s_105a58 L σ (3 * (σ.1 51 x1.toNatClampNeg)) ((h.2.2.1 hc372)))).trans ?_
        refine (e_106_28 _ _ _ _ _).trans ?_
        rfl
      · first | with_reducible rfl | simp only [if_pos hc372]
    · refine (if_neg hc372).trans ?_
      refine Eq.trans (b := am_r L 106 39 [some (.inr (.inr (50, none))), some (.inl x1), some (.inl (3 * (σ.1 51 x1.toNatClampNeg)))] [.inl (v_105a57 σ (3 * (σ.1 51 x1.toNatClampNeg)))] σ) ?_ ?_
      · refine (e_106_31 _ _ _ _).trans ?_
        refine (am_bind_i (s_105a57 L σ (3 * (σ.1 51 x1.toNatClampNeg)) ((h.2.2.2 hc372)))).trans ?_
        rfl
      · first | with_reducible rfl | simp only [if_neg hc372]
  refine (e_106_39 _ _ _ _ _).trans ?_
  rfl
-- 107: X5_areBeside
def p_107 (σ : am_M) (x1 : Int32) (x2 : Int32) (x3 : Int32) : Prop := (¬ (((6 * x1) + x3) < 0 ∨ 78 ≤ (((6 * x1) + x3)).toNatClampNeg)) ∧ ((¬ ((((6 * x1) + 3) + x3) < 0 ∨ 78 ≤ ((((6 * x1) + 3) + x3)).toNatClampNeg)) ∧ ((¬ (((6 * x2) + x3) < 0 ∨ 78 ≤ (((6 * x2) + x3)).toNatClampNeg)) ∧ (¬ ((((6 * x2) + 3) + x3) < 0 ∨ 78 ≤ ((((6 * x2) + 3) + x3)).toNatClampNeg))))
def v_107 (σ : am_M) (x1 : Int32) (x2 : Int32) (x3 : Int32) : Int32 := (if (σ.1 60 ((((6 * x1) + x3)).toNatClampNeg)) = (σ.1 60 (((((6 * x1) + 3) + x3)).toNatClampNeg)) then (if (σ.1 60 ((((6 * x1) + x3)).toNatClampNeg)) = (σ.1 60 (((((6 * x1) + 3) + x3)).toNatClampNeg)) then ((if (σ.1 60 ((((6 * x2) + x3)).toNatClampNeg)) = (σ.1 60 (((((6 * x2) + 3) + x3)).toNatClampNeg)) then ((if (σ.1 60 ((((6 * x1) + x3)).toNatClampNeg)) = (σ.1 60 ((((6 * x2) + x3)).toNatClampNeg)) then (1 : Int32) else 0) : Int32) else (if (σ.1 60 ((((6 * x1) + x3)).toNatClampNeg)) = (σ.1 60 (((((6 * x1) + 3) + x3)).toNatClampNeg)) then ((if (σ.1 60 ((((6 * x2) + x3)).toNatClampNeg)) < (σ.1 60 ((((6 * x1) + x3)).toNatClampNeg)) then ((if (σ.1 60 ((((6 * x1) + x3)).toNatClampNeg)) < (σ.1 60 (((((6 * x2) + 3) + x3)).toNatClampNeg)) then (1 : Int32) else 0) : Int32) else 0) : Int32) else (if (σ.1 60 ((((6 * x1) + x3)).toNatClampNeg)) < (σ.1 60 ((((6 * x2) + x3)).toNatClampNeg)) then ((if (σ.1 60 ((((6 * x2) + x3)).toNatClampNeg)) < (σ.1 60 (((((6 * x1) + 3) + x3)).toNatClampNeg)) then (1 : Int32) else 0) : Int32) else 0))) : Int32) else (if (σ.1 60 ((((6 * x1) + x3)).toNatClampNeg)) = (σ.1 60 (((((6 * x1) + 3) + x3)).toNatClampNeg)) then ((if (σ.1 60 ((((6 * x2) + x3)).toNatClampNeg)) < (σ.1 60 ((((6 * x1) + x3)).toNatClampNeg)) then ((if (σ.1 60 ((((6 * x1) + x3)).toNatClampNeg)) < (σ.1 60 (((((6 * x2) + 3) + x3)).toNatClampNeg)) then (1 : Int32) else 0) : Int32) else 0) : Int32) else (if (σ.1 60 ((((6 * x1) + x3)).toNatClampNeg)) < (σ.1 60 ((((6 * x2) + x3)).toNatClampNeg)) then ((if (σ.1 60 ((((6 * x2) + x3)).toNatClampNeg)) < (σ.1 60 (((((6 * x1) + 3) + x3)).toNatClampNeg)) then (1 : Int32) else 0) : Int32) else 0))) else (if (σ.1 60 ((((6 * x2) + x3)).toNatClampNeg)) = (σ.1 60 (((((6 * x2) + 3) + x3)).toNatClampNeg)) then (if (σ.1 60 ((((6 * x1) + x3)).toNatClampNeg)) = (σ.1 60 (((((6 * x1) + 3) + x3)).toNatClampNeg)) then ((if (σ.1 60 ((((6 * x2) + x3)).toNatClampNeg)) = (σ.1 60 (((((6 * x2) + 3) + x3)).toNatClampNeg)) then ((if (σ.1 60 ((((6 * x1) + x3)).toNatClampNeg)) = (σ.1 60 ((((6 * x2) + x3)).toNatClampNeg)) then (1 : Int32) else 0) : Int32) else (if (σ.1 60 ((((6 * x1) + x3)).toNatClampNeg)) = (σ.1 60 (((((6 * x1) + 3) + x3)).toNatClampNeg)) then ((if (σ.1 60 ((((6 * x2) + x3)).toNatClampNeg)) < (σ.1 60 ((((6 * x1) + x3)).toNatClampNeg)) then ((if (σ.1 60 ((((6 * x1) + x3)).toNatClampNeg)) < (σ.1 60 (((((6 * x2) + 3) + x3)).toNatClampNeg)) then (1 : Int32) else 0) : Int32) else 0) : Int32) else (if (σ.1 60 ((((6 * x1) + x3)).toNatClampNeg)) < (σ.1 60 ((((6 * x2) + x3)).toNatClampNeg)) then ((if (σ.1 60 ((((6 * x2) + x3)).toNatClampNeg)) < (σ.1 60 (((((6 * x1) + 3) + x3)).toNatClampNeg)) then (1 : Int32) else 0) : Int32) else 0))) : Int32) else (if (σ.1 60 ((((6 * x1) + x3)).toNatClampNeg)) = (σ.1 60 (((((6 * x1) + 3) + x3)).toNatClampNeg)) then ((if (σ.1 60 ((((6 * x2) + x3)).toNatClampNeg)) < (σ.1 60 ((((6 * x1) + x3)).toNatClampNeg)) then ((if (σ.1 60 ((((6 * x1) + x3)).toNatClampNeg)) < (σ.1 60 (((((6 * x2) + 3) + x3)).toNatClampNeg)) then (1 : Int32) else 0) : Int32) else 0) : Int32) else (if (σ.1 60 ((((6 * x1) + x3)).toNatClampNeg)) < (σ.1 60 ((((6 * x2) + x3)).toNatClampNeg)) then ((if (σ.1 60 ((((6 * x2) + x3)).toNatClampNeg)) < (σ.1 60 (((((6 * x1) + 3) + x3)).toNatClampNeg)) then (1 : Int32) else 0) : Int32) else 0))) else (if (σ.1 60 ((((6 * x1) + x3)).toNatClampNeg)) < (σ.1 60 (((((6 * x2) + 3) + x3)).toNatClampNeg)) then ((if (σ.1 60 ((((6 * x2) + x3)).toNatClampNeg)) < (σ.1 60 (((((6 * x1) + 3) + x3)).toNatClampNeg)) then (1 : Int32) else 0) : Int32) else 0)))
set_option maxRecDepth 20000 in
theorem s_107 (L : Nat) (σ : am_M) (x1 : Int32) (x2 : Int32) (x3 : Int32) (h : p_107 σ x1 x2 x3) : am_r L 107 0 [some (.inr (.inr (50, none))), some (.inl x1), some (.inl x2), some (.inl x3), none, none, none, none] [] σ = some (some (.inl (v_107 σ x1 x2 x3)), am_sh0 L, σ) := by
  unfold p_107 at h
  unfold v_107
  refine (e_107_0 _ _ _ _ _).trans ?_
  refine (if_neg h.1).trans ?_
  refine (if_neg h.2.1).trans ?_
  refine (e_107_29 _ _ _ _ _ _ _).trans ?_
  refine (if_neg h.2.2.1).trans ?_
  refine (if_neg h.2.2.2).trans ?_
  refine (e_107_60 _ _ _ _ _ _ _ _ _ _ _).trans ?_
  refine am_fkIv (fun hc373 => ?_) (fun hc373 => ?_)
  · refine (e_107_70 _ _ _ _ _ _ _ _ _).trans ?_
    refine Eq.trans (b := am_r L 107 147 [some (.inr (.inr (50, none))), some (.inl x1), some (.inl x2), some (.inl x3), some (.inl (σ.1 60 ((((6 * x1) + x3)).toNatClampNeg))), some (.inl (σ.1 60 (((((6 * x1) + 3) + x3)).toNatClampNeg))), some (.inl (σ.1 60 ((((6 * x2) + x3)).toNatClampNeg))), some (.inl (σ.1 60 (((((6 * x2) + 3) + x3)).toNatClampNeg)))] [.inl (if (σ.1 60 ((((6 * x1) + x3)).toNatClampNeg)) = (σ.1 60 (((((6 * x1) + 3) + x3)).toNatClampNeg)) then ((if (σ.1 60 ((((6 * x2) + x3)).toNatClampNeg)) = (σ.1 60 (((((6 * x2) + 3) + x3)).toNatClampNeg)) then ((if (σ.1 60 ((((6 * x1) + x3)).toNatClampNeg)) = (σ.1 60 ((((6 * x2) + x3)).toNatClampNeg)) then (1 : Int32) else 0) : Int32) else (if (σ.1 60 ((((6 * x1) + x3)).toNatClampNeg)) = (σ.1 60 (((((6 * x1) + 3) + x3)).toNatClampNeg)) then ((if (σ.1 60 ((((6 * x2) + x3)).toNatClampNeg)) < (σ.1 60 ((((6 * x1) + x3)).toNatClampNeg)) then ((if (σ.1 60 ((((6 * x1) + x3)).toNatClampNeg)) < (σ.1 60 (((((6 * x2) + 3) + x3)).toNatClampNeg)) then (1 : Int32) else 0) : Int32) else 0) : Int32) else (if (σ.1 60 ((((6 * x1) + x3)).toNatClampNeg)) < (σ.1 60 ((((6 * x2) + x3)).toNatClampNeg)) then ((if (σ.1 60 ((((6 * x2) + x3)).toNatClampNeg)) < (σ.1 60 (((((6 * x1) + 3) + x3)).toNatClampNeg)) then (1 : Int32) else 0) : Int32) else 0))) : Int32) else (if (σ.1 60 ((((6 * x1) + x3)).toNatClampNeg)) = (σ.1 60 (((((6 * x1) + 3) + x3)).toNatClampNeg)) then ((if (σ.1 60 ((((6 * x2) + x3)).toNatClampNeg)) < (σ.1 60 ((((6 * x1) + x3)).toNatClampNeg)) then ((if (σ.1 60 ((((6 * x1) + x3)).toNatClampNeg)) < (σ.1 60 (((((6 * x2) + 3) + x3)).toNatClampNeg)) then (1 : Int32) else 0) : Int32) else 0) : Int32) else (if (σ.1 60 ((((6 * x1) + x3)).toNatClampNeg)) < (σ.1 60 ((((6 * x2) + x3)).toNatClampNeg)) then ((if (σ.1 60 ((((6 * x2) + x3)).toNatClampNeg)) < (σ.1 60 (((((6 * x1) + 3) + x3)).toNatClampNeg)) then (1 : Int32) else 0) : Int32) else 0)))] σ) ?_ ?_
    · by_cases hc374 : (σ.1 60 ((((6 * x1) + x3)).toNatClampNeg)) = (σ.1 60 (((((6 * x1) + 3) + x3)).toNatClampNeg))
      · refine (if_pos hc374).trans ?_
        refine Eq.trans (b := am_r L 107 147 [some (.inr (.inr (50, none))), some (.inl x1), some (.inl x2), some (.inl x3), some (.inl (σ.1 60 ((((6 * x1) + x3)).toNatClampNeg))), some (.inl (σ.1 60 (((((6 * x1) + 3) + x3)).toNatClampNeg))), some (.inl (σ.1 60 ((((6 * x2) + x3)).toNatClampNeg))), some (.inl (σ.1 60 (((((6 * x2) + 3) + x3)).toNatClampNeg)))] [.inl (if (σ.1 60 ((((6 * x2) + x3)).toNatClampNeg)) = (σ.1 60 (((((6 * x2) + 3) + x3)).toNatClampNeg)) then ((if (σ.1 60 ((((6 * x1) + x3)).toNatClampNeg)) = (σ.1 60 ((((6 * x2) + x3)).toNatClampNeg)) then (1 : Int32) else 0) : Int32) else (if (σ.1 60 ((((6 * x1) + x3)).toNatClampNeg)) = (σ.1 60 (((((6 * x1) + 3) + x3)).toNatClampNeg)) then ((if (σ.1 60 ((((6 * x2) + x3)).toNatClampNeg)) < (σ.1 60 ((((6 * x1) + x3)).toNatClampNeg)) then ((if (σ.1 60 ((((6 * x1) + x3)).toNatClampNeg)) < (σ.1 60 (((((6 * x2) + 3) + x3)).toNatClampNeg)) then (1 : Int32) else 0) : Int32) else 0) : Int32) else (if (σ.1 60 ((((6 * x1) + x3)).toNatClampNeg)) < (σ.1 60 ((((6 * x2) + x3)).toNatClampNeg)) then ((if (σ.1 60 ((((6 * x2) + x3)).toNatClampNeg)) < (σ.1 60 (((((6 * x1) + 3) + x3)).toNatClampNeg)) then (1 : Int32) else 0) : Int32) else 0)))] σ) ?_ ?_
        · refine Eq.trans (b := am_r L 107 147 [some (.inr (.inr (50, none))), some (.inl x1), some (.inl x2), some (.inl x3), some (.inl (σ.1 60 ((((6 * x1) + x3)).toNatClampNeg))), some (.inl (σ.1 60 (((((6 * x1) + 3) + x3)).toNatClampNeg))), some (.inl (σ.1 60 ((((6 * x2) + x3)).toNatClampNeg))), some (.inl (σ.1 60 (((((6 * x2) + 3) + x3)).toNatClampNeg)))] [.inl (if (σ.1 60 ((((6 * x2) + x3)).toNatClampNeg)) = (σ.1 60 (((((6 * x2) + 3) + x3)).toNatClampNeg)) then ((if (σ.1 60 ((((6 * x1) + x3)).toNatClampNeg)) = (σ.1 60 ((((6 * x2) + x3)).toNatClampNeg)) then (1 : Int32) else 0) : Int32) else (if (σ.1 60 ((((6 * x1) + x3)).toNatClampNeg)) = (σ.1 60 (((((6 * x1) + 3) + x3)).toNatClampNeg)) then ((if (σ.1 60 ((((6 * x2) + x3)).toNatClampNeg)) < (σ.1 60 ((((6 * x1) + x3)).toNatClampNeg)) then ((if (σ.1 60 ((((6 * x1) + x3)).toNatClampNeg)) < (σ.1 60 (((((6 * x2) + 3) + x3)).toNatClampNeg)) then (1 : Int32) else 0) : Int32) else 0) : Int32) else (if (σ.1 60 ((((6 * x1) + x3)).toNatClampNeg)) < (σ.1 60 ((((6 * x2) + x3)).toNatClampNeg)) then ((if (σ.1 60 ((((6 * x2) + x3)).toNatClampNeg)) < (σ.1 60 (((((6 * x1) + 3) + x3)).toNatClampNeg)) then (1 : Int32) else 0) : Int32) else 0)))] σ) ?_ ?_
          · by_cases hc375 : (σ.1 60 ((((6 * x2) + x3)).toNatClampNeg)) = (σ.1 60 (((((6 * x2) + 3) + x3)).toNatClampNeg))
            · refine (if_pos hc375).trans ?_
              refine Eq.trans (b := am_r L 107 147 [some (.inr (.inr (50, none))), some (.inl x1), some (.inl x2), some (.inl x3), some (.inl (σ.1 60 ((((6 * x1) + x3)).toNatClampNeg))), some (.inl (σ.1 60 (((((6 * x1) + 3) + x3)).toNatClampNeg))), some (.inl (σ.1 60 ((((6 * x2) + x3)).toNatClampNeg))), some (.inl (σ.1 60 (((((6 * x2) + 3) + x3)).toNatClampNeg)))] [.inl (if (σ.1 60 ((((6 * x1) + x3)).toNatClampNeg)) = (σ.1 60 ((((6 * x2) + x3)).toNatClampNeg)) then (1 : Int32) else 0)] σ) ?_ ?_
              · refine Eq.trans (b := am_r L 107 147 [some (.inr (.inr (50, none))), some (.inl x1), some (.inl x2), some (.inl x3), some (.inl (σ.1 60 ((((6 * x1) + x3)).toNatClampNeg))), some (.inl (σ.1 60 (((((6 * x1) + 3) + x3)).toNatClampNeg))), some (.inl (σ.1 60 ((((6 * x2) + x3)).toNatClampNeg))), some (.inl (σ.1 60 (((((6 * x2) + 3) + x3)).toNatClampNeg)))] [.inl (if (σ.1 60 ((((6 * x1) + x3)).toNatClampNeg)) = (σ.1 60 ((((6 * x2) + x3)).toNatClampNeg)) then (1 : Int32) else 0)] σ) ?_ ?_
                · by_cases hc376 : (σ.1 60 ((((6 * x1) + x3)).toNatClampNeg)) = (σ.1 60 ((((6 * x2) + x3)).toNatClampNeg))
                  · refine (if_pos hc376).trans ?_
                    refine Eq.trans (b := am_r L 107 147 [some (.inr (.inr (50, none))), some (.inl x1), some (.inl x2), some (.inl x3), some (.inl (σ.1 60 ((((6 * x1) + x3)).toNatClampNeg))), some (.inl (σ.1 60 (((((6 * x1) + 3) + x3)).toNatClampNeg))), some (.inl (σ.1 60 ((((6 * x2) + x3)).toNatClampNeg))), some (.inl (σ.1 60 (((((6 * x2) + 3) + x3)).toNatClampNeg)))] [.inl 1] σ) ?_ ?_
                    · rfl
                    · first | with_reducible rfl | simp only [if_pos hc376]
                  · refine (if_neg hc376).trans ?_
                    refine Eq.trans (b := am_r L 107 147 [some (.inr (.inr (50, none))), some (.inl x1), some (.inl x2), some (.inl x3), some (.inl (σ.1 60 ((((6 * x1) + x3)).toNatClampNeg))), some (.inl (σ.1 60 (((((6 * x1) + 3) + x3)).toNatClampNeg))), some (.inl (σ.1 60 ((((6 * x2) + x3)).toNatClampNeg))), some (.inl (σ.1 60 (((((6 * x2) + 3) + x3)).toNatClampNeg)))] [.inl 0] σ) ?_ ?_
                    · refine (e_107_95 _ _ _ _ _ _ _ _ _).trans ?_
                      rfl
                    · first | with_reducible rfl | simp only [if_neg hc376]
                rfl
              · first | with_reducible rfl | simp only [if_pos hc375]
            · refine (if_neg hc375).trans ?_
              refine Eq.trans (b := am_r L 107 147 [some (.inr (.inr (50, none))), some (.inl x1), some (.inl x2), some (.inl x3), some (.inl (σ.1 60 ((((6 * x1) + x3)).toNatClampNeg))), some (.inl (σ.1 60 (((((6 * x1) + 3) + x3)).toNatClampNeg))), some (.inl (σ.1 60 ((((6 * x2) + x3)).toNatClampNeg))), some (.inl (σ.1 60 (((((6 * x2) + 3) + x3)).toNatClampNeg)))] [.inl (if (σ.1 60 ((((6 * x1) + x3)).toNatClampNeg)) = (σ.1 60 (((((6 * x1) + 3) + x3)).toNatClampNeg)) then ((if (σ.1 60 ((((6 * x2) + x3)).toNatClampNeg)) < (σ.1 60 ((((6 * x1) + x3)).toNatClampNeg)) then ((if (σ.1 60 ((((6 * x1) + x3)).toNatClampNeg)) < (σ.1 60 (((((6 * x2) + 3) + x3)).toNatClampNeg)) then (1 : Int32) else 0) : Int32) else 0) : Int32) else (if (σ.1 60 ((((6 * x1) + x3)).toNatClampNeg)) < (σ.1 60 ((((6 * x2) + x3)).toNatClampNeg)) then ((if (σ.1 60 ((((6 * x2) + x3)).toNatClampNeg)) < (σ.1 60 (((((6 * x1) + 3) + x3)).toNatClampNeg)) then (1 : Int32) else 0) : Int32) else 0))] σ) ?_ ?_
              · refine (e_107_99 _ _ _ _ _ _ _ _ _).trans ?_
                refine Eq.trans (b := am_r L 107 147 [some (.inr (.inr (50, none))), some (.inl x1), some (.inl x2), some (.inl x3), some (.inl (σ.1 60 ((((6 * x1) + x3)).toNatClampNeg))), some (.inl (σ.1 60 (((((6 * x1) + 3) + x3)).toNatClampNeg))), some (.inl (σ.1 60 ((((6 * x2) + x3)).toNatClampNeg))), some (.inl (σ.1 60 (((((6 * x2) + 3) + x3)).toNatClampNeg)))] [.inl (if (σ.1 60 ((((6 * x1) + x3)).toNatClampNeg)) = (σ.1 60 (((((6 * x1) + 3) + x3)).toNatClampNeg)) then ((if (σ.1 60 ((((6 * x2) + x3)).toNatClampNeg)) < (σ.1 60 ((((6 * x1) + x3)).toNatClampNeg)) then ((if (σ.1 60 ((((6 * x1) + x3)).toNatClampNeg)) < (σ.1 60 (((((6 * x2) + 3) + x3)).toNatClampNeg)) then (1 : Int32) else 0) : Int32) else 0) : Int32) else (if (σ.1 60 ((((6 * x1) + x3)).toNatClampNeg)) < (σ.1 60 ((((6 * x2) + x3)).toNatClampNeg)) then ((if (σ.1 60 ((((6 * x2) + x3)).toNatClampNeg)) < (σ.1 60 (((((6 * x1) + 3) + x3)).toNatClampNeg)) then (1 : Int32) else 0) : Int32) else 0))] σ) ?_ ?_
                · by_cases hc377 : (σ.1 60 ((((6 * x1) + x3)).toNatClampNeg)) = (σ.1 60 (((((6 * x1) + 3) + x3)).toNatClampNeg))
                  · refine (if_pos hc377).trans ?_
                    refine Eq.trans (b := am_r L 107 147 [some (.inr (.inr (50, none))), some (.inl x1), some (.inl x2), some (.inl x3), some (.inl (σ.1 60 ((((6 * x1) + x3)).toNatClampNeg))), some (.inl (σ.1 60 (((((6 * x1) + 3) + x3)).toNatClampNeg))), some (.inl (σ.1 60 ((((6 * x2) + x3)).toNatClampNeg))), some (.inl (σ.1 60 (((((6 * x2) + 3) + x3)).toNatClampNeg)))] [.inl (if (σ.1 60 ((((6 * x2) + x3)).toNatClampNeg)) < (σ.1 60 ((((6 * x1) + x3)).toNatClampNeg)) then ((if (σ.1 60 ((((6 * x1) + x3)).toNatClampNeg)) < (σ.1 60 (((((6 * x2) + 3) + x3)).toNatClampNeg)) then (1 : Int32) else 0) : Int32) else 0)] σ) ?_ ?_
                    · refine Eq.trans (b := am_r L 107 147 [some (.inr (.inr (50, none))), some (.inl x1), some (.inl x2), some (.inl x3), some (.inl (σ.1 60 ((((6 * x1) + x3)).toNatClampNeg))), some (.inl (σ.1 60 (((((6 * x1) + 3) + x3)).toNatClampNeg))), some (.inl (σ.1 60 ((((6 * x2) + x3)).toNatClampNeg))), some (.inl (σ.1 60 (((((6 * x2) + 3) + x3)).toNatClampNeg)))] [.inl (if (σ.1 60 ((((6 * x2) + x3)).toNatClampNeg)) < (σ.1 60 ((((6 * x1) + x3)).toNatClampNeg)) then ((if (σ.1 60 ((((6 * x1) + x3)).toNatClampNeg)) < (σ.1 60 (((((6 * x2) + 3) + x3)).toNatClampNeg)) then (1 : Int32) else 0) : Int32) else 0)] σ) ?_ ?_
                      · by_cases hc378 : (σ.1 60 ((((6 * x2) + x3)).toNatClampNeg)) < (σ.1 60 ((((6 * x1) + x3)).toNatClampNeg))
                        · refine (if_pos hc378).trans ?_
                          refine Eq.trans (b := am_r L 107 147 [some (.inr (.inr (50, none))), some (.inl x1), some (.inl x2), some (.inl x3), some (.inl (σ.1 60 ((((6 * x1) + x3)).toNatClampNeg))), some (.inl (σ.1 60 (((((6 * x1) + 3) + x3)).toNatClampNeg))), some (.inl (σ.1 60 ((((6 * x2) + x3)).toNatClampNeg))), some (.inl (σ.1 60 (((((6 * x2) + 3) + x3)).toNatClampNeg)))] [.inl (if (σ.1 60 ((((6 * x1) + x3)).toNatClampNeg)) < (σ.1 60 (((((6 * x2) + 3) + x3)).toNatClampNeg)) then (1 : Int32) else 0)] σ) ?_ ?_
                          · refine Eq.trans (b := am_r L 107 147 [some (.inr (.inr (50, none))), some (.inl x1), some (.inl x2), some (.inl x3), some (.inl (σ.1 60 ((((6 * x1) + x3)).toNatClampNeg))), some (.inl (σ.1 60 (((((6 * x1) + 3) + x3)).toNatClampNeg))), some (.inl (σ.1 60 ((((6 * x2) + x3)).toNatClampNeg))), some (.inl (σ.1 60 (((((6 * x2) + 3) + x3)).toNatClampNeg)))] [.inl (if (σ.1 60 ((((6 * x1) + x3)).toNatClampNeg)) < (σ.1 60 (((((6 * x2) + 3) + x3)).toNatClampNeg)) then (1 : Int32) else 0)] σ) ?_ ?_
                            · by_cases hc379 : (σ.1 60 ((((6 * x1) + x3)).toNatClampNeg)) < (σ.1 60 (((((6 * x2) + 3) + x3)).toNatClampNeg))
                              · refine (if_pos hc379).trans ?_
                                refine Eq.trans (b := am_r L 107 147 [some (.inr (.inr (50, none))), some (.inl x1), some (.inl x2), some (.inl x3), some (.inl (σ.1 60 ((((6 * x1) + x3)).toNatClampNeg))), some (.inl (σ.1 60 (((((6 * x1) + 3) + x3)).toNatClampNeg))), some (.inl (σ.1 60 ((((6 * x2) + x3)).toNatClampNeg))), some (.inl (σ.1 60 (((((6 * x2) + 3) + x3)).toNatClampNeg)))] [.inl 1] σ) ?_ ?_
                                · rfl
                                · first | with_reducible rfl | simp only [if_pos hc379]
                              · refine (if_neg hc379).trans ?_
                                refine Eq.trans (b := am_r L 107 147 [some (.inr (.inr (50, none))), some (.inl x1), some (.inl x2), some (.inl x3), some (.inl (σ.1 60 ((((6 * x1) + x3)).toNatClampNeg))), some (.inl (σ.1 60 (((((6 * x1) + 3) + x3)).toNatClampNeg))), some (.inl (σ.1 60 ((((6 * x2) + x3)).toNatClampNeg))), some (.inl (σ.1 60 (((((6 * x2) + 3) + x3)).toNatClampNeg)))] [.inl 0] σ) ?_ ?_
                                · refine (e_107_124 _ _ _ _ _ _ _ _ _).trans ?_
                                  rfl
                                · first | with_reducible rfl | simp only [if_neg hc379]
                            rfl
                          · first | with_reducible rfl | simp only [if_pos hc378]
                        · refine (if_neg hc378).trans ?_
                          refine Eq.trans (b := am_r L 107 147 [some (.inr (.inr (50, none))), some (.inl x1), some (.inl x2), some (.inl x3), some (.inl (σ.1 60 ((((6 * x1) + x3)).toNatClampNeg))), some (.inl (σ.1 60 (((((6 * x1) + 3) + x3)).toNatClampNeg))), some (.inl (σ.1 60 ((((6 * x2) + x3)).toNatClampNeg))), some (.inl (σ.1 60 (((((6 * x2) + 3) + x3)).toNatClampNeg)))] [.inl 0] σ) ?_ ?_
                          · refine (e_107_124 _ _ _ _ _ _ _ _ _).trans ?_
                            rfl
                          · first | with_reducible rfl | simp only [if_neg hc378]
                      rfl
                    · first | with_reducible rfl | simp only [if_pos hc377]
                  · refine (if_neg hc377).trans ?_
                    refine Eq.trans (b := am_r L 107 147 [some (.inr (.inr (50, none))), some (.inl x1), some (.inl x2), some (.inl x3), some (.inl (σ.1 60 ((((6 * x1) + x3)).toNatClampNeg))), some (.inl (σ.1 60 (((((6 * x1) + 3) + x3)).toNatClampNeg))), some (.inl (σ.1 60 ((((6 * x2) + x3)).toNatClampNeg))), some (.inl (σ.1 60 (((((6 * x2) + 3) + x3)).toNatClampNeg)))] [.inl (if (σ.1 60 ((((6 * x1) + x3)).toNatClampNeg)) < (σ.1 60 ((((6 * x2) + x3)).toNatClampNeg)) then ((if (σ.1 60 ((((6 * x2) + x3)).toNatClampNeg)) < (σ.1 60 (((((6 * x1) + 3) + x3)).toNatClampNeg)) then (1 : Int32) else 0) : Int32) else 0)] σ) ?_ ?_
                    · refine (e_107_128 _ _ _ _ _ _ _ _ _).trans ?_
                      refine Eq.trans (b := am_r L 107 147 [some (.inr (.inr (50, none))), some (.inl x1), some (.inl x2), some (.inl x3), some (.inl (σ.1 60 ((((6 * x1) + x3)).toNatClampNeg))), some (.inl (σ.1 60 (((((6 * x1) + 3) + x3)).toNatClampNeg))), some (.inl (σ.1 60 ((((6 * x2) + x3)).toNatClampNeg))), some (.inl (σ.1 60 (((((6 * x2) + 3) + x3)).toNatClampNeg)))] [.inl (if (σ.1 60 ((((6 * x1) + x3)).toNatClampNeg)) < (σ.1 60 ((((6 * x2) + x3)).toNatClampNeg)) then ((if (σ.1 60 ((((6 * x2) + x3)).toNatClampNeg)) < (σ.1 60 (((((6 * x1) + 3) + x3)).toNatClampNeg)) then (1 : Int32) else 0) : Int32) else 0)] σ) ?_ ?_
                      · by_cases hc380 : (σ.1 60 ((((6 * x1) + x3)).toNatClampNeg)) < (σ.1 60 ((((6 * x2) + x3)).toNatClampNeg))
                        · refine (if_pos hc380).trans ?_
                          refine Eq.trans (b := am_r L 107 147 [some (.inr (.inr (50, none))), some (.inl x1), some (.inl x2), some (.inl x3), some (.inl (σ.1 60 ((((6 * x1) + x3)).toNatClampNeg))), some (.inl (σ.1 60 (((((6 * x1) + 3) + x3)).toNatClampNeg))), some (.inl (σ.1 60 ((((6 * x2) + x3)).toNatClampNeg))), some (.inl (σ.1 60 (((((6 * x2) + 3) + x3)).toNatClampNeg)))] [.inl (if (σ.1 60 ((((6 * x2) + x3)).toNatClampNeg)) < (σ.1 60 (((((6 * x1) + 3) + x3)).toNatClampNeg)) then (1 : Int32) else 0)] σ) ?_ ?_
                          · refine Eq.trans (b := am_r L 107 147 [some (.inr (.inr (50, none))), some (.inl x1), some (.inl x2), some (.inl x3), some (.inl (σ.1 60 ((((6 * x1) + x3)).toNatClampNeg))), some (.inl (σ.1 60 (((((6 * x1) + 3) + x3)).toNatClampNeg))), some (.inl (σ.1 60 ((((6 * x2) + x3)).toNatClampNeg))), some (.inl (σ.1 60 (((((6 * x2) + 3) + x3)).toNatClampNeg)))] [.inl (if (σ.1 60 ((((6 * x2) + x3)).toNatClampNeg)) < (σ.1 60 (((((6 * x1) + 3) + x3)).toNatClampNeg)) then (1 : Int32) else 0)] σ) ?_ ?_
                            · by_cases hc381 : (σ.1 60 ((((6 * x2) + x3)).toNatClampNeg)) < (σ.1 60 (((((6 * x1) + 3) + x3)).toNatClampNeg))
                              · refine (if_pos hc381).trans ?_
                                refine Eq.trans (b := am_r L 107 147 [some (.inr (.inr (50, none))), some (.inl x1), some (.inl x2), some (.inl x3), some (.inl (σ.1 60 ((((6 * x1) + x3)).toNatClampNeg))), some (.inl (σ.1 60 (((((6 * x1) + 3) + x3)).toNatClampNeg))), some (.inl (σ.1 60 ((((6 * x2) + x3)).toNatClampNeg))), some (.inl (σ.1 60 (((((6 * x2) + 3) + x3)).toNatClampNeg)))] [.inl 1] σ) ?_ ?_
                                · rfl
                                · first | with_reducible rfl | simp only [if_pos hc381]
                              · refine (if_neg hc381).trans ?_
                                refine Eq.trans (b := am_r L 107 147 [some (.inr (.inr (50, none))), some (.inl x1), some (.inl x2), some (.inl x3), some (.inl (σ.1 60 ((((6 * x1) + x3)).toNatClampNeg))), some (.inl (σ.1 60 (((((6 * x1) + 3) + x3)).toNatClampNeg))), some (.inl (σ.1 60 ((((6 * x2) + x3)).toNatClampNeg))), some (.inl (σ.1 60 (((((6 * x2) + 3) + x3)).toNatClampNeg)))] [.inl 0] σ) ?_ ?_
                                · refine (e_107_146 _ _ _ _ _ _ _ _ _).trans ?_
                                  rfl
                                · first | with_reducible rfl | simp only [if_neg hc381]
                            rfl
                          · first | with_reducible rfl | simp only [if_pos hc380]
                        · refine (if_neg hc380).trans ?_
                          refine Eq.trans (b := am_r L 107 147 [some (.inr (.inr (50, none))), some (.inl x1), some (.inl x2), some (.inl x3), some (.inl (σ.1 60 ((((6 * x1) + x3)).toNatClampNeg))), some (.inl (σ.1 60 (((((6 * x1) + 3) + x3)).toNatClampNeg))), some (.inl (σ.1 60 ((((6 * x2) + x3)).toNatClampNeg))), some (.inl (σ.1 60 (((((6 * x2) + 3) + x3)).toNatClampNeg)))] [.inl 0] σ) ?_ ?_
                          · refine (e_107_146 _ _ _ _ _ _ _ _ _).trans ?_
                            rfl
                          · first | with_reducible rfl | simp only [if_neg hc380]
                      rfl
                    · first | with_reducible rfl | simp only [if_neg hc377]
                rfl
              · first | with_reducible rfl | simp only [if_neg hc375]
          rfl
        · first | with_reducible rfl | simp only [if_pos hc374]
      · refine (if_neg hc374).trans ?_
        refine Eq.trans (b := am_r L 107 147 [some (.inr (.inr (50, none))), some (.inl x1), some (.inl x2), some (.inl x3), some (.inl (σ.1 60 ((((6 * x1) + x3)).toNatClampNeg))), some (.inl (σ.1 60 (((((6 * x1) + 3) + x3)).toNatClampNeg))), some (.inl (σ.1 60 ((((6 * x2) + x3)).toNatClampNeg))), some (.inl (σ.1 60 (((((6 * x2) + 3) + x3)).toNatClampNeg)))] [.inl (if (σ.1 60 ((((6 * x1) + x3)).toNatClampNeg)) = (σ.1 60 (((((6 * x1) + 3) + x3)).toNatClampNeg)) then ((if (σ.1 60 ((((6 * x2) + x3)).toNatClampNeg)) < (σ.1 60 ((((6 * x1) + x3)).toNatClampNeg)) then ((if (σ.1 60 ((((6 * x1) + x3)).toNatClampNeg)) < (σ.1 60 (((((6 * x2) + 3) + x3)).toNatClampNeg)) then (1 : Int32) else 0) : Int32) else 0) : Int32) else (if (σ.1 60 ((((6 * x1) + x3)).toNatClampNeg)) < (σ.1 60 ((((6 * x2) + x3)).toNatClampNeg)) then ((if (σ.1 60 ((((6 * x2) + x3)).toNatClampNeg)) < (σ.1 60 (((((6 * x1) + 3) + x3)).toNatClampNeg)) then (1 : Int32) else 0) : Int32) else 0))] σ) ?_ ?_
        · refine (e_107_99 _ _ _ _ _ _ _ _ _).trans ?_
          refine Eq.trans (b := am_r L 107 147 [some (.inr (.inr (50, none))), some (.inl x1), some (.inl x2), some (.inl x3), some (.inl (σ.1 60 ((((6 * x1) + x3)).toNatClampNeg))), some (.inl (σ.1 60 (((((6 * x1) + 3) + x3)).toNatClampNeg))), some (.inl (σ.1 60 ((((6 * x2) + x3)).toNatClampNeg))), some (.inl (σ.1 60 (((((6 * x2) + 3) + x3)).toNatClampNeg)))] [.inl (if (σ.1 60 ((((6 * x1) + x3)).toNatClampNeg)) = (σ.1 60 (((((6 * x1) + 3) + x3)).toNatClampNeg)) then ((if (σ.1 60 ((((6 * x2) + x3)).toNatClampNeg)) < (σ.1 60 ((((6 * x1) + x3)).toNatClampNeg)) then ((if (σ.1 60 ((((6 * x1) + x3)).toNatClampNeg)) < (σ.1 60 (((((6 * x2) + 3) + x3)).toNatClampNeg)) then (1 : Int32) else 0) : Int32) else 0) : Int32) else (if (σ.1 60 ((((6 * x1) + x3)).toNatClampNeg)) < (σ.1 60 ((((6 * x2) + x3)).toNatClampNeg)) then ((if (σ.1 60 ((((6 * x2) + x3)).toNatClampNeg)) < (σ.1 60 (((((6 * x1) + 3) + x3)).toNatClampNeg)) then (1 : Int32) else 0) : Int32) else 0))] σ) ?_ ?_
          · by_cases hc382 : (σ.1 60 ((((6 * x1) + x3)).toNatClampNeg)) = (σ.1 60 (((((6 * x1) + 3) + x3)).toNatClampNeg))
            · refine (if_pos hc382).trans ?_
              refine Eq.trans (b := am_r L 107 147 [some (.inr (.inr (50, none))), some (.inl x1), some (.inl x2), some (.inl x3), some (.inl (σ.1 60 ((((6 * x1) + x3)).toNatClampNeg))), some (.inl (σ.1 60 (((((6 * x1) + 3) + x3)).toNatClampNeg))), some (.inl (σ.1 60 ((((6 * x2) + x3)).toNatClampNeg))), some (.inl (σ.1 60 (((((6 * x2) + 3) + x3)).toNatClampNeg)))] [.inl (if (σ.1 60 ((((6 * x2) + x3)).toNatClampNeg)) < (σ.1 60 ((((6 * x1) + x3)).toNatClampNeg)) then ((if (σ.1 60 ((((6 * x1) + x3)).toNatClampNeg)) < (σ.1 60 (((((6 * x2) + 3) + x3)).toNatClampNeg)) then (1 : Int32) else 0) : Int32) else 0)] σ) ?_ ?_
              · refine Eq.trans (b := am_r L 107 147 [some (.inr (.inr (50, none))), some (.inl x1), some (.inl x2), some (.inl x3), some (.inl (σ.1 60 ((((6 * x1) + x3)).toNatClampNeg))), some (.inl (σ.1 60 (((((6 * x1) + 3) + x3)).toNatClampNeg))), some (.inl (σ.1 60 ((((6 * x2) + x3)).toNatClampNeg))), some (.inl (σ.1 60 (((((6 * x2) + 3) + x3)).toNatClampNeg)))] [.inl (if (σ.1 60 ((((6 * x2) + x3)).toNatClampNeg)) < (σ.1 60 ((((6 * x1) + x3)).toNatClampNeg)) then ((if (σ.1 60 ((((6 * x1) + x3)).toNatClampNeg)) < (σ.1 60 (((((6 * x2) + 3) + x3)).toNatClampNeg)) then (1 : Int32) else 0) : Int32) else 0)] σ) ?_ ?_
                · by_cases hc383 : (σ.1 60 ((((6 * x2) + x3)).toNatClampNeg)) < (σ.1 60 ((((6 * x1) + x3)).toNatClampNeg))
                  · refine (if_pos hc383).trans ?_
                    refine Eq.trans (b := am_r L 107 147 [some (.inr (.inr (50, none))), some (.inl x1), some (.inl x2), some (.inl x3), some (.inl (σ.1 60 ((((6 * x1) + x3)).toNatClampNeg))), some (.inl (σ.1 60 (((((6 * x1) + 3) + x3)).toNatClampNeg))), some (.inl (σ.1 60 ((((6 * x2) + x3)).toNatClampNeg))), some (.inl (σ.1 60 (((((6 * x2) + 3) + x3)).toNatClampNeg)))] [.inl (if (σ.1 60 ((((6 * x1) + x3)).toNatClampNeg)) < (σ.1 60 (((((6 * x2) + 3) + x3)).toNatClampNeg)) then (1 : Int32) else 0)] σ) ?_ ?_
                    · refine Eq.trans (b := am_r L 107 147 [some (.inr (.inr (50, none))), some (.inl x1), some (.inl x2), some (.inl x3), some (.inl (σ.1 60 ((((6 * x1) + x3)).toNatClampNeg))), some (.inl (σ.1 60 (((((6 * x1) + 3) + x3)).toNatClampNeg))), some (.inl (σ.1 60 ((((6 * x2) + x3)).toNatClampNeg))), some (.inl (σ.1 60 (((((6 * x2) + 3) + x3)).toNatClampNeg)))] [.inl (if (σ.1 60 ((((6 * x1) + x3)).toNatClampNeg)) < (σ.1 60 (((((6 * x2) + 3) + x3)).toNatClampNeg)) then (1 : Int32) else 0)] σ) ?_ ?_
                      · by_cases hc384 : (σ.1 60 ((((6 * x1) + x3)).toNatClampNeg)) < (σ.1 60 (((((6 * x2) + 3) + x3)).toNatClampNeg))
                        · refine (if_pos hc384).trans ?_
                          refine Eq.trans (b := am_r L 107 147 [some (.inr (.inr (50, none))), some (.inl x1), some (.inl x2), some (.inl x3), some (.inl (σ.1 60 ((((6 * x1) + x3)).toNatClampNeg))), some (.inl (σ.1 60 (((((6 * x1) + 3) + x3)).toNatClampNeg))), some (.inl (σ.1 60 ((((6 * x2) + x3)).toNatClampNeg))), some (.inl (σ.1 60 (((((6 * x2) + 3) + x3)).toNatClampNeg)))] [.inl 1] σ) ?_ ?_
                          · rfl
                          · first | with_reducible rfl | simp only [if_pos hc384]
                        · refine (if_neg hc384).trans ?_
                          refine Eq.trans (b := am_r L 107 147 [some (.inr (.inr (50, none))), some (.inl x1), some (.inl x2), some (.inl x3), some (.inl (σ.1 60 ((((6 * x1) + x3)).toNatClampNeg))), some (.inl (σ.1 60 (((((6 * x1) + 3) + x3)).toNatClampNeg))), some (.inl (σ.1 60 ((((6 * x2) + x3)).toNatClampNeg))), some (.inl (σ.1 60 (((((6 * x2) + 3) + x3)).toNatClampNeg)))] [.inl 0] σ) ?_ ?_
                          · refine (e_107_124 _ _ _ _ _ _ _ _ _).trans ?_
                            rfl
                          · first | with_reducible rfl | simp only [if_neg hc384]
                      rfl
                    · first | with_reducible rfl | simp only [if_pos hc383]
                  · refine (if_neg hc383).trans ?_
                    refine Eq.trans (b := am_r L 107 147 [some (.inr (.inr (50, none))), some (.inl x1), some (.inl x2), some (.inl x3), some (.inl (σ.1 60 ((((6 * x1) + x3)).toNatClampNeg))), some (.inl (σ.1 60 (((((6 * x1) + 3) + x3)).toNatClampNeg))), some (.inl (σ.1 60 ((((6 * x2) + x3)).toNatClampNeg))), some (.inl (σ.1 60 (((((6 * x2) + 3) + x3)).toNatClampNeg)))] [.inl 0] σ) ?_ ?_
                    · refine (e_107_124 _ _ _ _ _ _ _ _ _).trans ?_
                      rfl
                    · first | with_reducible rfl | simp only [if_neg hc383]
                rfl
              · first | with_reducible rfl | simp only [if_pos hc382]
            · refine (if_neg hc382).trans ?_
              refine Eq.trans (b := am_r L 107 147 [some (.inr (.inr (50, none))), some (.inl x1), some (.inl x2), some (.inl x3), some (.inl (σ.1 60 ((((6 * x1) + x3)).toNatClampNeg))), some (.inl (σ.1 60 (((((6 * x1) + 3) + x3)).toNatClampNeg))), some (.inl (σ.1 60 ((((6 * x2) + x3)).toNatClampNeg))), some (.inl (σ.1 60 (((((6 * x2) + 3) + x3)).toNatClampNeg)))] [.inl (if (σ.1 60 ((((6 * x1) + x3)).toNatClampNeg)) < (σ.1 60 ((((6 * x2) + x3)).toNatClampNeg)) then ((if (σ.1 60 ((((6 * x2) + x3)).toNatClampNeg)) < (σ.1 60 (((((6 * x1) + 3) + x3)).toNatClampNeg)) then (1 : Int32) else 0) : Int32) else 0)] σ) ?_ ?_
              · refine (e_107_128 _ _ _ _ _ _ _ _ _).trans ?_
                refine Eq.trans (b := am_r L 107 147 [some (.inr (.inr (50, none))), some (.inl x1), some (.inl x2), some (.inl x3), some (.inl (σ.1 60 ((((6 * x1) + x3)).toNatClampNeg))), some (.inl (σ.1 60 (((((6 * x1) + 3) + x3)).toNatClampNeg))), some (.inl (σ.1 60 ((((6 * x2) + x3)).toNatClampNeg))), some (.inl (σ.1 60 (((((6 * x2) + 3) + x3)).toNatClampNeg)))] [.inl (if (σ.1 60 ((((6 * x1) + x3)).toNatClampNeg)) < (σ.1 60 ((((6 * x2) + x3)).toNatClampNeg)) then ((if (σ.1 60 ((((6 * x2) + x3)).toNatClampNeg)) < (σ.1 60 (((((6 * x1) + 3) + x3)).toNatClampNeg)) then (1 : Int32) else 0) : Int32) else 0)] σ) ?_ ?_
                · by_cases hc385 : (σ.1 60 ((((6 * x1) + x3)).toNatClampNeg)) < (σ.1 60 ((((6 * x2) + x3)).toNatClampNeg))
                  · refine (if_pos hc385).trans ?_
                    refine Eq.trans (b := am_r L 107 147 [some (.inr (.inr (50, none))), some (.inl x1), some (.inl x2), some (.inl x3), some (.inl (σ.1 60 ((((6 * x1) + x3)).toNatClampNeg))), some (.inl (σ.1 60 (((((6 * x1) + 3) + x3)).toNatClampNeg))), some (.inl (σ.1 60 ((((6 * x2) + x3)).toNatClampNeg))), some (.inl (σ.1 60 (((((6 * x2) + 3) + x3)).toNatClampNeg)))] [.inl (if (σ.1 60 ((((6 * x2) + x3)).toNatClampNeg)) < (σ.1 60 (((((6 * x1) + 3) + x3)).toNatClampNeg)) then (1 : Int32) else 0)] σ) ?_ ?_
                    · refine Eq.trans (b := am_r L 107 147 [some (.inr (.inr (50, none))), some (.inl x1), some (.inl x2), some (.inl x3), some (.inl (σ.1 60 ((((6 * x1) + x3)).toNatClampNeg))), some (.inl (σ.1 60 (((((6 * x1) + 3) + x3)).toNatClampNeg))), some (.inl (σ.1 60 ((((6 * x2) + x3)).toNatClampNeg))), some (.inl (σ.1 60 (((((6 * x2) + 3) + x3)).toNatClampNeg)))] [.inl (if (σ.1 60 ((((6 * x2) + x3)).toNatClampNeg)) < (σ.1 60 (((((6 * x1) + 3) + x3)).toNatClampNeg)) then (1 : Int32) else 0)] σ) ?_ ?_
                      · by_cases hc386 : (σ.1 60 ((((6 * x2) + x3)).toNatClampNeg)) < (σ.1 60 (((((6 * x1) + 3) + x3)).toNatClampNeg))
                        · refine (if_pos hc386).trans ?_
                          refine Eq.trans (b := am_r L 107 147 [some (.inr (.inr (50, none))), some (.inl x1), some (.inl x2), some (.inl x3), some (.inl (σ.1 60 ((((6 * x1) + x3)).toNatClampNeg))), some (.inl (σ.1 60 (((((6 * x1) + 3) + x3)).toNatClampNeg))), some (.inl (σ.1 60 ((((6 * x2) + x3)).toNatClampNeg))), some (.inl (σ.1 60 (((((6 * x2) + 3) + x3)).toNatClampNeg)))] [.inl 1] σ) ?_ ?_
                          · rfl
                          · first | with_reducible rfl | simp only [if_pos hc386]
                        · refine (if_neg hc386).trans ?_
                          refine Eq.trans (b := am_r L 107 147 [some (.inr (.inr (50, none))), some (.inl x1), some (.inl x2), some (.inl x3), some (.inl (σ.1 60 ((((6 * x1) + x3)).toNatClampNeg))), some (.inl (σ.1 60 (((((6 * x1) + 3) + x3)).toNatClampNeg))), some (.inl (σ.1 60 ((((6 * x2) + x3)).toNatClampNeg))), some (.inl (σ.1 60 (((((6 * x2) + 3) + x3)).toNatClampNeg)))] [.inl 0] σ) ?_ ?_
                          · refine (e_107_146 _ _ _ _ _ _ _ _ _).trans ?_
                            rfl
                          · first | with_reducible rfl | simp only [if_neg hc386]
                      rfl
                    · first | with_reducible rfl | simp only [if_pos hc385]
                  · refine (if_neg hc385).trans ?_
                    refine Eq.trans (b := am_r L 107 147 [some (.inr (.inr (50, none))), some (.inl x1), some (.inl x2), some (.inl x3), some (.inl (σ.1 60 ((((6 * x1) + x3)).toNatClampNeg))), some (.inl (σ.1 60 (((((6 * x1) + 3) + x3)).toNatClampNeg))), some (.inl (σ.1 60 ((((6 * x2) + x3)).toNatClampNeg))), some (.inl (σ.1 60 (((((6 * x2) + 3) + x3)).toNatClampNeg)))] [.inl 0] σ) ?_ ?_
                    · refine (e_107_146 _ _ _ _ _ _ _ _ _).trans ?_
                      rfl
                    · first | with_reducible rfl | simp only [if_neg hc385]
                rfl
              · first | with_reducible rfl | simp only [if_neg hc382]
          rfl
        · first | with_reducible rfl | simp only [if_neg hc374]
    refine (e_107_147 _ _ _ _ _ _ _ _ _ _).trans ?_
    refine (if_pos (am_01 (am_01 (am_01 (Or.inr rfl) (Or.inl rfl)) (am_01 (am_01 (am_01 (Or.inr rfl) (Or.inl rfl)) (Or.inl rfl)) (am_01 (am_01 (Or.inr rfl) (Or.inl rfl)) (Or.inl rfl)))) (am_01 (am_01 (am_01 (Or.inr rfl) (Or.inl rfl)) (Or.inl rfl)) (am_01 (am_01 (Or.inr rfl) (Or.inl rfl)) (Or.inl rfl))))).trans ?_
    rfl
  · refine am_fkIv (fun hc387 => ?_) (fun hc387 => ?_)
    · refine (e_107_70 _ _ _ _ _ _ _ _ _).trans ?_
      refine Eq.trans (b := am_r L 107 147 [some (.inr (.inr (50, none))), some (.inl x1), some (.inl x2), some (.inl x3), some (.inl (σ.1 60 ((((6 * x1) + x3)).toNatClampNeg))), some (.inl (σ.1 60 (((((6 * x1) + 3) + x3)).toNatClampNeg))), some (.inl (σ.1 60 ((((6 * x2) + x3)).toNatClampNeg))), some (.inl (σ.1 60 (((((6 * x2) + 3) + x3)).toNatClampNeg)))] [.inl (if (σ.1 60 ((((6 * x1) + x3)).toNatClampNeg)) = (σ.1 60 (((((6 * x1) + 3) + x3)).toNatClampNeg)) then ((if (σ.1 60 ((((6 * x2) + x3)).toNatClampNeg)) = (σ.1 60 (((((6 * x2) + 3) + x3)).toNatClampNeg)) then ((if (σ.1 60 ((((6 * x1) + x3)).toNatClampNeg)) = (σ.1 60 ((((6 * x2) + x3)).toNatClampNeg)) then (1 : Int32) else 0) : Int32) else (if (σ.1 60 ((((6 * x1) + x3)).toNatClampNeg)) = (σ.1 60 (((((6 * x1) + 3) + x3)).toNatClampNeg)) then ((if (σ.1 60 ((((6 * x2) + x3)).toNatClampNeg)) < (σ.1 60 ((((6 * x1) + x3)).toNatClampNeg)) then ((if (σ.1 60 ((((6 * x1) + x3)).toNatClampNeg)) < (σ.1 60 (((((6 * x2) + 3) + x3)).toNatClampNeg)) then (1 : Int32) else 0) : Int32) else 0) : Int32) else (if (σ.1 60 ((((6 * x1) + x3)).toNatClampNeg)) < (σ.1 60 ((((6 * x2) + x3)).toNatClampNeg)) then ((if (σ.1 60 ((((6 * x2) + x3)).toNatClampNeg)) < (σ.1 60 (((((6 * x1) + 3) + x3)).toNatClampNeg)) then (1 : Int32) else 0) : Int32) else 0))) : Int32) else (if (σ.1 60 ((((6 * x1) + x3)).toNatClampNeg)) = (σ.1 60 (((((6 * x1) + 3) + x3)).toNatClampNeg)) then ((if (σ.1 60 ((((6 * x2) + x3)).toNatClampNeg)) < (σ.1 60 ((((6 * x1) + x3)).toNatClampNeg)) then ((if (σ.1 60 ((((6 * x1) + x3)).toNatClampNeg)) < (σ.1 60 (((((6 * x2) + 3) + x3)).toNatClampNeg)) then (1 : Int32) else 0) : Int32) else 0) : Int32) else (if (σ.1 60 ((((6 * x1) + x3)).toNatClampNeg)) < (σ.1 60 ((((6 * x2) + x3)).toNatClampNeg)) then ((if (σ.1 60 ((((6 * x2) + x3)).toNatClampNeg)) < (σ.1 60 (((((6 * x1) + 3) + x3)).toNatClampNeg)) then (1 : Int32) else 0) : Int32) else 0)))] σ) ?_ ?_
      · by_cases hc388 : (σ.1 60 ((((6 * x1) + x3)).toNatClampNeg)) = (σ.1 60 (((((6 * x1) + 3) + x3)).toNatClampNeg))
        · refine (if_pos hc388).trans ?_
          refine Eq.trans (b := am_r L 107 147 [some (.inr (.inr (50, none))), some (.inl x1), some (.inl x2), some (.inl x3), some (.inl (σ.1 60 ((((6 * x1) + x3)).toNatClampNeg))), some (.inl (σ.1 60 (((((6 * x1) + 3) + x3)).toNatClampNeg))), some (.inl (σ.1 60 ((((6 * x2) + x3)).toNatClampNeg))), some (.inl (σ.1 60 (((((6 * x2) + 3) + x3)).toNatClampNeg)))] [.inl (if (σ.1 60 ((((6 * x2) + x3)).toNatClampNeg)) = (σ.1 60 (((((6 * x2) + 3) + x3)).toNatClampNeg)) then ((if (σ.1 60 ((((6 * x1) + x3)).toNatClampNeg)) = (σ.1 60 ((((6 * x2) + x3)).toNatClampNeg)) then (1 : Int32) else 0) : Int32) else (if (σ.1 60 ((((6 * x1) + x3)).toNatClampNeg)) = (σ.1 60 (((((6 * x1) + 3) + x3)).toNatClampNeg)) then ((if (σ.1 60 ((((6 * x2) + x3)).toNatClampNeg)) < (σ.1 60 ((((6 * x1) + x3)).toNatClampNeg)) then ((if (σ.1 60 ((((6 * x1) + x3)).toNatClampNeg)) < (σ.1 60 (((((6 * x2) + 3) + x3)).toNatClampNeg)) then (1 : Int32) else 0) : Int32) else 0) : Int32) else (if (σ.1 60 ((((6 * x1) + x3)).toNatClampNeg)) < (σ.1 60 ((((6 * x2) + x3)).toNatClampNeg)) then ((if (σ.1 60 ((((6 * x2) + x3)).toNatClampNeg)) < (σ.1 60 (((((6 * x1) + 3) + x3)).toNatClampNeg)) then (1 : Int32) else 0) : Int32) else 0)))] σ) ?_ ?_
          · refine Eq.trans (b := am_r L 107 147 [some (.inr (.inr (50, none))), some (.inl x1), some (.inl x2), some (.inl x3), some (.inl (σ.1 60 ((((6 * x1) + x3)).toNatClampNeg))), some (.inl (σ.1 60 (((((6 * x1) + 3) + x3)).toNatClampNeg))), some (.inl (σ.1 60 ((((6 * x2) + x3)).toNatClampNeg))), some (.inl (σ.1 60 (((((6 * x2) + 3) + x3)).toNatClampNeg)))] [.inl (if (σ.1 60 ((((6 * x2) + x3)).toNatClampNeg)) = (σ.1 60 (((((6 * x2) + 3) + x3)).toNatClampNeg)) then ((if (σ.1 60 ((((6 * x1) + x3)).toNatClampNeg)) = (σ.1 60 ((((6 * x2) + x3)).toNatClampNeg)) then (1 : Int32) else 0) : Int32) else (if (σ.1 60 ((((6 * x1) + x3)).toNatClampNeg)) = (σ.1 60 (((((6 * x1) + 3) + x3)).toNatClampNeg)) then ((if (σ.1 60 ((((6 * x2) + x3)).toNatClampNeg)) < (σ.1 60 ((((6 * x1) + x3)).toNatClampNeg)) then ((if (σ.1 60 ((((6 * x1) + x3)).toNatClampNeg)) < (σ.1 60 (((((6 * x2) + 3) + x3)).toNatClampNeg)) then (1 : Int32) else 0) : Int32) else 0) : Int32) else (if (σ.1 60 ((((6 * x1) + x3)).toNatClampNeg)) < (σ.1 60 ((((6 * x2) + x3)).toNatClampNeg)) then ((if (σ.1 60 ((((6 * x2) + x3)).toNatClampNeg)) < (σ.1 60 (((((6 * x1) + 3) + x3)).toNatClampNeg)) then (1 : Int32) else 0) : Int32) else 0)))] σ) ?_ ?_
            · by_cases hc389 : (σ.1 60 ((((6 * x2) + x3)).toNatClampNeg)) = (σ.1 60 (((((6 * x2) + 3) + x3)).toNatClampNeg))
              · refine (if_pos hc389).trans ?_
                refine Eq.trans (b := am_r L 107 147 [some (.inr (.inr (50, none))), some (.inl x1), some (.inl x2), some (.inl x3), some (.inl (σ.1 60 ((((6 * x1) + x3)).toNatClampNeg))), some (.inl (σ.1 60 (((((6 * x1) + 3) + x3)).toNatClampNeg))), some (.inl (σ.1 60 ((((6 * x2) + x3)).toNatClampNeg))), some (.inl (σ.1 60 (((((6 * x2) + 3) + x3)).toNatClampNeg)))] [.inl (if (σ.1 60 ((((6 * x1) + x3)).toNatClampNeg)) = (σ.1 60 ((((6 * x2) + x3)).toNatClampNeg)) then (1 : Int32) else 0)] σ) ?_ ?_
                · refine Eq.trans (b := am_r L 107 147 [some (.inr (.inr (50, none))), some (.inl x1), some (.inl x2), some (.inl x3), some (.inl (σ.1 60 ((((6 * x1) + x3)).toNatClampNeg))), some (.inl (σ.1 60 (((((6 * x1) + 3) + x3)).toNatClampNeg))), some (.inl (σ.1 60 ((((6 * x2) + x3)).toNatClampNeg))), some (.inl (σ.1 60 (((((6 * x2) + 3) + x3)).toNatClampNeg)))] [.inl (if (σ.1 60 ((((6 * x1) + x3)).toNatClampNeg)) = (σ.1 60 ((((6 * x2) + x3)).toNatClampNeg)) then (1 : Int32) else 0)] σ) ?_ ?_
                  · by_cases hc390 : (σ.1 60 ((((6 * x1) + x3)).toNatClampNeg)) = (σ.1 60 ((((6 * x2) + x3)).toNatClampNeg))
                    · refine (if_pos hc390).trans ?_
                      refine Eq.trans (b := am_r L 107 147 [some (.inr (.inr (50, none))), some (.inl x1), some (.inl x2), some (.inl x3), some (.inl (σ.1 60 ((((6 * x1) + x3)).toNatClampNeg))), some (.inl (σ.1 60 (((((6 * x1) + 3) + x3)).toNatClampNeg))), some (.inl (σ.1 60 ((((6 * x2) + x3)).toNatClampNeg))), some (.inl (σ.1 60 (((((6 * x2) + 3) + x3)).toNatClampNeg)))] [.inl 1] σ) ?_ ?_
                      · rfl
                      · first | with_reducible rfl | simp only [if_pos hc390]
                    · refine (if_neg hc390).trans ?_
                      refine Eq.trans (b := am_r L 107 147 [some (.inr (.inr (50, none))), some (.inl x1), some (.inl x2), some (.inl x3), some (.inl (σ.1 60 ((((6 * x1) + x3)).toNatClampNeg))), some (.inl (σ.1 60 (((((6 * x1) + 3) + x3)).toNatClampNeg))), some (.inl (σ.1 60 ((((6 * x2) + x3)).toNatClampNeg))), some (.inl (σ.1 60 (((((6 * x2) + 3) + x3)).toNatClampNeg)))] [.inl 0] σ) ?_ ?_
                      · refine (e_107_95 _ _ _ _ _ _ _ _ _).trans ?_
                        rfl
                      · first | with_reducible rfl | simp only [if_neg hc390]
                  rfl
                · first | with_reducible rfl | simp only [if_pos hc389]
              · refine (if_neg hc389).trans ?_
                refine Eq.trans (b := am_r L 107 147 [some (.inr (.inr (50, none))), some (.inl x1), some (.inl x2), some (.inl x3), some (.inl (σ.1 60 ((((6 * x1) + x3)).toNatClampNeg))), some (.inl (σ.1 60 (((((6 * x1) + 3) + x3)).toNatClampNeg))), some (.inl (σ.1 60 ((((6 * x2) + x3)).toNatClampNeg))), some (.inl (σ.1 60 (((((6 * x2) + 3) + x3)).toNatClampNeg)))] [.inl (if (σ.1 60 ((((6 * x1) + x3)).toNatClampNeg)) = (σ.1 60 (((((6 * x1) + 3) + x3)).toNatClampNeg)) then ((if (σ.1 60 ((((6 * x2) + x3)).toNatClampNeg)) < (σ.1 60 ((((6 * x1) + x3)).toNatClampNeg)) then ((if (σ.1 60 ((((6 * x1) + x3)).toNatClampNeg)) < (σ.1 60 (((((6 * x2) + 3) + x3)).toNatClampNeg)) then (1 : Int32) else 0) : Int32) else 0) : Int32) else (if (σ.1 60 ((((6 * x1) + x3)).toNatClampNeg)) < (σ.1 60 ((((6 * x2) + x3)).toNatClampNeg)) then ((if (σ.1 60 ((((6 * x2) + x3)).toNatClampNeg)) < (σ.1 60 (((((6 * x1) + 3) + x3)).toNatClampNeg)) then (1 : Int32) else 0) : Int32) else 0))] σ) ?_ ?_
                · refine (e_107_99 _ _ _ _ _ _ _ _ _).trans ?_
                  refine Eq.trans (b := am_r L 107 147 [some (.inr (.inr (50, none))), some (.inl x1), some (.inl x2), some (.inl x3), some (.inl (σ.1 60 ((((6 * x1) + x3)).toNatClampNeg))), some (.inl (σ.1 60 (((((6 * x1) + 3) + x3)).toNatClampNeg))), some (.inl (σ.1 60 ((((6 * x2) + x3)).toNatClampNeg))), some (.inl (σ.1 60 (((((6 * x2) + 3) + x3)).toNatClampNeg)))] [.inl (if (σ.1 60 ((((6 * x1) + x3)).toNatClampNeg)) = (σ.1 60 (((((6 * x1) + 3) + x3)).toNatClampNeg)) then ((if (σ.1 60 ((((6 * x2) + x3)).toNatClampNeg)) < (σ.1 60 ((((6 * x1) + x3)).toNatClampNeg)) then ((if (σ.1 60 ((((6 * x1) + x3)).toNatClampNeg)) < (σ.1 60 (((((6 * x2) + 3) + x3)).toNatClampNeg)) then (1 : Int32) else 0) : Int32) else 0) : Int32) else (if (σ.1 60 ((((6 * x1) + x3)).toNatClampNeg)) < (σ.1 60 ((((6 * x2) + x3)).toNatClampNeg)) then ((if (σ.1 60 ((((6 * x2) + x3)).toNatClampNeg)) < (σ.1 60 (((((6 * x1) + 3) + x3)).toNatClampNeg)) then (1 : Int32) else 0) : Int32) else 0))] σ) ?_ ?_
                  · by_cases hc391 : (σ.1 60 ((((6 * x1) + x3)).toNatClampNeg)) = (σ.1 60 (((((6 * x1) + 3) + x3)).toNatClampNeg))
                    · refine (if_pos hc391).trans ?_
                      refine Eq.trans (b := am_r L 107 147 [some (.inr (.inr (50, none))), some (.inl x1), some (.inl x2), some (.inl x3), some (.inl (σ.1 60 ((((6 * x1) + x3)).toNatClampNeg))), some (.inl (σ.1 60 (((((6 * x1) + 3) + x3)).toNatClampNeg))), some (.inl (σ.1 60 ((((6 * x2) + x3)).toNatClampNeg))), some (.inl (σ.1 60 (((((6 * x2) + 3) + x3)).toNatClampNeg)))] [.inl (if (σ.1 60 ((((6 * x2) + x3)).toNatClampNeg)) < (σ.1 60 ((((6 * x1) + x3)).toNatClampNeg)) then ((if (σ.1 60 ((((6 * x1) + x3)).toNatClampNeg)) < (σ.1 60 (((((6 * x2) + 3) + x3)).toNatClampNeg)) then (1 : Int32) else 0) : Int32) else 0)] σ) ?_ ?_
                      · refine Eq.trans (b := am_r L 107 147 [some (.inr (.inr (50, none))), some (.inl x1), some (.inl x2), some (.inl x3), some (.inl (σ.1 60 ((((6 * x1) + x3)).toNatClampNeg))), some (.inl (σ.1 60 (((((6 * x1) + 3) + x3)).toNatClampNeg))), some (.inl (σ.1 60 ((((6 * x2) + x3)).toNatClampNeg))), some (.inl (σ.1 60 (((((6 * x2) + 3) + x3)).toNatClampNeg)))] [.inl (if (σ.1 60 ((((6 * x2) + x3)).toNatClampNeg)) < (σ.1 60 ((((6 * x1) + x3)).toNatClampNeg)) then ((if (σ.1 60 ((((6 * x1) + x3)).toNatClampNeg)) < (σ.1 60 (((((6 * x2) + 3) + x3)).toNatClampNeg)) then (1 : Int32) else 0) : Int32) else 0)] σ) ?_ ?_
                        · by_cases hc392 : (σ.1 60 ((((6 * x2) + x3)).toNatClampNeg)) < (σ.1 60 ((((6 * x1) + x3)).toNatClampNeg))
                          · refine (if_pos hc392).trans ?_
                            refine Eq.trans (b := am_r L 107 147 [some (.inr (.inr (50, none))), some (.inl x1), some (.inl x2), some (.inl x3), some (.inl (σ.1 60 ((((6 * x1) + x3)).toNatClampNeg))), some (.inl (σ.1 60 (((((6 * x1) + 3) + x3)).toNatClampNeg))), some (.inl (σ.1 60 ((((6 * x2) + x3)).toNatClampNeg))), some (.inl (σ.1 60 (((((6 * x2) + 3) + x3)).toNatClampNeg)))] [.inl (if (σ.1 60 ((((6 * x1) + x3)).toNatClampNeg)) < (σ.1 60 (((((6 * x2) + 3) + x3)).toNatClampNeg)) then (1 : Int32) else 0)] σ) ?_ ?_
                            · refine Eq.trans (b := am_r L 107 147 [some (.inr (.inr (50, none))), some (.inl x1), some (.inl x2), some (.inl x3), some (.inl (σ.1 60 ((((6 * x1) + x3)).toNatClampNeg))), some (.inl (σ.1 60 (((((6 * x1) + 3) + x3)).toNatClampNeg))), some (.inl (σ.1 60 ((((6 * x2) + x3)).toNatClampNeg))), some (.inl (σ.1 60 (((((6 * x2) + 3) + x3)).toNatClampNeg)))] [.inl (if (σ.1 60 ((((6 * x1) + x3)).toNatClampNeg)) < (σ.1 60 (((((6 * x2) + 3) + x3)).toNatClampNeg)) then (1 : Int32) else 0)] σ) ?_ ?_
                              · by_cases hc393 : (σ.1 60 ((((6 * x1) + x3)).toNatClampNeg)) < (σ.1 60 (((((6 * x2) + 3) + x3)).toNatClampNeg))
                                · refine (if_pos hc393).trans ?_
                                  refine Eq.trans (b := am_r L 107 147 [some (.inr (.inr (50, none))), some (.inl x1), some (.inl x2), some (.inl x3), some (.inl (σ.1 60 ((((6 * x1) + x3)).toNatClampNeg))), some (.inl (σ.1 60 (((((6 * x1) + 3) + x3)).toNatClampNeg))), some (.inl (σ.1 60 ((((6 * x2) + x3)).toNatClampNeg))), some (.inl (σ.1 60 (((((6 * x2) + 3) + x3)).toNatClampNeg)))] [.inl 1] σ) ?_ ?_
                                  · rfl
                                  · first | with_reducible rfl | simp only [if_pos hc393]
                                · refine (if_neg hc393).trans ?_
                                  refine Eq.trans (b := am_r L 107 147 [some (.inr (.inr (50, none))), some (.inl x1), some (.inl x2), some (.inl x3), some (.inl (σ.1 60 ((((6 * x1) + x3)).toNatClampNeg))), some (.inl (σ.1 60 (((((6 * x1) + 3) + x3)).toNatClampNeg))), some (.inl (σ.1 60 ((((6 * x2) + x3)).toNatClampNeg))), some (.inl (σ.1 60 (((((6 * x2) + 3) + x3)).toNatClampNeg)))] [.inl 0] σ) ?_ ?_
                                  · refine (e_107_124 _ _ _ _ _ _ _ _ _).trans ?_
                                    rfl
                                  · first | with_reducible rfl | simp only [if_neg hc393]
                              rfl
                            · first | with_reducible rfl | simp only [if_pos hc392]
                          · refine (if_neg hc392).trans ?_
                            refine Eq.trans (b := am_r L 107 147 [some (.inr (.inr (50, none))), some (.inl x1), some (.inl x2), some (.inl x3), some (.inl (σ.1 60 ((((6 * x1) + x3)).toNatClampNeg))), some (.inl (σ.1 60 (((((6 * x1) + 3) + x3)).toNatClampNeg))), some (.inl (σ.1 60 ((((6 * x2) + x3)).toNatClampNeg))), some (.inl (σ.1 60 (((((6 * x2) + 3) + x3)).toNatClampNeg)))] [.inl 0] σ) ?_ ?_
                            · refine (e_107_124 _ _ _ _ _ _ _ _ _).trans ?_
                              rfl
                            · first | with_reducible rfl | simp only [if_neg hc392]
                        rfl
                      · first | with_reducible rfl | simp only [if_pos hc391]
                    · refine (if_neg hc391).trans ?_
                      refine Eq.trans (b := am_r L 107 147 [some (.inr (.inr (50, none))), some (.inl x1), some (.inl x2), some (.inl x3), some (.inl (σ.1 60 ((((6 * x1) + x3)).toNatClampNeg))), some (.inl (σ.1 60 (((((6 * x1) + 3) + x3)).toNatClampNeg))), some (.inl (σ.1 60 ((((6 * x2) + x3)).toNatClampNeg))), some (.inl (σ.1 60 (((((6 * x2) + 3) + x3)).toNatClampNeg)))] [.inl (if (σ.1 60 ((((6 * x1) + x3)).toNatClampNeg)) < (σ.1 60 ((((6 * x2) + x3)).toNatClampNeg)) then ((if (σ.1 60 ((((6 * x2) + x3)).toNatClampNeg)) < (σ.1 60 (((((6 * x1) + 3) + x3)).toNatClampNeg)) then (1 : Int32) else 0) : Int32) else 0)] σ) ?_ ?_
                      · refine (e_107_128 _ _ _ _ _ _ _ _ _).trans ?_
                        refine Eq.trans (b := am_r L 107 147 [some (.inr (.inr (50, none))), some (.inl x1), some (.inl x2), some (.inl x3), some (.inl (σ.1 60 ((((6 * x1) + x3)).toNatClampNeg))), some (.inl (σ.1 60 (((((6 * x1) + 3) + x3)).toNatClampNeg))), some (.inl (σ.1 60 ((((6 * x2) + x3)).toNatClampNeg))), some (.inl (σ.1 60 (((((6 * x2) + 3) + x3)).toNatClampNeg)))] [.inl (if (σ.1 60 ((((6 * x1) + x3)).toNatClampNeg)) < (σ.1 60 ((((6 * x2) + x3)).toNatClampNeg)) then ((if (σ.1 60 ((((6 * x2) + x3)).toNatClampNeg)) < (σ.1 60 (((((6 * x1) + 3) + x3)).toNatClampNeg)) then (1 : Int32) else 0) : Int32) else 0)] σ) ?_ ?_
                        · by_cases hc394 : (σ.1 60 ((((6 * x1) + x3)).toNatClampNeg)) < (σ.1 60 ((((6 * x2) + x3)).toNatClampNeg))
                          · refine (if_pos hc394).trans ?_
                            refine Eq.trans (b := am_r L 107 147 [some (.inr (.inr (50, none))), some (.inl x1), some (.inl x2), some (.inl x3), some (.inl (σ.1 60 ((((6 * x1) + x3)).toNatClampNeg))), some (.inl (σ.1 60 (((((6 * x1) + 3) + x3)).toNatClampNeg))), some (.inl (σ.1 60 ((((6 * x2) + x3)).toNatClampNeg))), some (.inl (σ.1 60 (((((6 * x2) + 3) + x3)).toNatClampNeg)))] [.inl (if (σ.1 60 ((((6 * x2) + x3)).toNatClampNeg)) < (σ.1 60 (((((6 * x1) + 3) + x3)).toNatClampNeg)) then (1 : Int32) else 0)] σ) ?_ ?_
                            · refine Eq.trans (b := am_r L 107 147 [some (.inr (.inr (50, none))), some (.inl x1), some (.inl x2), some (.inl x3), some (.inl (σ.1 60 ((((6 * x1) + x3)).toNatClampNeg))), some (.inl (σ.1 60 (((((6 * x1) + 3) + x3)).toNatClampNeg))), some (.inl (σ.1 60 ((((6 * x2) + x3)).toNatClampNeg))), some (.inl (σ.1 60 (((((6 * x2) + 3) + x3)).toNatClampNeg)))] [.inl (if (σ.1 60 ((((6 * x2) + x3)).toNatClampNeg)) < (σ.1 60 (((((6 * x1) + 3) + x3)).toNatClampNeg)) then (1 : Int32) else 0)] σ) ?_ ?_
                              · by_cases hc395 : (σ.1 60 ((((6 * x2) + x3)).toNatClampNeg)) < (σ.1 60 (((((6 * x1) + 3) + x3)).toNatClampNeg))
                                · refine (if_pos hc395).trans ?_
                                  refine Eq.trans (b := am_r L 107 147 [some (.inr (.inr (50, none))), some (.inl x1), some (.inl x2), some (.inl x3), some (.inl (σ.1 60 ((((6 * x1) + x3)).toNatClampNeg))), some (.inl (σ.1 60 (((((6 * x1) + 3) + x3)).toNatClampNeg))), some (.inl (σ.1 60 ((((6 * x2) + x3)).toNatClampNeg))), some (.inl (σ.1 60 (((((6 * x2) + 3) + x3)).toNatClampNeg)))] [.inl 1] σ) ?_ ?_
                                  · rfl
                                  · first | with_reducible rfl | simp only [if_pos hc395]
                                · refine (if_neg hc395).trans ?_
                                  refine Eq.trans (b := am_r L 107 147 [some (.inr (.inr (50, none))), some (.inl x1), some (.inl x2), some (.inl x3), some (.inl (σ.1 60 ((((6 * x1) + x3)).toNatClampNeg))), some (.inl (σ.1 60 (((((6 * x1) + 3) + x3)).toNatClampNeg))), some (.inl (σ.1 60 ((((6 * x2) + x3)).toNatClampNeg))), some (.inl (σ.1 60 (((((6 * x2) + 3) + x3)).toNatClampNeg)))] [.inl 0] σ) ?_ ?_
                                  · refine (e_107_146 _ _ _ _ _ _ _ _ _).trans ?_
                                    rfl
                                  · first | with_reducible rfl | simp only [if_neg hc395]
                              rfl
                            · first | with_reducible rfl | simp only [if_pos hc394]
                          · refine (if_neg hc394).trans ?_
                            refine Eq.trans (b := am_r L 107 147 [some (.inr (.inr (50, none))), some (.inl x1), some (.inl x2), some (.inl x3), some (.inl (σ.1 60 ((((6 * x1) + x3)).toNatClampNeg))), some (.inl (σ.1 60 (((((6 * x1) + 3) + x3)).toNatClampNeg))), some (.inl (σ.1 60 ((((6 * x2) + x3)).toNatClampNeg))), some (.inl (σ.1 60 (((((6 * x2) + 3) + x3)).toNatClampNeg)))] [.inl 0] σ) ?_ ?_
                            · refine (e_107_146 _ _ _ _ _ _ _ _ _).trans ?_
                              rfl
                            · first | with_reducible rfl | simp only [if_neg hc394]
                        rfl
                      · first | with_reducible rfl | simp only [if_neg hc391]
                  rfl
                · first | with_reducible rfl | simp only [if_neg hc389]
            rfl
          · first | with_reducible rfl | simp only [if_pos hc388]
        · refine (if_neg hc388).trans ?_
          refine Eq.trans (b := am_r L 107 147 [some (.inr (.inr (50, none))), some (.inl x1), some (.inl x2), some (.inl x3), some (.inl (σ.1 60 ((((6 * x1) + x3)).toNatClampNeg))), some (.inl (σ.1 60 (((((6 * x1) + 3) + x3)).toNatClampNeg))), some (.inl (σ.1 60 ((((6 * x2) + x3)).toNatClampNeg))), some (.inl (σ.1 60 (((((6 * x2) + 3) + x3)).toNatClampNeg)))] [.inl (if (σ.1 60 ((((6 * x1) + x3)).toNatClampNeg)) = (σ.1 60 (((((6 * x1) + 3) + x3)).toNatClampNeg)) then ((if (σ.1 60 ((((6 * x2) + x3)).toNatClampNeg)) < (σ.1 60 ((((6 * x1) + x3)).toNatClampNeg)) then ((if (σ.1 60 ((((6 * x1) + x3)).toNatClampNeg)) < (σ.1 60 (((((6 * x2) + 3) + x3)).toNatClampNeg)) then (1 : Int32) else 0) : Int32) else 0) : Int32) else (if (σ.1 60 ((((6 * x1) + x3)).toNatClampNeg)) < (σ.1 60 ((((6 * x2) + x3)).toNatClampNeg)) then ((if (σ.1 60 ((((6 * x2) + x3)).toNatClampNeg)) < (σ.1 60 (((((6 * x1) + 3) + x3)).toNatClampNeg)) then (1 : Int32) else 0) : Int32) else 0))] σ) ?_ ?_
          · refine (e_107_99 _ _ _ _ _ _ _ _ _).trans ?_
            refine Eq.trans (b := am_r L 107 147 [some (.inr (.inr (50, none))), some (.inl x1), some (.inl x2), some (.inl x3), some (.inl (σ.1 60 ((((6 * x1) + x3)).toNatClampNeg))), some (.inl (σ.1 60 (((((6 * x1) + 3) + x3)).toNatClampNeg))), some (.inl (σ.1 60 ((((6 * x2) + x3)).toNatClampNeg))), some (.inl (σ.1 60 (((((6 * x2) + 3) + x3)).toNatClampNeg)))] [.inl (if (σ.1 60 ((((6 * x1) + x3)).toNatClampNeg)) = (σ.1 60 (((((6 * x1) + 3) + x3)).toNatClampNeg)) then ((if (σ.1 60 ((((6 * x2) + x3)).toNatClampNeg)) < (σ.1 60 ((((6 * x1) + x3)).toNatClampNeg)) then ((if (σ.1 60 ((((6 * x1) + x3)).toNatClampNeg)) < (σ.1 60 (((((6 * x2) + 3) + x3)).toNatClampNeg)) then (1 : Int32) else 0) : Int32) else 0) : Int32) else (if (σ.1 60 ((((6 * x1) + x3)).toNatClampNeg)) < (σ.1 60 ((((6 * x2) + x3)).toNatClampNeg)) then ((if (σ.1 60 ((((6 * x2) + x3)).toNatClampNeg)) < (σ.1 60 (((((6 * x1) + 3) + x3)).toNatClampNeg)) then (1 : Int32) else 0) : Int32) else 0))] σ) ?_ ?_
            · by_cases hc396 : (σ.1 60 ((((6 * x1) + x3)).toNatClampNeg)) = (σ.1 60 (((((6 * x1) + 3) + x3)).toNatClampNeg))
              · refine (if_pos hc396).trans ?_
                refine Eq.trans (b := am_r L 107 147 [some (.inr (.inr (50, none))), some (.inl x1), some (.inl x2), some (.inl x3), some (.inl (σ.1 60 ((((6 * x1) + x3)).toNatClampNeg))), some (.inl (σ.1 60 (((((6 * x1) + 3) + x3)).toNatClampNeg))), some (.inl (σ.1 60 ((((6 * x2) + x3)).toNatClampNeg))), some (.inl (σ.1 60 (((((6 * x2) + 3) + x3)).toNatClampNeg)))] [.inl (if (σ.1 60 ((((6 * x2) + x3)).toNatClampNeg)) < (σ.1 60 ((((6 * x1) + x3)).toNatClampNeg)) then ((if (σ.1 60 ((((6 * x1) + x3)).toNatClampNeg)) < (σ.1 60 (((((6 * x2) + 3) + x3)).toNatClampNeg)) then (1 : Int32) else 0) : Int32) else 0)] σ) ?_ ?_
                · refine Eq.trans (b := am_r L 107 147 [some (.inr (.inr (50, none))), some (.inl x1), some (.inl x2), some (.inl x3), some (.inl (σ.1 60 ((((6 * x1) + x3)).toNatClampNeg))), some (.inl (σ.1 60 (((((6 * x1) + 3) + x3)).toNatClampNeg))), some (.inl (σ.1 60 ((((6 * x2) + x3)).toNatClampNeg))), some (.inl (σ.1 60 (((((6 * x2) + 3) + x3)).toNatClampNeg)))] [.inl (if (σ.1 60 ((((6 * x2) + x3)).toNatClampNeg)) < (σ.1 60 ((((6 * x1) + x3)).toNatClampNeg)) then ((if (σ.1 60 ((((6 * x1) + x3)).toNatClampNeg)) < (σ.1 60 (((((6 * x2) + 3) + x3)).toNatClampNeg)) then (1 : Int32) else 0) : Int32) else 0)] σ) ?_ ?_
                  · by_cases hc397 : (σ.1 60 ((((6 * x2) + x3)).toNatClampNeg)) < (σ.1 60 ((((6 * x1) + x3)).toNatClampNeg))
                    · refine (if_pos hc397).trans ?_
                      refine Eq.trans (b := am_r L 107 147 [some (.inr (.inr (50, none))), some (.inl x1), some (.inl x2), some (.inl x3), some (.inl (σ.1 60 ((((6 * x1) + x3)).toNatClampNeg))), some (.inl (σ.1 60 (((((6 * x1) + 3) + x3)).toNatClampNeg))), some (.inl (σ.1 60 ((((6 * x2) + x3)).toNatClampNeg))), some (.inl (σ.1 60 (((((6 * x2) + 3) + x3)).toNatClampNeg)))] [.inl (if (σ.1 60 ((((6 * x1) + x3)).toNatClampNeg)) < (σ.1 60 (((((6 * x2) + 3) + x3)).toNatClampNeg)) then (1 : Int32) else 0)] σ) ?_ ?_
                      · refine Eq.trans (b := am_r L 107 147 [some (.inr (.inr (50, none))), some (.inl x1), some (.inl x2), some (.inl x3), some (.inl (σ.1 60 ((((6 * x1) + x3)).toNatClampNeg))), some (.inl (σ.1 60 (((((6 * x1) + 3) + x3)).toNatClampNeg))), some (.inl (σ.1 60 ((((6 * x2) + x3)).toNatClampNeg))), some (.inl (σ.1 60 (((((6 * x2) + 3) + x3)).toNatClampNeg)))] [.inl (if (σ.1 60 ((((6 * x1) + x3)).toNatClampNeg)) < (σ.1 60 (((((6 * x2) + 3) + x3)).toNatClampNeg)) then (1 : Int32) else 0)] σ) ?_ ?_
                        · by_cases hc398 : (σ.1 60 ((((6 * x1) + x3)).toNatClampNeg)) < (σ.1 60 (((((6 * x2) + 3) + x3)).toNatClampNeg))
                          · refine (if_pos hc398).trans ?_
                            refine Eq.trans (b := am_r L 107 147 [some (.inr (.inr (50, none))), some (.inl x1), some (.inl x2), some (.inl x3), some (.inl (σ.1 60 ((((6 * x1) + x3)).toNatClampNeg))), some (.inl (σ.1 60 (((((6 * x1) + 3) + x3)).toNatClampNeg))), some (.inl (σ.1 60 ((((6 * x2) + x3)).toNatClampNeg))), some (.inl (σ.1 60 (((((6 * x2) + 3) + x3)).toNatClampNeg)))] [.inl 1] σ) ?_ ?_
                            · rfl
                            · first | with_reducible rfl | simp only [if_pos hc398]
                          · refine (if_neg hc398).trans ?_
                            refine Eq.trans (b := am_r L 107 147 [some (.inr (.inr (50, none))), some (.inl x1), some (.inl x2), some (.inl x3), some (.inl (σ.1 60 ((((6 * x1) + x3)).toNatClampNeg))), some (.inl (σ.1 60 (((((6 * x1) + 3) + x3)).toNatClampNeg))), some (.inl (σ.1 60 ((((6 * x2) + x3)).toNatClampNeg))), some (.inl (σ.1 60 (((((6 * x2) + 3) + x3)).toNatClampNeg)))] [.inl 0] σ) ?_ ?_
                            · refine (e_107_124 _ _ _ _ _ _ _ _ _).trans ?_
                              rfl
                            · first | with_reducible rfl | simp only [if_neg hc398]
                        rfl
                      · first | with_reducible rfl | simp only [if_pos hc397]
                    · refine (if_neg hc397).trans ?_
                      refine Eq.trans (b := am_r L 107 147 [some (.inr (.inr (50, none))), some (.inl x1), some (.inl x2), some (.inl x3), some (.inl (σ.1 60 ((((6 * x1) + x3)).toNatClampNeg))), some (.inl (σ.1 60 (((((6 * x1) + 3) + x3)).toNatClampNeg))), some (.inl (σ.1 60 ((((6 * x2) + x3)).toNatClampNeg))), some (.inl (σ.1 60 (((((6 * x2) + 3) + x3)).toNatClampNeg)))] [.inl 0] σ) ?_ ?_
                      · refine (e_107_124 _ _ _ _ _ _ _ _ _).trans ?_
                        rfl
                      · first | with_reducible rfl | simp only [if_neg hc397]
                  rfl
                · first | with_reducible rfl | simp only [if_pos hc396]
              · refine (if_neg hc396).trans ?_
                refine Eq.trans (b := am_r L 107 147 [some (.inr (.inr (50, none))), some (.inl x1), some (.inl x2), some (.inl x3), some (.inl (σ.1 60 ((((6 * x1) + x3)).toNatClampNeg))), some (.inl (σ.1 60 (((((6 * x1) + 3) + x3)).toNatClampNeg))), some (.inl (σ.1 60 ((((6 * x2) + x3)).toNatClampNeg))), some (.inl (σ.1 60 (((((6 * x2) + 3) + x3)).toNatClampNeg)))] [.inl (if (σ.1 60 ((((6 * x1) + x3)).toNatClampNeg)) < (σ.1 60 ((((6 * x2) + x3)).toNatClampNeg)) then ((if (σ.1 60 ((((6 * x2) + x3)).toNatClampNeg)) < (σ.1 60 (((((6 * x1) + 3) + x3)).toNatClampNeg)) then (1 : Int32) else 0) : Int32) else 0)] σ) ?_ ?_
                · refine (e_107_128 _ _ _ _ _ _ _ _ _).trans ?_
                  refine Eq.trans (b := am_r L 107 147 [some (.inr (.inr (50, none))), some (.inl x1), some (.inl x2), some (.inl x3), some (.inl (σ.1 60 ((((6 * x1) + x3)).toNatClampNeg))), some (.inl (σ.1 60 (((((6 * x1) + 3) + x3)).toNatClampNeg))), some (.inl (σ.1 60 ((((6 * x2) + x3)).toNatClampNeg))), some (.inl (σ.1 60 (((((6 * x2) + 3) + x3)).toNatClampNeg)))] [.inl (if (σ.1 60 ((((6 * x1) + x3)).toNatClampNeg)) < (σ.1 60 ((((6 * x2) + x3)).toNatClampNeg)) then ((if (σ.1 60 ((((6 * x2) + x3)).toNatClampNeg)) < (σ.1 60 (((((6 * x1) + 3) + x3)).toNatClampNeg)) then (1 : Int32) else 0) : Int32) else 0)] σ) ?_ ?_
                  · by_cases hc399 : (σ.1 60 ((((6 * x1) + x3)).toNatClampNeg)) < (σ.1 60 ((((6 * x2) + x3)).toNatClampNeg))
                    · refine (if_pos hc399).trans ?_
                      refine Eq.trans (b := am_r L 107 147 [some (.inr (.inr (50, none))), some (.inl x1), some (.inl x2), some (.inl x3), some (.inl (σ.1 60 ((((6 * x1) + x3)).toNatClampNeg))), some (.inl (σ.1 60 (((((6 * x1) + 3) + x3)).toNatClampNeg))), some (.inl (σ.1 60 ((((6 * x2) + x3)).toNatClampNeg))), some (.inl (σ.1 60 (((((6 * x2) + 3) + x3)).toNatClampNeg)))] [.inl (if (σ.1 60 ((((6 * x2) + x3)).toNatClampNeg)) < (σ.1 60 (((((6 * x1) + 3) + x3)).toNatClampNeg)) then (1 : Int32) else 0)] σ) ?_ ?_
                      · refine Eq.trans (b := am_r L 107 147 [some (.inr (.inr (50, none))), some (.inl x1), some (.inl x2), some (.inl x3), some (.inl (σ.1 60 ((((6 * x1) + x3)).toNatClampNeg))), some (.inl (σ.1 60 (((((6 * x1) + 3) + x3)).toNatClampNeg))), some (.inl (σ.1 60 ((((6 * x2) + x3)).toNatClampNeg))), some (.inl (σ.1 60 (((((6 * x2) + 3) + x3)).toNatClampNeg)))] [.inl (if (σ.1 60 ((((6 * x2) + x3)).toNatClampNeg)) < (σ.1 60 (((((6 * x1) + 3) + x3)).toNatClampNeg)) then (1 : Int32) else 0)] σ) ?_ ?_
                        · by_cases hc400 : (σ.1 60 ((((6 * x2) + x3)).toNatClampNeg)) < (σ.1 60 (((((6 * x1) + 3) + x3)).toNatClampNeg))
                          · refine (if_pos hc400).trans ?_
                            refine Eq.trans (b := am_r L 107 147 [some (.inr (.inr (50, none))), some (.inl x1), some (.inl x2), some (.inl x3), some (.inl (σ.1 60 ((((6 * x1) + x3)).toNatClampNeg))), some (.inl (σ.1 60 (((((6 * x1) + 3) + x3)).toNatClampNeg))), some (.inl (σ.1 60 ((((6 * x2) + x3)).toNatClampNeg))), some (.inl (σ.1 60 (((((6 * x2) + 3) + x3)).toNatClampNeg)))] [.inl 1] σ) ?_ ?_
                            · rfl
                            · first | with_reducible rfl | simp only [if_pos hc400]
                          · refine (if_neg hc400).trans ?_
                            refine Eq.trans (b := am_r L 107 147 [some (.inr (.inr (50, none))), some (.inl x1), some (.inl x2), some (.inl x3), some (.inl (σ.1 60 ((((6 * x1) + x3)).toNatClampNeg))), some (.inl (σ.1 60 (((((6 * x1) + 3) + x3)).toNatClampNeg))), some (.inl (σ.1 60 ((((6 * x2) + x3)).toNatClampNeg))), some (.inl (σ.1 60 (((((6 * x2) + 3) + x3)).toNatClampNeg)))] [.inl 0] σ) ?_ ?_
                            · refine (e_107_146 _ _ _ _ _ _ _ _ _).trans ?_
                              rfl
                            · first | with_reducible rfl | simp only [if_neg hc400]
                        rfl
                      · first | with_reducible rfl | simp only [if_pos hc399]
                    · refine (if_neg hc399).trans ?_
                      refine Eq.trans (b := am_r L 107 147 [some (.inr (.inr (50, none))), some (.inl x1), some (.inl x2), some (.inl x3), some (.inl (σ.1 60 ((((6 * x1) + x3)).toNatClampNeg))), some (.inl (σ.1 60 (((((6 * x1) + 3) + x3)).toNatClampNeg))), some (.inl (σ.1 60 ((((6 * x2) + x3)).toNatClampNeg))), some (.inl (σ.1 60 (((((6 * x2) + 3) + x3)).toNatClampNeg)))] [.inl 0] σ) ?_ ?_
                      · refine (e_107_146 _ _ _ _ _ _ _ _ _).trans ?_
                        rfl
                      · first | with_reducible rfl | simp only [if_neg hc399]
                  rfl
                · first | with_reducible rfl | simp only [if_neg hc396]
            rfl
          · first | with_reducible rfl | simp only [if_neg hc388]
      refine (e_107_147 _ _ _ _ _ _ _ _ _ _).trans ?_
      refine (if_pos (am_01 (am_01 (am_01 (Or.inr rfl) (Or.inl rfl)) (am_01 (am_01 (am_01 (Or.inr rfl) (Or.inl rfl)) (Or.inl rfl)) (am_01 (am_01 (Or.inr rfl) (Or.inl rfl)) (Or.inl rfl)))) (am_01 (am_01 (am_01 (Or.inr rfl) (Or.inl rfl)) (Or.inl rfl)) (am_01 (am_01 (Or.inr rfl) (Or.inl rfl)) (Or.inl rfl))))).trans ?_
      rfl
    · refine (e_107_148 _ _ _ _ _ _ _ _ _).trans ?_
      refine Eq.trans (b := am_r L 107 167 [some (.inr (.inr (50, none))), some (.inl x1), some (.inl x2), some (.inl x3), some (.inl (σ.1 60 ((((6 * x1) + x3)).toNatClampNeg))), some (.inl (σ.1 60 (((((6 * x1) + 3) + x3)).toNatClampNeg))), some (.inl (σ.1 60 ((((6 * x2) + x3)).toNatClampNeg))), some (.inl (σ.1 60 (((((6 * x2) + 3) + x3)).toNatClampNeg)))] [.inl (if (σ.1 60 ((((6 * x1) + x3)).toNatClampNeg)) < (σ.1 60 (((((6 * x2) + 3) + x3)).toNatClampNeg)) then ((if (σ.1 60 ((((6 * x2) + x3)).toNatClampNeg)) < (σ.1 60 (((((6 * x1) + 3) + x3)).toNatClampNeg)) then (1 : Int32) else 0) : Int32) else 0)] σ) ?_ ?_
      · by_cases hc401 : (σ.1 60 ((((6 * x1) + x3)).toNatClampNeg)) < (σ.1 60 (((((6 * x2) + 3) + x3)).toNatClampNeg))
        · refine (if_pos hc401).trans ?_
          refine Eq.trans (b := am_r L 107 167 [some (.inr (.inr (50, none))), some (.inl x1), some (.inl x2), some (.inl x3), some (.inl (σ.1 60 ((((6 * x1) + x3)).toNatClampNeg))), some (.inl (σ.1 60 (((((6 * x1) + 3) + x3)).toNatClampNeg))), some (.inl (σ.1 60 ((((6 * x2) + x3)).toNatClampNeg))), some (.inl (σ.1 60 (((((6 * x2) + 3) + x3)).toNatClampNeg)))] [.inl (if (σ.1 60 ((((6 * x2) + x3)).toNatClampNeg)) < (σ.1 60 (((((6 * x1) + 3) + x3)).toNatClampNeg)) then (1 : Int32) else 0)] σ) ?_ ?_
          · refine Eq.trans (b := am_r L 107 167 [some (.inr (.inr (50, none))), some (.inl x1), some (.inl x2), some (.inl x3), some (.inl (σ.1 60 ((((6 * x1) + x3)).toNatClampNeg))), some (.inl (σ.1 60 (((((6 * x1) + 3) + x3)).toNatClampNeg))), some (.inl (σ.1 60 ((((6 * x2) + x3)).toNatClampNeg))), some (.inl (σ.1 60 (((((6 * x2) + 3) + x3)).toNatClampNeg)))] [.inl (if (σ.1 60 ((((6 * x2) + x3)).toNatClampNeg)) < (σ.1 60 (((((6 * x1) + 3) + x3)).toNatClampNeg)) then (1 : Int32) else 0)] σ) ?_ ?_
            · by_cases hc402 : (σ.1 60 ((((6 * x2) + x3)).toNatClampNeg)) < (σ.1 60 (((((6 * x1) + 3) + x3)).toNatClampNeg))
              · refine (if_pos hc402).trans ?_
                refine Eq.trans (b := am_r L 107 167 [some (.inr (.inr (50, none))), some (.inl x1), some (.inl x2), some (.inl x3), some (.inl (σ.1 60 ((((6 * x1) + x3)).toNatClampNeg))), some (.inl (σ.1 60 (((((6 * x1) + 3) + x3)).toNatClampNeg))), some (.inl (σ.1 60 ((((6 * x2) + x3)).toNatClampNeg))), some (.inl (σ.1 60 (((((6 * x2) + 3) + x3)).toNatClampNeg)))] [.inl 1] σ) ?_ ?_
                · rfl
                · first | with_reducible rfl | simp only [if_pos hc402]
              · refine (if_neg hc402).trans ?_
                refine Eq.trans (b := am_r L 107 167 [some (.inr (.inr (50, none))), some (.inl x1), some (.inl x2), some (.inl x3), some (.inl (σ.1 60 ((((6 * x1) + x3)).toNatClampNeg))), some (.inl (σ.1 60 (((((6 * x1) + 3) + x3)).toNatClampNeg))), some (.inl (σ.1 60 ((((6 * x2) + x3)).toNatClampNeg))), some (.inl (σ.1 60 (((((6 * x2) + 3) + x3)).toNatClampNeg)))] [.inl 0] σ) ?_ ?_
                · refine (e_107_166 _ _ _ _ _ _ _ _ _).trans ?_
                  rfl
                · first | with_reducible rfl | simp only [if_neg hc402]
            rfl
          · first | with_reducible rfl | simp only [if_pos hc401]
        · refine (if_neg hc401).trans ?_
          refine Eq.trans (b := am_r L 107 167 [some (.inr (.inr (50, none))), some (.inl x1), some (.inl x2), some (.inl x3), some (.inl (σ.1 60 ((((6 * x1) + x3)).toNatClampNeg))), some (.inl (σ.1 60 (((((6 * x1) + 3) + x3)).toNatClampNeg))), some (.inl (σ.1 60 ((((6 * x2) + x3)).toNatClampNeg))), some (.inl (σ.1 60 (((((6 * x2) + 3) + x3)).toNatClampNeg)))] [.inl 0] σ) ?_ ?_
          · refine (e_107_166 _ _ _ _ _ _ _ _ _).trans ?_
            rfl
          · first | with_reducible rfl | simp only [if_neg hc401]
      refine (e_107_167 _ _ _ _ _ _ _ _ _ _).trans ?_
      refine (if_pos (am_01 (am_01 (Or.inr rfl) (Or.inl rfl)) (Or.inl rfl))).trans ?_
      rfl
theorem b_107 (σ : am_M) (x1 : Int32) (x2 : Int32) (x3 : Int32) : v_107 σ x1 x2 x3 = 0 ∨ v_107 σ x1 x2 x3 = 1 := (am_01 (am_01 (am_01 (am_01 (Or.inr rfl) (Or.inl rfl)) (am_01 (am_01 (am_01 (Or.inr rfl) (Or.inl rfl)) (Or.inl rfl)) (am_01 (am_01 (Or.inr rfl) (Or.inl rfl)) (Or.inl rfl)))) (am_01 (am_01 (am_01 (Or.inr rfl) (Or.inl rfl)) (Or.inl rfl)) (am_01 (am_01 (Or.inr rfl) (Or.inl rfl)) (Or.inl rfl)))) (am_01 (am_01 (am_01 (am_01 (Or.inr rfl) (Or.inl rfl)) (am_01 (am_01 (am_01 (Or.inr rfl) (Or.inl rfl)) (Or.inl rfl)) (am_01 (am_01 (Or.inr rfl) (Or.inl rfl)) (Or.inl rfl)))) (am_01 (am_01 (am_01 (Or.inr rfl) (Or.inl rfl)) (Or.inl rfl)) (am_01 (am_01 (Or.inr rfl) (Or.inl rfl)) (Or.inl rfl)))) (am_01 (am_01 (Or.inr rfl) (Or.inl rfl)) (Or.inl rfl))))
