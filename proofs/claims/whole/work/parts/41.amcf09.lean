-- 101a57: X5_lineAt
def l_101a57_103 : Nat → am_M → Int32 → Int32 → Int32 → Int32 → Int32 → Int32 → Int32 → Int32 → Int32 → Int32
  | 0, _, _, _, _, _, _, _, _, _, _ => 0
  | n + 1, σ, x1, x3, x4, x5, x6, x7, x8, x9, x10 => (if x10 < 3 then (l_101a57_103 n σ x1 x3 x4 x5 x6 x7 x8 (x9 + ((x4 * (σ.1 57 (((x3 + x10)).toNatClampNeg))) * (((σ.1 56 ((((3 * x5) + x10)).toNatClampNeg)) + (x7 * (σ.1 57 ((((3 * x5) + x10)).toNatClampNeg)))) + (x8 * (σ.1 58 ((((3 * x5) + x10)).toNatClampNeg)))))) (x10 + 1)) else x9)
def q_101a57_103 : Nat → am_M → Int32 → Int32 → Int32 → Int32 → Int32 → Int32 → Int32 → Int32 → Int32 → Prop
  | 0, _, _, _, _, _, _, _, _, _, _ => False
  | n + 1, σ, x1, x3, x4, x5, x6, x7, x8, x9, x10 => (x10 < 3) → ((¬ ((x3 + x10) < 0 ∨ 39 ≤ ((x3 + x10)).toNatClampNeg)) ∧ ((¬ (((3 * x5) + x10) < 0 ∨ 39 ≤ (((3 * x5) + x10)).toNatClampNeg)) ∧ ((¬ (((3 * x5) + x10) < 0 ∨ 39 ≤ (((3 * x5) + x10)).toNatClampNeg)) ∧ ((¬ (((3 * x5) + x10) < 0 ∨ 39 ≤ (((3 * x5) + x10)).toNatClampNeg)) ∧ (q_101a57_103 n σ x1 x3 x4 x5 x6 x7 x8 (x9 + ((x4 * (σ.1 57 (((x3 + x10)).toNatClampNeg))) * (((σ.1 56 ((((3 * x5) + x10)).toNatClampNeg)) + (x7 * (σ.1 57 ((((3 * x5) + x10)).toNatClampNeg)))) + (x8 * (σ.1 58 ((((3 * x5) + x10)).toNatClampNeg)))))) (x10 + 1))))))
set_option maxRecDepth 20000 in
theorem t_101a57_103 (L : Nat) (σ : am_M) : ∀ (n : Nat) (x1 : Int32) (x3 : Int32) (x4 : Int32) (x5 : Int32) (x6 : Int32) (x7 : Int32) (x8 : Int32) (x9 : Int32) (x10 : Int32), q_101a57_103 n σ x1 x3 x4 x5 x6 x7 x8 x9 x10 → am_r L 101 103 [some (.inr (.inr (50, none))), some (.inl x1), some (.inr (.inr (57, none))), some (.inl x3), some (.inl x4), some (.inl x5), some (.inl x6), some (.inl x7), some (.inl x8), some (.inl x9), some (.inl x10)] [] σ = some (some (.inl (l_101a57_103 n σ x1 x3 x4 x5 x6 x7 x8 x9 x10)), am_sh0 L, σ) := by
  intro n
  induction n with
  | zero => intro x1 x3 x4 x5 x6 x7 x8 x9 x10 h; exact h.elim
  | succ n ih =>
    intro x1 x3 x4 x5 x6 x7 x8 x9 x10 h
    unfold q_101a57_103 at h
    unfold l_101a57_103
    refine (e_101a57_103 _ _ _ _ _ _ _ _ _ _ _).trans ?_
    by_cases hc326 : x10 < 3
    · simp only [if_pos hc326]
      all_goals
        refine (if_neg ((h hc326).1)).trans ?_
        refine (if_neg ((h hc326).2.1)).trans ?_
        refine (e_101a57_135 _ _ _ _ _ _ _ _ _ _ _ _ _ _ _).trans ?_
        refine (if_neg ((h hc326).2.2.1)).trans ?_
        refine (if_neg ((h hc326).2.2.2.1)).trans ?_
        refine (e_101a57_165 _ _ _ _ _ _ _ _ _ _ _ _ _).trans ?_
        exact ih x1 x3 x4 x5 x6 x7 x8 (x9 + ((x4 * (σ.1 57 (((x3 + x10)).toNatClampNeg))) * (((σ.1 56 ((((3 * x5) + x10)).toNatClampNeg)) + (x7 * (σ.1 57 ((((3 * x5) + x10)).toNatClampNeg)))) + (x8 * (σ.1 58 ((((3 * x5) + x10)).toNatClampNeg)))))) (x10 + 1) ((h hc326).2.2.2.2)
    · simp only [if_neg hc326]
      all_goals
        refine (e_101a57_174 _ _ _ _ _ _ _ _ _ _ _).trans ?_
        rfl
def p_101a57 (σ : am_M) (x1 : Int32) (x3 : Int32) (x4 : Int32) : Prop := (¬ (x1 < 0 ∨ 13 ≤ x1.toNatClampNeg)) ∧ ((¬ (x1 < 0 ∨ 13 ≤ x1.toNatClampNeg)) ∧ ((¬ ((if ((σ.1 52 x1.toNatClampNeg) - (σ.1 52 x1.toNatClampNeg) / 2 * 2) = 0 then (1 : Int32) else 0) = 0) → ((¬ (x1 < 0 ∨ 13 ≤ x1.toNatClampNeg)) ∧ (¬ (((4 * (σ.1 51 x1.toNatClampNeg)) + (if (σ.1 52 x1.toNatClampNeg) = 0 then (2 : Int32) else 0)) < 0 ∨ 52 ≤ (((4 * (σ.1 51 x1.toNatClampNeg)) + (if (σ.1 52 x1.toNatClampNeg) = 0 then (2 : Int32) else 0))).toNatClampNeg)))) ∧ ((((if ((σ.1 52 x1.toNatClampNeg) - (σ.1 52 x1.toNatClampNeg) / 2 * 2) = 0 then (1 : Int32) else 0) = 0) → ((¬ (x1 < 0 ∨ 13 ≤ x1.toNatClampNeg)) ∧ (¬ (((4 * (σ.1 51 x1.toNatClampNeg)) + (if (σ.1 52 x1.toNatClampNeg) = 1 then (3 : Int32) else 1)) < 0 ∨ 52 ≤ (((4 * (σ.1 51 x1.toNatClampNeg)) + (if (σ.1 52 x1.toNatClampNeg) = 1 then (3 : Int32) else 1))).toNatClampNeg)))) ∧ (q_101a57_103 14 σ x1 x3 x4 (σ.1 51 x1.toNatClampNeg) (if ((σ.1 52 x1.toNatClampNeg) - (σ.1 52 x1.toNatClampNeg) / 2 * 2) = 0 then (1 : Int32) else 0) (if (if ((σ.1 52 x1.toNatClampNeg) - (σ.1 52 x1.toNatClampNeg) / 2 * 2) = 0 then (1 : Int32) else 0) = 0 then (0 : Int32) else (σ.1 54 ((((4 * (σ.1 51 x1.toNatClampNeg)) + (if (σ.1 52 x1.toNatClampNeg) = 0 then (2 : Int32) else 0))).toNatClampNeg))) (if (if ((σ.1 52 x1.toNatClampNeg) - (σ.1 52 x1.toNatClampNeg) / 2 * 2) = 0 then (1 : Int32) else 0) = 0 then ((σ.1 54 ((((4 * (σ.1 51 x1.toNatClampNeg)) + (if (σ.1 52 x1.toNatClampNeg) = 1 then (3 : Int32) else 1))).toNatClampNeg)) : Int32) else 0) 0 0))))
def f_101a57 (σ : am_M) (x1 : Int32) (x3 : Int32) (x4 : Int32) : Int32 := (l_101a57_103 14 σ x1 x3 x4 (σ.1 51 x1.toNatClampNeg) (if ((σ.1 52 x1.toNatClampNeg) - (σ.1 52 x1.toNatClampNeg) / 2 * 2) = 0 then (1 : Int32) else 0) (if (if ((σ.1 52 x1.toNatClampNeg) - (σ.1 52 x1.toNatClampNeg) / 2 * 2) = 0 then (1 : Int32) else 0) = 0 then (0 : Int32) else (σ.1 54 ((((4 * (σ.1 51 x1.toNatClampNeg)) + (if (σ.1 52 x1.toNatClampNeg) = 0 then (2 : Int32) else 0))).toNatClampNeg))) (if (if ((σ.1 52 x1.toNatClampNeg) - (σ.1 52 x1.toNatClampNeg) / 2 * 2) = 0 then (1 : Int32) else 0) = 0 then ((σ.1 54 ((((4 * (σ.1 51 x1.toNatClampNeg)) + (if (σ.1 52 x1.toNatClampNeg) = 1 then (3 : Int32) else 1))).toNatClampNeg)) : Int32) else 0) 0 0)
set_option maxRecDepth 20000 in
theorem sf_101a57 (L : Nat) (σ : am_M) (x1 : Int32) (x3 : Int32) (x4 : Int32) (h : p_101a57 σ x1 x3 x4) : am_r L 101 0 [some (.inr (.inr (50, none))), some (.inl x1), some (.inr (.inr (57, none))), some (.inl x3), some (.inl x4), none, none, none, none, none, none] [] σ = some (some (.inl (f_101a57 σ x1 x3 x4)), am_sh0 L, σ) := by
  unfold p_101a57 at h
  unfold f_101a57
  refine (e_101a57_0 _ _ _ _ _).trans ?_
  refine (if_neg h.1).trans ?_
  refine (if_neg h.2.1).trans ?_
  refine Eq.trans (b := am_r L 101 24 [some (.inr (.inr (50, none))), some (.inl x1), some (.inr (.inr (57, none))), some (.inl x3), some (.inl x4), some (.inl (σ.1 51 x1.toNatClampNeg)), none, none, none, none, none] [.inl (if ((σ.1 52 x1.toNatClampNeg) - (σ.1 52 x1.toNatClampNeg) / 2 * 2) = 0 then (1 : Int32) else 0)] σ) ?_ ?_
  · by_cases hc327 : ((σ.1 52 x1.toNatClampNeg) - (σ.1 52 x1.toNatClampNeg) / 2 * 2) = 0
    · simp only [if_pos hc327]
      all_goals
        rfl
    · simp only [if_neg hc327]
      all_goals
        refine (e_101a57_23 _ _ _ _ _ _).trans ?_
        rfl
  refine (e_101a57_24 _ _ _ _ _ _ _).trans ?_
  refine Eq.trans (b := am_r L 101 59 [some (.inr (.inr (50, none))), some (.inl x1), some (.inr (.inr (57, none))), some (.inl x3), some (.inl x4), some (.inl (σ.1 51 x1.toNatClampNeg)), some (.inl (if ((σ.1 52 x1.toNatClampNeg) - (σ.1 52 x1.toNatClampNeg) / 2 * 2) = 0 then (1 : Int32) else 0)), none, none, none, none] [.inl (if (if ((σ.1 52 x1.toNatClampNeg) - (σ.1 52 x1.toNatClampNeg) / 2 * 2) = 0 then (1 : Int32) else 0) = 0 then (0 : Int32) else (σ.1 54 ((((4 * (σ.1 51 x1.toNatClampNeg)) + (if (σ.1 52 x1.toNatClampNeg) = 0 then (2 : Int32) else 0))).toNatClampNeg)))] σ) ?_ ?_
  · by_cases hc328 : (if ((σ.1 52 x1.toNatClampNeg) - (σ.1 52 x1.toNatClampNeg) / 2 * 2) = 0 then (1 : Int32) else 0) = 0
    · simp only [if_pos hc328]
      all_goals
        refine (e_101a57_58 _ _ _ _ _ _ _).trans ?_
        rfl
    · simp only [if_neg hc328]
      all_goals
        refine (if_neg ((h.2.2.1 hc328).1)).trans ?_
        refine Eq.trans (b := am_r L 101 53 [some (.inr (.inr (50, none))), some (.inl x1), some (.inr (.inr (57, none))), some (.inl x3), some (.inl x4), some (.inl (σ.1 51 x1.toNatClampNeg)), some (.inl (if ((σ.1 52 x1.toNatClampNeg) - (σ.1 52 x1.toNatClampNeg) / 2 * 2) = 0 then (1 : Int32) else 0)), none, none, none, none] [.inl (if (σ.1 52 x1.toNatClampNeg) = 0 then (2 : Int32) else 0), .inl (4 * (σ.1 51 x1.toNatClampNeg)), .inr (.inr (54, none))] σ) ?_ ?_
        · by_cases hc329 : (σ.1 52 x1.toNatClampNeg) = 0
          · simp only [if_pos hc329]
            all_goals
              rfl
          · simp only [if_neg hc329]
            all_goals
              refine (e_101a57_52 _ _ _ _ _ _ _ _).trans ?_
              rfl
        refine (e_101a57_53 _ _ _ _ _ _ _ _ _).trans ?_
        refine (if_neg ((h.2.2.1 hc328).2)).trans ?_
        rfl
  refine (e_101a57_59 _ _ _ _ _ _ _ _).trans ?_
  refine Eq.trans (b := am_r L 101 95 [some (.inr (.inr (50, none))), some (.inl x1), some (.inr (.inr (57, none))), some (.inl x3), some (.inl x4), some (.inl (σ.1 51 x1.toNatClampNeg)), some (.inl (if ((σ.1 52 x1.toNatClampNeg) - (σ.1 52 x1.toNatClampNeg) / 2 * 2) = 0 then (1 : Int32) else 0)), some (.inl (if (if ((σ.1 52 x1.toNatClampNeg) - (σ.1 52 x1.toNatClampNeg) / 2 * 2) = 0 then (1 : Int32) else 0) = 0 then (0 : Int32) else (σ.1 54 ((((4 * (σ.1 51 x1.toNatClampNeg)) + (if (σ.1 52 x1.toNatClampNeg) = 0 then (2 : Int32) else 0))).toNatClampNeg)))), none, none, none] [.inl (if (if ((σ.1 52 x1.toNatClampNeg) - (σ.1 52 x1.toNatClampNeg) / 2 * 2) = 0 then (1 : Int32) else 0) = 0 then ((σ.1 54 ((((4 * (σ.1 51 x1.toNatClampNeg)) + (if (σ.1 52 x1.toNatClampNeg) = 1 then (3 : Int32) else 1))).toNatClampNeg)) : Int32) else 0)] σ) ?_ ?_
  · by_cases hc330 : (if ((σ.1 52 x1.toNatClampNeg) - (σ.1 52 x1.toNatClampNeg) / 2 * 2) = 0 then (1 : Int32) else 0) = 0
    · simp only [if_pos hc330]
      all_goals
        refine (e_101a57_70 _ _ _ _ _ _ _ _).trans ?_
        refine (if_neg ((h.2.2.2.1 hc330).1)).trans ?_
        refine Eq.trans (b := am_r L 101 93 [some (.inr (.inr (50, none))), some (.inl x1), some (.inr (.inr (57, none))), some (.inl x3), some (.inl x4), some (.inl (σ.1 51 x1.toNatClampNeg)), some (.inl (if ((σ.1 52 x1.toNatClampNeg) - (σ.1 52 x1.toNatClampNeg) / 2 * 2) = 0 then (1 : Int32) else 0)), some (.inl (if (if ((σ.1 52 x1.toNatClampNeg) - (σ.1 52 x1.toNatClampNeg) / 2 * 2) = 0 then (1 : Int32) else 0) = 0 then (0 : Int32) else (σ.1 54 ((((4 * (σ.1 51 x1.toNatClampNeg)) + (if (σ.1 52 x1.toNatClampNeg) = 0 then (2 : Int32) else 0))).toNatClampNeg)))), none, none, none] [.inl (if (σ.1 52 x1.toNatClampNeg) = 1 then (3 : Int32) else 1), .inl (4 * (σ.1 51 x1.toNatClampNeg)), .inr (.inr (54, none))] σ) ?_ ?_
        · by_cases hc331 : (σ.1 52 x1.toNatClampNeg) = 1
          · simp only [if_pos hc331]
            all_goals
              rfl
          · simp only [if_neg hc331]
            all_goals
              refine (e_101a57_92 _ _ _ _ _ _ _ _ _).trans ?_
              rfl
        refine (e_101a57_93 _ _ _ _ _ _ _ _ _ _).trans ?_
        refine (if_neg ((h.2.2.2.1 hc330).2)).trans ?_
        rfl
    · simp only [if_neg hc330]
      all_goals
        rfl
  refine (e_101a57_95 _ _ _ _ _ _ _ _ _).trans ?_
  exact t_101a57_103 L σ 14 x1 x3 x4 (σ.1 51 x1.toNatClampNeg) (if ((σ.1 52 x1.toNatClampNeg) - (σ.1 52 x1.toNatClampNeg) / 2 * 2) = 0 then (1 : Int32) else 0) (if (if ((σ.1 52 x1.toNatClampNeg) - (σ.1 52 x1.toNatClampNeg) / 2 * 2) = 0 then (1 : Int32) else 0) = 0 then (0 : Int32) else (σ.1 54 ((((4 * (σ.1 51 x1.toNatClampNeg)) + (if (σ.1 52 x1.toNatClampNeg) = 0 then (2 : Int32) else 0))).toNatClampNeg))) (if (if ((σ.1 52 x1.toNatClampNeg) - (σ.1 52 x1.toNatClampNeg) / 2 * 2) = 0 then (1 : Int32) else 0) = 0 then ((σ.1 54 ((((4 * (σ.1 51 x1.toNatClampNeg)) + (if (σ.1 52 x1.toNatClampNeg) = 1 then (3 : Int32) else 1))).toNatClampNeg)) : Int32) else 0) 0 0 h.2.2.2.2
def v_101a57 (σ : am_M) (x1 : Int32) (x3 : Int32) (x4 : Int32) : Int32 := f_101a57 σ x1 x3 x4
theorem s_101a57 (L : Nat) (σ : am_M) (x1 : Int32) (x3 : Int32) (x4 : Int32) (h : p_101a57 σ x1 x3 x4) : am_r L 101 0 [some (.inr (.inr (50, none))), some (.inl x1), some (.inr (.inr (57, none))), some (.inl x3), some (.inl x4), none, none, none, none, none, none] [] σ = some (some (.inl (v_101a57 σ x1 x3 x4)), am_sh0 L, σ) := sf_101a57 L σ x1 x3 x4 h
-- 101a58: X5_lineAt
def l_101a58_103 : Nat → am_M → Int32 → Int32 → Int32 → Int32 → Int32 → Int32 → Int32 → Int32 → Int32 → Int32
  | 0, _, _, _, _, _, _, _, _, _, _ => 0
  | n + 1, σ, x1, x3, x4, x5, x6, x7, x8, x9, x10 => (if x10 < 3 then (l_101a58_103 n σ x1 x3 x4 x5 x6 x7 x8 (x9 + ((x4 * (σ.1 58 (((x3 + x10)).toNatClampNeg))) * (((σ.1 56 ((((3 * x5) + x10)).toNatClampNeg)) + (x7 * (σ.1 57 ((((3 * x5) + x10)).toNatClampNeg)))) + (x8 * (σ.1 58 ((((3 * x5) + x10)).toNatClampNeg)))))) (x10 + 1)) else x9)
def q_101a58_103 : Nat → am_M → Int32 → Int32 → Int32 → Int32 → Int32 → Int32 → Int32 → Int32 → Int32 → Prop
  | 0, _, _, _, _, _, _, _, _, _, _ => False
  | n + 1, σ, x1, x3, x4, x5, x6, x7, x8, x9, x10 => (x10 < 3) → ((¬ ((x3 + x10) < 0 ∨ 39 ≤ ((x3 + x10)).toNatClampNeg)) ∧ ((¬ (((3 * x5) + x10) < 0 ∨ 39 ≤ (((3 * x5) + x10)).toNatClampNeg)) ∧ ((¬ (((3 * x5) + x10) < 0 ∨ 39 ≤ (((3 * x5) + x10)).toNatClampNeg)) ∧ ((¬ (((3 * x5) + x10) < 0 ∨ 39 ≤ (((3 * x5) + x10)).toNatClampNeg)) ∧ (q_101a58_103 n σ x1 x3 x4 x5 x6 x7 x8 (x9 + ((x4 * (σ.1 58 (((x3 + x10)).toNatClampNeg))) * (((σ.1 56 ((((3 * x5) + x10)).toNatClampNeg)) + (x7 * (σ.1 57 ((((3 * x5) + x10)).toNatClampNeg)))) + (x8 * (σ.1 58 ((((3 * x5) + x10)).toNatClampNeg)))))) (x10 + 1))))))
set_option maxRecDepth 20000 in
theorem t_101a58_103 (L : Nat) (σ : am_M) : ∀ (n : Nat) (x1 : Int32) (x3 : Int32) (x4 : Int32) (x5 : Int32) (x6 : Int32) (x7 : Int32) (x8 : Int32) (x9 : Int32) (x10 : Int32), q_101a58_103 n σ x1 x3 x4 x5 x6 x7 x8 x9 x10 → am_r L 101 103 [some (.inr (.inr (50, none))), some (.inl x1), some (.inr (.inr (58, none))), some (.inl x3), some (.inl x4), some (.inl x5), some (.inl x6), some (.inl x7), some (.inl x8), some (.inl x9), some (.inl x10)] [] σ = some (some (.inl (l_101a58_103 n σ x1 x3 x4 x5 x6 x7 x8 x9 x10)), am_sh0 L, σ) := by
  intro n
  induction n with
  | zero => intro x1 x3 x4 x5 x6 x7 x8 x9 x10 h; exact h.elim
  | succ n ih =>
    intro x1 x3 x4 x5 x6 x7 x8 x9 x10 h
    unfold q_101a58_103 at h
    unfold l_101a58_103
    refine (e_101a58_103 _ _ _ _ _ _ _ _ _ _ _).trans ?_
    by_cases hc332 : x10 < 3
    · simp only [if_pos hc332]
      all_goals
        refine (if_neg ((h hc332).1)).trans ?_
        refine (if_neg ((h hc332).2.1)).trans ?_
        refine (e_101a58_135 _ _ _ _ _ _ _ _ _ _ _ _ _ _ _).trans ?_
        refine (if_neg ((h hc332).2.2.1)).trans ?_
        refine (if_neg ((h hc332).2.2.2.1)).trans ?_
        refine (e_101a58_165 _ _ _ _ _ _ _ _ _ _ _ _ _).trans ?_
        exact ih x1 x3 x4 x5 x6 x7 x8 (x9 + ((x4 * (σ.1 58 (((x3 + x10)).toNatClampNeg))) * (((σ.1 56 ((((3 * x5) + x10)).toNatClampNeg)) + (x7 * (σ.1 57 ((((3 * x5) + x10)).toNatClampNeg)))) + (x8 * (σ.1 58 ((((3 * x5) + x10)).toNatClampNeg)))))) (x10 + 1) ((h hc332).2.2.2.2)
    · simp only [if_neg hc332]
      all_goals
        refine (e_101a58_174 _ _ _ _ _ _ _ _ _ _ _).trans ?_
        rfl
def p_101a58 (σ : am_M) (x1 : Int32) (x3 : Int32) (x4 : Int32) : Prop := (¬ (x1 < 0 ∨ 13 ≤ x1.toNatClampNeg)) ∧ ((¬ (x1 < 0 ∨ 13 ≤ x1.toNatClampNeg)) ∧ ((¬ ((if ((σ.1 52 x1.toNatClampNeg) - (σ.1 52 x1.toNatClampNeg) / 2 * 2) = 0 then (1 : Int32) else 0) = 0) → ((¬ (x1 < 0 ∨ 13 ≤ x1.toNatClampNeg)) ∧ (¬ (((4 * (σ.1 51 x1.toNatClampNeg)) + (if (σ.1 52 x1.toNatClampNeg) = 0 then (2 : Int32) else 0)) < 0 ∨ 52 ≤ (((4 * (σ.1 51 x1.toNatClampNeg)) + (if (σ.1 52 x1.toNatClampNeg) = 0 then (2 : Int32) else 0))).toNatClampNeg)))) ∧ ((((if ((σ.1 52 x1.toNatClampNeg) - (σ.1 52 x1.toNatClampNeg) / 2 * 2) = 0 then (1 : Int32) else 0) = 0) → ((¬ (x1 < 0 ∨ 13 ≤ x1.toNatClampNeg)) ∧ (¬ (((4 * (σ.1 51 x1.toNatClampNeg)) + (if (σ.1 52 x1.toNatClampNeg) = 1 then (3 : Int32) else 1)) < 0 ∨ 52 ≤ (((4 * (σ.1 51 x1.toNatClampNeg)) + (if (σ.1 52 x1.toNatClampNeg) = 1 then (3 : Int32) else 1))).toNatClampNeg)))) ∧ (q_101a58_103 14 σ x1 x3 x4 (σ.1 51 x1.toNatClampNeg) (if ((σ.1 52 x1.toNatClampNeg) - (σ.1 52 x1.toNatClampNeg) / 2 * 2) = 0 then (1 : Int32) else 0) (if (if ((σ.1 52 x1.toNatClampNeg) - (σ.1 52 x1.toNatClampNeg) / 2 * 2) = 0 then (1 : Int32) else 0) = 0 then (0 : Int32) else (σ.1 54 ((((4 * (σ.1 51 x1.toNatClampNeg)) + (if (σ.1 52 x1.toNatClampNeg) = 0 then (2 : Int32) else 0))).toNatClampNeg))) (if (if ((σ.1 52 x1.toNatClampNeg) - (σ.1 52 x1.toNatClampNeg) / 2 * 2) = 0 then (1 : Int32) else 0) = 0 then ((σ.1 54 ((((4 * (σ.1 51 x1.toNatClampNeg)) + (if (σ.1 52 x1.toNatClampNeg) = 1 then (3 : Int32) else 1))).toNatClampNeg)) : Int32) else 0) 0 0))))
def f_101a58 (σ : am_M) (x1 : Int32) (x3 : Int32) (x4 : Int32) : Int32 := (l_101a58_103 14 σ x1 x3 x4 (σ.1 51 x1.toNatClampNeg) (if ((σ.1 52 x1.toNatClampNeg) - (σ.1 52 x1.toNatClampNeg) / 2 * 2) = 0 then (1 : Int32) else 0) (if (if ((σ.1 52 x1.toNatClampNeg) - (σ.1 52 x1.toNatClampNeg) / 2 * 2) = 0 then (1 : Int32) else 0) = 0 then (0 : Int32) else (σ.1 54 ((((4 * (σ.1 51 x1.toNatClampNeg)) + (if (σ.1 52 x1.toNatClampNeg) = 0 then (2 : Int32) else 0))).toNatClampNeg))) (if (if ((σ.1 52 x1.toNatClampNeg) - (σ.1 52 x1.toNatClampNeg) / 2 * 2) = 0 then (1 : Int32) else 0) = 0 then ((σ.1 54 ((((4 * (σ.1 51 x1.toNatClampNeg)) + (if (σ.1 52 x1.toNatClampNeg) = 1 then (3 : Int32) else 1))).toNatClampNeg)) : Int32) else 0) 0 0)
set_option maxRecDepth 20000 in
theorem sf_101a58 (L : Nat) (σ : am_M) (x1 : Int32) (x3 : Int32) (x4 : Int32) (h : p_101a58 σ x1 x3 x4) : am_r L 101 0 [some (.inr (.inr (50, none))), some (.inl x1), some (.inr (.inr (58, none))), some (.inl x3), some (.inl x4), none, none, none, none, none, none] [] σ = some (some (.inl (f_101a58 σ x1 x3 x4)), am_sh0 L, σ) := by
  unfold p_101a58 at h
  unfold f_101a58
  refine (e_101a58_0 _ _ _ _ _).trans ?_
  refine (if_neg h.1).trans ?_
  refine (if_neg h.2.1).trans ?_
  refine Eq.trans (b := am_r L 101 24 [some (.inr (.inr (50, none))), some (.inl x1), some (.inr (.inr (58, none))), some (.inl x3), some (.inl x4), some (.inl (σ.1 51 x1.toNatClampNeg)), none, none, none, none, none] [.inl (if ((σ.1 52 x1.toNatClampNeg) - (σ.1 52 x1.toNatClampNeg) / 2 * 2) = 0 then (1 : Int32) else 0)] σ) ?_ ?_
  · by_cases hc333 : ((σ.1 52 x1.toNatClampNeg) - (σ.1 52 x1.toNatClampNeg) / 2 * 2) = 0
    · simp only [if_pos hc333]
      all_goals
        rfl
    · simp only [if_neg hc333]
      all_goals
        refine (e_101a58_23 _ _ _ _ _ _).trans ?_
        rfl
  refine (e_101a58_24 _ _ _ _ _ _ _).trans ?_
  refine Eq.trans (b := am_r L 101 59 [some (.inr (.inr (50, none))), some (.inl x1), some (.inr (.inr (58, none))), some (.inl x3), some (.inl x4), some (.inl (σ.1 51 x1.toNatClampNeg)), some (.inl (if ((σ.1 52 x1.toNatClampNeg) - (σ.1 52 x1.toNatClampNeg) / 2 * 2) = 0 then (1 : Int32) else 0)), none, none, none, none] [.inl (if (if ((σ.1 52 x1.toNatClampNeg) - (σ.1 52 x1.toNatClampNeg) / 2 * 2) = 0 then (1 : Int32) else 0) = 0 then (0 : Int32) else (σ.1 54 ((((4 * (σ.1 51 x1.toNatClampNeg)) + (if (σ.1 52 x1.toNatClampNeg) = 0 then (2 : Int32) else 0))).toNatClampNeg)))] σ) ?_ ?_
  · by_cases hc334 : (if ((σ.1 52 x1.toNatClampNeg) - (σ.1 52 x1.toNatClampNeg) / 2 * 2) = 0 then (1 : Int32) else 0) = 0
    · simp only [if_pos hc334]
      all_goals
        refine (e_101a58_58 _ _ _ _ _ _ _).trans ?_
        rfl
    · simp only [if_neg hc334]
      all_goals
        refine (if_neg ((h.2.2.1 hc334).1)).trans ?_
        refine Eq.trans (b := am_r L 101 53 [some (.inr (.inr (50, none))), some (.inl x1), some (.inr (.inr (58, none))), some (.inl x3), some (.inl x4), some (.inl (σ.1 51 x1.toNatClampNeg)), some (.inl (if ((σ.1 52 x1.toNatClampNeg) - (σ.1 52 x1.toNatClampNeg) / 2 * 2) = 0 then (1 : Int32) else 0)), none, none, none, none] [.inl (if (σ.1 52 x1.toNatClampNeg) = 0 then (2 : Int32) else 0), .inl (4 * (σ.1 51 x1.toNatClampNeg)), .inr (.inr (54, none))] σ) ?_ ?_
        · by_cases hc335 : (σ.1 52 x1.toNatClampNeg) = 0
          · simp only [if_pos hc335]
            all_goals
              rfl
          · simp only [if_neg hc335]
            all_goals
              refine (e_101a58_52 _ _ _ _ _ _ _ _).trans ?_
              rfl
        refine (e_101a58_53 _ _ _ _ _ _ _ _ _).trans ?_
        refine (if_neg ((h.2.2.1 hc334).2)).trans ?_
        rfl
  refine (e_101a58_59 _ _ _ _ _ _ _ _).trans ?_
  refine Eq.trans (b := am_r L 101 95 [some (.inr (.inr (50, none))), some (.inl x1), some (.inr (.inr (58, none))), some (.inl x3), some (.inl x4), some (.inl (σ.1 51 x1.toNatClampNeg)), some (.inl (if ((σ.1 52 x1.toNatClampNeg) - (σ.1 52 x1.toNatClampNeg) / 2 * 2) = 0 then (1 : Int32) else 0)), some (.inl (if (if ((σ.1 52 x1.toNatClampNeg) - (σ.1 52 x1.toNatClampNeg) / 2 * 2) = 0 then (1 : Int32) else 0) = 0 then (0 : Int32) else (σ.1 54 ((((4 * (σ.1 51 x1.toNatClampNeg)) + (if (σ.1 52 x1.toNatClampNeg) = 0 then (2 : Int32) else 0))).toNatClampNeg)))), none, none, none] [.inl (if (if ((σ.1 52 x1.toNatClampNeg) - (σ.1 52 x1.toNatClampNeg) / 2 * 2) = 0 then (1 : Int32) else 0) = 0 then ((σ.1 54 ((((4 * (σ.1 51 x1.toNatClampNeg)) + (if (σ.1 52 x1.toNatClampNeg) = 1 then (3 : Int32) else 1))).toNatClampNeg)) : Int32) else 0)] σ) ?_ ?_
  · by_cases hc336 : (if ((σ.1 52 x1.toNatClampNeg) - (σ.1 52 x1.toNatClampNeg) / 2 * 2) = 0 then (1 : Int32) else 0) = 0
    · simp only [if_pos hc336]
      all_goals
        refine (e_101a58_70 _ _ _ _ _ _ _ _).trans ?_
        refine (if_neg ((h.2.2.2.1 hc336).1)).trans ?_
        refine Eq.trans (b := am_r L 101 93 [some (.inr (.inr (50, none))), some (.inl x1), some (.inr (.inr (58, none))), some (.inl x3), some (.inl x4), some (.inl (σ.1 51 x1.toNatClampNeg)), some (.inl (if ((σ.1 52 x1.toNatClampNeg) - (σ.1 52 x1.toNatClampNeg) / 2 * 2) = 0 then (1 : Int32) else 0)), some (.inl (if (if ((σ.1 52 x1.toNatClampNeg) - (σ.1 52 x1.toNatClampNeg) / 2 * 2) = 0 then (1 : Int32) else 0) = 0 then (0 : Int32) else (σ.1 54 ((((4 * (σ.1 51 x1.toNatClampNeg)) + (if (σ.1 52 x1.toNatClampNeg) = 0 then (2 : Int32) else 0))).toNatClampNeg)))), none, none, none] [.inl (if (σ.1 52 x1.toNatClampNeg) = 1 then (3 : Int32) else 1), .inl (4 * (σ.1 51 x1.toNatClampNeg)), .inr (.inr (54, none))] σ) ?_ ?_
        · by_cases hc337 : (σ.1 52 x1.toNatClampNeg) = 1
          · simp only [if_pos hc337]
            all_goals
              rfl
          · simp only [if_neg hc337]
            all_goals
              refine (e_101a58_92 _ _ _ _ _ _ _ _ _).trans ?_
              rfl
        refine (e_101a58_93 _ _ _ _ _ _ _ _ _ _).trans ?_
        refine (if_neg ((h.2.2.2.1 hc336).2)).trans ?_
        rfl
    · simp only [if_neg hc336]
      all_goals
        rfl
  refine (e_101a58_95 _ _ _ _ _ _ _ _ _).trans ?_
  exact t_101a58_103 L σ 14 x1 x3 x4 (σ.1 51 x1.toNatClampNeg) (if ((σ.1 52 x1.toNatClampNeg) - (σ.1 52 x1.toNatClampNeg) / 2 * 2) = 0 then (1 : Int32) else 0) (if (if ((σ.1 52 x1.toNatClampNeg) - (σ.1 52 x1.toNatClampNeg) / 2 * 2) = 0 then (1 : Int32) else 0) = 0 then (0 : Int32) else (σ.1 54 ((((4 * (σ.1 51 x1.toNatClampNeg)) + (if (σ.1 52 x1.toNatClampNeg) = 0 then (2 : Int32) else 0))).toNatClampNeg))) (if (if ((σ.1 52 x1.toNatClampNeg) - (σ.1 52 x1.toNatClampNeg) / 2 * 2) = 0 then (1 : Int32) else 0) = 0 then ((σ.1 54 ((((4 * (σ.1 51 x1.toNatClampNeg)) + (if (σ.1 52 x1.toNatClampNeg) = 1 then (3 : Int32) else 1))).toNatClampNeg)) : Int32) else 0) 0 0 h.2.2.2.2
def v_101a58 (σ : am_M) (x1 : Int32) (x3 : Int32) (x4 : Int32) : Int32 := f_101a58 σ x1 x3 x4
theorem s_101a58 (L : Nat) (σ : am_M) (x1 : Int32) (x3 : Int32) (x4 : Int32) (h : p_101a58 σ x1 x3 x4) : am_r L 101 0 [some (.inr (.inr (50, none))), some (.inl x1), some (.inr (.inr (58, none))), some (.inl x3), some (.inl x4), none, none, none, none, none, none] [] σ = some (some (.inl (v_101a58 σ x1 x3 x4)), am_sh0 L, σ) := sf_101a58 L σ x1 x3 x4 h
-- 101a59: X5_lineAt
def l_101a59_103 : Nat → am_M → Int32 → Int32 → Int32 → Int32 → Int32 → Int32 → Int32 → Int32 → Int32 → Int32
  | 0, _, _, _, _, _, _, _, _, _, _ => 0
  | n + 1, σ, x1, x3, x4, x5, x6, x7, x8, x9, x10 => (if x10 < 3 then (l_101a59_103 n σ x1 x3 x4 x5 x6 x7 x8 (x9 + ((x4 * (σ.1 59 (((x3 + x10)).toNatClampNeg))) * (((σ.1 56 ((((3 * x5) + x10)).toNatClampNeg)) + (x7 * (σ.1 57 ((((3 * x5) + x10)).toNatClampNeg)))) + (x8 * (σ.1 58 ((((3 * x5) + x10)).toNatClampNeg)))))) (x10 + 1)) else x9)
def q_101a59_103 : Nat → am_M → Int32 → Int32 → Int32 → Int32 → Int32 → Int32 → Int32 → Int32 → Int32 → Prop
  | 0, _, _, _, _, _, _, _, _, _, _ => False
  | n + 1, σ, x1, x3, x4, x5, x6, x7, x8, x9, x10 => (x10 < 3) → ((¬ ((x3 + x10) < 0 ∨ 39 ≤ ((x3 + x10)).toNatClampNeg)) ∧ ((¬ (((3 * x5) + x10) < 0 ∨ 39 ≤ (((3 * x5) + x10)).toNatClampNeg)) ∧ ((¬ (((3 * x5) + x10) < 0 ∨ 39 ≤ (((3 * x5) + x10)).toNatClampNeg)) ∧ ((¬ (((3 * x5) + x10) < 0 ∨ 39 ≤ (((3 * x5) + x10)).toNatClampNeg)) ∧ (q_101a59_103 n σ x1 x3 x4 x5 x6 x7 x8 (x9 + ((x4 * (σ.1 59 (((x3 + x10)).toNatClampNeg))) * (((σ.1 56 ((((3 * x5) + x10)).toNatClampNeg)) + (x7 * (σ.1 57 ((((3 * x5) + x10)).toNatClampNeg)))) + (x8 * (σ.1 58 ((((3 * x5) + x10)).toNatClampNeg)))))) (x10 + 1))))))
set_option maxRecDepth 20000 in
theorem t_101a59_103 (L : Nat) (σ : am_M) : ∀ (n : Nat) (x1 : Int32) (x3 : Int32) (x4 : Int32) (x5 : Int32) (x6 : Int32) (x7 : Int32) (x8 : Int32) (x9 : Int32) (x10 : Int32), q_101a59_103 n σ x1 x3 x4 x5 x6 x7 x8 x9 x10 → am_r L 101 103 [some (.inr (.inr (50, none))), some (.inl x1), some (.inr (.inr (59, none))), some (.inl x3), some (.inl x4), some (.inl x5), some (.inl x6), some (.inl x7), some (.inl x8), some (.inl x9), some (.inl x10)] [] σ = some (some (.inl (l_101a59_103 n σ x1 x3 x4 x5 x6 x7 x8 x9 x10)), am_sh0 L, σ) := by
  intro n
  induction n with
  | zero => intro x1 x3 x4 x5 x6 x7 x8 x9 x10 h; exact h.elim
  | succ n ih =>
    intro x1 x3 x4 x5 x6 x7 x8 x9 x10 h
    unfold q_101a59_103 at h
    unfold l_101a59_103
    refine (e_101a59_103 _ _ _ _ _ _ _ _ _ _ _).trans ?_
    by_cases hc338 : x10 < 3
    · simp only [if_pos hc338]
      all_goals
        refine (if_neg ((h hc338).1)).trans ?_
        refine (if_neg ((h hc338).2.1)).trans ?_
        refine (e_101a59_135 _ _ _ _ _ _ _ _ _ _ _ _ _ _ _).trans ?_
        refine (if_neg ((h hc338).2.2.1)).trans ?_
        refine (if_neg ((h hc338).2.2.2.1)).trans ?_
        refine (e_101a59_165 _ _ _ _ _ _ _ _ _ _ _ _ _).trans ?_
        exact ih x1 x3 x4 x5 x6 x7 x8 (x9 + ((x4 * (σ.1 59 (((x3 + x10)).toNatClampNeg))) * (((σ.1 56 ((((3 * x5) + x10)).toNatClampNeg)) + (x7 * (σ.1 57 ((((3 * x5) + x10)).toNatClampNeg)))) + (x8 * (σ.1 58 ((((3 * x5) + x10)).toNatClampNeg)))))) (x10 + 1) ((h hc338).2.2.2.2)
    · simp only [if_neg hc338]
      all_goals
        refine (e_101a59_174 _ _ _ _ _ _ _ _ _ _ _).trans ?_
        rfl
def p_101a59 (σ : am_M) (x1 : Int32) (x3 : Int32) (x4 : Int32) : Prop := (¬ (x1 < 0 ∨ 13 ≤ x1.toNatClampNeg)) ∧ ((¬ (x1 < 0 ∨ 13 ≤ x1.toNatClampNeg)) ∧ ((¬ ((if ((σ.1 52 x1.toNatClampNeg) - (σ.1 52 x1.toNatClampNeg) / 2 * 2) = 0 then (1 : Int32) else 0) = 0) → ((¬ (x1 < 0 ∨ 13 ≤ x1.toNatClampNeg)) ∧ (¬ (((4 * (σ.1 51 x1.toNatClampNeg)) + (if (σ.1 52 x1.toNatClampNeg) = 0 then (2 : Int32) else 0)) < 0 ∨ 52 ≤ (((4 * (σ.1 51 x1.toNatClampNeg)) + (if (σ.1 52 x1.toNatClampNeg) = 0 then (2 : Int32) else 0))).toNatClampNeg)))) ∧ ((((if ((σ.1 52 x1.toNatClampNeg) - (σ.1 52 x1.toNatClampNeg) / 2 * 2) = 0 then (1 : Int32) else 0) = 0) → ((¬ (x1 < 0 ∨ 13 ≤ x1.toNatClampNeg)) ∧ (¬ (((4 * (σ.1 51 x1.toNatClampNeg)) + (if (σ.1 52 x1.toNatClampNeg) = 1 then (3 : Int32) else 1)) < 0 ∨ 52 ≤ (((4 * (σ.1 51 x1.toNatClampNeg)) + (if (σ.1 52 x1.toNatClampNeg) = 1 then (3 : Int32) else 1))).toNatClampNeg)))) ∧ (q_101a59_103 14 σ x1 x3 x4 (σ.1 51 x1.toNatClampNeg) (if ((σ.1 52 x1.toNatClampNeg) - (σ.1 52 x1.toNatClampNeg) / 2 * 2) = 0 then (1 : Int32) else 0) (if (if ((σ.1 52 x1.toNatClampNeg) - (σ.1 52 x1.toNatClampNeg) / 2 * 2) = 0 then (1 : Int32) else 0) = 0 then (0 : Int32) else (σ.1 54 ((((4 * (σ.1 51 x1.toNatClampNeg)) + (if (σ.1 52 x1.toNatClampNeg) = 0 then (2 : Int32) else 0))).toNatClampNeg))) (if (if ((σ.1 52 x1.toNatClampNeg) - (σ.1 52 x1.toNatClampNeg) / 2 * 2) = 0 then (1 : Int32) else 0) = 0 then ((σ.1 54 ((((4 * (σ.1 51 x1.toNatClampNeg)) + (if (σ.1 52 x1.toNatClampNeg) = 1 then (3 : Int32) else 1))).toNatClampNeg)) : Int32) else 0) 0 0))))
def f_101a59 (σ : am_M) (x1 : Int32) (x3 : Int32) (x4 : Int32) : Int32 := (l_101a59_103 14 σ x1 x3 x4 (σ.1 51 x1.toNatClampNeg) (if ((σ.1 52 x1.toNatClampNeg) - (σ.1 52 x1.toNatClampNeg) / 2 * 2) = 0 then (1 : Int32) else 0) (if (if ((σ.1 52 x1.toNatClampNeg) - (σ.1 52 x1.toNatClampNeg) / 2 * 2) = 0 then (1 : Int32) else 0) = 0 then (0 : Int32) else (σ.1 54 ((((4 * (σ.1 51 x1.toNatClampNeg)) + (if (σ.1 52 x1.toNatClampNeg) = 0 then (2 : Int32) else 0))).toNatClampNeg))) (if (if ((σ.1 52 x1.toNatClampNeg) - (σ.1 52 x1.toNatClampNeg) / 2 * 2) = 0 then (1 : Int32) else 0) = 0 then ((σ.1 54 ((((4 * (σ.1 51 x1.toNatClampNeg)) + (if (σ.1 52 x1.toNatClampNeg) = 1 then (3 : Int32) else 1))).toNatClampNeg)) : Int32) else 0) 0 0)
set_option maxRecDepth 20000 in
theorem sf_101a59 (L : Nat) (σ : am_M) (x1 : Int32) (x3 : Int32) (x4 : Int32) (h : p_101a59 σ x1 x3 x4) : am_r L 101 0 [some (.inr (.inr (50, none))), some (.inl x1), some (.inr (.inr (59, none))), some (.inl x3), some (.inl x4), none, none, none, none, none, none] [] σ = some (some (.inl (f_101a59 σ x1 x3 x4)), am_sh0 L, σ) := by
  unfold p_101a59 at h
  unfold f_101a59
  refine (e_101a59_0 _ _ _ _ _).trans ?_
  refine (if_neg h.1).trans ?_
  refine (if_neg h.2.1).trans ?_
  refine Eq.trans (b := am_r L 101 24 [some (.inr (.inr (50, none))), some (.inl x1), some (.inr (.inr (59, none))), some (.inl x3), some (.inl x4), some (.inl (σ.1 51 x1.toNatClampNeg)), none, none, none, none, none] [.inl (if ((σ.1 52 x1.toNatClampNeg) - (σ.1 52 x1.toNatClampNeg) / 2 * 2) = 0 then (1 : Int32) else 0)] σ) ?_ ?_
  · by_cases hc339 : ((σ.1 52 x1.toNatClampNeg) - (σ.1 52 x1.toNatClampNeg) / 2 * 2) = 0
    · simp only [if_pos hc339]
      all_goals
        rfl
    · simp only [if_neg hc339]
      all_goals
        refine (e_101a59_23 _ _ _ _ _ _).trans ?_
        rfl
  refine (e_101a59_24 _ _ _ _ _ _ _).trans ?_
  refine Eq.trans (b := am_r L 101 59 [some (.inr (.inr (50, none))), some (.inl x1), some (.inr (.inr (59, none))), some (.inl x3), some (.inl x4), some (.inl (σ.1 51 x1.toNatClampNeg)), some (.inl (if ((σ.1 52 x1.toNatClampNeg) - (σ.1 52 x1.toNatClampNeg) / 2 * 2) = 0 then (1 : Int32) else 0)), none, none, none, none] [.inl (if (if ((σ.1 52 x1.toNatClampNeg) - (σ.1 52 x1.toNatClampNeg) / 2 * 2) = 0 then (1 : Int32) else 0) = 0 then (0 : Int32) else (σ.1 54 ((((4 * (σ.1 51 x1.toNatClampNeg)) + (if (σ.1 52 x1.toNatClampNeg) = 0 then (2 : Int32) else 0))).toNatClampNeg)))] σ) ?_ ?_
  · by_cases hc340 : (if ((σ.1 52 x1.toNatClampNeg) - (σ.1 52 x1.toNatClampNeg) / 2 * 2) = 0 then (1 : Int32) else 0) = 0
    · simp only [if_pos hc340]
      all_goals
        refine (e_101a59_58 _ _ _ _ _ _ _).trans ?_
        rfl
    · simp only [if_neg hc340]
      all_goals
        refine (if_neg ((h.2.2.1 hc340).1)).trans ?_
        refine Eq.trans (b := am_r L 101 53 [some (.inr (.inr (50, none))), some (.inl x1), some (.inr (.inr (59, none))), some (.inl x3), some (.inl x4), some (.inl (σ.1 51 x1.toNatClampNeg)), some (.inl (if ((σ.1 52 x1.toNatClampNeg) - (σ.1 52 x1.toNatClampNeg) / 2 * 2) = 0 then (1 : Int32) else 0)), none, none, none, none] [.inl (if (σ.1 52 x1.toNatClampNeg) = 0 then (2 : Int32) else 0), .inl (4 * (σ.1 51 x1.toNatClampNeg)), .inr (.inr (54, none))] σ) ?_ ?_
        · by_cases hc341 : (σ.1 52 x1.toNatClampNeg) = 0
          · simp only [if_pos hc341]
            all_goals
              rfl
          · simp only [if_neg hc341]
            all_goals
              refine (e_101a59_52 _ _ _ _ _ _ _ _).trans ?_
              rfl
        refine (e_101a59_53 _ _ _ _ _ _ _ _ _).trans ?_
        refine (if_neg ((h.2.2.1 hc340).2)).trans ?_
        rfl
  refine (e_101a59_59 _ _ _ _ _ _ _ _).trans ?_
  refine Eq.trans (b := am_r L 101 95 [some (.inr (.inr (50, none))), some (.inl x1), some (.inr (.inr (59, none))), some (.inl x3), some (.inl x4), some (.inl (σ.1 51 x1.toNatClampNeg)), some (.inl (if ((σ.1 52 x1.toNatClampNeg) - (σ.1 52 x1.toNatClampNeg) / 2 * 2) = 0 then (1 : Int32) else 0)), some (.inl (if (if ((σ.1 52 x1.toNatClampNeg) - (σ.1 52 x1.toNatClampNeg) / 2 * 2) = 0 then (1 : Int32) else 0) = 0 then (0 : Int32) else (σ.1 54 ((((4 * (σ.1 51 x1.toNatClampNeg)) + (if (σ.1 52 x1.toNatClampNeg) = 0 then (2 : Int32) else 0))).toNatClampNeg)))), none, none, none] [.inl (if (if ((σ.1 52 x1.toNatClampNeg) - (σ.1 52 x1.toNatClampNeg) / 2 * 2) = 0 then (1 : Int32) else 0) = 0 then ((σ.1 54 ((((4 * (σ.1 51 x1.toNatClampNeg)) + (if (σ.1 52 x1.toNatClampNeg) = 1 then (3 : Int32) else 1))).toNatClampNeg)) : Int32) else 0)] σ) ?_ ?_
  · by_cases hc342 : (if ((σ.1 52 x1.toNatClampNeg) - (σ.1 52 x1.toNatClampNeg) / 2 * 2) = 0 then (1 : Int32) else 0) = 0
    · simp only [if_pos hc342]
      all_goals
        refine (e_101a59_70 _ _ _ _ _ _ _ _).trans ?_
        refine (if_neg ((h.2.2.2.1 hc342).1)).trans ?_
        refine Eq.trans (b := am_r L 101 93 [some (.inr (.inr (50, none))), some (.inl x1), some (.inr (.inr (59, none))), some (.inl x3), some (.inl x4), some (.inl (σ.1 51 x1.toNatClampNeg)), some (.inl (if ((σ.1 52 x1.toNatClampNeg) - (σ.1 52 x1.toNatClampNeg) / 2 * 2) = 0 then (1 : Int32) else 0)), some (.inl (if (if ((σ.1 52 x1.toNatClampNeg) - (σ.1 52 x1.toNatClampNeg) / 2 * 2) = 0 then (1 : Int32) else 0) = 0 then (0 : Int32) else (σ.1 54 ((((4 * (σ.1 51 x1.toNatClampNeg)) + (if (σ.1 52 x1.toNatClampNeg) = 0 then (2 : Int32) else 0))).toNatClampNeg)))), none, none, none] [.inl (if (σ.1 52 x1.toNatClampNeg) = 1 then (3 : Int32) else 1), .inl (4 * (σ.1 51 x1.toNatClampNeg)), .inr (.inr (54, none))] σ) ?_ ?_
        · by_cases hc343 : (σ.1 52 x1.toNatClampNeg) = 1
          · simp only [if_pos hc343]
            all_goals
              rfl
          · simp only [if_neg hc343]
            all_goals
              refine (e_101a59_92 _ _ _ _ _ _ _ _ _).trans ?_
              rfl
        refine (e_101a59_93 _ _ _ _ _ _ _ _ _ _).trans ?_
        refine (if_neg ((h.2.2.2.1 hc342).2)).trans ?_
        rfl
    · simp only [if_neg hc342]
      all_goals
        rfl
  refine (e_101a59_95 _ _ _ _ _ _ _ _ _).trans ?_
  exact t_101a59_103 L σ 14 x1 x3 x4 (σ.1 51 x1.toNatClampNeg) (if ((σ.1 52 x1.toNatClampNeg) - (σ.1 52 x1.toNatClampNeg) / 2 * 2) = 0 then (1 : Int32) else 0) (if (if ((σ.1 52 x1.toNatClampNeg) - (σ.1 52 x1.toNatClampNeg) / 2 * 2) = 0 then (1 : Int32) else 0) = 0 then (0 : Int32) else (σ.1 54 ((((4 * (σ.1 51 x1.toNatClampNeg)) + (if (σ.1 52 x1.toNatClampNeg) = 0 then (2 : Int32) else 0))).toNatClampNeg))) (if (if ((σ.1 52 x1.toNatClampNeg) - (σ.1 52 x1.toNatClampNeg) / 2 * 2) = 0 then (1 : Int32) else 0) = 0 then ((σ.1 54 ((((4 * (σ.1 51 x1.toNatClampNeg)) + (if (σ.1 52 x1.toNatClampNeg) = 1 then (3 : Int32) else 1))).toNatClampNeg)) : Int32) else 0) 0 0 h.2.2.2.2
def v_101a59 (σ : am_M) (x1 : Int32) (x3 : Int32) (x4 : Int32) : Int32 := f_101a59 σ x1 x3 x4
theorem s_101a59 (L : Nat) (σ : am_M) (x1 : Int32) (x3 : Int32) (x4 : Int32) (h : p_101a59 σ x1 x3 x4) : am_r L 101 0 [some (.inr (.inr (50, none))), some (.inl x1), some (.inr (.inr (59, none))), some (.inl x3), some (.inl x4), none, none, none, none, none, none] [] σ = some (some (.inl (v_101a59 σ x1 x3 x4)), am_sh0 L, σ) := sf_101a59 L σ x1 x3 x4 h
-- 102: X5_findPlace
def p_102_160 (σ : am_M) (x1 : Int32) (x2 : Int32) (x3 : Int32) (x4 : Int32) (x5 : Int32) (x6 : Int32) : Prop := (p_101a59 σ x1 x3 x5) ∧ ((p_100a59 σ x2 x3 x5 0 (v_101a59 σ x1 x3 x5)) ∧ (p_100a59 (am_put σ 50 21 (v_100a59 σ x2 x3 x5 0 (v_101a59 σ x1 x3 x5))) x2 x3 x5 1 (v_101a59 σ x1 x3 x5)))
def w_102_160 (σ : am_M) (x1 : Int32) (x2 : Int32) (x3 : Int32) (x4 : Int32) (x5 : Int32) (x6 : Int32) : am_M := (am_put (am_put σ 50 21 (v_100a59 σ x2 x3 x5 0 (v_101a59 σ x1 x3 x5))) 50 22 (v_100a59 (am_put σ 50 21 (v_100a59 σ x2 x3 x5 0 (v_101a59 σ x1 x3 x5))) x2 x3 x5 1 (v_101a59 σ x1 x3 x5)))
set_option maxRecDepth 20000 in
theorem s_102_160 (L : Nat) (σ : am_M) (x1 : Int32) (x2 : Int32) (x3 : Int32) (x4 : Int32) (x5 : Int32) (x6 : Int32) (h : p_102_160 σ x1 x2 x3 x4 x5 x6) : am_r L 102 160 [some (.inr (.inr (50, none))), some (.inl x1), some (.inl x2), some (.inl x3), some (.inl x4), some (.inl x5), some (.inl x6)] [] σ = some (none, am_sh0 L, w_102_160 σ x1 x2 x3 x4 x5 x6) := by
  unfold p_102_160 at h
  unfold w_102_160
  refine (e_102_160 _ _ _ _ _ _ _ _).trans ?_
  refine (am_bind_i (s_101a59 L σ x1 x3 x5 h.1)).trans ?_
  refine (e_102_172 _ _ _ _ _ _ _ _ _).trans ?_
  refine (am_bind_i (s_100a59 L σ x2 x3 x5 0 (v_101a59 σ x1 x3 x5) h.2.1)).trans ?_
  refine (e_102_190 _ _ _ _ _ _ _ _ _).trans ?_
  refine (am_bind_i (s_100a59 L (am_put σ 50 21 (v_100a59 σ x2 x3 x5 0 (v_101a59 σ x1 x3 x5))) x2 x3 x5 1 (v_101a59 σ x1 x3 x5) h.2.2)).trans ?_
  refine (e_102_209 _ _ _ _ _ _ _ _ _).trans ?_
  rfl
def p_102 (σ : am_M) (x1 : Int32) (x2 : Int32) : Prop := (¬ (x1 < 0 ∨ 13 ≤ x1.toNatClampNeg)) ∧ ((¬ (x1 < 0 ∨ 13 ≤ x1.toNatClampNeg)) ∧ ((¬ (x1 < 0 ∨ 13 ≤ x1.toNatClampNeg)) ∧ ((¬ (x1 < 0 ∨ 13 ≤ x1.toNatClampNeg)) ∧ (((((σ.1 52 x1.toNatClampNeg) - (σ.1 52 x1.toNatClampNeg) / 2 * 2) = 0) → ((p_101a57 σ x1 (3 * (σ.1 51 x1.toNatClampNeg)) (if (σ.1 52 x1.toNatClampNeg) < 2 then (1 : Int32) else (-1))) ∧ ((p_100a57 σ x2 (3 * (σ.1 51 x1.toNatClampNeg)) (if (σ.1 52 x1.toNatClampNeg) < 2 then (1 : Int32) else (-1)) 0 (v_101a57 σ x1 (3 * (σ.1 51 x1.toNatClampNeg)) (if (σ.1 52 x1.toNatClampNeg) < 2 then (1 : Int32) else (-1)))) ∧ ((p_100a57 (am_put σ 50 19 (v_100a57 σ x2 (3 * (σ.1 51 x1.toNatClampNeg)) (if (σ.1 52 x1.toNatClampNeg) < 2 then (1 : Int32) else (-1)) 0 (v_101a57 σ x1 (3 * (σ.1 51 x1.toNatClampNeg)) (if (σ.1 52 x1.toNatClampNeg) < 2 then (1 : Int32) else (-1))))) x2 (3 * (σ.1 51 x1.toNatClampNeg)) (if (σ.1 52 x1.toNatClampNeg) < 2 then (1 : Int32) else (-1)) 1 (v_101a57 σ x1 (3 * (σ.1 51 x1.toNatClampNeg)) (if (σ.1 52 x1.toNatClampNeg) < 2 then (1 : Int32) else (-1)))) ∧ (p_102_160 (am_put (am_put σ 50 19 (v_100a57 σ x2 (3 * (σ.1 51 x1.toNatClampNeg)) (if (σ.1 52 x1.toNatClampNeg) < 2 then (1 : Int32) else (-1)) 0 (v_101a57 σ x1 (3 * (σ.1 51 x1.toNatClampNeg)) (if (σ.1 52 x1.toNatClampNeg) < 2 then (1 : Int32) else (-1))))) 50 20 (v_100a57 (am_put σ 50 19 (v_100a57 σ x2 (3 * (σ.1 51 x1.toNatClampNeg)) (if (σ.1 52 x1.toNatClampNeg) < 2 then (1 : Int32) else (-1)) 0 (v_101a57 σ x1 (3 * (σ.1 51 x1.toNatClampNeg)) (if (σ.1 52 x1.toNatClampNeg) < 2 then (1 : Int32) else (-1))))) x2 (3 * (σ.1 51 x1.toNatClampNeg)) (if (σ.1 52 x1.toNatClampNeg) < 2 then (1 : Int32) else (-1)) 1 (v_101a57 σ x1 (3 * (σ.1 51 x1.toNatClampNeg)) (if (σ.1 52 x1.toNatClampNeg) < 2 then (1 : Int32) else (-1))))) x1 x2 (3 * (σ.1 51 x1.toNatClampNeg)) (if (σ.1 52 x1.toNatClampNeg) < 2 then (1 : Int32) else (-1)) (if (σ.1 53 x1.toNatClampNeg) = 0 then ((-1) : Int32) else 1) (v_101a57 σ x1 (3 * (σ.1 51 x1.toNatClampNeg)) (if (σ.1 52 x1.toNatClampNeg) < 2 then (1 : Int32) else (-1)))))))) ∧ (¬ (((σ.1 52 x1.toNatClampNeg) - (σ.1 52 x1.toNatClampNeg) / 2 * 2) = 0) → ((p_101a58 σ x1 (3 * (σ.1 51 x1.toNatClampNeg)) (if (σ.1 52 x1.toNatClampNeg) < 2 then (1 : Int32) else (-1))) ∧ ((p_100a58 σ x2 (3 * (σ.1 51 x1.toNatClampNeg)) (if (σ.1 52 x1.toNatClampNeg) < 2 then (1 : Int32) else (-1)) 0 (v_101a58 σ x1 (3 * (σ.1 51 x1.toNatClampNeg)) (if (σ.1 52 x1.toNatClampNeg) < 2 then (1 : Int32) else (-1)))) ∧ ((p_100a58 (am_put σ 50 19 (v_100a58 σ x2 (3 * (σ.1 51 x1.toNatClampNeg)) (if (σ.1 52 x1.toNatClampNeg) < 2 then (1 : Int32) else (-1)) 0 (v_101a58 σ x1 (3 * (σ.1 51 x1.toNatClampNeg)) (if (σ.1 52 x1.toNatClampNeg) < 2 then (1 : Int32) else (-1))))) x2 (3 * (σ.1 51 x1.toNatClampNeg)) (if (σ.1 52 x1.toNatClampNeg) < 2 then (1 : Int32) else (-1)) 1 (v_101a58 σ x1 (3 * (σ.1 51 x1.toNatClampNeg)) (if (σ.1 52 x1.toNatClampNeg) < 2 then (1 : Int32) else (-1)))) ∧ (p_102_160 (am_put (am_put σ 50 19 (v_100a58 σ x2 (3 * (σ.1 51 x1.toNatClampNeg)) (if (σ.1 52 x1.toNatClampNeg) < 2 then (1 : Int32) else (-1)) 0 (v_101a58 σ x1 (3 * (σ.1 51 x1.toNatClampNeg)) (if (σ.1 52 x1.toNatClampNeg) < 2 then (1 : Int32) else (-1))))) 50 20 (v_100a58 (am_put σ 50 19 (v_100a58 σ x2 (3 * (σ.1 51 x1.toNatClampNeg)) (if (σ.1 52 x1.toNatClampNeg) < 2 then (1 : Int32) else (-1)) 0 (v_101a58 σ x1 (3 * (σ.1 51 x1.toNatClampNeg)) (if (σ.1 52 x1.toNatClampNeg) < 2 then (1 : Int32) else (-1))))) x2 (3 * (σ.1 51 x1.toNatClampNeg)) (if (σ.1 52 x1.toNatClampNeg) < 2 then (1 : Int32) else (-1)) 1 (v_101a58 σ x1 (3 * (σ.1 51 x1.toNatClampNeg)) (if (σ.1 52 x1.toNatClampNeg) < 2 then (1 : Int32) else (-1))))) x1 x2 (3 * (σ.1 51 x1.toNatClampNeg)) (if (σ.1 52 x1.toNatClampNeg) < 2 then (1 : Int32) else (-1)) (if (σ.1 53 x1.toNatClampNeg) = 0 then ((-1) : Int32) else 1) (v_101a58 σ x1 (3 * (σ.1 51 x1.toNatClampNeg)) (if (σ.1 52 x1.toNatClampNeg) < 2 then (1 : Int32) else (-1))))))))))))
def w_102 (σ : am_M) (x1 : Int32) (x2 : Int32) : am_M := (if ((σ.1 52 x1.toNatClampNeg) - (σ.1 52 x1.toNatClampNeg) / 2 * 2) = 0 then (w_102_160 (am_put (am_put σ 50 19 (v_100a57 σ x2 (3 * (σ.1 51 x1.toNatClampNeg)) (if (σ.1 52 x1.toNatClampNeg) < 2 then (1 : Int32) else (-1)) 0 (v_101a57 σ x1 (3 * (σ.1 51 x1.toNatClampNeg)) (if (σ.1 52 x1.toNatClampNeg) < 2 then (1 : Int32) else (-1))))) 50 20 (v_100a57 (am_put σ 50 19 (v_100a57 σ x2 (3 * (σ.1 51 x1.toNatClampNeg)) (if (σ.1 52 x1.toNatClampNeg) < 2 then (1 : Int32) else (-1)) 0 (v_101a57 σ x1 (3 * (σ.1 51 x1.toNatClampNeg)) (if (σ.1 52 x1.toNatClampNeg) < 2 then (1 : Int32) else (-1))))) x2 (3 * (σ.1 51 x1.toNatClampNeg)) (if (σ.1 52 x1.toNatClampNeg) < 2 then (1 : Int32) else (-1)) 1 (v_101a57 σ x1 (3 * (σ.1 51 x1.toNatClampNeg)) (if (σ.1 52 x1.toNatClampNeg) < 2 then (1 : Int32) else (-1))))) x1 x2 (3 * (σ.1 51 x1.toNatClampNeg)) (if (σ.1 52 x1.toNatClampNeg) < 2 then (1 : Int32) else (-1)) (if (σ.1 53 x1.toNatClampNeg) = 0 then ((-1) : Int32) else 1) (v_101a57 σ x1 (3 * (σ.1 51 x1.toNatClampNeg)) (if (σ.1 52 x1.toNatClampNeg) < 2 then (1 : Int32) else (-1)))) else (w_102_160 (am_put (am_put σ 50 19 (v_100a58 σ x2 (3 * (σ.1 51 x1.toNatClampNeg)) (if (σ.1 52 x1.toNatClampNeg) < 2 then (1 : Int32) else (-1)) 0 (v_101a58 σ x1 (3 * (σ.1 51 x1.toNatClampNeg)) (if (σ.1 52 x1.toNatClampNeg) < 2 then (1 : Int32) else (-1))))) 50 20 (v_100a58 (am_put σ 50 19 (v_100a58 σ x2 (3 * (σ.1 51 x1.toNatClampNeg)) (if (σ.1 52 x1.toNatClampNeg) < 2 then (1 : Int32) else (-1)) 0 (v_101a58 σ x1 (3 * (σ.1 51 x1.toNatClampNeg)) (if (σ.1 52 x1.toNatClampNeg) < 2 then (1 : Int32) else (-1))))) x2 (3 * (σ.1 51 x1.toNatClampNeg)) (if (σ.1 52 x1.toNatClampNeg) < 2 then (1 : Int32) else (-1)) 1 (v_101a58 σ x1 (3 * (σ.1 51 x1.toNatClampNeg)) (if (σ.1 52 x1.toNatClampNeg) < 2 then (1 : Int32) else (-1))))) x1 x2 (3 * (σ.1 51 x1.toNatClampNeg)) (if (σ.1 52 x1.toNatClampNeg) < 2 then (1 : Int32) else (-1)) (if (σ.1 53 x1.toNatClampNeg) = 0 then ((-1) : Int32) else 1) (v_101a58 σ x1 (3 * (σ.1 51 x1.toNatClampNeg)) (if (σ.1 52 x1.toNatClampNeg) < 2 then (1 : Int32) else (-1)))))
set_option maxRecDepth 20000 in
theorem s_102 (L : Nat) (σ : am_M) (x1 : Int32) (x2 : Int32) (h : p_102 σ x1 x2) : am_r L 102 0 [some (.inr (.inr (50, none))), some (.inl x1), some (.inl x2), none, none, none, none] [] σ = some (none, am_sh0 L, w_102 σ x1 x2) := by
  unfold p_102 at h
  unfold w_102
  refine (e_102_0 _ _ _ _).trans ?_
  refine (if_neg h.1).trans ?_
  refine (if_neg h.2.1).trans ?_
  refine Eq.trans (b := am_r L 102 24 [some (.inr (.inr (50, none))), some (.inl x1), some (.inl x2), some (.inl (3 * (σ.1 51 x1.toNatClampNeg))), none, none, none] [.inl (if (σ.1 52 x1.toNatClampNeg) < 2 then (1 : Int32) else (-1))] σ) ?_ ?_
  · by_cases hc344 : (σ.1 52 x1.toNatClampNeg) < 2
    · simp only [if_pos hc344]
      all_goals
        rfl
    · simp only [if_neg hc344]
      all_goals
        refine (e_102_23 _ _ _ _ _).trans ?_
        rfl
  refine (e_102_24 _ _ _ _ _ _).trans ?_
  refine (if_neg h.2.2.1).trans ?_
  refine Eq.trans (b := am_r L 102 40 [some (.inr (.inr (50, none))), some (.inl x1), some (.inl x2), some (.inl (3 * (σ.1 51 x1.toNatClampNeg))), some (.inl (if (σ.1 52 x1.toNatClampNeg) < 2 then (1 : Int32) else (-1))), none, none] [.inl (if (σ.1 53 x1.toNatClampNeg) = 0 then ((-1) : Int32) else 1)] σ) ?_ ?_
  · by_cases hc345 : (σ.1 53 x1.toNatClampNeg) = 0
    · simp only [if_pos hc345]
      all_goals
        refine (e_102_39 _ _ _ _ _ _).trans ?_
        rfl
    · simp only [if_neg hc345]
      all_goals
        rfl
  refine (e_102_40 _ _ _ _ _ _ _).trans ?_
  refine (if_neg h.2.2.2.1).trans ?_
  by_cases hc346 : ((σ.1 52 x1.toNatClampNeg) - (σ.1 52 x1.toNatClampNeg) / 2 * 2) = 0
  · simp only [if_pos hc346]
    all_goals
      refine (am_bind_i (s_101a57 L σ x1 (3 * (σ.1 51 x1.toNatClampNeg)) (if (σ.1 52 x1.toNatClampNeg) < 2 then (1 : Int32) else (-1)) ((h.2.2.2.2.1 hc346).1))).trans ?_
      refine (e_102_65 _ _ _ _ _ _ _ _).trans ?_
      refine (am_bind_i (s_100a57 L σ x2 (3 * (σ.1 51 x1.toNatClampNeg)) (if (σ.1 52 x1.toNatClampNeg) < 2 then (1 : Int32) else (-1)) 0 (v_101a57 σ x1 (3 * (σ.1 51 x1.toNatClampNeg)) (if (σ.1 52 x1.toNatClampNeg) < 2 then (1 : Int32) else (-1))) ((h.2.2.2.2.1 hc346).2.1))).trans ?_
      refine (e_102_83 _ _ _ _ _ _ _ _ _).trans ?_
      refine (am_bind_i (s_100a57 L (am_put σ 50 19 (v_100a57 σ x2 (3 * (σ.1 51 x1.toNatClampNeg)) (if (σ.1 52 x1.toNatClampNeg) < 2 then (1 : Int32) else (-1)) 0 (v_101a57 σ x1 (3 * (σ.1 51 x1.toNatClampNeg)) (if (σ.1 52 x1.toNatClampNeg) < 2 then (1 : Int32) else (-1))))) x2 (3 * (σ.1 51 x1.toNatClampNeg)) (if (σ.1 52 x1.toNatClampNeg) < 2 then (1 : Int32) else (-1)) 1 (v_101a57 σ x1 (3 * (σ.1 51 x1.toNatClampNeg)) (if (σ.1 52 x1.toNatClampNeg) < 2 then (1 : Int32) else (-1))) ((h.2.2.2.2.1 hc346).2.2.1))).trans ?_
      refine (e_102_102 _ _ _ _ _ _ _ _ _).trans ?_
      exact s_102_160 L (am_put (am_put σ 50 19 (v_100a57 σ x2 (3 * (σ.1 51 x1.toNatClampNeg)) (if (σ.1 52 x1.toNatClampNeg) < 2 then (1 : Int32) else (-1)) 0 (v_101a57 σ x1 (3 * (σ.1 51 x1.toNatClampNeg)) (if (σ.1 52 x1.toNatClampNeg) < 2 then (1 : Int32) else (-1))))) 50 20 (v_100a57 (am_put σ 50 19 (v_100a57 σ x2 (3 * (σ.1 51 x1.toNatClampNeg)) (if (σ.1 52 x1.toNatClampNeg) < 2 then (1 : Int32) else (-1)) 0 (v_101a57 σ x1 (3 * (σ.1 51 x1.toNatClampNeg)) (if (σ.1 52 x1.toNatClampNeg) < 2 then (1 : Int32) else (-1))))) x2 (3 * (σ.1 51 x1.toNatClampNeg)) (if (σ.1 52 x1.toNatClampNeg) < 2 then (1 : Int32) else (-1)) 1 (v_101a57 σ x1 (3 * (σ.1 51 x1.toNatClampNeg)) (if (σ.1 52 x1.toNatClampNeg) < 2 then (1 : Int32) else (-1))))) x1 x2 (3 * (σ.1 51 x1.toNatClampNeg)) (if (σ.1 52 x1.toNatClampNeg) < 2 then (1 : Int32) else (-1)) (if (σ.1 53 x1.toNatClampNeg) = 0 then ((-1) : Int32) else 1) (v_101a57 σ x1 (3 * (σ.1 51 x1.toNatClampNeg)) (if (σ.1 52 x1.toNatClampNeg) < 2 then (1 : Int32) else (-1))) ((h.2.2.2.2.1 hc346).2.2.2)
  · simp only [if_neg hc346]
    all_goals
      refine (e_102_108 _ _ _ _ _ _ _).trans ?_
      refine (am_bind_i (s_101a58 L σ x1 (3 * (σ.1 51 x1.toNatClampNeg)) (if (σ.1 52 x1.toNatClampNeg) < 2 then (1 : Int32) else (-1)) ((h.2.2.2.2.2 hc346).1))).trans ?_
      refine (e_102_120 _ _ _ _ _ _ _ _).trans ?_
      refine (am_bind_i (s_100a58 L σ x2 (3 * (σ.1 51 x1.toNatClampNeg)) (if (σ.1 52 x1.toNatClampNeg) < 2 then (1 : Int32) else (-1)) 0 (v_101a58 σ x1 (3 * (σ.1 51 x1.toNatClampNeg)) (if (σ.1 52 x1.toNatClampNeg) < 2 then (1 : Int32) else (-1))) ((h.2.2.2.2.2 hc346).2.1))).trans ?_
      refine (e_102_138 _ _ _ _ _ _ _ _ _).trans ?_
      refine (am_bind_i (s_100a58 L (am_put σ 50 19 (v_100a58 σ x2 (3 * (σ.1 51 x1.toNatClampNeg)) (if (σ.1 52 x1.toNatClampNeg) < 2 then (1 : Int32) else (-1)) 0 (v_101a58 σ x1 (3 * (σ.1 51 x1.toNatClampNeg)) (if (σ.1 52 x1.toNatClampNeg) < 2 then (1 : Int32) else (-1))))) x2 (3 * (σ.1 51 x1.toNatClampNeg)) (if (σ.1 52 x1.toNatClampNeg) < 2 then (1 : Int32) else (-1)) 1 (v_101a58 σ x1 (3 * (σ.1 51 x1.toNatClampNeg)) (if (σ.1 52 x1.toNatClampNeg) < 2 then (1 : Int32) else (-1))) ((h.2.2.2.2.2 hc346).2.2.1))).trans ?_
      refine (e_102_157 _ _ _ _ _ _ _ _ _).trans ?_
      exact s_102_160 L (am_put (am_put σ 50 19 (v_100a58 σ x2 (3 * (σ.1 51 x1.toNatClampNeg)) (if (σ.1 52 x1.toNatClampNeg) < 2 then (1 : Int32) else (-1)) 0 (v_101a58 σ x1 (3 * (σ.1 51 x1.toNatClampNeg)) (if (σ.1 52 x1.toNatClampNeg) < 2 then (1 : Int32) else (-1))))) 50 20 (v_100a58 (am_put σ 50 19 (v_100a58 σ x2 (3 * (σ.1 51 x1.toNatClampNeg)) (if (σ.1 52 x1.toNatClampNeg) < 2 then (1 : Int32) else (-1)) 0 (v_101a58 σ x1 (3 * (σ.1 51 x1.toNatClampNeg)) (if (σ.1 52 x1.toNatClampNeg) < 2 then (1 : Int32) else (-1))))) x2 (3 * (σ.1 51 x1.toNatClampNeg)) (if (σ.1 52 x1.toNatClampNeg) < 2 then (1 : Int32) else (-1)) 1 (v_101a58 σ x1 (3 * (σ.1 51 x1.toNatClampNeg)) (if (σ.1 52 x1.toNatClampNeg) < 2 then (1 : Int32) else (-1))))) x1 x2 (3 * (σ.1 51 x1.toNatClampNeg)) (if (σ.1 52 x1.toNatClampNeg) < 2 then (1 : Int32) else (-1)) (if (σ.1 53 x1.toNatClampNeg) = 0 then ((-1) : Int32) else 1) (v_101a58 σ x1 (3 * (σ.1 51 x1.toNatClampNeg)) (if (σ.1 52 x1.toNatClampNeg) < 2 then (1 : Int32) else (-1))) ((h.2.2.2.2.2 hc346).2.2.2)
-- 103: X5_findBands
def p_103_386 (σ : am_M) (x1 : Int32) (x2 : Int32) (x3 : Int32) (s1 : Int32) (s2 : Int64) : Prop := ¬ (s1 < 0 ∨ 8 ≤ s1.toNatClampNeg)
def w_103_386 (σ : am_M) (x1 : Int32) (x2 : Int32) (x3 : Int32) (s1 : Int32) (s2 : Int64) : am_M := (am_putL σ 63 s1.toNatClampNeg (s2 + (v_99 σ (Int32.toInt64 (σ.1 50 21)))))
set_option maxRecDepth 20000 in
theorem s_103_386 (L : Nat) (σ : am_M) (x1 : Int32) (x2 : Int32) (x3 : Int32) (s1 : Int32) (s2 : Int64) (h : p_103_386 σ x1 x2 x3 s1 s2) : am_r L 103 386 [some (.inr (.inr (50, none))), some (.inl x1), some (.inl x2), some (.inl x3)] [.inr (.inl s2), .inl s1, .inr (.inr (63, none))] σ = some (none, am_sh0 L, w_103_386 σ x1 x2 x3 s1 s2) := by
  unfold p_103_386 at h
  unfold w_103_386
  refine (e_103_386 _ _ _ _ _ _ _).trans ?_
  refine (am_bind_j (s_99 L σ (Int32.toInt64 (σ.1 50 21)))).trans ?_
  refine (e_103_394 _ _ _ _ _ _ _ _).trans ?_
  refine (if_neg h).trans ?_
  rfl
def p_103_287 (σ : am_M) (x1 : Int32) (x2 : Int32) (x3 : Int32) (s1 : Int32) (s2 : Int64) : Prop := (¬ (s1 < 0 ∨ 8 ≤ s1.toNatClampNeg)) ∧ ((¬ ((x3 + 3) < 0 ∨ 8 ≤ ((x3 + 3)).toNatClampNeg)) ∧ ((¬ ((x3 + 3) < 0 ∨ 8 ≤ ((x3 + 3)).toNatClampNeg)) ∧ (p_103_386 (am_putL (am_put (am_putL σ 63 s1.toNatClampNeg (s2 + (v_99 σ (Int32.toInt64 (σ.1 50 21))))) 64 (((x3 + 3)).toNatClampNeg) (vp_nar .boolean (if (σ.1 50 20) < 0 then (0 : Int32) else (if (σ.1 50 21) < 0 then (1 : Int32) else 0)))) 62 (((x3 + 3)).toNatClampNeg) ((v_99 (am_put (am_putL σ 63 s1.toNatClampNeg (s2 + (v_99 σ (Int32.toInt64 (σ.1 50 21))))) 64 (((x3 + 3)).toNatClampNeg) (vp_nar .boolean (if (σ.1 50 20) < 0 then (0 : Int32) else (if (σ.1 50 21) < 0 then (1 : Int32) else 0)))) (if 0 < (σ.1 50 19) then (Int32.toInt64 (σ.1 50 19)) else (0 : Int32).toInt64)) + (v_99 (am_put (am_putL σ 63 s1.toNatClampNeg (s2 + (v_99 σ (Int32.toInt64 (σ.1 50 21))))) 64 (((x3 + 3)).toNatClampNeg) (vp_nar .boolean (if (σ.1 50 20) < 0 then (0 : Int32) else (if (σ.1 50 21) < 0 then (1 : Int32) else 0)))) (if (σ.1 50 22) < 0 then (Int32.toInt64 (σ.1 50 22)) else (0 : Int32).toInt64)))) x1 x2 x3 (x3 + 3) (v_99 (am_putL (am_put (am_putL σ 63 s1.toNatClampNeg (s2 + (v_99 σ (Int32.toInt64 (σ.1 50 21))))) 64 (((x3 + 3)).toNatClampNeg) (vp_nar .boolean (if (σ.1 50 20) < 0 then (0 : Int32) else (if (σ.1 50 21) < 0 then (1 : Int32) else 0)))) 62 (((x3 + 3)).toNatClampNeg) ((v_99 (am_put (am_putL σ 63 s1.toNatClampNeg (s2 + (v_99 σ (Int32.toInt64 (σ.1 50 21))))) 64 (((x3 + 3)).toNatClampNeg) (vp_nar .boolean (if (σ.1 50 20) < 0 then (0 : Int32) else (if (σ.1 50 21) < 0 then (1 : Int32) else 0)))) (if 0 < (σ.1 50 19) then (Int32.toInt64 (σ.1 50 19)) else (0 : Int32).toInt64)) + (v_99 (am_put (am_putL σ 63 s1.toNatClampNeg (s2 + (v_99 σ (Int32.toInt64 (σ.1 50 21))))) 64 (((x3 + 3)).toNatClampNeg) (vp_nar .boolean (if (σ.1 50 20) < 0 then (0 : Int32) else (if (σ.1 50 21) < 0 then (1 : Int32) else 0)))) (if (σ.1 50 22) < 0 then (Int32.toInt64 (σ.1 50 22)) else (0 : Int32).toInt64)))) (Int32.toInt64 (σ.1 50 20))))))
def w_103_287 (σ : am_M) (x1 : Int32) (x2 : Int32) (x3 : Int32) (s1 : Int32) (s2 : Int64) : am_M := (w_103_386 (am_putL (am_put (am_putL σ 63 s1.toNatClampNeg (s2 + (v_99 σ (Int32.toInt64 (σ.1 50 21))))) 64 (((x3 + 3)).toNatClampNeg) (vp_nar .boolean (if (σ.1 50 20) < 0 then (0 : Int32) else (if (σ.1 50 21) < 0 then (1 : Int32) else 0)))) 62 (((x3 + 3)).toNatClampNeg) ((v_99 (am_put (am_putL σ 63 s1.toNatClampNeg (s2 + (v_99 σ (Int32.toInt64 (σ.1 50 21))))) 64 (((x3 + 3)).toNatClampNeg) (vp_nar .boolean (if (σ.1 50 20) < 0 then (0 : Int32) else (if (σ.1 50 21) < 0 then (1 : Int32) else 0)))) (if 0 < (σ.1 50 19) then (Int32.toInt64 (σ.1 50 19)) else (0 : Int32).toInt64)) + (v_99 (am_put (am_putL σ 63 s1.toNatClampNeg (s2 + (v_99 σ (Int32.toInt64 (σ.1 50 21))))) 64 (((x3 + 3)).toNatClampNeg) (vp_nar .boolean (if (σ.1 50 20) < 0 then (0 : Int32) else (if (σ.1 50 21) < 0 then (1 : Int32) else 0)))) (if (σ.1 50 22) < 0 then (Int32.toInt64 (σ.1 50 22)) else (0 : Int32).toInt64)))) x1 x2 x3 (x3 + 3) (v_99 (am_putL (am_put (am_putL σ 63 s1.toNatClampNeg (s2 + (v_99 σ (Int32.toInt64 (σ.1 50 21))))) 64 (((x3 + 3)).toNatClampNeg) (vp_nar .boolean (if (σ.1 50 20) < 0 then (0 : Int32) else (if (σ.1 50 21) < 0 then (1 : Int32) else 0)))) 62 (((x3 + 3)).toNatClampNeg) ((v_99 (am_put (am_putL σ 63 s1.toNatClampNeg (s2 + (v_99 σ (Int32.toInt64 (σ.1 50 21))))) 64 (((x3 + 3)).toNatClampNeg) (vp_nar .boolean (if (σ.1 50 20) < 0 then (0 : Int32) else (if (σ.1 50 21) < 0 then (1 : Int32) else 0)))) (if 0 < (σ.1 50 19) then (Int32.toInt64 (σ.1 50 19)) else (0 : Int32).toInt64)) + (v_99 (am_put (am_putL σ 63 s1.toNatClampNeg (s2 + (v_99 σ (Int32.toInt64 (σ.1 50 21))))) 64 (((x3 + 3)).toNatClampNeg) (vp_nar .boolean (if (σ.1 50 20) < 0 then (0 : Int32) else (if (σ.1 50 21) < 0 then (1 : Int32) else 0)))) (if (σ.1 50 22) < 0 then (Int32.toInt64 (σ.1 50 22)) else (0 : Int32).toInt64)))) (Int32.toInt64 (σ.1 50 20))))
set_option maxRecDepth 20000 in
theorem s_103_287 (L : Nat) (σ : am_M) (x1 : Int32) (x2 : Int32) (x3 : Int32) (s1 : Int32) (s2 : Int64) (h : p_103_287 σ x1 x2 x3 s1 s2) : am_r L 103 287 [some (.inr (.inr (50, none))), some (.inl x1), some (.inl x2), some (.inl x3)] [.inr (.inl s2), .inl s1, .inr (.inr (63, none))] σ = some (none, am_sh0 L, w_103_287 σ x1 x2 x3 s1 s2) := by
  unfold p_103_287 at h
  unfold w_103_287
  refine (e_103_287 _ _ _ _ _ _ _).trans ?_
  refine (am_bind_j (s_99 L σ (Int32.toInt64 (σ.1 50 21)))).trans ?_
  refine (e_103_295 _ _ _ _ _ _ _ _).trans ?_
  refine (if_neg h.1).trans ?_
  refine Eq.trans (b := am_r L 103 323 [some (.inr (.inr (50, none))), some (.inl x1), some (.inl x2), some (.inl x3)] [.inl (if (σ.1 50 20) < 0 then (0 : Int32) else (if (σ.1 50 21) < 0 then (1 : Int32) else 0)), .inl (x3 + 3), .inr (.inr (64, none))] (am_putL σ 63 s1.toNatClampNeg (s2 + (v_99 σ (Int32.toInt64 (σ.1 50 21)))))) ?_ ?_
  · by_cases hc347 : (σ.1 50 20) < 0
    · simp only [if_pos hc347]
      all_goals
        refine (e_103_322 _ _ _ _ _ _).trans ?_
        rfl
    · simp only [if_neg hc347]
      all_goals
        refine Eq.trans (b := am_r L 103 323 [some (.inr (.inr (50, none))), some (.inl x1), some (.inl x2), some (.inl x3)] [.inl (if (σ.1 50 21) < 0 then (1 : Int32) else 0), .inl (x3 + 3), .inr (.inr (64, none))] (am_putL σ 63 s1.toNatClampNeg (s2 + (v_99 σ (Int32.toInt64 (σ.1 50 21)))))) ?_ ?_
        · by_cases hc348 : (σ.1 50 21) < 0
          · simp only [if_pos hc348]
            all_goals
              rfl
          · simp only [if_neg hc348]
            all_goals
              refine (e_103_322 _ _ _ _ _ _).trans ?_
              rfl
        rfl
  refine (e_103_323 _ _ _ _ _ _ _).trans ?_
  refine (if_neg h.2.1).trans ?_
  refine Eq.trans (b := am_r L 103 347 [some (.inr (.inr (50, none))), some (.inl x1), some (.inl x2), some (.inl x3)] [.inr (.inl (if 0 < (σ.1 50 19) then (Int32.toInt64 (σ.1 50 19)) else (0 : Int32).toInt64)), .inl (x3 + 3), .inr (.inr (62, none))] (am_put (am_putL σ 63 s1.toNatClampNeg (s2 + (v_99 σ (Int32.toInt64 (σ.1 50 21))))) 64 (((x3 + 3)).toNatClampNeg) (vp_nar .boolean (if (σ.1 50 20) < 0 then (0 : Int32) else (if (σ.1 50 21) < 0 then (1 : Int32) else 0))))) ?_ ?_
  · by_cases hc349 : 0 < (σ.1 50 19)
    · simp only [if_pos hc349]
      all_goals
        rfl
    · simp only [if_neg hc349]
      all_goals
        refine (e_103_346 _ _ _ _ _ _).trans ?_
        rfl
  refine (e_103_347 _ _ _ _ _ _ _).trans ?_
  refine (am_bind_j (s_99 L (am_put (am_putL σ 63 s1.toNatClampNeg (s2 + (v_99 σ (Int32.toInt64 (σ.1 50 21))))) 64 (((x3 + 3)).toNatClampNeg) (vp_nar .boolean (if (σ.1 50 20) < 0 then (0 : Int32) else (if (σ.1 50 21) < 0 then (1 : Int32) else 0)))) (if 0 < (σ.1 50 19) then (Int32.toInt64 (σ.1 50 19)) else (0 : Int32).toInt64))).trans ?_
  refine (e_103_350 _ _ _ _ _ _ _).trans ?_
  refine Eq.trans (b := am_r L 103 366 [some (.inr (.inr (50, none))), some (.inl x1), some (.inl x2), some (.inl x3)] [.inr (.inl (if (σ.1 50 22) < 0 then (Int32.toInt64 (σ.1 50 22)) else (0 : Int32).toInt64)), .inr (.inl (v_99 (am_put (am_putL σ 63 s1.toNatClampNeg (s2 + (v_99 σ (Int32.toInt64 (σ.1 50 21))))) 64 (((x3 + 3)).toNatClampNeg) (vp_nar .boolean (if (σ.1 50 20) < 0 then (0 : Int32) else (if (σ.1 50 21) < 0 then (1 : Int32) else 0)))) (if 0 < (σ.1 50 19) then (Int32.toInt64 (σ.1 50 19)) else (0 : Int32).toInt64))), .inl (x3 + 3), .inr (.inr (62, none))] (am_put (am_putL σ 63 s1.toNatClampNeg (s2 + (v_99 σ (Int32.toInt64 (σ.1 50 21))))) 64 (((x3 + 3)).toNatClampNeg) (vp_nar .boolean (if (σ.1 50 20) < 0 then (0 : Int32) else (if (σ.1 50 21) < 0 then (1 : Int32) else 0))))) ?_ ?_
  · by_cases hc350 : (σ.1 50 22) < 0
    · simp only [if_pos hc350]
      all_goals
        rfl
    · simp only [if_neg hc350]
      all_goals
        refine (e_103_365 _ _ _ _ _ _ _).trans ?_
        rfl
  refine (e_103_366 _ _ _ _ _ _ _ _).trans ?_
  refine (am_bind_j (s_99 L (am_put (am_putL σ 63 s1.toNatClampNeg (s2 + (v_99 σ (Int32.toInt64 (σ.1 50 21))))) 64 (((x3 + 3)).toNatClampNeg) (vp_nar .boolean (if (σ.1 50 20) < 0 then (0 : Int32) else (if (σ.1 50 21) < 0 then (1 : Int32) else 0)))) (if (σ.1 50 22) < 0 then (Int32.toInt64 (σ.1 50 22)) else (0 : Int32).toInt64))).trans ?_
  refine (e_103_369 _ _ _ _ _ _ _ _).trans ?_
  refine (if_neg h.2.2.1).trans ?_
  refine (am_bind_j (s_99 L (am_putL (am_put (am_putL σ 63 s1.toNatClampNeg (s2 + (v_99 σ (Int32.toInt64 (σ.1 50 21))))) 64 (((x3 + 3)).toNatClampNeg) (vp_nar .boolean (if (σ.1 50 20) < 0 then (0 : Int32) else (if (σ.1 50 21) < 0 then (1 : Int32) else 0)))) 62 (((x3 + 3)).toNatClampNeg) ((v_99 (am_put (am_putL σ 63 s1.toNatClampNeg (s2 + (v_99 σ (Int32.toInt64 (σ.1 50 21))))) 64 (((x3 + 3)).toNatClampNeg) (vp_nar .boolean (if (σ.1 50 20) < 0 then (0 : Int32) else (if (σ.1 50 21) < 0 then (1 : Int32) else 0)))) (if 0 < (σ.1 50 19) then (Int32.toInt64 (σ.1 50 19)) else (0 : Int32).toInt64)) + (v_99 (am_put (am_putL σ 63 s1.toNatClampNeg (s2 + (v_99 σ (Int32.toInt64 (σ.1 50 21))))) 64 (((x3 + 3)).toNatClampNeg) (vp_nar .boolean (if (σ.1 50 20) < 0 then (0 : Int32) else (if (σ.1 50 21) < 0 then (1 : Int32) else 0)))) (if (σ.1 50 22) < 0 then (Int32.toInt64 (σ.1 50 22)) else (0 : Int32).toInt64)))) (Int32.toInt64 (σ.1 50 20)))).trans ?_
  exact s_103_386 L (am_putL (am_put (am_putL σ 63 s1.toNatClampNeg (s2 + (v_99 σ (Int32.toInt64 (σ.1 50 21))))) 64 (((x3 + 3)).toNatClampNeg) (vp_nar .boolean (if (σ.1 50 20) < 0 then (0 : Int32) else (if (σ.1 50 21) < 0 then (1 : Int32) else 0)))) 62 (((x3 + 3)).toNatClampNeg) ((v_99 (am_put (am_putL σ 63 s1.toNatClampNeg (s2 + (v_99 σ (Int32.toInt64 (σ.1 50 21))))) 64 (((x3 + 3)).toNatClampNeg) (vp_nar .boolean (if (σ.1 50 20) < 0 then (0 : Int32) else (if (σ.1 50 21) < 0 then (1 : Int32) else 0)))) (if 0 < (σ.1 50 19) then (Int32.toInt64 (σ.1 50 19)) else (0 : Int32).toInt64)) + (v_99 (am_put (am_putL σ 63 s1.toNatClampNeg (s2 + (v_99 σ (Int32.toInt64 (σ.1 50 21))))) 64 (((x3 + 3)).toNatClampNeg) (vp_nar .boolean (if (σ.1 50 20) < 0 then (0 : Int32) else (if (σ.1 50 21) < 0 then (1 : Int32) else 0)))) (if (σ.1 50 22) < 0 then (Int32.toInt64 (σ.1 50 22)) else (0 : Int32).toInt64)))) x1 x2 x3 (x3 + 3) (v_99 (am_putL (am_put (am_putL σ 63 s1.toNatClampNeg (s2 + (v_99 σ (Int32.toInt64 (σ.1 50 21))))) 64 (((x3 + 3)).toNatClampNeg) (vp_nar .boolean (if (σ.1 50 20) < 0 then (0 : Int32) else (if (σ.1 50 21) < 0 then (1 : Int32) else 0)))) 62 (((x3 + 3)).toNatClampNeg) ((v_99 (am_put (am_putL σ 63 s1.toNatClampNeg (s2 + (v_99 σ (Int32.toInt64 (σ.1 50 21))))) 64 (((x3 + 3)).toNatClampNeg) (vp_nar .boolean (if (σ.1 50 20) < 0 then (0 : Int32) else (if (σ.1 50 21) < 0 then (1 : Int32) else 0)))) (if 0 < (σ.1 50 19) then (Int32.toInt64 (σ.1 50 19)) else (0 : Int32).toInt64)) + (v_99 (am_put (am_putL σ 63 s1.toNatClampNeg (s2 + (v_99 σ (Int32.toInt64 (σ.1 50 21))))) 64 (((x3 + 3)).toNatClampNeg) (vp_nar .boolean (if (σ.1 50 20) < 0 then (0 : Int32) else (if (σ.1 50 21) < 0 then (1 : Int32) else 0)))) (if (σ.1 50 22) < 0 then (Int32.toInt64 (σ.1 50 22)) else (0 : Int32).toInt64)))) (Int32.toInt64 (σ.1 50 20))) h.2.2.2
def p_103_188 (σ : am_M) (x1 : Int32) (x2 : Int32) (x3 : Int32) (s1 : Int32) (s2 : Int64) : Prop := (¬ (s1 < 0 ∨ 8 ≤ s1.toNatClampNeg)) ∧ ((¬ ((x3 + 2) < 0 ∨ 8 ≤ ((x3 + 2)).toNatClampNeg)) ∧ ((¬ ((x3 + 2) < 0 ∨ 8 ≤ ((x3 + 2)).toNatClampNeg)) ∧ (p_103_287 (am_putL (am_put (am_putL σ 63 s1.toNatClampNeg (s2 + (v_99 σ (Int32.toInt64 (σ.1 50 22))))) 64 (((x3 + 2)).toNatClampNeg) (vp_nar .boolean (if (σ.1 50 19) < 0 then ((if 0 < (σ.1 50 21) then (0 : Int32) else 1) : Int32) else 0))) 62 (((x3 + 2)).toNatClampNeg) ((v_99 (am_put (am_putL σ 63 s1.toNatClampNeg (s2 + (v_99 σ (Int32.toInt64 (σ.1 50 22))))) 64 (((x3 + 2)).toNatClampNeg) (vp_nar .boolean (if (σ.1 50 19) < 0 then ((if 0 < (σ.1 50 21) then (0 : Int32) else 1) : Int32) else 0))) (if (σ.1 50 20) < 0 then (Int32.toInt64 (σ.1 50 20)) else (0 : Int32).toInt64)) + (v_99 (am_put (am_putL σ 63 s1.toNatClampNeg (s2 + (v_99 σ (Int32.toInt64 (σ.1 50 22))))) 64 (((x3 + 2)).toNatClampNeg) (vp_nar .boolean (if (σ.1 50 19) < 0 then ((if 0 < (σ.1 50 21) then (0 : Int32) else 1) : Int32) else 0))) (if (σ.1 50 22) < 0 then (Int32.toInt64 (σ.1 50 22)) else (0 : Int32).toInt64)))) x1 x2 x3 (x3 + 2) (v_99 (am_putL (am_put (am_putL σ 63 s1.toNatClampNeg (s2 + (v_99 σ (Int32.toInt64 (σ.1 50 22))))) 64 (((x3 + 2)).toNatClampNeg) (vp_nar .boolean (if (σ.1 50 19) < 0 then ((if 0 < (σ.1 50 21) then (0 : Int32) else 1) : Int32) else 0))) 62 (((x3 + 2)).toNatClampNeg) ((v_99 (am_put (am_putL σ 63 s1.toNatClampNeg (s2 + (v_99 σ (Int32.toInt64 (σ.1 50 22))))) 64 (((x3 + 2)).toNatClampNeg) (vp_nar .boolean (if (σ.1 50 19) < 0 then ((if 0 < (σ.1 50 21) then (0 : Int32) else 1) : Int32) else 0))) (if (σ.1 50 20) < 0 then (Int32.toInt64 (σ.1 50 20)) else (0 : Int32).toInt64)) + (v_99 (am_put (am_putL σ 63 s1.toNatClampNeg (s2 + (v_99 σ (Int32.toInt64 (σ.1 50 22))))) 64 (((x3 + 2)).toNatClampNeg) (vp_nar .boolean (if (σ.1 50 19) < 0 then ((if 0 < (σ.1 50 21) then (0 : Int32) else 1) : Int32) else 0))) (if (σ.1 50 22) < 0 then (Int32.toInt64 (σ.1 50 22)) else (0 : Int32).toInt64)))) (Int32.toInt64 (σ.1 50 19))))))
def w_103_188 (σ : am_M) (x1 : Int32) (x2 : Int32) (x3 : Int32) (s1 : Int32) (s2 : Int64) : am_M := (w_103_287 (am_putL (am_put (am_putL σ 63 s1.toNatClampNeg (s2 + (v_99 σ (Int32.toInt64 (σ.1 50 22))))) 64 (((x3 + 2)).toNatClampNeg) (vp_nar .boolean (if (σ.1 50 19) < 0 then ((if 0 < (σ.1 50 21) then (0 : Int32) else 1) : Int32) else 0))) 62 (((x3 + 2)).toNatClampNeg) ((v_99 (am_put (am_putL σ 63 s1.toNatClampNeg (s2 + (v_99 σ (Int32.toInt64 (σ.1 50 22))))) 64 (((x3 + 2)).toNatClampNeg) (vp_nar .boolean (if (σ.1 50 19) < 0 then ((if 0 < (σ.1 50 21) then (0 : Int32) else 1) : Int32) else 0))) (if (σ.1 50 20) < 0 then (Int32.toInt64 (σ.1 50 20)) else (0 : Int32).toInt64)) + (v_99 (am_put (am_putL σ 63 s1.toNatClampNeg (s2 + (v_99 σ (Int32.toInt64 (σ.1 50 22))))) 64 (((x3 + 2)).toNatClampNeg) (vp_nar .boolean (if (σ.1 50 19) < 0 then ((if 0 < (σ.1 50 21) then (0 : Int32) else 1) : Int32) else 0))) (if (σ.1 50 22) < 0 then (Int32.toInt64 (σ.1 50 22)) else (0 : Int32).toInt64)))) x1 x2 x3 (x3 + 2) (v_99 (am_putL (am_put (am_putL σ 63 s1.toNatClampNeg (s2 + (v_99 σ (Int32.toInt64 (σ.1 50 22))))) 64 (((x3 + 2)).toNatClampNeg) (vp_nar .boolean (if (σ.1 50 19) < 0 then ((if 0 < (σ.1 50 21) then (0 : Int32) else 1) : Int32) else 0))) 62 (((x3 + 2)).toNatClampNeg) ((v_99 (am_put (am_putL σ 63 s1.toNatClampNeg (s2 + (v_99 σ (Int32.toInt64 (σ.1 50 22))))) 64 (((x3 + 2)).toNatClampNeg) (vp_nar .boolean (if (σ.1 50 19) < 0 then ((if 0 < (σ.1 50 21) then (0 : Int32) else 1) : Int32) else 0))) (if (σ.1 50 20) < 0 then (Int32.toInt64 (σ.1 50 20)) else (0 : Int32).toInt64)) + (v_99 (am_put (am_putL σ 63 s1.toNatClampNeg (s2 + (v_99 σ (Int32.toInt64 (σ.1 50 22))))) 64 (((x3 + 2)).toNatClampNeg) (vp_nar .boolean (if (σ.1 50 19) < 0 then ((if 0 < (σ.1 50 21) then (0 : Int32) else 1) : Int32) else 0))) (if (σ.1 50 22) < 0 then (Int32.toInt64 (σ.1 50 22)) else (0 : Int32).toInt64)))) (Int32.toInt64 (σ.1 50 19))))
set_option maxRecDepth 20000 in
theorem s_103_188 (L : Nat) (σ : am_M) (x1 : Int32) (x2 : Int32) (x3 : Int32) (s1 : Int32) (s2 : Int64) (h : p_103_188 σ x1 x2 x3 s1 s2) : am_r L 103 188 [some (.inr (.inr (50, none))), some (.inl x1), some (.inl x2), some (.inl x3)] [.inr (.inl s2), .inl s1, .inr (.inr (63, none))] σ = some (none, am_sh0 L, w_103_188 σ x1 x2 x3 s1 s2) := by
  unfold p_103_188 at h
  unfold w_103_188
  refine (e_103_188 _ _ _ _ _ _ _).trans ?_
  refine (am_bind_j (s_99 L σ (Int32.toInt64 (σ.1 50 22)))).trans ?_
  refine (e_103_196 _ _ _ _ _ _ _ _).trans ?_
  refine (if_neg h.1).trans ?_
  refine Eq.trans (b := am_r L 103 224 [some (.inr (.inr (50, none))), some (.inl x1), some (.inl x2), some (.inl x3)] [.inl (if (σ.1 50 19) < 0 then ((if 0 < (σ.1 50 21) then (0 : Int32) else 1) : Int32) else 0), .inl (x3 + 2), .inr (.inr (64, none))] (am_putL σ 63 s1.toNatClampNeg (s2 + (v_99 σ (Int32.toInt64 (σ.1 50 22)))))) ?_ ?_
  · by_cases hc351 : (σ.1 50 19) < 0
    · simp only [if_pos hc351]
      all_goals
        refine Eq.trans (b := am_r L 103 224 [some (.inr (.inr (50, none))), some (.inl x1), some (.inl x2), some (.inl x3)] [.inl (if 0 < (σ.1 50 21) then (0 : Int32) else 1), .inl (x3 + 2), .inr (.inr (64, none))] (am_putL σ 63 s1.toNatClampNeg (s2 + (v_99 σ (Int32.toInt64 (σ.1 50 22)))))) ?_ ?_
        · by_cases hc352 : 0 < (σ.1 50 21)
          · simp only [if_pos hc352]
            all_goals
              refine (e_103_223 _ _ _ _ _ _).trans ?_
              rfl
          · simp only [if_neg hc352]
            all_goals
              rfl
        rfl
    · simp only [if_neg hc351]
      all_goals
        refine (e_103_223 _ _ _ _ _ _).trans ?_
        rfl
  refine (e_103_224 _ _ _ _ _ _ _).trans ?_
  refine (if_neg h.2.1).trans ?_
  refine Eq.trans (b := am_r L 103 248 [some (.inr (.inr (50, none))), some (.inl x1), some (.inl x2), some (.inl x3)] [.inr (.inl (if (σ.1 50 20) < 0 then (Int32.toInt64 (σ.1 50 20)) else (0 : Int32).toInt64)), .inl (x3 + 2), .inr (.inr (62, none))] (am_put (am_putL σ 63 s1.toNatClampNeg (s2 + (v_99 σ (Int32.toInt64 (σ.1 50 22))))) 64 (((x3 + 2)).toNatClampNeg) (vp_nar .boolean (if (σ.1 50 19) < 0 then ((if 0 < (σ.1 50 21) then (0 : Int32) else 1) : Int32) else 0)))) ?_ ?_
  · by_cases hc353 : (σ.1 50 20) < 0
    · simp only [if_pos hc353]
      all_goals
        rfl
    · simp only [if_neg hc353]
      all_goals
        refine (e_103_247 _ _ _ _ _ _).trans ?_
        rfl
  refine (e_103_248 _ _ _ _ _ _ _).trans ?_
  refine (am_bind_j (s_99 L (am_put (am_putL σ 63 s1.toNatClampNeg (s2 + (v_99 σ (Int32.toInt64 (σ.1 50 22))))) 64 (((x3 + 2)).toNatClampNeg) (vp_nar .boolean (if (σ.1 50 19) < 0 then ((if 0 < (σ.1 50 21) then (0 : Int32) else 1) : Int32) else 0))) (if (σ.1 50 20) < 0 then (Int32.toInt64 (σ.1 50 20)) else (0 : Int32).toInt64))).trans ?_
  refine (e_103_251 _ _ _ _ _ _ _).trans ?_
  refine Eq.trans (b := am_r L 103 267 [some (.inr (.inr (50, none))), some (.inl x1), some (.inl x2), some (.inl x3)] [.inr (.inl (if (σ.1 50 22) < 0 then (Int32.toInt64 (σ.1 50 22)) else (0 : Int32).toInt64)), .inr (.inl (v_99 (am_put (am_putL σ 63 s1.toNatClampNeg (s2 + (v_99 σ (Int32.toInt64 (σ.1 50 22))))) 64 (((x3 + 2)).toNatClampNeg) (vp_nar .boolean (if (σ.1 50 19) < 0 then ((if 0 < (σ.1 50 21) then (0 : Int32) else 1) : Int32) else 0))) (if (σ.1 50 20) < 0 then (Int32.toInt64 (σ.1 50 20)) else (0 : Int32).toInt64))), .inl (x3 + 2), .inr (.inr (62, none))] (am_put (am_putL σ 63 s1.toNatClampNeg (s2 + (v_99 σ (Int32.toInt64 (σ.1 50 22))))) 64 (((x3 + 2)).toNatClampNeg) (vp_nar .boolean (if (σ.1 50 19) < 0 then ((if 0 < (σ.1 50 21) then (0 : Int32) else 1) : Int32) else 0)))) ?_ ?_
  · by_cases hc354 : (σ.1 50 22) < 0
    · simp only [if_pos hc354]
      all_goals
        rfl
    · simp only [if_neg hc354]
      all_goals
        refine (e_103_266 _ _ _ _ _ _ _).trans ?_
        rfl
  refine (e_103_267 _ _ _ _ _ _ _ _).trans ?_
  refine (am_bind_j (s_99 L (am_put (am_putL σ 63 s1.toNatClampNeg (s2 + (v_99 σ (Int32.toInt64 (σ.1 50 22))))) 64 (((x3 + 2)).toNatClampNeg) (vp_nar .boolean (if (σ.1 50 19) < 0 then ((if 0 < (σ.1 50 21) then (0 : Int32) else 1) : Int32) else 0))) (if (σ.1 50 22) < 0 then (Int32.toInt64 (σ.1 50 22)) else (0 : Int32).toInt64))).trans ?_
  refine (e_103_270 _ _ _ _ _ _ _ _).trans ?_
  refine (if_neg h.2.2.1).trans ?_
  refine (am_bind_j (s_99 L (am_putL (am_put (am_putL σ 63 s1.toNatClampNeg (s2 + (v_99 σ (Int32.toInt64 (σ.1 50 22))))) 64 (((x3 + 2)).toNatClampNeg) (vp_nar .boolean (if (σ.1 50 19) < 0 then ((if 0 < (σ.1 50 21) then (0 : Int32) else 1) : Int32) else 0))) 62 (((x3 + 2)).toNatClampNeg) ((v_99 (am_put (am_putL σ 63 s1.toNatClampNeg (s2 + (v_99 σ (Int32.toInt64 (σ.1 50 22))))) 64 (((x3 + 2)).toNatClampNeg) (vp_nar .boolean (if (σ.1 50 19) < 0 then ((if 0 < (σ.1 50 21) then (0 : Int32) else 1) : Int32) else 0))) (if (σ.1 50 20) < 0 then (Int32.toInt64 (σ.1 50 20)) else (0 : Int32).toInt64)) + (v_99 (am_put (am_putL σ 63 s1.toNatClampNeg (s2 + (v_99 σ (Int32.toInt64 (σ.1 50 22))))) 64 (((x3 + 2)).toNatClampNeg) (vp_nar .boolean (if (σ.1 50 19) < 0 then ((if 0 < (σ.1 50 21) then (0 : Int32) else 1) : Int32) else 0))) (if (σ.1 50 22) < 0 then (Int32.toInt64 (σ.1 50 22)) else (0 : Int32).toInt64)))) (Int32.toInt64 (σ.1 50 19)))).trans ?_
  exact s_103_287 L (am_putL (am_put (am_putL σ 63 s1.toNatClampNeg (s2 + (v_99 σ (Int32.toInt64 (σ.1 50 22))))) 64 (((x3 + 2)).toNatClampNeg) (vp_nar .boolean (if (σ.1 50 19) < 0 then ((if 0 < (σ.1 50 21) then (0 : Int32) else 1) : Int32) else 0))) 62 (((x3 + 2)).toNatClampNeg) ((v_99 (am_put (am_putL σ 63 s1.toNatClampNeg (s2 + (v_99 σ (Int32.toInt64 (σ.1 50 22))))) 64 (((x3 + 2)).toNatClampNeg) (vp_nar .boolean (if (σ.1 50 19) < 0 then ((if 0 < (σ.1 50 21) then (0 : Int32) else 1) : Int32) else 0))) (if (σ.1 50 20) < 0 then (Int32.toInt64 (σ.1 50 20)) else (0 : Int32).toInt64)) + (v_99 (am_put (am_putL σ 63 s1.toNatClampNeg (s2 + (v_99 σ (Int32.toInt64 (σ.1 50 22))))) 64 (((x3 + 2)).toNatClampNeg) (vp_nar .boolean (if (σ.1 50 19) < 0 then ((if 0 < (σ.1 50 21) then (0 : Int32) else 1) : Int32) else 0))) (if (σ.1 50 22) < 0 then (Int32.toInt64 (σ.1 50 22)) else (0 : Int32).toInt64)))) x1 x2 x3 (x3 + 2) (v_99 (am_putL (am_put (am_putL σ 63 s1.toNatClampNeg (s2 + (v_99 σ (Int32.toInt64 (σ.1 50 22))))) 64 (((x3 + 2)).toNatClampNeg) (vp_nar .boolean (if (σ.1 50 19) < 0 then ((if 0 < (σ.1 50 21) then (0 : Int32) else 1) : Int32) else 0))) 62 (((x3 + 2)).toNatClampNeg) ((v_99 (am_put (am_putL σ 63 s1.toNatClampNeg (s2 + (v_99 σ (Int32.toInt64 (σ.1 50 22))))) 64 (((x3 + 2)).toNatClampNeg) (vp_nar .boolean (if (σ.1 50 19) < 0 then ((if 0 < (σ.1 50 21) then (0 : Int32) else 1) : Int32) else 0))) (if (σ.1 50 20) < 0 then (Int32.toInt64 (σ.1 50 20)) else (0 : Int32).toInt64)) + (v_99 (am_put (am_putL σ 63 s1.toNatClampNeg (s2 + (v_99 σ (Int32.toInt64 (σ.1 50 22))))) 64 (((x3 + 2)).toNatClampNeg) (vp_nar .boolean (if (σ.1 50 19) < 0 then ((if 0 < (σ.1 50 21) then (0 : Int32) else 1) : Int32) else 0))) (if (σ.1 50 22) < 0 then (Int32.toInt64 (σ.1 50 22)) else (0 : Int32).toInt64)))) (Int32.toInt64 (σ.1 50 19))) h.2.2.2
def p_103_89 (σ : am_M) (x1 : Int32) (x2 : Int32) (x3 : Int32) (s1 : Int32) (s2 : Int64) : Prop := (¬ (s1 < 0 ∨ 8 ≤ s1.toNatClampNeg)) ∧ ((¬ ((x3 + 1) < 0 ∨ 8 ≤ ((x3 + 1)).toNatClampNeg)) ∧ ((¬ ((x3 + 1) < 0 ∨ 8 ≤ ((x3 + 1)).toNatClampNeg)) ∧ (p_103_188 (am_putL (am_put (am_putL σ 63 s1.toNatClampNeg (s2 + (v_99 σ (Int32.toInt64 (σ.1 50 22))))) 64 (((x3 + 1)).toNatClampNeg) (vp_nar .boolean (if 0 < (σ.1 50 19) then (0 : Int32) else (if 0 < (σ.1 50 22) then (1 : Int32) else 0)))) 62 (((x3 + 1)).toNatClampNeg) ((v_99 (am_put (am_putL σ 63 s1.toNatClampNeg (s2 + (v_99 σ (Int32.toInt64 (σ.1 50 22))))) 64 (((x3 + 1)).toNatClampNeg) (vp_nar .boolean (if 0 < (σ.1 50 19) then (0 : Int32) else (if 0 < (σ.1 50 22) then (1 : Int32) else 0)))) (if (σ.1 50 20) < 0 then (Int32.toInt64 (σ.1 50 20)) else (0 : Int32).toInt64)) + (v_99 (am_put (am_putL σ 63 s1.toNatClampNeg (s2 + (v_99 σ (Int32.toInt64 (σ.1 50 22))))) 64 (((x3 + 1)).toNatClampNeg) (vp_nar .boolean (if 0 < (σ.1 50 19) then (0 : Int32) else (if 0 < (σ.1 50 22) then (1 : Int32) else 0)))) (if 0 < (σ.1 50 21) then (Int32.toInt64 (σ.1 50 21)) else (0 : Int32).toInt64)))) x1 x2 x3 (x3 + 1) (v_99 (am_putL (am_put (am_putL σ 63 s1.toNatClampNeg (s2 + (v_99 σ (Int32.toInt64 (σ.1 50 22))))) 64 (((x3 + 1)).toNatClampNeg) (vp_nar .boolean (if 0 < (σ.1 50 19) then (0 : Int32) else (if 0 < (σ.1 50 22) then (1 : Int32) else 0)))) 62 (((x3 + 1)).toNatClampNeg) ((v_99 (am_put (am_putL σ 63 s1.toNatClampNeg (s2 + (v_99 σ (Int32.toInt64 (σ.1 50 22))))) 64 (((x3 + 1)).toNatClampNeg) (vp_nar .boolean (if 0 < (σ.1 50 19) then (0 : Int32) else (if 0 < (σ.1 50 22) then (1 : Int32) else 0)))) (if (σ.1 50 20) < 0 then (Int32.toInt64 (σ.1 50 20)) else (0 : Int32).toInt64)) + (v_99 (am_put (am_putL σ 63 s1.toNatClampNeg (s2 + (v_99 σ (Int32.toInt64 (σ.1 50 22))))) 64 (((x3 + 1)).toNatClampNeg) (vp_nar .boolean (if 0 < (σ.1 50 19) then (0 : Int32) else (if 0 < (σ.1 50 22) then (1 : Int32) else 0)))) (if 0 < (σ.1 50 21) then (Int32.toInt64 (σ.1 50 21)) else (0 : Int32).toInt64)))) (Int32.toInt64 (σ.1 50 19))))))
def w_103_89 (σ : am_M) (x1 : Int32) (x2 : Int32) (x3 : Int32) (s1 : Int32) (s2 : Int64) : am_M := (w_103_188 (am_putL (am_put (am_putL σ 63 s1.toNatClampNeg (s2 + (v_99 σ (Int32.toInt64 (σ.1 50 22))))) 64 (((x3 + 1)).toNatClampNeg) (vp_nar .boolean (if 0 < (σ.1 50 19) then (0 : Int32) else (if 0 < (σ.1 50 22) then (1 : Int32) else 0)))) 62 (((x3 + 1)).toNatClampNeg) ((v_99 (am_put (am_putL σ 63 s1.toNatClampNeg (s2 + (v_99 σ (Int32.toInt64 (σ.1 50 22))))) 64 (((x3 + 1)).toNatClampNeg) (vp_nar .boolean (if 0 < (σ.1 50 19) then (0 : Int32) else (if 0 < (σ.1 50 22) then (1 : Int32) else 0)))) (if (σ.1 50 20) < 0 then (Int32.toInt64 (σ.1 50 20)) else (0 : Int32).toInt64)) + (v_99 (am_put (am_putL σ 63 s1.toNatClampNeg (s2 + (v_99 σ (Int32.toInt64 (σ.1 50 22))))) 64 (((x3 + 1)).toNatClampNeg) (vp_nar .boolean (if 0 < (σ.1 50 19) then (0 : Int32) else (if 0 < (σ.1 50 22) then (1 : Int32) else 0)))) (if 0 < (σ.1 50 21) then (Int32.toInt64 (σ.1 50 21)) else (0 : Int32).toInt64)))) x1 x2 x3 (x3 + 1) (v_99 (am_putL (am_put (am_putL σ 63 s1.toNatClampNeg (s2 + (v_99 σ (Int32.toInt64 (σ.1 50 22))))) 64 (((x3 + 1)).toNatClampNeg) (vp_nar .boolean (if 0 < (σ.1 50 19) then (0 : Int32) else (if 0 < (σ.1 50 22) then (1 : Int32) else 0)))) 62 (((x3 + 1)).toNatClampNeg) ((v_99 (am_put (am_putL σ 63 s1.toNatClampNeg (s2 + (v_99 σ (Int32.toInt64 (σ.1 50 22))))) 64 (((x3 + 1)).toNatClampNeg) (vp_nar .boolean (if 0 < (σ.1 50 19) then (0 : Int32) else (if 0 < (σ.1 50 22) then (1 : Int32) else 0)))) (if (σ.1 50 20) < 0 then (Int32.toInt64 (σ.1 50 20)) else (0 : Int32).toInt64)) + (v_99 (am_put (am_putL σ 63 s1.toNatClampNeg (s2 + (v_99 σ (Int32.toInt64 (σ.1 50 22))))) 64 (((x3 + 1)).toNatClampNeg) (vp_nar .boolean (if 0 < (σ.1 50 19) then (0 : Int32) else (if 0 < (σ.1 50 22) then (1 : Int32) else 0)))) (if 0 < (σ.1 50 21) then (Int32.toInt64 (σ.1 50 21)) else (0 : Int32).toInt64)))) (Int32.toInt64 (σ.1 50 19))))
set_option maxRecDepth 20000 in
theorem s_103_89 (L : Nat) (σ : am_M) (x1 : Int32) (x2 : Int32) (x3 : Int32) (s1 : Int32) (s2 : Int64) (h : p_103_89 σ x1 x2 x3 s1 s2) : am_r L 103 89 [some (.inr (.inr (50, none))), some (.inl x1), some (.inl x2), some (.inl x3)] [.inr (.inl s2), .inl s1, .inr (.inr (63, none))] σ = some (none, am_sh0 L, w_103_89 σ x1 x2 x3 s1 s2) := by
  unfold p_103_89 at h
  unfold w_103_89
  refine (e_103_89 _ _ _ _ _ _ _).trans ?_
  refine (am_bind_j (s_99 L σ (Int32.toInt64 (σ.1 50 22)))).trans ?_
  refine (e_103_97 _ _ _ _ _ _ _ _).trans ?_
  refine (if_neg h.1).trans ?_
  refine Eq.trans (b := am_r L 103 125 [some (.inr (.inr (50, none))), some (.inl x1), some (.inl x2), some (.inl x3)] [.inl (if 0 < (σ.1 50 19) then (0 : Int32) else (if 0 < (σ.1 50 22) then (1 : Int32) else 0)), .inl (x3 + 1), .inr (.inr (64, none))] (am_putL σ 63 s1.toNatClampNeg (s2 + (v_99 σ (Int32.toInt64 (σ.1 50 22)))))) ?_ ?_
  · by_cases hc355 : 0 < (σ.1 50 19)
    · simp only [if_pos hc355]
      all_goals
        refine (e_103_124 _ _ _ _ _ _).trans ?_
        rfl
    · simp only [if_neg hc355]
      all_goals
        refine Eq.trans (b := am_r L 103 125 [some (.inr (.inr (50, none))), some (.inl x1), some (.inl x2), some (.inl x3)] [.inl (if 0 < (σ.1 50 22) then (1 : Int32) else 0), .inl (x3 + 1), .inr (.inr (64, none))] (am_putL σ 63 s1.toNatClampNeg (s2 + (v_99 σ (Int32.toInt64 (σ.1 50 22)))))) ?_ ?_
        · by_cases hc356 : 0 < (σ.1 50 22)
          · simp only [if_pos hc356]
            all_goals
              rfl
          · simp only [if_neg hc356]
            all_goals
              refine (e_103_124 _ _ _ _ _ _).trans ?_
              rfl
        rfl
  refine (e_103_125 _ _ _ _ _ _ _).trans ?_
  refine (if_neg h.2.1).trans ?_
  refine Eq.trans (b := am_r L 103 149 [some (.inr (.inr (50, none))), some (.inl x1), some (.inl x2), some (.inl x3)] [.inr (.inl (if (σ.1 50 20) < 0 then (Int32.toInt64 (σ.1 50 20)) else (0 : Int32).toInt64)), .inl (x3 + 1), .inr (.inr (62, none))] (am_put (am_putL σ 63 s1.toNatClampNeg (s2 + (v_99 σ (Int32.toInt64 (σ.1 50 22))))) 64 (((x3 + 1)).toNatClampNeg) (vp_nar .boolean (if 0 < (σ.1 50 19) then (0 : Int32) else (if 0 < (σ.1 50 22) then (1 : Int32) else 0))))) ?_ ?_
  · by_cases hc357 : (σ.1 50 20) < 0
    · simp only [if_pos hc357]
      all_goals
        rfl
    · simp only [if_neg hc357]
      all_goals
        refine (e_103_148 _ _ _ _ _ _).trans ?_
        rfl
  refine (e_103_149 _ _ _ _ _ _ _).trans ?_
  refine (am_bind_j (s_99 L (am_put (am_putL σ 63 s1.toNatClampNeg (s2 + (v_99 σ (Int32.toInt64 (σ.1 50 22))))) 64 (((x3 + 1)).toNatClampNeg) (vp_nar .boolean (if 0 < (σ.1 50 19) then (0 : Int32) else (if 0 < (σ.1 50 22) then (1 : Int32) else 0)))) (if (σ.1 50 20) < 0 then (Int32.toInt64 (σ.1 50 20)) else (0 : Int32).toInt64))).trans ?_
  refine (e_103_152 _ _ _ _ _ _ _).trans ?_
  refine Eq.trans (b := am_r L 103 168 [some (.inr (.inr (50, none))), some (.inl x1), some (.inl x2), some (.inl x3)] [.inr (.inl (if 0 < (σ.1 50 21) then (Int32.toInt64 (σ.1 50 21)) else (0 : Int32).toInt64)), .inr (.inl (v_99 (am_put (am_putL σ 63 s1.toNatClampNeg (s2 + (v_99 σ (Int32.toInt64 (σ.1 50 22))))) 64 (((x3 + 1)).toNatClampNeg) (vp_nar .boolean (if 0 < (σ.1 50 19) then (0 : Int32) else (if 0 < (σ.1 50 22) then (1 : Int32) else 0)))) (if (σ.1 50 20) < 0 then (Int32.toInt64 (σ.1 50 20)) else (0 : Int32).toInt64))), .inl (x3 + 1), .inr (.inr (62, none))] (am_put (am_putL σ 63 s1.toNatClampNeg (s2 + (v_99 σ (Int32.toInt64 (σ.1 50 22))))) 64 (((x3 + 1)).toNatClampNeg) (vp_nar .boolean (if 0 < (σ.1 50 19) then (0 : Int32) else (if 0 < (σ.1 50 22) then (1 : Int32) else 0))))) ?_ ?_
  · by_cases hc358 : 0 < (σ.1 50 21)
    · simp only [if_pos hc358]
      all_goals
        rfl
    · simp only [if_neg hc358]
      all_goals
        refine (e_103_167 _ _ _ _ _ _ _).trans ?_
        rfl
  refine (e_103_168 _ _ _ _ _ _ _ _).trans ?_
  refine (am_bind_j (s_99 L (am_put (am_putL σ 63 s1.toNatClampNeg (s2 + (v_99 σ (Int32.toInt64 (σ.1 50 22))))) 64 (((x3 + 1)).toNatClampNeg) (vp_nar .boolean (if 0 < (σ.1 50 19) then (0 : Int32) else (if 0 < (σ.1 50 22) then (1 : Int32) else 0)))) (if 0 < (σ.1 50 21) then (Int32.toInt64 (σ.1 50 21)) else (0 : Int32).toInt64))).trans ?_
  refine (e_103_171 _ _ _ _ _ _ _ _).trans ?_
  refine (if_neg h.2.2.1).trans ?_
  refine (am_bind_j (s_99 L (am_putL (am_put (am_putL σ 63 s1.toNatClampNeg (s2 + (v_99 σ (Int32.toInt64 (σ.1 50 22))))) 64 (((x3 + 1)).toNatClampNeg) (vp_nar .boolean (if 0 < (σ.1 50 19) then (0 : Int32) else (if 0 < (σ.1 50 22) then (1 : Int32) else 0)))) 62 (((x3 + 1)).toNatClampNeg) ((v_99 (am_put (am_putL σ 63 s1.toNatClampNeg (s2 + (v_99 σ (Int32.toInt64 (σ.1 50 22))))) 64 (((x3 + 1)).toNatClampNeg) (vp_nar .boolean (if 0 < (σ.1 50 19) then (0 : Int32) else (if 0 < (σ.1 50 22) then (1 : Int32) else 0)))) (if (σ.1 50 20) < 0 then (Int32.toInt64 (σ.1 50 20)) else (0 : Int32).toInt64)) + (v_99 (am_put (am_putL σ 63 s1.toNatClampNeg (s2 + (v_99 σ (Int32.toInt64 (σ.1 50 22))))) 64 (((x3 + 1)).toNatClampNeg) (vp_nar .boolean (if 0 < (σ.1 50 19) then (0 : Int32) else (if 0 < (σ.1 50 22) then (1 : Int32) else 0)))) (if 0 < (σ.1 50 21) then (Int32.toInt64 (σ.1 50 21)) else (0 : Int32).toInt64)))) (Int32.toInt64 (σ.1 50 19)))).trans ?_
  exact s_103_188 L (am_putL (am_put (am_putL σ 63 s1.toNatClampNeg (s2 + (v_99 σ (Int32.toInt64 (σ.1 50 22))))) 64 (((x3 + 1)).toNatClampNeg) (vp_nar .boolean (if 0 < (σ.1 50 19) then (0 : Int32) else (if 0 < (σ.1 50 22) then (1 : Int32) else 0)))) 62 (((x3 + 1)).toNatClampNeg) ((v_99 (am_put (am_putL σ 63 s1.toNatClampNeg (s2 + (v_99 σ (Int32.toInt64 (σ.1 50 22))))) 64 (((x3 + 1)).toNatClampNeg) (vp_nar .boolean (if 0 < (σ.1 50 19) then (0 : Int32) else (if 0 < (σ.1 50 22) then (1 : Int32) else 0)))) (if (σ.1 50 20) < 0 then (Int32.toInt64 (σ.1 50 20)) else (0 : Int32).toInt64)) + (v_99 (am_put (am_putL σ 63 s1.toNatClampNeg (s2 + (v_99 σ (Int32.toInt64 (σ.1 50 22))))) 64 (((x3 + 1)).toNatClampNeg) (vp_nar .boolean (if 0 < (σ.1 50 19) then (0 : Int32) else (if 0 < (σ.1 50 22) then (1 : Int32) else 0)))) (if 0 < (σ.1 50 21) then (Int32.toInt64 (σ.1 50 21)) else (0 : Int32).toInt64)))) x1 x2 x3 (x3 + 1) (v_99 (am_putL (am_put (am_putL σ 63 s1.toNatClampNeg (s2 + (v_99 σ (Int32.toInt64 (σ.1 50 22))))) 64 (((x3 + 1)).toNatClampNeg) (vp_nar .boolean (if 0 < (σ.1 50 19) then (0 : Int32) else (if 0 < (σ.1 50 22) then (1 : Int32) else 0)))) 62 (((x3 + 1)).toNatClampNeg) ((v_99 (am_put (am_putL σ 63 s1.toNatClampNeg (s2 + (v_99 σ (Int32.toInt64 (σ.1 50 22))))) 64 (((x3 + 1)).toNatClampNeg) (vp_nar .boolean (if 0 < (σ.1 50 19) then (0 : Int32) else (if 0 < (σ.1 50 22) then (1 : Int32) else 0)))) (if (σ.1 50 20) < 0 then (Int32.toInt64 (σ.1 50 20)) else (0 : Int32).toInt64)) + (v_99 (am_put (am_putL σ 63 s1.toNatClampNeg (s2 + (v_99 σ (Int32.toInt64 (σ.1 50 22))))) 64 (((x3 + 1)).toNatClampNeg) (vp_nar .boolean (if 0 < (σ.1 50 19) then (0 : Int32) else (if 0 < (σ.1 50 22) then (1 : Int32) else 0)))) (if 0 < (σ.1 50 21) then (Int32.toInt64 (σ.1 50 21)) else (0 : Int32).toInt64)))) (Int32.toInt64 (σ.1 50 19))) h.2.2.2
def p_103 (σ : am_M) (x1 : Int32) (x2 : Int32) (x3 : Int32) : Prop := (p_102 σ x1 x2) ∧ ((¬ (x3 < 0 ∨ 8 ≤ x3.toNatClampNeg)) ∧ ((¬ (x3 < 0 ∨ 8 ≤ x3.toNatClampNeg)) ∧ (p_103_89 (am_putL (am_put (w_102 σ x1 x2) 64 x3.toNatClampNeg (vp_nar .boolean (if 0 < ((w_102 σ x1 x2).1 50 20) then ((if ((w_102 σ x1 x2).1 50 22) < 0 then (0 : Int32) else 1) : Int32) else 0))) 62 x3.toNatClampNeg ((v_99 (am_put (w_102 σ x1 x2) 64 x3.toNatClampNeg (vp_nar .boolean (if 0 < ((w_102 σ x1 x2).1 50 20) then ((if ((w_102 σ x1 x2).1 50 22) < 0 then (0 : Int32) else 1) : Int32) else 0))) (if 0 < ((w_102 σ x1 x2).1 50 19) then (Int32.toInt64 ((w_102 σ x1 x2).1 50 19)) else (0 : Int32).toInt64)) + (v_99 (am_put (w_102 σ x1 x2) 64 x3.toNatClampNeg (vp_nar .boolean (if 0 < ((w_102 σ x1 x2).1 50 20) then ((if ((w_102 σ x1 x2).1 50 22) < 0 then (0 : Int32) else 1) : Int32) else 0))) (if 0 < ((w_102 σ x1 x2).1 50 21) then (Int32.toInt64 ((w_102 σ x1 x2).1 50 21)) else (0 : Int32).toInt64)))) x1 x2 x3 x3 (v_99 (am_putL (am_put (w_102 σ x1 x2) 64 x3.toNatClampNeg (vp_nar .boolean (if 0 < ((w_102 σ x1 x2).1 50 20) then ((if ((w_102 σ x1 x2).1 50 22) < 0 then (0 : Int32) else 1) : Int32) else 0))) 62 x3.toNatClampNeg ((v_99 (am_put (w_102 σ x1 x2) 64 x3.toNatClampNeg (vp_nar .boolean (if 0 < ((w_102 σ x1 x2).1 50 20) then ((if ((w_102 σ x1 x2).1 50 22) < 0 then (0 : Int32) else 1) : Int32) else 0))) (if 0 < ((w_102 σ x1 x2).1 50 19) then (Int32.toInt64 ((w_102 σ x1 x2).1 50 19)) else (0 : Int32).toInt64)) + (v_99 (am_put (w_102 σ x1 x2) 64 x3.toNatClampNeg (vp_nar .boolean (if 0 < ((w_102 σ x1 x2).1 50 20) then ((if ((w_102 σ x1 x2).1 50 22) < 0 then (0 : Int32) else 1) : Int32) else 0))) (if 0 < ((w_102 σ x1 x2).1 50 21) then (Int32.toInt64 ((w_102 σ x1 x2).1 50 21)) else (0 : Int32).toInt64)))) (Int32.toInt64 ((w_102 σ x1 x2).1 50 20))))))
def w_103 (σ : am_M) (x1 : Int32) (x2 : Int32) (x3 : Int32) : am_M := (w_103_89 (am_putL (am_put (w_102 σ x1 x2) 64 x3.toNatClampNeg (vp_nar .boolean (if 0 < ((w_102 σ x1 x2).1 50 20) then ((if ((w_102 σ x1 x2).1 50 22) < 0 then (0 : Int32) else 1) : Int32) else 0))) 62 x3.toNatClampNeg ((v_99 (am_put (w_102 σ x1 x2) 64 x3.toNatClampNeg (vp_nar .boolean (if 0 < ((w_102 σ x1 x2).1 50 20) then ((if ((w_102 σ x1 x2).1 50 22) < 0 then (0 : Int32) else 1) : Int32) else 0))) (if 0 < ((w_102 σ x1 x2).1 50 19) then (Int32.toInt64 ((w_102 σ x1 x2).1 50 19)) else (0 : Int32).toInt64)) + (v_99 (am_put (w_102 σ x1 x2) 64 x3.toNatClampNeg (vp_nar .boolean (if 0 < ((w_102 σ x1 x2).1 50 20) then ((if ((w_102 σ x1 x2).1 50 22) < 0 then (0 : Int32) else 1) : Int32) else 0))) (if 0 < ((w_102 σ x1 x2).1 50 21) then (Int32.toInt64 ((w_102 σ x1 x2).1 50 21)) else (0 : Int32).toInt64)))) x1 x2 x3 x3 (v_99 (am_putL (am_put (w_102 σ x1 x2) 64 x3.toNatClampNeg (vp_nar .boolean (if 0 < ((w_102 σ x1 x2).1 50 20) then ((if ((w_102 σ x1 x2).1 50 22) < 0 then (0 : Int32) else 1) : Int32) else 0))) 62 x3.toNatClampNeg ((v_99 (am_put (w_102 σ x1 x2) 64 x3.toNatClampNeg (vp_nar .boolean (if 0 < ((w_102 σ x1 x2).1 50 20) then ((if ((w_102 σ x1 x2).1 50 22) < 0 then (0 : Int32) else 1) : Int32) else 0))) (if 0 < ((w_102 σ x1 x2).1 50 19) then (Int32.toInt64 ((w_102 σ x1 x2).1 50 19)) else (0 : Int32).toInt64)) + (v_99 (am_put (w_102 σ x1 x2) 64 x3.toNatClampNeg (vp_nar .boolean (if 0 < ((w_102 σ x1 x2).1 50 20) then ((if ((w_102 σ x1 x2).1 50 22) < 0 then (0 : Int32) else 1) : Int32) else 0))) (if 0 < ((w_102 σ x1 x2).1 50 21) then (Int32.toInt64 ((w_102 σ x1 x2).1 50 21)) else (0 : Int32).toInt64)))) (Int32.toInt64 ((w_102 σ x1 x2).1 50 20))))
set_option maxRecDepth 20000 in
theorem s_103 (L : Nat) (σ : am_M) (x1 : Int32) (x2 : Int32) (x3 : Int32) (h : p_103 σ x1 x2 x3) : am_r L 103 0 [some (.inr (.inr (50, none))), some (.inl x1), some (.inl x2), some (.inl x3)] [] σ = some (none, am_sh0 L, w_103 σ x1 x2 x3) := by
  unfold p_103 at h
  unfold w_103
  refine (e_103_0 _ _ _ _ _).trans ?_
  refine (am_bind_v (s_102 L σ x1 x2 h.1)).trans ?_
  refine (e_103_6 _ _ _ _ _).trans ?_
  refine Eq.trans (b := am_r L 103 30 [some (.inr (.inr (50, none))), some (.inl x1), some (.inl x2), some (.inl x3)] [.inl (if 0 < ((w_102 σ x1 x2).1 50 20) then ((if ((w_102 σ x1 x2).1 50 22) < 0 then (0 : Int32) else 1) : Int32) else 0), .inl x3, .inr (.inr (64, none))] (w_102 σ x1 x2)) ?_ ?_
  · by_cases hc359 : 0 < ((w_102 σ x1 x2).1 50 20)
    · simp only [if_pos hc359]
      all_goals
        refine Eq.trans (b := am_r L 103 30 [some (.inr (.inr (50, none))), some (.inl x1), some (.inl x2), some (.inl x3)] [.inl (if ((w_102 σ x1 x2).1 50 22) < 0 then (0 : Int32) else 1), .inl x3, .inr (.inr (64, none))] (w_102 σ x1 x2)) ?_ ?_
        · by_cases hc360 : ((w_102 σ x1 x2).1 50 22) < 0
          · simp only [if_pos hc360]
            all_goals
              refine (e_103_29 _ _ _ _ _ _).trans ?_
              rfl
          · simp only [if_neg hc360]
            all_goals
              rfl
        rfl
    · simp only [if_neg hc359]
      all_goals
        refine (e_103_29 _ _ _ _ _ _).trans ?_
        rfl
  refine (e_103_30 _ _ _ _ _ _ _).trans ?_
  refine (if_neg h.2.1).trans ?_
  refine Eq.trans (b := am_r L 103 52 [some (.inr (.inr (50, none))), some (.inl x1), some (.inl x2), some (.inl x3)] [.inr (.inl (if 0 < ((w_102 σ x1 x2).1 50 19) then (Int32.toInt64 ((w_102 σ x1 x2).1 50 19)) else (0 : Int32).toInt64)), .inl x3, .inr (.inr (62, none))] (am_put (w_102 σ x1 x2) 64 x3.toNatClampNeg (vp_nar .boolean (if 0 < ((w_102 σ x1 x2).1 50 20) then ((if ((w_102 σ x1 x2).1 50 22) < 0 then (0 : Int32) else 1) : Int32) else 0)))) ?_ ?_
  · by_cases hc361 : 0 < ((w_102 σ x1 x2).1 50 19)
    · simp only [if_pos hc361]
      all_goals
        rfl
    · simp only [if_neg hc361]
      all_goals
        refine (e_103_51 _ _ _ _ _ _).trans ?_
        rfl
  refine (e_103_52 _ _ _ _ _ _ _).trans ?_
  refine (am_bind_j (s_99 L (am_put (w_102 σ x1 x2) 64 x3.toNatClampNeg (vp_nar .boolean (if 0 < ((w_102 σ x1 x2).1 50 20) then ((if ((w_102 σ x1 x2).1 50 22) < 0 then (0 : Int32) else 1) : Int32) else 0))) (if 0 < ((w_102 σ x1 x2).1 50 19) then (Int32.toInt64 ((w_102 σ x1 x2).1 50 19)) else (0 : Int32).toInt64))).trans ?_
  refine (e_103_55 _ _ _ _ _ _ _).trans ?_
  refine Eq.trans (b := am_r L 103 71 [some (.inr (.inr (50, none))), some (.inl x1), some (.inl x2), some (.inl x3)] [.inr (.inl (if 0 < ((w_102 σ x1 x2).1 50 21) then (Int32.toInt64 ((w_102 σ x1 x2).1 50 21)) else (0 : Int32).toInt64)), .inr (.inl (v_99 (am_put (w_102 σ x1 x2) 64 x3.toNatClampNeg (vp_nar .boolean (if 0 < ((w_102 σ x1 x2).1 50 20) then ((if ((w_102 σ x1 x2).1 50 22) < 0 then (0 : Int32) else 1) : Int32) else 0))) (if 0 < ((w_102 σ x1 x2).1 50 19) then (Int32.toInt64 ((w_102 σ x1 x2).1 50 19)) else (0 : Int32).toInt64))), .inl x3, .inr (.inr (62, none))] (am_put (w_102 σ x1 x2) 64 x3.toNatClampNeg (vp_nar .boolean (if 0 < ((w_102 σ x1 x2).1 50 20) then ((if ((w_102 σ x1 x2).1 50 22) < 0 then (0 : Int32) else 1) : Int32) else 0)))) ?_ ?_
  · by_cases hc362 : 0 < ((w_102 σ x1 x2).1 50 21)
    · simp only [if_pos hc362]
      all_goals
        rfl
    · simp only [if_neg hc362]
      all_goals
        refine (e_103_70 _ _ _ _ _ _ _).trans ?_
        rfl
  refine (e_103_71 _ _ _ _ _ _ _ _).trans ?_
  refine (am_bind_j (s_99 L (am_put (w_102 σ x1 x2) 64 x3.toNatClampNeg (vp_nar .boolean (if 0 < ((w_102 σ x1 x2).1 50 20) then ((if ((w_102 σ x1 x2).1 50 22) < 0 then (0 : Int32) else 1) : Int32) else 0))) (if 0 < ((w_102 σ x1 x2).1 50 21) then (Int32.toInt64 ((w_102 σ x1 x2).1 50 21)) else (0 : Int32).toInt64))).trans ?_
  refine (e_103_74 _ _ _ _ _ _ _ _).trans ?_
  refine (if_neg h.2.2.1).trans ?_
  refine (am_bind_j (s_99 L (am_putL (am_put (w_102 σ x1 x2) 64 x3.toNatClampNeg (vp_nar .boolean (if 0 < ((w_102 σ x1 x2).1 50 20) then ((if ((w_102 σ x1 x2).1 50 22) < 0 then (0 : Int32) else 1) : Int32) else 0))) 62 x3.toNatClampNeg ((v_99 (am_put (w_102 σ x1 x2) 64 x3.toNatClampNeg (vp_nar .boolean (if 0 < ((w_102 σ x1 x2).1 50 20) then ((if ((w_102 σ x1 x2).1 50 22) < 0 then (0 : Int32) else 1) : Int32) else 0))) (if 0 < ((w_102 σ x1 x2).1 50 19) then (Int32.toInt64 ((w_102 σ x1 x2).1 50 19)) else (0 : Int32).toInt64)) + (v_99 (am_put (w_102 σ x1 x2) 64 x3.toNatClampNeg (vp_nar .boolean (if 0 < ((w_102 σ x1 x2).1 50 20) then ((if ((w_102 σ x1 x2).1 50 22) < 0 then (0 : Int32) else 1) : Int32) else 0))) (if 0 < ((w_102 σ x1 x2).1 50 21) then (Int32.toInt64 ((w_102 σ x1 x2).1 50 21)) else (0 : Int32).toInt64)))) (Int32.toInt64 ((w_102 σ x1 x2).1 50 20)))).trans ?_
  exact s_103_89 L (am_putL (am_put (w_102 σ x1 x2) 64 x3.toNatClampNeg (vp_nar .boolean (if 0 < ((w_102 σ x1 x2).1 50 20) then ((if ((w_102 σ x1 x2).1 50 22) < 0 then (0 : Int32) else 1) : Int32) else 0))) 62 x3.toNatClampNeg ((v_99 (am_put (w_102 σ x1 x2) 64 x3.toNatClampNeg (vp_nar .boolean (if 0 < ((w_102 σ x1 x2).1 50 20) then ((if ((w_102 σ x1 x2).1 50 22) < 0 then (0 : Int32) else 1) : Int32) else 0))) (if 0 < ((w_102 σ x1 x2).1 50 19) then (Int32.toInt64 ((w_102 σ x1 x2).1 50 19)) else (0 : Int32).toInt64)) + (v_99 (am_put (w_102 σ x1 x2) 64 x3.toNatClampNeg (vp_nar .boolean (if 0 < ((w_102 σ x1 x2).1 50 20) then ((if ((w_102 σ x1 x2).1 50 22) < 0 then (0 : Int32) else 1) : Int32) else 0))) (if 0 < ((w_102 σ x1 x2).1 50 21) then (Int32.toInt64 ((w_102 σ x1 x2).1 50 21)) else (0 : Int32).toInt64)))) x1 x2 x3 x3 (v_99 (am_putL (am_put (w_102 σ x1 x2) 64 x3.toNatClampNeg (vp_nar .boolean (if 0 < ((w_102 σ x1 x2).1 50 20) then ((if ((w_102 σ x1 x2).1 50 22) < 0 then (0 : Int32) else 1) : Int32) else 0))) 62 x3.toNatClampNeg ((v_99 (am_put (w_102 σ x1 x2) 64 x3.toNatClampNeg (vp_nar .boolean (if 0 < ((w_102 σ x1 x2).1 50 20) then ((if ((w_102 σ x1 x2).1 50 22) < 0 then (0 : Int32) else 1) : Int32) else 0))) (if 0 < ((w_102 σ x1 x2).1 50 19) then (Int32.toInt64 ((w_102 σ x1 x2).1 50 19)) else (0 : Int32).toInt64)) + (v_99 (am_put (w_102 σ x1 x2) 64 x3.toNatClampNeg (vp_nar .boolean (if 0 < ((w_102 σ x1 x2).1 50 20) then ((if ((w_102 σ x1 x2).1 50 22) < 0 then (0 : Int32) else 1) : Int32) else 0))) (if 0 < ((w_102 σ x1 x2).1 50 21) then (Int32.toInt64 ((w_102 σ x1 x2).1 50 21)) else (0 : Int32).toInt64)))) (Int32.toInt64 ((w_102 σ x1 x2).1 50 20))) h.2.2.2
