-- 101a57: X5_lineAt
def l_101a57_103 : Nat → am_M → Int32 → Int32 → Int32 → Int32 → Int32 → Int32 → Int32 → Int32 → Int32 → Int32
  | 0, _, _, _, _, _, _, _, _, _, _ => 0
  | n + 1, σ, x1, x3, x4, x5, x6, x7, x8, x9, x10 => (if x10 < 3 then (l_101a57_103 n σ x1 x3 x4 x5 x6 x7 x8 (x9 + ((x4 * (σ.1 57 (((x3 + x10)).toNatClampNeg))) * (((σ.1 56 ((((3 * x5) + x10)).toNatClampNeg)) + (x7 * (σ.1 57 ((((3 * x5) + x10)).toNatClampNeg)))) + (x8 * (σ.1 58 ((((3 * x5) + x10)).toNatClampNeg)))))) (x10 + 1)) else x9)
def q_101a57_103 : Nat → am_M → Int32 → Int32 → Int32 → Int32 → Int32 → Int32 → Int32 → Int32 → Int32 → Prop
  | 0, _, _, _, _, _, _, _, _, _, _ => False
  | n + 1, σ, x1, x3, x4, x5, x6, x7, x8, x9, x10 => (x10 < 3) → ((¬ ((x3 + x10) < 0 ∨ 39 ≤ ((x3 + x10)).toNatClampNeg)) ∧ ((¬ (((3 * x5) + x10) < 0 ∨ 39 ≤ (((3 * x5) + x10)).toNatClampNeg)) ∧ ((¬ (((3 * x5) + x10) < 0 ∨ 39 ≤ (((3 * x5) + x10)).toNatClampNeg)) ∧ ((¬ (((3 * x5) + x10) < 0 ∨ 39 ≤ (((3 * x5) + x10)).toNatClampNeg)) ∧ (q_101a57_103 n σ x1 x3 x4 x5 x6 x7 x8 (x9 + ((x4 * (σ.1 57 (((x3 + x10)).toNatClampNeg))) * (((σ.1 56 ((((3 * x5) + x10)).toNatClampNeg)) + (x7 * (σ.1 57 ((((3 * x5) + x10)).toNatClampNeg)))) + (x8 * (σ.1 58 ((((3 * x5) + x10)).toNatClampNeg)))))) (x10 + 1))))))
set_option maxRecDepth 20000 in
theorem t_101a57_103 (L : Nat) (σ : am_M) : ∀ (n : Nat) (x1 : Int32) (x3 : Int32) (x4 : Int32) (x5 : Int32) (x6 : Int32) (x7 : Int32) (x8 : Int32) (x9 : Int32) (x10 : Int32), q_101a57_103 n σ x1 x3 x4 x5 x6 x7 x8 x9 x10 → am_r L 101 103 [some (.inr (.inr (50, none))), some (.inl x1), some (.inr (.inr (57, none))), some (.inl x3), some (.inl x4), some (.inl x5), some (.inl x6), some (.inl x7), some (.inl x8), some (.inl x9), some (.inl x10)] [] σ = some (some (.inl (l_101a57_103 n σ x1 x3 x4 x5 x6 x7 x8 x9 x10)), am_sh0 L, σ) := by
  intro n
  induction n with
  | zero => intro x1 x3 x4 x5 x6 x7 x8 x9 x10 h; exact h.elim
  | succ n ih =>
    intro x1 x3 x4 x5 x6 x7 x8 x9 x10 h
    unfold q_101a57_103 at h
    unfold l_101a57_103
    refine (e_101a57_103 _ _ _ _ _ _ _ _ _ _ _).trans ?_
    refine am_fkIv (fun hc326 => ?_) (fun hc326 => ?_)
    · refine (if_neg ((h hc326).1)).trans ?_
      refine (if_neg ((h hc326).2.1)).trans ?_
      refine (e_101a57_135 _ _ _ _ _ _ _ _ _ _ _ _ _ _ _).trans ?_
      refine (if_neg ((h hc326).2.2.1)).trans ?_
      refine (if_neg ((h hc326).2.2.2.1)).trans ?_
      refine (e_101a57_165 _ _ _ _ _ _ _ _ _ _ _ _ _).trans ?_
      exact ih x1 x3 x4 x5 x6 x7 x8 (x9 + ((x4 * (σ.1 57 (((x3 + x10)).toNatClampNeg))) * (((σ.1 56 ((((3 * x5) + x10)).toNatClampNeg)) + (x7 * (σ.1 57 ((((3 * x5) + x10)).toNatClampNeg)))) + (x8 * (σ.1 58 ((((3 * x5) + x10)).toNatClampNeg)))))) (x10 + 1) ((h hc326).2.2.2.2)
    · refine (e_101a57_174 _ _ _ _ _ _ _ _ _ _ _).trans ?_
      rfl
def p_101a57 (σ : am_M) (x1 : Int32) (x3 : Int32) (x4 : Int32) : Prop := (¬ (x1 < 0 ∨ 13 ≤ x1.toNatClampNeg)) ∧ ((¬ (x1 < 0 ∨ 13 ≤ x1.toNatClampNeg)) ∧ ((¬ ((if ((σ.1 52 x1.toNatClampNeg) - (σ.1 52 x1.toNatClampNeg) / 2 * 2) = 0 then (1 : Int32) else 0) = 0) → ((¬ (x1 < 0 ∨ 13 ≤ x1.toNatClampNeg)) ∧ (¬ (((4 * (σ.1 51 x1.toNatClampNeg)) + (if (σ.1 52 x1.toNatClampNeg) = 0 then (2 : Int32) else 0)) < 0 ∨ 52 ≤ (((4 * (σ.1 51 x1.toNatClampNeg)) + (if (σ.1 52 x1.toNatClampNeg) = 0 then (2 : Int32) else 0))).toNatClampNeg)))) ∧ ((((if ((σ.1 52 x1.toNatClampNeg) - (σ.1 52 x1.toNatClampNeg) / 2 * 2) = 0 then (1 : Int32) else 0) = 0) → ((¬ (x1 < 0 ∨ 13 ≤ x1.toNatClampNeg)) ∧ (¬ (((4 * (σ.1 51 x1.toNatClampNeg)) + (if (σ.1 52 x1.toNatClampNeg) = 1 then (3 : Int32) else 1)) < 0 ∨ 52 ≤ (((4 * (σ.1 51 x1.toNatClampNeg)) + (if (σ.1 52 x1.toNatClampNeg) = 1 then (3 : Int32) else 1))).toNatClampNeg)))) ∧ (q_101a57_103 14 σ x1 x3 x4 (σ.1 51 x1.toNatClampNeg) (if ((σ.1 52 x1.toNatClampNeg) - (σ.1 52 x1.toNatClampNeg) / 2 * 2) = 0 then (1 : Int32) else 0) (if (if ((σ.1 52 x1.toNatClampNeg) - (σ.1 52 x1.toNatClampNeg) / 2 * 2) = 0 then (1 : Int32) else 0) = 0 then (0 : Int32) else (σ.1 54 ((((4 * (σ.1 51 x1.toNatClampNeg)) + (if (σ.1 52 x1.toNatClampNeg) = 0 then (2 : Int32) else 0))).toNatClampNeg))) (if (if ((σ.1 52 x1.toNatClampNeg) - (σ.1 52 x1.toNatClampNeg) / 2 * 2) = 0 then (1 : Int32) else 0) = 0 then ((σ.1 54 ((((4 * (σ.1 51 x1.toNatClampNeg)) + (if (σ.1 52 x1.toNatClampNeg) = 1 then (3 : Int32) else 1))).toNatClampNeg)) : Int32) else 0) 0 0))))
def f_101a57 (σ : am_M) (x1 : Int32) (x3 : Int32) (x4 : Int32) : Int32 := (l_101a57_103 14 σ x1 x3 x4 (σ.1 51 x1.toNatClampNeg) (if ((σ.1 52 x1.toNatClampNeg) - (σ.1 52 x1.toNatClampNeg) / 2 * 2) = 0 then (1 : Int32) else 0) (if (if ((σ.1 52 x1.toNatClampNeg) - (σ.1 52 x1.toNatClampNeg) / 2 * 2) = 0 then (1 : Int32) else 0) = 0 then (0 : Int32) else (σ.1 54 ((((4 * (σ.1 51 x1.toNatClampNeg)) + (if (σ.1 52 x1.toNatClampNeg) = 0 then (2 : Int32) else 0))).toNatClampNeg))) (if (if ((σ.1 52 x1.toNatClampNeg) - (σ.1 52 x1.toNatClampNeg) / 2 * 2) = 0 then (1 : Int32) else 0) = 0 then ((σ.1 54 ((((4 * (σ.1 51 x1.toNatClampNeg)) + (if (σ.1 52 x1.toNatClampNeg) = 1 then (3 : Int32) else 1))).toNatClampNeg)) : Int32) else 0) 0 0)
set_option maxRecDepth 20000 in
theorem sf_101a57 (L : Nat) (σ : am_M) (x1 : Int32) (x3 : Int32) (x4 : Int32) (h : p_101a57 σ x1 x3 x4) : am_r L 101 0 [some (.inr (.inr (50, none))), some (.inl x1), some (.inr (.inr (57, none))), some (.inl x3), some (.inl x4), none, none, none, none, none, none] [] σ = some (some (.inl (f_101a57 σ x1 x3 x4)), am_sh0 L, σ) := by
  unfold p_101a57 at h
  unfold f_101a57
  refine (e_101a57_0 _ _ _ _ _).trans ?_
  refine (if_neg h.1).trans ?_
  refine (if_neg h.2.1).trans ?_
  refine Eq.trans (b := am_r L 101 24 [some (.inr (.inr (50, none))), some (.inl x1), some (.inr (.inr (57, none))), some (.inl x3), some (.inl x4), some (.inl (σ.1 51 x1.toNatClampNeg)), none, none, none, none, none] [.inl (if ((σ.1 52 x1.toNatClampNeg) - (σ.1 52 x1.toNatClampNeg) / 2 * 2) = 0 then (1 : Int32) else 0)] σ) ?_ ?_
  · by_cases hc327 : ((σ.1 52 x1.toNatClampNeg) - (σ.1 52 x1.toNatClampNeg) / 2 * 2) = 0
    · refine (if_pos hc327).trans ?_
      refine Eq.trans (b := am_r L 101 24 [some (.inr (.inr (50, none))), some (.inl x1), some (.inr (.inr (57, none))), some (.inl x3), some (.inl x4), some (.inl (σ.1 51 x1.toNatClampNeg)), none, none, none, none, none] [.inl 1] σ) ?_ ?_
      · rfl
      · first | with_reducible rfl | simp only [if_pos hc327]
    · refine (if_neg hc327).trans ?_
      refine Eq.trans (b := am_r L 101 24 [some (.inr (.inr (50, none))), some (.inl x1), some (.inr (.inr (57, none))), some (.inl x3), some (.inl x4), some (.inl (σ.1 51 x1.toNatClampNeg)), none, none, none, none, none] [.inl 0] σ) ?_ ?_
      · refine (e_101a57_23 _ _ _ _ _ _).trans ?_
        rfl
      · first | with_reducible rfl | simp only [if_neg hc327]
  refine (e_101a57_24 _ _ _ _ _ _ _).trans ?_
  refine Eq.trans (b := am_r L 101 59 [some (.inr (.inr (50, none))), some (.inl x1), some (.inr (.inr (57, none))), some (.inl x3), some (.inl x4), some (.inl (σ.1 51 x1.toNatClampNeg)), some (.inl (if ((σ.1 52 x1.toNatClampNeg) - (σ.1 52 x1.toNatClampNeg) / 2 * 2) = 0 then (1 : Int32) else 0)), none, none, none, none] [.inl (if (if ((σ.1 52 x1.toNatClampNeg) - (σ.1 52 x1.toNatClampNeg) / 2 * 2) = 0 then (1 : Int32) else 0) = 0 then (0 : Int32) else (σ.1 54 ((((4 * (σ.1 51 x1.toNatClampNeg)) + (if (σ.1 52 x1.toNatClampNeg) = 0 then (2 : Int32) else 0))).toNatClampNeg)))] σ) ?_ ?_
  · by_cases hc328 : (if ((σ.1 52 x1.toNatClampNeg) - (σ.1 52 x1.toNatClampNeg) / 2 * 2) = 0 then (1 : Int32) else 0) = 0
    · refine (if_pos hc328).trans ?_
      refine Eq.trans (b := am_r L 101 59 [some (.inr (.inr (50, none))), some (.inl x1), some (.inr (.inr (57, none))), some (.inl x3), some (.inl x4), some (.inl (σ.1 51 x1.toNatClampNeg)), some (.inl (if ((σ.1 52 x1.toNatClampNeg) - (σ.1 52 x1.toNatClampNeg) / 2 * 2) = 0 then (1 : Int32) else 0)), none, none, none, none] [.inl 0] σ) ?_ ?_
      · refine (e_101a57_58 _ _ _ _ _ _ _).trans ?_
        rfl
      · first | with_reducible rfl | simp only [if_pos hc328]
    · refine (if_neg hc328).trans ?_
      refine Eq.trans (b := am_r L 101 59 [some (.inr (.inr (50, none))), some (.inl x1), some (.inr (.inr (57, none))), some (.inl x3), some (.inl x4), some (.inl (σ.1 51 x1.toNatClampNeg)), some (.inl (if ((σ.1 52 x1.toNatClampNeg) - (σ.1 52 x1.toNatClampNeg) / 2 * 2) = 0 then (1 : Int32) else 0)), none, none, none, none] [.inl (σ.1 54 ((((4 * (σ.1 51 x1.toNatClampNeg)) + (if (σ.1 52 x1.toNatClampNeg) = 0 then (2 : Int32) else 0))).toNatClampNeg))] σ) ?_ ?_
      · refine (if_neg ((h.2.2.1 hc328).1)).trans ?_
        refine Eq.trans (b := am_r L 101 53 [some (.inr (.inr (50, none))), some (.inl x1), some (.inr (.inr (57, none))), some (.inl x3), some (.inl x4), some (.inl (σ.1 51 x1.toNatClampNeg)), some (.inl (if ((σ.1 52 x1.toNatClampNeg) - (σ.1 52 x1.toNatClampNeg) / 2 * 2) = 0 then (1 : Int32) else 0)), none, none, none, none] [.inl (if (σ.1 52 x1.toNatClampNeg) = 0 then (2 : Int32) else 0), .inl (4 * (σ.1 51 x1.toNatClampNeg)), .inr (.inr (54, none))] σ) ?_ ?_
        · by_cases hc329 : (σ.1 52 x1.toNatClampNeg) = 0
          · refine (if_pos hc329).trans ?_
            refine Eq.trans (b := am_r L 101 53 [some (.inr (.inr (50, none))), some (.inl x1), some (.inr (.inr (57, none))), some (.inl x3), some (.inl x4), some (.inl (σ.1 51 x1.toNatClampNeg)), some (.inl (if ((σ.1 52 x1.toNatClampNeg) - (σ.1 52 x1.toNatClampNeg) / 2 * 2) = 0 then (1 : Int32) else 0)), none, none, none, none] [.inl 2, .inl (4 * (σ.1 51 x1.toNatClampNeg)), .inr (.inr (54, none))] σ) ?_ ?_
            · rfl
            · first | with_reducible rfl | simp only [if_pos hc329]
          · refine (if_neg hc329).trans ?_
            refine Eq.trans (b := am_r L 101 53 [some (.inr (.inr (50, none))), some (.inl x1), some (.inr (.inr (57, none))), some (.inl x3), some (.inl x4), some (.inl (σ.1 51 x1.toNatClampNeg)), some (.inl (if ((σ.1 52 x1.toNatClampNeg) - (σ.1 52 x1.toNatClampNeg) / 2 * 2) = 0 then (1 : Int32) else 0)), none, none, none, none] [.inl 0, .inl (4 * (σ.1 51 x1.toNatClampNeg)), .inr (.inr (54, none))] σ) ?_ ?_
            · refine (e_101a57_52 _ _ _ _ _ _ _ _).trans ?_
              rfl
            · first | with_reducible rfl | simp only [if_neg hc329]
        refine (e_101a57_53 _ _ _ _ _ _ _ _ _).trans ?_
        refine (if_neg ((h.2.2.1 hc328).2)).trans ?_
        rfl
      · first | with_reducible rfl | simp only [if_neg hc328]
  refine (e_101a57_59 _ _ _ _ _ _ _ _).trans ?_
  refine Eq.trans (b := am_r L 101 95 [some (.inr (.inr (50, none))), some (.inl x1), some (.inr (.inr (57, none))), some (.inl x3), some (.inl x4), some (.inl (σ.1 51 x1.toNatClampNeg)), some (.inl (if ((σ.1 52 x1.toNatClampNeg) - (σ.1 52 x1.toNatClampNeg) / 2 * 2) = 0 then (1 : Int32) else 0)), some (.inl (if (if ((σ.1 52 x1.toNatClampNeg) - (σ.1 52 x1.toNatClampNeg) / 2 * 2) = 0 then (1 : Int32) else 0) = 0 then (0 : Int32) else (σ.1 54 ((((4 * (σ.1 51 x1.toNatClampNeg)) + (if (σ.1 52 x1.toNatClampNeg) = 0 then (2 : Int32) else 0))).toNatClampNeg)))), none, none, none] [.inl (if (if ((σ.1 52 x1.toNatClampNeg) - (σ.1 52 x1.toNatClampNeg) / 2 * 2) = 0 then (1 : Int32) else 0) = 0 then ((σ.1 54 ((((4 * (σ.1 51 x1.toNatClampNeg)) + (if (σ.1 52 x1.toNatClampNeg) = 1 then (3 : Int32) else 1))).toNatClampNeg)) : Int32) else 0)] σ) ?_ ?_
  · by_cases hc330 : (if ((σ.1 52 x1.toNatClampNeg) - (σ.1 52 x1.toNatClampNeg) / 2 * 2) = 0 then (1 : Int32) else 0) = 0
    · refine (if_pos hc330).trans ?_
      refine Eq.trans (b := am_r L 101 95 [some (.inr (.inr (50, none))), some (.inl x1), some (.inr (.inr (57, none))), some (.inl x3), some (.inl x4), some (.inl (σ.1 51 x1.toNatClampNeg)), some (.inl (if ((σ.1 52 x1.toNatClampNeg) - (σ.1 52 x1.toNatClampNeg) / 2 * 2) = 0 then (1 : Int32) else 0)), some (.inl (if (if ((σ.1 52 x1.toNatClampNeg) - (σ.1 52 x1.toNatClampNeg) / 2 * 2) = 0 then (1 : Int32) else 0) = 0 then (0 : Int32) else (σ.1 54 ((((4 * (σ.1 51 x1.toNatClampNeg)) + (if (σ.1 52 x1.toNatClampNeg) = 0 then (2 : Int32) else 0))).toNatClampNeg)))), none, none, none] [.inl (σ.1 54 ((((4 * (σ.1 51 x1.toNatClampNeg)) + (if (σ.1 52 x1.toNatClampNeg) = 1 then (3 : Int32) else 1))).toNatClampNeg))] σ) ?_ ?_
      · refine (e_101a57_70 _ _ _ _ _ _ _ _).trans ?_
        refine (if_neg ((h.2.2.2.1 hc330).1)).trans ?_
        refine Eq.trans (b := am_r L 101 93 [some (.inr (.inr (50, none))), some (.inl x1), some (.inr (.inr (57, none))), some (.inl x3), some (.inl x4), some (.inl (σ.1 51 x1.toNatClampNeg)), some (.inl (if ((σ.1 52 x1.toNatClampNeg) - (σ.1 52 x1.toNatClampNeg) / 2 * 2) = 0 then (1 : Int32) else 0)), some (.inl (if (if ((σ.1 52 x1.toNatClampNeg) - (σ.1 52 x1.toNatClampNeg) / 2 * 2) = 0 then (1 : Int32) else 0) = 0 then (0 : Int32) else (σ.1 54 ((((4 * (σ.1 51 x1.toNatClampNeg)) + (if (σ.1 52 x1.toNatClampNeg) = 0 then (2 : Int32) else 0))).toNatClampNeg)))), none, none, none] [.inl (if (σ.1 52 x1.toNatClampNeg) = 1 then (3 : Int32) else 1), .inl (4 * (σ.1 51 x1.toNatClampNeg)), .inr (.inr (54, none))] σ) ?_ ?_
        · by_cases hc331 : (σ.1 52 x1.toNatClampNeg) = 1
          · refine (if_pos hc331).trans ?_
            refine Eq.trans (b := am_r L 101 93 [some (.inr (.inr (50, none))), some (.inl x1), some (.inr (.inr (57, none))), some (.inl x3), some (.inl x4), some (.inl (σ.1 51 x1.toNatClampNeg)), some (.inl (if ((σ.1 52 x1.toNatClampNeg) - (σ.1 52 x1.toNatClampNeg) / 2 * 2) = 0 then (1 : Int32) else 0)), some (.inl (if (if ((σ.1 52 x1.toNatClampNeg) - (σ.1 52 x1.toNatClampNeg) / 2 * 2) = 0 then (1 : Int32) else 0) = 0 then (0 : Int32) else (σ.1 54 ((((4 * (σ.1 51 x1.toNatClampNeg)) + (if (σ.1 52 x1.toNatClampNeg) = 0 then (2 : Int32) else 0))).toNatClampNeg)))), none, none, none] [.inl 3, .inl (4 * (σ.1 51 x1.toNatClampNeg)), .inr (.inr (54, none))] σ) ?_ ?_
            · rfl
            · first | with_reducible rfl | simp only [if_pos hc331]
          · refine (if_neg hc331).trans ?_
            refine Eq.trans (b := am_r L 101 93 [some (.inr (.inr (50, none))), some (.inl x1), some (.inr (.inr (57, none))), some (.inl x3), some (.inl x4), some (.inl (σ.1 51 x1.toNatClampNeg)), some (.inl (if ((σ.1 52 x1.toNatClampNeg) - (σ.1 52 x1.toNatClampNeg) / 2 * 2) = 0 then (1 : Int32) else 0)), some (.inl (if (if ((σ.1 52 x1.toNatClampNeg) - (σ.1 52 x1.toNatClampNeg) / 2 * 2) = 0 then (1 : Int32) else 0) = 0 then (0 : Int32) else (σ.1 54 ((((4 * (σ.1 51 x1.toNatClampNeg)) + (if (σ.1 52 x1.toNatClampNeg) = 0 then (2 : Int32) else 0))).toNatClampNeg)))), none, none, none] [.inl 1, .inl (4 * (σ.1 51 x1.toNatClampNeg)), .inr (.inr (54, none))] σ) ?_ ?_
            · refine (e_101a57_92 _ _ _ _ _ _ _ _ _).trans ?_
              rfl
            · first | with_reducible rfl | simp only [if_neg hc331]
        refine (e_101a57_93 _ _ _ _ _ _ _ _ _ _).trans ?_
        refine (if_neg ((h.2.2.2.1 hc330).2)).trans ?_
        rfl
      · first | with_reducible rfl | simp only [if_pos hc330]
    · refine (if_neg hc330).trans ?_
      refine Eq.trans (b := am_r L 101 95 [some (.inr (.inr (50, none))), some (.inl x1), some (.inr (.inr (57, none))), some (.inl x3), some (.inl x4), some (.inl (σ.1 51 x1.toNatClampNeg)), some (.inl (if ((σ.1 52 x1.toNatClampNeg) - (σ.1 52 x1.toNatClampNeg) / 2 * 2) = 0 then (1 : Int32) else 0)), some (.inl (if (if ((σ.1 52 x1.toNatClampNeg) - (σ.1 52 x1.toNatClampNeg) / 2 * 2) = 0 then (1 : Int32) else 0) = 0 then (0 : Int32) else (σ.1 54 ((((4 * (σ.1 51 x1.toNatClampNeg)) + (if (σ.1 52 x1.toNatClampNeg) = 0 then (2 : Int32) else 0))).toNatClampNeg)))), none, none, none] [.inl 0] σ) ?_ ?_
      · rfl
      · first | with_reducible rfl | simp only [if_neg hc330]
  refine (e_101a57_95 _ _ _ _ _ _ _ _ _).trans ?_
  exact t_101a57_103 L σ 14 x1 x3 x4 (σ.1 51 x1.toNatClampNeg) (if ((σ.1 52 x1.toNatClampNeg) - (σ.1 52 x1.toNatClampNeg) / 2 * 2) = 0 then (1 : Int32) else 0) (if (if ((σ.1 52 x1.toNatClampNeg) - (σ.1 52 x1.toNatClampNeg) / 2 * 2) = 0 then (1 : Int32) else 0) = 0 then (0 : Int32) else (σ.1 54 ((((4 * (σ.1 51 x1.toNatClampNeg)) + (if (σ.1 52 x1.toNatClampNeg) = 0 then (2 : Int32) else 0))).toNatClampNeg))) (if (if ((σ.1 52 x1.toNatClampNeg) - (σ.1 52 x1.toNatClampNeg) / 2 * 2) = 0 then (1 : Int32) else 0) = 0 then ((σ.1 54 ((((4 * (σ.1 51 x1.toNatClampNeg)) + (if (σ.1 52 x1.toNatClampNeg) = 1 then (3 : Int32) else 1))).toNatClampNeg)) : Int32) else 0) 0 0 h.2.2.2.2
def v_101a57 (σ : am_M) (x1 : Int32) (x3 : Int32) (x4 : Int32) : Int32 := f_101a57 σ x1 x3 x4
theorem s_101a57 (L : Nat) (σ : am_M) (x1 : Int32) (x3 : Int32) (x4 : Int32) (h : p_101a57 σ x1 x3 x4) : am_r L 101 0 [some (.inr (.inr (50, none))), some (.inl x1), some (.inr (.inr (57, none))), some (.inl x3), some (.inl x4), none, none, none, none, none, none] [] σ = some (some (.inl (v_101a57 σ x1 x3 x4)), am_sh0 L, σ) := sf_101a57 L σ x1 x3 x4 h
-- 101a58: X5_lineAt
def l_101a58_103 : Nat → am_M → Int32 → Int32 → Int32 → Int32 → Int32 → Int32 → Int32 → Int32 → Int32 → Int32
  | 0, _, _, _, _, _, _, _, _, _, _ => 0
  | n + 1, σ, x1, x3, x4, x5, x6, x7, x8, x9, x10 => (if x10 < 3 then (l_101a58_103 n σ x1 x3 x4 x5 x6 x7 x8 (x9 + ((x4 * (σ.1 58 (((x3 + x10)).toNatClampNeg))) * (((σ.1 56 ((((3 * x5) + x10)).toNatClampNeg)) + (x7 * (σ.1 57 ((((3 * x5) + x10)).toNatClampNeg)))) + (x8 * (σ.1 58 ((((3 * x5) + x10)).toNatClampNeg)))))) (x10 + 1)) else x9)
def q_101a58_103 : Nat → am_M → Int32 → Int32 → Int32 → Int32 → Int32 → Int32 → Int32 → Int32 → Int32 → Prop
  | 0, _, _, _, _, _, _, _, _, _, _ => False
  | n + 1, σ, x1, x3, x4, x5, x6, x7, x8, x9, x10 => (x10 < 3) → ((¬ ((x3 + x10) < 0 ∨ 39 ≤ ((x3 + x10)).toNatClampNeg)) ∧ ((¬ (((3 * x5) + x10) < 0 ∨ 39 ≤ (((3 * x5) + x10)).toNatClampNeg)) ∧ ((¬ (((3 * x5) + x10) < 0 ∨ 39 ≤ (((3 * x5) + x10)).toNatClampNeg)) ∧ ((¬ (((3 * x5) + x10) < 0 ∨ 39 ≤ (((3 * x5) + x10)).toNatClampNeg)) ∧ (q_101a58_103 n σ x1 x3 x4 x5 x6 x7 x8 (x9 + ((x4 * (σ.1 58 (((x3 + x10)).toNatClampNeg))) * (((σ.1 56 ((((3 * x5) + x10)).toNatClampNeg)) + (x7 * (σ.1 57 ((((3 * x5) + x10)).toNatClampNeg)))) + (x8 * (σ.1 58 ((((3 * x5) + x10)).toNatClampNeg)))))) (x10 + 1))))))
set_option maxRecDepth 20000 in
theorem t_101a58_103 (L : Nat) (σ : am_M) : ∀ (n : Nat) (x1 : Int32) (x3 : Int32) (x4 : Int32) (x5 : Int32) (x6 : Int32) (x7 : Int32) (x8 : Int32) (x9 : Int32) (x10 : Int32), q_101a58_103 n σ x1 x3 x4 x5 x6 x7 x8 x9 x10 → am_r L 101 103 [some (.inr (.inr (50, none))), some (.inl x1), some (.inr (.inr (58, none))), some (.inl x3), some (.inl x4), some (.inl x5), some (.inl x6), some (.inl x7), some (.inl x8), some (.inl x9), some (.inl x10)] [] σ = some (some (.inl (l_101a58_103 n σ x1 x3 x4 x5 x6 x7 x8 x9 x10)), am_sh0 L, σ) := by
  intro n
  induction n with
  | zero => intro x1 x3 x4 x5 x6 x7 x8 x9 x10 h; exact h.elim
  | succ n ih =>
    intro x1 x3 x4 x5 x6 x7 x8 x9 x10 h
    unfold q_101a58_103 at h
    unfold l_101a58_103
    refine (e_101a58_103 _ _ _ _ _ _ _ _ _ _ _).trans ?_
    refine am_fkIv (fun hc332 => ?_) (fun hc332 => ?_)
    · refine (if_neg ((h hc332).1)).trans ?_
      refine (if_neg ((h hc332).2.1)).trans ?_
      refine (e_101a58_135 _ _ _ _ _ _ _ _ _ _ _ _ _ _ _).trans ?_
      refine (if_neg ((h hc332).2.2.1)).trans ?_
      refine (if_neg ((h hc332).2.2.2.1)).trans ?_
      refine (e_101a58_165 _ _ _ _ _ _ _ _ _ _ _ _ _).trans ?_
      exact ih x1 x3 x4 x5 x6 x7 x8 (x9 + ((x4 * (σ.1 58 (((x3 + x10)).toNatClampNeg))) * (((σ.1 56 ((((3 * x5) + x10)).toNatClampNeg)) + (x7 * (σ.1 57 ((((3 * x5) + x10)).toNatClampNeg)))) + (x8 * (σ.1 58 ((((3 * x5) + x10)).toNatClampNeg)))))) (x10 + 1) ((h hc332).2.2.2.2)
    · refine (e_101a58_174 _ _ _ _ _ _ _ _ _ _ _).trans ?_
      rfl
def p_101a58 (σ : am_M) (x1 : Int32) (x3 : Int32) (x4 : Int32) : Prop := (¬ (x1 < 0 ∨ 13 ≤ x1.toNatClampNeg)) ∧ ((¬ (x1 < 0 ∨ 13 ≤ x1.toNatClampNeg)) ∧ ((¬ ((if ((σ.1 52 x1.toNatClampNeg) - (σ.1 52 x1.toNatClampNeg) / 2 * 2) = 0 then (1 : Int32) else 0) = 0) → ((¬ (x1 < 0 ∨ 13 ≤ x1.toNatClampNeg)) ∧ (¬ (((4 * (σ.1 51 x1.toNatClampNeg)) + (if (σ.1 52 x1.toNatClampNeg) = 0 then (2 : Int32) else 0)) < 0 ∨ 52 ≤ (((4 * (σ.1 51 x1.toNatClampNeg)) + (if (σ.1 52 x1.toNatClampNeg) = 0 then (2 : Int32) else 0))).toNatClampNeg)))) ∧ ((((if ((σ.1 52 x1.toNatClampNeg) - (σ.1 52 x1.toNatClampNeg) / 2 * 2) = 0 then (1 : Int32) else 0) = 0) → ((¬ (x1 < 0 ∨ 13 ≤ x1.toNatClampNeg)) ∧ (¬ (((4 * (σ.1 51 x1.toNatClampNeg)) + (if (σ.1 52 x1.toNatClampNeg) = 1 then (3 : Int32) else 1)) < 0 ∨ 52 ≤ (((4 * (σ.1 51 x1.toNatClampNeg)) + (if (σ.1 52 x1.toNatClampNeg) = 1 then (3 : Int32) else 1))).toNatClampNeg)))) ∧ (q_101a58_103 14 σ x1 x3 x4 (σ.1 51 x1.toNatClampNeg) (if ((σ.1 52 x1.toNatClampNeg) - (σ.1 52 x1.toNatClampNeg) / 2 * 2) = 0 then (1 : Int32) else 0) (if (if ((σ.1 52 x1.toNatClampNeg) - (σ.1 52 x1.toNatClampNeg) / 2 * 2) = 0 then (1 : Int32) else 0) = 0 then (0 : Int32) else (σ.1 54 ((((4 * (σ.1 51 x1.toNatClampNeg)) + (if (σ.1 52 x1.toNatClampNeg) = 0 then (2 : Int32) else 0))).toNatClampNeg))) (if (if ((σ.1 52 x1.toNatClampNeg) - (σ.1 52 x1.toNatClampNeg) / 2 * 2) = 0 then (1 : Int32) else 0) = 0 then ((σ.1 54 ((((4 * (σ.1 51 x1.toNatClampNeg)) + (if (σ.1 52 x1.toNatClampNeg) = 1 then (3 : Int32) else 1))).toNatClampNeg)) : Int32) else 0) 0 0))))
def f_101a58 (σ : am_M) (x1 : Int32) (x3 : Int32) (x4 : Int32) : Int32 := (l_101a58_103 14 σ x1 x3 x4 (σ.1 51 x1.toNatClampNeg) (if ((σ.1 52 x1.toNatClampNeg) - (σ.1 52 x1.toNatClampNeg) / 2 * 2) = 0 then (1 : Int32) else 0) (if (if ((σ.1 52 x1.toNatClampNeg) - (σ.1 52 x1.toNatClampNeg) / 2 * 2) = 0 then (1 : Int32) else 0) = 0 then (0 : Int32) else (σ.1 54 ((((4 * (σ.1 51 x1.toNatClampNeg)) + (if (σ.1 52 x1.toNatClampNeg) = 0 then (2 : Int32) else 0))).toNatClampNeg))) (if (if ((σ.1 52 x1.toNatClampNeg) - (σ.1 52 x1.toNatClampNeg) / 2 * 2) = 0 then (1 : Int32) else 0) = 0 then ((σ.1 54 ((((4 * (σ.1 51 x1.toNatClampNeg)) + (if (σ.1 52 x1.toNatClampNeg) = 1 then (3 : Int32) else 1))).toNatClampNeg)) : Int32) else 0) 0 0)
set_option maxRecDepth 20000 in
theorem sf_101a58 (L : Nat) (σ : am_M) (x1 : Int32) (x3 : Int32) (x4 : Int32) (h : p_101a58 σ x1 x3 x4) : am_r L 101 0 [some (.inr (.inr (50, none))), some (.inl x1), some (.inr (.inr (58, none))), some (.inl x3), some (.inl x4), none, none, none, none, none, none] [] σ = some (some (.inl (f_101a58 σ x1 x3 x4)), am_sh0 L, σ) := by
  unfold p_101a58 at h
  unfold f_101a58
  refine (e_101a58_0 _ _ _ _ _).trans ?_
  refine (if_neg h.1).trans ?_
  refine (if_neg h.2.1).trans ?_
  refine Eq.trans (b := am_r L 101 24 [some (.inr (.inr (50, none))), some (.inl x1), some (.inr (.inr (58, none))), some (.inl x3), some (.inl x4), some (.inl (σ.1 51 x1.toNatClampNeg)), none, none, none, none, none] [.inl (if ((σ.1 52 x1.toNatClampNeg) - (σ.1 52 x1.toNatClampNeg) / 2 * 2) = 0 then (1 : Int32) else 0)] σ) ?_ ?_
  · by_cases hc333 : ((σ.1 52 x1.toNatClampNeg) - (σ.1 52 x1.toNatClampNeg) / 2 * 2) = 0
    · refine (if_pos hc333).trans ?_
      refine Eq.trans (b := am_r L 101 24 [some (.inr (.inr (50, none))), some (.inl x1), some (.inr (.inr (58, none))), some (.inl x3), some (.inl x4), some (.inl (σ.1 51 x1.toNatClampNeg)), none, none, none, none, none] [.inl 1] σ) ?_ ?_
      · rfl
      · first | with_reducible rfl | simp only [if_pos hc333]
    · refine (if_neg hc333).trans ?_
      refine Eq.trans (b := am_r L 101 24 [some (.inr (.inr (50, none))), some (.inl x1), some (.inr (.inr (58, none))), some (.inl x3), some (.inl x4), some (.inl (σ.1 51 x1.toNatClampNeg)), none, none, none, none, none] [.inl 0] σ) ?_ ?_
      · refine (e_101a58_23 _ _ _ _ _ _).trans ?_
        rfl
      · first | with_reducible rfl | simp only [if_neg hc333]
  refine (e_101a58_24 _ _ _ _ _ _ _).trans ?_
  refine Eq.trans (b := am_r L 101 59 [some (.inr (.inr (50, none))), some (.inl x1), some (.inr (.inr (58, none))), some (.inl x3), some (.inl x4), some (.inl (σ.1 51 x1.toNatClampNeg)), some (.inl (if ((σ.1 52 x1.toNatClampNeg) - (σ.1 52 x1.toNatClampNeg) / 2 * 2) = 0 then (1 : Int32) else 0)), none, none, none, none] [.inl (if (if ((σ.1 52 x1.toNatClampNeg) - (σ.1 52 x1.toNatClampNeg) / 2 * 2) = 0 then (1 : Int32) else 0) = 0 then (0 : Int32) else (σ.1 54 ((((4 * (σ.1 51 x1.toNatClampNeg)) + (if (σ.1 52 x1.toNatClampNeg) = 0 then (2 : Int32) else 0))).toNatClampNeg)))] σ) ?_ ?_
  · by_cases hc334 : (if ((σ.1 52 x1.toNatClampNeg) - (σ.1 52 x1.toNatClampNeg) / 2 * 2) = 0 then (1 : Int32) else 0) = 0
    · refine (if_pos hc334).trans ?_
      refine Eq.trans (b := am_r L 101 59 [some (.inr (.inr (50, none))), some (.inl x1), some (.inr (.inr (58, none))), some (.inl x3), some (.inl x4), some (.inl (σ.1 51 x1.toNatClampNeg)), some (.inl (if ((σ.1 52 x1.toNatClampNeg) - (σ.1 52 x1.toNatClampNeg) / 2 * 2) = 0 then (1 : Int32) else 0)), none, none, none, none] [.inl 0] σ) ?_ ?_
      · refine (e_101a58_58 _ _ _ _ _ _ _).trans ?_
        rfl
      · first | with_reducible rfl | simp only [if_pos hc334]
    · refine (if_neg hc334).trans ?_
      refine Eq.trans (b := am_r L 101 59 [some (.inr (.inr (50, none))), some (.inl x1), some (.inr (.inr (58, none))), some (.inl x3), some (.inl x4), some (.inl (σ.1 51 x1.toNatClampNeg)), some (.inl (if ((σ.1 52 x1.toNatClampNeg) - (σ.1 52 x1.toNatClampNeg) / 2 * 2) = 0 then (1 : Int32) else 0)), none, none, none, none] [.inl (σ.1 54 ((((4 * (σ.1 51 x1.toNatClampNeg)) + (if (σ.1 52 x1.toNatClampNeg) = 0 then (2 : Int32) else 0))).toNatClampNeg))] σ) ?_ ?_
      · refine (if_neg ((h.2.2.1 hc334).1)).trans ?_
        refine Eq.trans (b := am_r L 101 53 [some (.inr (.inr (50, none))), some (.inl x1), some (.inr (.inr (58, none))), some (.inl x3), some (.inl x4), some (.inl (σ.1 51 x1.toNatClampNeg)), some (.inl (if ((σ.1 52 x1.toNatClampNeg) - (σ.1 52 x1.toNatClampNeg) / 2 * 2) = 0 then (1 : Int32) else 0)), none, none, none, none] [.inl (if (σ.1 52 x1.toNatClampNeg) = 0 then (2 : Int32) else 0), .inl (4 * (σ.1 51 x1.toNatClampNeg)), .inr (.inr (54, none))] σ) ?_ ?_
        · by_cases hc335 : (σ.1 52 x1.toNatClampNeg) = 0
          · refine (if_pos hc335).trans ?_
            refine Eq.trans (b := am_r L 101 53 [some (.inr (.inr (50, none))), some (.inl x1), some (.inr (.inr (58, none))), some (.inl x3), some (.inl x4), some (.inl (σ.1 51 x1.toNatClampNeg)), some (.inl (if ((σ.1 52 x1.toNatClampNeg) - (σ.1 52 x1.toNatClampNeg) / 2 * 2) = 0 then (1 : Int32) else 0)), none, none, none, none] [.inl 2, .inl (4 * (σ.1 51 x1.toNatClampNeg)), .inr (.inr (54, none))] σ) ?_ ?_
            · rfl
            · first | with_reducible rfl | simp only [if_pos hc335]
          · refine (if_neg hc335).trans ?_
            refine Eq.trans (b := am_r L 101 53 [some (.inr (.inr (50, none))), some (.inl x1), some (.inr (.inr (58, none))), some (.inl x3), some (.inl x4), some (.inl (σ.1 51 x1.toNatClampNeg)), some (.inl (if ((σ.1 52 x1.toNatClampNeg) - (σ.1 52 x1.toNatClampNeg) / 2 * 2) = 0 then (1 : Int32) else 0)), none, none, none, none] [.inl 0, .inl (4 * (σ.1 51 x1.toNatClampNeg)), .inr (.inr (54, none))] σ) ?_ ?_
            · refine (e_101a58_52 _ _ _ _ _ _ _ _).trans ?_
              rfl
            · first | with_reducible rfl | simp only [if_neg hc335]
        refine (e_101a58_53 _ _ _ _ _ _ _ _ _).trans ?_
        refine (if_neg ((h.2.2.1 hc334).2)).trans ?_
        rfl
      · first | with_reducible rfl | simp only [if_neg hc334]
  refine (e_101a58_59 _ _ _ _ _ _ _ _).trans ?_
  refine Eq.trans (b := am_r L 101 95 [some (.inr (.inr (50, none))), some (.inl x1), some (.inr (.inr (58, none))), some (.inl x3), some (.inl x4), some (.inl (σ.1 51 x1.toNatClampNeg)), some (.inl (if ((σ.1 52 x1.toNatClampNeg) - (σ.1 52 x1.toNatClampNeg) / 2 * 2) = 0 then (1 : Int32) else 0)), some (.inl (if (if ((σ.1 52 x1.toNatClampNeg) - (σ.1 52 x1.toNatClampNeg) / 2 * 2) = 0 then (1 : Int32) else 0) = 0 then (0 : Int32) else (σ.1 54 ((((4 * (σ.1 51 x1.toNatClampNeg)) + (if (σ.1 52 x1.toNatClampNeg) = 0 then (2 : Int32) else 0))).toNatClampNeg)))), none, none, none] [.inl (if (if ((σ.1 52 x1.toNatClampNeg) - (σ.1 52 x1.toNatClampNeg) / 2 * 2) = 0 then (1 : Int32) else 0) = 0 then ((σ.1 54 ((((4 * (σ.1 51 x1.toNatClampNeg)) + (if (σ.1 52 x1.toNatClampNeg) = 1 then (3 : Int32) else 1))).toNatClampNeg)) : Int32) else 0)] σ) ?_ ?_
  · by_cases hc336 : (if ((σ.1 52 x1.toNatClampNeg) - (σ.1 52 x1.toNatClampNeg) / 2 * 2) = 0 then (1 : Int32) else 0) = 0
    · refine (if_pos hc336).trans ?_
      refine Eq.trans (b := am_r L 101 95 [some (.inr (.inr (50, none))), some (.inl x1), some (.inr (.inr (58, none))), some (.inl x3), some (.inl x4), some (.inl (σ.1 51 x1.toNatClampNeg)), some (.inl (if ((σ.1 52 x1.toNatClampNeg) - (σ.1 52 x1.toNatClampNeg) / 2 * 2) = 0 then (1 : Int32) else 0)), some (.inl (if (if ((σ.1 52 x1.toNatClampNeg) - (σ.1 52 x1.toNatClampNeg) / 2 * 2) = 0 then (1 : Int32) else 0) = 0 then (0 : Int32) else (σ.1 54 ((((4 * (σ.1 51 x1.toNatClampNeg)) + (if (σ.1 52 x1.toNatClampNeg) = 0 then (2 : Int32) else 0))).toNatClampNeg)))), none, none, none] [.inl (σ.1 54 ((((4 * (σ.1 51 x1.toNatClampNeg)) + (if (σ.1 52 x1.toNatClampNeg) = 1 then (3 : Int32) else 1))).toNatClampNeg))] σ) ?_ ?_
      · refine (e_101a58_70 _ _ _ _ _ _ _ _).trans ?_
        refine (if_neg ((h.2.2.2.1 hc336).1)).trans ?_
        refine Eq.trans (b := am_r L 101 93 [some (.inr (.inr (50, none))), some (.inl x1), some (.inr (.inr (58, none))), some (.inl x3), some (.inl x4), some (.inl (σ.1 51 x1.toNatClampNeg)), some (.inl (if ((σ.1 52 x1.toNatClampNeg) - (σ.1 52 x1.toNatClampNeg) / 2 * 2) = 0 then (1 : Int32) else 0)), some (.inl (if (if ((σ.1 52 x1.toNatClampNeg) - (σ.1 52 x1.toNatClampNeg) / 2 * 2) = 0 then (1 : Int32) else 0) = 0 then (0 : Int32) else (σ.1 54 ((((4 * (σ.1 51 x1.toNatClampNeg)) + (if (σ.1 52 x1.toNatClampNeg) = 0 then (2 : Int32) else 0))).toNatClampNeg)))), none, none, none] [.inl (if (σ.1 52 x1.toNatClampNeg) = 1 then (3 : Int32) else 1), .inl (4 * (σ.1 51 x1.toNatClampNeg)), .inr (.inr (54, none))] σ) ?_ ?_
        · by_cases hc337 : (σ.1 52 x1.toNatClampNeg) = 1
          · refine (if_pos hc337).trans ?_
            refine Eq.trans (b := am_r L 101 93 [some (.inr (.inr (50, none))), some (.inl x1), some (.inr (.inr (58, none))), some (.inl x3), some (.inl x4), some (.inl (σ.1 51 x1.toNatClampNeg)), some (.inl (if ((σ.1 52 x1.toNatClampNeg) - (σ.1 52 x1.toNatClampNeg) / 2 * 2) = 0 then (1 : Int32) else 0)), some (.inl (if (if ((σ.1 52 x1.toNatClampNeg) - (σ.1 52 x1.toNatClampNeg) / 2 * 2) = 0 then (1 : Int32) else 0) = 0 then (0 : Int32) else (σ.1 54 ((((4 * (σ.1 51 x1.toNatClampNeg)) + (if (σ.1 52 x1.toNatClampNeg) = 0 then (2 : Int32) else 0))).toNatClampNeg)))), none, none, none] [.inl 3, .inl (4 * (σ.1 51 x1.toNatClampNeg)), .inr (.inr (54, none))] σ) ?_ ?_
            · rfl
            · first | with_reducible rfl | simp only [if_pos hc337]
          · refine (if_neg hc337).trans ?_
            refine Eq.trans (b := am_r L 101 93 [some (.inr (.inr (50, none))), some (.inl x1), some (.inr (.inr (58, none))), some (.inl x3), some (.inl x4), some (.inl (σ.1 51 x1.toNatClampNeg)), some (.inl (if ((σ.1 52 x1.toNatClampNeg) - (σ.1 52 x1.toNatClampNeg) / 2 * 2) = 0 then (1 : Int32) else 0)), some (.inl (if (if ((σ.1 52 x1.toNatClampNeg) - (σ.1 52 x1.toNatClampNeg) / 2 * 2) = 0 then (1 : Int32) else 0) = 0 then (0 : Int32) else (σ.1 54 ((((4 * (σ.1 51 x1.toNatClampNeg)) + (if (σ.1 52 x1.toNatClampNeg) = 0 then (2 : Int32) else 0))).toNatClampNeg)))), none, none, none] [.inl 1, .inl (4 * (σ.1 51 x1.toNatClampNeg)), .inr (.inr (54, none))] σ) ?_ ?_
            · refine (e_101a58_92 _ _ _ _ _ _ _ _ _).trans ?_
              rfl
            · first | with_reducible rfl | simp only [if_neg hc337]
        refine (e_101a58_93 _ _ _ _ _ _ _ _ _ _).trans ?_
        refine (if_neg ((h.2.2.2.1 hc336).2)).trans ?_
        rfl
      · first | with_reducible rfl | simp only [if_pos hc336]
    · refine (if_neg hc336).trans ?_
      refine Eq.trans (b := am_r L 101 95 [some (.inr (.inr (50, none))), some (.inl x1), some (.inr (.inr (58, none))), some (.inl x3), some (.inl x4), some (.inl (σ.1 51 x1.toNatClampNeg)), some (.inl (if ((σ.1 52 x1.toNatClampNeg) - (σ.1 52 x1.toNatClampNeg) / 2 * 2) = 0 then (1 : Int32) else 0)), some (.inl (if (if ((σ.1 52 x1.toNatClampNeg) - (σ.1 52 x1.toNatClampNeg) / 2 * 2) = 0 then (1 : Int32) else 0) = 0 then (0 : Int32) else (σ.1 54 ((((4 * (σ.1 51 x1.toNatClampNeg)) + (if (σ.1 52 x1.toNatClampNeg) = 0 then (2 : Int32) else 0))).toNatClampNeg)))), none, none, none] [.inl 0] σ) ?_ ?_
      · rfl
      · first | with_reducible rfl | simp only [if_neg hc336]
  refine (e_101a58_95 _ _ _ _ _ _ _ _ _).trans ?_
  exact t_101a58_103 L σ 14 x1 x3 x4 (σ.1 51 x1.toNatClampNeg) (if ((σ.1 52 x1.toNatClampNeg) - (σ.1 52 x1.toNatClampNeg) / 2 * 2) = 0 then (1 : Int32) else 0) (if (if ((σ.1 52 x1.toNatClampNeg) - (σ.1 52 x1.toNatClampNeg) / 2 * 2) = 0 then (1 : Int32) else 0) = 0 then (0 : Int32) else (σ.1 54 ((((4 * (σ.1 51 x1.toNatClampNeg)) + (if (σ.1 52 x1.toNatClampNeg) = 0 then (2 : Int32) else 0))).toNatClampNeg))) (if (if ((σ.1 52 x1.toNatClampNeg) - (σ.1 52 x1.toNatClampNeg) / 2 * 2) = 0 then (1 : Int32) else 0) = 0 then ((σ.1 54 ((((4 * (σ.1 51 x1.toNatClampNeg)) + (if (σ.1 52 x1.toNatClampNeg) = 1 then (3 : Int32) else 1))).toNatClampNeg)) : Int32) else 0) 0 0 h.2.2.2.2
def v_101a58 (σ : am_M) (x1 : Int32) (x3 : Int32) (x4 : Int32) : Int32 := f_101a58 σ x1 x3 x4
theorem s_101a58 (L : Nat) (σ : am_M) (x1 : Int32) (x3 : Int32) (x4 : Int32) (h : p_101a58 σ x1 x3 x4) : am_r L 101 0 [some (.inr (.inr (50, none))), some (.inl x1), some (.inr (.inr (58, none))), some (.inl x3), some (.inl x4), none, none, none, none, none, none] [] σ = some (some (.inl (v_101a58 σ x1 x3 x4)), am_sh0 L, σ) := sf_101a58 L σ x1 x3 x4 h
-- 101a59: X5_lineAt
def l_101a59_103 : Nat → am_M → Int32 → Int32 → Int32 → Int32 → Int32 → Int32 → Int32 → Int32 → Int32 → Int32
  | 0, _, _, _, _, _, _, _, _, _, _ => 0
  | n + 1, σ, x1, x3, x4, x5, x6, x7, x8, x9, x10 => (if x10 < 3 then (l_101a59_103 n σ x1 x3 x4 x5 x6 x7 x8 (x9 + ((x4 * (σ.1 59 (((x3 + x10)).toNatClampNeg))) * (((σ.1 56 ((((3 * x5) + x10)).toNatClampNeg)) + (x7 * (σ.1 57 ((((3 * x5) + x10)).toNatClampNeg)))) + (x8 * (σ.1 58 ((((3 * x5) + x10)).toNatClampNeg)))))) (x10 + 1)) else x9)
def q_101a59_103 : Nat → am_M → Int32 → Int32 → Int32 → Int32 → Int32 → Int32 → Int32 → Int32 → Int32 → Prop
  | 0, _, _, _, _, _, _, _, _, _, _ => False
  | n + 1, σ, x1, x3, x4, x5, x6, x7, x8, x9, x10 => (x10 < 3) → ((¬ ((x3 + x10) < 0 ∨ 39 ≤ ((x3 + x10)).toNatClampNeg)) ∧ ((¬ (((3 * x5) + x10) < 0 ∨ 39 ≤ (((3 * x5) + x10)).toNatClampNeg)) ∧ ((¬ (((3 * x5) + x10) < 0 ∨ 39 ≤ (((3 * x5) + x10)).toNatClampNeg)) ∧ ((¬ (((3 * x5) + x10) < 0 ∨ 39 ≤ (((3 * x5) + x10)).toNatClampNeg)) ∧ (q_101a59_103 n σ x1 x3 x4 x5 x6 x7 x8 (x9 + ((x4 * (σ.1 59 (((x3 + x10)).toNatClampNeg))) * (((σ.1 56 ((((3 * x5) + x10)).toNatClampNeg)) + (x7 * (σ.1 57 ((((3 * x5) + x10)).toNatClampNeg)))) + (x8 * (σ.1 58 ((((3 * x5) + x10)).toNatClampNeg)))))) (x10 + 1))))))
set_option maxRecDepth 20000 in
theorem t_101a59_103 (L : Nat) (σ : am_M) : ∀ (n : Nat) (x1 : Int32) (x3 : Int32) (x4 : Int32) (x5 : Int32) (x6 : Int32) (x7 : Int32) (x8 : Int32) (x9 : Int32) (x10 : Int32), q_101a59_103 n σ x1 x3 x4 x5 x6 x7 x8 x9 x10 → am_r L 101 103 [some (.inr (.inr (50, none))), some (.inl x1), some (.inr (.inr (59, none))), some (.inl x3), some (.inl x4), some (.inl x5), some (.inl x6), some (.inl x7), some (.inl x8), some (.inl x9), some (.inl x10)] [] σ = some (some (.inl (l_101a59_103 n σ x1 x3 x4 x5 x6 x7 x8 x9 x10)), am_sh0 L, σ) := by
  intro n
  induction n with
  | zero => intro x1 x3 x4 x5 x6 x7 x8 x9 x10 h; exact h.elim
  | succ n ih =>
    intro x1 x3 x4 x5 x6 x7 x8 x9 x10 h
    unfold q_101a59_103 at h
    unfold l_101a59_103
    refine (e_101a59_103 _ _ _ _ _ _ _ _ _ _ _).trans ?_
    refine am_fkIv (fun hc338 => ?_) (fun hc338 => ?_)
    · refine (if_neg ((h hc338).1)).trans ?_
      refine (if_neg ((h hc338).2.1)).trans ?_
      refine (e_101a59_135 _ _ _ _ _ _ _ _ _ _ _ _ _ _ _).trans ?_
      refine (if_neg ((h hc338).2.2.1)).trans ?_
      refine (if_neg ((h hc338).2.2.2.1)).trans ?_
      refine (e_101a59_165 _ _ _ _ _ _ _ _ _ _ _ _ _).trans ?_
      exact ih x1 x3 x4 x5 x6 x7 x8 (x9 + ((x4 * (σ.1 59 (((x3 + x10)).toNatClampNeg))) * (((σ.1 56 ((((3 * x5) + x10)).toNatClampNeg)) + (x7 * (σ.1 57 ((((3 * x5) + x10)).toNatClampNeg)))) + (x8 * (σ.1 58 ((((3 * x5) + x10)).toNatClampNeg)))))) (x10 + 1) ((h hc338).2.2.2.2)
    · refine (e_101a59_174 _ _ _ _ _ _ _ _ _ _ _).trans ?_
      rfl
def p_101a59 (σ : am_M) (x1 : Int32) (x3 : Int32) (x4 : Int32) : Prop := (¬ (x1 < 0 ∨ 13 ≤ x1.toNatClampNeg)) ∧ ((¬ (x1 < 0 ∨ 13 ≤ x1.toNatClampNeg)) ∧ ((¬ ((if ((σ.1 52 x1.toNatClampNeg) - (σ.1 52 x1.toNatClampNeg) / 2 * 2) = 0 then (1 : Int32) else 0) = 0) → ((¬ (x1 < 0 ∨ 13 ≤ x1.toNatClampNeg)) ∧ (¬ (((4 * (σ.1 51 x1.toNatClampNeg)) + (if (σ.1 52 x1.toNatClampNeg) = 0 then (2 : Int32) else 0)) < 0 ∨ 52 ≤ (((4 * (σ.1 51 x1.toNatClampNeg)) + (if (σ.1 52 x1.toNatClampNeg) = 0 then (2 : Int32) else 0))).toNatClampNeg)))) ∧ ((((if ((σ.1 52 x1.toNatClampNeg) - (σ.1 52 x1.toNatClampNeg) / 2 * 2) = 0 then (1 : Int32) else 0) = 0) → ((¬ (x1 < 0 ∨ 13 ≤ x1.toNatClampNeg)) ∧ (¬ (((4 * (σ.1 51 x1.toNatClampNeg)) + (if (σ.1 52 x1.toNatClampNeg) = 1 then (3 : Int32) else 1)) < 0 ∨ 52 ≤ (((4 * (σ.1 51 x1.toNatClampNeg)) + (if (σ.1 52 x1.toNatClampNeg) = 1 then (3 : Int32) else 1))).toNatClampNeg)))) ∧ (q_101a59_103 14 σ x1 x3 x4 (σ.1 51 x1.toNatClampNeg) (if ((σ.1 52 x1.toNatClampNeg) - (σ.1 52 x1.toNatClampNeg) / 2 * 2) = 0 then (1 : Int32) else 0) (if (if ((σ.1 52 x1.toNatClampNeg) - (σ.1 52 x1.toNatClampNeg) / 2 * 2) = 0 then (1 : Int32) else 0) = 0 then (0 : Int32) else (σ.1 54 ((((4 * (σ.1 51 x1.toNatClampNeg)) + (if (σ.1 52 x1.toNatClampNeg) = 0 then (2 : Int32) else 0))).toNatClampNeg))) (if (if ((σ.1 52 x1.toNatClampNeg) - (σ.1 52 x1.toNatClampNeg) / 2 * 2) = 0 then (1 : Int32) else 0) = 0 then ((σ.1 54 ((((4 * (σ.1 51 x1.toNatClampNeg)) + (if (σ.1 52 x1.toNatClampNeg) = 1 then (3 : Int32) else 1))).toNatClampNeg)) : Int32) else 0) 0 0))))
def f_101a59 (σ : am_M) (x1 : Int32) (x3 : Int32) (x4 : Int32) : Int32 := (l_101a59_103 14 σ x1 x3 x4 (σ.1 51 x1.toNatClampNeg) (if ((σ.1 52 x1.toNatClampNeg) - (σ.1 52 x1.toNatClampNeg) / 2 * 2) = 0 then (1 : Int32) else 0) (if (if ((σ.1 52 x1.toNatClampNeg) - (σ.1 52 x1.toNatClampNeg) / 2 * 2) = 0 then (1 : Int32) else 0) = 0 then (0 : Int32) else (σ.1 54 ((((4 * (σ.1 51 x1.toNatClampNeg)) + (if (σ.1 52 x1.toNatClampNeg) = 0 then (2 : Int32) else 0))).toNatClampNeg))) (if (if ((σ.1 52 x1.toNatClampNeg) - (σ.1 52 x1.toNatClampNeg) / 2 * 2) = 0 then (1 : Int32) else 0) = 0 then ((σ.1 54 ((((4 * (σ.1 51 x1.toNatClampNeg)) + (if (σ.1 52 x1.toNatClampNeg) = 1 then (3 : Int32) else 1))).toNatClampNeg)) : Int32) else 0) 0 0)
set_option maxRecDepth 20000 in
theorem sf_101a59 (L : Nat) (σ : am_M) (x1 : Int32) (x3 : Int32) (x4 : Int32) (h : p_101a59 σ x1 x3 x4) : am_r L 101 0 [some (.inr (.inr (50, none))), some (.inl x1), some (.inr (.inr (59, none))), some (.inl x3), some (.inl x4), none, none, none, none, none, none] [] σ = some (some (.inl (f_101a59 σ x1 x3 x4)), am_sh0 L, σ) := by
  unfold p_101a59 at h
  unfold f_101a59
  refine (e_101a59_0 _ _ _ _ _).trans ?_
  refine (if_neg h.1).trans ?_
  refine (if_neg h.2.1).trans ?_
  refine Eq.trans (b := am_r L 101 24 [some (.inr (.inr (50, none))), some (.inl x1), some (.inr (.inr (59, none))), some (.inl x3), some (.inl x4), some (.inl (σ.1 51 x1.toNatClampNeg)), none, none, none, none, none] [.inl (if ((σ.1 52 x1.toNatClampNeg) - (σ.1 52 x1.toNatClampNeg) / 2 * 2) = 0 then (1 : Int32) else 0)] σ) ?_ ?_
  · by_cases hc339 : ((σ.1 52 x1.toNatClampNeg) - (σ.1 52 x1.toNatClampNeg) / 2 * 2) = 0
    · refine (if_pos hc339).trans ?_
      refine Eq.trans (b := am_r L 101 24 [some (.inr (.inr (50, none))), some (.inl x1), some (.inr (.inr (59, none))), some (.inl x3), some (.inl x4), some (.inl (σ.1 51 x1.toNatClampNeg)), none, none, none, none, none] [.inl 1] σ) ?_ ?_
      · rfl
      · first | with_reducible rfl | simp only [if_pos hc339]
    · refine (if_neg hc339).trans ?_
      refine Eq.trans (b := am_r L 101 24 [some (.inr (.inr (50, none))), some (.inl x1), some (.inr (.inr (59, none))), some (.inl x3), some (.inl x4), some (.inl (σ.1 51 x1.toNatClampNeg)), none, none, none, none, none] [.inl 0] σ) ?_ ?_
      · refine (e_101a59_23 _ _ _ _ _ _).trans ?_
        rfl
      · first | with_reducible rfl | simp only [if_neg hc339]
  refine (e_101a59_24 _ _ _ _ _ _ _).trans ?_
  refine Eq.trans (b := am_r L 101 59 [some (.inr (.inr (50, none))), some (.inl x1), some (.inr (.inr (59, none))), some (.inl x3), some (.inl x4), some (.inl (σ.1 51 x1.toNatClampNeg)), some (.inl (if ((σ.1 52 x1.toNatClampNeg) - (σ.1 52 x1.toNatClampNeg) / 2 * 2) = 0 then (1 : Int32) else 0)), none, none, none, none] [.inl (if (if ((σ.1 52 x1.toNatClampNeg) - (σ.1 52 x1.toNatClampNeg) / 2 * 2) = 0 then (1 : Int32) else 0) = 0 then (0 : Int32) else (σ.1 54 ((((4 * (σ.1 51 x1.toNatClampNeg)) + (if (σ.1 52 x1.toNatClampNeg) = 0 then (2 : Int32) else 0))).toNatClampNeg)))] σ) ?_ ?_
  · by_cases hc340 : (if ((σ.1 52 x1.toNatClampNeg) - (σ.1 52 x1.toNatClampNeg) / 2 * 2) = 0 then (1 : Int32) else 0) = 0
    · refine (if_pos hc340).trans ?_
      refine Eq.trans (b := am_r L 101 59 [some (.inr (.inr (50, none))), some (.inl x1), some (.inr (.inr (59, none))), some (.inl x3), some (.inl x4), some (.inl (σ.1 51 x1.toNatClampNeg)), some (.inl (if ((σ.1 52 x1.toNatClampNeg) - (σ.1 52 x1.toNatClampNeg) / 2 * 2) = 0 then (1 : Int32) else 0)), none, none, none, none] [.inl 0] σ) ?_ ?_
      · refine (e_101a59_58 _ _ _ _ _ _ _).trans ?_
        rfl
      · first | with_reducible rfl | simp only [if_pos hc340]
    · refine (if_neg hc340).trans ?_
      refine Eq.trans (b := am_r L 101 59 [some (.inr (.inr (50, none))), some (.inl x1), some (.inr (.inr (59, none))), some (.inl x3), some (.inl x4), some (.inl (σ.1 51 x1.toNatClampNeg)), some (.inl (if ((σ.1 52 x1.toNatClampNeg) - (σ.1 52 x1.toNatClampNeg) / 2 * 2) = 0 then (1 : Int32) else 0)), none, none, none, none] [.inl (σ.1 54 ((((4 * (σ.1 51 x1.toNatClampNeg)) + (if (σ.1 52 x1.toNatClampNeg) = 0 then (2 : Int32) else 0))).toNatClampNeg))] σ) ?_ ?_
      · refine (if_neg ((h.2.2.1 hc340).1)).trans ?_
        refine Eq.trans (b := am_r L 101 53 [some (.inr (.inr (50, none))), some (.inl x1), some (.inr (.inr (59, none))), some (.inl x3), some (.inl x4), some (.inl (σ.1 51 x1.toNatClampNeg)), some (.inl (if ((σ.1 52 x1.toNatClampNeg) - (σ.1 52 x1.toNatClampNeg) / 2 * 2) = 0 then (1 : Int32) else 0)), none, none, none, none] [.inl (if (σ.1 52 x1.toNatClampNeg) = 0 then (2 : Int32) else 0), .inl (4 * (σ.1 51 x1.toNatClampNeg)), .inr (.inr (54, none))] σ) ?_ ?_
        · by_cases hc341 : (σ.1 52 x1.toNatClampNeg) = 0
          · refine (if_pos hc341).trans ?_
            refine Eq.trans (b := am_r L 101 53 [some (.inr (.inr (50, none))), some (.inl x1), some (.inr (.inr (59, none))), some (.inl x3), some (.inl x4), some (.inl (σ.1 51 x1.toNatClampNeg)), some (.inl (if ((σ.1 52 x1.toNatClampNeg) - (σ.1 52 x1.toNatClampNeg) / 2 * 2) = 0 then (1 : Int32) else 0)), none, none, none, none] [.inl 2, .inl (4 * (σ.1 51 x1.toNatClampNeg)), .inr (.inr (54, none))] σ) ?_ ?_
            · rfl
            · first | with_reducible rfl | simp only [if_pos hc341]
          · refine (if_neg hc341).trans ?_
            refine Eq.trans (b := am_r L 101 53 [some (.inr (.inr (50, none))), some (.inl x1), some (.inr (.inr (59, none))), some (.inl x3), some (.inl x4), some (.inl (σ.1 51 x1.toNatClampNeg)), some (.inl (if ((σ.1 52 x1.toNatClampNeg) - (σ.1 52 x1.toNatClampNeg) / 2 * 2) = 0 then (1 : Int32) else 0)), none, none, none, none] [.inl 0, .inl (4 * (σ.1 51 x1.toNatClampNeg)), .inr (.inr (54, none))] σ) ?_ ?_
            · refine (e_101a59_52 _ _ _ _ _ _ _ _).trans ?_
              rfl
            · first | with_reducible rfl | simp only [if_neg hc341]
        refine (e_101a59_53 _ _ _ _ _ _ _ _ _).trans ?_
        refine (if_neg ((h.2.2.1 hc340).2)).trans ?_
        rfl
      · first | with_reducible rfl | simp only [if_neg hc340]
  refine (e_101a59_59 _ _ _ _ _ _ _ _).trans ?_
  refine Eq.trans (b := am_r L 101 95 [some (.inr (.inr (50, none))), some (.inl x1), some (.inr (.inr (59, none))), some (.inl x3), some (.inl x4), some (.inl (σ.1 51 x1.toNatClampNeg)), some (.inl (if ((σ.1 52 x1.toNatClampNeg) - (σ.1 52 x1.toNatClampNeg) / 2 * 2) = 0 then (1 : Int32) else 0)), some (.inl (if (if ((σ.1 52 x1.toNatClampNeg) - (σ.1 52 x1.toNatClampNeg) / 2 * 2) = 0 then (1 : Int32) else 0) = 0 then (0 : Int32) else (σ.1 54 ((((4 * (σ.1 51 x1.toNatClampNeg)) + (if (σ.1 52 x1.toNatClampNeg) = 0 then (2 : Int32) else 0))).toNatClampNeg)))), none, none, none] [.inl (if (if ((σ.1 52 x1.toNatClampNeg) - (σ.1 52 x1.toNatClampNeg) / 2 * 2) = 0 then (1 : Int32) else 0) = 0 then ((σ.1 54 ((((4 * (σ.1 51 x1.toNatClampNeg)) + (if (σ.1 52 x1.toNatClampNeg) = 1 then (3 : Int32) else 1))).toNatClampNeg)) : Int32) else 0)] σ) ?_ ?_
  · by_cases hc342 : (if ((σ.1 52 x1.toNatClampNeg) - (σ.1 52 x1.toNatClampNeg) / 2 * 2) = 0 then (1 : Int32) else 0) = 0
    · refine (if_pos hc342).trans ?_
      refine Eq.trans (b := am_r L 101 95 [some (.inr (.inr (50, none))), some (.inl x1), some (.inr (.inr (59, none))), some (.inl x3), some (.inl x4), some (.inl (σ.1 51 x1.toNatClampNeg)), some (.inl (if ((σ.1 52 x1.toNatClampNeg) - (σ.1 52 x1.toNatClampNeg) / 2 * 2) = 0 then (1 : Int32) else 0)), some (.inl (if (if ((σ.1 52 x1.toNatClampNeg) - (σ.1 52 x1.toNatClampNeg) / 2 * 2) = 0 then (1 : Int32) else 0) = 0 then (0 : Int32) else (σ.1 54 ((((4 * (σ.1 51 x1.toNatClampNeg)) + (if (σ.1 52 x1.toNatClampNeg) = 0 then (2 : Int32) else 0))).toNatClampNeg)))), none, none, none] [.inl (σ.1 54 ((((4 * (σ.1 51 x1.toNatClampNeg)) + (if (σ.1 52 x1.toNatClampNeg) = 1 then (3 : Int32) else 1))).toNatClampNeg))] σ) ?_ ?_
      · refine (e_101a59_70 _ _ _ _ _ _ _ _).trans ?_
        refine (if_neg ((h.2.2.2.1 hc342).1)).trans ?_
        refine Eq.trans (b := am_r L 101 93 [some (.inr (.inr (50, none))), some (.inl x1), some (.inr (.inr (59, none))), some (.inl x3), some (.inl x4), some (.inl (σ.1 51 x1.toNatClampNeg)), some (.inl (if ((σ.1 52 x1.toNatClampNeg) - (σ.1 52 x1.toNatClampNeg) / 2 * 2) = 0 then (1 : Int32) else 0)), some (.inl (if (if ((σ.1 52 x1.toNatClampNeg) - (σ.1 52 x1.toNatClampNeg) / 2 * 2) = 0 then (1 : Int32) else 0) = 0 then (0 : Int32) else (σ.1 54 ((((4 * (σ.1 51 x1.toNatClampNeg)) + (if (σ.1 52 x1.toNatClampNeg) = 0 then (2 : Int32) else 0))).toNatClampNeg)))), none, none, none] [.inl (if (σ.1 52 x1.toNatClampNeg) = 1 then (3 : Int32) else 1), .inl (4 * (σ.1 51 x1.toNatClampNeg)), .inr (.inr (54, none))] σ) ?_ ?_
        · by_cases hc343 : (σ.1 52 x1.toNatClampNeg) = 1
          · refine (if_pos hc343).trans ?_
            refine Eq.trans (b := am_r L 101 93 [some (.inr (.inr (50, none))), some (.inl x1), some (.inr (.inr (59, none))), some (.inl x3), some (.inl x4), some (.inl (σ.1 51 x1.toNatClampNeg)), some (.inl (if ((σ.1 52 x1.toNatClampNeg) - (σ.1 52 x1.toNatClampNeg) / 2 * 2) = 0 then (1 : Int32) else 0)), some (.inl (if (if ((σ.1 52 x1.toNatClampNeg) - (σ.1 52 x1.toNatClampNeg) / 2 * 2) = 0 then (1 : Int32) else 0) = 0 then (0 : Int32) else (σ.1 54 ((((4 * (σ.1 51 x1.toNatClampNeg)) + (if (σ.1 52 x1.toNatClampNeg) = 0 then (2 : Int32) else 0))).toNatClampNeg)))), none, none, none] [.inl 3, .inl (4 * (σ.1 51 x1.toNatClampNeg)), .inr (.inr (54, none))] σ) ?_ ?_
            · rfl
            · first | with_reducible rfl | simp only [if_pos hc343]
          · refine (if_neg hc343).trans ?_
            refine Eq.trans (b := am_r L 101 93 [some (.inr (.inr (50, none))), some (.inl x1), some (.inr (.inr (59, none))), some (.inl x3), some (.inl x4), some (.inl (σ.1 51 x1.toNatClampNeg)), some (.inl (if ((σ.1 52 x1.toNatClampNeg) - (σ.1 52 x1.toNatClampNeg) / 2 * 2) = 0 then (1 : Int32) else 0)), some (.inl (if (if ((σ.1 52 x1.toNatClampNeg) - (σ.1 52 x1.toNatClampNeg) / 2 * 2) = 0 then (1 : Int32) else 0) = 0 then (0 : Int32) else (σ.1 54 ((((4 * (σ.1 51 x1.toNatClampNeg)) + (if (σ.1 52 x1.toNatClampNeg) = 0 then (2 : Int32) else 0))).toNatClampNeg)))), none, none, none] [.inl 1, .inl (4 * (σ.1 51 x1.toNatClampNeg)), .inr (.inr (54, none))] σ) ?_ ?_
            · refine (e_101a59_92 _ _ _ _ _ _ _ _ _).trans ?_
              rfl
            · first | with_reducible rfl | simp only [if_neg hc343]
        refine (e_101a59_93 _ _ _ _ _ _ _ _ _ _).trans ?_
        refine (if_neg ((h.2.2.2.1 hc342).2)).trans ?_
        rfl
      · first | with_reducible rfl | simp only [if_pos hc342]
    · refine (if_neg hc342).trans ?_
      refine Eq.trans (b := am_r L 101 95 [some (.inr (.inr (50, none))), some (.inl x1), some (.inr (.inr (59, none))), some (.inl x3), some (.inl x4), some (.inl (σ.1 51 x1.toNatClampNeg)), some (.inl (if ((σ.1 52 x1.toNatClampNeg) - (σ.1 52 x1.toNatClampNeg) / 2 * 2) = 0 then (1 : Int32) else 0)), some (.inl (if (if ((σ.1 52 x1.toNatClampNeg) - (σ.1 52 x1.toNatClampNeg) / 2 * 2) = 0 then (1 : Int32) else 0) = 0 then (0 : Int32) else (σ.1 54 ((((4 * (σ.1 51 x1.toNatClampNeg)) + (if (σ.1 52 x1.toNatClampNeg) = 0 then (2 : Int32) else 0))).toNatClampNeg)))), none, none, none] [.inl 0] σ) ?_ ?_
      · rfl
      · first | with_reducible rfl | simp only [if_neg hc342]
  refine (e_101a59_95 _ _ _ _ _ _ _ _ _).trans ?_
  exact t_101a59_103 L σ 14 x1 x3 x4 (σ.1 51 x1.toNatClampNeg) (if ((σ.1 52 x1.toNatClampNeg) - (σ.1 52 x1.toNatClampNeg) / 2 * 2) = 0 then (1 : Int32) else 0) (if (if ((σ.1 52 x1.toNatClampNeg) - (σ.1 52 x1.toNatClampNeg) / 2 * 2) = 0 then (1 : Int32) else 0) = 0 then (0 : Int32) else (σ.1 54 ((((4 * (σ.1 51 x1.toNatClampNeg)) + (if (σ.1 52 x1.toNatClampNeg) = 0 then (2 : Int32) else 0))).toNatClampNeg))) (if (if ((σ.1 52 x1.toNatClampNeg) - (σ.1 52 x1.toNatClampNeg) / 2 * 2) = 0 then (1 : Int32) else 0) = 0 then ((σ.1 54 ((((4 * (σ.1 51 x1.toNatClampNeg)) + (if (σ.1 52 x1.toNatClampNeg) = 1 then (3 : Int32) else 1))).toNatClampNeg)) : Int32) else 0) 0 0 h.2.2.2.2
def v_101a59 (σ : am_M) (x1 : Int32) (x3 : Int32) (x4 : Int32) : Int32 := f_101a59 σ x1 x3 x4
theorem s_101a59 (L : Nat) (σ : am_M) (x1 : Int32) (x3 : Int32) (x4 : Int32) (h : p_101a59 σ x1 x3 x4) : am_r L 101 0 [some (.inr (.inr (50, none))), some (.inl x1), some (.inr (.inr (59, none))), some (.inl x3), some (.inl x4), none, none, none, none, none, none] [] σ = some (some (.inl (v_101a59 σ x1 x3 x4)), am_sh0 L, σ) := sf_101a59 L σ x1 x3 x4 h
-- 102: X5_findPlace
def p_102_160 (σ : am_M) (x1 : Int32) (x2 : Int32) (x3 : Int32) (x4 : Int32) (x5 : Int32) (x6 : Int32) : Prop := (p_101a59 σ x1 x3 x5) ∧ ((p_100a59 σ x2 x3 x5 0 (v_101a59 σ x1 x3 x5)) ∧ (p_100a59 (am_put σ 50 21 (v_100a59 σ x2 x3 x5 0 (v_101a59 σ x1 x3 x5))) x2 x3 x5 1 (v_101a59 σ x1 x3 x5)))
def w_102_160 (σ : am_M) (x1 : Int32) (x2 : Int32) (x3 : Int32) (x4 : Int32) (x5 : Int32) (x6 : Int32) : am_M := (am_put (am_put σ 50 21 (v_100a59 σ x2 x3 x5 0 (v_101a59 σ x1 x3 x5))) 50 22 (v_100a59 (am_put σ 50 21 (v_100a59 σ x2 x3 x5 0 (v_101a59 σ x1 x3 x5))) x2 x3 x5 1 (v_101a59 σ x1 x3 x5)))
set_option maxRecDepth 20000 in
theorem s_102_160 (L : Nat) (σ : am_M) (x1 : Int32) (x2 : Int32) (x3 : Int32) (x4 : Int32) (x5 : Int32) (x6 : Int32) (h : p_102_160 σ x1 x2 x3 x4 x5 x6) : am_r L 102 160 [some (.inr (.inr (50, none))), some (.inl x1), some (.inl x2), some (.inl x3), some (.inl x4), some (.inl x5), some (.inl x6)] [] σ = some (none, am_sh0 L, w_102_160 σ x1 x2 x3 x4 x5 x6) := by
  unfold p_102_160 at h
  unfold w_102_160
  refine (e_102_160 _ _ _ _ _ _ _ _).trans ?_
  refine (am_bind_i (s_101a59 L σ x1 x3 x5 h.1)).trans ?_
  refine (e_102_172 _ _ _ _ _ _ _ _ _).trans ?_
  refine (am_bind_i (s_100a59 L σ x2 x3 x5 0 (v_101a59 σ x1 x3 x5) h.2.1)).trans ?_
  refine (e_102_190 _ _ _ _ _ _ _ _ _).trans ?_
  refine (am_bind_i (s_100a59 L (am_put σ 50 21 (v_100a59 σ x2 x3 x5 0 (v_101a59 σ x1 x3 x5))) x2 x3 x5 1 (v_101a59 σ x1 x3 x5) h.2.2)).trans ?_
  refine (e_102_209 _ _ _ _ _ _ _ _ _).trans ?_
  rfl
def p_102 (σ : am_M) (x1 : Int32) (x2 : Int32) : Prop := (¬ (x1 < 0 ∨ 13 ≤ x1.toNatClampNeg)) ∧ ((¬ (x1 < 0 ∨ 13 ≤ x1.toNatClampNeg)) ∧ ((¬ (x1 < 0 ∨ 13 ≤ x1.toNatClampNeg)) ∧ ((¬ (x1 < 0 ∨ 13 ≤ x1.toNatClampNeg)) ∧ (((((σ.1 52 x1.toNatClampNeg) - (σ.1 52 x1.toNatClampNeg) / 2 * 2) = 0) → ((p_101a57 σ x1 (3 * (σ.1 51 x1.toNatClampNeg)) (if (σ.1 52 x1.toNatClampNeg) < 2 then (1 : Int32) else (-1))) ∧ ((p_100a57 σ x2 (3 * (σ.1 51 x1.toNatClampNeg)) (if (σ.1 52 x1.toNatClampNeg) < 2 then (1 : Int32) else (-1)) 0 (v_101a57 σ x1 (3 * (σ.1 51 x1.toNatClampNeg)) (if (σ.1 52 x1.toNatClampNeg) < 2 then (1 : Int32) else (-1)))) ∧ ((p_100a57 (am_put σ 50 19 (v_100a57 σ x2 (3 * (σ.1 51 x1.toNatClampNeg)) (if (σ.1 52 x1.toNatClampNeg) < 2 then (1 : Int32) else (-1)) 0 (v_101a57 σ x1 (3 * (σ.1 51 x1.toNatClampNeg)) (if (σ.1 52 x1.toNatClampNeg) < 2 then (1 : Int32) else (-1))))) x2 (3 * (σ.1 51 x1.toNatClampNeg)) (if (σ.1 52 x1.toNatClampNeg) < 2 then (1 : Int32) else (-1)) 1 (v_101a57 σ x1 (3 * (σ.1 51 x1.toNatClampNeg)) (if (σ.1 52 x1.toNatClampNeg) < 2 then (1 : Int32) else (-1)))) ∧ (p_102_160 (am_put (am_put σ 50 19 (v_100a57 σ x2 (3 * (σ.1 51 x1.toNatClampNeg)) (if (σ.1 52 x1.toNatClampNeg) < 2 then (1 : Int32) else (-1)) 0 (v_101a57 σ x1 (3 * (σ.1 51 x1.toNatClampNeg)) (if (σ.1 52 x1.toNatClampNeg) < 2 then (1 : Int32) else (-1))))) 50 20 (v_100a57 (am_put σ 50 19 (v_100a57 σ x2 (3 * (σ.1 51 x1.toNatClampNeg)) (if (σ.1 52 x1.toNatClampNeg) < 2 then (1 : Int32) else (-1)) 0 (v_101a57 σ x1 (3 * (σ.1 51 x1.toNatClampNeg)) (if (σ.1 52 x1.toNatClampNeg) < 2 then (1 : Int32) else (-1))))) x2 (3 * (σ.1 51 x1.toNatClampNeg)) (if (σ.1 52 x1.toNatClampNeg) < 2 then (1 : Int32) else (-1)) 1 (v_101a57 σ x1 (3 * (σ.1 51 x1.toNatClampNeg)) (if (σ.1 52 x1.toNatClampNeg) < 2 then (1 : Int32) else (-1))))) x1 x2 (3 * (σ.1 51 x1.toNatClampNeg)) (if (σ.1 52 x1.toNatClampNeg) < 2 then (1 : Int32) else (-1)) (if (σ.1 53 x1.toNatClampNeg) = 0 then ((-1) : Int32) else 1) (v_101a57 σ x1 (3 * (σ.1 51 x1.toNatClampNeg)) (if (σ.1 52 x1.toNatClampNeg) < 2 then (1 : Int32) else (-1)))))))) ∧ (¬ (((σ.1 52 x1.toNatClampNeg) - (σ.1 52 x1.toNatClampNeg) / 2 * 2) = 0) → ((p_101a58 σ x1 (3 * (σ.1 51 x1.toNatClampNeg)) (if (σ.1 52 x1.toNatClampNeg) < 2 then (1 : Int32) else (-1))) ∧ ((p_100a58 σ x2 (3 * (σ.1 51 x1.toNatClampNeg)) (if (σ.1 52 x1.toNatClampNeg) < 2 then (1 : Int32) else (-1)) 0 (v_101a58 σ x1 (3 * (σ.1 51 x1.toNatClampNeg)) (if (σ.1 52 x1.toNatClampNeg) < 2 then (1 : Int32) else (-1)))) ∧ ((p_100a58 (am_put σ 50 19 (v_100a58 σ x2 (3 * (σ.1 51 x1.toNatClampNeg)) (if (σ.1 52 x1.toNatClampNeg) < 2 then (1 : Int32) else (-1)) 0 (v_101a58 σ x1 (3 * (σ.1 51 x1.toNatClampNeg)) (if (σ.1 52 x1.toNatClampNeg) < 2 then (1 : Int32) else (-1))))) x2 (3 * (σ.1 51 x1.toNatClampNeg)) (if (σ.1 52 x1.toNatClampNeg) < 2 then (1 : Int32) else (-1)) 1 (v_101a58 σ x1 (3 * (σ.1 51 x1.toNatClampNeg)) (if (σ.1 52 x1.toNatClampNeg) < 2 then (1 : Int32) else (-1)))) ∧ (p_102_160 (am_put (am_put σ 50 19 (v_100a58 σ x2 (3 * (σ.1 51 x1.toNatClampNeg)) (if (σ.1 52 x1.toNatClampNeg) < 2 then (1 : Int32) else (-1)) 0 (v_101a58 σ x1 (3 * (σ.1 51 x1.toNatClampNeg)) (if (σ.1 52 x1.toNatClampNeg) < 2 then (1 : Int32) else (-1))))) 50 20 (v_100a58 (am_put σ 50 19 (v_100a58 σ x2 (3 * (σ.1 51 x1.toNatClampNeg)) (if (σ.1 52 x1.toNatClampNeg) < 2 then (1 : Int32) else (-1)) 0 (v_101a58 σ x1 (3 * (σ.1 51 x1.toNatClampNeg)) (if (σ.1 52 x1.toNatClampNeg) < 2 then (1 : Int32) else (-1))))) x2 (3 * (σ.1 51 x1.toNatClampNeg)) (if (σ.1 52 x1.toNatClampNeg) < 2 then (1 : Int32) else (-1)) 1 (v_101a58 σ x1 (3 * (σ.1 51 x1.toNatClampNeg)) (if (σ.1 52 x1.toNatClampNeg) < 2 then (1 : Int32) else (-1))))) x1 x2 (3 * (σ.1 51 x1.toNatClampNeg)) (if (σ.1 52 x1.toNatClampNeg) < 2 then (1 : Int32) else (-1)) (if (σ.1 53 x1.toNatClampNeg) = 0 then ((-1) : Int32) else 1) (v_101a58 σ x1 (3 * (σ.1 51 x1.toNatClampNeg)) (if (σ.1 52 x1.toNatClampNeg) < 2 then (1 : Int32) else (-1))))))))))))
def w_102 (σ : am_M) (x1 : Int32) (x2 : Int32) : am_M := (if ((σ.1 52 x1.toNatClampNeg) - (σ.1 52 x1.toNatClampNeg) / 2 * 2) = 0 then (w_102_160 (am_put (am_put σ 50 19 (v_100a57 σ x2 (3 * (σ.1 51 x1.toNatClampNeg)) (if (σ.1 52 x1.toNatClampNeg) < 2 then (1 : Int32) else (-1)) 0 (v_101a57 σ x1 (3 * (σ.1 51 x1.toNatClampNeg)) (if (σ.1 52 x1.toNatClampNeg) < 2 then (1 : Int32) else (-1))))) 50 20 (v_100a57 (am_put σ 50 19 (v_100a57 σ x2 (3 * (σ.1 51 x1.toNatClampNeg)) (if (σ.1 52 x1.toNatClampNeg) < 2 then (1 : Int32) else (-1)) 0 (v_101a57 σ x1 (3 * (σ.1 51 x1.toNatClampNeg)) (if (σ.1 52 x1.toNatClampNeg) < 2 then (1 : Int32) else (-1))))) x2 (3 * (σ.1 51 x1.toNatClampNeg)) (if (σ.1 52 x1.toNatClampNeg) < 2 then (1 : Int32) else (-1)) 1 (v_101a57 σ x1 (3 * (σ.1 51 x1.toNatClampNeg)) (if (σ.1 52 x1.toNatClampNeg) < 2 then (1 : Int32) else (-1))))) x1 x2 (3 * (σ.1 51 x1.toNatClampNeg)) (if (σ.1 52 x1.toNatClampNeg) < 2 then (1 : Int32) else (-1)) (if (σ.1 53 x1.toNatClampNeg) = 0 then ((-1) : Int32) else 1) (v_101a57 σ x1 (3 * (σ.1 51 x1.toNatClampNeg)) (if (σ.1 52 x1.toNatClampNeg) < 2 then (1 : Int32) else (-1)))) else (w_102_160 (am_put (am_put σ 50 19 (v_100a58 σ x2 (3 * (σ.1 51 x1.toNatClampNeg)) (if (σ.1 52 x1.toNatClampNeg) < 2 then (1 : Int32) else (-1)) 0 (v_101a58 σ x1 (3 * (σ.1 51 x1.toNatClampNeg)) (if (σ.1 52 x1.toNatClampNeg) < 2 then (1 : Int32) else (-1))))) 50 20 (v_100a58 (am_put σ 50 19 (v_100a58 σ x2 (3 * (σ.1 51 x1.toNatClampNeg)) (if (σ.1 52 x1.toNatClampNeg) < 2 then (1 : Int32) else (-1)) 0 (v_101a58 σ x1 (3 * (σ.1 51 x1.toNatClampNeg)) (if (σ.1 52 x1.toNatClampNeg) < 2 then (1 : Int32) else (-1))))) x2 (3 * (σ.1 51 x1.toNatClampNeg)) (if (σ.1 52 x1.toNatClampNeg) < 2 then (1 : Int32) else (-1)) 1 (v_101a58 σ x1 (3 * (σ.1 51 x1.toNatClampNeg)) (if (σ.1 52 x1.toNatClampNeg) < 2 then (1 : Int32) else (-1))))) x1 x2 (3 * (σ.1 51 x1.toNatClampNeg)) (if (σ.1 52 x1.toNatClampNeg) < 2 then (1 : Int32) else (-1)) (if (σ.1 53 x1.toNatClampNeg) = 0 then ((-1) : Int32) else 1) (v_101a58 σ x1 (3 * (σ.1 51 x1.toNatClampNeg)) (if (σ.1 52 x1.toNatClampNeg) < 2 then (1 : Int32) else (-1)))))
set_option maxRecDepth 20000 in
theorem s_102 (L : Nat) (σ : am_M) (x1 : Int32) (x2 : Int32) (h : p_102 σ x1 x2) : am_r L 102 0 [some (.inr (.inr (50, none))), some (.inl x1), some (.inl x2), none, none, none, none] [] σ = some (none, am_sh0 L, w_102 σ x1 x2) := by
  unfold p_102 at h
  unfold w_102
  refine (e_102_0 _ _ _ _).trans ?_
  refine (if_neg h.1).trans ?_
  refine (if_neg h.2.1).trans ?_
  refine Eq.trans (b := am_r L 102 24 [some (.inr (.inr (50, none))), some (.inl x1), some (.inl x2), some (.inl (3 * (σ.1 51 x1.toNatClampNeg))), none, none, none] [.inl (if (σ.1 52 x1.toNatClampNeg) < 2 then (1 : Int32) else (-1))] σ) ?_ ?_
  · by_cases hc344 : (σ.1 52 x1.toNatClampNeg) < 2
    · refine (if_pos hc344).trans ?_
      refine Eq.trans (b := am_r L 102 24 [some (.inr (.inr (50, none))), some (.inl x1), some (.inl x2), some (.inl (3 * (σ.1 51 x1.toNatClampNeg))), none, none, none] [.inl 1] σ) ?_ ?_
      · rfl
      · first | with_reducible rfl | simp only [if_pos hc344]
    · refine (if_neg hc344).trans ?_
      refine Eq.trans (b := am_r L 102 24 [some (.inr (.inr (50, none))), some (.inl x1), some (.inl x2), some (.inl (3 * (σ.1 51 x1.toNatClampNeg))), none, none, none] [.inl (-1)] σ) ?_ ?_
      · refine (e_102_23 _ _ _ _ _).trans ?_
        rfl
      · first | with_reducible rfl | simp only [if_neg hc344]
  refine (e_102_24 _ _ _ _ _ _).trans ?_
  refine (if_neg h.2.2.1).trans ?_
  refine Eq.trans (b := am_r L 102 40 [some (.inr (.inr (50, none))), some (.inl x1), some (.inl x2), some (.inl (3 * (σ.1 51 x1.toNatClampNeg))), some (.inl (if (σ.1 52 x1.toNatClampNeg) < 2 then (1 : Int32) else (-1))), none, none] [.inl (if (σ.1 53 x1.toNatClampNeg) = 0 then ((-1) : Int32) else 1)] σ) ?_ ?_
  · by_cases hc345 : (σ.1 53 x1.toNatClampNeg) = 0
    · refine (if_pos hc345).trans ?_
      refine Eq.trans (b := am_r L 102 40 [some (.inr (.inr (50, none))), some (.inl x1), some (.inl x2), some (.inl (3 * (σ.1 51 x1.toNatClampNeg))), some (.inl (if (σ.1 52 x1.toNatClampNeg) < 2 then (1 : Int32) else (-1))), none, none] [.inl (-1)] σ) ?_ ?_
      · refine (e_102_39 _ _ _ _ _ _).trans ?_
        rfl
      · first | with_reducible rfl | simp only [if_pos hc345]
    · refine (if_neg hc345).trans ?_
      refine Eq.trans (b := am_r L 102 40 [some (.inr (.inr (50, none))), some (.inl x1), some (.inl x2), some (.inl (3 * (σ.1 51 x1.toNatClampNeg))), some (.inl (if (σ.1 52 x1.toNatClampNeg) < 2 then (1 : Int32) else (-1))), none, none] [.inl 1] σ) ?_ ?_
      · rfl
      · first | with_reducible rfl | simp only [if_neg hc345]
  refine (e_102_40 _ _ _ _ _ _ _).trans ?_
  refine (if_neg h.2.2.2.1).trans ?_
  refine am_fkVm (fun hc346 => ?_) (fun hc346 => ?_)
  · refine (am_bind_i (s_101a57 L σ x1 (3 * (σ.1 51 x1.toNatClampNeg)) (if (σ.1 52 x1.toNatClampNeg) < 2 then (1 : Int32) else (-1)) ((h.2.2.2.2.1 hc346).1))).trans ?_
    refine (e_102_65 _ _ _ _ _ _ _ _).trans ?_
    refine (am_bind_i (s_100a57 L σ x2 (3 * (σ.1 51 x1.toNatClampNeg)) (if (σ.1 52 x1.toNatClampNeg) < 2 then (1 : Int32) else (-1)) 0 (v_101a57 σ x1 (3 * (σ.1 51 x1.toNatClampNeg)) (if (σ.1 52 x1.toNatClampNeg) < 2 then (1 : Int32) else (-1))) ((h.2.2.2.2.1 hc346).2.1))).trans ?_
    refine (e_102_83 _ _ _ _ _ _ _ _ _).trans ?_
    refine (am_bind_i (s_100a57 L (am_put σ 50 19 (v_100a57 σ x2 (3 * (σ.1 51 x1.toNatClampNeg)) (if (σ.1 52 x1.toNatClampNeg) < 2 then (1 : Int32) else (-1)) 0 (v_101a57 σ x1 (3 * (σ.1 51 x1.toNatClampNeg)) (if (σ.1 52 x1.toNatClampNeg) < 2 then (1 : Int32) else (-1))))) x2 (3 * (σ.1 51 x1.toNatClampNeg)) (if (σ.1 52 x1.toNatClampNeg) < 2 then (1 : Int32) else (-1)) 1 (v_101a57 σ x1 (3 * (σ.1 51 x1.toNatClampNeg)) (if (σ.1 52 x1.toNatClampNeg) < 2 then (1 : Int32) else (-1))) ((h.2.2.2.2.1 hc346).2.2.1))).trans ?_
    refine (e_102_102 _ _ _ _ _ _ _ _ _).trans ?_
    exact s_102_160 L (am_put (am_put σ 50 19 (v_100a57 σ x2 (3 * (σ.1 51 x1.toNatClampNeg)) (if (σ.1 52 x1.toNatClampNeg) < 2 then (1 : Int32) else (-1)) 0 (v_101a57 σ x1 (3 * (σ.1 51 x1.toNatClampNeg)) (if (σ.1 52 x1.toNatClampNeg) < 2 then (1 : Int32) else (-1))))) 50 20 (v_100a57 (am_put σ 50 19 (v_100a57 σ x2 (3 * (σ.1 51 x1.toNatClampNeg)) (if (σ.1 52 x1.toNatClampNeg) < 2 then (1 : Int32) else (-1)) 0 (v_101a57 σ x1 (3 * (σ.1 51 x1.toNatClampNeg)) (if (σ.1 52 x1.toNatClampNeg) < 2 then (1 : Int32) else (-1))))) x2 (3 * (σ.1 51 x1.toNatClampNeg)) (if (σ.1 52 x1.toNatClampNeg) < 2 then (1 : Int32) else (-1)) 1 (v_101a57 σ x1 (3 * (σ.1 51 x1.toNatClampNeg)) (if (σ.1 52 x1.toNatClampNeg) < 2 then (1 : Int32) else (-1))))) x1 x2 (3 * (σ.1 51 x1.toNatClampNeg)) (if (σ.1 52 x1.toNatClampNeg) < 2 then (1 : Int32) else (-1)) (if (σ.1 53 x1.toNatClampNeg) = 0 then ((-1) : Int32) else 1) (v_101a57 σ x1 (3 * (σ.1 51 x1.toNatClampNeg)) (if (σ.1 52 x1.toNatClampNeg) < 2 then (1 : Int32) else (-1))) ((h.2.2.2.2.1 hc346).2.2.2)
  · refine (e_102_108 _ _ _ _ _ _ _).trans ?_
    refine (am_bind_i (s_101a58 L σ x1 (3 * (σ.1 51 x1.toNatClampNeg)) (if (σ.1 52 x1.toNatClampNeg) < 2 then (1 : Int32) else (-1)) ((h.2.2.2.2.2 hc346).1))).trans ?_
    refine (e_102_120 _ _ _ _ _ _ _ _).trans ?_
    refine (am_bind_i (s_100a58 L σ x2 (3 * (σ.1 51 x1.toNatClampNeg)) (if (σ.1 52 x1.toNatClampNeg) < 2 then (1 : Int32) else (-1)) 0 (v_101a58 σ x1 (3 * (σ.1 51 x1.toNatClampNeg)) (if (σ.1 52 x1.toNatClampNeg) < 2 then (1 : Int32) else (-1))) ((h.2.2.2.2.2 hc346).2.1))).trans ?_
    refine (e_102_138 _ _ _ _ _ _ _ _ _).trans ?_
    refine (am_bind_i (s_100a58 L (am_put σ 50 19 (v_100a58 σ x2 (3 * (σ.1 51 x1.toNatClampNeg)) (if (σ.1 52 x1.toNatClampNeg) < 2 then (1 : Int32) else (-1)) 0 (v_101a58 σ x1 (3 * (σ.1 51 x1.toNatClampNeg)) (if (σ.1 52 x1.toNatClampNeg) < 2 then (1 : Int32) else (-1))))) x2 (3 * (σ.1 51 x1.toNatClampNeg)) (if (σ.1 52 x1.toNatClampNeg) < 2 then (1 : Int32) else (-1)) 1 (v_101a58 σ x1 (3 * (σ.1 51 x1.toNatClampNeg)) (if (σ.1 52 x1.toNatClampNeg) < 2 then (1 : Int32) else (-1))) ((h.2.2.2.2.2 hc346).2.2.1))).trans ?_
    refine (e_102_157 _ _ _ _ _ _ _ _ _).trans ?_
    exact s_102_160 L (am_put (am_put σ 50 19 (v_100a58 σ x2 (3 * (σ.1 51 x1.toNatClampNeg)) (if (σ.1 52 x1.toNatClampNeg) < 2 then (1 : Int32) else (-1)) 0 (v_101a58 σ x1 (3 * (σ.1 51 x1.toNatClampNeg)) (if (σ.1 52 x1.toNatClampNeg) < 2 then (1 : Int32) else (-1))))) 50 20 (v_100a58 (am_put σ 50 19 (v_100a58 σ x2 (3 * (σ.1 51 x1.toNatClampNeg)) (if (σ.1 52 x1.toNatClampNeg) < 2 then (1 : Int32) else (-1)) 0 (v_101a58 σ x1 (3 * (σ.1 51 x1.toNatClampNeg)) (if (σ.1 52 x1.toNatClampNeg) < 2 then (1 : Int32) else (-1))))) x2 (3 * (σ.1 51 x1.toNatClampNeg)) (if (σ.1 52 x1.toNatClampNeg) < 2 then (1 : Int32) else (-1)) 1 (v_101a58 σ x1 (3 * (σ.1 51 x1.toNatClampNeg)) (if (σ.1 52 x1.toNatClampNeg) < 2 then (1 : Int32) else (-1))))) x1 x2 (3 * (σ.1 51 x1.toNatClampNeg)) (if (σ.1 52 x1.toNatClampNeg) < 2 then (1 : Int32) else (-1)) (if (σ.1 53 x1.toNatClampNeg) = 0 then ((-1) : Int32) else 1) (v_101a58 σ x1 (3 * (σ.1 51 x1.toNatClampNeg)) (if (σ.1 52 x1.toNatClampNeg) < 2 then (1 : Int32) else (-1))) ((h.2.2.2.2.2 hc346).2.2.2)
