-- 50: X4_panel
def p_50 (σ : am_M) (x1 : Int32) (x2 : Int32) (x3 : Int32) (x4 : Int32) (x5 : Int32) (x6 : Int32) : Prop := ((σ.1 2 0) < 13) → (¬ ((v_67 σ x6 0 1) = 0) → ((p_34 σ x1 x2) ∧ (¬ ((v_34 σ x1 x2) = 0) → (¬ ((v_67 σ x4 1 2000) = 0) → (¬ ((v_67 σ x5 1 2000) = 0) → ((p_32 σ x1 x2) ∧ (¬ ((v_67 σ x3 0 ((v_32 σ x1 x2) - x4)) = 0) → (p_35 (am_put σ 1 9 0) x1 x2 x3 x4 x5 (if x6 = 1 then (1 : Int32) else 0)))))))))
def v_50 (σ : am_M) (x1 : Int32) (x2 : Int32) (x3 : Int32) (x4 : Int32) (x5 : Int32) (x6 : Int32) : Int32 := (if (σ.1 2 0) < 13 then (if (v_67 σ x6 0 1) = 0 then (-1) else (if (v_34 σ x1 x2) = 0 then (-1) else (if (v_67 σ x4 1 2000) = 0 then (-1) else (if (v_67 σ x5 1 2000) = 0 then (-1) else (if (v_67 σ x3 0 ((v_32 σ x1 x2) - x4)) = 0 then (-1) else (v_35 (am_put σ 1 9 0) x1 x2 x3 x4 x5 (if x6 = 1 then (1 : Int32) else 0))))))) else (-1))
def w_50 (σ : am_M) (x1 : Int32) (x2 : Int32) (x3 : Int32) (x4 : Int32) (x5 : Int32) (x6 : Int32) : am_M := (if (σ.1 2 0) < 13 then (if (v_67 σ x6 0 1) = 0 then σ else (if (v_34 σ x1 x2) = 0 then σ else (if (v_67 σ x4 1 2000) = 0 then σ else (if (v_67 σ x5 1 2000) = 0 then σ else (if (v_67 σ x3 0 ((v_32 σ x1 x2) - x4)) = 0 then σ else (w_35 (am_put σ 1 9 0) x1 x2 x3 x4 x5 (if x6 = 1 then (1 : Int32) else 0))))))) else σ)
set_option maxRecDepth 20000 in
theorem s_50 (L : Nat) (σ : am_M) (x1 : Int32) (x2 : Int32) (x3 : Int32) (x4 : Int32) (x5 : Int32) (x6 : Int32) (h : p_50 σ x1 x2 x3 x4 x5 x6) : am_r L 50 0 [some (.inr (.inr (1, none))), some (.inl x1), some (.inl x2), some (.inl x3), some (.inl x4), some (.inl x5), some (.inl x6)] [] σ = some (some (.inl (v_50 σ x1 x2 x3 x4 x5 x6)), am_sh0 L, w_50 σ x1 x2 x3 x4 x5 x6) := by
  unfold p_50 at h
  unfold v_50 w_50
  refine (e_50_0 _ _ _ _ _ _ _ _).trans ?_
  by_cases hc18 : (σ.1 2 0) < 13
  · simp only [if_pos hc18]
    all_goals
      refine (am_bind_i (s_67 L σ x6 0 1)).trans ?_
      refine (e_50_19 _ _ _ _ _ _ _ _ _).trans ?_
      by_cases hc19 : (v_67 σ x6 0 1) = 0
      · simp only [if_pos hc19]
        all_goals
          refine (e_50_34 _ _ _ _ _ _ _ _).trans ?_
          rfl
      · simp only [if_neg hc19]
        all_goals
          refine (am_bind_i (s_34 L σ x1 x2 (((h hc18) hc19).1))).trans ?_
          refine (e_50_31 _ _ _ _ _ _ _ _ _).trans ?_
          by_cases hc20 : (v_34 σ x1 x2) = 0
          · simp only [if_pos hc20]
            all_goals
              refine (e_50_34 _ _ _ _ _ _ _ _).trans ?_
              rfl
          · simp only [if_neg hc20]
            all_goals
              refine (e_50_36 _ _ _ _ _ _ _ _).trans ?_
              refine (am_bind_i (s_67 L σ x4 1 2000)).trans ?_
              refine (e_50_45 _ _ _ _ _ _ _ _ _).trans ?_
              by_cases hc21 : (v_67 σ x4 1 2000) = 0
              · simp only [if_pos hc21]
                all_goals
                  refine (e_50_60 _ _ _ _ _ _ _ _).trans ?_
                  rfl
              · simp only [if_neg hc21]
                all_goals
                  refine (am_bind_i (s_67 L σ x5 1 2000)).trans ?_
                  refine (e_50_57 _ _ _ _ _ _ _ _ _).trans ?_
                  by_cases hc22 : (v_67 σ x5 1 2000) = 0
                  · simp only [if_pos hc22]
                    all_goals
                      refine (e_50_60 _ _ _ _ _ _ _ _).trans ?_
                      rfl
                  · simp only [if_neg hc22]
                    all_goals
                      refine (e_50_62 _ _ _ _ _ _ _ _).trans ?_
                      refine (am_bind_i (s_32 L σ x1 x2 ((((((h hc18) hc19).2 hc20) hc21) hc22).1))).trans ?_
                      refine (e_50_73 _ _ _ _ _ _ _ _ _ _ _).trans ?_
                      refine (am_bind_i (s_67 L σ x3 0 ((v_32 σ x1 x2) - x4))).trans ?_
                      refine (e_50_79 _ _ _ _ _ _ _ _ _).trans ?_
                      by_cases hc23 : (v_67 σ x3 0 ((v_32 σ x1 x2) - x4)) = 0
                      · simp only [if_pos hc23]
                        all_goals
                          rfl
                      · simp only [if_neg hc23]
                        all_goals
                          refine (e_50_84 _ _ _ _ _ _ _ _).trans ?_
                          refine Eq.trans (b := am_r L 50 111 [some (.inr (.inr (1, none))), some (.inl x1), some (.inl x2), some (.inl x3), some (.inl x4), some (.inl x5), some (.inl x6)] [.inl (if x6 = 1 then (1 : Int32) else 0), .inl x5, .inl x4, .inl x3, .inl x2, .inl x1, .inr (.inr (2, none))] (am_put σ 1 9 0)) ?_ ?_
                          · by_cases hc24 : x6 = 1
                            · simp only [if_pos hc24]
                              all_goals
                                rfl
                            · simp only [if_neg hc24]
                              all_goals
                                refine (e_50_110 _ _ _ _ _ _ _ _ _ _ _ _ _).trans ?_
                                rfl
                          refine (e_50_111 _ _ _ _ _ _ _ _ _ _ _ _ _ _).trans ?_
                          refine (am_bind_i (s_35 L (am_put σ 1 9 0) x1 x2 x3 x4 x5 (if x6 = 1 then (1 : Int32) else 0) (((((((h hc18) hc19).2 hc20) hc21) hc22).2 hc23)))).trans ?_
                          refine (e_50_114 _ _ _ _ _ _ _ _ _).trans ?_
                          rfl
  · simp only [if_neg hc18]
    all_goals
      refine (e_50_34 _ _ _ _ _ _ _ _).trans ?_
      rfl
-- 51: X4_deduction
def v_51 (σ : am_M) (x1 : Int32) : Int32 := (if (v_67 σ x1 0 400) = 0 then 0 else (if (x1 &&& 1) = 0 then 1 else 0))
def w_51 (σ : am_M) (x1 : Int32) : am_M := (if (v_67 σ x1 0 400) = 0 then σ else (if (x1 &&& 1) = 0 then (am_put σ 1 4 x1) else σ))
set_option maxRecDepth 20000 in
theorem s_51 (L : Nat) (σ : am_M) (x1 : Int32) : am_r L 51 0 [some (.inr (.inr (1, none))), some (.inl x1)] [] σ = some (some (.inl (v_51 σ x1)), am_sh0 L, w_51 σ x1) := by
  unfold v_51 w_51
  refine (e_51_0 _ _ _).trans ?_
  refine (am_bind_i (s_67 L σ x1 0 400)).trans ?_
  refine (e_51_8 _ _ _ _).trans ?_
  by_cases hc25 : (v_67 σ x1 0 400) = 0
  · simp only [if_pos hc25]
    all_goals
      refine (e_51_17 _ _ _).trans ?_
      rfl
  · simp only [if_neg hc25]
    all_goals
      by_cases hc26 : (x1 &&& 1) = 0
      · simp only [if_pos hc26]
        all_goals
          refine (e_51_19 _ _ _).trans ?_
          rfl
      · simp only [if_neg hc26]
        all_goals
          refine (e_51_17 _ _ _).trans ?_
          rfl
-- 52: X4_gauge
def v_52 (σ : am_M) (x1 : Int32) : Int32 := (if (v_67 σ x1 1 4000) = 0 then 0 else 1)
def w_52 (σ : am_M) (x1 : Int32) : am_M := (if (v_67 σ x1 1 4000) = 0 then σ else (am_put (am_put σ 1 5 x1) 1 9 0))
set_option maxRecDepth 20000 in
theorem s_52 (L : Nat) (σ : am_M) (x1 : Int32) : am_r L 52 0 [some (.inr (.inr (1, none))), some (.inl x1)] [] σ = some (some (.inl (v_52 σ x1)), am_sh0 L, w_52 σ x1) := by
  unfold v_52 w_52
  refine (e_52_0 _ _ _).trans ?_
  refine (am_bind_i (s_67 L σ x1 1 4000)).trans ?_
  refine (e_52_8 _ _ _ _).trans ?_
  by_cases hc27 : (v_67 σ x1 1 4000) = 0
  · simp only [if_pos hc27]
    all_goals
      rfl
  · simp only [if_neg hc27]
    all_goals
      refine (e_52_13 _ _ _).trans ?_
      rfl
-- 38: X2_turnOver
def l_38_11 : Nat → am_M → Int32 → Int32 → am_M
  | 0, σ, x1, x2 => σ
  | n + 1, σ, x1, x2 => (if x2 < (σ.1 2 0) then (if 0 < x2 then (l_38_11 n (am_put (am_put (am_put (am_put (am_put σ 8 x2.toNatClampNeg (x1 - (σ.1 10 x2.toNatClampNeg))) 10 x2.toNatClampNeg (x1 - (σ.1 8 x2.toNatClampNeg))) 6 x2.toNatClampNeg ((((σ.1 6 x2.toNatClampNeg) &&& 10) ||| ((((σ.1 6 x2.toNatClampNeg) >>> (2 &&& 31)) &&& 1) <<< (0 &&& 31))) ||| ((((σ.1 6 x2.toNatClampNeg) >>> (0 &&& 31)) &&& 1) <<< (2 &&& 31)))) 4 x2.toNatClampNeg (if (v_70 (am_put (am_put (am_put σ 8 x2.toNatClampNeg (x1 - (σ.1 10 x2.toNatClampNeg))) 10 x2.toNatClampNeg (x1 - (σ.1 8 x2.toNatClampNeg))) 6 x2.toNatClampNeg ((((σ.1 6 x2.toNatClampNeg) &&& 10) ||| ((((σ.1 6 x2.toNatClampNeg) >>> (2 &&& 31)) &&& 1) <<< (0 &&& 31))) ||| ((((σ.1 6 x2.toNatClampNeg) >>> (0 &&& 31)) &&& 1) <<< (2 &&& 31)))) (σ.1 4 x2.toNatClampNeg)) = 0 then ((σ.1 4 x2.toNatClampNeg) : Int32) else (v_68 (am_put (am_put (am_put σ 8 x2.toNatClampNeg (x1 - (σ.1 10 x2.toNatClampNeg))) 10 x2.toNatClampNeg (x1 - (σ.1 8 x2.toNatClampNeg))) 6 x2.toNatClampNeg ((((σ.1 6 x2.toNatClampNeg) &&& 10) ||| ((((σ.1 6 x2.toNatClampNeg) >>> (2 &&& 31)) &&& 1) <<< (0 &&& 31))) ||| ((((σ.1 6 x2.toNatClampNeg) >>> (0 &&& 31)) &&& 1) <<< (2 &&& 31)))) (σ.1 4 x2.toNatClampNeg)))) 5 x2.toNatClampNeg (vp_nar .boolean (if (σ.1 5 x2.toNatClampNeg) = 0 then (1 : Int32) else 0))) x1 (x2 + 1)) else (l_38_11 n (am_put (am_put (am_put σ 8 x2.toNatClampNeg (x1 - (σ.1 10 x2.toNatClampNeg))) 10 x2.toNatClampNeg (x1 - (σ.1 8 x2.toNatClampNeg))) 6 x2.toNatClampNeg ((((σ.1 6 x2.toNatClampNeg) &&& 10) ||| ((((σ.1 6 x2.toNatClampNeg) >>> (2 &&& 31)) &&& 1) <<< (0 &&& 31))) ||| ((((σ.1 6 x2.toNatClampNeg) >>> (0 &&& 31)) &&& 1) <<< (2 &&& 31)))) x1 (x2 + 1))) else σ)
def q_38_11 : Nat → am_M → Int32 → Int32 → Prop
  | 0, _, _, _ => False
  | n + 1, σ, x1, x2 => (x2 < (σ.1 2 0)) → ((¬ (x2 < 0 ∨ 13 ≤ x2.toNatClampNeg)) ∧ ((¬ (x2 < 0 ∨ 13 ≤ x2.toNatClampNeg)) ∧ ((¬ (x2 < 0 ∨ 13 ≤ x2.toNatClampNeg)) ∧ ((¬ (x2 < 0 ∨ 13 ≤ x2.toNatClampNeg)) ∧ ((¬ (x2 < 0 ∨ 13 ≤ x2.toNatClampNeg)) ∧ ((¬ (x2 < 0 ∨ 13 ≤ x2.toNatClampNeg)) ∧ ((¬ (x2 < 0 ∨ 13 ≤ x2.toNatClampNeg)) ∧ ((¬ (x2 < 0 ∨ 13 ≤ x2.toNatClampNeg)) ∧ (((0 < x2) → ((¬ (x2 < 0 ∨ 13 ≤ x2.toNatClampNeg)) ∧ (((((v_70 (am_put (am_put (am_put σ 8 x2.toNatClampNeg (x1 - (σ.1 10 x2.toNatClampNeg))) 10 x2.toNatClampNeg (x1 - (σ.1 8 x2.toNatClampNeg))) 6 x2.toNatClampNeg ((((σ.1 6 x2.toNatClampNeg) &&& 10) ||| ((((σ.1 6 x2.toNatClampNeg) >>> (2 &&& 31)) &&& 1) <<< (0 &&& 31))) ||| ((((σ.1 6 x2.toNatClampNeg) >>> (0 &&& 31)) &&& 1) <<< (2 &&& 31)))) (σ.1 4 x2.toNatClampNeg)) = 0) → (¬ (x2 < 0 ∨ 13 ≤ x2.toNatClampNeg))) ∧ (¬ ((v_70 (am_put (am_put (am_put σ 8 x2.toNatClampNeg (x1 - (σ.1 10 x2.toNatClampNeg))) 10 x2.toNatClampNeg (x1 - (σ.1 8 x2.toNatClampNeg))) 6 x2.toNatClampNeg ((((σ.1 6 x2.toNatClampNeg) &&& 10) ||| ((((σ.1 6 x2.toNatClampNeg) >>> (2 &&& 31)) &&& 1) <<< (0 &&& 31))) ||| ((((σ.1 6 x2.toNatClampNeg) >>> (0 &&& 31)) &&& 1) <<< (2 &&& 31)))) (σ.1 4 x2.toNatClampNeg)) = 0) → (¬ (x2 < 0 ∨ 13 ≤ x2.toNatClampNeg)))) ∧ ((¬ (x2 < 0 ∨ 13 ≤ x2.toNatClampNeg)) ∧ ((¬ (x2 < 0 ∨ 13 ≤ x2.toNatClampNeg)) ∧ ((¬ (x2 < 0 ∨ 13 ≤ x2.toNatClampNeg)) ∧ (q_38_11 n (am_put (am_put (am_put (am_put (am_put σ 8 x2.toNatClampNeg (x1 - (σ.1 10 x2.toNatClampNeg))) 10 x2.toNatClampNeg (x1 - (σ.1 8 x2.toNatClampNeg))) 6 x2.toNatClampNeg ((((σ.1 6 x2.toNatClampNeg) &&& 10) ||| ((((σ.1 6 x2.toNatClampNeg) >>> (2 &&& 31)) &&& 1) <<< (0 &&& 31))) ||| ((((σ.1 6 x2.toNatClampNeg) >>> (0 &&& 31)) &&& 1) <<< (2 &&& 31)))) 4 x2.toNatClampNeg (if (v_70 (am_put (am_put (am_put σ 8 x2.toNatClampNeg (x1 - (σ.1 10 x2.toNatClampNeg))) 10 x2.toNatClampNeg (x1 - (σ.1 8 x2.toNatClampNeg))) 6 x2.toNatClampNeg ((((σ.1 6 x2.toNatClampNeg) &&& 10) ||| ((((σ.1 6 x2.toNatClampNeg) >>> (2 &&& 31)) &&& 1) <<< (0 &&& 31))) ||| ((((σ.1 6 x2.toNatClampNeg) >>> (0 &&& 31)) &&& 1) <<< (2 &&& 31)))) (σ.1 4 x2.toNatClampNeg)) = 0 then ((σ.1 4 x2.toNatClampNeg) : Int32) else (v_68 (am_put (am_put (am_put σ 8 x2.toNatClampNeg (x1 - (σ.1 10 x2.toNatClampNeg))) 10 x2.toNatClampNeg (x1 - (σ.1 8 x2.toNatClampNeg))) 6 x2.toNatClampNeg ((((σ.1 6 x2.toNatClampNeg) &&& 10) ||| ((((σ.1 6 x2.toNatClampNeg) >>> (2 &&& 31)) &&& 1) <<< (0 &&& 31))) ||| ((((σ.1 6 x2.toNatClampNeg) >>> (0 &&& 31)) &&& 1) <<< (2 &&& 31)))) (σ.1 4 x2.toNatClampNeg)))) 5 x2.toNatClampNeg (vp_nar .boolean (if (σ.1 5 x2.toNatClampNeg) = 0 then (1 : Int32) else 0))) x1 (x2 + 1)))))))) ∧ (¬ (0 < x2) → (q_38_11 n (am_put (am_put (am_put σ 8 x2.toNatClampNeg (x1 - (σ.1 10 x2.toNatClampNeg))) 10 x2.toNatClampNeg (x1 - (σ.1 8 x2.toNatClampNeg))) 6 x2.toNatClampNeg ((((σ.1 6 x2.toNatClampNeg) &&& 10) ||| ((((σ.1 6 x2.toNatClampNeg) >>> (2 &&& 31)) &&& 1) <<< (0 &&& 31))) ||| ((((σ.1 6 x2.toNatClampNeg) >>> (0 &&& 31)) &&& 1) <<< (2 &&& 31)))) x1 (x2 + 1))))))))))))
set_option maxRecDepth 20000 in
theorem t_38_11 (L : Nat) : ∀ (n : Nat) (σ : am_M) (x1 : Int32) (x2 : Int32) (o3 : Option am_V), q_38_11 n σ x1 x2 → am_r L 38 11 [some (.inr (.inr (2, none))), some (.inl x1), some (.inl x2), o3] [] σ = some (none, am_sh0 L, (l_38_11 n σ x1 x2)) := by
  intro n
  induction n with
  | zero => intro σ x1 x2 o3 h; exact h.elim
  | succ n ih =>
    intro σ x1 x2 o3 h
    unfold q_38_11 at h
    unfold l_38_11
    refine (e_38_11 _ _ _ _ _).trans ?_
    by_cases hc28 : x2 < (σ.1 2 0)
    · simp only [if_pos hc28]
      all_goals
        refine (if_neg (by decide)).trans ?_
        refine (if_neg ((h hc28).1)).trans ?_
        refine (if_neg (by decide)).trans ?_
        refine (e_38_37 _ _ _ _ _ _ _ _).trans ?_
        refine (if_neg (by decide)).trans ?_
        refine (if_neg ((h hc28).2.1)).trans ?_
        refine (if_neg ((h hc28).2.2.1)).trans ?_
        refine (if_neg (by decide)).trans ?_
        refine (e_38_56 _ _ _ _ _ _ _ _).trans ?_
        refine (if_neg ((h hc28).2.2.2.1)).trans ?_
        refine (if_neg ((h hc28).2.2.2.2.1)).trans ?_
        refine (if_neg ((h hc28).2.2.2.2.2.1)).trans ?_
        refine (e_38_81 _ _ _ _ _ _ _ _).trans ?_
        refine (if_neg ((h hc28).2.2.2.2.2.2.1)).trans ?_
        refine (if_neg ((h hc28).2.2.2.2.2.2.2.1)).trans ?_
        by_cases hc29 : 0 < x2
        · simp only [if_pos hc29]
          all_goals
            refine (e_38_108 _ _ _ _ _ _).trans ?_
            refine (if_neg (((h hc28).2.2.2.2.2.2.2.2.1 hc29).1)).trans ?_
            refine (am_bind_i (s_70 L (am_put (am_put (am_put σ 8 x2.toNatClampNeg (x1 - (σ.1 10 x2.toNatClampNeg))) 10 x2.toNatClampNeg (x1 - (σ.1 8 x2.toNatClampNeg))) 6 x2.toNatClampNeg ((((σ.1 6 x2.toNatClampNeg) &&& 10) ||| ((((σ.1 6 x2.toNatClampNeg) >>> (2 &&& 31)) &&& 1) <<< (0 &&& 31))) ||| ((((σ.1 6 x2.toNatClampNeg) >>> (0 &&& 31)) &&& 1) <<< (2 &&& 31)))) (σ.1 4 x2.toNatClampNeg))).trans ?_
            refine (e_38_116 _ _ _ _ _ _ _).trans ?_
            refine Eq.trans (b := am_r L 38 137 [some (.inr (.inr (2, none))), some (.inl x1), some (.inl x2), some (.inl (σ.1 8 x2.toNatClampNeg))] [.inl (if (v_70 (am_put (am_put (am_put σ 8 x2.toNatClampNeg (x1 - (σ.1 10 x2.toNatClampNeg))) 10 x2.toNatClampNeg (x1 - (σ.1 8 x2.toNatClampNeg))) 6 x2.toNatClampNeg ((((σ.1 6 x2.toNatClampNeg) &&& 10) ||| ((((σ.1 6 x2.toNatClampNeg) >>> (2 &&& 31)) &&& 1) <<< (0 &&& 31))) ||| ((((σ.1 6 x2.toNatClampNeg) >>> (0 &&& 31)) &&& 1) <<< (2 &&& 31)))) (σ.1 4 x2.toNatClampNeg)) = 0 then ((σ.1 4 x2.toNatClampNeg) : Int32) else (v_68 (am_put (am_put (am_put σ 8 x2.toNatClampNeg (x1 - (σ.1 10 x2.toNatClampNeg))) 10 x2.toNatClampNeg (x1 - (σ.1 8 x2.toNatClampNeg))) 6 x2.toNatClampNeg ((((σ.1 6 x2.toNatClampNeg) &&& 10) ||| ((((σ.1 6 x2.toNatClampNeg) >>> (2 &&& 31)) &&& 1) <<< (0 &&& 31))) ||| ((((σ.1 6 x2.toNatClampNeg) >>> (0 &&& 31)) &&& 1) <<< (2 &&& 31)))) (σ.1 4 x2.toNatClampNeg))), .inl x2, .inr (.inr (4, none))] (am_put (am_put (am_put σ 8 x2.toNatClampNeg (x1 - (σ.1 10 x2.toNatClampNeg))) 10 x2.toNatClampNeg (x1 - (σ.1 8 x2.toNatClampNeg))) 6 x2.toNatClampNeg ((((σ.1 6 x2.toNatClampNeg) &&& 10) ||| ((((σ.1 6 x2.toNatClampNeg) >>> (2 &&& 31)) &&& 1) <<< (0 &&& 31))) ||| ((((σ.1 6 x2.toNatClampNeg) >>> (0 &&& 31)) &&& 1) <<< (2 &&& 31))))) ?_ ?_
            · by_cases hc30 : (v_70 (am_put (am_put (am_put σ 8 x2.toNatClampNeg (x1 - (σ.1 10 x2.toNatClampNeg))) 10 x2.toNatClampNeg (x1 - (σ.1 8 x2.toNatClampNeg))) 6 x2.toNatClampNeg ((((σ.1 6 x2.toNatClampNeg) &&& 10) ||| ((((σ.1 6 x2.toNatClampNeg) >>> (2 &&& 31)) &&& 1) <<< (0 &&& 31))) ||| ((((σ.1 6 x2.toNatClampNeg) >>> (0 &&& 31)) &&& 1) <<< (2 &&& 31)))) (σ.1 4 x2.toNatClampNeg)) = 0
              · simp only [if_pos hc30]
                all_goals
                  refine (e_38_131 _ _ _ _ _ _).trans ?_
                  refine (if_neg ((((h hc28).2.2.2.2.2.2.2.2.1 hc29).2.1.1 hc30))).trans ?_
                  rfl
              · simp only [if_neg hc30]
                all_goals
                  refine (if_neg ((((h hc28).2.2.2.2.2.2.2.2.1 hc29).2.1.2 hc30))).trans ?_
                  refine (am_bind_i (s_68 L (am_put (am_put (am_put σ 8 x2.toNatClampNeg (x1 - (σ.1 10 x2.toNatClampNeg))) 10 x2.toNatClampNeg (x1 - (σ.1 8 x2.toNatClampNeg))) 6 x2.toNatClampNeg ((((σ.1 6 x2.toNatClampNeg) &&& 10) ||| ((((σ.1 6 x2.toNatClampNeg) >>> (2 &&& 31)) &&& 1) <<< (0 &&& 31))) ||| ((((σ.1 6 x2.toNatClampNeg) >>> (0 &&& 31)) &&& 1) <<< (2 &&& 31)))) (σ.1 4 x2.toNatClampNeg))).trans ?_
                  refine (e_38_128 _ _ _ _ _ _ _).trans ?_
                  rfl
            refine (e_38_137 _ _ _ _ _ _ _).trans ?_
            refine (if_neg (((h hc28).2.2.2.2.2.2.2.2.1 hc29).2.2.1)).trans ?_
            refine (if_neg (((h hc28).2.2.2.2.2.2.2.2.1 hc29).2.2.2.1)).trans ?_
            refine Eq.trans (b := am_r L 38 157 [some (.inr (.inr (2, none))), some (.inl x1), some (.inl x2), some (.inl (σ.1 8 x2.toNatClampNeg))] [.inl (if (σ.1 5 x2.toNatClampNeg) = 0 then (1 : Int32) else 0), .inl x2, .inr (.inr (5, none))] (am_put (am_put (am_put (am_put σ 8 x2.toNatClampNeg (x1 - (σ.1 10 x2.toNatClampNeg))) 10 x2.toNatClampNeg (x1 - (σ.1 8 x2.toNatClampNeg))) 6 x2.toNatClampNeg ((((σ.1 6 x2.toNatClampNeg) &&& 10) ||| ((((σ.1 6 x2.toNatClampNeg) >>> (2 &&& 31)) &&& 1) <<< (0 &&& 31))) ||| ((((σ.1 6 x2.toNatClampNeg) >>> (0 &&& 31)) &&& 1) <<< (2 &&& 31)))) 4 x2.toNatClampNeg (if (v_70 (am_put (am_put (am_put σ 8 x2.toNatClampNeg (x1 - (σ.1 10 x2.toNatClampNeg))) 10 x2.toNatClampNeg (x1 - (σ.1 8 x2.toNatClampNeg))) 6 x2.toNatClampNeg ((((σ.1 6 x2.toNatClampNeg) &&& 10) ||| ((((σ.1 6 x2.toNatClampNeg) >>> (2 &&& 31)) &&& 1) <<< (0 &&& 31))) ||| ((((σ.1 6 x2.toNatClampNeg) >>> (0 &&& 31)) &&& 1) <<< (2 &&& 31)))) (σ.1 4 x2.toNatClampNeg)) = 0 then ((σ.1 4 x2.toNatClampNeg) : Int32) else (v_68 (am_put (am_put (am_put σ 8 x2.toNatClampNeg (x1 - (σ.1 10 x2.toNatClampNeg))) 10 x2.toNatClampNeg (x1 - (σ.1 8 x2.toNatClampNeg))) 6 x2.toNatClampNeg ((((σ.1 6 x2.toNatClampNeg) &&& 10) ||| ((((σ.1 6 x2.toNatClampNeg) >>> (2 &&& 31)) &&& 1) <<< (0 &&& 31))) ||| ((((σ.1 6 x2.toNatClampNeg) >>> (0 &&& 31)) &&& 1) <<< (2 &&& 31)))) (σ.1 4 x2.toNatClampNeg))))) ?_ ?_
            · by_cases hc31 : (σ.1 5 x2.toNatClampNeg) = 0
              · simp only [if_pos hc31]
                all_goals
                  rfl
              · simp only [if_neg hc31]
                all_goals
                  refine (e_38_156 _ _ _ _ _ _).trans ?_
                  rfl
            refine (e_38_157 _ _ _ _ _ _ _).trans ?_
            refine (if_neg (((h hc28).2.2.2.2.2.2.2.2.1 hc29).2.2.2.2.1)).trans ?_
            refine (e_38_158 _ _ _ _ _).trans ?_
            exact ih (am_put (am_put (am_put (am_put (am_put σ 8 x2.toNatClampNeg (x1 - (σ.1 10 x2.toNatClampNeg))) 10 x2.toNatClampNeg (x1 - (σ.1 8 x2.toNatClampNeg))) 6 x2.toNatClampNeg ((((σ.1 6 x2.toNatClampNeg) &&& 10) ||| ((((σ.1 6 x2.toNatClampNeg) >>> (2 &&& 31)) &&& 1) <<< (0 &&& 31))) ||| ((((σ.1 6 x2.toNatClampNeg) >>> (0 &&& 31)) &&& 1) <<< (2 &&& 31)))) 4 x2.toNatClampNeg (if (v_70 (am_put (am_put (am_put σ 8 x2.toNatClampNeg (x1 - (σ.1 10 x2.toNatClampNeg))) 10 x2.toNatClampNeg (x1 - (σ.1 8 x2.toNatClampNeg))) 6 x2.toNatClampNeg ((((σ.1 6 x2.toNatClampNeg) &&& 10) ||| ((((σ.1 6 x2.toNatClampNeg) >>> (2 &&& 31)) &&& 1) <<< (0 &&& 31))) ||| ((((σ.1 6 x2.toNatClampNeg) >>> (0 &&& 31)) &&& 1) <<< (2 &&& 31)))) (σ.1 4 x2.toNatClampNeg)) = 0 then ((σ.1 4 x2.toNatClampNeg) : Int32) else (v_68 (am_put (am_put (am_put σ 8 x2.toNatClampNeg (x1 - (σ.1 10 x2.toNatClampNeg))) 10 x2.toNatClampNeg (x1 - (σ.1 8 x2.toNatClampNeg))) 6 x2.toNatClampNeg ((((σ.1 6 x2.toNatClampNeg) &&& 10) ||| ((((σ.1 6 x2.toNatClampNeg) >>> (2 &&& 31)) &&& 1) <<< (0 &&& 31))) ||| ((((σ.1 6 x2.toNatClampNeg) >>> (0 &&& 31)) &&& 1) <<< (2 &&& 31)))) (σ.1 4 x2.toNatClampNeg)))) 5 x2.toNatClampNeg (vp_nar .boolean (if (σ.1 5 x2.toNatClampNeg) = 0 then (1 : Int32) else 0))) x1 (x2 + 1) (some (.inl (σ.1 8 x2.toNatClampNeg))) (((h hc28).2.2.2.2.2.2.2.2.1 hc29).2.2.2.2.2)
        · simp only [if_neg hc29]
          all_goals
            refine (e_38_158 _ _ _ _ _).trans ?_
            exact ih (am_put (am_put (am_put σ 8 x2.toNatClampNeg (x1 - (σ.1 10 x2.toNatClampNeg))) 10 x2.toNatClampNeg (x1 - (σ.1 8 x2.toNatClampNeg))) 6 x2.toNatClampNeg ((((σ.1 6 x2.toNatClampNeg) &&& 10) ||| ((((σ.1 6 x2.toNatClampNeg) >>> (2 &&& 31)) &&& 1) <<< (0 &&& 31))) ||| ((((σ.1 6 x2.toNatClampNeg) >>> (0 &&& 31)) &&& 1) <<< (2 &&& 31)))) x1 (x2 + 1) (some (.inl (σ.1 8 x2.toNatClampNeg))) (((h hc28).2.2.2.2.2.2.2.2.2 hc29))
    · simp only [if_neg hc28]
      all_goals
        refine (e_38_164 _ _ _ _ _).trans ?_
        rfl
def p_38 (σ : am_M) : Prop := q_38_11 14 σ (σ.1 8 0) 0
def f_38 (σ : am_M) : am_M := (l_38_11 14 σ (σ.1 8 0) 0)
set_option maxRecDepth 20000 in
theorem sf_38 (L : Nat) (σ : am_M) (h : p_38 σ) : am_r L 38 0 [some (.inr (.inr (2, none))), none, none, none] [] σ = some (none, am_sh0 L, (f_38 σ)) := by
  unfold p_38 at h
  unfold f_38
  refine (e_38_0 _ _).trans ?_
  refine (if_neg (by decide)).trans ?_
  refine (if_neg (by decide)).trans ?_
  exact t_38_11 L 14 σ (σ.1 8 0) 0 none h
def w_38 (σ : am_M) : am_M := f_38 σ
theorem s_38 (L : Nat) (σ : am_M) (h : p_38 σ) : am_r L 38 0 [some (.inr (.inr (2, none))), none, none, none] [] σ = some (none, am_sh0 L, w_38 σ) := sf_38 L σ h
-- 53: X4_over
def p_53 (σ : am_M) : Prop := ¬ ((σ.1 2 0) = 0) → (p_38 σ)
def v_53 (σ : am_M) : Int32 := (if (σ.1 2 0) = 0 then 0 else 1)
def w_53 (σ : am_M) : am_M := (if (σ.1 2 0) = 0 then σ else (am_put (w_38 σ) 1 9 0))
set_option maxRecDepth 20000 in
theorem s_53 (L : Nat) (σ : am_M) (h : p_53 σ) : am_r L 53 0 [some (.inr (.inr (1, none)))] [] σ = some (some (.inl (v_53 σ)), am_sh0 L, w_53 σ) := by
  unfold p_53 at h
  unfold v_53 w_53
  refine (e_53_0 _ _).trans ?_
  by_cases hc32 : (σ.1 2 0) = 0
  · simp only [if_pos hc32]
    all_goals
      rfl
  · simp only [if_neg hc32]
    all_goals
      refine (e_53_12 _ _).trans ?_
      refine (am_bind_v (s_38 L σ ((h hc32)))).trans ?_
      refine (e_53_19 _ _).trans ?_
      rfl
-- 18: X1_moveTogether
def l_18_16 : Nat → am_M → Int32 → Int32 → am_M
  | 0, σ, x2, x3 => σ
  | n + 1, σ, x2, x3 => (if x3 < (σ.1 12 0) then (l_18_16 n (am_put (am_put σ 18 x3.toNatClampNeg ((σ.1 18 (((σ.1 3 x3.toNatClampNeg)).toNatClampNeg)) + (if (v_70 σ (σ.1 4 x3.toNatClampNeg)) = 0 then (0 : Int32) else (if (v_69 σ (σ.1 4 x3.toNatClampNeg)) = 0 then (x2 : Int32) else (-x2))))) 19 x3.toNatClampNeg ((σ.1 19 (((σ.1 3 x3.toNatClampNeg)).toNatClampNeg)) + (if (v_70 σ (σ.1 4 x3.toNatClampNeg)) = 0 then ((if (v_69 σ (σ.1 4 x3.toNatClampNeg)) = 0 then (x2 : Int32) else (-x2)) : Int32) else 0))) x2 (x3 + 1)) else σ)
def q_18_16 : Nat → am_M → Int32 → Int32 → Prop
  | 0, _, _, _ => False
  | n + 1, σ, x2, x3 => (x3 < (σ.1 12 0)) → ((¬ (x3 < 0 ∨ 13 ≤ x3.toNatClampNeg)) ∧ ((¬ (x3 < 0 ∨ 13 ≤ x3.toNatClampNeg)) ∧ ((¬ (x3 < 0 ∨ 13 ≤ x3.toNatClampNeg)) ∧ ((¬ ((σ.1 3 x3.toNatClampNeg) < 0 ∨ 13 ≤ ((σ.1 3 x3.toNatClampNeg)).toNatClampNeg)) ∧ ((¬ (x3 < 0 ∨ 13 ≤ x3.toNatClampNeg)) ∧ ((¬ ((σ.1 3 x3.toNatClampNeg) < 0 ∨ 13 ≤ ((σ.1 3 x3.toNatClampNeg)).toNatClampNeg)) ∧ ((¬ (x3 < 0 ∨ 13 ≤ x3.toNatClampNeg)) ∧ (q_18_16 n (am_put (am_put σ 18 x3.toNatClampNeg ((σ.1 18 (((σ.1 3 x3.toNatClampNeg)).toNatClampNeg)) + (if (v_70 σ (σ.1 4 x3.toNatClampNeg)) = 0 then (0 : Int32) else (if (v_69 σ (σ.1 4 x3.toNatClampNeg)) = 0 then (x2 : Int32) else (-x2))))) 19 x3.toNatClampNeg ((σ.1 19 (((σ.1 3 x3.toNatClampNeg)).toNatClampNeg)) + (if (v_70 σ (σ.1 4 x3.toNatClampNeg)) = 0 then ((if (v_69 σ (σ.1 4 x3.toNatClampNeg)) = 0 then (x2 : Int32) else (-x2)) : Int32) else 0))) x2 (x3 + 1)))))))))
set_option maxRecDepth 20000 in
theorem t_18_16 (L : Nat) : ∀ (n : Nat) (σ : am_M) (x2 : Int32) (x3 : Int32) (o4 : Option am_V) (o5 : Option am_V) (o6 : Option am_V), q_18_16 n σ x2 x3 → am_r L 18 16 [some (.inr (.inr (12, none))), some (.inr (.inr (2, none))), some (.inl x2), some (.inl x3), o4, o5, o6] [] σ = some (none, am_sh0 L, (l_18_16 n σ x2 x3)) := by
  intro n
  induction n with
  | zero => intro σ x2 x3 o4 o5 o6 h; exact h.elim
  | succ n ih =>
    intro σ x2 x3 o4 o5 o6 h
    unfold q_18_16 at h
    unfold l_18_16
    refine (e_18_16 _ _ _ _ _ _ _).trans ?_
    by_cases hc33 : x3 < (σ.1 12 0)
    · simp only [if_pos hc33]
      all_goals
        refine (if_neg ((h hc33).1)).trans ?_
        refine (if_neg ((h hc33).2.1)).trans ?_
        refine (am_bind_i (s_69 L σ (σ.1 4 x3.toNatClampNeg))).trans ?_
        refine (e_18_41 _ _ _ _ _ _ _ _).trans ?_
        refine Eq.trans (b := am_r L 18 50 [some (.inr (.inr (12, none))), some (.inr (.inr (2, none))), some (.inl x2), some (.inl x3), some (.inl (σ.1 3 x3.toNatClampNeg)), o5, o6] [.inl (if (v_69 σ (σ.1 4 x3.toNatClampNeg)) = 0 then (x2 : Int32) else (-x2))] σ) ?_ ?_
        · by_cases hc34 : (v_69 σ (σ.1 4 x3.toNatClampNeg)) = 0
          · simp only [if_pos hc34]
            all_goals
              refine (e_18_49 _ _ _ _ _ _ _).trans ?_
              rfl
          · simp only [if_neg hc34]
            all_goals
              rfl
        refine (e_18_50 _ _ _ _ _ _ _ _).trans ?_
        refine (if_neg ((h hc33).2.2.1)).trans ?_
        refine (am_bind_i (s_70 L σ (σ.1 4 x3.toNatClampNeg))).trans ?_
        refine (e_18_61 _ _ _ _ _ _ _ _).trans ?_
        refine (if_neg ((h hc33).2.2.2.1)).trans ?_
        refine Eq.trans (b := am_r L 18 86 [some (.inr (.inr (12, none))), some (.inr (.inr (2, none))), some (.inl x2), some (.inl x3), some (.inl (σ.1 3 x3.toNatClampNeg)), some (.inl (if (v_69 σ (σ.1 4 x3.toNatClampNeg)) = 0 then (x2 : Int32) else (-x2))), some (.inl (v_70 σ (σ.1 4 x3.toNatClampNeg)))] [.inl (if (v_70 σ (σ.1 4 x3.toNatClampNeg)) = 0 then (0 : Int32) else (if (v_69 σ (σ.1 4 x3.toNatClampNeg)) = 0 then (x2 : Int32) else (-x2))), .inl (σ.1 18 (((σ.1 3 x3.toNatClampNeg)).toNatClampNeg)), .inl x3, .inr (.inr (18, none))] σ) ?_ ?_
        · by_cases hc35 : (v_70 σ (σ.1 4 x3.toNatClampNeg)) = 0
          · simp only [if_pos hc35]
            all_goals
              refine (e_18_85 _ _ _ _ _ _ _ _ _).trans ?_
              rfl
          · simp only [if_neg hc35]
            all_goals
              rfl
        refine (e_18_86 _ _ _ _ _ _ _ _ _ _).trans ?_
        refine (if_neg ((h hc33).2.2.2.2.1)).trans ?_
        refine (if_neg ((h hc33).2.2.2.2.2.1)).trans ?_
        refine Eq.trans (b := am_r L 18 111 [some (.inr (.inr (12, none))), some (.inr (.inr (2, none))), some (.inl x2), some (.inl x3), some (.inl (σ.1 3 x3.toNatClampNeg)), some (.inl (if (v_69 σ (σ.1 4 x3.toNatClampNeg)) = 0 then (x2 : Int32) else (-x2))), some (.inl (v_70 σ (σ.1 4 x3.toNatClampNeg)))] [.inl (if (v_70 σ (σ.1 4 x3.toNatClampNeg)) = 0 then ((if (v_69 σ (σ.1 4 x3.toNatClampNeg)) = 0 then (x2 : Int32) else (-x2)) : Int32) else 0), .inl (σ.1 19 (((σ.1 3 x3.toNatClampNeg)).toNatClampNeg)), .inl x3, .inr (.inr (19, none))] (am_put σ 18 x3.toNatClampNeg ((σ.1 18 (((σ.1 3 x3.toNatClampNeg)).toNatClampNeg)) + (if (v_70 σ (σ.1 4 x3.toNatClampNeg)) = 0 then (0 : Int32) else (if (v_69 σ (σ.1 4 x3.toNatClampNeg)) = 0 then (x2 : Int32) else (-x2)))))) ?_ ?_
        · by_cases hc36 : (v_70 σ (σ.1 4 x3.toNatClampNeg)) = 0
          · simp only [if_pos hc36]
            all_goals
              refine (e_18_109 _ _ _ _ _ _ _ _ _).trans ?_
              rfl
          · simp only [if_neg hc36]
            all_goals
              rfl
        refine (e_18_111 _ _ _ _ _ _ _ _ _ _).trans ?_
        refine (if_neg ((h hc33).2.2.2.2.2.2.1)).trans ?_
        exact ih (am_put (am_put σ 18 x3.toNatClampNeg ((σ.1 18 (((σ.1 3 x3.toNatClampNeg)).toNatClampNeg)) + (if (v_70 σ (σ.1 4 x3.toNatClampNeg)) = 0 then (0 : Int32) else (if (v_69 σ (σ.1 4 x3.toNatClampNeg)) = 0 then (x2 : Int32) else (-x2))))) 19 x3.toNatClampNeg ((σ.1 19 (((σ.1 3 x3.toNatClampNeg)).toNatClampNeg)) + (if (v_70 σ (σ.1 4 x3.toNatClampNeg)) = 0 then ((if (v_69 σ (σ.1 4 x3.toNatClampNeg)) = 0 then (x2 : Int32) else (-x2)) : Int32) else 0))) x2 (x3 + 1) (some (.inl (σ.1 3 x3.toNatClampNeg))) (some (.inl (if (v_69 σ (σ.1 4 x3.toNatClampNeg)) = 0 then (x2 : Int32) else (-x2)))) (some (.inl (v_70 σ (σ.1 4 x3.toNatClampNeg)))) ((h hc33).2.2.2.2.2.2.2)
    · simp only [if_neg hc33]
      all_goals
        refine (e_18_119 _ _ _ _ _ _ _).trans ?_
        rfl
def p_18 (σ : am_M) (x2 : Int32) : Prop := q_18_16 14 (am_put (am_put σ 18 0 0) 19 0 0) x2 1
def f_18 (σ : am_M) (x2 : Int32) : am_M := (l_18_16 14 (am_put (am_put σ 18 0 0) 19 0 0) x2 1)
set_option maxRecDepth 20000 in
theorem sf_18 (L : Nat) (σ : am_M) (x2 : Int32) (h : p_18 σ x2) : am_r L 18 0 [some (.inr (.inr (12, none))), some (.inr (.inr (2, none))), some (.inl x2), none, none, none, none] [] σ = some (none, am_sh0 L, (f_18 σ x2)) := by
  unfold p_18 at h
  unfold f_18
  refine (e_18_0 _ _ _).trans ?_
  refine (if_neg (by decide)).trans ?_
  refine (if_neg (by decide)).trans ?_
  exact t_18_16 L 14 (am_put (am_put σ 18 0 0) 19 0 0) x2 1 none none none h
def w_18 (σ : am_M) (x2 : Int32) : am_M := f_18 σ x2
theorem s_18 (L : Nat) (σ : am_M) (x2 : Int32) (h : p_18 σ x2) : am_r L 18 0 [some (.inr (.inr (12, none))), some (.inr (.inr (2, none))), some (.inl x2), none, none, none, none] [] σ = some (none, am_sh0 L, w_18 σ x2) := sf_18 L σ x2 h
-- 33: X2_isFreeSide
def p_33 (σ : am_M) (x1 : Int32) (x2 : Int32) : Prop := ¬ (x1 < 0 ∨ 13 ≤ x1.toNatClampNeg)
def v_33 (σ : am_M) (x1 : Int32) (x2 : Int32) : Int32 := (if (((σ.1 6 x1.toNatClampNeg) >>> (x2 &&& 31)) &&& 1) = 0 then (1 : Int32) else 0)
set_option maxRecDepth 20000 in
theorem s_33 (L : Nat) (σ : am_M) (x1 : Int32) (x2 : Int32) (h : p_33 σ x1 x2) : am_r L 33 0 [some (.inr (.inr (2, none))), some (.inl x1), some (.inl x2)] [] σ = some (some (.inl (v_33 σ x1 x2)), am_sh0 L, σ) := by
  unfold p_33 at h
  unfold v_33
  refine (e_33_0 _ _ _ _).trans ?_
  refine (if_neg h).trans ?_
  refine Eq.trans (b := am_r L 33 18 [some (.inr (.inr (2, none))), some (.inl x1), some (.inl x2)] [.inl (if (((σ.1 6 x1.toNatClampNeg) >>> (x2 &&& 31)) &&& 1) = 0 then (1 : Int32) else 0)] σ) ?_ ?_
  · by_cases hc37 : (((σ.1 6 x1.toNatClampNeg) >>> (x2 &&& 31)) &&& 1) = 0
    · simp only [if_pos hc37]
      all_goals
        rfl
    · simp only [if_neg hc37]
      all_goals
        refine (e_33_17 _ _ _ _).trans ?_
        rfl
  refine (e_33_18 _ _ _ _ _).trans ?_
  refine (if_pos (am_01 (Or.inr rfl) (Or.inl rfl))).trans ?_
  rfl
theorem b_33 (σ : am_M) (x1 : Int32) (x2 : Int32) : v_33 σ x1 x2 = 0 ∨ v_33 σ x1 x2 = 1 := (am_01 (Or.inr rfl) (Or.inl rfl))
-- 19: X1_takeOff
def l_19_3 : Nat → am_M → Int32 → Int32 → Int32 → am_M
  | 0, σ, x2, x3, x4 => σ
  | n + 1, σ, x2, x3, x4 => (if x4 < 4 then (l_19_3 n (am_put σ (14 + x4.toNatClampNeg) x2.toNatClampNeg (((σ.1 (8 + x4.toNatClampNeg) x2.toNatClampNeg) + (if (v_33 σ x2 x4) = 0 then ((if (v_69 σ x4) = 0 then (x3 : Int32) else (-x3)) : Int32) else 0)) + (if (v_70 σ x4) = 0 then ((σ.1 19 x2.toNatClampNeg) : Int32) else (σ.1 18 x2.toNatClampNeg)))) x2 x3 (x4 + 1)) else σ)
def q_19_3 : Nat → am_M → Int32 → Int32 → Int32 → Prop
  | 0, _, _, _, _ => False
  | n + 1, σ, x2, x3, x4 => (x4 < 4) → ((p_33 σ x2 x4) ∧ (((((v_70 σ x4) = 0) → (¬ (x2 < 0 ∨ 13 ≤ x2.toNatClampNeg))) ∧ (¬ ((v_70 σ x4) = 0) → (¬ (x2 < 0 ∨ 13 ≤ x2.toNatClampNeg)))) ∧ ((¬ (x4 < 0 ∨ 4 ≤ x4.toNatClampNeg)) ∧ ((¬ (x4 < 0 ∨ 4 ≤ x4.toNatClampNeg)) ∧ ((¬ (x2 < 0 ∨ 13 ≤ x2.toNatClampNeg)) ∧ ((¬ (x2 < 0 ∨ 13 ≤ x2.toNatClampNeg)) ∧ (q_19_3 n (am_put σ (14 + x4.toNatClampNeg) x2.toNatClampNeg (((σ.1 (8 + x4.toNatClampNeg) x2.toNatClampNeg) + (if (v_33 σ x2 x4) = 0 then ((if (v_69 σ x4) = 0 then (x3 : Int32) else (-x3)) : Int32) else 0)) + (if (v_70 σ x4) = 0 then ((σ.1 19 x2.toNatClampNeg) : Int32) else (σ.1 18 x2.toNatClampNeg)))) x2 x3 (x4 + 1))))))))
set_option maxRecDepth 20000 in
theorem t_19_3 (L : Nat) : ∀ (n : Nat) (σ : am_M) (x2 : Int32) (x3 : Int32) (x4 : Int32) (o5 : Option am_V) (o6 : Option am_V), q_19_3 n σ x2 x3 x4 → am_r L 19 3 [some (.inr (.inr (12, none))), some (.inr (.inr (2, none))), some (.inl x2), some (.inl x3), some (.inl x4), o5, o6] [] σ = some (none, am_sh0 L, (l_19_3 n σ x2 x3 x4)) := by
  intro n
  induction n with
  | zero => intro σ x2 x3 x4 o5 o6 h; exact h.elim
  | succ n ih =>
    intro σ x2 x3 x4 o5 o6 h
    unfold q_19_3 at h
    unfold l_19_3
    refine (e_19_3 _ _ _ _ _ _ _).trans ?_
    by_cases hc38 : x4 < 4
    · simp only [if_pos hc38]
      all_goals
        refine (am_bind_i (s_33 L σ x2 x4 ((h hc38).1))).trans ?_
        refine (e_19_16 _ _ _ _ _ _ _ _).trans ?_
        refine Eq.trans (b := am_r L 19 37 [some (.inr (.inr (12, none))), some (.inr (.inr (2, none))), some (.inl x2), some (.inl x3), some (.inl x4), o5, o6] [.inl (if (v_33 σ x2 x4) = 0 then ((if (v_69 σ x4) = 0 then (x3 : Int32) else (-x3)) : Int32) else 0)] σ) ?_ ?_
        · by_cases hc39 : (v_33 σ x2 x4) = 0
          · simp only [if_pos hc39]
            all_goals
              refine (e_19_23 _ _ _ _ _ _ _).trans ?_
              refine (am_bind_i (s_69 L σ x4)).trans ?_
              refine (e_19_28 _ _ _ _ _ _ _ _).trans ?_
              refine Eq.trans (b := am_r L 19 37 [some (.inr (.inr (12, none))), some (.inr (.inr (2, none))), some (.inl x2), some (.inl x3), some (.inl x4), o5, o6] [.inl (if (v_69 σ x4) = 0 then (x3 : Int32) else (-x3))] σ) ?_ ?_
              · by_cases hc40 : (v_69 σ x4) = 0
                · simp only [if_pos hc40]
                  all_goals
                    refine (e_19_36 _ _ _ _ _ _ _).trans ?_
                    rfl
                · simp only [if_neg hc40]
                  all_goals
                    rfl
              rfl
          · simp only [if_neg hc39]
            all_goals
              rfl
        refine (e_19_37 _ _ _ _ _ _ _ _).trans ?_
        refine (am_bind_i (s_70 L σ x4)).trans ?_
        refine (e_19_44 _ _ _ _ _ _ _ _).trans ?_
        refine Eq.trans (b := am_r L 19 62 [some (.inr (.inr (12, none))), some (.inr (.inr (2, none))), some (.inl x2), some (.inl x3), some (.inl x4), some (.inl (if (v_33 σ x2 x4) = 0 then ((if (v_69 σ x4) = 0 then (x3 : Int32) else (-x3)) : Int32) else 0)), o6] [.inl (if (v_70 σ x4) = 0 then ((σ.1 19 x2.toNatClampNeg) : Int32) else (σ.1 18 x2.toNatClampNeg))] σ) ?_ ?_
        · by_cases hc41 : (v_70 σ x4) = 0
          · simp only [if_pos hc41]
            all_goals
              refine (e_19_56 _ _ _ _ _ _ _).trans ?_
              refine (if_neg (((h hc38).2.1.1 hc41))).trans ?_
              rfl
          · simp only [if_neg hc41]
            all_goals
              refine (if_neg (((h hc38).2.1.2 hc41))).trans ?_
              rfl
        refine (e_19_62 _ _ _ _ _ _ _ _).trans ?_
        refine (if_neg ((h hc38).2.2.1)).trans ?_
        refine (if_neg ((h hc38).2.2.2.1)).trans ?_
        refine (if_neg ((h hc38).2.2.2.2.1)).trans ?_
        refine (if_neg ((h hc38).2.2.2.2.2.1)).trans ?_
        refine (e_19_88 _ _ _ _ _ _ _).trans ?_
        exact ih (am_put σ (14 + x4.toNatClampNeg) x2.toNatClampNeg (((σ.1 (8 + x4.toNatClampNeg) x2.toNatClampNeg) + (if (v_33 σ x2 x4) = 0 then ((if (v_69 σ x4) = 0 then (x3 : Int32) else (-x3)) : Int32) else 0)) + (if (v_70 σ x4) = 0 then ((σ.1 19 x2.toNatClampNeg) : Int32) else (σ.1 18 x2.toNatClampNeg)))) x2 x3 (x4 + 1) (some (.inl (if (v_33 σ x2 x4) = 0 then ((if (v_69 σ x4) = 0 then (x3 : Int32) else (-x3)) : Int32) else 0))) (some (.inl (if (v_70 σ x4) = 0 then ((σ.1 19 x2.toNatClampNeg) : Int32) else (σ.1 18 x2.toNatClampNeg)))) ((h hc38).2.2.2.2.2.2)
    · simp only [if_neg hc38]
      all_goals
        refine (e_19_94 _ _ _ _ _ _ _).trans ?_
        rfl
def p_19 (σ : am_M) (x2 : Int32) (x3 : Int32) : Prop := q_19_3 14 σ x2 x3 0
def f_19 (σ : am_M) (x2 : Int32) (x3 : Int32) : am_M := (l_19_3 14 σ x2 x3 0)
set_option maxRecDepth 20000 in
theorem sf_19 (L : Nat) (σ : am_M) (x2 : Int32) (x3 : Int32) (h : p_19 σ x2 x3) : am_r L 19 0 [some (.inr (.inr (12, none))), some (.inr (.inr (2, none))), some (.inl x2), some (.inl x3), none, none, none] [] σ = some (none, am_sh0 L, (f_19 σ x2 x3)) := by
  unfold p_19 at h
  unfold f_19
  refine (e_19_0 _ _ _ _).trans ?_
  exact t_19_3 L 14 σ x2 x3 0 none none h
def w_19 (σ : am_M) (x2 : Int32) (x3 : Int32) : am_M := f_19 σ x2 x3
theorem s_19 (L : Nat) (σ : am_M) (x2 : Int32) (x3 : Int32) (h : p_19 σ x2 x3) : am_r L 19 0 [some (.inr (.inr (12, none))), some (.inr (.inr (2, none))), some (.inl x2), some (.inl x3), none, none, none] [] σ = some (none, am_sh0 L, w_19 σ x2 x3) := sf_19 L σ x2 x3 h
-- 121: J9_min_7cf53
def v_121 (σ : am_M) (x0 : Int32) (x1 : Int32) : Int32 := (if x1 < x0 then (x1 : Int32) else x0)
set_option maxRecDepth 20000 in
theorem s_121 (L : Nat) (σ : am_M) (x0 : Int32) (x1 : Int32) : am_r L 121 0 [some (.inl x0), some (.inl x1)] [] σ = some (some (.inl (v_121 σ x0 x1)), am_sh0 L, σ) := by
  unfold v_121
  refine (e_121_0 _ _ _ _).trans ?_
  refine Eq.trans (b := am_r L 121 10 [some (.inl x0), some (.inl x1)] [.inl (if x1 < x0 then (x1 : Int32) else x0)] σ) ?_ ?_
  · by_cases hc42 : x1 < x0
    · simp only [if_pos hc42]
      all_goals
        refine (e_121_9 _ _ _ _).trans ?_
        rfl
    · simp only [if_neg hc42]
      all_goals
        rfl
  refine (e_121_10 _ _ _ _ _).trans ?_
  rfl
-- 20: X1_beginAtZero
def l_20_44 : Nat → am_M → Int32 → Int32 → Int32 → Int32 → am_M
  | 0, σ, x1, x2, x3, x4 => σ
  | n + 1, σ, x1, x2, x3, x4 => (if x4 < (σ.1 12 0) then (l_20_44 n (am_put (am_put σ (14 + x2.toNatClampNeg) x4.toNatClampNeg ((σ.1 (14 + x2.toNatClampNeg) x4.toNatClampNeg) - x3)) (14 + x1.toNatClampNeg) x4.toNatClampNeg (((am_put σ (14 + x2.toNatClampNeg) x4.toNatClampNeg ((σ.1 (14 + x2.toNatClampNeg) x4.toNatClampNeg) - x3)).1 (14 + x1.toNatClampNeg) x4.toNatClampNeg) - x3)) x1 x2 x3 (x4 + 1)) else σ)
def q_20_44 : Nat → am_M → Int32 → Int32 → Int32 → Int32 → Prop
  | 0, _, _, _, _, _ => False
  | n + 1, σ, x1, x2, x3, x4 => (x4 < (σ.1 12 0)) → ((¬ (x2 < 0 ∨ 4 ≤ x2.toNatClampNeg)) ∧ ((¬ (x4 < 0 ∨ 13 ≤ x4.toNatClampNeg)) ∧ ((¬ (x4 < 0 ∨ 13 ≤ x4.toNatClampNeg)) ∧ ((¬ (x1 < 0 ∨ 4 ≤ x1.toNatClampNeg)) ∧ ((¬ (x4 < 0 ∨ 13 ≤ x4.toNatClampNeg)) ∧ ((¬ (x4 < 0 ∨ 13 ≤ x4.toNatClampNeg)) ∧ (q_20_44 n (am_put (am_put σ (14 + x2.toNatClampNeg) x4.toNatClampNeg ((σ.1 (14 + x2.toNatClampNeg) x4.toNatClampNeg) - x3)) (14 + x1.toNatClampNeg) x4.toNatClampNeg (((am_put σ (14 + x2.toNatClampNeg) x4.toNatClampNeg ((σ.1 (14 + x2.toNatClampNeg) x4.toNatClampNeg) - x3)).1 (14 + x1.toNatClampNeg) x4.toNatClampNeg) - x3)) x1 x2 x3 (x4 + 1))))))))
set_option maxRecDepth 20000 in
theorem t_20_44 (L : Nat) : ∀ (n : Nat) (σ : am_M) (x1 : Int32) (x2 : Int32) (x3 : Int32) (x4 : Int32), q_20_44 n σ x1 x2 x3 x4 → am_r L 20 44 [some (.inr (.inr (12, none))), some (.inl x1), some (.inl x2), some (.inl x3), some (.inl x4)] [] σ = some (none, am_sh0 L, (l_20_44 n σ x1 x2 x3 x4)) := by
  intro n
  induction n with
  | zero => intro σ x1 x2 x3 x4 h; exact h.elim
  | succ n ih =>
    intro σ x1 x2 x3 x4 h
    unfold q_20_44 at h
    unfold l_20_44
    refine (e_20_44 _ _ _ _ _ _).trans ?_
    by_cases hc43 : x4 < (σ.1 12 0)
    · simp only [if_pos hc43]
      all_goals
        refine (if_neg ((h hc43).1)).trans ?_
        refine (if_neg ((h hc43).2.1)).trans ?_
        refine (if_neg ((h hc43).2.2.1)).trans ?_
        refine (if_neg ((h hc43).2.2.2.1)).trans ?_
        refine (e_20_72 _ _ _ _ _ _ _).trans ?_
        refine (if_neg ((h hc43).2.2.2.2.1)).trans ?_
        refine (if_neg ((h hc43).2.2.2.2.2.1)).trans ?_
        exact ih (am_put (am_put σ (14 + x2.toNatClampNeg) x4.toNatClampNeg ((σ.1 (14 + x2.toNatClampNeg) x4.toNatClampNeg) - x3)) (14 + x1.toNatClampNeg) x4.toNatClampNeg (((am_put σ (14 + x2.toNatClampNeg) x4.toNatClampNeg ((σ.1 (14 + x2.toNatClampNeg) x4.toNatClampNeg) - x3)).1 (14 + x1.toNatClampNeg) x4.toNatClampNeg) - x3)) x1 x2 x3 (x4 + 1) ((h hc43).2.2.2.2.2.2)
    · simp only [if_neg hc43]
      all_goals
        refine (e_20_85 _ _ _ _ _ _).trans ?_
        rfl
def l_20_12 : Nat → am_M → Int32 → Int32 → Int32 → Int32 → am_M
  | 0, σ, x1, x2, x3, x4 => σ
  | n + 1, σ, x1, x2, x3, x4 => (if x4 < (σ.1 12 0) then (l_20_12 n σ x1 x2 (v_121 σ x3 (σ.1 (14 + x2.toNatClampNeg) x4.toNatClampNeg)) (x4 + 1)) else (l_20_44 14 σ x1 x2 x3 0))
def q_20_12 : Nat → am_M → Int32 → Int32 → Int32 → Int32 → Prop
  | 0, _, _, _, _, _ => False
  | n + 1, σ, x1, x2, x3, x4 => ((x4 < (σ.1 12 0)) → ((¬ (x2 < 0 ∨ 4 ≤ x2.toNatClampNeg)) ∧ ((¬ (x4 < 0 ∨ 13 ≤ x4.toNatClampNeg)) ∧ (q_20_12 n σ x1 x2 (v_121 σ x3 (σ.1 (14 + x2.toNatClampNeg) x4.toNatClampNeg)) (x4 + 1))))) ∧ (¬ (x4 < (σ.1 12 0)) → (q_20_44 14 σ x1 x2 x3 0))
set_option maxRecDepth 20000 in
theorem t_20_12 (L : Nat) : ∀ (n : Nat) (σ : am_M) (x1 : Int32) (x2 : Int32) (x3 : Int32) (x4 : Int32), q_20_12 n σ x1 x2 x3 x4 → am_r L 20 12 [some (.inr (.inr (12, none))), some (.inl x1), some (.inl x2), some (.inl x3), some (.inl x4)] [] σ = some (none, am_sh0 L, (l_20_12 n σ x1 x2 x3 x4)) := by
  intro n
  induction n with
  | zero => intro σ x1 x2 x3 x4 h; exact h.elim
  | succ n ih =>
    intro σ x1 x2 x3 x4 h
    unfold q_20_12 at h
    unfold l_20_12
    refine (e_20_12 _ _ _ _ _ _).trans ?_
    by_cases hc44 : x4 < (σ.1 12 0)
    · simp only [if_pos hc44]
      all_goals
        refine (if_neg ((h.1 hc44).1)).trans ?_
        refine (if_neg ((h.1 hc44).2.1)).trans ?_
        refine (am_bind_i (s_121 L σ x3 (σ.1 (14 + x2.toNatClampNeg) x4.toNatClampNeg))).trans ?_
        refine (e_20_34 _ _ _ _ _ _ _).trans ?_
        exact ih σ x1 x2 (v_121 σ x3 (σ.1 (14 + x2.toNatClampNeg) x4.toNatClampNeg)) (x4 + 1) ((h.1 hc44).2.2)
    · simp only [if_neg hc44]
      all_goals
        refine (e_20_41 _ _ _ _ _ _).trans ?_
        exact t_20_44 L 14 σ x1 x2 x3 0 ((h.2 hc44))
def p_20 (σ : am_M) (x1 : Int32) (x2 : Int32) : Prop := (¬ (x2 < 0 ∨ 4 ≤ x2.toNatClampNeg)) ∧ (q_20_12 14 σ x1 x2 (σ.1 (14 + x2.toNatClampNeg) 0) 1)
def f_20 (σ : am_M) (x1 : Int32) (x2 : Int32) : am_M := (l_20_12 14 σ x1 x2 (σ.1 (14 + x2.toNatClampNeg) 0) 1)
set_option maxRecDepth 20000 in
theorem sf_20 (L : Nat) (σ : am_M) (x1 : Int32) (x2 : Int32) (h : p_20 σ x1 x2) : am_r L 20 0 [some (.inr (.inr (12, none))), some (.inl x1), some (.inl x2), none, none] [] σ = some (none, am_sh0 L, (f_20 σ x1 x2)) := by
  unfold p_20 at h
  unfold f_20
  refine (e_20_0 _ _ _ _).trans ?_
  refine (if_neg h.1).trans ?_
  refine (if_neg (by decide)).trans ?_
  exact t_20_12 L 14 σ x1 x2 (σ.1 (14 + x2.toNatClampNeg) 0) 1 h.2
def w_20 (σ : am_M) (x1 : Int32) (x2 : Int32) : am_M := f_20 σ x1 x2
theorem s_20 (L : Nat) (σ : am_M) (x1 : Int32) (x2 : Int32) (h : p_20 σ x1 x2) : am_r L 20 0 [some (.inr (.inr (12, none))), some (.inl x1), some (.inl x2), none, none] [] σ = some (none, am_sh0 L, w_20 σ x1 x2) := sf_20 L σ x1 x2 h
-- 17: X1_layOut
def l_17_16 : Nat → am_M → Int32 → Int32 → am_M
  | 0, σ, x2, x3 => σ
  | n + 1, σ, x2, x3 => (if x3 < (σ.1 12 0) then (l_17_16 n (w_19 σ x3 (x2 / 2)) x2 (x3 + 1)) else (w_20 (w_20 σ 0 2) 1 3))
def q_17_16 : Nat → am_M → Int32 → Int32 → Prop
  | 0, _, _, _ => False
  | n + 1, σ, x2, x3 => ((x3 < (σ.1 12 0)) → ((p_19 σ x3 (x2 / 2)) ∧ (q_17_16 n (w_19 σ x3 (x2 / 2)) x2 (x3 + 1)))) ∧ (¬ (x3 < (σ.1 12 0)) → ((p_20 σ 0 2) ∧ (p_20 (w_20 σ 0 2) 1 3)))
set_option maxRecDepth 20000 in
theorem t_17_16 (L : Nat) : ∀ (n : Nat) (σ : am_M) (x2 : Int32) (x3 : Int32), q_17_16 n σ x2 x3 → am_r L 17 16 [some (.inr (.inr (12, none))), some (.inr (.inr (2, none))), some (.inl x2), some (.inl x3)] [] σ = some (none, am_sh0 L, (l_17_16 n σ x2 x3)) := by
  intro n
  induction n with
  | zero => intro σ x2 x3 h; exact h.elim
  | succ n ih =>
    intro σ x2 x3 h
    unfold q_17_16 at h
    unfold l_17_16
    refine (e_17_16 _ _ _ _).trans ?_
    by_cases hc45 : x3 < (σ.1 12 0)
    · simp only [if_pos hc45]
      all_goals
        refine (am_bind_v (s_19 L σ x3 (x2 / 2) ((h.1 hc45).1))).trans ?_
        refine (e_17_33 _ _ _ _).trans ?_
        exact ih (w_19 σ x3 (x2 / 2)) x2 (x3 + 1) ((h.1 hc45).2)
    · simp only [if_neg hc45]
      all_goals
        refine (e_17_39 _ _ _ _).trans ?_
        refine (am_bind_v (s_20 L σ 0 2 ((h.2 hc45).1))).trans ?_
        refine (e_17_45 _ _ _ _).trans ?_
        refine (am_bind_v (s_20 L (w_20 σ 0 2) 1 3 ((h.2 hc45).2))).trans ?_
        refine (e_17_51 _ _ _ _).trans ?_
        rfl
def p_17 (σ : am_M) (x2 : Int32) : Prop := (p_18 (am_put σ 12 0 (σ.1 2 0)) x2) ∧ (q_17_16 14 (w_18 (am_put σ 12 0 (σ.1 2 0)) x2) x2 0)
def f_17 (σ : am_M) (x2 : Int32) : am_M := (l_17_16 14 (w_18 (am_put σ 12 0 (σ.1 2 0)) x2) x2 0)
set_option maxRecDepth 20000 in
theorem sf_17 (L : Nat) (σ : am_M) (x2 : Int32) (h : p_17 σ x2) : am_r L 17 0 [some (.inr (.inr (12, none))), some (.inr (.inr (2, none))), some (.inl x2), none] [] σ = some (none, am_sh0 L, (f_17 σ x2)) := by
  unfold p_17 at h
  unfold f_17
  refine (e_17_0 _ _ _).trans ?_
  refine (am_bind_v (s_18 L (am_put σ 12 0 (σ.1 2 0)) x2 h.1)).trans ?_
  refine (e_17_14 _ _ _).trans ?_
  exact t_17_16 L 14 (w_18 (am_put σ 12 0 (σ.1 2 0)) x2) x2 0 h.2
def w_17 (σ : am_M) (x2 : Int32) : am_M := f_17 σ x2
theorem s_17 (L : Nat) (σ : am_M) (x2 : Int32) (h : p_17 σ x2) : am_r L 17 0 [some (.inr (.inr (12, none))), some (.inr (.inr (2, none))), some (.inl x2), none] [] σ = some (none, am_sh0 L, w_17 σ x2) := sf_17 L σ x2 h
-- 22: X1_firstWithoutInside
def l_22_2 : Nat → am_M → Int32 → Int32
  | 0, _, _ => 0
  | n + 1, σ, x1 => (if x1 < (σ.1 12 0) then (if (σ.1 16 x1.toNatClampNeg) < (σ.1 14 x1.toNatClampNeg) then (if (σ.1 17 x1.toNatClampNeg) < (σ.1 15 x1.toNatClampNeg) then (l_22_2 n σ (x1 + 1)) else x1) else x1) else (-1))
def q_22_2 : Nat → am_M → Int32 → Prop
  | 0, _, _ => False
  | n + 1, σ, x1 => (x1 < (σ.1 12 0)) → ((¬ (x1 < 0 ∨ 13 ≤ x1.toNatClampNeg)) ∧ ((¬ (x1 < 0 ∨ 13 ≤ x1.toNatClampNeg)) ∧ (((σ.1 16 x1.toNatClampNeg) < (σ.1 14 x1.toNatClampNeg)) → ((¬ (x1 < 0 ∨ 13 ≤ x1.toNatClampNeg)) ∧ ((¬ (x1 < 0 ∨ 13 ≤ x1.toNatClampNeg)) ∧ (((σ.1 17 x1.toNatClampNeg) < (σ.1 15 x1.toNatClampNeg)) → (q_22_2 n σ (x1 + 1))))))))
set_option maxRecDepth 20000 in
theorem t_22_2 (L : Nat) (σ : am_M) : ∀ (n : Nat) (x1 : Int32), q_22_2 n σ x1 → am_r L 22 2 [some (.inr (.inr (12, none))), some (.inl x1)] [] σ = some (some (.inl (l_22_2 n σ x1)), am_sh0 L, σ) := by
  intro n
  induction n with
  | zero => intro x1 h; exact h.elim
  | succ n ih =>
    intro x1 h
    unfold q_22_2 at h
    unfold l_22_2
    refine (e_22_2 _ _ _).trans ?_
    by_cases hc46 : x1 < (σ.1 12 0)
    · simp only [if_pos hc46]
      all_goals
        refine (if_neg (by decide)).trans ?_
        refine (if_neg ((h hc46).1)).trans ?_
        refine (if_neg (by decide)).trans ?_
        refine (if_neg ((h hc46).2.1)).trans ?_
        refine (e_22_26 _ _ _ _ _).trans ?_
        by_cases hc47 : (σ.1 16 x1.toNatClampNeg) < (σ.1 14 x1.toNatClampNeg)
        · simp only [if_pos hc47]
          all_goals
            refine (if_neg (by decide)).trans ?_
            refine (if_neg (((h hc46).2.2 hc47).1)).trans ?_
            refine (if_neg (by decide)).trans ?_
            refine (if_neg (((h hc46).2.2 hc47).2.1)).trans ?_
            by_cases hc48 : (σ.1 17 x1.toNatClampNeg) < (σ.1 15 x1.toNatClampNeg)
            · simp only [if_pos hc48]
              all_goals
                refine (e_22_50 _ _ _).trans ?_
                exact ih (x1 + 1) ((((h hc46).2.2 hc47).2.2 hc48))
            · simp only [if_neg hc48]
              all_goals
                refine (e_22_48 _ _ _).trans ?_
                rfl
        · simp only [if_neg hc47]
          all_goals
            refine (e_22_48 _ _ _).trans ?_
            rfl
    · simp only [if_neg hc46]
      all_goals
        refine (e_22_56 _ _ _).trans ?_
        rfl
def p_22 (σ : am_M) : Prop := q_22_2 14 σ 0
def f_22 (σ : am_M) : Int32 := (l_22_2 14 σ 0)
set_option maxRecDepth 20000 in
theorem sf_22 (L : Nat) (σ : am_M) (h : p_22 σ) : am_r L 22 0 [some (.inr (.inr (12, none))), none] [] σ = some (some (.inl (f_22 σ)), am_sh0 L, σ) := by
  unfold p_22 at h
  unfold f_22
  refine (e_22_0 _ _).trans ?_
  exact t_22_2 L σ 14 0 h
def v_22 (σ : am_M) : Int32 := f_22 σ
theorem s_22 (L : Nat) (σ : am_M) (h : p_22 σ) : am_r L 22 0 [some (.inr (.inr (12, none))), none] [] σ = some (some (.inl (v_22 σ)), am_sh0 L, σ) := sf_22 L σ h
-- 23: X1_firstOverlap
def l_23_4 : Nat → am_M → Int32 → Int32 → Int32
  | 0, _, _, _ => 0
  | n + 1, σ, x1, x2 => (if x2 < (σ.1 12 0) then (if (σ.1 16 x1.toNatClampNeg) < (σ.1 14 x2.toNatClampNeg) then (if (σ.1 16 x2.toNatClampNeg) < (σ.1 14 x1.toNatClampNeg) then (if (σ.1 17 x1.toNatClampNeg) < (σ.1 15 x2.toNatClampNeg) then (if (σ.1 17 x2.toNatClampNeg) < (σ.1 15 x1.toNatClampNeg) then x2 else (l_23_4 n σ x1 (x2 + 1))) else (l_23_4 n σ x1 (x2 + 1))) else (l_23_4 n σ x1 (x2 + 1))) else (l_23_4 n σ x1 (x2 + 1))) else (-1))
def q_23_4 : Nat → am_M → Int32 → Int32 → Prop
  | 0, _, _, _ => False
  | n + 1, σ, x1, x2 => (x2 < (σ.1 12 0)) → ((¬ (x1 < 0 ∨ 13 ≤ x1.toNatClampNeg)) ∧ ((¬ (x2 < 0 ∨ 13 ≤ x2.toNatClampNeg)) ∧ ((((σ.1 16 x1.toNatClampNeg) < (σ.1 14 x2.toNatClampNeg)) → ((¬ (x2 < 0 ∨ 13 ≤ x2.toNatClampNeg)) ∧ ((¬ (x1 < 0 ∨ 13 ≤ x1.toNatClampNeg)) ∧ ((((σ.1 16 x2.toNatClampNeg) < (σ.1 14 x1.toNatClampNeg)) → ((¬ (x1 < 0 ∨ 13 ≤ x1.toNatClampNeg)) ∧ ((¬ (x2 < 0 ∨ 13 ≤ x2.toNatClampNeg)) ∧ ((((σ.1 17 x1.toNatClampNeg) < (σ.1 15 x2.toNatClampNeg)) → ((¬ (x2 < 0 ∨ 13 ≤ x2.toNatClampNeg)) ∧ ((¬ (x1 < 0 ∨ 13 ≤ x1.toNatClampNeg)) ∧ (¬ ((σ.1 17 x2.toNatClampNeg) < (σ.1 15 x1.toNatClampNeg)) → (q_23_4 n σ x1 (x2 + 1)))))) ∧ (¬ ((σ.1 17 x1.toNatClampNeg) < (σ.1 15 x2.toNatClampNeg)) → (q_23_4 n σ x1 (x2 + 1))))))) ∧ (¬ ((σ.1 16 x2.toNatClampNeg) < (σ.1 14 x1.toNatClampNeg)) → (q_23_4 n σ x1 (x2 + 1))))))) ∧ (¬ ((σ.1 16 x1.toNatClampNeg) < (σ.1 14 x2.toNatClampNeg)) → (q_23_4 n σ x1 (x2 + 1))))))
set_option maxRecDepth 20000 in
theorem t_23_4 (L : Nat) (σ : am_M) : ∀ (n : Nat) (x1 : Int32) (x2 : Int32), q_23_4 n σ x1 x2 → am_r L 23 4 [some (.inr (.inr (12, none))), some (.inl x1), some (.inl x2)] [] σ = some (some (.inl (l_23_4 n σ x1 x2)), am_sh0 L, σ) := by
  intro n
  induction n with
  | zero => intro x1 x2 h; exact h.elim
  | succ n ih =>
    intro x1 x2 h
    unfold q_23_4 at h
    unfold l_23_4
    refine (e_23_4 _ _ _ _).trans ?_
    by_cases hc49 : x2 < (σ.1 12 0)
    · simp only [if_pos hc49]
      all_goals
        refine (if_neg (by decide)).trans ?_
        refine (if_neg ((h hc49).1)).trans ?_
        refine (if_neg (by decide)).trans ?_
        refine (if_neg ((h hc49).2.1)).trans ?_
        refine (e_23_28 _ _ _ _ _ _).trans ?_
        by_cases hc50 : (σ.1 16 x1.toNatClampNeg) < (σ.1 14 x2.toNatClampNeg)
        · simp only [if_pos hc50]
          all_goals
            refine (if_neg (by decide)).trans ?_
            refine (if_neg (((h hc49).2.2.1 hc50).1)).trans ?_
            refine (if_neg (by decide)).trans ?_
            refine (if_neg (((h hc49).2.2.1 hc50).2.1)).trans ?_
            by_cases hc51 : (σ.1 16 x2.toNatClampNeg) < (σ.1 14 x1.toNatClampNeg)
            · simp only [if_pos hc51]
              all_goals
                refine (e_23_51 _ _ _ _).trans ?_
                refine (if_neg (by decide)).trans ?_
                refine (if_neg ((((h hc49).2.2.1 hc50).2.2.1 hc51).1)).trans ?_
                refine (if_neg (by decide)).trans ?_
                refine (if_neg ((((h hc49).2.2.1 hc50).2.2.1 hc51).2.1)).trans ?_
                by_cases hc52 : (σ.1 17 x1.toNatClampNeg) < (σ.1 15 x2.toNatClampNeg)
                · simp only [if_pos hc52]
                  all_goals
                    refine (e_23_74 _ _ _ _ _).trans ?_
                    refine (if_neg (by decide)).trans ?_
                    refine (if_neg (((((h hc49).2.2.1 hc50).2.2.1 hc51).2.2.1 hc52).1)).trans ?_
                    refine (if_neg (by decide)).trans ?_
                    refine (if_neg (((((h hc49).2.2.1 hc50).2.2.1 hc51).2.2.1 hc52).2.1)).trans ?_
                    by_cases hc53 : (σ.1 17 x2.toNatClampNeg) < (σ.1 15 x1.toNatClampNeg)
                    · simp only [if_pos hc53]
                      all_goals
                        rfl
                    · simp only [if_neg hc53]
                      all_goals
                        refine (e_23_90 _ _ _ _).trans ?_
                        exact ih x1 (x2 + 1) ((((((h hc49).2.2.1 hc50).2.2.1 hc51).2.2.1 hc52).2.2 hc53))
                · simp only [if_neg hc52]
                  all_goals
                    refine (e_23_90 _ _ _ _).trans ?_
                    exact ih x1 (x2 + 1) (((((h hc49).2.2.1 hc50).2.2.1 hc51).2.2.2 hc52))
            · simp only [if_neg hc51]
              all_goals
                refine (e_23_90 _ _ _ _).trans ?_
                exact ih x1 (x2 + 1) ((((h hc49).2.2.1 hc50).2.2.2 hc51))
        · simp only [if_neg hc50]
          all_goals
            refine (e_23_90 _ _ _ _).trans ?_
            exact ih x1 (x2 + 1) (((h hc49).2.2.2 hc50))
    · simp only [if_neg hc49]
      all_goals
        refine (e_23_96 _ _ _ _).trans ?_
        rfl
def p_23 (σ : am_M) (x1 : Int32) : Prop := q_23_4 14 σ x1 (x1 + 1)
def f_23 (σ : am_M) (x1 : Int32) : Int32 := (l_23_4 14 σ x1 (x1 + 1))
set_option maxRecDepth 20000 in
theorem sf_23 (L : Nat) (σ : am_M) (x1 : Int32) (h : p_23 σ x1) : am_r L 23 0 [some (.inr (.inr (12, none))), some (.inl x1), none] [] σ = some (some (.inl (f_23 σ x1)), am_sh0 L, σ) := by
  unfold p_23 at h
  unfold f_23
  refine (e_23_0 _ _ _).trans ?_
  exact t_23_4 L σ 14 x1 (x1 + 1) h
def v_23 (σ : am_M) (x1 : Int32) : Int32 := f_23 σ x1
theorem s_23 (L : Nat) (σ : am_M) (x1 : Int32) (h : p_23 σ x1) : am_r L 23 0 [some (.inr (.inr (12, none))), some (.inl x1), none] [] σ = some (some (.inl (v_23 σ x1)), am_sh0 L, σ) := sf_23 L σ x1 h
-- 54: X4_flat
def l_54_55 : Nat → am_M → Int32 → Int32 × am_M
  | 0, σ, x1 => (0, σ)
  | n + 1, σ, x1 => (if x1 < (σ.1 2 0) then (if (v_23 σ x1) = (-1) then (l_54_55 n σ (x1 + 1)) else (2, (am_put (am_put σ 1 6 x1) 1 7 (v_23 σ x1)))) else (0, σ))
def q_54_55 : Nat → am_M → Int32 → Prop
  | 0, _, _ => False
  | n + 1, σ, x1 => (x1 < (σ.1 2 0)) → ((p_23 σ x1) ∧ (((v_23 σ x1) = (-1)) → (q_54_55 n σ (x1 + 1))))
set_option maxRecDepth 20000 in
theorem t_54_55 (L : Nat) : ∀ (n : Nat) (σ : am_M) (x1 : Int32) (o2 : Option am_V), q_54_55 n σ x1 → am_r L 54 55 [some (.inr (.inr (1, none))), some (.inl x1), o2] [] σ = some (some (.inl (l_54_55 n σ x1).1), am_sh0 L, (l_54_55 n σ x1).2) := by
  intro n
  induction n with
  | zero => intro σ x1 o2 h; exact h.elim
  | succ n ih =>
    intro σ x1 o2 h
    unfold q_54_55 at h
    unfold l_54_55
    refine (e_54_55 _ _ _ _).trans ?_
    by_cases hc54 : x1 < (σ.1 2 0)
    · simp only [if_pos hc54]
      all_goals
        refine (am_bind_i (s_23 L σ x1 ((h hc54).1))).trans ?_
        refine (e_54_74 _ _ _ _ _).trans ?_
        by_cases hc55 : (v_23 σ x1) = (-1)
        · simp only [if_pos hc55]
          all_goals
            refine (e_54_92 _ _ _ _).trans ?_
            exact ih σ (x1 + 1) (some (.inl (v_23 σ x1))) (((h hc54).2 hc55))
        · simp only [if_neg hc55]
          all_goals
            rfl
    · simp only [if_neg hc54]
      all_goals
        refine (e_54_98 _ _ _ _).trans ?_
        rfl
def p_54 (σ : am_M) : Prop := ¬ ((σ.1 2 0) = 0) → ((p_17 σ (σ.1 1 4)) ∧ ((p_22 (w_17 σ (σ.1 1 4))) ∧ (((v_22 (w_17 σ (σ.1 1 4))) = (-1)) → (q_54_55 14 (am_put (am_put (w_17 σ (σ.1 1 4)) 1 6 (v_22 (w_17 σ (σ.1 1 4)))) 1 7 (-1)) 0))))
def f_54 (σ : am_M) : Int32 × am_M := (if (σ.1 2 0) = 0 then ((-1), σ) else (if (v_22 (w_17 σ (σ.1 1 4))) = (-1) then (l_54_55 14 (am_put (am_put (w_17 σ (σ.1 1 4)) 1 6 (v_22 (w_17 σ (σ.1 1 4)))) 1 7 (-1)) 0) else (1, (am_put (am_put (w_17 σ (σ.1 1 4)) 1 6 (v_22 (w_17 σ (σ.1 1 4)))) 1 7 (-1)))))
set_option maxRecDepth 20000 in
theorem sf_54 (L : Nat) (σ : am_M) (h : p_54 σ) : am_r L 54 0 [some (.inr (.inr (1, none))), none, none] [] σ = some (some (.inl (f_54 σ).1), am_sh0 L, (f_54 σ).2) := by
  unfold p_54 at h
  unfold f_54
  refine (e_54_0 _ _).trans ?_
  by_cases hc56 : (σ.1 2 0) = 0
  · simp only [if_pos hc56]
    all_goals
      rfl
  · simp only [if_neg hc56]
    all_goals
      refine (e_54_12 _ _).trans ?_
      refine (am_bind_v (s_17 L σ (σ.1 1 4) ((h hc56).1))).trans ?_
      refine (e_54_27 _ _).trans ?_
      refine (am_bind_i (s_22 L (w_17 σ (σ.1 1 4)) ((h hc56).2.1))).trans ?_
      refine (e_54_35 _ _ _).trans ?_
      by_cases hc57 : (v_22 (w_17 σ (σ.1 1 4))) = (-1)
      · simp only [if_pos hc57]
        all_goals
          refine (e_54_53 _ _).trans ?_
          exact t_54_55 L 14 (am_put (am_put (w_17 σ (σ.1 1 4)) 1 6 (v_22 (w_17 σ (σ.1 1 4)))) 1 7 (-1)) 0 none (((h hc56).2.2 hc57))
      · simp only [if_neg hc57]
        all_goals
          rfl
def v_54 (σ : am_M) : Int32 := (f_54 σ).1
def w_54 (σ : am_M) : am_M := (f_54 σ).2
theorem s_54 (L : Nat) (σ : am_M) (h : p_54 σ) : am_r L 54 0 [some (.inr (.inr (1, none))), none, none] [] σ = some (some (.inl (v_54 σ)), am_sh0 L, w_54 σ) := sf_54 L σ h
-- 55: X4_wrong
def v_55 (σ : am_M) (x1 : Int32) : Int32 := (if x1 = 0 then (σ.1 1 6) else (if x1 = 1 then ((σ.1 1 7) : Int32) else (-1)))
set_option maxRecDepth 20000 in
theorem s_55 (L : Nat) (σ : am_M) (x1 : Int32) : am_r L 55 0 [some (.inr (.inr (1, none))), some (.inl x1)] [] σ = some (some (.inl (v_55 σ x1)), am_sh0 L, σ) := by
  unfold v_55
  refine (e_55_0 _ _ _).trans ?_
  by_cases hc58 : x1 = 0
  · simp only [if_pos hc58]
    all_goals
      rfl
  · simp only [if_neg hc58]
    all_goals
      refine (e_55_9 _ _ _).trans ?_
      refine Eq.trans (b := am_r L 55 22 [some (.inr (.inr (1, none))), some (.inl x1)] [.inl (if x1 = 1 then ((σ.1 1 7) : Int32) else (-1))] σ) ?_ ?_
      · by_cases hc59 : x1 = 1
        · simp only [if_pos hc59]
          all_goals
            rfl
        · simp only [if_neg hc59]
          all_goals
            refine (e_55_21 _ _ _).trans ?_
            rfl
      refine (e_55_22 _ _ _ _).trans ?_
      rfl
-- 56: X4_flatOf
def p_56 (σ : am_M) (x1 : Int32) (x2 : Int32) : Prop := ¬ ((v_26 σ x1) = 0) → (¬ ((v_67 σ x2 0 3) = 0) → ((p_17 σ (σ.1 1 4)) ∧ ((¬ ((v_68 (w_17 σ (σ.1 1 4)) x2) < 0 ∨ 4 ≤ ((v_68 (w_17 σ (σ.1 1 4)) x2)).toNatClampNeg)) ∧ (¬ (x1 < 0 ∨ 13 ≤ x1.toNatClampNeg)))))
def v_56 (σ : am_M) (x1 : Int32) (x2 : Int32) : Int32 := (if (v_26 σ x1) = 0 then (-1000000) else (if (v_67 σ x2 0 3) = 0 then (-1000000) else ((w_17 σ (σ.1 1 4)).1 (14 + ((v_68 (w_17 σ (σ.1 1 4)) x2)).toNatClampNeg) x1.toNatClampNeg)))
def w_56 (σ : am_M) (x1 : Int32) (x2 : Int32) : am_M := (if (v_26 σ x1) = 0 then σ else (if (v_67 σ x2 0 3) = 0 then σ else (w_17 σ (σ.1 1 4))))
set_option maxRecDepth 20000 in
theorem s_56 (L : Nat) (σ : am_M) (x1 : Int32) (x2 : Int32) (h : p_56 σ x1 x2) : am_r L 56 0 [some (.inr (.inr (1, none))), some (.inl x1), some (.inl x2)] [] σ = some (some (.inl (v_56 σ x1 x2)), am_sh0 L, w_56 σ x1 x2) := by
  unfold p_56 at h
  unfold v_56 w_56
  refine (e_56_0 _ _ _ _).trans ?_
  refine (am_bind_i (s_26 L σ x1)).trans ?_
  refine (e_56_8 _ _ _ _ _).trans ?_
  by_cases hc60 : (v_26 σ x1) = 0
  · simp only [if_pos hc60]
    all_goals
      refine (e_56_20 _ _ _ _).trans ?_
      rfl
  · simp only [if_neg hc60]
    all_goals
      refine (am_bind_i (s_67 L σ x2 0 3)).trans ?_
      refine (e_56_17 _ _ _ _ _).trans ?_
      by_cases hc61 : (v_67 σ x2 0 3) = 0
      · simp only [if_pos hc61]
        all_goals
          refine (e_56_20 _ _ _ _).trans ?_
          rfl
      · simp only [if_neg hc61]
        all_goals
          refine (e_56_23 _ _ _ _).trans ?_
          refine (am_bind_v (s_17 L σ (σ.1 1 4) (((h hc60) hc61).1))).trans ?_
          refine (e_56_38 _ _ _ _).trans ?_
          refine (am_bind_i (s_68 L (w_17 σ (σ.1 1 4)) x2)).trans ?_
          refine (e_56_49 _ _ _ _ _).trans ?_
          refine (if_neg (((h hc60) hc61).2.1)).trans ?_
          refine (if_neg (((h hc60) hc61).2.2)).trans ?_
          rfl
-- 120: J9_max_7cf53
def v_120 (σ : am_M) (x0 : Int32) (x1 : Int32) : Int32 := (if x0 < x1 then (x1 : Int32) else x0)
set_option maxRecDepth 20000 in
theorem s_120 (L : Nat) (σ : am_M) (x0 : Int32) (x1 : Int32) : am_r L 120 0 [some (.inl x0), some (.inl x1)] [] σ = some (some (.inl (v_120 σ x0 x1)), am_sh0 L, σ) := by
  unfold v_120
  refine (e_120_0 _ _ _ _).trans ?_
  refine Eq.trans (b := am_r L 120 10 [some (.inl x0), some (.inl x1)] [.inl (if x0 < x1 then (x1 : Int32) else x0)] σ) ?_ ?_
  · by_cases hc62 : x0 < x1
    · simp only [if_pos hc62]
      all_goals
        refine (e_120_9 _ _ _ _).trans ?_
        rfl
    · simp only [if_neg hc62]
      all_goals
        rfl
  refine (e_120_10 _ _ _ _ _).trans ?_
  rfl
-- 21: X1_greatestOf
def l_21_11 : Nat → am_M → Int32 → Int32 → Int32 → Int32
  | 0, _, _, _, _ => 0
  | n + 1, σ, x1, x2, x3 => (if x3 < (σ.1 12 0) then (l_21_11 n σ x1 (v_120 σ x2 (σ.1 (14 + x1.toNatClampNeg) x3.toNatClampNeg)) (x3 + 1)) else x2)
def q_21_11 : Nat → am_M → Int32 → Int32 → Int32 → Prop
  | 0, _, _, _, _ => False
  | n + 1, σ, x1, x2, x3 => (x3 < (σ.1 12 0)) → ((¬ (x1 < 0 ∨ 4 ≤ x1.toNatClampNeg)) ∧ ((¬ (x3 < 0 ∨ 13 ≤ x3.toNatClampNeg)) ∧ (q_21_11 n σ x1 (v_120 σ x2 (σ.1 (14 + x1.toNatClampNeg) x3.toNatClampNeg)) (x3 + 1))))
set_option maxRecDepth 20000 in
theorem t_21_11 (L : Nat) (σ : am_M) : ∀ (n : Nat) (x1 : Int32) (x2 : Int32) (x3 : Int32), q_21_11 n σ x1 x2 x3 → am_r L 21 11 [some (.inr (.inr (12, none))), some (.inl x1), some (.inl x2), some (.inl x3)] [] σ = some (some (.inl (l_21_11 n σ x1 x2 x3)), am_sh0 L, σ) := by
  intro n
  induction n with
  | zero => intro x1 x2 x3 h; exact h.elim
  | succ n ih =>
    intro x1 x2 x3 h
    unfold q_21_11 at h
    unfold l_21_11
    refine (e_21_11 _ _ _ _ _).trans ?_
    by_cases hc63 : x3 < (σ.1 12 0)
    · simp only [if_pos hc63]
      all_goals
        refine (if_neg ((h hc63).1)).trans ?_
        refine (if_neg ((h hc63).2.1)).trans ?_
        refine (am_bind_i (s_120 L σ x2 (σ.1 (14 + x1.toNatClampNeg) x3.toNatClampNeg))).trans ?_
        refine (e_21_31 _ _ _ _ _ _).trans ?_
        exact ih x1 (v_120 σ x2 (σ.1 (14 + x1.toNatClampNeg) x3.toNatClampNeg)) (x3 + 1) ((h hc63).2.2)
    · simp only [if_neg hc63]
      all_goals
        refine (e_21_38 _ _ _ _ _).trans ?_
        rfl
def p_21 (σ : am_M) (x1 : Int32) : Prop := (¬ (x1 < 0 ∨ 4 ≤ x1.toNatClampNeg)) ∧ (q_21_11 14 σ x1 (σ.1 (14 + x1.toNatClampNeg) 0) 1)
def f_21 (σ : am_M) (x1 : Int32) : Int32 := (l_21_11 14 σ x1 (σ.1 (14 + x1.toNatClampNeg) 0) 1)
set_option maxRecDepth 20000 in
theorem sf_21 (L : Nat) (σ : am_M) (x1 : Int32) (h : p_21 σ x1) : am_r L 21 0 [some (.inr (.inr (12, none))), some (.inl x1), none, none] [] σ = some (some (.inl (f_21 σ x1)), am_sh0 L, σ) := by
  unfold p_21 at h
  unfold f_21
  refine (e_21_0 _ _ _).trans ?_
  refine (if_neg h.1).trans ?_
  refine (if_neg (by decide)).trans ?_
  exact t_21_11 L σ 14 x1 (σ.1 (14 + x1.toNatClampNeg) 0) 1 h.2
def v_21 (σ : am_M) (x1 : Int32) : Int32 := f_21 σ x1
theorem s_21 (L : Nat) (σ : am_M) (x1 : Int32) (h : p_21 σ x1) : am_r L 21 0 [some (.inr (.inr (12, none))), some (.inl x1), none, none] [] σ = some (some (.inl (v_21 σ x1)), am_sh0 L, σ) := sf_21 L σ x1 h
