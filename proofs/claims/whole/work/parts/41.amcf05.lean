-- 46: X3_isBeside
def p_46 (σ : am_M) (x2 : Int32) (x3 : Int32) : Prop := (¬ ((σ.1 36 1) < 0 ∨ 3 ≤ ((σ.1 36 1)).toNatClampNeg)) ∧ ((¬ (x2 < 0 ∨ 13 ≤ x2.toNatClampNeg)) ∧ ((¬ ((σ.1 36 1) < 0 ∨ 3 ≤ ((σ.1 36 1)).toNatClampNeg)) ∧ ((¬ (x2 < 0 ∨ 13 ≤ x2.toNatClampNeg)) ∧ ((¬ ((σ.1 36 1) < 0 ∨ 3 ≤ ((σ.1 36 1)).toNatClampNeg)) ∧ ((¬ (x3 < 0 ∨ 13 ≤ x3.toNatClampNeg)) ∧ ((¬ ((σ.1 36 1) < 0 ∨ 3 ≤ ((σ.1 36 1)).toNatClampNeg)) ∧ (¬ (x3 < 0 ∨ 13 ≤ x3.toNatClampNeg))))))))
def v_46 (σ : am_M) (x2 : Int32) (x3 : Int32) : Int32 := (if (σ.1 (29 + ((σ.1 36 1)).toNatClampNeg) x2.toNatClampNeg) = (σ.1 (33 + ((σ.1 36 1)).toNatClampNeg) x2.toNatClampNeg) then (if (σ.1 (29 + ((σ.1 36 1)).toNatClampNeg) x3.toNatClampNeg) = (σ.1 (33 + ((σ.1 36 1)).toNatClampNeg) x3.toNatClampNeg) then (if (σ.1 (29 + ((σ.1 36 1)).toNatClampNeg) x2.toNatClampNeg) = (σ.1 (29 + ((σ.1 36 1)).toNatClampNeg) x3.toNatClampNeg) then (1 : Int32) else 0) else (if (σ.1 (29 + ((σ.1 36 1)).toNatClampNeg) x2.toNatClampNeg) < (σ.1 (33 + ((σ.1 36 1)).toNatClampNeg) x3.toNatClampNeg) then ((if (σ.1 (29 + ((σ.1 36 1)).toNatClampNeg) x3.toNatClampNeg) < (σ.1 (33 + ((σ.1 36 1)).toNatClampNeg) x2.toNatClampNeg) then (1 : Int32) else 0) : Int32) else 0)) else (if (σ.1 (29 + ((σ.1 36 1)).toNatClampNeg) x2.toNatClampNeg) < (σ.1 (33 + ((σ.1 36 1)).toNatClampNeg) x3.toNatClampNeg) then ((if (σ.1 (29 + ((σ.1 36 1)).toNatClampNeg) x3.toNatClampNeg) < (σ.1 (33 + ((σ.1 36 1)).toNatClampNeg) x2.toNatClampNeg) then (1 : Int32) else 0) : Int32) else 0))
set_option maxRecDepth 20000 in
theorem s_46 (L : Nat) (σ : am_M) (x2 : Int32) (x3 : Int32) (h : p_46 σ x2 x3) : am_r L 46 0 [some (.inr (.inr (36, none))), some (.inr (.inr (20, none))), some (.inl x2), some (.inl x3), none, none, none, none] [] σ = some (some (.inl (v_46 σ x2 x3)), am_sh0 L, σ) := by
  unfold p_46 at h
  unfold v_46
  refine (e_46_0 _ _ _ _).trans ?_
  refine (if_neg h.1).trans ?_
  refine (if_neg h.2.1).trans ?_
  refine (if_neg h.2.2.1).trans ?_
  refine (if_neg h.2.2.2.1).trans ?_
  refine (e_46_24 _ _ _ _ _ _).trans ?_
  refine (if_neg h.2.2.2.2.1).trans ?_
  refine (if_neg h.2.2.2.2.2.1).trans ?_
  refine (if_neg h.2.2.2.2.2.2.1).trans ?_
  refine (if_neg h.2.2.2.2.2.2.2).trans ?_
  refine (e_46_50 _ _ _ _ _ _ _ _).trans ?_
  refine am_fkIv (fun hc119 => ?_) (fun hc119 => ?_)
  · refine am_fkIv (fun hc120 => ?_) (fun hc120 => ?_)
    · refine Eq.trans (b := am_r L 46 78 [some (.inr (.inr (36, none))), some (.inr (.inr (20, none))), some (.inl x2), some (.inl x3), some (.inl (σ.1 (29 + ((σ.1 36 1)).toNatClampNeg) x2.toNatClampNeg)), some (.inl (σ.1 (33 + ((σ.1 36 1)).toNatClampNeg) x2.toNatClampNeg)), some (.inl (σ.1 (29 + ((σ.1 36 1)).toNatClampNeg) x3.toNatClampNeg)), some (.inl (σ.1 (33 + ((σ.1 36 1)).toNatClampNeg) x3.toNatClampNeg))] [.inl (if (σ.1 (29 + ((σ.1 36 1)).toNatClampNeg) x2.toNatClampNeg) = (σ.1 (29 + ((σ.1 36 1)).toNatClampNeg) x3.toNatClampNeg) then (1 : Int32) else 0)] σ) ?_ ?_
      · by_cases hc121 : (σ.1 (29 + ((σ.1 36 1)).toNatClampNeg) x2.toNatClampNeg) = (σ.1 (29 + ((σ.1 36 1)).toNatClampNeg) x3.toNatClampNeg)
        · refine (if_pos hc121).trans ?_
          refine Eq.trans (b := am_r L 46 78 [some (.inr (.inr (36, none))), some (.inr (.inr (20, none))), some (.inl x2), some (.inl x3), some (.inl (σ.1 (29 + ((σ.1 36 1)).toNatClampNeg) x2.toNatClampNeg)), some (.inl (σ.1 (33 + ((σ.1 36 1)).toNatClampNeg) x2.toNatClampNeg)), some (.inl (σ.1 (29 + ((σ.1 36 1)).toNatClampNeg) x3.toNatClampNeg)), some (.inl (σ.1 (33 + ((σ.1 36 1)).toNatClampNeg) x3.toNatClampNeg))] [.inl 1] σ) ?_ ?_
          · rfl
          · first | with_reducible rfl | simp only [if_pos hc121]
        · refine (if_neg hc121).trans ?_
          refine Eq.trans (b := am_r L 46 78 [some (.inr (.inr (36, none))), some (.inr (.inr (20, none))), some (.inl x2), some (.inl x3), some (.inl (σ.1 (29 + ((σ.1 36 1)).toNatClampNeg) x2.toNatClampNeg)), some (.inl (σ.1 (33 + ((σ.1 36 1)).toNatClampNeg) x2.toNatClampNeg)), some (.inl (σ.1 (29 + ((σ.1 36 1)).toNatClampNeg) x3.toNatClampNeg)), some (.inl (σ.1 (33 + ((σ.1 36 1)).toNatClampNeg) x3.toNatClampNeg))] [.inl 0] σ) ?_ ?_
          · refine (e_46_77 _ _ _ _ _ _ _ _).trans ?_
            rfl
          · first | with_reducible rfl | simp only [if_neg hc121]
      refine (e_46_78 _ _ _ _ _ _ _ _ _).trans ?_
      refine (if_pos (am_01 (Or.inr rfl) (Or.inl rfl))).trans ?_
      rfl
    · refine (e_46_79 _ _ _ _ _ _ _ _).trans ?_
      refine Eq.trans (b := am_r L 46 98 [some (.inr (.inr (36, none))), some (.inr (.inr (20, none))), some (.inl x2), some (.inl x3), some (.inl (σ.1 (29 + ((σ.1 36 1)).toNatClampNeg) x2.toNatClampNeg)), some (.inl (σ.1 (33 + ((σ.1 36 1)).toNatClampNeg) x2.toNatClampNeg)), some (.inl (σ.1 (29 + ((σ.1 36 1)).toNatClampNeg) x3.toNatClampNeg)), some (.inl (σ.1 (33 + ((σ.1 36 1)).toNatClampNeg) x3.toNatClampNeg))] [.inl (if (σ.1 (29 + ((σ.1 36 1)).toNatClampNeg) x2.toNatClampNeg) < (σ.1 (33 + ((σ.1 36 1)).toNatClampNeg) x3.toNatClampNeg) then ((if (σ.1 (29 + ((σ.1 36 1)).toNatClampNeg) x3.toNatClampNeg) < (σ.1 (33 + ((σ.1 36 1)).toNatClampNeg) x2.toNatClampNeg) then (1 : Int32) else 0) : Int32) else 0)] σ) ?_ ?_
      · by_cases hc122 : (σ.1 (29 + ((σ.1 36 1)).toNatClampNeg) x2.toNatClampNeg) < (σ.1 (33 + ((σ.1 36 1)).toNatClampNeg) x3.toNatClampNeg)
        · refine (if_pos hc122).trans ?_
          refine Eq.trans (b := am_r L 46 98 [some (.inr (.inr (36, none))), some (.inr (.inr (20, none))), some (.inl x2), some (.inl x3), some (.inl (σ.1 (29 + ((σ.1 36 1)).toNatClampNeg) x2.toNatClampNeg)), some (.inl (σ.1 (33 + ((σ.1 36 1)).toNatClampNeg) x2.toNatClampNeg)), some (.inl (σ.1 (29 + ((σ.1 36 1)).toNatClampNeg) x3.toNatClampNeg)), some (.inl (σ.1 (33 + ((σ.1 36 1)).toNatClampNeg) x3.toNatClampNeg))] [.inl (if (σ.1 (29 + ((σ.1 36 1)).toNatClampNeg) x3.toNatClampNeg) < (σ.1 (33 + ((σ.1 36 1)).toNatClampNeg) x2.toNatClampNeg) then (1 : Int32) else 0)] σ) ?_ ?_
          · refine Eq.trans (b := am_r L 46 98 [some (.inr (.inr (36, none))), some (.inr (.inr (20, none))), some (.inl x2), some (.inl x3), some (.inl (σ.1 (29 + ((σ.1 36 1)).toNatClampNeg) x2.toNatClampNeg)), some (.inl (σ.1 (33 + ((σ.1 36 1)).toNatClampNeg) x2.toNatClampNeg)), some (.inl (σ.1 (29 + ((σ.1 36 1)).toNatClampNeg) x3.toNatClampNeg)), some (.inl (σ.1 (33 + ((σ.1 36 1)).toNatClampNeg) x3.toNatClampNeg))] [.inl (if (σ.1 (29 + ((σ.1 36 1)).toNatClampNeg) x3.toNatClampNeg) < (σ.1 (33 + ((σ.1 36 1)).toNatClampNeg) x2.toNatClampNeg) then (1 : Int32) else 0)] σ) ?_ ?_
            · by_cases hc123 : (σ.1 (29 + ((σ.1 36 1)).toNatClampNeg) x3.toNatClampNeg) < (σ.1 (33 + ((σ.1 36 1)).toNatClampNeg) x2.toNatClampNeg)
              · refine (if_pos hc123).trans ?_
                refine Eq.trans (b := am_r L 46 98 [some (.inr (.inr (36, none))), some (.inr (.inr (20, none))), some (.inl x2), some (.inl x3), some (.inl (σ.1 (29 + ((σ.1 36 1)).toNatClampNeg) x2.toNatClampNeg)), some (.inl (σ.1 (33 + ((σ.1 36 1)).toNatClampNeg) x2.toNatClampNeg)), some (.inl (σ.1 (29 + ((σ.1 36 1)).toNatClampNeg) x3.toNatClampNeg)), some (.inl (σ.1 (33 + ((σ.1 36 1)).toNatClampNeg) x3.toNatClampNeg))] [.inl 1] σ) ?_ ?_
                · rfl
                · first | with_reducible rfl | simp only [if_pos hc123]
              · refine (if_neg hc123).trans ?_
                refine Eq.trans (b := am_r L 46 98 [some (.inr (.inr (36, none))), some (.inr (.inr (20, none))), some (.inl x2), some (.inl x3), some (.inl (σ.1 (29 + ((σ.1 36 1)).toNatClampNeg) x2.toNatClampNeg)), some (.inl (σ.1 (33 + ((σ.1 36 1)).toNatClampNeg) x2.toNatClampNeg)), some (.inl (σ.1 (29 + ((σ.1 36 1)).toNatClampNeg) x3.toNatClampNeg)), some (.inl (σ.1 (33 + ((σ.1 36 1)).toNatClampNeg) x3.toNatClampNeg))] [.inl 0] σ) ?_ ?_
                · refine (e_46_97 _ _ _ _ _ _ _ _).trans ?_
                  rfl
                · first | with_reducible rfl | simp only [if_neg hc123]
            rfl
          · first | with_reducible rfl | simp only [if_pos hc122]
        · refine (if_neg hc122).trans ?_
          refine Eq.trans (b := am_r L 46 98 [some (.inr (.inr (36, none))), some (.inr (.inr (20, none))), some (.inl x2), some (.inl x3), some (.inl (σ.1 (29 + ((σ.1 36 1)).toNatClampNeg) x2.toNatClampNeg)), some (.inl (σ.1 (33 + ((σ.1 36 1)).toNatClampNeg) x2.toNatClampNeg)), some (.inl (σ.1 (29 + ((σ.1 36 1)).toNatClampNeg) x3.toNatClampNeg)), some (.inl (σ.1 (33 + ((σ.1 36 1)).toNatClampNeg) x3.toNatClampNeg))] [.inl 0] σ) ?_ ?_
          · refine (e_46_97 _ _ _ _ _ _ _ _).trans ?_
            rfl
          · first | with_reducible rfl | simp only [if_neg hc122]
      refine (e_46_98 _ _ _ _ _ _ _ _ _).trans ?_
      refine (if_pos (am_01 (am_01 (Or.inr rfl) (Or.inl rfl)) (Or.inl rfl))).trans ?_
      rfl
  · refine (e_46_79 _ _ _ _ _ _ _ _).trans ?_
    refine Eq.trans (b := am_r L 46 98 [some (.inr (.inr (36, none))), some (.inr (.inr (20, none))), some (.inl x2), some (.inl x3), some (.inl (σ.1 (29 + ((σ.1 36 1)).toNatClampNeg) x2.toNatClampNeg)), some (.inl (σ.1 (33 + ((σ.1 36 1)).toNatClampNeg) x2.toNatClampNeg)), some (.inl (σ.1 (29 + ((σ.1 36 1)).toNatClampNeg) x3.toNatClampNeg)), some (.inl (σ.1 (33 + ((σ.1 36 1)).toNatClampNeg) x3.toNatClampNeg))] [.inl (if (σ.1 (29 + ((σ.1 36 1)).toNatClampNeg) x2.toNatClampNeg) < (σ.1 (33 + ((σ.1 36 1)).toNatClampNeg) x3.toNatClampNeg) then ((if (σ.1 (29 + ((σ.1 36 1)).toNatClampNeg) x3.toNatClampNeg) < (σ.1 (33 + ((σ.1 36 1)).toNatClampNeg) x2.toNatClampNeg) then (1 : Int32) else 0) : Int32) else 0)] σ) ?_ ?_
    · by_cases hc124 : (σ.1 (29 + ((σ.1 36 1)).toNatClampNeg) x2.toNatClampNeg) < (σ.1 (33 + ((σ.1 36 1)).toNatClampNeg) x3.toNatClampNeg)
      · refine (if_pos hc124).trans ?_
        refine Eq.trans (b := am_r L 46 98 [some (.inr (.inr (36, none))), some (.inr (.inr (20, none))), some (.inl x2), some (.inl x3), some (.inl (σ.1 (29 + ((σ.1 36 1)).toNatClampNeg) x2.toNatClampNeg)), some (.inl (σ.1 (33 + ((σ.1 36 1)).toNatClampNeg) x2.toNatClampNeg)), some (.inl (σ.1 (29 + ((σ.1 36 1)).toNatClampNeg) x3.toNatClampNeg)), some (.inl (σ.1 (33 + ((σ.1 36 1)).toNatClampNeg) x3.toNatClampNeg))] [.inl (if (σ.1 (29 + ((σ.1 36 1)).toNatClampNeg) x3.toNatClampNeg) < (σ.1 (33 + ((σ.1 36 1)).toNatClampNeg) x2.toNatClampNeg) then (1 : Int32) else 0)] σ) ?_ ?_
        · refine Eq.trans (b := am_r L 46 98 [some (.inr (.inr (36, none))), some (.inr (.inr (20, none))), some (.inl x2), some (.inl x3), some (.inl (σ.1 (29 + ((σ.1 36 1)).toNatClampNeg) x2.toNatClampNeg)), some (.inl (σ.1 (33 + ((σ.1 36 1)).toNatClampNeg) x2.toNatClampNeg)), some (.inl (σ.1 (29 + ((σ.1 36 1)).toNatClampNeg) x3.toNatClampNeg)), some (.inl (σ.1 (33 + ((σ.1 36 1)).toNatClampNeg) x3.toNatClampNeg))] [.inl (if (σ.1 (29 + ((σ.1 36 1)).toNatClampNeg) x3.toNatClampNeg) < (σ.1 (33 + ((σ.1 36 1)).toNatClampNeg) x2.toNatClampNeg) then (1 : Int32) else 0)] σ) ?_ ?_
          · by_cases hc125 : (σ.1 (29 + ((σ.1 36 1)).toNatClampNeg) x3.toNatClampNeg) < (σ.1 (33 + ((σ.1 36 1)).toNatClampNeg) x2.toNatClampNeg)
            · refine (if_pos hc125).trans ?_
              refine Eq.trans (b := am_r L 46 98 [some (.inr (.inr (36, none))), some (.inr (.inr (20, none))), some (.inl x2), some (.inl x3), some (.inl (σ.1 (29 + ((σ.1 36 1)).toNatClampNeg) x2.toNatClampNeg)), some (.inl (σ.1 (33 + ((σ.1 36 1)).toNatClampNeg) x2.toNatClampNeg)), some (.inl (σ.1 (29 + ((σ.1 36 1)).toNatClampNeg) x3.toNatClampNeg)), some (.inl (σ.1 (33 + ((σ.1 36 1)).toNatClampNeg) x3.toNatClampNeg))] [.inl 1] σ) ?_ ?_
              · rfl
              · first | with_reducible rfl | simp only [if_pos hc125]
            · refine (if_neg hc125).trans ?_
              refine Eq.trans (b := am_r L 46 98 [some (.inr (.inr (36, none))), some (.inr (.inr (20, none))), some (.inl x2), some (.inl x3), some (.inl (σ.1 (29 + ((σ.1 36 1)).toNatClampNeg) x2.toNatClampNeg)), some (.inl (σ.1 (33 + ((σ.1 36 1)).toNatClampNeg) x2.toNatClampNeg)), some (.inl (σ.1 (29 + ((σ.1 36 1)).toNatClampNeg) x3.toNatClampNeg)), some (.inl (σ.1 (33 + ((σ.1 36 1)).toNatClampNeg) x3.toNatClampNeg))] [.inl 0] σ) ?_ ?_
              · refine (e_46_97 _ _ _ _ _ _ _ _).trans ?_
                rfl
              · first | with_reducible rfl | simp only [if_neg hc125]
          rfl
        · first | with_reducible rfl | simp only [if_pos hc124]
      · refine (if_neg hc124).trans ?_
        refine Eq.trans (b := am_r L 46 98 [some (.inr (.inr (36, none))), some (.inr (.inr (20, none))), some (.inl x2), some (.inl x3), some (.inl (σ.1 (29 + ((σ.1 36 1)).toNatClampNeg) x2.toNatClampNeg)), some (.inl (σ.1 (33 + ((σ.1 36 1)).toNatClampNeg) x2.toNatClampNeg)), some (.inl (σ.1 (29 + ((σ.1 36 1)).toNatClampNeg) x3.toNatClampNeg)), some (.inl (σ.1 (33 + ((σ.1 36 1)).toNatClampNeg) x3.toNatClampNeg))] [.inl 0] σ) ?_ ?_
        · refine (e_46_97 _ _ _ _ _ _ _ _).trans ?_
          rfl
        · first | with_reducible rfl | simp only [if_neg hc124]
    refine (e_46_98 _ _ _ _ _ _ _ _ _).trans ?_
    refine (if_pos (am_01 (am_01 (Or.inr rfl) (Or.inl rfl)) (Or.inl rfl))).trans ?_
    rfl
theorem b_46 (σ : am_M) (x2 : Int32) (x3 : Int32) : v_46 σ x2 x3 = 0 ∨ v_46 σ x2 x3 = 1 := (am_01 (am_01 (am_01 (Or.inr rfl) (Or.inl rfl)) (am_01 (am_01 (Or.inr rfl) (Or.inl rfl)) (Or.inl rfl))) (am_01 (am_01 (Or.inr rfl) (Or.inl rfl)) (Or.inl rfl)))
-- 47: X3_areBandsCommon
def l_47_3 : Nat → am_M → Int32 → Int32 → Int32 → Int32 → Int32
  | 0, _, _, _, _, _ => 0
  | n + 1, σ, x1, x2, x3, x4 => (if x4 < 4 then (if (v_120 σ (σ.1 (40 + x4.toNatClampNeg) x1.toNatClampNeg) (σ.1 (40 + x4.toNatClampNeg) x2.toNatClampNeg)) < (v_121 σ (σ.1 (45 + x4.toNatClampNeg) x1.toNatClampNeg) (σ.1 (45 + x4.toNatClampNeg) x2.toNatClampNeg)) then 1 else (if (v_120 σ (σ.1 (40 + x4.toNatClampNeg) x1.toNatClampNeg) (σ.1 (40 + (((x4 + x3) &&& (3 : Int32))).toNatClampNeg) x2.toNatClampNeg)) < (v_121 σ (σ.1 (45 + x4.toNatClampNeg) x1.toNatClampNeg) (σ.1 (45 + (((x4 + x3) &&& (3 : Int32))).toNatClampNeg) x2.toNatClampNeg)) then 1 else (l_47_3 n σ x1 x2 x3 (x4 + 1)))) else 0)
def q_47_3 : Nat → am_M → Int32 → Int32 → Int32 → Int32 → Prop
  | 0, _, _, _, _, _ => False
  | n + 1, σ, x1, x2, x3, x4 => (x4 < 4) → ((¬ (x4 < 0 ∨ 4 ≤ x4.toNatClampNeg)) ∧ ((¬ (x1 < 0 ∨ 13 ≤ x1.toNatClampNeg)) ∧ ((¬ (x4 < 0 ∨ 4 ≤ x4.toNatClampNeg)) ∧ ((¬ (x1 < 0 ∨ 13 ≤ x1.toNatClampNeg)) ∧ ((¬ (x4 < 0 ∨ 4 ≤ x4.toNatClampNeg)) ∧ ((¬ (x2 < 0 ∨ 13 ≤ x2.toNatClampNeg)) ∧ ((¬ (x4 < 0 ∨ 4 ≤ x4.toNatClampNeg)) ∧ ((¬ (x2 < 0 ∨ 13 ≤ x2.toNatClampNeg)) ∧ (¬ ((v_120 σ (σ.1 (40 + x4.toNatClampNeg) x1.toNatClampNeg) (σ.1 (40 + x4.toNatClampNeg) x2.toNatClampNeg)) < (v_121 σ (σ.1 (45 + x4.toNatClampNeg) x1.toNatClampNeg) (σ.1 (45 + x4.toNatClampNeg) x2.toNatClampNeg))) → ((¬ (((x4 + x3) &&& (3 : Int32)) < 0 ∨ 4 ≤ (((x4 + x3) &&& (3 : Int32))).toNatClampNeg)) ∧ ((¬ (x2 < 0 ∨ 13 ≤ x2.toNatClampNeg)) ∧ ((¬ (((x4 + x3) &&& (3 : Int32)) < 0 ∨ 4 ≤ (((x4 + x3) &&& (3 : Int32))).toNatClampNeg)) ∧ ((¬ (x2 < 0 ∨ 13 ≤ x2.toNatClampNeg)) ∧ (¬ ((v_120 σ (σ.1 (40 + x4.toNatClampNeg) x1.toNatClampNeg) (σ.1 (40 + (((x4 + x3) &&& (3 : Int32))).toNatClampNeg) x2.toNatClampNeg)) < (v_121 σ (σ.1 (45 + x4.toNatClampNeg) x1.toNatClampNeg) (σ.1 (45 + (((x4 + x3) &&& (3 : Int32))).toNatClampNeg) x2.toNatClampNeg))) → (q_47_3 n σ x1 x2 x3 (x4 + 1))))))))))))))))
set_option maxRecDepth 20000 in
theorem t_47_3 (L : Nat) (σ : am_M) : ∀ (n : Nat) (x1 : Int32) (x2 : Int32) (x3 : Int32) (x4 : Int32) (o5 : Option am_V) (o6 : Option am_V) (o7 : Option am_V), q_47_3 n σ x1 x2 x3 x4 → am_r L 47 3 [some (.inr (.inr (36, none))), some (.inl x1), some (.inl x2), some (.inl x3), some (.inl x4), o5, o6, o7] [] σ = some (some (.inl (l_47_3 n σ x1 x2 x3 x4)), am_sh0 L, σ) := by
  intro n
  induction n with
  | zero => intro x1 x2 x3 x4 o5 o6 o7 h; exact h.elim
  | succ n ih =>
    intro x1 x2 x3 x4 o5 o6 o7 h
    unfold q_47_3 at h
    unfold l_47_3
    refine (e_47_3 _ _ _ _ _ _ _ _ _).trans ?_
    refine am_fkIv (fun hc126 => ?_) (fun hc126 => ?_)
    · refine (if_neg ((h hc126).1)).trans ?_
      refine (if_neg ((h hc126).2.1)).trans ?_
      refine (if_neg ((h hc126).2.2.1)).trans ?_
      refine (e_47_35 _ _ _ _ _ _ _ _ _ _).trans ?_
      refine (if_neg ((h hc126).2.2.2.1)).trans ?_
      refine (if_neg ((h hc126).2.2.2.2.1)).trans ?_
      refine (if_neg ((h hc126).2.2.2.2.2.1)).trans ?_
      refine (am_bind_i (s_120 L σ (σ.1 (40 + x4.toNatClampNeg) x1.toNatClampNeg) (σ.1 (40 + x4.toNatClampNeg) x2.toNatClampNeg))).trans ?_
      refine (e_47_53 _ _ _ _ _ _ _ _ _ _).trans ?_
      refine (if_neg ((h hc126).2.2.2.2.2.2.1)).trans ?_
      refine (if_neg ((h hc126).2.2.2.2.2.2.2.1)).trans ?_
      refine (am_bind_i (s_121 L σ (σ.1 (45 + x4.toNatClampNeg) x1.toNatClampNeg) (σ.1 (45 + x4.toNatClampNeg) x2.toNatClampNeg))).trans ?_
      refine (e_47_67 _ _ _ _ _ _ _ _ _ _ _).trans ?_
      refine am_fkIv (fun hc127 => ?_) (fun hc127 => ?_)
      · refine (e_47_101 _ _ _ _ _ _ _ _ _).trans ?_
        refine (e_47_102 _ _ _ _ _ _ _ _ _ _).trans ?_
        rfl
      · refine (if_neg (((h hc126).2.2.2.2.2.2.2.2 hc127).1)).trans ?_
        refine (if_neg (((h hc126).2.2.2.2.2.2.2.2 hc127).2.1)).trans ?_
        refine (am_bind_i (s_120 L σ (σ.1 (40 + x4.toNatClampNeg) x1.toNatClampNeg) (σ.1 (40 + (((x4 + x3) &&& (3 : Int32))).toNatClampNeg) x2.toNatClampNeg))).trans ?_
        refine (e_47_84 _ _ _ _ _ _ _ _ _ _).trans ?_
        refine (if_neg (((h hc126).2.2.2.2.2.2.2.2 hc127).2.2.1)).trans ?_
        refine (if_neg (((h hc126).2.2.2.2.2.2.2.2 hc127).2.2.2.1)).trans ?_
        refine (am_bind_i (s_121 L σ (σ.1 (45 + x4.toNatClampNeg) x1.toNatClampNeg) (σ.1 (45 + (((x4 + x3) &&& (3 : Int32))).toNatClampNeg) x2.toNatClampNeg))).trans ?_
        refine (e_47_98 _ _ _ _ _ _ _ _ _ _ _).trans ?_
        refine am_fkIv (fun hc128 => ?_) (fun hc128 => ?_)
        · refine (e_47_101 _ _ _ _ _ _ _ _ _).trans ?_
          refine (e_47_102 _ _ _ _ _ _ _ _ _ _).trans ?_
          rfl
        · refine (e_47_103 _ _ _ _ _ _ _ _ _).trans ?_
          exact ih x1 x2 x3 (x4 + 1) (some (.inl ((x4 + x3) &&& (3 : Int32)))) (some (.inl (σ.1 (40 + x4.toNatClampNeg) x1.toNatClampNeg))) (some (.inl (σ.1 (45 + x4.toNatClampNeg) x1.toNatClampNeg))) ((((h hc126).2.2.2.2.2.2.2.2 hc127).2.2.2.2 hc128))
    · refine (e_47_109 _ _ _ _ _ _ _ _ _).trans ?_
      refine (e_47_110 _ _ _ _ _ _ _ _ _ _).trans ?_
      rfl
def p_47 (σ : am_M) (x1 : Int32) (x2 : Int32) (x3 : Int32) : Prop := q_47_3 14 σ x1 x2 x3 0
def f_47 (σ : am_M) (x1 : Int32) (x2 : Int32) (x3 : Int32) : Int32 := (l_47_3 14 σ x1 x2 x3 0)
set_option maxRecDepth 20000 in
theorem sf_47 (L : Nat) (σ : am_M) (x1 : Int32) (x2 : Int32) (x3 : Int32) (h : p_47 σ x1 x2 x3) : am_r L 47 0 [some (.inr (.inr (36, none))), some (.inl x1), some (.inl x2), some (.inl x3), none, none, none, none] [] σ = some (some (.inl (f_47 σ x1 x2 x3)), am_sh0 L, σ) := by
  unfold p_47 at h
  unfold f_47
  refine (e_47_0 _ _ _ _ _).trans ?_
  exact t_47_3 L σ 14 x1 x2 x3 0 none none none h
def v_47 (σ : am_M) (x1 : Int32) (x2 : Int32) (x3 : Int32) : Int32 := f_47 σ x1 x2 x3
theorem s_47 (L : Nat) (σ : am_M) (x1 : Int32) (x2 : Int32) (x3 : Int32) (h : p_47 σ x1 x2 x3) : am_r L 47 0 [some (.inr (.inr (36, none))), some (.inl x1), some (.inl x2), some (.inl x3), none, none, none, none] [] σ = some (some (.inl (v_47 σ x1 x2 x3)), am_sh0 L, σ) := sf_47 L σ x1 x2 x3 h
-- 45: X3_hitsFixed
def l_45_3 : Nat → am_M → Int32 → Int32 → Int32 → Int32 → Int32 → Int32
  | 0, _, _, _, _, _, _ => 0
  | n + 1, σ, x3, x4, x5, x6, x7 => (if x7 < (σ.1 2 0) then (if ((x4 >>> (x7 &&& (31 : Int32))) &&& (1 : Int32)) = 0 then (if (if x5 = x3 then ((if x7 = (σ.1 3 x3.toNatClampNeg) then (1 : Int32) else (if x7 = x3 then ((if x5 = (σ.1 3 x3.toNatClampNeg) then (1 : Int32) else 0) : Int32) else 0)) : Int32) else (if x7 = x3 then ((if x5 = (σ.1 3 x3.toNatClampNeg) then (1 : Int32) else 0) : Int32) else 0)) = 0 then (if (v_46 σ x5 x7) = 0 then (l_45_3 n σ x3 x4 x5 x6 (x7 + 1)) else (if (v_47 σ x5 x7 x6) = 0 then (l_45_3 n σ x3 x4 x5 x6 (x7 + 1)) else 1)) else (l_45_3 n σ x3 x4 x5 x6 (x7 + 1))) else (l_45_3 n σ x3 x4 x5 x6 (x7 + 1))) else 0)
def q_45_3 : Nat → am_M → Int32 → Int32 → Int32 → Int32 → Int32 → Prop
  | 0, _, _, _, _, _, _ => False
  | n + 1, σ, x3, x4, x5, x6, x7 => (x7 < (σ.1 2 0)) → ((((x5 = x3) → ((¬ (x3 < 0 ∨ 13 ≤ x3.toNatClampNeg)) ∧ (¬ (x7 = (σ.1 3 x3.toNatClampNeg)) → ((x7 = x3) → (¬ (x3 < 0 ∨ 13 ≤ x3.toNatClampNeg)))))) ∧ (¬ (x5 = x3) → ((x7 = x3) → (¬ (x3 < 0 ∨ 13 ≤ x3.toNatClampNeg))))) ∧ (((((x4 >>> (x7 &&& (31 : Int32))) &&& (1 : Int32)) = 0) → ((((if x5 = x3 then ((if x7 = (σ.1 3 x3.toNatClampNeg) then (1 : Int32) else (if x7 = x3 then ((if x5 = (σ.1 3 x3.toNatClampNeg) then (1 : Int32) else 0) : Int32) else 0)) : Int32) else (if x7 = x3 then ((if x5 = (σ.1 3 x3.toNatClampNeg) then (1 : Int32) else 0) : Int32) else 0)) = 0) → ((p_46 σ x5 x7) ∧ ((((v_46 σ x5 x7) = 0) → (q_45_3 n σ x3 x4 x5 x6 (x7 + 1))) ∧ (¬ ((v_46 σ x5 x7) = 0) → ((p_47 σ x5 x7 x6) ∧ (((v_47 σ x5 x7 x6) = 0) → (q_45_3 n σ x3 x4 x5 x6 (x7 + 1)))))))) ∧ (¬ ((if x5 = x3 then ((if x7 = (σ.1 3 x3.toNatClampNeg) then (1 : Int32) else (if x7 = x3 then ((if x5 = (σ.1 3 x3.toNatClampNeg) then (1 : Int32) else 0) : Int32) else 0)) : Int32) else (if x7 = x3 then ((if x5 = (σ.1 3 x3.toNatClampNeg) then (1 : Int32) else 0) : Int32) else 0)) = 0) → (q_45_3 n σ x3 x4 x5 x6 (x7 + 1))))) ∧ (¬ (((x4 >>> (x7 &&& (31 : Int32))) &&& (1 : Int32)) = 0) → (q_45_3 n σ x3 x4 x5 x6 (x7 + 1)))))
set_option maxRecDepth 20000 in
theorem t_45_3 (L : Nat) (σ : am_M) : ∀ (n : Nat) (x3 : Int32) (x4 : Int32) (x5 : Int32) (x6 : Int32) (x7 : Int32) (o8 : Option am_V), q_45_3 n σ x3 x4 x5 x6 x7 → am_r L 45 3 [some (.inr (.inr (36, none))), some (.inr (.inr (2, none))), some (.inr (.inr (20, none))), some (.inl x3), some (.inl x4), some (.inl x5), some (.inl x6), some (.inl x7), o8] [] σ = some (some (.inl (l_45_3 n σ x3 x4 x5 x6 x7)), am_sh0 L, σ) := by
  intro n
  induction n with
  | zero => intro x3 x4 x5 x6 x7 o8 h; exact h.elim
  | succ n ih =>
    intro x3 x4 x5 x6 x7 o8 h
    unfold q_45_3 at h
    unfold l_45_3
    refine (e_45_3 _ _ _ _ _ _ _ _).trans ?_
    refine am_fkIv (fun hc129 => ?_) (fun hc129 => ?_)
    · refine Eq.trans (b := am_r L 45 51 [some (.inr (.inr (36, none))), some (.inr (.inr (2, none))), some (.inr (.inr (20, none))), some (.inl x3), some (.inl x4), some (.inl x5), some (.inl x6), some (.inl x7), o8] [.inl (if x5 = x3 then ((if x7 = (σ.1 3 x3.toNatClampNeg) then (1 : Int32) else (if x7 = x3 then ((if x5 = (σ.1 3 x3.toNatClampNeg) then (1 : Int32) else 0) : Int32) else 0)) : Int32) else (if x7 = x3 then ((if x5 = (σ.1 3 x3.toNatClampNeg) then (1 : Int32) else 0) : Int32) else 0))] σ) ?_ ?_
      · by_cases hc130 : x5 = x3
        · refine (if_pos hc130).trans ?_
          refine Eq.trans (b := am_r L 45 51 [some (.inr (.inr (36, none))), some (.inr (.inr (2, none))), some (.inr (.inr (20, none))), some (.inl x3), some (.inl x4), some (.inl x5), some (.inl x6), some (.inl x7), o8] [.inl (if x7 = (σ.1 3 x3.toNatClampNeg) then (1 : Int32) else (if x7 = x3 then ((if x5 = (σ.1 3 x3.toNatClampNeg) then (1 : Int32) else 0) : Int32) else 0))] σ) ?_ ?_
          · refine (if_neg (((h hc129).1.1 hc130).1)).trans ?_
            refine Eq.trans (b := am_r L 45 51 [some (.inr (.inr (36, none))), some (.inr (.inr (2, none))), some (.inr (.inr (20, none))), some (.inl x3), some (.inl x4), some (.inl x5), some (.inl x6), some (.inl x7), o8] [.inl (if x7 = (σ.1 3 x3.toNatClampNeg) then (1 : Int32) else (if x7 = x3 then ((if x5 = (σ.1 3 x3.toNatClampNeg) then (1 : Int32) else 0) : Int32) else 0))] σ) ?_ ?_
            · by_cases hc131 : x7 = (σ.1 3 x3.toNatClampNeg)
              · refine (if_pos hc131).trans ?_
                refine Eq.trans (b := am_r L 45 51 [some (.inr (.inr (36, none))), some (.inr (.inr (2, none))), some (.inr (.inr (20, none))), some (.inl x3), some (.inl x4), some (.inl x5), some (.inl x6), some (.inl x7), o8] [.inl 1] σ) ?_ ?_
                · refine (e_45_46 _ _ _ _ _ _ _ _).trans ?_
                  rfl
                · first | with_reducible rfl | simp only [if_pos hc131]
              · refine (if_neg hc131).trans ?_
                refine Eq.trans (b := am_r L 45 51 [some (.inr (.inr (36, none))), some (.inr (.inr (2, none))), some (.inr (.inr (20, none))), some (.inl x3), some (.inl x4), some (.inl x5), some (.inl x6), some (.inl x7), o8] [.inl (if x7 = x3 then ((if x5 = (σ.1 3 x3.toNatClampNeg) then (1 : Int32) else 0) : Int32) else 0)] σ) ?_ ?_
                · refine (e_45_29 _ _ _ _ _ _ _ _).trans ?_
                  refine Eq.trans (b := am_r L 45 51 [some (.inr (.inr (36, none))), some (.inr (.inr (2, none))), some (.inr (.inr (20, none))), some (.inl x3), some (.inl x4), some (.inl x5), some (.inl x6), some (.inl x7), o8] [.inl (if x7 = x3 then ((if x5 = (σ.1 3 x3.toNatClampNeg) then (1 : Int32) else 0) : Int32) else 0)] σ) ?_ ?_
                  · by_cases hc132 : x7 = x3
                    · refine (if_pos hc132).trans ?_
                      refine Eq.trans (b := am_r L 45 51 [some (.inr (.inr (36, none))), some (.inr (.inr (2, none))), some (.inr (.inr (20, none))), some (.inl x3), some (.inl x4), some (.inl x5), some (.inl x6), some (.inl x7), o8] [.inl (if x5 = (σ.1 3 x3.toNatClampNeg) then (1 : Int32) else 0)] σ) ?_ ?_
                      · refine (if_neg (((((h hc129).1.1 hc130).2 hc131) hc132))).trans ?_
                        refine Eq.trans (b := am_r L 45 51 [some (.inr (.inr (36, none))), some (.inr (.inr (2, none))), some (.inr (.inr (20, none))), some (.inl x3), some (.inl x4), some (.inl x5), some (.inl x6), some (.inl x7), o8] [.inl (if x5 = (σ.1 3 x3.toNatClampNeg) then (1 : Int32) else 0)] σ) ?_ ?_
                        · by_cases hc133 : x5 = (σ.1 3 x3.toNatClampNeg)
                          · refine (if_pos hc133).trans ?_
                            refine Eq.trans (b := am_r L 45 51 [some (.inr (.inr (36, none))), some (.inr (.inr (2, none))), some (.inr (.inr (20, none))), some (.inl x3), some (.inl x4), some (.inl x5), some (.inl x6), some (.inl x7), o8] [.inl 1] σ) ?_ ?_
                            · refine (e_45_46 _ _ _ _ _ _ _ _).trans ?_
                              rfl
                            · first | with_reducible rfl | simp only [if_pos hc133]
                          · refine (if_neg hc133).trans ?_
                            refine Eq.trans (b := am_r L 45 51 [some (.inr (.inr (36, none))), some (.inr (.inr (2, none))), some (.inr (.inr (20, none))), some (.inl x3), some (.inl x4), some (.inl x5), some (.inl x6), some (.inl x7), o8] [.inl 0] σ) ?_ ?_
                            · refine (e_45_50 _ _ _ _ _ _ _ _).trans ?_
                              rfl
                            · first | with_reducible rfl | simp only [if_neg hc133]
                        rfl
                      · first | with_reducible rfl | simp only [if_pos hc132]
                    · refine (if_neg hc132).trans ?_
                      refine Eq.trans (b := am_r L 45 51 [some (.inr (.inr (36, none))), some (.inr (.inr (2, none))), some (.inr (.inr (20, none))), some (.inl x3), some (.inl x4), some (.inl x5), some (.inl x6), some (.inl x7), o8] [.inl 0] σ) ?_ ?_
                      · refine (e_45_50 _ _ _ _ _ _ _ _).trans ?_
                        rfl
                      · first | with_reducible rfl | simp only [if_neg hc132]
                  rfl
                · first | with_reducible rfl | simp only [if_neg hc131]
            rfl
          · first | with_reducible rfl | simp only [if_pos hc130]
        · refine (if_neg hc130).trans ?_
          refine Eq.trans (b := am_r L 45 51 [some (.inr (.inr (36, none))), some (.inr (.inr (2, none))), some (.inr (.inr (20, none))), some (.inl x3), some (.inl x4), some (.inl x5), some (.inl x6), some (.inl x7), o8] [.inl (if x7 = x3 then ((if x5 = (σ.1 3 x3.toNatClampNeg) then (1 : Int32) else 0) : Int32) else 0)] σ) ?_ ?_
          · refine (e_45_29 _ _ _ _ _ _ _ _).trans ?_
            refine Eq.trans (b := am_r L 45 51 [some (.inr (.inr (36, none))), some (.inr (.inr (2, none))), some (.inr (.inr (20, none))), some (.inl x3), some (.inl x4), some (.inl x5), some (.inl x6), some (.inl x7), o8] [.inl (if x7 = x3 then ((if x5 = (σ.1 3 x3.toNatClampNeg) then (1 : Int32) else 0) : Int32) else 0)] σ) ?_ ?_
            · by_cases hc134 : x7 = x3
              · refine (if_pos hc134).trans ?_
                refine Eq.trans (b := am_r L 45 51 [some (.inr (.inr (36, none))), some (.inr (.inr (2, none))), some (.inr (.inr (20, none))), some (.inl x3), some (.inl x4), some (.inl x5), some (.inl x6), some (.inl x7), o8] [.inl (if x5 = (σ.1 3 x3.toNatClampNeg) then (1 : Int32) else 0)] σ) ?_ ?_
                · refine (if_neg ((((h hc129).1.2 hc130) hc134))).trans ?_
                  refine Eq.trans (b := am_r L 45 51 [some (.inr (.inr (36, none))), some (.inr (.inr (2, none))), some (.inr (.inr (20, none))), some (.inl x3), some (.inl x4), some (.inl x5), some (.inl x6), some (.inl x7), o8] [.inl (if x5 = (σ.1 3 x3.toNatClampNeg) then (1 : Int32) else 0)] σ) ?_ ?_
                  · by_cases hc135 : x5 = (σ.1 3 x3.toNatClampNeg)
                    · refine (if_pos hc135).trans ?_
                      refine Eq.trans (b := am_r L 45 51 [some (.inr (.inr (36, none))), some (.inr (.inr (2, none))), some (.inr (.inr (20, none))), some (.inl x3), some (.inl x4), some (.inl x5), some (.inl x6), some (.inl x7), o8] [.inl 1] σ) ?_ ?_
                      · refine (e_45_46 _ _ _ _ _ _ _ _).trans ?_
                        rfl
                      · first | with_reducible rfl | simp only [if_pos hc135]
                    · refine (if_neg hc135).trans ?_
                      refine Eq.trans (b := am_r L 45 51 [some (.inr (.inr (36, none))), some (.inr (.inr (2, none))), some (.inr (.inr (20, none))), some (.inl x3), some (.inl x4), some (.inl x5), some (.inl x6), some (.inl x7), o8] [.inl 0] σ) ?_ ?_
                      · refine (e_45_50 _ _ _ _ _ _ _ _).trans ?_
                        rfl
                      · first | with_reducible rfl | simp only [if_neg hc135]
                  rfl
                · first | with_reducible rfl | simp only [if_pos hc134]
              · refine (if_neg hc134).trans ?_
                refine Eq.trans (b := am_r L 45 51 [some (.inr (.inr (36, none))), some (.inr (.inr (2, none))), some (.inr (.inr (20, none))), some (.inl x3), some (.inl x4), some (.inl x5), some (.inl x6), some (.inl x7), o8] [.inl 0] σ) ?_ ?_
                · refine (e_45_50 _ _ _ _ _ _ _ _).trans ?_
                  rfl
                · first | with_reducible rfl | simp only [if_neg hc134]
            rfl
          · first | with_reducible rfl | simp only [if_neg hc130]
      refine (e_45_51 _ _ _ _ _ _ _ _ _).trans ?_
      refine am_fkIv (fun hc136 => ?_) (fun hc136 => ?_)
      · refine am_fkIv (fun hc137 => ?_) (fun hc137 => ?_)
        · refine (am_bind_i (s_46 L σ x5 x7 ((((h hc129).2.1 hc136).1 hc137).1))).trans ?_
          refine (e_45_77 _ _ _ _ _ _ _ _ _).trans ?_
          refine am_fkIv (fun hc138 => ?_) (fun hc138 => ?_)
          · refine (e_45_95 _ _ _ _ _ _ _ _).trans ?_
            exact ih x3 x4 x5 x6 (x7 + 1) (some (.inl (if x5 = x3 then ((if x7 = (σ.1 3 x3.toNatClampNeg) then (1 : Int32) else (if x7 = x3 then ((if x5 = (σ.1 3 x3.toNatClampNeg) then (1 : Int32) else 0) : Int32) else 0)) : Int32) else (if x7 = x3 then ((if x5 = (σ.1 3 x3.toNatClampNeg) then (1 : Int32) else 0) : Int32) else 0)))) (((((h hc129).2.1 hc136).1 hc137).2.1 hc138))
          · refine (am_bind_i (s_47 L σ x5 x7 x6 (((((h hc129).2.1 hc136).1 hc137).2.2 hc138).1))).trans ?_
            refine (e_45_90 _ _ _ _ _ _ _ _ _).trans ?_
            refine am_fkIv (fun hc139 => ?_) (fun hc139 => ?_)
            · refine (e_45_95 _ _ _ _ _ _ _ _).trans ?_
              exact ih x3 x4 x5 x6 (x7 + 1) (some (.inl (if x5 = x3 then ((if x7 = (σ.1 3 x3.toNatClampNeg) then (1 : Int32) else (if x7 = x3 then ((if x5 = (σ.1 3 x3.toNatClampNeg) then (1 : Int32) else 0) : Int32) else 0)) : Int32) else (if x7 = x3 then ((if x5 = (σ.1 3 x3.toNatClampNeg) then (1 : Int32) else 0) : Int32) else 0)))) ((((((h hc129).2.1 hc136).1 hc137).2.2 hc138).2 hc139))
            · refine (e_45_94 _ _ _ _ _ _ _ _ _).trans ?_
              rfl
        · refine (e_45_95 _ _ _ _ _ _ _ _).trans ?_
          exact ih x3 x4 x5 x6 (x7 + 1) (some (.inl (if x5 = x3 then ((if x7 = (σ.1 3 x3.toNatClampNeg) then (1 : Int32) else (if x7 = x3 then ((if x5 = (σ.1 3 x3.toNatClampNeg) then (1 : Int32) else 0) : Int32) else 0)) : Int32) else (if x7 = x3 then ((if x5 = (σ.1 3 x3.toNatClampNeg) then (1 : Int32) else 0) : Int32) else 0)))) ((((h hc129).2.1 hc136).2 hc137))
      · refine (e_45_95 _ _ _ _ _ _ _ _).trans ?_
        exact ih x3 x4 x5 x6 (x7 + 1) (some (.inl (if x5 = x3 then ((if x7 = (σ.1 3 x3.toNatClampNeg) then (1 : Int32) else (if x7 = x3 then ((if x5 = (σ.1 3 x3.toNatClampNeg) then (1 : Int32) else 0) : Int32) else 0)) : Int32) else (if x7 = x3 then ((if x5 = (σ.1 3 x3.toNatClampNeg) then (1 : Int32) else 0) : Int32) else 0)))) (((h hc129).2.2 hc136))
    · refine (e_45_101 _ _ _ _ _ _ _ _).trans ?_
      refine (e_45_102 _ _ _ _ _ _ _ _ _).trans ?_
      rfl
def p_45 (σ : am_M) (x3 : Int32) (x4 : Int32) (x5 : Int32) (x6 : Int32) : Prop := q_45_3 14 σ x3 x4 x5 x6 0
def f_45 (σ : am_M) (x3 : Int32) (x4 : Int32) (x5 : Int32) (x6 : Int32) : Int32 := (l_45_3 14 σ x3 x4 x5 x6 0)
set_option maxRecDepth 20000 in
theorem sf_45 (L : Nat) (σ : am_M) (x3 : Int32) (x4 : Int32) (x5 : Int32) (x6 : Int32) (h : p_45 σ x3 x4 x5 x6) : am_r L 45 0 [some (.inr (.inr (36, none))), some (.inr (.inr (2, none))), some (.inr (.inr (20, none))), some (.inl x3), some (.inl x4), some (.inl x5), some (.inl x6), none, none] [] σ = some (some (.inl (f_45 σ x3 x4 x5 x6)), am_sh0 L, σ) := by
  unfold p_45 at h
  unfold f_45
  refine (e_45_0 _ _ _ _ _ _).trans ?_
  exact t_45_3 L σ 14 x3 x4 x5 x6 0 none h
def v_45 (σ : am_M) (x3 : Int32) (x4 : Int32) (x5 : Int32) (x6 : Int32) : Int32 := f_45 σ x3 x4 x5 x6
theorem s_45 (L : Nat) (σ : am_M) (x3 : Int32) (x4 : Int32) (x5 : Int32) (x6 : Int32) (h : p_45 σ x3 x4 x5 x6) : am_r L 45 0 [some (.inr (.inr (36, none))), some (.inr (.inr (2, none))), some (.inr (.inr (20, none))), some (.inl x3), some (.inl x4), some (.inl x5), some (.inl x6), none, none] [] σ = some (some (.inl (v_45 σ x3 x4 x5 x6)), am_sh0 L, σ) := sf_45 L σ x3 x4 x5 x6 h
-- 42: X3_isFree
def l_42_65 : Nat → am_M → Int32 → Int32 → Int32 → Int32 → Int32 × am_M
  | 0, σ, x3, x4, x5, x6 => (0, σ)
  | n + 1, σ, x3, x4, x5, x6 => (if x6 < (σ.1 2 0) then (if ((x4 >>> (x6 &&& (31 : Int32))) &&& (1 : Int32)) = 1 then (if (v_45 σ x3 x4 x6 x5) = 0 then (l_42_65 n σ x3 x4 x5 (x6 + 1)) else (0, σ)) else (l_42_65 n σ x3 x4 x5 (x6 + 1))) else (1, σ))
def q_42_65 : Nat → am_M → Int32 → Int32 → Int32 → Int32 → Prop
  | 0, _, _, _, _, _ => False
  | n + 1, σ, x3, x4, x5, x6 => (x6 < (σ.1 2 0)) → (((((x4 >>> (x6 &&& (31 : Int32))) &&& (1 : Int32)) = 1) → ((p_45 σ x3 x4 x6 x5) ∧ (((v_45 σ x3 x4 x6 x5) = 0) → (q_42_65 n σ x3 x4 x5 (x6 + 1))))) ∧ (¬ (((x4 >>> (x6 &&& (31 : Int32))) &&& (1 : Int32)) = 1) → (q_42_65 n σ x3 x4 x5 (x6 + 1))))
set_option maxRecDepth 20000 in
theorem t_42_65 (L : Nat) : ∀ (n : Nat) (σ : am_M) (x3 : Int32) (x4 : Int32) (x5 : Int32) (x6 : Int32), q_42_65 n σ x3 x4 x5 x6 → am_r L 42 65 [some (.inr (.inr (36, none))), some (.inr (.inr (2, none))), some (.inr (.inr (20, none))), some (.inl x3), some (.inl x4), some (.inl x5), some (.inl x6)] [] σ = some (some (.inl (l_42_65 n σ x3 x4 x5 x6).1), am_sh0 L, (l_42_65 n σ x3 x4 x5 x6).2) := by
  intro n
  induction n with
  | zero => intro σ x3 x4 x5 x6 h; exact h.elim
  | succ n ih =>
    intro σ x3 x4 x5 x6 h
    unfold q_42_65 at h
    unfold l_42_65
    refine (e_42_65 _ _ _ _ _ _).trans ?_
    refine am_fkPI (fun hc140 => ?_) (fun hc140 => ?_)
    · refine am_fkPI (fun hc141 => ?_) (fun hc141 => ?_)
      · refine (am_bind_i (s_45 L σ x3 x4 x6 x5 (((h hc140).1 hc141).1))).trans ?_
        refine (e_42_98 _ _ _ _ _ _ _).trans ?_
        refine am_fkPI (fun hc142 => ?_) (fun hc142 => ?_)
        · refine (e_42_103 _ _ _ _ _ _).trans ?_
          exact ih σ x3 x4 x5 (x6 + 1) ((((h hc140).1 hc141).2 hc142))
        · refine (e_42_102 _ _ _ _ _ _ _).trans ?_
          rfl
      · refine (e_42_103 _ _ _ _ _ _).trans ?_
        exact ih σ x3 x4 x5 (x6 + 1) (((h hc140).2 hc141))
    · refine (e_42_109 _ _ _ _ _ _).trans ?_
      refine (e_42_110 _ _ _ _ _ _ _).trans ?_
      rfl
def l_42_10 : Nat → am_M → Int32 → Int32 → Int32 × am_M
  | 0, σ, x3, x4 => (0, σ)
  | n + 1, σ, x3, x4 => (if x4 < (σ.1 2 0) then (l_42_10 n (w_44 σ (σ.1 3 x3.toNatClampNeg) x4) x3 (x4 + 1)) else (l_42_65 14 σ x3 (v_40 σ x3) (if (((v_40 σ x3) >>> (x3 &&& (31 : Int32))) &&& (1 : Int32)) = 1 then (1 : Int32) else 3) 0))
def q_42_10 : Nat → am_M → Int32 → Int32 → Prop
  | 0, _, _, _ => False
  | n + 1, σ, x3, x4 => ((x4 < (σ.1 2 0)) → ((¬ (x3 < 0 ∨ 13 ≤ x3.toNatClampNeg)) ∧ ((p_44 σ (σ.1 3 x3.toNatClampNeg) x4) ∧ (q_42_10 n (w_44 σ (σ.1 3 x3.toNatClampNeg) x4) x3 (x4 + 1))))) ∧ (¬ (x4 < (σ.1 2 0)) → ((p_40 σ x3) ∧ (q_42_65 14 σ x3 (v_40 σ x3) (if (((v_40 σ x3) >>> (x3 &&& (31 : Int32))) &&& (1 : Int32)) = 1 then (1 : Int32) else 3) 0)))
set_option maxRecDepth 20000 in
theorem t_42_10 (L : Nat) : ∀ (n : Nat) (σ : am_M) (x3 : Int32) (x4 : Int32), q_42_10 n σ x3 x4 → am_r L 42 10 [some (.inr (.inr (36, none))), some (.inr (.inr (2, none))), some (.inr (.inr (20, none))), some (.inl x3), some (.inl x4), none, none] [] σ = some (some (.inl (l_42_10 n σ x3 x4).1), am_sh0 L, (l_42_10 n σ x3 x4).2) := by
  intro n
  induction n with
  | zero => intro σ x3 x4 h; exact h.elim
  | succ n ih =>
    intro σ x3 x4 h
    unfold q_42_10 at h
    unfold l_42_10
    refine (e_42_10 _ _ _ _).trans ?_
    refine am_fkPI (fun hc143 => ?_) (fun hc143 => ?_)
    · refine (if_neg ((h.1 hc143).1)).trans ?_
      refine (am_bind_v (s_44 L σ (σ.1 3 x3.toNatClampNeg) x4 ((h.1 hc143).2.1))).trans ?_
      refine (e_42_32 _ _ _ _).trans ?_
      exact ih (w_44 σ (σ.1 3 x3.toNatClampNeg) x4) x3 (x4 + 1) ((h.1 hc143).2.2)
    · refine (e_42_38 _ _ _ _).trans ?_
      refine (am_bind_i (s_40 L σ x3 ((h.2 hc143).1))).trans ?_
      refine (e_42_43 _ _ _ _ _).trans ?_
      refine Eq.trans (b := am_r L 42 60 [some (.inr (.inr (36, none))), some (.inr (.inr (2, none))), some (.inr (.inr (20, none))), some (.inl x3), some (.inl (v_40 σ x3)), none, none] [.inl (if (((v_40 σ x3) >>> (x3 &&& (31 : Int32))) &&& (1 : Int32)) = 1 then (1 : Int32) else 3)] σ) ?_ ?_
      · by_cases hc144 : (((v_40 σ x3) >>> (x3 &&& (31 : Int32))) &&& (1 : Int32)) = 1
        · refine (if_pos hc144).trans ?_
          refine Eq.trans (b := am_r L 42 60 [some (.inr (.inr (36, none))), some (.inr (.inr (2, none))), some (.inr (.inr (20, none))), some (.inl x3), some (.inl (v_40 σ x3)), none, none] [.inl 1] σ) ?_ ?_
          · rfl
          · first | with_reducible rfl | simp only [if_pos hc144]
        · refine (if_neg hc144).trans ?_
          refine Eq.trans (b := am_r L 42 60 [some (.inr (.inr (36, none))), some (.inr (.inr (2, none))), some (.inr (.inr (20, none))), some (.inl x3), some (.inl (v_40 σ x3)), none, none] [.inl 3] σ) ?_ ?_
          · refine (e_42_59 _ _ _ _).trans ?_
            rfl
          · first | with_reducible rfl | simp only [if_neg hc144]
      refine (e_42_60 _ _ _ _ _).trans ?_
      exact t_42_65 L 14 σ x3 (v_40 σ x3) (if (((v_40 σ x3) >>> (x3 &&& (31 : Int32))) &&& (1 : Int32)) = 1 then (1 : Int32) else 3) 0 ((h.2 hc143).2)
def p_42 (σ : am_M) (x3 : Int32) : Prop := (p_43 σ x3) ∧ (q_42_10 14 (w_43 σ x3) x3 0)
def f_42 (σ : am_M) (x3 : Int32) : Int32 × am_M := (l_42_10 14 (w_43 σ x3) x3 0)
set_option maxRecDepth 20000 in
theorem sf_42 (L : Nat) (σ : am_M) (x3 : Int32) (h : p_42 σ x3) : am_r L 42 0 [some (.inr (.inr (36, none))), some (.inr (.inr (2, none))), some (.inr (.inr (20, none))), some (.inl x3), none, none, none] [] σ = some (some (.inl (f_42 σ x3).1), am_sh0 L, (f_42 σ x3).2) := by
  unfold p_42 at h
  unfold f_42
  refine (e_42_0 _ _ _).trans ?_
  refine (am_bind_v (s_43 L σ x3 h.1)).trans ?_
  refine (e_42_7 _ _ _).trans ?_
  exact t_42_10 L 14 (w_43 σ x3) x3 0 h.2
def v_42 (σ : am_M) (x3 : Int32) : Int32 := (f_42 σ x3).1
def w_42 (σ : am_M) (x3 : Int32) : am_M := (f_42 σ x3).2
theorem s_42 (L : Nat) (σ : am_M) (x3 : Int32) (h : p_42 σ x3) : am_r L 42 0 [some (.inr (.inr (36, none))), some (.inr (.inr (2, none))), some (.inr (.inr (20, none))), some (.inl x3), none, none, none] [] σ = some (some (.inl (v_42 σ x3)), am_sh0 L, w_42 σ x3) := sf_42 L σ x3 h
-- 71: X4_canBeAsked
def v_71 (σ : am_M) (x1 : Int32) (x2 : Int32) : Int32 := (if (v_27 σ x2) = 0 then (0 : Int32) else (if (v_29 σ x1) = 0 then (0 : Int32) else (if ((x1 >>> (x2 &&& (31 : Int32))) &&& (1 : Int32)) = 0 then (1 : Int32) else 0)))
set_option maxRecDepth 20000 in
theorem s_71 (L : Nat) (σ : am_M) (x1 : Int32) (x2 : Int32) : am_r L 71 0 [some (.inr (.inr (1, none))), some (.inl x1), some (.inl x2)] [] σ = some (some (.inl (v_71 σ x1 x2)), am_sh0 L, σ) := by
  unfold v_71
  refine (e_71_0 _ _ _ _).trans ?_
  refine (am_bind_i (s_27 L σ x2)).trans ?_
  refine (e_71_8 _ _ _ _ _).trans ?_
  refine Eq.trans (b := am_r L 71 35 [some (.inr (.inr (1, none))), some (.inl x1), some (.inl x2)] [.inl (if (v_27 σ x2) = 0 then (0 : Int32) else (if (v_29 σ x1) = 0 then (0 : Int32) else (if ((x1 >>> (x2 &&& (31 : Int32))) &&& (1 : Int32)) = 0 then (1 : Int32) else 0)))] σ) ?_ ?_
  · by_cases hc145 : (v_27 σ x2) = 0
    · refine (if_pos hc145).trans ?_
      refine Eq.trans (b := am_r L 71 35 [some (.inr (.inr (1, none))), some (.inl x1), some (.inl x2)] [.inl 0] σ) ?_ ?_
      · refine (e_71_34 _ _ _ _).trans ?_
        rfl
      · first | with_reducible rfl | simp only [if_pos hc145]
    · refine (if_neg hc145).trans ?_
      refine Eq.trans (b := am_r L 71 35 [some (.inr (.inr (1, none))), some (.inl x1), some (.inl x2)] [.inl (if (v_29 σ x1) = 0 then (0 : Int32) else (if ((x1 >>> (x2 &&& (31 : Int32))) &&& (1 : Int32)) = 0 then (1 : Int32) else 0))] σ) ?_ ?_
      · refine (am_bind_i (s_29 L σ x1)).trans ?_
        refine (e_71_19 _ _ _ _ _).trans ?_
        refine Eq.trans (b := am_r L 71 35 [some (.inr (.inr (1, none))), some (.inl x1), some (.inl x2)] [.inl (if (v_29 σ x1) = 0 then (0 : Int32) else (if ((x1 >>> (x2 &&& (31 : Int32))) &&& (1 : Int32)) = 0 then (1 : Int32) else 0))] σ) ?_ ?_
        · by_cases hc146 : (v_29 σ x1) = 0
          · refine (if_pos hc146).trans ?_
            refine Eq.trans (b := am_r L 71 35 [some (.inr (.inr (1, none))), some (.inl x1), some (.inl x2)] [.inl 0] σ) ?_ ?_
            · refine (e_71_34 _ _ _ _).trans ?_
              rfl
            · first | with_reducible rfl | simp only [if_pos hc146]
          · refine (if_neg hc146).trans ?_
            refine Eq.trans (b := am_r L 71 35 [some (.inr (.inr (1, none))), some (.inl x1), some (.inl x2)] [.inl (if ((x1 >>> (x2 &&& (31 : Int32))) &&& (1 : Int32)) = 0 then (1 : Int32) else 0)] σ) ?_ ?_
            · refine Eq.trans (b := am_r L 71 35 [some (.inr (.inr (1, none))), some (.inl x1), some (.inl x2)] [.inl (if ((x1 >>> (x2 &&& (31 : Int32))) &&& (1 : Int32)) = 0 then (1 : Int32) else 0)] σ) ?_ ?_
              · by_cases hc147 : ((x1 >>> (x2 &&& (31 : Int32))) &&& (1 : Int32)) = 0
                · refine (if_pos hc147).trans ?_
                  refine Eq.trans (b := am_r L 71 35 [some (.inr (.inr (1, none))), some (.inl x1), some (.inl x2)] [.inl 1] σ) ?_ ?_
                  · rfl
                  · first | with_reducible rfl | simp only [if_pos hc147]
                · refine (if_neg hc147).trans ?_
                  refine Eq.trans (b := am_r L 71 35 [some (.inr (.inr (1, none))), some (.inl x1), some (.inl x2)] [.inl 0] σ) ?_ ?_
                  · refine (e_71_34 _ _ _ _).trans ?_
                    rfl
                  · first | with_reducible rfl | simp only [if_neg hc147]
              rfl
            · first | with_reducible rfl | simp only [if_neg hc146]
        rfl
      · first | with_reducible rfl | simp only [if_neg hc145]
  refine (e_71_35 _ _ _ _ _).trans ?_
  refine (if_pos (am_01 (Or.inl rfl) (am_01 (Or.inl rfl) (am_01 (Or.inr rfl) (Or.inl rfl))))).trans ?_
  rfl
theorem b_71 (σ : am_M) (x1 : Int32) (x2 : Int32) : v_71 σ x1 x2 = 0 ∨ v_71 σ x1 x2 = 1 := (am_01 (Or.inl rfl) (am_01 (Or.inl rfl) (am_01 (Or.inr rfl) (Or.inl rfl))))
-- 61: X4_clear
def p_61 (σ : am_M) (x1 : Int32) (x2 : Int32) : Prop := ¬ ((v_71 σ x1 x2) = 0) → ((p_1 σ x1) ∧ (p_42 (w_1 σ x1) x2))
def v_61 (σ : am_M) (x1 : Int32) (x2 : Int32) : Int32 := (if (v_71 σ x1 x2) = 0 then (-1) else (if (v_42 (w_1 σ x1) x2) = 0 then (0 : Int32) else 1))
def w_61 (σ : am_M) (x1 : Int32) (x2 : Int32) : am_M := (if (v_71 σ x1 x2) = 0 then σ else (w_42 (w_1 σ x1) x2))
set_option maxRecDepth 20000 in
theorem s_61 (L : Nat) (σ : am_M) (x1 : Int32) (x2 : Int32) (h : p_61 σ x1 x2) : am_r L 61 0 [some (.inr (.inr (1, none))), some (.inl x1), some (.inl x2)] [] σ = some (some (.inl (v_61 σ x1 x2)), am_sh0 L, w_61 σ x1 x2) := by
  unfold p_61 at h
  unfold v_61 w_61
  refine (e_61_0 _ _ _ _).trans ?_
  refine (am_bind_i (s_71 L σ x1 x2)).trans ?_
  refine (e_61_6 _ _ _ _ _).trans ?_
  refine am_fkIvm (fun hc148 => ?_) (fun hc148 => ?_)
  · rfl
  · refine (e_61_11 _ _ _ _).trans ?_
    refine (am_bind_v (s_1 L σ x1 ((h hc148).1))).trans ?_
    refine (e_61_23 _ _ _ _).trans ?_
    refine (am_bind_i (s_42 L (w_1 σ x1) x2 ((h hc148).2))).trans ?_
    refine (e_61_39 _ _ _ _ _).trans ?_
    refine Eq.trans (b := am_r L 61 47 [some (.inr (.inr (1, none))), some (.inl x1), some (.inl x2)] [.inl (if (v_42 (w_1 σ x1) x2) = 0 then (0 : Int32) else 1)] (w_42 (w_1 σ x1) x2)) ?_ ?_
    · by_cases hc149 : (v_42 (w_1 σ x1) x2) = 0
      · refine (if_pos hc149).trans ?_
        refine Eq.trans (b := am_r L 61 47 [some (.inr (.inr (1, none))), some (.inl x1), some (.inl x2)] [.inl 0] (w_42 (w_1 σ x1) x2)) ?_ ?_
        · refine (e_61_46 _ _ _ _).trans ?_
          rfl
        · first | with_reducible rfl | simp only [if_pos hc149]
      · refine (if_neg hc149).trans ?_
        refine Eq.trans (b := am_r L 61 47 [some (.inr (.inr (1, none))), some (.inl x1), some (.inl x2)] [.inl 1] (w_42 (w_1 σ x1) x2)) ?_ ?_
        · rfl
        · first | with_reducible rfl | simp only [if_neg hc149]
    refine (e_61_47 _ _ _ _ _).trans ?_
    rfl
-- 13: X0_gaugeEdge
def l_13_33 (k21 : Int32 → Int32 → Int32 → Int32 → Int32) : Nat → am_M → Int32 → Int32 → Int32 → Int32 → Int32 → Int32
  | 0, _, _, _, _, _, _ => 0
  | n + 1, σ, x2, x3, x4, x5, x6 => (if x6 < 4 then (if (v_33 σ x5 x6) = 0 then (l_13_33 k21 n σ x2 x3 x4 x5 (x6 + 1)) else (if (v_32 σ x5 x6) < x3 then (l_13_33 k21 n σ x2 x3 x4 x5 (x6 + 1)) else (if (v_9 σ x5 x6) = x4 then ((4 * x5) + x6) else (l_13_33 k21 n σ x2 x3 x4 x5 (x6 + 1))))) else (k21 x2 x3 x4 (x5 + 1)))
def q_13_33 (c21 : Int32 → Int32 → Int32 → Int32 → Prop) : Nat → am_M → Int32 → Int32 → Int32 → Int32 → Int32 → Prop
  | 0, _, _, _, _, _, _ => False
  | n + 1, σ, x2, x3, x4, x5, x6 => ((x6 < 4) → ((p_33 σ x5 x6) ∧ ((((v_33 σ x5 x6) = 0) → (q_13_33 c21 n σ x2 x3 x4 x5 (x6 + 1))) ∧ (¬ ((v_33 σ x5 x6) = 0) → ((p_32 σ x5 x6) ∧ ((((v_32 σ x5 x6) < x3) → (q_13_33 c21 n σ x2 x3 x4 x5 (x6 + 1))) ∧ (¬ ((v_32 σ x5 x6) < x3) → ((p_9 σ x5 x6) ∧ (¬ ((v_9 σ x5 x6) = x4) → (q_13_33 c21 n σ x2 x3 x4 x5 (x6 + 1))))))))))) ∧ (¬ (x6 < 4) → (c21 x2 x3 x4 (x5 + 1)))
set_option maxRecDepth 20000 in
theorem t_13_33 (L : Nat) (σ : am_M) (k21 : Int32 → Int32 → Int32 → Int32 → Int32) (c21 : Int32 → Int32 → Int32 → Int32 → Prop) (hk21 : ∀ (x2 : Int32) (x3 : Int32) (x4 : Int32) (x5 : Int32) (o6 : Option am_V), c21 x2 x3 x4 x5 → am_r L 13 21 [some (.inr (.inr (20, none))), some (.inr (.inr (2, none))), some (.inl x2), some (.inl x3), some (.inl x4), some (.inl x5), o6] [] σ = some (some (.inl (k21 x2 x3 x4 x5)), am_sh0 L, σ)) : ∀ (n : Nat) (x2 : Int32) (x3 : Int32) (x4 : Int32) (x5 : Int32) (x6 : Int32), q_13_33 c21 n σ x2 x3 x4 x5 x6 → am_r L 13 33 [some (.inr (.inr (20, none))), some (.inr (.inr (2, none))), some (.inl x2), some (.inl x3), some (.inl x4), some (.inl x5), some (.inl x6)] [] σ = some (some (.inl (l_13_33 k21 n σ x2 x3 x4 x5 x6)), am_sh0 L, σ) := by
  intro n
  induction n with
  | zero => intro x2 x3 x4 x5 x6 h; exact h.elim
  | succ n ih =>
    intro x2 x3 x4 x5 x6 h
    unfold q_13_33 at h
    unfold l_13_33
    refine (e_13_33 _ _ _ _ _ _ _).trans ?_
    refine am_fkIv (fun hc150 => ?_) (fun hc150 => ?_)
    · refine (am_bind_i (s_33 L σ x5 x6 ((h.1 hc150).1))).trans ?_
      refine (e_13_47 _ _ _ _ _ _ _ _).trans ?_
      refine am_fkIv (fun hc151 => ?_) (fun hc151 => ?_)
      · refine (e_13_83 _ _ _ _ _ _ _).trans ?_
        exact ih x2 x3 x4 x5 (x6 + 1) (((h.1 hc150).2.1 hc151))
      · refine (am_bind_i (s_32 L σ x5 x6 (((h.1 hc150).2.2 hc151).1))).trans ?_
        refine (e_13_58 _ _ _ _ _ _ _ _).trans ?_
        refine am_fkIv (fun hc152 => ?_) (fun hc152 => ?_)
        · refine (e_13_83 _ _ _ _ _ _ _).trans ?_
          exact ih x2 x3 x4 x5 (x6 + 1) ((((h.1 hc150).2.2 hc151).2.1 hc152))
        · refine (am_bind_i (s_9 L σ x5 x6 ((((h.1 hc150).2.2 hc151).2.2 hc152).1))).trans ?_
          refine (e_13_70 _ _ _ _ _ _ _ _).trans ?_
          refine am_fkIv (fun hc153 => ?_) (fun hc153 => ?_)
          · rfl
          · refine (e_13_83 _ _ _ _ _ _ _).trans ?_
            exact ih x2 x3 x4 x5 (x6 + 1) (((((h.1 hc150).2.2 hc151).2.2 hc152).2 hc153))
    · refine (e_13_89 _ _ _ _ _ _ _).trans ?_
      exact hk21 x2 x3 x4 (x5 + 1) (some (.inl x6)) ((h.2 hc150))
def l_13_21 : Nat → am_M → Int32 → Int32 → Int32 → Int32 → Int32
  | 0, _, _, _, _, _ => 0
  | n + 1, σ, x2, x3, x4, x5 => (if x5 < (σ.1 2 0) then (l_13_33 (l_13_21 n σ) 14 σ x2 x3 x4 x5 0) else (-1))
def q_13_21 : Nat → am_M → Int32 → Int32 → Int32 → Int32 → Prop
  | 0, _, _, _, _, _ => False
  | n + 1, σ, x2, x3, x4, x5 => (x5 < (σ.1 2 0)) → (q_13_33 (q_13_21 n σ) 14 σ x2 x3 x4 x5 0)
set_option maxRecDepth 20000 in
theorem t_13_21 (L : Nat) (σ : am_M) : ∀ (n : Nat) (x2 : Int32) (x3 : Int32) (x4 : Int32) (x5 : Int32) (o6 : Option am_V), q_13_21 n σ x2 x3 x4 x5 → am_r L 13 21 [some (.inr (.inr (20, none))), some (.inr (.inr (2, none))), some (.inl x2), some (.inl x3), some (.inl x4), some (.inl x5), o6] [] σ = some (some (.inl (l_13_21 n σ x2 x3 x4 x5)), am_sh0 L, σ) := by
  intro n
  induction n with
  | zero => intro x2 x3 x4 x5 o6 h; exact h.elim
  | succ n ih =>
    intro x2 x3 x4 x5 o6 h
    unfold q_13_21 at h
    unfold l_13_21
    refine (e_13_21 _ _ _ _ _ _ _).trans ?_
    refine am_fkIv (fun hc154 => ?_) (fun hc154 => ?_)
    · exact t_13_33 L σ (l_13_21 n σ) (q_13_21 n σ) ih 14 x2 x3 x4 x5 0 ((h hc154))
    · refine (e_13_95 _ _ _ _ _ _ _).trans ?_
      rfl
def p_13 (σ : am_M) (x2 : Int32) (x3 : Int32) : Prop := (¬ (x2 < 0 ∨ 13 ≤ x2.toNatClampNeg)) ∧ ((¬ (x2 < 0 ∨ 13 ≤ x2.toNatClampNeg)) ∧ ((p_9 σ (σ.1 3 x2.toNatClampNeg) (σ.1 4 x2.toNatClampNeg)) ∧ (q_13_21 14 σ x2 x3 (v_9 σ (σ.1 3 x2.toNatClampNeg) (σ.1 4 x2.toNatClampNeg)) 0)))
def f_13 (σ : am_M) (x2 : Int32) (x3 : Int32) : Int32 := (l_13_21 14 σ x2 x3 (v_9 σ (σ.1 3 x2.toNatClampNeg) (σ.1 4 x2.toNatClampNeg)) 0)
set_option maxRecDepth 20000 in
theorem sf_13 (L : Nat) (σ : am_M) (x2 : Int32) (x3 : Int32) (h : p_13 σ x2 x3) : am_r L 13 0 [some (.inr (.inr (20, none))), some (.inr (.inr (2, none))), some (.inl x2), some (.inl x3), none, none, none] [] σ = some (some (.inl (f_13 σ x2 x3)), am_sh0 L, σ) := by
  unfold p_13 at h
  unfold f_13
  refine (e_13_0 _ _ _ _).trans ?_
  refine (if_neg h.1).trans ?_
  refine (if_neg h.2.1).trans ?_
  refine (am_bind_i (s_9 L σ (σ.1 3 x2.toNatClampNeg) (σ.1 4 x2.toNatClampNeg) h.2.2.1)).trans ?_
  refine (e_13_16 _ _ _ _ _).trans ?_
  exact t_13_21 L σ 14 x2 x3 (v_9 σ (σ.1 3 x2.toNatClampNeg) (σ.1 4 x2.toNatClampNeg)) 0 none h.2.2.2
def v_13 (σ : am_M) (x2 : Int32) (x3 : Int32) : Int32 := f_13 σ x2 x3
theorem s_13 (L : Nat) (σ : am_M) (x2 : Int32) (x3 : Int32) (h : p_13 σ x2 x3) : am_r L 13 0 [some (.inr (.inr (20, none))), some (.inr (.inr (2, none))), some (.inl x2), some (.inl x3), none, none, none] [] σ = some (some (.inl (v_13 σ x2 x3)), am_sh0 L, σ) := sf_13 L σ x2 x3 h
-- 62: X4_edge
def p_62 (σ : am_M) (x1 : Int32) (x2 : Int32) : Prop := ¬ ((v_71 σ x1 x2) = 0) → ((p_1 σ x1) ∧ (p_13 (w_1 σ x1) x2 ((w_1 σ x1).1 1 5)))
def v_62 (σ : am_M) (x1 : Int32) (x2 : Int32) : Int32 := (if (v_71 σ x1 x2) = 0 then (-1) else (v_13 (w_1 σ x1) x2 ((w_1 σ x1).1 1 5)))
def w_62 (σ : am_M) (x1 : Int32) (x2 : Int32) : am_M := (if (v_71 σ x1 x2) = 0 then σ else (w_1 σ x1))
set_option maxRecDepth 20000 in
theorem s_62 (L : Nat) (σ : am_M) (x1 : Int32) (x2 : Int32) (h : p_62 σ x1 x2) : am_r L 62 0 [some (.inr (.inr (1, none))), some (.inl x1), some (.inl x2)] [] σ = some (some (.inl (v_62 σ x1 x2)), am_sh0 L, w_62 σ x1 x2) := by
  unfold p_62 at h
  unfold v_62 w_62
  refine (e_62_0 _ _ _ _).trans ?_
  refine (am_bind_i (s_71 L σ x1 x2)).trans ?_
  refine (e_62_6 _ _ _ _ _).trans ?_
  refine am_fkIvm (fun hc155 => ?_) (fun hc155 => ?_)
  · rfl
  · refine (e_62_11 _ _ _ _).trans ?_
    refine (am_bind_v (s_1 L σ x1 ((h hc155).1))).trans ?_
    refine (e_62_23 _ _ _ _).trans ?_
    refine (am_bind_i (s_13 L (w_1 σ x1) x2 ((w_1 σ x1).1 1 5) ((h hc155).2))).trans ?_
    refine (e_62_39 _ _ _ _ _).trans ?_
    rfl
-- 73: X4_leastThatGoesOn
def l_73_4 : Nat → am_M → Int32 → Int32 → Int32 → Int32 × am_M
  | 0, σ, x1, x2, x3 => (0, σ)
  | n + 1, σ, x1, x2, x3 => (if x3 < (σ.1 2 0) then (if (x1 ||| ((1 : Int32) <<< (x3 &&& (31 : Int32)))) = x1 then (l_73_4 n σ x1 x2 (x3 + 1)) else (if (σ.1 49 ((((x1 ||| ((1 : Int32) <<< (x3 &&& (31 : Int32)))) >>> ((1 : Int32) &&& (31 : Int32)))).toNatClampNeg)) = (-1) then (l_73_4 n σ x1 x2 (x3 + 1)) else (if x2 = 0 then (if (v_13 (w_1 σ x1) x3 ((w_1 σ x1).1 1 5)) = (-1) then (l_73_4 n (w_1 σ x1) x1 1 (x3 + 1)) else (if (v_42 (w_1 σ x1) x3) = 0 then (l_73_4 n (w_42 (w_1 σ x1) x3) x1 1 (x3 + 1)) else (x3, (w_42 (w_1 σ x1) x3)))) else (if (v_13 σ x3 (σ.1 1 5)) = (-1) then (l_73_4 n σ x1 x2 (x3 + 1)) else (if (v_42 σ x3) = 0 then (l_73_4 n (w_42 σ x3) x1 x2 (x3 + 1)) else (x3, (w_42 σ x3))))))) else ((-1), σ))
def q_73_4 : Nat → am_M → Int32 → Int32 → Int32 → Prop
  | 0, _, _, _, _ => False
  | n + 1, σ, x1, x2, x3 => (x3 < (σ.1 2 0)) → ((((x1 ||| ((1 : Int32) <<< (x3 &&& (31 : Int32)))) = x1) → (q_73_4 n σ x1 x2 (x3 + 1))) ∧ (¬ ((x1 ||| ((1 : Int32) <<< (x3 &&& (31 : Int32)))) = x1) → ((¬ (((x1 ||| ((1 : Int32) <<< (x3 &&& (31 : Int32)))) >>> ((1 : Int32) &&& (31 : Int32))) < 0 ∨ 4096 ≤ (((x1 ||| ((1 : Int32) <<< (x3 &&& (31 : Int32)))) >>> ((1 : Int32) &&& (31 : Int32)))).toNatClampNeg)) ∧ ((((σ.1 49 ((((x1 ||| ((1 : Int32) <<< (x3 &&& (31 : Int32)))) >>> ((1 : Int32) &&& (31 : Int32)))).toNatClampNeg)) = (-1)) → (q_73_4 n σ x1 x2 (x3 + 1))) ∧ (¬ ((σ.1 49 ((((x1 ||| ((1 : Int32) <<< (x3 &&& (31 : Int32)))) >>> ((1 : Int32) &&& (31 : Int32)))).toNatClampNeg)) = (-1)) → (((x2 = 0) → ((p_1 σ x1) ∧ ((p_13 (w_1 σ x1) x3 ((w_1 σ x1).1 1 5)) ∧ ((((v_13 (w_1 σ x1) x3 ((w_1 σ x1).1 1 5)) = (-1)) → (q_73_4 n (w_1 σ x1) x1 1 (x3 + 1))) ∧ (¬ ((v_13 (w_1 σ x1) x3 ((w_1 σ x1).1 1 5)) = (-1)) → ((p_42 (w_1 σ x1) x3) ∧ (((v_42 (w_1 σ x1) x3) = 0) → (q_73_4 n (w_42 (w_1 σ x1) x3) x1 1 (x3 + 1))))))))) ∧ (¬ (x2 = 0) → ((p_13 σ x3 (σ.1 1 5)) ∧ ((((v_13 σ x3 (σ.1 1 5)) = (-1)) → (q_73_4 n σ x1 x2 (x3 + 1))) ∧ (¬ ((v_13 σ x3 (σ.1 1 5)) = (-1)) → ((p_42 σ x3) ∧ (((v_42 σ x3) = 0) → (q_73_4 n (w_42 σ x3) x1 x2 (x3 + 1))))))))))))))
set_option maxRecDepth 20000 in
theorem t_73_4 (L : Nat) : ∀ (n : Nat) (σ : am_M) (x1 : Int32) (x2 : Int32) (x3 : Int32) (o4 : Option am_V), q_73_4 n σ x1 x2 x3 → am_r L 73 4 [some (.inr (.inr (1, none))), some (.inl x1), some (.inl x2), some (.inl x3), o4] [] σ = some (some (.inl (l_73_4 n σ x1 x2 x3).1), am_sh0 L, (l_73_4 n σ x1 x2 x3).2) := by
  intro n
  induction n with
  | zero => intro σ x1 x2 x3 o4 h; exact h.elim
  | succ n ih =>
    intro σ x1 x2 x3 o4 h
    unfold q_73_4 at h
    unfold l_73_4
    refine (e_73_4 _ _ _ _ _ _).trans ?_
    refine am_fkPI (fun hc156 => ?_) (fun hc156 => ?_)
    · refine am_fkPI (fun hc157 => ?_) (fun hc157 => ?_)
      · refine (e_73_103 _ _ _ _ _ _).trans ?_
        exact ih σ x1 x2 (x3 + 1) (some (.inl (x1 ||| ((1 : Int32) <<< (x3 &&& (31 : Int32)))))) (((h hc156).1 hc157))
      · refine (if_neg (((h hc156).2 hc157).1)).trans ?_
        refine am_fkPI (fun hc158 => ?_) (fun hc158 => ?_)
        · refine (e_73_103 _ _ _ _ _ _).trans ?_
          exact ih σ x1 x2 (x3 + 1) (some (.inl (x1 ||| ((1 : Int32) <<< (x3 &&& (31 : Int32)))))) ((((h hc156).2 hc157).2.1 hc158))
        · refine (e_73_44 _ _ _ _ _ _).trans ?_
          refine am_fkPI (fun hc159 => ?_) (fun hc159 => ?_)
          · refine (am_bind_v (s_1 L σ x1 (((((h hc156).2 hc157).2.2 hc158).1 hc159).1))).trans ?_
            refine (e_73_60 _ _ _ _ _ _).trans ?_
            refine (e_73_62 _ _ _ _ _ _).trans ?_
            refine (am_bind_i (s_13 L (w_1 σ x1) x3 ((w_1 σ x1).1 1 5) (((((h hc156).2 hc157).2.2 hc158).1 hc159).2.1))).trans ?_
            refine (e_73_78 _ _ _ _ _ _ _).trans ?_
            refine am_fkPI (fun hc160 => ?_) (fun hc160 => ?_)
            · refine (e_73_103 _ _ _ _ _ _).trans ?_
              exact ih (w_1 σ x1) x1 1 (x3 + 1) (some (.inl (x1 ||| ((1 : Int32) <<< (x3 &&& (31 : Int32)))))) ((((((h hc156).2 hc157).2.2 hc158).1 hc159).2.2.1 hc160))
            · refine (am_bind_i (s_42 L (w_1 σ x1) x3 ((((((h hc156).2 hc157).2.2 hc158).1 hc159).2.2.2 hc160).1))).trans ?_
              refine (e_73_98 _ _ _ _ _ _ _).trans ?_
              refine am_fkPI (fun hc161 => ?_) (fun hc161 => ?_)
              · refine (e_73_103 _ _ _ _ _ _).trans ?_
                exact ih (w_42 (w_1 σ x1) x3) x1 1 (x3 + 1) (some (.inl (x1 ||| ((1 : Int32) <<< (x3 &&& (31 : Int32)))))) (((((((h hc156).2 hc157).2.2 hc158).1 hc159).2.2.2 hc160).2 hc161))
              · rfl
          · refine (e_73_62 _ _ _ _ _ _).trans ?_
            refine (am_bind_i (s_13 L σ x3 (σ.1 1 5) (((((h hc156).2 hc157).2.2 hc158).2 hc159).1))).trans ?_
            refine (e_73_78 _ _ _ _ _ _ _).trans ?_
            refine am_fkPI (fun hc162 => ?_) (fun hc162 => ?_)
            · refine (e_73_103 _ _ _ _ _ _).trans ?_
              exact ih σ x1 x2 (x3 + 1) (some (.inl (x1 ||| ((1 : Int32) <<< (x3 &&& (31 : Int32)))))) ((((((h hc156).2 hc157).2.2 hc158).2 hc159).2.1 hc162))
            · refine (am_bind_i (s_42 L σ x3 ((((((h hc156).2 hc157).2.2 hc158).2 hc159).2.2 hc162).1))).trans ?_
              refine (e_73_98 _ _ _ _ _ _ _).trans ?_
              refine am_fkPI (fun hc163 => ?_) (fun hc163 => ?_)
              · refine (e_73_103 _ _ _ _ _ _).trans ?_
                exact ih (w_42 σ x3) x1 x2 (x3 + 1) (some (.inl (x1 ||| ((1 : Int32) <<< (x3 &&& (31 : Int32)))))) (((((((h hc156).2 hc157).2.2 hc158).2 hc159).2.2 hc162).2 hc163))
              · rfl
    · refine (e_73_109 _ _ _ _ _ _).trans ?_
      rfl
def p_73 (σ : am_M) (x1 : Int32) : Prop := q_73_4 14 σ x1 0 1
def f_73 (σ : am_M) (x1 : Int32) : Int32 × am_M := (l_73_4 14 σ x1 0 1)
set_option maxRecDepth 20000 in
theorem sf_73 (L : Nat) (σ : am_M) (x1 : Int32) (h : p_73 σ x1) : am_r L 73 0 [some (.inr (.inr (1, none))), some (.inl x1), none, none, none] [] σ = some (some (.inl (f_73 σ x1).1), am_sh0 L, (f_73 σ x1).2) := by
  unfold p_73 at h
  unfold f_73
  refine (e_73_0 _ _ _).trans ?_
  exact t_73_4 L 14 σ x1 0 1 none h
def v_73 (σ : am_M) (x1 : Int32) : Int32 := (f_73 σ x1).1
def w_73 (σ : am_M) (x1 : Int32) : am_M := (f_73 σ x1).2
theorem s_73 (L : Nat) (σ : am_M) (x1 : Int32) (h : p_73 σ x1) : am_r L 73 0 [some (.inr (.inr (1, none))), some (.inl x1), none, none, none] [] σ = some (some (.inl (v_73 σ x1)), am_sh0 L, w_73 σ x1) := sf_73 L σ x1 h
-- 72: X4_learnOrders
def l_72_29 : Nat → am_M → Int32 → Int32 → am_M
  | 0, σ, x1, x2 => σ
  | n + 1, σ, x1, x2 => (if x2 < 0 then (am_put σ 1 9 1) else (l_72_29 n (am_put (w_73 σ x2) 49 (((x2 >>> ((1 : Int32) &&& (31 : Int32)))).toNatClampNeg) (v_73 σ x2)) x1 (x2 + (-2))))
def q_72_29 : Nat → am_M → Int32 → Int32 → Prop
  | 0, _, _, _ => False
  | n + 1, σ, x1, x2 => ¬ (x2 < 0) → ((p_73 σ x2) ∧ ((¬ ((x2 >>> ((1 : Int32) &&& (31 : Int32))) < 0 ∨ 4096 ≤ ((x2 >>> ((1 : Int32) &&& (31 : Int32)))).toNatClampNeg)) ∧ (q_72_29 n (am_put (w_73 σ x2) 49 (((x2 >>> ((1 : Int32) &&& (31 : Int32)))).toNatClampNeg) (v_73 σ x2)) x1 (x2 + (-2)))))
set_option maxRecDepth 20000 in
theorem t_72_29 (L : Nat) : ∀ (n : Nat) (σ : am_M) (x1 : Int32) (x2 : Int32), q_72_29 n σ x1 x2 → am_r L 72 29 [some (.inr (.inr (1, none))), some (.inl x1), some (.inl x2)] [] σ = some (none, am_sh0 L, (l_72_29 n σ x1 x2)) := by
  intro n
  induction n with
  | zero => intro σ x1 x2 h; exact h.elim
  | succ n ih =>
    intro σ x1 x2 h
    unfold q_72_29 at h
    unfold l_72_29
    refine (e_72_29 _ _ _ _).trans ?_
    refine am_fkVm (fun hc164 => ?_) (fun hc164 => ?_)
    · refine (e_72_52 _ _ _ _).trans ?_
      rfl
    · refine (am_bind_i (s_73 L σ x2 ((h hc164).1))).trans ?_
      refine (e_72_45 _ _ _ _ _ _).trans ?_
      refine (if_neg ((h hc164).2.1)).trans ?_
      exact ih (am_put (w_73 σ x2) 49 (((x2 >>> ((1 : Int32) &&& (31 : Int32)))).toNatClampNeg) (v_73 σ x2)) x1 (x2 + (-2)) ((h hc164).2.2)
def p_72 (σ : am_M) : Prop := ((σ.1 1 9) = 0) → ((¬ (((v_28 σ) >>> ((1 : Int32) &&& (31 : Int32))) < 0 ∨ 4096 ≤ (((v_28 σ) >>> ((1 : Int32) &&& (31 : Int32)))).toNatClampNeg)) ∧ (q_72_29 4097 (am_put σ 49 ((((v_28 σ) >>> ((1 : Int32) &&& (31 : Int32)))).toNatClampNeg) 0) (v_28 σ) ((v_28 σ) - 2)))
def f_72 (σ : am_M) : am_M := (if (σ.1 1 9) = 0 then (l_72_29 4097 (am_put σ 49 ((((v_28 σ) >>> ((1 : Int32) &&& (31 : Int32)))).toNatClampNeg) 0) (v_28 σ) ((v_28 σ) - 2)) else σ)
set_option maxRecDepth 20000 in
theorem sf_72 (L : Nat) (σ : am_M) (h : p_72 σ) : am_r L 72 0 [some (.inr (.inr (1, none))), none, none] [] σ = some (none, am_sh0 L, (f_72 σ)) := by
  unfold p_72 at h
  unfold f_72
  refine (e_72_0 _ _).trans ?_
  refine am_fkVm (fun hc165 => ?_) (fun hc165 => ?_)
  · refine (e_72_8 _ _).trans ?_
    refine (am_bind_i (s_28 L σ)).trans ?_
    refine (e_72_15 _ _ _).trans ?_
    refine (if_neg ((h hc165).1)).trans ?_
    exact t_72_29 L 4097 (am_put σ 49 ((((v_28 σ) >>> ((1 : Int32) &&& (31 : Int32)))).toNatClampNeg) 0) (v_28 σ) ((v_28 σ) - 2) ((h hc165).2)
  · rfl
def w_72 (σ : am_M) : am_M := f_72 σ
theorem s_72 (L : Nat) (σ : am_M) (h : p_72 σ) : am_r L 72 0 [some (.inr (.inr (1, none))), none, none] [] σ = some (none, am_sh0 L, w_72 σ) := sf_72 L σ h
