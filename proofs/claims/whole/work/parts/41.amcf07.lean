-- 78: X5_deduction
def v_78 (σ : am_M) (x1 : Int32) : Int32 := (if (v_75 (am_put σ 50 0 0) (Int32.toInt64 x1) ((0 : Int32).toInt64) ((400 : Int32).toInt64)) = 0 then 0 else (if (x1 - x1 / 2 * 2) = 0 then 1 else 0))
def w_78 (σ : am_M) (x1 : Int32) : am_M := (if (v_75 (am_put σ 50 0 0) (Int32.toInt64 x1) ((0 : Int32).toInt64) ((400 : Int32).toInt64)) = 0 then (am_put σ 50 0 0) else (if (x1 - x1 / 2 * 2) = 0 then (am_put (am_put σ 50 0 0) 50 2 x1) else (am_put σ 50 0 0)))
set_option maxRecDepth 20000 in
theorem s_78 (L : Nat) (σ : am_M) (x1 : Int32) : am_r L 78 0 [some (.inr (.inr (50, none))), some (.inl x1)] [] σ = some (some (.inl (v_78 σ x1)), am_sh0 L, w_78 σ x1) := by
  unfold v_78 w_78
  refine (e_78_0 _ _ _).trans ?_
  refine (am_bind_i (s_75 L (am_put σ 50 0 0) (Int32.toInt64 x1) ((0 : Int32).toInt64) ((400 : Int32).toInt64))).trans ?_
  refine (e_78_14 _ _ _ _).trans ?_
  refine am_fkIvm (fun hc220 => ?_) (fun hc220 => ?_)
  · refine (e_78_23 _ _ _).trans ?_
    rfl
  · refine am_fkIvm (fun hc221 => ?_) (fun hc221 => ?_)
    · refine (e_78_25 _ _ _).trans ?_
      rfl
    · refine (e_78_23 _ _ _).trans ?_
      rfl
-- 79: X5_gauge
def v_79 (σ : am_M) (x1 : Int32) : Int32 := (if (v_75 (am_put σ 50 0 0) (Int32.toInt64 x1) ((1 : Int32).toInt64) ((4000 : Int32).toInt64)) = 0 then 0 else 1)
def w_79 (σ : am_M) (x1 : Int32) : am_M := (if (v_75 (am_put σ 50 0 0) (Int32.toInt64 x1) ((1 : Int32).toInt64) ((4000 : Int32).toInt64)) = 0 then (am_put σ 50 0 0) else (am_put (am_put (am_put σ 50 0 0) 50 3 x1) 50 16 0))
set_option maxRecDepth 20000 in
theorem s_79 (L : Nat) (σ : am_M) (x1 : Int32) : am_r L 79 0 [some (.inr (.inr (50, none))), some (.inl x1)] [] σ = some (some (.inl (v_79 σ x1)), am_sh0 L, w_79 σ x1) := by
  unfold v_79 w_79
  refine (e_79_0 _ _ _).trans ?_
  refine (am_bind_i (s_75 L (am_put σ 50 0 0) (Int32.toInt64 x1) ((1 : Int32).toInt64) ((4000 : Int32).toInt64))).trans ?_
  refine (e_79_14 _ _ _ _).trans ?_
  refine am_fkIvm (fun hc222 => ?_) (fun hc222 => ?_)
  · rfl
  · refine (e_79_19 _ _ _).trans ?_
    rfl
-- 80: X5_over
def l_80_23 : Nat → am_M → Int32 → Int32 → Int32 × am_M
  | 0, σ, x1, x2 => (0, σ)
  | n + 1, σ, x1, x2 => (if x2 < (σ.1 50 1) then (l_80_23 n (am_put (am_put (am_put (am_put σ 54 (((4 * x2)).toNatClampNeg) (x1 - (σ.1 54 ((((4 * x2) + 2)).toNatClampNeg)))) 54 ((((4 * x2) + 2)).toNatClampNeg) (x1 - (σ.1 54 (((4 * x2)).toNatClampNeg)))) 53 x2.toNatClampNeg (vp_nar .boolean (if (σ.1 53 x2.toNatClampNeg) = 0 then (1 : Int32) else 0))) 52 x2.toNatClampNeg (if 0 < x2 then ((if ((σ.1 52 x2.toNatClampNeg) - (σ.1 52 x2.toNatClampNeg) / 2 * 2) = 0 then ((2 - (σ.1 52 x2.toNatClampNeg)) : Int32) else (σ.1 52 x2.toNatClampNeg)) : Int32) else (σ.1 52 x2.toNatClampNeg))) x1 (x2 + 1)) else (1, (am_put σ 50 16 0)))
def q_80_23 : Nat → am_M → Int32 → Int32 → Prop
  | 0, _, _, _ => False
  | n + 1, σ, x1, x2 => (x2 < (σ.1 50 1)) → ((¬ ((4 * x2) < 0 ∨ 52 ≤ ((4 * x2)).toNatClampNeg)) ∧ ((¬ (((4 * x2) + 2) < 0 ∨ 52 ≤ (((4 * x2) + 2)).toNatClampNeg)) ∧ ((¬ ((4 * x2) < 0 ∨ 52 ≤ ((4 * x2)).toNatClampNeg)) ∧ ((¬ (((4 * x2) + 2) < 0 ∨ 52 ≤ (((4 * x2) + 2)).toNatClampNeg)) ∧ ((¬ (x2 < 0 ∨ 13 ≤ x2.toNatClampNeg)) ∧ ((¬ (x2 < 0 ∨ 13 ≤ x2.toNatClampNeg)) ∧ ((((0 < x2) → ((¬ (x2 < 0 ∨ 13 ≤ x2.toNatClampNeg)) ∧ (((((σ.1 52 x2.toNatClampNeg) - (σ.1 52 x2.toNatClampNeg) / 2 * 2) = 0) → (¬ (x2 < 0 ∨ 13 ≤ x2.toNatClampNeg))) ∧ (¬ (((σ.1 52 x2.toNatClampNeg) - (σ.1 52 x2.toNatClampNeg) / 2 * 2) = 0) → (¬ (x2 < 0 ∨ 13 ≤ x2.toNatClampNeg)))))) ∧ (¬ (0 < x2) → (¬ (x2 < 0 ∨ 13 ≤ x2.toNatClampNeg)))) ∧ ((¬ (x2 < 0 ∨ 13 ≤ x2.toNatClampNeg)) ∧ (q_80_23 n (am_put (am_put (am_put (am_put σ 54 (((4 * x2)).toNatClampNeg) (x1 - (σ.1 54 ((((4 * x2) + 2)).toNatClampNeg)))) 54 ((((4 * x2) + 2)).toNatClampNeg) (x1 - (σ.1 54 (((4 * x2)).toNatClampNeg)))) 53 x2.toNatClampNeg (vp_nar .boolean (if (σ.1 53 x2.toNatClampNeg) = 0 then (1 : Int32) else 0))) 52 x2.toNatClampNeg (if 0 < x2 then ((if ((σ.1 52 x2.toNatClampNeg) - (σ.1 52 x2.toNatClampNeg) / 2 * 2) = 0 then ((2 - (σ.1 52 x2.toNatClampNeg)) : Int32) else (σ.1 52 x2.toNatClampNeg)) : Int32) else (σ.1 52 x2.toNatClampNeg))) x1 (x2 + 1))))))))))
set_option maxRecDepth 20000 in
theorem t_80_23 (L : Nat) : ∀ (n : Nat) (σ : am_M) (x1 : Int32) (x2 : Int32) (o3 : Option am_V), q_80_23 n σ x1 x2 → am_r L 80 23 [some (.inr (.inr (50, none))), some (.inl x1), some (.inl x2), o3] [] σ = some (some (.inl (l_80_23 n σ x1 x2).1), am_sh0 L, (l_80_23 n σ x1 x2).2) := by
  intro n
  induction n with
  | zero => intro σ x1 x2 o3 h; exact h.elim
  | succ n ih =>
    intro σ x1 x2 o3 h
    unfold q_80_23 at h
    unfold l_80_23
    refine (e_80_23 _ _ _ _ _).trans ?_
    refine am_fkPI (fun hc223 => ?_) (fun hc223 => ?_)
    · refine (if_neg ((h hc223).1)).trans ?_
      refine (e_80_57 _ _ _ _ _ _ _ _).trans ?_
      refine (if_neg ((h hc223).2.1)).trans ?_
      refine (if_neg ((h hc223).2.2.1)).trans ?_
      refine (if_neg ((h hc223).2.2.2.1)).trans ?_
      refine (e_80_79 _ _ _ _ _ _).trans ?_
      refine (if_neg ((h hc223).2.2.2.2.1)).trans ?_
      refine Eq.trans (b := am_r L 80 92 [some (.inr (.inr (50, none))), some (.inl x1), some (.inl x2), some (.inl (σ.1 54 (((4 * x2)).toNatClampNeg)))] [.inl (if (σ.1 53 x2.toNatClampNeg) = 0 then (1 : Int32) else 0), .inl x2, .inr (.inr (53, none))] (am_put (am_put σ 54 (((4 * x2)).toNatClampNeg) (x1 - (σ.1 54 ((((4 * x2) + 2)).toNatClampNeg)))) 54 ((((4 * x2) + 2)).toNatClampNeg) (x1 - (σ.1 54 (((4 * x2)).toNatClampNeg))))) ?_ ?_
      · by_cases hc224 : (σ.1 53 x2.toNatClampNeg) = 0
        · refine (if_pos hc224).trans ?_
          refine Eq.trans (b := am_r L 80 92 [some (.inr (.inr (50, none))), some (.inl x1), some (.inl x2), some (.inl (σ.1 54 (((4 * x2)).toNatClampNeg)))] [.inl 1, .inl x2, .inr (.inr (53, none))] (am_put (am_put σ 54 (((4 * x2)).toNatClampNeg) (x1 - (σ.1 54 ((((4 * x2) + 2)).toNatClampNeg)))) 54 ((((4 * x2) + 2)).toNatClampNeg) (x1 - (σ.1 54 (((4 * x2)).toNatClampNeg))))) ?_ ?_
          · rfl
          · first | with_reducible rfl | simp only [if_pos hc224]
        · refine (if_neg hc224).trans ?_
          refine Eq.trans (b := am_r L 80 92 [some (.inr (.inr (50, none))), some (.inl x1), some (.inl x2), some (.inl (σ.1 54 (((4 * x2)).toNatClampNeg)))] [.inl 0, .inl x2, .inr (.inr (53, none))] (am_put (am_put σ 54 (((4 * x2)).toNatClampNeg) (x1 - (σ.1 54 ((((4 * x2) + 2)).toNatClampNeg)))) 54 ((((4 * x2) + 2)).toNatClampNeg) (x1 - (σ.1 54 (((4 * x2)).toNatClampNeg))))) ?_ ?_
          · refine (e_80_91 _ _ _ _ _ _).trans ?_
            rfl
          · first | with_reducible rfl | simp only [if_neg hc224]
      refine (e_80_92 _ _ _ _ _ _ _).trans ?_
      refine (if_neg ((h hc223).2.2.2.2.2.1)).trans ?_
      refine Eq.trans (b := am_r L 80 130 [some (.inr (.inr (50, none))), some (.inl x1), some (.inl x2), some (.inl (σ.1 54 (((4 * x2)).toNatClampNeg)))] [.inl (if 0 < x2 then ((if ((σ.1 52 x2.toNatClampNeg) - (σ.1 52 x2.toNatClampNeg) / 2 * 2) = 0 then ((2 - (σ.1 52 x2.toNatClampNeg)) : Int32) else (σ.1 52 x2.toNatClampNeg)) : Int32) else (σ.1 52 x2.toNatClampNeg)), .inl x2, .inr (.inr (52, none))] (am_put (am_put (am_put σ 54 (((4 * x2)).toNatClampNeg) (x1 - (σ.1 54 ((((4 * x2) + 2)).toNatClampNeg)))) 54 ((((4 * x2) + 2)).toNatClampNeg) (x1 - (σ.1 54 (((4 * x2)).toNatClampNeg)))) 53 x2.toNatClampNeg (vp_nar .boolean (if (σ.1 53 x2.toNatClampNeg) = 0 then (1 : Int32) else 0)))) ?_ ?_
      · by_cases hc225 : 0 < x2
        · refine (if_pos hc225).trans ?_
          refine Eq.trans (b := am_r L 80 130 [some (.inr (.inr (50, none))), some (.inl x1), some (.inl x2), some (.inl (σ.1 54 (((4 * x2)).toNatClampNeg)))] [.inl (if ((σ.1 52 x2.toNatClampNeg) - (σ.1 52 x2.toNatClampNeg) / 2 * 2) = 0 then ((2 - (σ.1 52 x2.toNatClampNeg)) : Int32) else (σ.1 52 x2.toNatClampNeg)), .inl x2, .inr (.inr (52, none))] (am_put (am_put (am_put σ 54 (((4 * x2)).toNatClampNeg) (x1 - (σ.1 54 ((((4 * x2) + 2)).toNatClampNeg)))) 54 ((((4 * x2) + 2)).toNatClampNeg) (x1 - (σ.1 54 (((4 * x2)).toNatClampNeg)))) 53 x2.toNatClampNeg (vp_nar .boolean (if (σ.1 53 x2.toNatClampNeg) = 0 then (1 : Int32) else 0)))) ?_ ?_
          · refine (if_neg (((h hc223).2.2.2.2.2.2.1.1 hc225).1)).trans ?_
            refine Eq.trans (b := am_r L 80 130 [some (.inr (.inr (50, none))), some (.inl x1), some (.inl x2), some (.inl (σ.1 54 (((4 * x2)).toNatClampNeg)))] [.inl (if ((σ.1 52 x2.toNatClampNeg) - (σ.1 52 x2.toNatClampNeg) / 2 * 2) = 0 then ((2 - (σ.1 52 x2.toNatClampNeg)) : Int32) else (σ.1 52 x2.toNatClampNeg)), .inl x2, .inr (.inr (52, none))] (am_put (am_put (am_put σ 54 (((4 * x2)).toNatClampNeg) (x1 - (σ.1 54 ((((4 * x2) + 2)).toNatClampNeg)))) 54 ((((4 * x2) + 2)).toNatClampNeg) (x1 - (σ.1 54 (((4 * x2)).toNatClampNeg)))) 53 x2.toNatClampNeg (vp_nar .boolean (if (σ.1 53 x2.toNatClampNeg) = 0 then (1 : Int32) else 0)))) ?_ ?_
            · by_cases hc226 : ((σ.1 52 x2.toNatClampNeg) - (σ.1 52 x2.toNatClampNeg) / 2 * 2) = 0
              · refine (if_pos hc226).trans ?_
                refine Eq.trans (b := am_r L 80 130 [some (.inr (.inr (50, none))), some (.inl x1), some (.inl x2), some (.inl (σ.1 54 (((4 * x2)).toNatClampNeg)))] [.inl (2 - (σ.1 52 x2.toNatClampNeg)), .inl x2, .inr (.inr (52, none))] (am_put (am_put (am_put σ 54 (((4 * x2)).toNatClampNeg) (x1 - (σ.1 54 ((((4 * x2) + 2)).toNatClampNeg)))) 54 ((((4 * x2) + 2)).toNatClampNeg) (x1 - (σ.1 54 (((4 * x2)).toNatClampNeg)))) 53 x2.toNatClampNeg (vp_nar .boolean (if (σ.1 53 x2.toNatClampNeg) = 0 then (1 : Int32) else 0)))) ?_ ?_
                · refine (if_neg ((((h hc223).2.2.2.2.2.2.1.1 hc225).2.1 hc226))).trans ?_
                  refine (e_80_120 _ _ _ _ _ _ _ _).trans ?_
                  rfl
                · first | with_reducible rfl | simp only [if_pos hc226]
              · refine (if_neg hc226).trans ?_
                refine Eq.trans (b := am_r L 80 130 [some (.inr (.inr (50, none))), some (.inl x1), some (.inl x2), some (.inl (σ.1 54 (((4 * x2)).toNatClampNeg)))] [.inl (σ.1 52 x2.toNatClampNeg), .inl x2, .inr (.inr (52, none))] (am_put (am_put (am_put σ 54 (((4 * x2)).toNatClampNeg) (x1 - (σ.1 54 ((((4 * x2) + 2)).toNatClampNeg)))) 54 ((((4 * x2) + 2)).toNatClampNeg) (x1 - (σ.1 54 (((4 * x2)).toNatClampNeg)))) 53 x2.toNatClampNeg (vp_nar .boolean (if (σ.1 53 x2.toNatClampNeg) = 0 then (1 : Int32) else 0)))) ?_ ?_
                · refine (e_80_124 _ _ _ _ _ _).trans ?_
                  refine (if_neg ((((h hc223).2.2.2.2.2.2.1.1 hc225).2.2 hc226))).trans ?_
                  rfl
                · first | with_reducible rfl | simp only [if_neg hc226]
            rfl
          · first | with_reducible rfl | simp only [if_pos hc225]
        · refine (if_neg hc225).trans ?_
          refine Eq.trans (b := am_r L 80 130 [some (.inr (.inr (50, none))), some (.inl x1), some (.inl x2), some (.inl (σ.1 54 (((4 * x2)).toNatClampNeg)))] [.inl (σ.1 52 x2.toNatClampNeg), .inl x2, .inr (.inr (52, none))] (am_put (am_put (am_put σ 54 (((4 * x2)).toNatClampNeg) (x1 - (σ.1 54 ((((4 * x2) + 2)).toNatClampNeg)))) 54 ((((4 * x2) + 2)).toNatClampNeg) (x1 - (σ.1 54 (((4 * x2)).toNatClampNeg)))) 53 x2.toNatClampNeg (vp_nar .boolean (if (σ.1 53 x2.toNatClampNeg) = 0 then (1 : Int32) else 0)))) ?_ ?_
          · refine (e_80_124 _ _ _ _ _ _).trans ?_
            refine (if_neg (((h hc223).2.2.2.2.2.2.1.2 hc225))).trans ?_
            rfl
          · first | with_reducible rfl | simp only [if_neg hc225]
      refine (e_80_130 _ _ _ _ _ _ _).trans ?_
      refine (if_neg ((h hc223).2.2.2.2.2.2.2.1)).trans ?_
      exact ih (am_put (am_put (am_put (am_put σ 54 (((4 * x2)).toNatClampNeg) (x1 - (σ.1 54 ((((4 * x2) + 2)).toNatClampNeg)))) 54 ((((4 * x2) + 2)).toNatClampNeg) (x1 - (σ.1 54 (((4 * x2)).toNatClampNeg)))) 53 x2.toNatClampNeg (vp_nar .boolean (if (σ.1 53 x2.toNatClampNeg) = 0 then (1 : Int32) else 0))) 52 x2.toNatClampNeg (if 0 < x2 then ((if ((σ.1 52 x2.toNatClampNeg) - (σ.1 52 x2.toNatClampNeg) / 2 * 2) = 0 then ((2 - (σ.1 52 x2.toNatClampNeg)) : Int32) else (σ.1 52 x2.toNatClampNeg)) : Int32) else (σ.1 52 x2.toNatClampNeg))) x1 (x2 + 1) (some (.inl (σ.1 54 (((4 * x2)).toNatClampNeg)))) ((h hc223).2.2.2.2.2.2.2.2)
    · refine (e_80_137 _ _ _ _ _).trans ?_
      rfl
def p_80 (σ : am_M) : Prop := ¬ ((σ.1 50 1) = 0) → (q_80_23 14 (am_put σ 50 0 0) (σ.1 54 2) 0)
def f_80 (σ : am_M) : Int32 × am_M := (if (σ.1 50 1) = 0 then (0, (am_put σ 50 0 0)) else (l_80_23 14 (am_put σ 50 0 0) (σ.1 54 2) 0))
set_option maxRecDepth 20000 in
theorem sf_80 (L : Nat) (σ : am_M) (h : p_80 σ) : am_r L 80 0 [some (.inr (.inr (50, none))), none, none, none] [] σ = some (some (.inl (f_80 σ).1), am_sh0 L, (f_80 σ).2) := by
  unfold p_80 at h
  unfold f_80
  refine (e_80_0 _ _).trans ?_
  refine am_fkPI (fun hc227 => ?_) (fun hc227 => ?_)
  · rfl
  · refine (e_80_14 _ _).trans ?_
    refine (if_neg (by decide)).trans ?_
    exact t_80_23 L 14 (am_put σ 50 0 0) (σ.1 54 2) 0 none ((h hc227))
def v_80 (σ : am_M) : Int32 := (f_80 σ).1
def w_80 (σ : am_M) : am_M := (f_80 σ).2
theorem s_80 (L : Nat) (σ : am_M) (h : p_80 σ) : am_r L 80 0 [some (.inr (.inr (50, none))), none, none, none] [] σ = some (some (.inl (v_80 σ)), am_sh0 L, w_80 σ) := sf_80 L σ h
-- 81: X5_hasBend
def l_81_27 : Nat → am_M → Int32 → Int32 → Int32 → Int32 → Int32
  | 0, _, _, _, _, _ => 0
  | n + 1, σ, x1, x2, x3, x4 => (if x4 < (σ.1 50 1) then (l_81_27 n σ x1 x2 (if x3 = 0 then ((if (σ.1 51 x4.toNatClampNeg) = x1 then ((if (σ.1 52 x4.toNatClampNeg) = x2 then (1 : Int32) else 0) : Int32) else 0) : Int32) else 1) (x4 + 1)) else x3)
def q_81_27 : Nat → am_M → Int32 → Int32 → Int32 → Int32 → Prop
  | 0, _, _, _, _, _ => False
  | n + 1, σ, x1, x2, x3, x4 => ((x4 < (σ.1 50 1)) → (((x3 = 0) → ((¬ (x4 < 0 ∨ 13 ≤ x4.toNatClampNeg)) ∧ (((σ.1 51 x4.toNatClampNeg) = x1) → (¬ (x4 < 0 ∨ 13 ≤ x4.toNatClampNeg))))) ∧ (q_81_27 n σ x1 x2 (if x3 = 0 then ((if (σ.1 51 x4.toNatClampNeg) = x1 then ((if (σ.1 52 x4.toNatClampNeg) = x2 then (1 : Int32) else 0) : Int32) else 0) : Int32) else 1) (x4 + 1)))) ∧ (¬ (x4 < (σ.1 50 1)) → ((x3 = 0 ∨ x3 = 1)))
set_option maxRecDepth 20000 in
theorem t_81_27 (L : Nat) (σ : am_M) : ∀ (n : Nat) (x1 : Int32) (x2 : Int32) (x3 : Int32) (x4 : Int32), q_81_27 n σ x1 x2 x3 x4 → am_r L 81 27 [some (.inr (.inr (50, none))), some (.inl x1), some (.inl x2), some (.inl x3), some (.inl x4)] [] σ = some (some (.inl (l_81_27 n σ x1 x2 x3 x4)), am_sh0 L, σ) := by
  intro n
  induction n with
  | zero => intro x1 x2 x3 x4 h; exact h.elim
  | succ n ih =>
    intro x1 x2 x3 x4 h
    unfold q_81_27 at h
    unfold l_81_27
    refine (e_81_27 _ _ _ _ _ _).trans ?_
    refine am_fkIv (fun hc228 => ?_) (fun hc228 => ?_)
    · refine Eq.trans (b := am_r L 81 67 [some (.inr (.inr (50, none))), some (.inl x1), some (.inl x2), some (.inl x3), some (.inl x4)] [.inl (if x3 = 0 then ((if (σ.1 51 x4.toNatClampNeg) = x1 then ((if (σ.1 52 x4.toNatClampNeg) = x2 then (1 : Int32) else 0) : Int32) else 0) : Int32) else 1)] σ) ?_ ?_
      · by_cases hc229 : x3 = 0
        · refine (if_pos hc229).trans ?_
          refine Eq.trans (b := am_r L 81 67 [some (.inr (.inr (50, none))), some (.inl x1), some (.inl x2), some (.inl x3), some (.inl x4)] [.inl (if (σ.1 51 x4.toNatClampNeg) = x1 then ((if (σ.1 52 x4.toNatClampNeg) = x2 then (1 : Int32) else 0) : Int32) else 0)] σ) ?_ ?_
          · refine (if_neg (((h.1 hc228).1 hc229).1)).trans ?_
            refine Eq.trans (b := am_r L 81 67 [some (.inr (.inr (50, none))), some (.inl x1), some (.inl x2), some (.inl x3), some (.inl x4)] [.inl (if (σ.1 51 x4.toNatClampNeg) = x1 then ((if (σ.1 52 x4.toNatClampNeg) = x2 then (1 : Int32) else 0) : Int32) else 0)] σ) ?_ ?_
            · by_cases hc230 : (σ.1 51 x4.toNatClampNeg) = x1
              · refine (if_pos hc230).trans ?_
                refine Eq.trans (b := am_r L 81 67 [some (.inr (.inr (50, none))), some (.inl x1), some (.inl x2), some (.inl x3), some (.inl x4)] [.inl (if (σ.1 52 x4.toNatClampNeg) = x2 then (1 : Int32) else 0)] σ) ?_ ?_
                · refine (if_neg ((((h.1 hc228).1 hc229).2 hc230))).trans ?_
                  refine Eq.trans (b := am_r L 81 67 [some (.inr (.inr (50, none))), some (.inl x1), some (.inl x2), some (.inl x3), some (.inl x4)] [.inl (if (σ.1 52 x4.toNatClampNeg) = x2 then (1 : Int32) else 0)] σ) ?_ ?_
                  · by_cases hc231 : (σ.1 52 x4.toNatClampNeg) = x2
                    · refine (if_pos hc231).trans ?_
                      refine Eq.trans (b := am_r L 81 67 [some (.inr (.inr (50, none))), some (.inl x1), some (.inl x2), some (.inl x3), some (.inl x4)] [.inl 1] σ) ?_ ?_
                      · refine (e_81_62 _ _ _ _ _ _).trans ?_
                        rfl
                      · first | with_reducible rfl | simp only [if_pos hc231]
                    · refine (if_neg hc231).trans ?_
                      refine Eq.trans (b := am_r L 81 67 [some (.inr (.inr (50, none))), some (.inl x1), some (.inl x2), some (.inl x3), some (.inl x4)] [.inl 0] σ) ?_ ?_
                      · refine (e_81_66 _ _ _ _ _ _).trans ?_
                        rfl
                      · first | with_reducible rfl | simp only [if_neg hc231]
                  rfl
                · first | with_reducible rfl | simp only [if_pos hc230]
              · refine (if_neg hc230).trans ?_
                refine Eq.trans (b := am_r L 81 67 [some (.inr (.inr (50, none))), some (.inl x1), some (.inl x2), some (.inl x3), some (.inl x4)] [.inl 0] σ) ?_ ?_
                · refine (e_81_66 _ _ _ _ _ _).trans ?_
                  rfl
                · first | with_reducible rfl | simp only [if_neg hc230]
            rfl
          · first | with_reducible rfl | simp only [if_pos hc229]
        · refine (if_neg hc229).trans ?_
          refine Eq.trans (b := am_r L 81 67 [some (.inr (.inr (50, none))), some (.inl x1), some (.inl x2), some (.inl x3), some (.inl x4)] [.inl 1] σ) ?_ ?_
          · refine (e_81_62 _ _ _ _ _ _).trans ?_
            rfl
          · first | with_reducible rfl | simp only [if_neg hc229]
      refine (e_81_67 _ _ _ _ _ _ _).trans ?_
      exact ih x1 x2 (if x3 = 0 then ((if (σ.1 51 x4.toNatClampNeg) = x1 then ((if (σ.1 52 x4.toNatClampNeg) = x2 then (1 : Int32) else 0) : Int32) else 0) : Int32) else 1) (x4 + 1) ((h.1 hc228).2)
    · refine (e_81_74 _ _ _ _ _ _).trans ?_
      refine (e_81_75 _ _ _ _ _ _ _).trans ?_
      refine (if_pos ((h.2 hc228))).trans ?_
      rfl
def p_81 (σ : am_M) (x1 : Int32) (x2 : Int32) : Prop := ((0 < x1) → (¬ (x1 < 0 ∨ 13 ≤ x1.toNatClampNeg))) ∧ (q_81_27 14 σ x1 x2 (if 0 < x1 then ((if x2 = (((σ.1 52 x1.toNatClampNeg) + 2) - ((σ.1 52 x1.toNatClampNeg) + 2) / 4 * 4) then (1 : Int32) else 0) : Int32) else 0) 1)
def f_81 (σ : am_M) (x1 : Int32) (x2 : Int32) : Int32 := (l_81_27 14 σ x1 x2 (if 0 < x1 then ((if x2 = (((σ.1 52 x1.toNatClampNeg) + 2) - ((σ.1 52 x1.toNatClampNeg) + 2) / 4 * 4) then (1 : Int32) else 0) : Int32) else 0) 1)
set_option maxRecDepth 20000 in
theorem sf_81 (L : Nat) (σ : am_M) (x1 : Int32) (x2 : Int32) (h : p_81 σ x1 x2) : am_r L 81 0 [some (.inr (.inr (50, none))), some (.inl x1), some (.inl x2), none, none] [] σ = some (some (.inl (f_81 σ x1 x2)), am_sh0 L, σ) := by
  unfold p_81 at h
  unfold f_81
  refine (e_81_0 _ _ _ _).trans ?_
  refine Eq.trans (b := am_r L 81 23 [some (.inr (.inr (50, none))), some (.inl x1), some (.inl x2), none, none] [.inl (if 0 < x1 then ((if x2 = (((σ.1 52 x1.toNatClampNeg) + 2) - ((σ.1 52 x1.toNatClampNeg) + 2) / 4 * 4) then (1 : Int32) else 0) : Int32) else 0)] σ) ?_ ?_
  · by_cases hc232 : 0 < x1
    · refine (if_pos hc232).trans ?_
      refine Eq.trans (b := am_r L 81 23 [some (.inr (.inr (50, none))), some (.inl x1), some (.inl x2), none, none] [.inl (if x2 = (((σ.1 52 x1.toNatClampNeg) + 2) - ((σ.1 52 x1.toNatClampNeg) + 2) / 4 * 4) then (1 : Int32) else 0)] σ) ?_ ?_
      · refine (if_neg ((h.1 hc232))).trans ?_
        refine Eq.trans (b := am_r L 81 23 [some (.inr (.inr (50, none))), some (.inl x1), some (.inl x2), none, none] [.inl (if x2 = (((σ.1 52 x1.toNatClampNeg) + 2) - ((σ.1 52 x1.toNatClampNeg) + 2) / 4 * 4) then (1 : Int32) else 0)] σ) ?_ ?_
        · by_cases hc233 : x2 = (((σ.1 52 x1.toNatClampNeg) + 2) - ((σ.1 52 x1.toNatClampNeg) + 2) / 4 * 4)
          · refine (if_pos hc233).trans ?_
            refine Eq.trans (b := am_r L 81 23 [some (.inr (.inr (50, none))), some (.inl x1), some (.inl x2), none, none] [.inl 1] σ) ?_ ?_
            · rfl
            · first | with_reducible rfl | simp only [if_pos hc233]
          · refine (if_neg hc233).trans ?_
            refine Eq.trans (b := am_r L 81 23 [some (.inr (.inr (50, none))), some (.inl x1), some (.inl x2), none, none] [.inl 0] σ) ?_ ?_
            · refine (e_81_22 _ _ _ _).trans ?_
              rfl
            · first | with_reducible rfl | simp only [if_neg hc233]
        rfl
      · first | with_reducible rfl | simp only [if_pos hc232]
    · refine (if_neg hc232).trans ?_
      refine Eq.trans (b := am_r L 81 23 [some (.inr (.inr (50, none))), some (.inl x1), some (.inl x2), none, none] [.inl 0] σ) ?_ ?_
      · refine (e_81_22 _ _ _ _).trans ?_
        rfl
      · first | with_reducible rfl | simp only [if_neg hc232]
  refine (e_81_23 _ _ _ _ _).trans ?_
  exact t_81_27 L σ 14 x1 x2 (if 0 < x1 then ((if x2 = (((σ.1 52 x1.toNatClampNeg) + 2) - ((σ.1 52 x1.toNatClampNeg) + 2) / 4 * 4) then (1 : Int32) else 0) : Int32) else 0) 1 h.2
def v_81 (σ : am_M) (x1 : Int32) (x2 : Int32) : Int32 := f_81 σ x1 x2
theorem s_81 (L : Nat) (σ : am_M) (x1 : Int32) (x2 : Int32) (h : p_81 σ x1 x2) : am_r L 81 0 [some (.inr (.inr (50, none))), some (.inl x1), some (.inl x2), none, none] [] σ = some (some (.inl (v_81 σ x1 x2)), am_sh0 L, σ) := sf_81 L σ x1 x2 h
-- 82: X5_layFlat
def l_82_155 (k9 : am_M → Int32 → Int32 → am_M) : Nat → am_M → Int32 → Int32 → Int32 → am_M
  | 0, σ, x1, x2, x3 => σ
  | n + 1, σ, x1, x2, x3 => (if 0 < x3 then (l_82_155 k9 n (am_put (am_put (am_put (am_put σ 55 (((4 * x2)).toNatClampNeg) ((σ.1 55 (((4 * x2)).toNatClampNeg)) + (if (σ.1 52 x3.toNatClampNeg) = 0 then ((-(σ.1 50 2)) : Int32) else (if (σ.1 52 x3.toNatClampNeg) = 2 then ((σ.1 50 2) : Int32) else 0)))) 55 ((((4 * x2) + 2)).toNatClampNeg) (((am_put σ 55 (((4 * x2)).toNatClampNeg) ((σ.1 55 (((4 * x2)).toNatClampNeg)) + (if (σ.1 52 x3.toNatClampNeg) = 0 then ((-(σ.1 50 2)) : Int32) else (if (σ.1 52 x3.toNatClampNeg) = 2 then ((σ.1 50 2) : Int32) else 0)))).1 55 ((((4 * x2) + 2)).toNatClampNeg)) + (if (σ.1 52 x3.toNatClampNeg) = 0 then ((-(σ.1 50 2)) : Int32) else (if (σ.1 52 x3.toNatClampNeg) = 2 then ((σ.1 50 2) : Int32) else 0)))) 55 ((((4 * x2) + 1)).toNatClampNeg) (((am_put (am_put σ 55 (((4 * x2)).toNatClampNeg) ((σ.1 55 (((4 * x2)).toNatClampNeg)) + (if (σ.1 52 x3.toNatClampNeg) = 0 then ((-(σ.1 50 2)) : Int32) else (if (σ.1 52 x3.toNatClampNeg) = 2 then ((σ.1 50 2) : Int32) else 0)))) 55 ((((4 * x2) + 2)).toNatClampNeg) (((am_put σ 55 (((4 * x2)).toNatClampNeg) ((σ.1 55 (((4 * x2)).toNatClampNeg)) + (if (σ.1 52 x3.toNatClampNeg) = 0 then ((-(σ.1 50 2)) : Int32) else (if (σ.1 52 x3.toNatClampNeg) = 2 then ((σ.1 50 2) : Int32) else 0)))).1 55 ((((4 * x2) + 2)).toNatClampNeg)) + (if (σ.1 52 x3.toNatClampNeg) = 0 then ((-(σ.1 50 2)) : Int32) else (if (σ.1 52 x3.toNatClampNeg) = 2 then ((σ.1 50 2) : Int32) else 0)))).1 55 ((((4 * x2) + 1)).toNatClampNeg)) + (if (σ.1 52 x3.toNatClampNeg) = 1 then ((-(σ.1 50 2)) : Int32) else (if (σ.1 52 x3.toNatClampNeg) = 3 then ((σ.1 50 2) : Int32) else 0)))) 55 ((((4 * x2) + 3)).toNatClampNeg) (((am_put (am_put (am_put σ 55 (((4 * x2)).toNatClampNeg) ((σ.1 55 (((4 * x2)).toNatClampNeg)) + (if (σ.1 52 x3.toNatClampNeg) = 0 then ((-(σ.1 50 2)) : Int32) else (if (σ.1 52 x3.toNatClampNeg) = 2 then ((σ.1 50 2) : Int32) else 0)))) 55 ((((4 * x2) + 2)).toNatClampNeg) (((am_put σ 55 (((4 * x2)).toNatClampNeg) ((σ.1 55 (((4 * x2)).toNatClampNeg)) + (if (σ.1 52 x3.toNatClampNeg) = 0 then ((-(σ.1 50 2)) : Int32) else (if (σ.1 52 x3.toNatClampNeg) = 2 then ((σ.1 50 2) : Int32) else 0)))).1 55 ((((4 * x2) + 2)).toNatClampNeg)) + (if (σ.1 52 x3.toNatClampNeg) = 0 then ((-(σ.1 50 2)) : Int32) else (if (σ.1 52 x3.toNatClampNeg) = 2 then ((σ.1 50 2) : Int32) else 0)))) 55 ((((4 * x2) + 1)).toNatClampNeg) (((am_put (am_put σ 55 (((4 * x2)).toNatClampNeg) ((σ.1 55 (((4 * x2)).toNatClampNeg)) + (if (σ.1 52 x3.toNatClampNeg) = 0 then ((-(σ.1 50 2)) : Int32) else (if (σ.1 52 x3.toNatClampNeg) = 2 then ((σ.1 50 2) : Int32) else 0)))) 55 ((((4 * x2) + 2)).toNatClampNeg) (((am_put σ 55 (((4 * x2)).toNatClampNeg) ((σ.1 55 (((4 * x2)).toNatClampNeg)) + (if (σ.1 52 x3.toNatClampNeg) = 0 then ((-(σ.1 50 2)) : Int32) else (if (σ.1 52 x3.toNatClampNeg) = 2 then ((σ.1 50 2) : Int32) else 0)))).1 55 ((((4 * x2) + 2)).toNatClampNeg)) + (if (σ.1 52 x3.toNatClampNeg) = 0 then ((-(σ.1 50 2)) : Int32) else (if (σ.1 52 x3.toNatClampNeg) = 2 then ((σ.1 50 2) : Int32) else 0)))).1 55 ((((4 * x2) + 1)).toNatClampNeg)) + (if (σ.1 52 x3.toNatClampNeg) = 1 then ((-(σ.1 50 2)) : Int32) else (if (σ.1 52 x3.toNatClampNeg) = 3 then ((σ.1 50 2) : Int32) else 0)))).1 55 ((((4 * x2) + 3)).toNatClampNeg)) + (if (σ.1 52 x3.toNatClampNeg) = 1 then ((-(σ.1 50 2)) : Int32) else (if (σ.1 52 x3.toNatClampNeg) = 3 then ((σ.1 50 2) : Int32) else 0)))) x1 x2 (σ.1 51 x3.toNatClampNeg)) else (k9 σ x1 (x2 + 1)))
def q_82_155 (c9 : am_M → Int32 → Int32 → Prop) : Nat → am_M → Int32 → Int32 → Int32 → Prop
  | 0, _, _, _, _ => False
  | n + 1, σ, x1, x2, x3 => ((0 < x3) → ((¬ (x3 < 0 ∨ 13 ≤ x3.toNatClampNeg)) ∧ ((¬ ((σ.1 52 x3.toNatClampNeg) = 0) → (¬ (x3 < 0 ∨ 13 ≤ x3.toNatClampNeg))) ∧ ((¬ (x3 < 0 ∨ 13 ≤ x3.toNatClampNeg)) ∧ ((¬ ((σ.1 52 x3.toNatClampNeg) = 1) → (¬ (x3 < 0 ∨ 13 ≤ x3.toNatClampNeg))) ∧ ((¬ ((4 * x2) < 0 ∨ 52 ≤ ((4 * x2)).toNatClampNeg)) ∧ ((¬ ((4 * x2) < 0 ∨ 52 ≤ ((4 * x2)).toNatClampNeg)) ∧ ((¬ (((4 * x2) + 2) < 0 ∨ 52 ≤ (((4 * x2) + 2)).toNatClampNeg)) ∧ ((¬ (((4 * x2) + 2) < 0 ∨ 52 ≤ (((4 * x2) + 2)).toNatClampNeg)) ∧ ((¬ (((4 * x2) + 1) < 0 ∨ 52 ≤ (((4 * x2) + 1)).toNatClampNeg)) ∧ ((¬ (((4 * x2) + 1) < 0 ∨ 52 ≤ (((4 * x2) + 1)).toNatClampNeg)) ∧ ((¬ (((4 * x2) + 3) < 0 ∨ 52 ≤ (((4 * x2) + 3)).toNatClampNeg)) ∧ ((¬ (((4 * x2) + 3) < 0 ∨ 52 ≤ (((4 * x2) + 3)).toNatClampNeg)) ∧ ((¬ (x3 < 0 ∨ 13 ≤ x3.toNatClampNeg)) ∧ (q_82_155 c9 n (am_put (am_put (am_put (am_put σ 55 (((4 * x2)).toNatClampNeg) ((σ.1 55 (((4 * x2)).toNatClampNeg)) + (if (σ.1 52 x3.toNatClampNeg) = 0 then ((-(σ.1 50 2)) : Int32) else (if (σ.1 52 x3.toNatClampNeg) = 2 then ((σ.1 50 2) : Int32) else 0)))) 55 ((((4 * x2) + 2)).toNatClampNeg) (((am_put σ 55 (((4 * x2)).toNatClampNeg) ((σ.1 55 (((4 * x2)).toNatClampNeg)) + (if (σ.1 52 x3.toNatClampNeg) = 0 then ((-(σ.1 50 2)) : Int32) else (if (σ.1 52 x3.toNatClampNeg) = 2 then ((σ.1 50 2) : Int32) else 0)))).1 55 ((((4 * x2) + 2)).toNatClampNeg)) + (if (σ.1 52 x3.toNatClampNeg) = 0 then ((-(σ.1 50 2)) : Int32) else (if (σ.1 52 x3.toNatClampNeg) = 2 then ((σ.1 50 2) : Int32) else 0)))) 55 ((((4 * x2) + 1)).toNatClampNeg) (((am_put (am_put σ 55 (((4 * x2)).toNatClampNeg) ((σ.1 55 (((4 * x2)).toNatClampNeg)) + (if (σ.1 52 x3.toNatClampNeg) = 0 then ((-(σ.1 50 2)) : Int32) else (if (σ.1 52 x3.toNatClampNeg) = 2 then ((σ.1 50 2) : Int32) else 0)))) 55 ((((4 * x2) + 2)).toNatClampNeg) (((am_put σ 55 (((4 * x2)).toNatClampNeg) ((σ.1 55 (((4 * x2)).toNatClampNeg)) + (if (σ.1 52 x3.toNatClampNeg) = 0 then ((-(σ.1 50 2)) : Int32) else (if (σ.1 52 x3.toNatClampNeg) = 2 then ((σ.1 50 2) : Int32) else 0)))).1 55 ((((4 * x2) + 2)).toNatClampNeg)) + (if (σ.1 52 x3.toNatClampNeg) = 0 then ((-(σ.1 50 2)) : Int32) else (if (σ.1 52 x3.toNatClampNeg) = 2 then ((σ.1 50 2) : Int32) else 0)))).1 55 ((((4 * x2) + 1)).toNatClampNeg)) + (if (σ.1 52 x3.toNatClampNeg) = 1 then ((-(σ.1 50 2)) : Int32) else (if (σ.1 52 x3.toNatClampNeg) = 3 then ((σ.1 50 2) : Int32) else 0)))) 55 ((((4 * x2) + 3)).toNatClampNeg) (((am_put (am_put (am_put σ 55 (((4 * x2)).toNatClampNeg) ((σ.1 55 (((4 * x2)).toNatClampNeg)) + (if (σ.1 52 x3.toNatClampNeg) = 0 then ((-(σ.1 50 2)) : Int32) else (if (σ.1 52 x3.toNatClampNeg) = 2 then ((σ.1 50 2) : Int32) else 0)))) 55 ((((4 * x2) + 2)).toNatClampNeg) (((am_put σ 55 (((4 * x2)).toNatClampNeg) ((σ.1 55 (((4 * x2)).toNatClampNeg)) + (if (σ.1 52 x3.toNatClampNeg) = 0 then ((-(σ.1 50 2)) : Int32) else (if (σ.1 52 x3.toNatClampNeg) = 2 then ((σ.1 50 2) : Int32) else 0)))).1 55 ((((4 * x2) + 2)).toNatClampNeg)) + (if (σ.1 52 x3.toNatClampNeg) = 0 then ((-(σ.1 50 2)) : Int32) else (if (σ.1 52 x3.toNatClampNeg) = 2 then ((σ.1 50 2) : Int32) else 0)))) 55 ((((4 * x2) + 1)).toNatClampNeg) (((am_put (am_put σ 55 (((4 * x2)).toNatClampNeg) ((σ.1 55 (((4 * x2)).toNatClampNeg)) + (if (σ.1 52 x3.toNatClampNeg) = 0 then ((-(σ.1 50 2)) : Int32) else (if (σ.1 52 x3.toNatClampNeg) = 2 then ((σ.1 50 2) : Int32) else 0)))) 55 ((((4 * x2) + 2)).toNatClampNeg) (((am_put σ 55 (((4 * x2)).toNatClampNeg) ((σ.1 55 (((4 * x2)).toNatClampNeg)) + (if (σ.1 52 x3.toNatClampNeg) = 0 then ((-(σ.1 50 2)) : Int32) else (if (σ.1 52 x3.toNatClampNeg) = 2 then ((σ.1 50 2) : Int32) else 0)))).1 55 ((((4 * x2) + 2)).toNatClampNeg)) + (if (σ.1 52 x3.toNatClampNeg) = 0 then ((-(σ.1 50 2)) : Int32) else (if (σ.1 52 x3.toNatClampNeg) = 2 then ((σ.1 50 2) : Int32) else 0)))).1 55 ((((4 * x2) + 1)).toNatClampNeg)) + (if (σ.1 52 x3.toNatClampNeg) = 1 then ((-(σ.1 50 2)) : Int32) else (if (σ.1 52 x3.toNatClampNeg) = 3 then ((σ.1 50 2) : Int32) else 0)))).1 55 ((((4 * x2) + 3)).toNatClampNeg)) + (if (σ.1 52 x3.toNatClampNeg) = 1 then ((-(σ.1 50 2)) : Int32) else (if (σ.1 52 x3.toNatClampNeg) = 3 then ((σ.1 50 2) : Int32) else 0)))) x1 x2 (σ.1 51 x3.toNatClampNeg)))))))))))))))) ∧ (¬ (0 < x3) → (c9 σ x1 (x2 + 1)))
set_option maxRecDepth 20000 in
theorem t_82_155 (L : Nat) (k9 : am_M → Int32 → Int32 → am_M) (c9 : am_M → Int32 → Int32 → Prop) (hk9 : ∀ (σ : am_M) (x1 : Int32) (x2 : Int32) (o3 : Option am_V) (o4 : Option am_V) (o5 : Option am_V), c9 σ x1 x2 → am_r L 82 9 [some (.inr (.inr (50, none))), some (.inl x1), some (.inl x2), o3, o4, o5] [] σ = some (none, am_sh0 L, (k9 σ x1 x2))) : ∀ (n : Nat) (σ : am_M) (x1 : Int32) (x2 : Int32) (x3 : Int32) (o4 : Option am_V) (o5 : Option am_V), q_82_155 c9 n σ x1 x2 x3 → am_r L 82 155 [some (.inr (.inr (50, none))), some (.inl x1), some (.inl x2), some (.inl x3), o4, o5] [] σ = some (none, am_sh0 L, (l_82_155 k9 n σ x1 x2 x3)) := by
  intro n
  induction n with
  | zero => intro σ x1 x2 x3 o4 o5 h; exact h.elim
  | succ n ih =>
    intro σ x1 x2 x3 o4 o5 h
    unfold q_82_155 at h
    unfold l_82_155
    refine (e_82_155 _ _ _ _ _ _ _).trans ?_
    refine am_fkVm (fun hc234 => ?_) (fun hc234 => ?_)
    · refine (if_neg ((h.1 hc234).1)).trans ?_
      refine Eq.trans (b := am_r L 82 194 [some (.inr (.inr (50, none))), some (.inl x1), some (.inl x2), some (.inl x3), o4, o5] [.inl (if (σ.1 52 x3.toNatClampNeg) = 0 then ((-(σ.1 50 2)) : Int32) else (if (σ.1 52 x3.toNatClampNeg) = 2 then ((σ.1 50 2) : Int32) else 0))] σ) ?_ ?_
      · by_cases hc235 : (σ.1 52 x3.toNatClampNeg) = 0
        · refine (if_pos hc235).trans ?_
          refine Eq.trans (b := am_r L 82 194 [some (.inr (.inr (50, none))), some (.inl x1), some (.inl x2), some (.inl x3), o4, o5] [.inl (-(σ.1 50 2))] σ) ?_ ?_
          · rfl
          · first | with_reducible rfl | simp only [if_pos hc235]
        · refine (if_neg hc235).trans ?_
          refine Eq.trans (b := am_r L 82 194 [some (.inr (.inr (50, none))), some (.inl x1), some (.inl x2), some (.inl x3), o4, o5] [.inl (if (σ.1 52 x3.toNatClampNeg) = 2 then ((σ.1 50 2) : Int32) else 0)] σ) ?_ ?_
          · refine (e_82_176 _ _ _ _ _ _ _).trans ?_
            refine (if_neg (((h.1 hc234).2.1 hc235))).trans ?_
            refine Eq.trans (b := am_r L 82 194 [some (.inr (.inr (50, none))), some (.inl x1), some (.inl x2), some (.inl x3), o4, o5] [.inl (if (σ.1 52 x3.toNatClampNeg) = 2 then ((σ.1 50 2) : Int32) else 0)] σ) ?_ ?_
            · by_cases hc236 : (σ.1 52 x3.toNatClampNeg) = 2
              · refine (if_pos hc236).trans ?_
                refine Eq.trans (b := am_r L 82 194 [some (.inr (.inr (50, none))), some (.inl x1), some (.inl x2), some (.inl x3), o4, o5] [.inl (σ.1 50 2)] σ) ?_ ?_
                · rfl
                · first | with_reducible rfl | simp only [if_pos hc236]
              · refine (if_neg hc236).trans ?_
                refine Eq.trans (b := am_r L 82 194 [some (.inr (.inr (50, none))), some (.inl x1), some (.inl x2), some (.inl x3), o4, o5] [.inl 0] σ) ?_ ?_
                · refine (e_82_193 _ _ _ _ _ _ _).trans ?_
                  rfl
                · first | with_reducible rfl | simp only [if_neg hc236]
            rfl
          · first | with_reducible rfl | simp only [if_neg hc235]
      refine (e_82_194 _ _ _ _ _ _ _ _).trans ?_
      refine (if_neg ((h.1 hc234).2.2.1)).trans ?_
      refine Eq.trans (b := am_r L 82 232 [some (.inr (.inr (50, none))), some (.inl x1), some (.inl x2), some (.inl x3), some (.inl (if (σ.1 52 x3.toNatClampNeg) = 0 then ((-(σ.1 50 2)) : Int32) else (if (σ.1 52 x3.toNatClampNeg) = 2 then ((σ.1 50 2) : Int32) else 0))), o5] [.inl (if (σ.1 52 x3.toNatClampNeg) = 1 then ((-(σ.1 50 2)) : Int32) else (if (σ.1 52 x3.toNatClampNeg) = 3 then ((σ.1 50 2) : Int32) else 0))] σ) ?_ ?_
      · by_cases hc237 : (σ.1 52 x3.toNatClampNeg) = 1
        · refine (if_pos hc237).trans ?_
          refine Eq.trans (b := am_r L 82 232 [some (.inr (.inr (50, none))), some (.inl x1), some (.inl x2), some (.inl x3), some (.inl (if (σ.1 52 x3.toNatClampNeg) = 0 then ((-(σ.1 50 2)) : Int32) else (if (σ.1 52 x3.toNatClampNeg) = 2 then ((σ.1 50 2) : Int32) else 0))), o5] [.inl (-(σ.1 50 2))] σ) ?_ ?_
          · rfl
          · first | with_reducible rfl | simp only [if_pos hc237]
        · refine (if_neg hc237).trans ?_
          refine Eq.trans (b := am_r L 82 232 [some (.inr (.inr (50, none))), some (.inl x1), some (.inl x2), some (.inl x3), some (.inl (if (σ.1 52 x3.toNatClampNeg) = 0 then ((-(σ.1 50 2)) : Int32) else (if (σ.1 52 x3.toNatClampNeg) = 2 then ((σ.1 50 2) : Int32) else 0))), o5] [.inl (if (σ.1 52 x3.toNatClampNeg) = 3 then ((σ.1 50 2) : Int32) else 0)] σ) ?_ ?_
          · refine (e_82_214 _ _ _ _ _ _ _).trans ?_
            refine (if_neg (((h.1 hc234).2.2.2.1 hc237))).trans ?_
            refine Eq.trans (b := am_r L 82 232 [some (.inr (.inr (50, none))), some (.inl x1), some (.inl x2), some (.inl x3), some (.inl (if (σ.1 52 x3.toNatClampNeg) = 0 then ((-(σ.1 50 2)) : Int32) else (if (σ.1 52 x3.toNatClampNeg) = 2 then ((σ.1 50 2) : Int32) else 0))), o5] [.inl (if (σ.1 52 x3.toNatClampNeg) = 3 then ((σ.1 50 2) : Int32) else 0)] σ) ?_ ?_
            · by_cases hc238 : (σ.1 52 x3.toNatClampNeg) = 3
              · refine (if_pos hc238).trans ?_
                refine Eq.trans (b := am_r L 82 232 [some (.inr (.inr (50, none))), some (.inl x1), some (.inl x2), some (.inl x3), some (.inl (if (σ.1 52 x3.toNatClampNeg) = 0 then ((-(σ.1 50 2)) : Int32) else (if (σ.1 52 x3.toNatClampNeg) = 2 then ((σ.1 50 2) : Int32) else 0))), o5] [.inl (σ.1 50 2)] σ) ?_ ?_
                · rfl
                · first | with_reducible rfl | simp only [if_pos hc238]
              · refine (if_neg hc238).trans ?_
                refine Eq.trans (b := am_r L 82 232 [some (.inr (.inr (50, none))), some (.inl x1), some (.inl x2), some (.inl x3), some (.inl (if (σ.1 52 x3.toNatClampNeg) = 0 then ((-(σ.1 50 2)) : Int32) else (if (σ.1 52 x3.toNatClampNeg) = 2 then ((σ.1 50 2) : Int32) else 0))), o5] [.inl 0] σ) ?_ ?_
                · refine (e_82_231 _ _ _ _ _ _ _).trans ?_
                  rfl
                · first | with_reducible rfl | simp only [if_neg hc238]
            rfl
          · first | with_reducible rfl | simp only [if_neg hc237]
      refine (e_82_232 _ _ _ _ _ _ _ _).trans ?_
      refine (if_neg ((h.1 hc234).2.2.2.2.1)).trans ?_
      refine (if_neg ((h.1 hc234).2.2.2.2.2.1)).trans ?_
      refine (if_neg ((h.1 hc234).2.2.2.2.2.2.1)).trans ?_
      refine (e_82_258 _ _ _ _ _ _ _ _ _).trans ?_
      refine (if_neg ((h.1 hc234).2.2.2.2.2.2.2.1)).trans ?_
      refine (if_neg ((h.1 hc234).2.2.2.2.2.2.2.2.1)).trans ?_
      refine (if_neg ((h.1 hc234).2.2.2.2.2.2.2.2.2.1)).trans ?_
      refine (e_82_282 _ _ _ _ _ _ _ _).trans ?_
      refine (if_neg ((h.1 hc234).2.2.2.2.2.2.2.2.2.2.1)).trans ?_
      refine (if_neg ((h.1 hc234).2.2.2.2.2.2.2.2.2.2.2.1)).trans ?_
      refine (if_neg ((h.1 hc234).2.2.2.2.2.2.2.2.2.2.2.2.1)).trans ?_
      exact ih (am_put (am_put (am_put (am_put σ 55 (((4 * x2)).toNatClampNeg) ((σ.1 55 (((4 * x2)).toNatClampNeg)) + (if (σ.1 52 x3.toNatClampNeg) = 0 then ((-(σ.1 50 2)) : Int32) else (if (σ.1 52 x3.toNatClampNeg) = 2 then ((σ.1 50 2) : Int32) else 0)))) 55 ((((4 * x2) + 2)).toNatClampNeg) (((am_put σ 55 (((4 * x2)).toNatClampNeg) ((σ.1 55 (((4 * x2)).toNatClampNeg)) + (if (σ.1 52 x3.toNatClampNeg) = 0 then ((-(σ.1 50 2)) : Int32) else (if (σ.1 52 x3.toNatClampNeg) = 2 then ((σ.1 50 2) : Int32) else 0)))).1 55 ((((4 * x2) + 2)).toNatClampNeg)) + (if (σ.1 52 x3.toNatClampNeg) = 0 then ((-(σ.1 50 2)) : Int32) else (if (σ.1 52 x3.toNatClampNeg) = 2 then ((σ.1 50 2) : Int32) else 0)))) 55 ((((4 * x2) + 1)).toNatClampNeg) (((am_put (am_put σ 55 (((4 * x2)).toNatClampNeg) ((σ.1 55 (((4 * x2)).toNatClampNeg)) + (if (σ.1 52 x3.toNatClampNeg) = 0 then ((-(σ.1 50 2)) : Int32) else (if (σ.1 52 x3.toNatClampNeg) = 2 then ((σ.1 50 2) : Int32) else 0)))) 55 ((((4 * x2) + 2)).toNatClampNeg) (((am_put σ 55 (((4 * x2)).toNatClampNeg) ((σ.1 55 (((4 * x2)).toNatClampNeg)) + (if (σ.1 52 x3.toNatClampNeg) = 0 then ((-(σ.1 50 2)) : Int32) else (if (σ.1 52 x3.toNatClampNeg) = 2 then ((σ.1 50 2) : Int32) else 0)))).1 55 ((((4 * x2) + 2)).toNatClampNeg)) + (if (σ.1 52 x3.toNatClampNeg) = 0 then ((-(σ.1 50 2)) : Int32) else (if (σ.1 52 x3.toNatClampNeg) = 2 then ((σ.1 50 2) : Int32) else 0)))).1 55 ((((4 * x2) + 1)).toNatClampNeg)) + (if (σ.1 52 x3.toNatClampNeg) = 1 then ((-(σ.1 50 2)) : Int32) else (if (σ.1 52 x3.toNatClampNeg) = 3 then ((σ.1 50 2) : Int32) else 0)))) 55 ((((4 * x2) + 3)).toNatClampNeg) (((am_put (am_put (am_put σ 55 (((4 * x2)).toNatClampNeg) ((σ.1 55 (((4 * x2)).toNatClampNeg)) + (if (σ.1 52 x3.toNatClampNeg) = 0 then ((-(σ.1 50 2)) : Int32) else (if (σ.1 52 x3.toNatClampNeg) = 2 then ((σ.1 50 2) : Int32) else 0)))) 55 ((((4 * x2) + 2)).toNatClampNeg) (((am_put σ 55 (((4 * x2)).toNatClampNeg) ((σ.1 55 (((4 * x2)).toNatClampNeg)) + (if (σ.1 52 x3.toNatClampNeg) = 0 then ((-(σ.1 50 2)) : Int32) else (if (σ.1 52 x3.toNatClampNeg) = 2 then ((σ.1 50 2) : Int32) else 0)))).1 55 ((((4 * x2) + 2)).toNatClampNeg)) + (if (σ.1 52 x3.toNatClampNeg) = 0 then ((-(σ.1 50 2)) : Int32) else (if (σ.1 52 x3.toNatClampNeg) = 2 then ((σ.1 50 2) : Int32) else 0)))) 55 ((((4 * x2) + 1)).toNatClampNeg) (((am_put (am_put σ 55 (((4 * x2)).toNatClampNeg) ((σ.1 55 (((4 * x2)).toNatClampNeg)) + (if (σ.1 52 x3.toNatClampNeg) = 0 then ((-(σ.1 50 2)) : Int32) else (if (σ.1 52 x3.toNatClampNeg) = 2 then ((σ.1 50 2) : Int32) else 0)))) 55 ((((4 * x2) + 2)).toNatClampNeg) (((am_put σ 55 (((4 * x2)).toNatClampNeg) ((σ.1 55 (((4 * x2)).toNatClampNeg)) + (if (σ.1 52 x3.toNatClampNeg) = 0 then ((-(σ.1 50 2)) : Int32) else (if (σ.1 52 x3.toNatClampNeg) = 2 then ((σ.1 50 2) : Int32) else 0)))).1 55 ((((4 * x2) + 2)).toNatClampNeg)) + (if (σ.1 52 x3.toNatClampNeg) = 0 then ((-(σ.1 50 2)) : Int32) else (if (σ.1 52 x3.toNatClampNeg) = 2 then ((σ.1 50 2) : Int32) else 0)))).1 55 ((((4 * x2) + 1)).toNatClampNeg)) + (if (σ.1 52 x3.toNatClampNeg) = 1 then ((-(σ.1 50 2)) : Int32) else (if (σ.1 52 x3.toNatClampNeg) = 3 then ((σ.1 50 2) : Int32) else 0)))).1 55 ((((4 * x2) + 3)).toNatClampNeg)) + (if (σ.1 52 x3.toNatClampNeg) = 1 then ((-(σ.1 50 2)) : Int32) else (if (σ.1 52 x3.toNatClampNeg) = 3 then ((σ.1 50 2) : Int32) else 0)))) x1 x2 (σ.1 51 x3.toNatClampNeg) (some (.inl (if (σ.1 52 x3.toNatClampNeg) = 0 then ((-(σ.1 50 2)) : Int32) else (if (σ.1 52 x3.toNatClampNeg) = 2 then ((σ.1 50 2) : Int32) else 0)))) (some (.inl (if (σ.1 52 x3.toNatClampNeg) = 1 then ((-(σ.1 50 2)) : Int32) else (if (σ.1 52 x3.toNatClampNeg) = 3 then ((σ.1 50 2) : Int32) else 0)))) ((h.1 hc234).2.2.2.2.2.2.2.2.2.2.2.2.2)
    · refine (e_82_302 _ _ _ _ _ _ _).trans ?_
      exact hk9 σ x1 (x2 + 1) (some (.inl x3)) o4 o5 ((h.2 hc234))
def l_82_401 : Nat → am_M → Int32 → Int32 → Int32 → Int32 → am_M
  | 0, σ, x1, x2, x3, x4 => σ
  | n + 1, σ, x1, x2, x3, x4 => (if x4 < (σ.1 50 1) then (l_82_401 n (am_put (am_put (am_put (am_put σ 55 (((4 * x4)).toNatClampNeg) ((σ.1 55 (((4 * x4)).toNatClampNeg)) - x2)) 55 ((((4 * x4) + 2)).toNatClampNeg) (((am_put σ 55 (((4 * x4)).toNatClampNeg) ((σ.1 55 (((4 * x4)).toNatClampNeg)) - x2)).1 55 ((((4 * x4) + 2)).toNatClampNeg)) - x2)) 55 ((((4 * x4) + 1)).toNatClampNeg) (((am_put (am_put σ 55 (((4 * x4)).toNatClampNeg) ((σ.1 55 (((4 * x4)).toNatClampNeg)) - x2)) 55 ((((4 * x4) + 2)).toNatClampNeg) (((am_put σ 55 (((4 * x4)).toNatClampNeg) ((σ.1 55 (((4 * x4)).toNatClampNeg)) - x2)).1 55 ((((4 * x4) + 2)).toNatClampNeg)) - x2)).1 55 ((((4 * x4) + 1)).toNatClampNeg)) - x3)) 55 ((((4 * x4) + 3)).toNatClampNeg) (((am_put (am_put (am_put σ 55 (((4 * x4)).toNatClampNeg) ((σ.1 55 (((4 * x4)).toNatClampNeg)) - x2)) 55 ((((4 * x4) + 2)).toNatClampNeg) (((am_put σ 55 (((4 * x4)).toNatClampNeg) ((σ.1 55 (((4 * x4)).toNatClampNeg)) - x2)).1 55 ((((4 * x4) + 2)).toNatClampNeg)) - x2)) 55 ((((4 * x4) + 1)).toNatClampNeg) (((am_put (am_put σ 55 (((4 * x4)).toNatClampNeg) ((σ.1 55 (((4 * x4)).toNatClampNeg)) - x2)) 55 ((((4 * x4) + 2)).toNatClampNeg) (((am_put σ 55 (((4 * x4)).toNatClampNeg) ((σ.1 55 (((4 * x4)).toNatClampNeg)) - x2)).1 55 ((((4 * x4) + 2)).toNatClampNeg)) - x2)).1 55 ((((4 * x4) + 1)).toNatClampNeg)) - x3)).1 55 ((((4 * x4) + 3)).toNatClampNeg)) - x3)) x1 x2 x3 (x4 + 1)) else σ)
def q_82_401 : Nat → am_M → Int32 → Int32 → Int32 → Int32 → Prop
  | 0, _, _, _, _, _ => False
  | n + 1, σ, x1, x2, x3, x4 => (x4 < (σ.1 50 1)) → ((¬ ((4 * x4) < 0 ∨ 52 ≤ ((4 * x4)).toNatClampNeg)) ∧ ((¬ ((4 * x4) < 0 ∨ 52 ≤ ((4 * x4)).toNatClampNeg)) ∧ ((¬ (((4 * x4) + 2) < 0 ∨ 52 ≤ (((4 * x4) + 2)).toNatClampNeg)) ∧ ((¬ (((4 * x4) + 2) < 0 ∨ 52 ≤ (((4 * x4) + 2)).toNatClampNeg)) ∧ ((¬ (((4 * x4) + 1) < 0 ∨ 52 ≤ (((4 * x4) + 1)).toNatClampNeg)) ∧ ((¬ (((4 * x4) + 1) < 0 ∨ 52 ≤ (((4 * x4) + 1)).toNatClampNeg)) ∧ ((¬ (((4 * x4) + 3) < 0 ∨ 52 ≤ (((4 * x4) + 3)).toNatClampNeg)) ∧ ((¬ (((4 * x4) + 3) < 0 ∨ 52 ≤ (((4 * x4) + 3)).toNatClampNeg)) ∧ (q_82_401 n (am_put (am_put (am_put (am_put σ 55 (((4 * x4)).toNatClampNeg) ((σ.1 55 (((4 * x4)).toNatClampNeg)) - x2)) 55 ((((4 * x4) + 2)).toNatClampNeg) (((am_put σ 55 (((4 * x4)).toNatClampNeg) ((σ.1 55 (((4 * x4)).toNatClampNeg)) - x2)).1 55 ((((4 * x4) + 2)).toNatClampNeg)) - x2)) 55 ((((4 * x4) + 1)).toNatClampNeg) (((am_put (am_put σ 55 (((4 * x4)).toNatClampNeg) ((σ.1 55 (((4 * x4)).toNatClampNeg)) - x2)) 55 ((((4 * x4) + 2)).toNatClampNeg) (((am_put σ 55 (((4 * x4)).toNatClampNeg) ((σ.1 55 (((4 * x4)).toNatClampNeg)) - x2)).1 55 ((((4 * x4) + 2)).toNatClampNeg)) - x2)).1 55 ((((4 * x4) + 1)).toNatClampNeg)) - x3)) 55 ((((4 * x4) + 3)).toNatClampNeg) (((am_put (am_put (am_put σ 55 (((4 * x4)).toNatClampNeg) ((σ.1 55 (((4 * x4)).toNatClampNeg)) - x2)) 55 ((((4 * x4) + 2)).toNatClampNeg) (((am_put σ 55 (((4 * x4)).toNatClampNeg) ((σ.1 55 (((4 * x4)).toNatClampNeg)) - x2)).1 55 ((((4 * x4) + 2)).toNatClampNeg)) - x2)) 55 ((((4 * x4) + 1)).toNatClampNeg) (((am_put (am_put σ 55 (((4 * x4)).toNatClampNeg) ((σ.1 55 (((4 * x4)).toNatClampNeg)) - x2)) 55 ((((4 * x4) + 2)).toNatClampNeg) (((am_put σ 55 (((4 * x4)).toNatClampNeg) ((σ.1 55 (((4 * x4)).toNatClampNeg)) - x2)).1 55 ((((4 * x4) + 2)).toNatClampNeg)) - x2)).1 55 ((((4 * x4) + 1)).toNatClampNeg)) - x3)).1 55 ((((4 * x4) + 3)).toNatClampNeg)) - x3)) x1 x2 x3 (x4 + 1))))))))))
set_option maxRecDepth 20000 in
theorem t_82_401 (L : Nat) : ∀ (n : Nat) (σ : am_M) (x1 : Int32) (x2 : Int32) (x3 : Int32) (x4 : Int32) (o5 : Option am_V), q_82_401 n σ x1 x2 x3 x4 → am_r L 82 401 [some (.inr (.inr (50, none))), some (.inl x1), some (.inl x2), some (.inl x3), some (.inl x4), o5] [] σ = some (none, am_sh0 L, (l_82_401 n σ x1 x2 x3 x4)) := by
  intro n
  induction n with
  | zero => intro σ x1 x2 x3 x4 o5 h; exact h.elim
  | succ n ih =>
    intro σ x1 x2 x3 x4 o5 h
    unfold q_82_401 at h
    unfold l_82_401
    refine (e_82_401 _ _ _ _ _ _ _).trans ?_
    refine am_fkVm (fun hc239 => ?_) (fun hc239 => ?_)
    · refine (if_neg ((h hc239).1)).trans ?_
      refine (if_neg ((h hc239).2.1)).trans ?_
      refine (e_82_433 _ _ _ _ _ _ _ _).trans ?_
      refine (if_neg ((h hc239).2.2.1)).trans ?_
      refine (if_neg ((h hc239).2.2.2.1)).trans ?_
      refine (if_neg ((h hc239).2.2.2.2.1)).trans ?_
      refine (if_neg ((h hc239).2.2.2.2.2.1)).trans ?_
      refine (e_82_453 _ _ _ _ _ _ _).trans ?_
      refine (if_neg ((h hc239).2.2.2.2.2.2.1)).trans ?_
      refine (if_neg ((h hc239).2.2.2.2.2.2.2.1)).trans ?_
      exact ih (am_put (am_put (am_put (am_put σ 55 (((4 * x4)).toNatClampNeg) ((σ.1 55 (((4 * x4)).toNatClampNeg)) - x2)) 55 ((((4 * x4) + 2)).toNatClampNeg) (((am_put σ 55 (((4 * x4)).toNatClampNeg) ((σ.1 55 (((4 * x4)).toNatClampNeg)) - x2)).1 55 ((((4 * x4) + 2)).toNatClampNeg)) - x2)) 55 ((((4 * x4) + 1)).toNatClampNeg) (((am_put (am_put σ 55 (((4 * x4)).toNatClampNeg) ((σ.1 55 (((4 * x4)).toNatClampNeg)) - x2)) 55 ((((4 * x4) + 2)).toNatClampNeg) (((am_put σ 55 (((4 * x4)).toNatClampNeg) ((σ.1 55 (((4 * x4)).toNatClampNeg)) - x2)).1 55 ((((4 * x4) + 2)).toNatClampNeg)) - x2)).1 55 ((((4 * x4) + 1)).toNatClampNeg)) - x3)) 55 ((((4 * x4) + 3)).toNatClampNeg) (((am_put (am_put (am_put σ 55 (((4 * x4)).toNatClampNeg) ((σ.1 55 (((4 * x4)).toNatClampNeg)) - x2)) 55 ((((4 * x4) + 2)).toNatClampNeg) (((am_put σ 55 (((4 * x4)).toNatClampNeg) ((σ.1 55 (((4 * x4)).toNatClampNeg)) - x2)).1 55 ((((4 * x4) + 2)).toNatClampNeg)) - x2)) 55 ((((4 * x4) + 1)).toNatClampNeg) (((am_put (am_put σ 55 (((4 * x4)).toNatClampNeg) ((σ.1 55 (((4 * x4)).toNatClampNeg)) - x2)) 55 ((((4 * x4) + 2)).toNatClampNeg) (((am_put σ 55 (((4 * x4)).toNatClampNeg) ((σ.1 55 (((4 * x4)).toNatClampNeg)) - x2)).1 55 ((((4 * x4) + 2)).toNatClampNeg)) - x2)).1 55 ((((4 * x4) + 1)).toNatClampNeg)) - x3)).1 55 ((((4 * x4) + 3)).toNatClampNeg)) - x3)) x1 x2 x3 (x4 + 1) o5 ((h hc239).2.2.2.2.2.2.2.2)
    · refine (e_82_474 _ _ _ _ _ _ _).trans ?_
      rfl
def l_82_325 : Nat → am_M → Int32 → Int32 → Int32 → Int32 → am_M
  | 0, σ, x1, x2, x3, x4 => σ
  | n + 1, σ, x1, x2, x3, x4 => (if x4 < (σ.1 50 1) then (l_82_325 n σ x1 (if (σ.1 55 (((4 * x4)).toNatClampNeg)) < x2 then ((σ.1 55 (((4 * x4)).toNatClampNeg)) : Int32) else x2) (if (σ.1 55 ((((4 * x4) + 1)).toNatClampNeg)) < x3 then ((σ.1 55 ((((4 * x4) + 1)).toNatClampNeg)) : Int32) else x3) (x4 + 1)) else (l_82_401 14 σ x1 x2 x3 0))
def q_82_325 : Nat → am_M → Int32 → Int32 → Int32 → Int32 → Prop
  | 0, _, _, _, _, _ => False
  | n + 1, σ, x1, x2, x3, x4 => ((x4 < (σ.1 50 1)) → ((¬ ((4 * x4) < 0 ∨ 52 ≤ ((4 * x4)).toNatClampNeg)) ∧ ((((σ.1 55 (((4 * x4)).toNatClampNeg)) < x2) → (¬ ((4 * x4) < 0 ∨ 52 ≤ ((4 * x4)).toNatClampNeg))) ∧ ((¬ (((4 * x4) + 1) < 0 ∨ 52 ≤ (((4 * x4) + 1)).toNatClampNeg)) ∧ ((((σ.1 55 ((((4 * x4) + 1)).toNatClampNeg)) < x3) → (¬ (((4 * x4) + 1) < 0 ∨ 52 ≤ (((4 * x4) + 1)).toNatClampNeg))) ∧ (q_82_325 n σ x1 (if (σ.1 55 (((4 * x4)).toNatClampNeg)) < x2 then ((σ.1 55 (((4 * x4)).toNatClampNeg)) : Int32) else x2) (if (σ.1 55 ((((4 * x4) + 1)).toNatClampNeg)) < x3 then ((σ.1 55 ((((4 * x4) + 1)).toNatClampNeg)) : Int32) else x3) (x4 + 1))))))) ∧ (¬ (x4 < (σ.1 50 1)) → (q_82_401 14 σ x1 x2 x3 0))
set_option maxRecDepth 20000 in
theorem t_82_325 (L : Nat) : ∀ (n : Nat) (σ : am_M) (x1 : Int32) (x2 : Int32) (x3 : Int32) (x4 : Int32) (o5 : Option am_V), q_82_325 n σ x1 x2 x3 x4 → am_r L 82 325 [some (.inr (.inr (50, none))), some (.inl x1), some (.inl x2), some (.inl x3), some (.inl x4), o5] [] σ = some (none, am_sh0 L, (l_82_325 n σ x1 x2 x3 x4)) := by
  intro n
  induction n with
  | zero => intro σ x1 x2 x3 x4 o5 h; exact h.elim
  | succ n ih =>
    intro σ x1 x2 x3 x4 o5 h
    unfold q_82_325 at h
    unfold l_82_325
    refine (e_82_325 _ _ _ _ _ _ _).trans ?_
    refine am_fkVm (fun hc240 => ?_) (fun hc240 => ?_)
    · refine (if_neg ((h.1 hc240).1)).trans ?_
      refine Eq.trans (b := am_r L 82 360 [some (.inr (.inr (50, none))), some (.inl x1), some (.inl x2), some (.inl x3), some (.inl x4), o5] [.inl (if (σ.1 55 (((4 * x4)).toNatClampNeg)) < x2 then ((σ.1 55 (((4 * x4)).toNatClampNeg)) : Int32) else x2)] σ) ?_ ?_
      · by_cases hc241 : (σ.1 55 (((4 * x4)).toNatClampNeg)) < x2
        · refine (if_pos hc241).trans ?_
          refine Eq.trans (b := am_r L 82 360 [some (.inr (.inr (50, none))), some (.inl x1), some (.inl x2), some (.inl x3), some (.inl x4), o5] [.inl (σ.1 55 (((4 * x4)).toNatClampNeg))] σ) ?_ ?_
          · refine (if_neg (((h.1 hc240).2.1 hc241))).trans ?_
            rfl
          · first | with_reducible rfl | simp only [if_pos hc241]
        · refine (if_neg hc241).trans ?_
          refine Eq.trans (b := am_r L 82 360 [some (.inr (.inr (50, none))), some (.inl x1), some (.inl x2), some (.inl x3), some (.inl x4), o5] [.inl x2] σ) ?_ ?_
          · refine (e_82_359 _ _ _ _ _ _ _).trans ?_
            rfl
          · first | with_reducible rfl | simp only [if_neg hc241]
      refine (e_82_360 _ _ _ _ _ _ _ _).trans ?_
      refine (if_neg ((h.1 hc240).2.2.1)).trans ?_
      refine Eq.trans (b := am_r L 82 391 [some (.inr (.inr (50, none))), some (.inl x1), some (.inl (if (σ.1 55 (((4 * x4)).toNatClampNeg)) < x2 then ((σ.1 55 (((4 * x4)).toNatClampNeg)) : Int32) else x2)), some (.inl x3), some (.inl x4), o5] [.inl (if (σ.1 55 ((((4 * x4) + 1)).toNatClampNeg)) < x3 then ((σ.1 55 ((((4 * x4) + 1)).toNatClampNeg)) : Int32) else x3)] σ) ?_ ?_
      · by_cases hc242 : (σ.1 55 ((((4 * x4) + 1)).toNatClampNeg)) < x3
        · refine (if_pos hc242).trans ?_
          refine Eq.trans (b := am_r L 82 391 [some (.inr (.inr (50, none))), some (.inl x1), some (.inl (if (σ.1 55 (((4 * x4)).toNatClampNeg)) < x2 then ((σ.1 55 (((4 * x4)).toNatClampNeg)) : Int32) else x2)), some (.inl x3), some (.inl x4), o5] [.inl (σ.1 55 ((((4 * x4) + 1)).toNatClampNeg))] σ) ?_ ?_
          · refine (if_neg (((h.1 hc240).2.2.2.1 hc242))).trans ?_
            rfl
          · first | with_reducible rfl | simp only [if_pos hc242]
        · refine (if_neg hc242).trans ?_
          refine Eq.trans (b := am_r L 82 391 [some (.inr (.inr (50, none))), some (.inl x1), some (.inl (if (σ.1 55 (((4 * x4)).toNatClampNeg)) < x2 then ((σ.1 55 (((4 * x4)).toNatClampNeg)) : Int32) else x2)), some (.inl x3), some (.inl x4), o5] [.inl x3] σ) ?_ ?_
          · refine (e_82_390 _ _ _ _ _ _ _).trans ?_
            rfl
          · first | with_reducible rfl | simp only [if_neg hc242]
      refine (e_82_391 _ _ _ _ _ _ _ _).trans ?_
      exact ih σ x1 (if (σ.1 55 (((4 * x4)).toNatClampNeg)) < x2 then ((σ.1 55 (((4 * x4)).toNatClampNeg)) : Int32) else x2) (if (σ.1 55 ((((4 * x4) + 1)).toNatClampNeg)) < x3 then ((σ.1 55 ((((4 * x4) + 1)).toNatClampNeg)) : Int32) else x3) (x4 + 1) o5 ((h.1 hc240).2.2.2.2)
    · refine (e_82_398 _ _ _ _ _ _ _).trans ?_
      exact t_82_401 L 14 σ x1 x2 x3 0 o5 ((h.2 hc240))
def l_82_9 : Nat → am_M → Int32 → Int32 → am_M
  | 0, σ, x1, x2 => σ
  | n + 1, σ, x1, x2 => (if x2 < (σ.1 50 1) then (l_82_155 (l_82_9 n) 14 (am_put (am_put (am_put (am_put σ 55 (((4 * x2)).toNatClampNeg) ((σ.1 54 (((4 * x2)).toNatClampNeg)) + (if (v_81 σ x2 2) = 0 then (0 : Int32) else x1))) 55 ((((4 * x2) + 1)).toNatClampNeg) ((σ.1 54 ((((4 * x2) + 1)).toNatClampNeg)) + (if (v_81 (am_put σ 55 (((4 * x2)).toNatClampNeg) ((σ.1 54 (((4 * x2)).toNatClampNeg)) + (if (v_81 σ x2 2) = 0 then (0 : Int32) else x1))) x2 3) = 0 then (0 : Int32) else x1))) 55 ((((4 * x2) + 2)).toNatClampNeg) ((σ.1 54 ((((4 * x2) + 2)).toNatClampNeg)) - (if (v_81 (am_put (am_put σ 55 (((4 * x2)).toNatClampNeg) ((σ.1 54 (((4 * x2)).toNatClampNeg)) + (if (v_81 σ x2 2) = 0 then (0 : Int32) else x1))) 55 ((((4 * x2) + 1)).toNatClampNeg) ((σ.1 54 ((((4 * x2) + 1)).toNatClampNeg)) + (if (v_81 (am_put σ 55 (((4 * x2)).toNatClampNeg) ((σ.1 54 (((4 * x2)).toNatClampNeg)) + (if (v_81 σ x2 2) = 0 then (0 : Int32) else x1))) x2 3) = 0 then (0 : Int32) else x1))) x2 0) = 0 then (0 : Int32) else x1))) 55 ((((4 * x2) + 3)).toNatClampNeg) ((σ.1 54 ((((4 * x2) + 3)).toNatClampNeg)) - (if (v_81 (am_put (am_put (am_put σ 55 (((4 * x2)).toNatClampNeg) ((σ.1 54 (((4 * x2)).toNatClampNeg)) + (if (v_81 σ x2 2) = 0 then (0 : Int32) else x1))) 55 ((((4 * x2) + 1)).toNatClampNeg) ((σ.1 54 ((((4 * x2) + 1)).toNatClampNeg)) + (if (v_81 (am_put σ 55 (((4 * x2)).toNatClampNeg) ((σ.1 54 (((4 * x2)).toNatClampNeg)) + (if (v_81 σ x2 2) = 0 then (0 : Int32) else x1))) x2 3) = 0 then (0 : Int32) else x1))) 55 ((((4 * x2) + 2)).toNatClampNeg) ((σ.1 54 ((((4 * x2) + 2)).toNatClampNeg)) - (if (v_81 (am_put (am_put σ 55 (((4 * x2)).toNatClampNeg) ((σ.1 54 (((4 * x2)).toNatClampNeg)) + (if (v_81 σ x2 2) = 0 then (0 : Int32) else x1))) 55 ((((4 * x2) + 1)).toNatClampNeg) ((σ.1 54 ((((4 * x2) + 1)).toNatClampNeg)) + (if (v_81 (am_put σ 55 (((4 * x2)).toNatClampNeg) ((σ.1 54 (((4 * x2)).toNatClampNeg)) + (if (v_81 σ x2 2) = 0 then (0 : Int32) else x1))) x2 3) = 0 then (0 : Int32) else x1))) x2 0) = 0 then (0 : Int32) else x1))) x2 1) = 0 then (0 : Int32) else x1))) x1 x2 x2) else (l_82_325 14 σ x1 (σ.1 55 0) (σ.1 55 1) 0))
def q_82_9 : Nat → am_M → Int32 → Int32 → Prop
  | 0, _, _, _ => False
  | n + 1, σ, x1, x2 => ((x2 < (σ.1 50 1)) → ((¬ ((4 * x2) < 0 ∨ 52 ≤ ((4 * x2)).toNatClampNeg)) ∧ ((p_81 σ x2 2) ∧ ((¬ ((4 * x2) < 0 ∨ 52 ≤ ((4 * x2)).toNatClampNeg)) ∧ ((¬ (((4 * x2) + 1) < 0 ∨ 52 ≤ (((4 * x2) + 1)).toNatClampNeg)) ∧ ((p_81 (am_put σ 55 (((4 * x2)).toNatClampNeg) ((σ.1 54 (((4 * x2)).toNatClampNeg)) + (if (v_81 σ x2 2) = 0 then (0 : Int32) else x1))) x2 3) ∧ ((¬ (((4 * x2) + 1) < 0 ∨ 52 ≤ (((4 * x2) + 1)).toNatClampNeg)) ∧ ((¬ (((4 * x2) + 2) < 0 ∨ 52 ≤ (((4 * x2) + 2)).toNatClampNeg)) ∧ ((p_81 (am_put (am_put σ 55 (((4 * x2)).toNatClampNeg) ((σ.1 54 (((4 * x2)).toNatClampNeg)) + (if (v_81 σ x2 2) = 0 then (0 : Int32) else x1))) 55 ((((4 * x2) + 1)).toNatClampNeg) ((σ.1 54 ((((4 * x2) + 1)).toNatClampNeg)) + (if (v_81 (am_put σ 55 (((4 * x2)).toNatClampNeg) ((σ.1 54 (((4 * x2)).toNatClampNeg)) + (if (v_81 σ x2 2) = 0 then (0 : Int32) else x1))) x2 3) = 0 then (0 : Int32) else x1))) x2 0) ∧ ((¬ (((4 * x2) + 2) < 0 ∨ 52 ≤ (((4 * x2) + 2)).toNatClampNeg)) ∧ ((¬ (((4 * x2) + 3) < 0 ∨ 52 ≤ (((4 * x2) + 3)).toNatClampNeg)) ∧ ((p_81 (am_put (am_put (am_put σ 55 (((4 * x2)).toNatClampNeg) ((σ.1 54 (((4 * x2)).toNatClampNeg)) + (if (v_81 σ x2 2) = 0 then (0 : Int32) else x1))) 55 ((((4 * x2) + 1)).toNatClampNeg) ((σ.1 54 ((((4 * x2) + 1)).toNatClampNeg)) + (if (v_81 (am_put σ 55 (((4 * x2)).toNatClampNeg) ((σ.1 54 (((4 * x2)).toNatClampNeg)) + (if (v_81 σ x2 2) = 0 then (0 : Int32) else x1))) x2 3) = 0 then (0 : Int32) else x1))) 55 ((((4 * x2) + 2)).toNatClampNeg) ((σ.1 54 ((((4 * x2) + 2)).toNatClampNeg)) - (if (v_81 (am_put (am_put σ 55 (((4 * x2)).toNatClampNeg) ((σ.1 54 (((4 * x2)).toNatClampNeg)) + (if (v_81 σ x2 2) = 0 then (0 : Int32) else x1))) 55 ((((4 * x2) + 1)).toNatClampNeg) ((σ.1 54 ((((4 * x2) + 1)).toNatClampNeg)) + (if (v_81 (am_put σ 55 (((4 * x2)).toNatClampNeg) ((σ.1 54 (((4 * x2)).toNatClampNeg)) + (if (v_81 σ x2 2) = 0 then (0 : Int32) else x1))) x2 3) = 0 then (0 : Int32) else x1))) x2 0) = 0 then (0 : Int32) else x1))) x2 1) ∧ ((¬ (((4 * x2) + 3) < 0 ∨ 52 ≤ (((4 * x2) + 3)).toNatClampNeg)) ∧ (q_82_155 (q_82_9 n) 14 (am_put (am_put (am_put (am_put σ 55 (((4 * x2)).toNatClampNeg) ((σ.1 54 (((4 * x2)).toNatClampNeg)) + (if (v_81 σ x2 2) = 0 then (0 : Int32) else x1))) 55 ((((4 * x2) + 1)).toNatClampNeg) ((σ.1 54 ((((4 * x2) + 1)).toNatClampNeg)) + (if (v_81 (am_put σ 55 (((4 * x2)).toNatClampNeg) ((σ.1 54 (((4 * x2)).toNatClampNeg)) + (if (v_81 σ x2 2) = 0 then (0 : Int32) else x1))) x2 3) = 0 then (0 : Int32) else x1))) 55 ((((4 * x2) + 2)).toNatClampNeg) ((σ.1 54 ((((4 * x2) + 2)).toNatClampNeg)) - (if (v_81 (am_put (am_put σ 55 (((4 * x2)).toNatClampNeg) ((σ.1 54 (((4 * x2)).toNatClampNeg)) + (if (v_81 σ x2 2) = 0 then (0 : Int32) else x1))) 55 ((((4 * x2) + 1)).toNatClampNeg) ((σ.1 54 ((((4 * x2) + 1)).toNatClampNeg)) + (if (v_81 (am_put σ 55 (((4 * x2)).toNatClampNeg) ((σ.1 54 (((4 * x2)).toNatClampNeg)) + (if (v_81 σ x2 2) = 0 then (0 : Int32) else x1))) x2 3) = 0 then (0 : Int32) else x1))) x2 0) = 0 then (0 : Int32) else x1))) 55 ((((4 * x2) + 3)).toNatClampNeg) ((σ.1 54 ((((4 * x2) + 3)).toNatClampNeg)) - (if (v_81 (am_put (am_put (am_put σ 55 (((4 * x2)).toNatClampNeg) ((σ.1 54 (((4 * x2)).toNatClampNeg)) + (if (v_81 σ x2 2) = 0 then (0 : Int32) else x1))) 55 ((((4 * x2) + 1)).toNatClampNeg) ((σ.1 54 ((((4 * x2) + 1)).toNatClampNeg)) + (if (v_81 (am_put σ 55 (((4 * x2)).toNatClampNeg) ((σ.1 54 (((4 * x2)).toNatClampNeg)) + (if (v_81 σ x2 2) = 0 then (0 : Int32) else x1))) x2 3) = 0 then (0 : Int32) else x1))) 55 ((((4 * x2) + 2)).toNatClampNeg) ((σ.1 54 ((((4 * x2) + 2)).toNatClampNeg)) - (if (v_81 (am_put (am_put σ 55 (((4 * x2)).toNatClampNeg) ((σ.1 54 (((4 * x2)).toNatClampNeg)) + (if (v_81 σ x2 2) = 0 then (0 : Int32) else x1))) 55 ((((4 * x2) + 1)).toNatClampNeg) ((σ.1 54 ((((4 * x2) + 1)).toNatClampNeg)) + (if (v_81 (am_put σ 55 (((4 * x2)).toNatClampNeg) ((σ.1 54 (((4 * x2)).toNatClampNeg)) + (if (v_81 σ x2 2) = 0 then (0 : Int32) else x1))) x2 3) = 0 then (0 : Int32) else x1))) x2 0) = 0 then (0 : Int32) else x1))) x2 1) = 0 then (0 : Int32) else x1))) x1 x2 x2)))))))))))))) ∧ (¬ (x2 < (σ.1 50 1)) → (q_82_325 14 σ x1 (σ.1 55 0) (σ.1 55 1) 0))
set_option maxRecDepth 20000 in
theorem t_82_9 (L : Nat) : ∀ (n : Nat) (σ : am_M) (x1 : Int32) (x2 : Int32) (o3 : Option am_V) (o4 : Option am_V) (o5 : Option am_V), q_82_9 n σ x1 x2 → am_r L 82 9 [some (.inr (.inr (50, none))), some (.inl x1), some (.inl x2), o3, o4, o5] [] σ = some (none, am_sh0 L, (l_82_9 n σ x1 x2)) := by
  intro n
  induction n with
  | zero => intro σ x1 x2 o3 o4 o5 h; exact h.elim
  | succ n ih =>
    intro σ x1 x2 o3 o4 o5 h
    unfold q_82_9 at h
    unfold l_82_9
    refine (e_82_9 _ _ _ _ _ _ _).trans ?_
    refine am_fkVm (fun hc243 => ?_) (fun hc243 => ?_)
    · refine (if_neg ((h.1 hc243).1)).trans ?_
      refine (am_bind_i (s_81 L σ x2 2 ((h.1 hc243).2.1))).trans ?_
      refine (e_82_38 _ _ _ _ _ _ _ _ _ _).trans ?_
      refine Eq.trans (b := am_r L 82 46 [some (.inr (.inr (50, none))), some (.inl x1), some (.inl x2), o3, o4, o5] [.inl (if (v_81 σ x2 2) = 0 then (0 : Int32) else x1), .inl (σ.1 54 (((4 * x2)).toNatClampNeg)), .inl (4 * x2), .inr (.inr (55, none))] σ) ?_ ?_
      · by_cases hc244 : (v_81 σ x2 2) = 0
        · refine (if_pos hc244).trans ?_
          refine Eq.trans (b := am_r L 82 46 [some (.inr (.inr (50, none))), some (.inl x1), some (.inl x2), o3, o4, o5] [.inl 0, .inl (σ.1 54 (((4 * x2)).toNatClampNeg)), .inl (4 * x2), .inr (.inr (55, none))] σ) ?_ ?_
          · refine (e_82_45 _ _ _ _ _ _ _ _ _).trans ?_
            rfl
          · first | with_reducible rfl | simp only [if_pos hc244]
        · refine (if_neg hc244).trans ?_
          refine Eq.trans (b := am_r L 82 46 [some (.inr (.inr (50, none))), some (.inl x1), some (.inl x2), o3, o4, o5] [.inl x1, .inl (σ.1 54 (((4 * x2)).toNatClampNeg)), .inl (4 * x2), .inr (.inr (55, none))] σ) ?_ ?_
          · rfl
          · first | with_reducible rfl | simp only [if_neg hc244]
      refine (e_82_46 _ _ _ _ _ _ _ _ _ _).trans ?_
      refine (if_neg ((h.1 hc243).2.2.1)).trans ?_
      refine (if_neg ((h.1 hc243).2.2.2.1)).trans ?_
      refine (am_bind_i (s_81 L (am_put σ 55 (((4 * x2)).toNatClampNeg) ((σ.1 54 (((4 * x2)).toNatClampNeg)) + (if (v_81 σ x2 2) = 0 then (0 : Int32) else x1))) x2 3 ((h.1 hc243).2.2.2.2.1))).trans ?_
      refine (e_82_73 _ _ _ _ _ _ _ _ _ _).trans ?_
      refine Eq.trans (b := am_r L 82 81 [some (.inr (.inr (50, none))), some (.inl x1), some (.inl x2), o3, o4, o5] [.inl (if (v_81 (am_put σ 55 (((4 * x2)).toNatClampNeg) ((σ.1 54 (((4 * x2)).toNatClampNeg)) + (if (v_81 σ x2 2) = 0 then (0 : Int32) else x1))) x2 3) = 0 then (0 : Int32) else x1), .inl (σ.1 54 ((((4 * x2) + 1)).toNatClampNeg)), .inl ((4 * x2) + 1), .inr (.inr (55, none))] (am_put σ 55 (((4 * x2)).toNatClampNeg) ((σ.1 54 (((4 * x2)).toNatClampNeg)) + (if (v_81 σ x2 2) = 0 then (0 : Int32) else x1)))) ?_ ?_
      · by_cases hc245 : (v_81 (am_put σ 55 (((4 * x2)).toNatClampNeg) ((σ.1 54 (((4 * x2)).toNatClampNeg)) + (if (v_81 σ x2 2) = 0 then (0 : Int32) else x1))) x2 3) = 0
        · refine (if_pos hc245).trans ?_
          refine Eq.trans (b := am_r L 82 81 [some (.inr (.inr (50, none))), some (.inl x1), some (.inl x2), o3, o4, o5] [.inl 0, .inl (σ.1 54 ((((4 * x2) + 1)).toNatClampNeg)), .inl ((4 * x2) + 1), .inr (.inr (55, none))] (am_put σ 55 (((4 * x2)).toNatClampNeg) ((σ.1 54 (((4 * x2)).toNatClampNeg)) + (if (v_81 σ x2 2) = 0 then (0 : Int32) else x1)))) ?_ ?_
          · refine (e_82_80 _ _ _ _ _ _ _ _ _).trans ?_
            rfl
          · first | with_reducible rfl | simp only [if_pos hc245]
        · refine (if_neg hc245).trans ?_
          refine Eq.trans (b := am_r L 82 81 [some (.inr (.inr (50, none))), some (.inl x1), some (.inl x2), o3, o4, o5] [.inl x1, .inl (σ.1 54 ((((4 * x2) + 1)).toNatClampNeg)), .inl ((4 * x2) + 1), .inr (.inr (55, none))] (am_put σ 55 (((4 * x2)).toNatClampNeg) ((σ.1 54 (((4 * x2)).toNatClampNeg)) + (if (v_81 σ x2 2) = 0 then (0 : Int32) else x1)))) ?_ ?_
          · rfl
          · first | with_reducible rfl | simp only [if_neg hc245]
      refine (e_82_81 _ _ _ _ _ _ _ _ _ _).trans ?_
      refine (if_neg ((h.1 hc243).2.2.2.2.2.1)).trans ?_
      refine (if_neg ((h.1 hc243).2.2.2.2.2.2.1)).trans ?_
      refine (am_bind_i (s_81 L (am_put (am_put σ 55 (((4 * x2)).toNatClampNeg) ((σ.1 54 (((4 * x2)).toNatClampNeg)) + (if (v_81 σ x2 2) = 0 then (0 : Int32) else x1))) 55 ((((4 * x2) + 1)).toNatClampNeg) ((σ.1 54 ((((4 * x2) + 1)).toNatClampNeg)) + (if (v_81 (am_put σ 55 (((4 * x2)).toNatClampNeg) ((σ.1 54 (((4 * x2)).toNatClampNeg)) + (if (v_81 σ x2 2) = 0 then (0 : Int32) else x1))) x2 3) = 0 then (0 : Int32) else x1))) x2 0 ((h.1 hc243).2.2.2.2.2.2.2.1))).trans ?_
      refine (e_82_108 _ _ _ _ _ _ _ _ _ _).trans ?_
      refine Eq.trans (b := am_r L 82 116 [some (.inr (.inr (50, none))), some (.inl x1), some (.inl x2), o3, o4, o5] [.inl (if (v_81 (am_put (am_put σ 55 (((4 * x2)).toNatClampNeg) ((σ.1 54 (((4 * x2)).toNatClampNeg)) + (if (v_81 σ x2 2) = 0 then (0 : Int32) else x1))) 55 ((((4 * x2) + 1)).toNatClampNeg) ((σ.1 54 ((((4 * x2) + 1)).toNatClampNeg)) + (if (v_81 (am_put σ 55 (((4 * x2)).toNatClampNeg) ((σ.1 54 (((4 * x2)).toNatClampNeg)) + (if (v_81 σ x2 2) = 0 then (0 : Int32) else x1))) x2 3) = 0 then (0 : Int32) else x1))) x2 0) = 0 then (0 : Int32) else x1), .inl (σ.1 54 ((((4 * x2) + 2)).toNatClampNeg)), .inl ((4 * x2) + 2), .inr (.inr (55, none))] (am_put (am_put σ 55 (((4 * x2)).toNatClampNeg) ((σ.1 54 (((4 * x2)).toNatClampNeg)) + (if (v_81 σ x2 2) = 0 then (0 : Int32) else x1))) 55 ((((4 * x2) + 1)).toNatClampNeg) ((σ.1 54 ((((4 * x2) + 1)).toNatClampNeg)) + (if (v_81 (am_put σ 55 (((4 * x2)).toNatClampNeg) ((σ.1 54 (((4 * x2)).toNatClampNeg)) + (if (v_81 σ x2 2) = 0 then (0 : Int32) else x1))) x2 3) = 0 then (0 : Int32) else x1)))) ?_ ?_
      · by_cases hc246 : (v_81 (am_put (am_put σ 55 (((4 * x2)).toNatClampNeg) ((σ.1 54 (((4 * x2)).toNatClampNeg)) + (if (v_81 σ x2 2) = 0 then (0 : Int32) else x1))) 55 ((((4 * x2) + 1)).toNatClampNeg) ((σ.1 54 ((((4 * x2) + 1)).toNatClampNeg)) + (if (v_81 (am_put σ 55 (((4 * x2)).toNatClampNeg) ((σ.1 54 (((4 * x2)).toNatClampNeg)) + (if (v_81 σ x2 2) = 0 then (0 : Int32) else x1))) x2 3) = 0 then (0 : Int32) else x1))) x2 0) = 0
        · refine (if_pos hc246).trans ?_
          refine Eq.trans (b := am_r L 82 116 [some (.inr (.inr (50, none))), some (.inl x1), some (.inl x2), o3, o4, o5] [.inl 0, .inl (σ.1 54 ((((4 * x2) + 2)).toNatClampNeg)), .inl ((4 * x2) + 2), .inr (.inr (55, none))] (am_put (am_put σ 55 (((4 * x2)).toNatClampNeg) ((σ.1 54 (((4 * x2)).toNatClampNeg)) + (if (v_81 σ x2 2) = 0 then (0 : Int32) else x1))) 55 ((((4 * x2) + 1)).toNatClampNeg) ((σ.1 54 ((((4 * x2) + 1)).toNatClampNeg)) + (if (v_81 (am_put σ 55 (((4 * x2)).toNatClampNeg) ((σ.1 54 (((4 * x2)).toNatClampNeg)) + (if (v_81 σ x2 2) = 0 then (0 : Int32) else x1))) x2 3) = 0 then (0 : Int32) else x1)))) ?_ ?_
          · refine (e_82_115 _ _ _ _ _ _ _ _ _).trans ?_
            rfl
          · first | with_reducible rfl | simp only [if_pos hc246]
        · refine (if_neg hc246).trans ?_
          refine Eq.trans (b := am_r L 82 116 [some (.inr (.inr (50, none))), some (.inl x1), some (.inl x2), o3, o4, o5] [.inl x1, .inl (σ.1 54 ((((4 * x2) + 2)).toNatClampNeg)), .inl ((4 * x2) + 2), .inr (.inr (55, none))] (am_put (am_put σ 55 (((4 * x2)).toNatClampNeg) ((σ.1 54 (((4 * x2)).toNatClampNeg)) + (if (v_81 σ x2 2) = 0 then (0 : Int32) else x1))) 55 ((((4 * x2) + 1)).toNatClampNeg) ((σ.1 54 ((((4 * x2) + 1)).toNatClampNeg)) + (if (v_81 (am_put σ 55 (((4 * x2)).toNatClampNeg) ((σ.1 54 (((4 * x2)).toNatClampNeg)) + (if (v_81 σ x2 2) = 0 then (0 : Int32) else x1))) x2 3) = 0 then (0 : Int32) else x1)))) ?_ ?_
          · rfl
          · first | with_reducible rfl | simp only [if_neg hc246]
      refine (e_82_116 _ _ _ _ _ _ _ _ _ _).trans ?_
      refine (if_neg ((h.1 hc243).2.2.2.2.2.2.2.2.1)).trans ?_
      refine (if_neg ((h.1 hc243).2.2.2.2.2.2.2.2.2.1)).trans ?_
      refine (am_bind_i (s_81 L (am_put (am_put (am_put σ 55 (((4 * x2)).toNatClampNeg) ((σ.1 54 (((4 * x2)).toNatClampNeg)) + (if (v_81 σ x2 2) = 0 then (0 : Int32) else x1))) 55 ((((4 * x2) + 1)).toNatClampNeg) ((σ.1 54 ((((4 * x2) + 1)).toNatClampNeg)) + (if (v_81 (am_put σ 55 (((4 * x2)).toNatClampNeg) ((σ.1 54 (((4 * x2)).toNatClampNeg)) + (if (v_81 σ x2 2) = 0 then (0 : Int32) else x1))) x2 3) = 0 then (0 : Int32) else x1))) 55 ((((4 * x2) + 2)).toNatClampNeg) ((σ.1 54 ((((4 * x2) + 2)).toNatClampNeg)) - (if (v_81 (am_put (am_put σ 55 (((4 * x2)).toNatClampNeg) ((σ.1 54 (((4 * x2)).toNatClampNeg)) + (if (v_81 σ x2 2) = 0 then (0 : Int32) else x1))) 55 ((((4 * x2) + 1)).toNatClampNeg) ((σ.1 54 ((((4 * x2) + 1)).toNatClampNeg)) + (if (v_81 (am_put σ 55 (((4 * x2)).toNatClampNeg) ((σ.1 54 (((4 * x2)).toNatClampNeg)) + (if (v_81 σ x2 2) = 0 then (0 : Int32) else x1))) x2 3) = 0 then (0 : Int32) else x1))) x2 0) = 0 then (0 : Int32) else x1))) x2 1 ((h.1 hc243).2.2.2.2.2.2.2.2.2.2.1))).trans ?_
      refine (e_82_143 _ _ _ _ _ _ _ _ _ _).trans ?_
      refine Eq.trans (b := am_r L 82 151 [some (.inr (.inr (50, none))), some (.inl x1), some (.inl x2), o3, o4, o5] [.inl (if (v_81 (am_put (am_put (am_put σ 55 (((4 * x2)).toNatClampNeg) ((σ.1 54 (((4 * x2)).toNatClampNeg)) + (if (v_81 σ x2 2) = 0 then (0 : Int32) else x1))) 55 ((((4 * x2) + 1)).toNatClampNeg) ((σ.1 54 ((((4 * x2) + 1)).toNatClampNeg)) + (if (v_81 (am_put σ 55 (((4 * x2)).toNatClampNeg) ((σ.1 54 (((4 * x2)).toNatClampNeg)) + (if (v_81 σ x2 2) = 0 then (0 : Int32) else x1))) x2 3) = 0 then (0 : Int32) else x1))) 55 ((((4 * x2) + 2)).toNatClampNeg) ((σ.1 54 ((((4 * x2) + 2)).toNatClampNeg)) - (if (v_81 (am_put (am_put σ 55 (((4 * x2)).toNatClampNeg) ((σ.1 54 (((4 * x2)).toNatClampNeg)) + (if (v_81 σ x2 2) = 0 then (0 : Int32) else x1))) 55 ((((4 * x2) + 1)).toNatClampNeg) ((σ.1 54 ((((4 * x2) + 1)).toNatClampNeg)) + (if (v_81 (am_put σ 55 (((4 * x2)).toNatClampNeg) ((σ.1 54 (((4 * x2)).toNatClampNeg)) + (if (v_81 σ x2 2) = 0 then (0 : Int32) else x1))) x2 3) = 0 then (0 : Int32) else x1))) x2 0) = 0 then (0 : Int32) else x1))) x2 1) = 0 then (0 : Int32) else x1), .inl (σ.1 54 ((((4 * x2) + 3)).toNatClampNeg)), .inl ((4 * x2) + 3), .inr (.inr (55, none))] (am_put (am_put (am_put σ 55 (((4 * x2)).toNatClampNeg) ((σ.1 54 (((4 * x2)).toNatClampNeg)) + (if (v_81 σ x2 2) = 0 then (0 : Int32) else x1))) 55 ((((4 * x2) + 1)).toNatClampNeg) ((σ.1 54 ((((4 * x2) + 1)).toNatClampNeg)) + (if (v_81 (am_put σ 55 (((4 * x2)).toNatClampNeg) ((σ.1 54 (((4 * x2)).toNatClampNeg)) + (if (v_81 σ x2 2) = 0 then (0 : Int32) else x1))) x2 3) = 0 then (0 : Int32) else x1))) 55 ((((4 * x2) + 2)).toNatClampNeg) ((σ.1 54 ((((4 * x2) + 2)).toNatClampNeg)) - (if (v_81 (am_put (am_put σ 55 (((4 * x2)).toNatClampNeg) ((σ.1 54 (((4 * x2)).toNatClampNeg)) + (if (v_81 σ x2 2) = 0 then (0 : Int32) else x1))) 55 ((((4 * x2) + 1)).toNatClampNeg) ((σ.1 54 ((((4 * x2) + 1)).toNatClampNeg)) + (if (v_81 (am_put σ 55 (((4 * x2)).toNatClampNeg) ((σ.1 54 (((4 * x2)).toNatClampNeg)) + (if (v_81 σ x2 2) = 0 then (0 : Int32) else x1))) x2 3) = 0 then (0 : Int32) else x1))) x2 0) = 0 then (0 : Int32) else x1)))) ?_ ?_
      · by_cases hc247 : (v_81 (am_put (am_put (am_put σ 55 (((4 * x2)).toNatClampNeg) ((σ.1 54 (((4 * x2)).toNatClampNeg)) + (if (v_81 σ x2 2) = 0 then (0 : Int32) else x1))) 55 ((((4 * x2) + 1)).toNatClampNeg) ((σ.1 54 ((((4 * x2) + 1)).toNatClampNeg)) + (if (v_81 (am_put σ 55 (((4 * x2)).toNatClampNeg) ((σ.1 54 (((4 * x2)).toNatClampNeg)) + (if (v_81 σ x2 2) = 0 then (0 : Int32) else x1))) x2 3) = 0 then (0 : Int32) else x1))) 55 ((((4 * x2) + 2)).toNatClampNeg) ((σ.1 54 ((((4 * x2) + 2)).toNatClampNeg)) - (if (v_81 (am_put (am_put σ 55 (((4 * x2)).toNatClampNeg) ((σ.1 54 (((4 * x2)).toNatClampNeg)) + (if (v_81 σ x2 2) = 0 then (0 : Int32) else x1))) 55 ((((4 * x2) + 1)).toNatClampNeg) ((σ.1 54 ((((4 * x2) + 1)).toNatClampNeg)) + (if (v_81 (am_put σ 55 (((4 * x2)).toNatClampNeg) ((σ.1 54 (((4 * x2)).toNatClampNeg)) + (if (v_81 σ x2 2) = 0 then (0 : Int32) else x1))) x2 3) = 0 then (0 : Int32) else x1))) x2 0) = 0 then (0 : Int32) else x1))) x2 1) = 0
        · refine (if_pos hc247).trans ?_
          refine Eq.trans (b := am_r L 82 151 [some (.inr (.inr (50, none))), some (.inl x1), some (.inl x2), o3, o4, o5] [.inl 0, .inl (σ.1 54 ((((4 * x2) + 3)).toNatClampNeg)), .inl ((4 * x2) + 3), .inr (.inr (55, none))] (am_put (am_put (am_put σ 55 (((4 * x2)).toNatClampNeg) ((σ.1 54 (((4 * x2)).toNatClampNeg)) + (if (v_81 σ x2 2) = 0 then (0 : Int32) else x1))) 55 ((((4 * x2) + 1)).toNatClampNeg) ((σ.1 54 ((((4 * x2) + 1)).toNatClampNeg)) + (if (v_81 (am_put σ 55 (((4 * x2)).toNatClampNeg) ((σ.1 54 (((4 * x2)).toNatClampNeg)) + (if (v_81 σ x2 2) = 0 then (0 : Int32) else x1))) x2 3) = 0 then (0 : Int32) else x1))) 55 ((((4 * x2) + 2)).toNatClampNeg) ((σ.1 54 ((((4 * x2) + 2)).toNatClampNeg)) - (if (v_81 (am_put (am_put σ 55 (((4 * x2)).toNatClampNeg) ((σ.1 54 (((4 * x2)).toNatClampNeg)) + (if (v_81 σ x2 2) = 0 then (0 : Int32) else x1))) 55 ((((4 * x2) + 1)).toNatClampNeg) ((σ.1 54 ((((4 * x2) + 1)).toNatClampNeg)) + (if (v_81 (am_put σ 55 (((4 * x2)).toNatClampNeg) ((σ.1 54 (((4 * x2)).toNatClampNeg)) + (if (v_81 σ x2 2) = 0 then (0 : Int32) else x1))) x2 3) = 0 then (0 : Int32) else x1))) x2 0) = 0 then (0 : Int32) else x1)))) ?_ ?_
          · refine (e_82_150 _ _ _ _ _ _ _ _ _).trans ?_
            rfl
          · first | with_reducible rfl | simp only [if_pos hc247]
        · refine (if_neg hc247).trans ?_
          refine Eq.trans (b := am_r L 82 151 [some (.inr (.inr (50, none))), some (.inl x1), some (.inl x2), o3, o4, o5] [.inl x1, .inl (σ.1 54 ((((4 * x2) + 3)).toNatClampNeg)), .inl ((4 * x2) + 3), .inr (.inr (55, none))] (am_put (am_put (am_put σ 55 (((4 * x2)).toNatClampNeg) ((σ.1 54 (((4 * x2)).toNatClampNeg)) + (if (v_81 σ x2 2) = 0 then (0 : Int32) else x1))) 55 ((((4 * x2) + 1)).toNatClampNeg) ((σ.1 54 ((((4 * x2) + 1)).toNatClampNeg)) + (if (v_81 (am_put σ 55 (((4 * x2)).toNatClampNeg) ((σ.1 54 (((4 * x2)).toNatClampNeg)) + (if (v_81 σ x2 2) = 0 then (0 : Int32) else x1))) x2 3) = 0 then (0 : Int32) else x1))) 55 ((((4 * x2) + 2)).toNatClampNeg) ((σ.1 54 ((((4 * x2) + 2)).toNatClampNeg)) - (if (v_81 (am_put (am_put σ 55 (((4 * x2)).toNatClampNeg) ((σ.1 54 (((4 * x2)).toNatClampNeg)) + (if (v_81 σ x2 2) = 0 then (0 : Int32) else x1))) 55 ((((4 * x2) + 1)).toNatClampNeg) ((σ.1 54 ((((4 * x2) + 1)).toNatClampNeg)) + (if (v_81 (am_put σ 55 (((4 * x2)).toNatClampNeg) ((σ.1 54 (((4 * x2)).toNatClampNeg)) + (if (v_81 σ x2 2) = 0 then (0 : Int32) else x1))) x2 3) = 0 then (0 : Int32) else x1))) x2 0) = 0 then (0 : Int32) else x1)))) ?_ ?_
          · rfl
          · first | with_reducible rfl | simp only [if_neg hc247]
      refine (e_82_151 _ _ _ _ _ _ _ _ _ _).trans ?_
      refine (if_neg ((h.1 hc243).2.2.2.2.2.2.2.2.2.2.2.1)).trans ?_
      exact t_82_155 L (l_82_9 n) (q_82_9 n) ih 14 (am_put (am_put (am_put (am_put σ 55 (((4 * x2)).toNatClampNeg) ((σ.1 54 (((4 * x2)).toNatClampNeg)) + (if (v_81 σ x2 2) = 0 then (0 : Int32) else x1))) 55 ((((4 * x2) + 1)).toNatClampNeg) ((σ.1 54 ((((4 * x2) + 1)).toNatClampNeg)) + (if (v_81 (am_put σ 55 (((4 * x2)).toNatClampNeg) ((σ.1 54 (((4 * x2)).toNatClampNeg)) + (if (v_81 σ x2 2) = 0 then (0 : Int32) else x1))) x2 3) = 0 then (0 : Int32) else x1))) 55 ((((4 * x2) + 2)).toNatClampNeg) ((σ.1 54 ((((4 * x2) + 2)).toNatClampNeg)) - (if (v_81 (am_put (am_put σ 55 (((4 * x2)).toNatClampNeg) ((σ.1 54 (((4 * x2)).toNatClampNeg)) + (if (v_81 σ x2 2) = 0 then (0 : Int32) else x1))) 55 ((((4 * x2) + 1)).toNatClampNeg) ((σ.1 54 ((((4 * x2) + 1)).toNatClampNeg)) + (if (v_81 (am_put σ 55 (((4 * x2)).toNatClampNeg) ((σ.1 54 (((4 * x2)).toNatClampNeg)) + (if (v_81 σ x2 2) = 0 then (0 : Int32) else x1))) x2 3) = 0 then (0 : Int32) else x1))) x2 0) = 0 then (0 : Int32) else x1))) 55 ((((4 * x2) + 3)).toNatClampNeg) ((σ.1 54 ((((4 * x2) + 3)).toNatClampNeg)) - (if (v_81 (am_put (am_put (am_put σ 55 (((4 * x2)).toNatClampNeg) ((σ.1 54 (((4 * x2)).toNatClampNeg)) + (if (v_81 σ x2 2) = 0 then (0 : Int32) else x1))) 55 ((((4 * x2) + 1)).toNatClampNeg) ((σ.1 54 ((((4 * x2) + 1)).toNatClampNeg)) + (if (v_81 (am_put σ 55 (((4 * x2)).toNatClampNeg) ((σ.1 54 (((4 * x2)).toNatClampNeg)) + (if (v_81 σ x2 2) = 0 then (0 : Int32) else x1))) x2 3) = 0 then (0 : Int32) else x1))) 55 ((((4 * x2) + 2)).toNatClampNeg) ((σ.1 54 ((((4 * x2) + 2)).toNatClampNeg)) - (if (v_81 (am_put (am_put σ 55 (((4 * x2)).toNatClampNeg) ((σ.1 54 (((4 * x2)).toNatClampNeg)) + (if (v_81 σ x2 2) = 0 then (0 : Int32) else x1))) 55 ((((4 * x2) + 1)).toNatClampNeg) ((σ.1 54 ((((4 * x2) + 1)).toNatClampNeg)) + (if (v_81 (am_put σ 55 (((4 * x2)).toNatClampNeg) ((σ.1 54 (((4 * x2)).toNatClampNeg)) + (if (v_81 σ x2 2) = 0 then (0 : Int32) else x1))) x2 3) = 0 then (0 : Int32) else x1))) x2 0) = 0 then (0 : Int32) else x1))) x2 1) = 0 then (0 : Int32) else x1))) x1 x2 x2 o4 o5 ((h.1 hc243).2.2.2.2.2.2.2.2.2.2.2.2)
    · refine (e_82_308 _ _ _ _ _ _ _).trans ?_
      refine (if_neg (by decide)).trans ?_
      refine (if_neg (by decide)).trans ?_
      exact t_82_325 L 14 σ x1 (σ.1 55 0) (σ.1 55 1) 0 o5 ((h.2 hc243))
def p_82 (σ : am_M) : Prop := q_82_9 14 σ ((σ.1 50 2) / 2) 0
def f_82 (σ : am_M) : am_M := (l_82_9 14 σ ((σ.1 50 2) / 2) 0)
set_option maxRecDepth 20000 in
theorem sf_82 (L : Nat) (σ : am_M) (h : p_82 σ) : am_r L 82 0 [some (.inr (.inr (50, none))), none, none, none, none, none] [] σ = some (none, am_sh0 L, (f_82 σ)) := by
  unfold p_82 at h
  unfold f_82
  refine (e_82_0 _ _).trans ?_
  exact t_82_9 L 14 σ ((σ.1 50 2) / 2) 0 none none none h
def w_82 (σ : am_M) : am_M := f_82 σ
theorem s_82 (L : Nat) (σ : am_M) (h : p_82 σ) : am_r L 82 0 [some (.inr (.inr (50, none))), none, none, none, none, none] [] σ = some (none, am_sh0 L, w_82 σ) := sf_82 L σ h
