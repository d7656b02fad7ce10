-- 110: X5_mayTurn
def v_110 (σ : am_M) (x1 : Int32) (x2 : Int32) : Int32 := (if (v_88 σ x1) = 0 then (0 : Int32) else (if (v_94 σ x2) = 0 then (0 : Int32) else (if ((x1 >>> (x2 &&& 31)) &&& 1) = 0 then (1 : Int32) else 0)))
set_option maxRecDepth 20000 in
theorem s_110 (L : Nat) (σ : am_M) (x1 : Int32) (x2 : Int32) : am_r L 110 0 [some (.inr (.inr (50, none))), some (.inl x1), some (.inl x2)] [] σ = some (some (.inl (v_110 σ x1 x2)), am_sh0 L, σ) := by
  unfold v_110
  refine (e_110_0 _ _ _ _).trans ?_
  refine (am_bind_i (s_88 L σ x1)).trans ?_
  refine (e_110_5 _ _ _ _ _).trans ?_
  refine Eq.trans (b := am_r L 110 29 [some (.inr (.inr (50, none))), some (.inl x1), some (.inl x2)] [.inl (if (v_88 σ x1) = 0 then (0 : Int32) else (if (v_94 σ x2) = 0 then (0 : Int32) else (if ((x1 >>> (x2 &&& 31)) &&& 1) = 0 then (1 : Int32) else 0)))] σ) ?_ ?_
  · by_cases hc422 : (v_88 σ x1) = 0
    · simp only [if_pos hc422]
      all_goals
        refine (e_110_28 _ _ _ _).trans ?_
        rfl
    · simp only [if_neg hc422]
      all_goals
        refine (am_bind_i (s_94 L σ x2)).trans ?_
        refine (e_110_13 _ _ _ _ _).trans ?_
        refine Eq.trans (b := am_r L 110 29 [some (.inr (.inr (50, none))), some (.inl x1), some (.inl x2)] [.inl (if (v_94 σ x2) = 0 then (0 : Int32) else (if ((x1 >>> (x2 &&& 31)) &&& 1) = 0 then (1 : Int32) else 0))] σ) ?_ ?_
        · by_cases hc423 : (v_94 σ x2) = 0
          · simp only [if_pos hc423]
            all_goals
              refine (e_110_28 _ _ _ _).trans ?_
              rfl
          · simp only [if_neg hc423]
            all_goals
              refine Eq.trans (b := am_r L 110 29 [some (.inr (.inr (50, none))), some (.inl x1), some (.inl x2)] [.inl (if ((x1 >>> (x2 &&& 31)) &&& 1) = 0 then (1 : Int32) else 0)] σ) ?_ ?_
              · by_cases hc424 : ((x1 >>> (x2 &&& 31)) &&& 1) = 0
                · simp only [if_pos hc424]
                  all_goals
                    rfl
                · simp only [if_neg hc424]
                  all_goals
                    refine (e_110_28 _ _ _ _).trans ?_
                    rfl
              rfl
        rfl
  refine (e_110_29 _ _ _ _ _).trans ?_
  refine (if_pos (am_01 (Or.inl rfl) (am_01 (Or.inl rfl) (am_01 (Or.inr rfl) (Or.inl rfl))))).trans ?_
  rfl
theorem b_110 (σ : am_M) (x1 : Int32) (x2 : Int32) : v_110 σ x1 x2 = 0 ∨ v_110 σ x1 x2 = 1 := (am_01 (Or.inl rfl) (am_01 (Or.inl rfl) (am_01 (Or.inr rfl) (Or.inl rfl))))
-- 111: X5_clear
def p_111 (σ : am_M) (x1 : Int32) (x2 : Int32) : Prop := ¬ ((v_110 (am_put σ 50 0 0) x1 x2) = 0) → ((p_90 (am_put σ 50 0 0) x1) ∧ (p_109 (w_90 (am_put σ 50 0 0) x1) x2))
def v_111 (σ : am_M) (x1 : Int32) (x2 : Int32) : Int32 := (if (v_110 (am_put σ 50 0 0) x1 x2) = 0 then (-1) else (if (v_109 (w_90 (am_put σ 50 0 0) x1) x2) = 0 then (0 : Int32) else 1))
def w_111 (σ : am_M) (x1 : Int32) (x2 : Int32) : am_M := (if (v_110 (am_put σ 50 0 0) x1 x2) = 0 then (am_put σ 50 0 0) else (w_109 (w_90 (am_put σ 50 0 0) x1) x2))
set_option maxRecDepth 20000 in
theorem s_111 (L : Nat) (σ : am_M) (x1 : Int32) (x2 : Int32) (h : p_111 σ x1 x2) : am_r L 111 0 [some (.inr (.inr (50, none))), some (.inl x1), some (.inl x2)] [] σ = some (some (.inl (v_111 σ x1 x2)), am_sh0 L, w_111 σ x1 x2) := by
  unfold p_111 at h
  unfold v_111 w_111
  refine (e_111_0 _ _ _ _).trans ?_
  refine (am_bind_i (s_110 L (am_put σ 50 0 0) x1 x2)).trans ?_
  refine (e_111_11 _ _ _ _ _).trans ?_
  by_cases hc425 : (v_110 (am_put σ 50 0 0) x1 x2) = 0
  · simp only [if_pos hc425]
    all_goals
      rfl
  · simp only [if_neg hc425]
    all_goals
      refine (e_111_16 _ _ _ _).trans ?_
      refine (am_bind_v (s_90 L (am_put σ 50 0 0) x1 ((h hc425).1))).trans ?_
      refine (e_111_21 _ _ _ _).trans ?_
      refine (am_bind_i (s_109 L (w_90 (am_put σ 50 0 0) x1) x2 ((h hc425).2))).trans ?_
      refine (e_111_26 _ _ _ _ _).trans ?_
      refine Eq.trans (b := am_r L 111 34 [some (.inr (.inr (50, none))), some (.inl x1), some (.inl x2)] [.inl (if (v_109 (w_90 (am_put σ 50 0 0) x1) x2) = 0 then (0 : Int32) else 1)] (w_109 (w_90 (am_put σ 50 0 0) x1) x2)) ?_ ?_
      · by_cases hc426 : (v_109 (w_90 (am_put σ 50 0 0) x1) x2) = 0
        · simp only [if_pos hc426]
          all_goals
            refine (e_111_33 _ _ _ _).trans ?_
            rfl
        · simp only [if_neg hc426]
          all_goals
            rfl
      refine (e_111_34 _ _ _ _ _).trans ?_
      rfl
-- 112: X5_edgeOf
def l_112_19 (k8 : Int32 → Int32 → Int32 → Int32) : Nat → am_M → Int32 → Int32 → Int32 → Int32 → Int32
  | 0, _, _, _, _, _ => 0
  | n + 1, σ, x1, x2, x3, x4 => (if x4 < 4 then (if (v_81 σ x3 x4) = 0 then (if (if (if (x4 - x4 / 2 * 2) = 0 then (1 : Int32) else 0) = 0 then (((σ.1 54 ((((4 * x3) + 2)).toNatClampNeg)) - (σ.1 54 (((4 * x3)).toNatClampNeg))) : Int32) else ((σ.1 54 ((((4 * x3) + 3)).toNatClampNeg)) - (σ.1 54 ((((4 * x3) + 1)).toNatClampNeg)))) < (σ.1 50 3) then (l_112_19 k8 n σ x1 x2 x3 (x4 + 1)) else (if (if (if (x4 - x4 / 2 * 2) = 0 then (1 : Int32) else 0) = 0 then ((v_105a57 σ (3 * x3)) : Int32) else (v_105a58 σ (3 * x3))) = x2 then ((4 * x3) + x4) else (l_112_19 k8 n σ x1 x2 x3 (x4 + 1)))) else (l_112_19 k8 n σ x1 x2 x3 (x4 + 1))) else (k8 x1 x2 (x3 + 1)))
def q_112_19 (c8 : Int32 → Int32 → Int32 → Prop) : Nat → am_M → Int32 → Int32 → Int32 → Int32 → Prop
  | 0, _, _, _, _, _ => False
  | n + 1, σ, x1, x2, x3, x4 => ((x4 < 4) → (((((if (x4 - x4 / 2 * 2) = 0 then (1 : Int32) else 0) = 0) → ((¬ (((4 * x3) + 2) < 0 ∨ 52 ≤ (((4 * x3) + 2)).toNatClampNeg)) ∧ (¬ ((4 * x3) < 0 ∨ 52 ≤ ((4 * x3)).toNatClampNeg)))) ∧ (¬ ((if (x4 - x4 / 2 * 2) = 0 then (1 : Int32) else 0) = 0) → ((¬ (((4 * x3) + 3) < 0 ∨ 52 ≤ (((4 * x3) + 3)).toNatClampNeg)) ∧ (¬ (((4 * x3) + 1) < 0 ∨ 52 ≤ (((4 * x3) + 1)).toNatClampNeg))))) ∧ (((((if (x4 - x4 / 2 * 2) = 0 then (1 : Int32) else 0) = 0) → (p_105a57 σ (3 * x3))) ∧ (¬ ((if (x4 - x4 / 2 * 2) = 0 then (1 : Int32) else 0) = 0) → (p_105a58 σ (3 * x3)))) ∧ ((p_81 σ x3 x4) ∧ ((((v_81 σ x3 x4) = 0) → ((((if (if (x4 - x4 / 2 * 2) = 0 then (1 : Int32) else 0) = 0 then (((σ.1 54 ((((4 * x3) + 2)).toNatClampNeg)) - (σ.1 54 (((4 * x3)).toNatClampNeg))) : Int32) else ((σ.1 54 ((((4 * x3) + 3)).toNatClampNeg)) - (σ.1 54 ((((4 * x3) + 1)).toNatClampNeg)))) < (σ.1 50 3)) → (q_112_19 c8 n σ x1 x2 x3 (x4 + 1))) ∧ (¬ ((if (if (x4 - x4 / 2 * 2) = 0 then (1 : Int32) else 0) = 0 then (((σ.1 54 ((((4 * x3) + 2)).toNatClampNeg)) - (σ.1 54 (((4 * x3)).toNatClampNeg))) : Int32) else ((σ.1 54 ((((4 * x3) + 3)).toNatClampNeg)) - (σ.1 54 ((((4 * x3) + 1)).toNatClampNeg)))) < (σ.1 50 3)) → (¬ ((if (if (x4 - x4 / 2 * 2) = 0 then (1 : Int32) else 0) = 0 then ((v_105a57 σ (3 * x3)) : Int32) else (v_105a58 σ (3 * x3))) = x2) → (q_112_19 c8 n σ x1 x2 x3 (x4 + 1)))))) ∧ (¬ ((v_81 σ x3 x4) = 0) → (q_112_19 c8 n σ x1 x2 x3 (x4 + 1)))))))) ∧ (¬ (x4 < 4) → (c8 x1 x2 (x3 + 1)))
set_option maxRecDepth 20000 in
theorem t_112_19 (L : Nat) (σ : am_M) (k8 : Int32 → Int32 → Int32 → Int32) (c8 : Int32 → Int32 → Int32 → Prop) (hk8 : ∀ (x1 : Int32) (x2 : Int32) (x3 : Int32) (o4 : Option am_V) (o5 : Option am_V) (o6 : Option am_V) (o7 : Option am_V), c8 x1 x2 x3 → am_r L 112 8 [some (.inr (.inr (50, none))), some (.inl x1), some (.inl x2), some (.inl x3), o4, o5, o6, o7] [] σ = some (some (.inl (k8 x1 x2 x3)), am_sh0 L, σ)) : ∀ (n : Nat) (x1 : Int32) (x2 : Int32) (x3 : Int32) (x4 : Int32) (o5 : Option am_V) (o6 : Option am_V) (o7 : Option am_V), q_112_19 c8 n σ x1 x2 x3 x4 → am_r L 112 19 [some (.inr (.inr (50, none))), some (.inl x1), some (.inl x2), some (.inl x3), some (.inl x4), o5, o6, o7] [] σ = some (some (.inl (l_112_19 k8 n σ x1 x2 x3 x4)), am_sh0 L, σ) := by
  intro n
  induction n with
  | zero => intro x1 x2 x3 x4 o5 o6 o7 h; exact h.elim
  | succ n ih =>
    intro x1 x2 x3 x4 o5 o6 o7 h
    unfold q_112_19 at h
    unfold l_112_19
    refine (e_112_19 _ _ _ _ _ _ _ _ _).trans ?_
    by_cases hc427 : x4 < 4
    · simp only [if_pos hc427]
      all_goals
        refine Eq.trans (b := am_r L 112 37 [some (.inr (.inr (50, none))), some (.inl x1), some (.inl x2), some (.inl x3), some (.inl x4), o5, o6, o7] [.inl (if (x4 - x4 / 2 * 2) = 0 then (1 : Int32) else 0)] σ) ?_ ?_
        · by_cases hc428 : (x4 - x4 / 2 * 2) = 0
          · simp only [if_pos hc428]
            all_goals
              rfl
          · simp only [if_neg hc428]
            all_goals
              refine (e_112_36 _ _ _ _ _ _ _ _ _).trans ?_
              rfl
        refine (e_112_37 _ _ _ _ _ _ _ _ _ _).trans ?_
        refine Eq.trans (b := am_r L 112 87 [some (.inr (.inr (50, none))), some (.inl x1), some (.inl x2), some (.inl x3), some (.inl x4), some (.inl (if (x4 - x4 / 2 * 2) = 0 then (1 : Int32) else 0)), o6, o7] [.inl (if (if (x4 - x4 / 2 * 2) = 0 then (1 : Int32) else 0) = 0 then (((σ.1 54 ((((4 * x3) + 2)).toNatClampNeg)) - (σ.1 54 (((4 * x3)).toNatClampNeg))) : Int32) else ((σ.1 54 ((((4 * x3) + 3)).toNatClampNeg)) - (σ.1 54 ((((4 * x3) + 1)).toNatClampNeg))))] σ) ?_ ?_
        · by_cases hc429 : (if (x4 - x4 / 2 * 2) = 0 then (1 : Int32) else 0) = 0
          · simp only [if_pos hc429]
            all_goals
              refine (e_112_68 _ _ _ _ _ _ _ _ _).trans ?_
              refine (if_neg (((h.1 hc427).1.1 hc429).1)).trans ?_
              refine (if_neg (((h.1 hc427).1.1 hc429).2)).trans ?_
              rfl
          · simp only [if_neg hc429]
            all_goals
              refine (if_neg (((h.1 hc427).1.2 hc429).1)).trans ?_
              refine (if_neg (((h.1 hc427).1.2 hc429).2)).trans ?_
              rfl
        refine (e_112_87 _ _ _ _ _ _ _ _ _ _).trans ?_
        refine Eq.trans (b := am_r L 112 117 [some (.inr (.inr (50, none))), some (.inl x1), some (.inl x2), some (.inl x3), some (.inl x4), some (.inl (if (x4 - x4 / 2 * 2) = 0 then (1 : Int32) else 0)), some (.inl (if (if (x4 - x4 / 2 * 2) = 0 then (1 : Int32) else 0) = 0 then (((σ.1 54 ((((4 * x3) + 2)).toNatClampNeg)) - (σ.1 54 (((4 * x3)).toNatClampNeg))) : Int32) else ((σ.1 54 ((((4 * x3) + 3)).toNatClampNeg)) - (σ.1 54 ((((4 * x3) + 1)).toNatClampNeg))))), o7] [.inl (if (if (x4 - x4 / 2 * 2) = 0 then (1 : Int32) else 0) = 0 then ((v_105a57 σ (3 * x3)) : Int32) else (v_105a58 σ (3 * x3)))] σ) ?_ ?_
        · by_cases hc430 : (if (x4 - x4 / 2 * 2) = 0 then (1 : Int32) else 0) = 0
          · simp only [if_pos hc430]
            all_goals
              refine (e_112_107 _ _ _ _ _ _ _ _ _).trans ?_
              refine (am_bind_i (s_105a57 L σ (3 * x3) (((h.1 hc427).2.1.1 hc430)))).trans ?_
              rfl
          · simp only [if_neg hc430]
            all_goals
              refine (am_bind_i (s_105a58 L σ (3 * x3) (((h.1 hc427).2.1.2 hc430)))).trans ?_
              refine (e_112_104 _ _ _ _ _ _ _ _ _ _).trans ?_
              rfl
        refine (e_112_117 _ _ _ _ _ _ _ _ _ _).trans ?_
        refine (am_bind_i (s_81 L σ x3 x4 ((h.1 hc427).2.2.1))).trans ?_
        refine (e_112_126 _ _ _ _ _ _ _ _ _ _).trans ?_
        by_cases hc431 : (v_81 σ x3 x4) = 0
        · simp only [if_pos hc431]
          all_goals
            by_cases hc432 : (if (if (x4 - x4 / 2 * 2) = 0 then (1 : Int32) else 0) = 0 then (((σ.1 54 ((((4 * x3) + 2)).toNatClampNeg)) - (σ.1 54 (((4 * x3)).toNatClampNeg))) : Int32) else ((σ.1 54 ((((4 * x3) + 3)).toNatClampNeg)) - (σ.1 54 ((((4 * x3) + 1)).toNatClampNeg)))) < (σ.1 50 3)
            · simp only [if_pos hc432]
              all_goals
                refine (e_112_151 _ _ _ _ _ _ _ _ _).trans ?_
                exact ih x1 x2 x3 (x4 + 1) (some (.inl (if (x4 - x4 / 2 * 2) = 0 then (1 : Int32) else 0))) (some (.inl (if (if (x4 - x4 / 2 * 2) = 0 then (1 : Int32) else 0) = 0 then (((σ.1 54 ((((4 * x3) + 2)).toNatClampNeg)) - (σ.1 54 (((4 * x3)).toNatClampNeg))) : Int32) else ((σ.1 54 ((((4 * x3) + 3)).toNatClampNeg)) - (σ.1 54 ((((4 * x3) + 1)).toNatClampNeg)))))) (some (.inl (if (if (x4 - x4 / 2 * 2) = 0 then (1 : Int32) else 0) = 0 then ((v_105a57 σ (3 * x3)) : Int32) else (v_105a58 σ (3 * x3))))) ((((h.1 hc427).2.2.2.1 hc431).1 hc432))
            · simp only [if_neg hc432]
              all_goals
                by_cases hc433 : (if (if (x4 - x4 / 2 * 2) = 0 then (1 : Int32) else 0) = 0 then ((v_105a57 σ (3 * x3)) : Int32) else (v_105a58 σ (3 * x3))) = x2
                · simp only [if_pos hc433]
                  all_goals
                    rfl
                · simp only [if_neg hc433]
                  all_goals
                    refine (e_112_151 _ _ _ _ _ _ _ _ _).trans ?_
                    exact ih x1 x2 x3 (x4 + 1) (some (.inl (if (x4 - x4 / 2 * 2) = 0 then (1 : Int32) else 0))) (some (.inl (if (if (x4 - x4 / 2 * 2) = 0 then (1 : Int32) else 0) = 0 then (((σ.1 54 ((((4 * x3) + 2)).toNatClampNeg)) - (σ.1 54 (((4 * x3)).toNatClampNeg))) : Int32) else ((σ.1 54 ((((4 * x3) + 3)).toNatClampNeg)) - (σ.1 54 ((((4 * x3) + 1)).toNatClampNeg)))))) (some (.inl (if (if (x4 - x4 / 2 * 2) = 0 then (1 : Int32) else 0) = 0 then ((v_105a57 σ (3 * x3)) : Int32) else (v_105a58 σ (3 * x3))))) (((((h.1 hc427).2.2.2.1 hc431).2 hc432) hc433))
        · simp only [if_neg hc431]
          all_goals
            refine (e_112_151 _ _ _ _ _ _ _ _ _).trans ?_
            exact ih x1 x2 x3 (x4 + 1) (some (.inl (if (x4 - x4 / 2 * 2) = 0 then (1 : Int32) else 0))) (some (.inl (if (if (x4 - x4 / 2 * 2) = 0 then (1 : Int32) else 0) = 0 then (((σ.1 54 ((((4 * x3) + 2)).toNatClampNeg)) - (σ.1 54 (((4 * x3)).toNatClampNeg))) : Int32) else ((σ.1 54 ((((4 * x3) + 3)).toNatClampNeg)) - (σ.1 54 ((((4 * x3) + 1)).toNatClampNeg)))))) (some (.inl (if (if (x4 - x4 / 2 * 2) = 0 then (1 : Int32) else 0) = 0 then ((v_105a57 σ (3 * x3)) : Int32) else (v_105a58 σ (3 * x3))))) (((h.1 hc427).2.2.2.2 hc431))
    · simp only [if_neg hc427]
      all_goals
        refine (e_112_157 _ _ _ _ _ _ _ _ _).trans ?_
        exact hk8 x1 x2 (x3 + 1) (some (.inl x4)) o5 o6 o7 ((h.2 hc427))
def l_112_8 : Nat → am_M → Int32 → Int32 → Int32 → Int32
  | 0, _, _, _, _ => 0
  | n + 1, σ, x1, x2, x3 => (if x3 < (σ.1 50 1) then (l_112_19 (l_112_8 n σ) 14 σ x1 x2 x3 0) else (-1))
def q_112_8 : Nat → am_M → Int32 → Int32 → Int32 → Prop
  | 0, _, _, _, _ => False
  | n + 1, σ, x1, x2, x3 => (x3 < (σ.1 50 1)) → (q_112_19 (q_112_8 n σ) 14 σ x1 x2 x3 0)
set_option maxRecDepth 20000 in
theorem t_112_8 (L : Nat) (σ : am_M) : ∀ (n : Nat) (x1 : Int32) (x2 : Int32) (x3 : Int32) (o4 : Option am_V) (o5 : Option am_V) (o6 : Option am_V) (o7 : Option am_V), q_112_8 n σ x1 x2 x3 → am_r L 112 8 [some (.inr (.inr (50, none))), some (.inl x1), some (.inl x2), some (.inl x3), o4, o5, o6, o7] [] σ = some (some (.inl (l_112_8 n σ x1 x2 x3)), am_sh0 L, σ) := by
  intro n
  induction n with
  | zero => intro x1 x2 x3 o4 o5 o6 o7 h; exact h.elim
  | succ n ih =>
    intro x1 x2 x3 o4 o5 o6 o7 h
    unfold q_112_8 at h
    unfold l_112_8
    refine (e_112_8 _ _ _ _ _ _ _ _ _).trans ?_
    by_cases hc434 : x3 < (σ.1 50 1)
    · simp only [if_pos hc434]
      all_goals
        exact t_112_19 L σ (l_112_8 n σ) (q_112_8 n σ) ih 14 x1 x2 x3 0 o5 o6 o7 ((h hc434))
    · simp only [if_neg hc434]
      all_goals
        refine (e_112_163 _ _ _ _ _ _ _ _ _).trans ?_
        rfl
def p_112 (σ : am_M) (x1 : Int32) : Prop := (p_106 σ x1) ∧ (q_112_8 14 σ x1 (v_106 σ x1) 0)
def f_112 (σ : am_M) (x1 : Int32) : Int32 := (l_112_8 14 σ x1 (v_106 σ x1) 0)
set_option maxRecDepth 20000 in
theorem sf_112 (L : Nat) (σ : am_M) (x1 : Int32) (h : p_112 σ x1) : am_r L 112 0 [some (.inr (.inr (50, none))), some (.inl x1), none, none, none, none, none, none] [] σ = some (some (.inl (f_112 σ x1)), am_sh0 L, σ) := by
  unfold p_112 at h
  unfold f_112
  refine (e_112_0 _ _ _).trans ?_
  refine (am_bind_i (s_106 L σ x1 h.1)).trans ?_
  refine (e_112_5 _ _ _ _).trans ?_
  exact t_112_8 L σ 14 x1 (v_106 σ x1) 0 none none none none h.2
def v_112 (σ : am_M) (x1 : Int32) : Int32 := f_112 σ x1
theorem s_112 (L : Nat) (σ : am_M) (x1 : Int32) (h : p_112 σ x1) : am_r L 112 0 [some (.inr (.inr (50, none))), some (.inl x1), none, none, none, none, none, none] [] σ = some (some (.inl (v_112 σ x1)), am_sh0 L, σ) := sf_112 L σ x1 h
-- 113: X5_edge
def p_113 (σ : am_M) (x1 : Int32) (x2 : Int32) : Prop := ¬ ((v_110 (am_put σ 50 0 0) x1 x2) = 0) → ((p_90 (am_put σ 50 0 0) x1) ∧ (p_112 (w_90 (am_put σ 50 0 0) x1) x2))
def v_113 (σ : am_M) (x1 : Int32) (x2 : Int32) : Int32 := (if (v_110 (am_put σ 50 0 0) x1 x2) = 0 then (-1) else (v_112 (w_90 (am_put σ 50 0 0) x1) x2))
def w_113 (σ : am_M) (x1 : Int32) (x2 : Int32) : am_M := (if (v_110 (am_put σ 50 0 0) x1 x2) = 0 then (am_put σ 50 0 0) else (w_90 (am_put σ 50 0 0) x1))
set_option maxRecDepth 20000 in
theorem s_113 (L : Nat) (σ : am_M) (x1 : Int32) (x2 : Int32) (h : p_113 σ x1 x2) : am_r L 113 0 [some (.inr (.inr (50, none))), some (.inl x1), some (.inl x2)] [] σ = some (some (.inl (v_113 σ x1 x2)), am_sh0 L, w_113 σ x1 x2) := by
  unfold p_113 at h
  unfold v_113 w_113
  refine (e_113_0 _ _ _ _).trans ?_
  refine (am_bind_i (s_110 L (am_put σ 50 0 0) x1 x2)).trans ?_
  refine (e_113_11 _ _ _ _ _).trans ?_
  by_cases hc435 : (v_110 (am_put σ 50 0 0) x1 x2) = 0
  · simp only [if_pos hc435]
    all_goals
      rfl
  · simp only [if_neg hc435]
    all_goals
      refine (e_113_16 _ _ _ _).trans ?_
      refine (am_bind_v (s_90 L (am_put σ 50 0 0) x1 ((h hc435).1))).trans ?_
      refine (e_113_21 _ _ _ _).trans ?_
      refine (am_bind_i (s_112 L (w_90 (am_put σ 50 0 0) x1) x2 ((h hc435).2))).trans ?_
      refine (e_113_26 _ _ _ _ _).trans ?_
      rfl
-- 114: X5_know
def l_114_56 (k29 : am_M → Int32 → Int32 → am_M) : Nat → am_M → Int32 → Int32 → Int32 → Int32 → am_M
  | 0, σ, x1, x2, x3, x4 => σ
  | n + 1, σ, x1, x2, x3, x4 => (if x4 < (σ.1 50 1) then (if x3 = 0 then (if ((x2 >>> (x4 &&& 31)) &&& 1) = 0 then (if (σ.1 61 ((((x2 ||| (1 <<< (x4 &&& 31))) / 2)).toNatClampNeg)) = 0 then (l_114_56 k29 n σ x1 x2 0 (x4 + 1)) else (l_114_56 k29 n (w_109 σ x4) x1 x2 (if (v_109 σ x4) = 0 then (0 : Int32) else (if (v_112 (w_109 σ x4) x4) = (-1) then (0 : Int32) else 1)) (x4 + 1))) else (l_114_56 k29 n σ x1 x2 0 (x4 + 1))) else (k29 (am_put (am_put σ 61 (((x2 / 2)).toNatClampNeg) (vp_nar .boolean x3)) 50 17 ((σ.1 50 17) + (if x3 = 0 then (0 : Int32) else 1))) x1 (x2 + (-2)))) else (k29 (am_put (am_put σ 61 (((x2 / 2)).toNatClampNeg) (vp_nar .boolean x3)) 50 17 ((σ.1 50 17) + (if x3 = 0 then (0 : Int32) else 1))) x1 (x2 + (-2))))
def q_114_56 (c29 : am_M → Int32 → Int32 → Prop) : Nat → am_M → Int32 → Int32 → Int32 → Int32 → Prop
  | 0, _, _, _, _, _ => False
  | n + 1, σ, x1, x2, x3, x4 => ((x4 < (σ.1 50 1)) → (((x3 = 0) → (((((x2 >>> (x4 &&& 31)) &&& 1) = 0) → ((¬ (((x2 ||| (1 <<< (x4 &&& 31))) / 2) < 0 ∨ 4096 ≤ (((x2 ||| (1 <<< (x4 &&& 31))) / 2)).toNatClampNeg)) ∧ ((((σ.1 61 ((((x2 ||| (1 <<< (x4 &&& 31))) / 2)).toNatClampNeg)) = 0) → (q_114_56 c29 n σ x1 x2 0 (x4 + 1))) ∧ (¬ ((σ.1 61 ((((x2 ||| (1 <<< (x4 &&& 31))) / 2)).toNatClampNeg)) = 0) → ((p_109 σ x4) ∧ ((¬ ((v_109 σ x4) = 0) → (p_112 (w_109 σ x4) x4)) ∧ (q_114_56 c29 n (w_109 σ x4) x1 x2 (if (v_109 σ x4) = 0 then (0 : Int32) else (if (v_112 (w_109 σ x4) x4) = (-1) then (0 : Int32) else 1)) (x4 + 1)))))))) ∧ (¬ (((x2 >>> (x4 &&& 31)) &&& 1) = 0) → (q_114_56 c29 n σ x1 x2 0 (x4 + 1))))) ∧ (¬ (x3 = 0) → ((¬ ((x2 / 2) < 0 ∨ 4096 ≤ ((x2 / 2)).toNatClampNeg)) ∧ (c29 (am_put (am_put σ 61 (((x2 / 2)).toNatClampNeg) (vp_nar .boolean x3)) 50 17 ((σ.1 50 17) + (if x3 = 0 then (0 : Int32) else 1))) x1 (x2 + (-2))))))) ∧ (¬ (x4 < (σ.1 50 1)) → ((¬ ((x2 / 2) < 0 ∨ 4096 ≤ ((x2 / 2)).toNatClampNeg)) ∧ (c29 (am_put (am_put σ 61 (((x2 / 2)).toNatClampNeg) (vp_nar .boolean x3)) 50 17 ((σ.1 50 17) + (if x3 = 0 then (0 : Int32) else 1))) x1 (x2 + (-2)))))
set_option maxRecDepth 20000 in
theorem t_114_56 (L : Nat) (k29 : am_M → Int32 → Int32 → am_M) (c29 : am_M → Int32 → Int32 → Prop) (hk29 : ∀ (σ : am_M) (x1 : Int32) (x2 : Int32) (o3 : Option am_V) (o4 : Option am_V), c29 σ x1 x2 → am_r L 114 29 [some (.inr (.inr (50, none))), some (.inl x1), some (.inl x2), o3, o4] [] σ = some (none, am_sh0 L, (k29 σ x1 x2))) : ∀ (n : Nat) (σ : am_M) (x1 : Int32) (x2 : Int32) (x3 : Int32) (x4 : Int32), q_114_56 c29 n σ x1 x2 x3 x4 → am_r L 114 56 [some (.inr (.inr (50, none))), some (.inl x1), some (.inl x2), some (.inl x3), some (.inl x4)] [] σ = some (none, am_sh0 L, (l_114_56 k29 n σ x1 x2 x3 x4)) := by
  intro n
  induction n with
  | zero => intro σ x1 x2 x3 x4 h; exact h.elim
  | succ n ih =>
    intro σ x1 x2 x3 x4 h
    unfold q_114_56 at h
    unfold l_114_56
    refine (e_114_56 _ _ _ _ _ _).trans ?_
    by_cases hc436 : x4 < (σ.1 50 1)
    · simp only [if_pos hc436]
      all_goals
        by_cases hc437 : x3 = 0
        · simp only [if_pos hc437]
          all_goals
            by_cases hc438 : ((x2 >>> (x4 &&& 31)) &&& 1) = 0
            · simp only [if_pos hc438]
              all_goals
                refine (if_neg ((((h.1 hc436).1 hc437).1 hc438).1)).trans ?_
                by_cases hc439 : (σ.1 61 ((((x2 ||| (1 <<< (x4 &&& 31))) / 2)).toNatClampNeg)) = 0
                · simp only [if_pos hc439]
                  all_goals
                    refine (e_114_117 _ _ _ _ _ _).trans ?_
                    refine (e_114_118 _ _ _ _ _ _ _).trans ?_
                    exact ih σ x1 x2 0 (x4 + 1) (((((h.1 hc436).1 hc437).1 hc438).2.1 hc439))
                · simp only [if_neg hc439]
                  all_goals
                    refine (e_114_95 _ _ _ _ _ _).trans ?_
                    refine (am_bind_i (s_109 L σ x4 (((((h.1 hc436).1 hc437).1 hc438).2.2 hc439).1))).trans ?_
                    refine (e_114_100 _ _ _ _ _ _ _).trans ?_
                    refine Eq.trans (b := am_r L 114 118 [some (.inr (.inr (50, none))), some (.inl x1), some (.inl x2), some (.inl x3), some (.inl x4)] [.inl (if (v_109 σ x4) = 0 then (0 : Int32) else (if (v_112 (w_109 σ x4) x4) = (-1) then (0 : Int32) else 1))] (w_109 σ x4)) ?_ ?_
                    · by_cases hc440 : (v_109 σ x4) = 0
                      · simp only [if_pos hc440]
                        all_goals
                          refine (e_114_117 _ _ _ _ _ _).trans ?_
                          rfl
                      · simp only [if_neg hc440]
                        all_goals
                          refine (am_bind_i (s_112 L (w_109 σ x4) x4 ((((((h.1 hc436).1 hc437).1 hc438).2.2 hc439).2.1 hc440)))).trans ?_
                          refine (e_114_109 _ _ _ _ _ _ _).trans ?_
                          refine Eq.trans (b := am_r L 114 118 [some (.inr (.inr (50, none))), some (.inl x1), some (.inl x2), some (.inl x3), some (.inl x4)] [.inl (if (v_112 (w_109 σ x4) x4) = (-1) then (0 : Int32) else 1)] (w_109 σ x4)) ?_ ?_
                          · by_cases hc441 : (v_112 (w_109 σ x4) x4) = (-1)
                            · simp only [if_pos hc441]
                              all_goals
                                refine (e_114_117 _ _ _ _ _ _).trans ?_
                                rfl
                            · simp only [if_neg hc441]
                              all_goals
                                rfl
                          rfl
                    refine (e_114_118 _ _ _ _ _ _ _).trans ?_
                    exact ih (w_109 σ x4) x1 x2 (if (v_109 σ x4) = 0 then (0 : Int32) else (if (v_112 (w_109 σ x4) x4) = (-1) then (0 : Int32) else 1)) (x4 + 1) (((((h.1 hc436).1 hc437).1 hc438).2.2 hc439).2.2)
            · simp only [if_neg hc438]
              all_goals
                refine (e_114_117 _ _ _ _ _ _).trans ?_
                refine (e_114_118 _ _ _ _ _ _ _).trans ?_
                exact ih σ x1 x2 0 (x4 + 1) ((((h.1 hc436).1 hc437).2 hc438))
        · simp only [if_neg hc437]
          all_goals
            refine (e_114_125 _ _ _ _ _ _).trans ?_
            refine (if_neg (((h.1 hc436).2 hc437).1)).trans ?_
            refine Eq.trans (b := am_r L 114 148 [some (.inr (.inr (50, none))), some (.inl x1), some (.inl x2), some (.inl x3), some (.inl x4)] [.inl (if x3 = 0 then (0 : Int32) else 1), .inl (σ.1 50 17), .inr (.inr (50, none))] (am_put σ 61 (((x2 / 2)).toNatClampNeg) (vp_nar .boolean x3))) ?_ ?_
            · by_cases hc442 : x3 = 0
              · simp only [if_pos hc442]
                all_goals
                  refine (e_114_147 _ _ _ _ _ _ _).trans ?_
                  rfl
              · simp only [if_neg hc442]
                all_goals
                  rfl
            refine (e_114_148 _ _ _ _ _ _ _ _).trans ?_
            exact hk29 (am_put (am_put σ 61 (((x2 / 2)).toNatClampNeg) (vp_nar .boolean x3)) 50 17 ((σ.1 50 17) + (if x3 = 0 then (0 : Int32) else 1))) x1 (x2 + (-2)) (some (.inl x3)) (some (.inl x4)) (((h.1 hc436).2 hc437).2)
    · simp only [if_neg hc436]
      all_goals
        refine (e_114_125 _ _ _ _ _ _).trans ?_
        refine (if_neg ((h.2 hc436).1)).trans ?_
        refine Eq.trans (b := am_r L 114 148 [some (.inr (.inr (50, none))), some (.inl x1), some (.inl x2), some (.inl x3), some (.inl x4)] [.inl (if x3 = 0 then (0 : Int32) else 1), .inl (σ.1 50 17), .inr (.inr (50, none))] (am_put σ 61 (((x2 / 2)).toNatClampNeg) (vp_nar .boolean x3))) ?_ ?_
        · by_cases hc443 : x3 = 0
          · simp only [if_pos hc443]
            all_goals
              refine (e_114_147 _ _ _ _ _ _ _).trans ?_
              rfl
          · simp only [if_neg hc443]
            all_goals
              rfl
        refine (e_114_148 _ _ _ _ _ _ _ _).trans ?_
        exact hk29 (am_put (am_put σ 61 (((x2 / 2)).toNatClampNeg) (vp_nar .boolean x3)) 50 17 ((σ.1 50 17) + (if x3 = 0 then (0 : Int32) else 1))) x1 (x2 + (-2)) (some (.inl x3)) (some (.inl x4)) ((h.2 hc436).2)
def l_114_29 : Nat → am_M → Int32 → Int32 → am_M
  | 0, σ, x1, x2 => σ
  | n + 1, σ, x1, x2 => (if x2 < 0 then σ else (if (if x2 = x1 then (1 : Int32) else 0) = 0 then (l_114_56 (l_114_29 n) 14 (w_90 σ x2) x1 x2 (if x2 = x1 then (1 : Int32) else 0) 1) else (l_114_56 (l_114_29 n) 14 σ x1 x2 (if x2 = x1 then (1 : Int32) else 0) 1)))
def q_114_29 : Nat → am_M → Int32 → Int32 → Prop
  | 0, _, _, _ => False
  | n + 1, σ, x1, x2 => ¬ (x2 < 0) → ((((if x2 = x1 then (1 : Int32) else 0) = 0) → ((p_90 σ x2) ∧ (q_114_56 (q_114_29 n) 14 (w_90 σ x2) x1 x2 (if x2 = x1 then (1 : Int32) else 0) 1))) ∧ (¬ ((if x2 = x1 then (1 : Int32) else 0) = 0) → (q_114_56 (q_114_29 n) 14 σ x1 x2 (if x2 = x1 then (1 : Int32) else 0) 1)))
set_option maxRecDepth 20000 in
theorem t_114_29 (L : Nat) : ∀ (n : Nat) (σ : am_M) (x1 : Int32) (x2 : Int32) (o3 : Option am_V) (o4 : Option am_V), q_114_29 n σ x1 x2 → am_r L 114 29 [some (.inr (.inr (50, none))), some (.inl x1), some (.inl x2), o3, o4] [] σ = some (none, am_sh0 L, (l_114_29 n σ x1 x2)) := by
  intro n
  induction n with
  | zero => intro σ x1 x2 o3 o4 h; exact h.elim
  | succ n ih =>
    intro σ x1 x2 o3 o4 h
    unfold q_114_29 at h
    unfold l_114_29
    refine (e_114_29 _ _ _ _ _ _).trans ?_
    by_cases hc444 : x2 < 0
    · simp only [if_pos hc444]
      all_goals
        refine (e_114_158 _ _ _ _ _ _).trans ?_
        rfl
    · simp only [if_neg hc444]
      all_goals
        refine Eq.trans (b := am_r L 114 43 [some (.inr (.inr (50, none))), some (.inl x1), some (.inl x2), o3, o4] [.inl (if x2 = x1 then (1 : Int32) else 0)] σ) ?_ ?_
        · by_cases hc445 : x2 = x1
          · simp only [if_pos hc445]
            all_goals
              rfl
          · simp only [if_neg hc445]
            all_goals
              refine (e_114_42 _ _ _ _ _ _).trans ?_
              rfl
        refine (e_114_43 _ _ _ _ _ _ _).trans ?_
        by_cases hc446 : (if x2 = x1 then (1 : Int32) else 0) = 0
        · simp only [if_pos hc446]
          all_goals
            refine (am_bind_v (s_90 L σ x2 (((h hc444).1 hc446).1))).trans ?_
            refine (e_114_53 _ _ _ _ _ _).trans ?_
            exact t_114_56 L (l_114_29 n) (q_114_29 n) ih 14 (w_90 σ x2) x1 x2 (if x2 = x1 then (1 : Int32) else 0) 1 (((h hc444).1 hc446).2)
        · simp only [if_neg hc446]
          all_goals
            refine (e_114_53 _ _ _ _ _ _).trans ?_
            exact t_114_56 L (l_114_29 n) (q_114_29 n) ih 14 σ x1 x2 (if x2 = x1 then (1 : Int32) else 0) 1 (((h hc444).2 hc446))
def p_114 (σ : am_M) : Prop := ((σ.1 50 16) = 0) → (q_114_29 4097 (am_put (am_put σ 50 16 1) 50 17 0) ((1 <<< ((σ.1 50 1) &&& 31)) - 2) ((1 <<< ((σ.1 50 1) &&& 31)) - 2))
def f_114 (σ : am_M) : am_M := (if (σ.1 50 16) = 0 then (l_114_29 4097 (am_put (am_put σ 50 16 1) 50 17 0) ((1 <<< ((σ.1 50 1) &&& 31)) - 2) ((1 <<< ((σ.1 50 1) &&& 31)) - 2)) else σ)
set_option maxRecDepth 20000 in
theorem sf_114 (L : Nat) (σ : am_M) (h : p_114 σ) : am_r L 114 0 [some (.inr (.inr (50, none))), none, none, none, none] [] σ = some (none, am_sh0 L, (f_114 σ)) := by
  unfold p_114 at h
  unfold f_114
  refine (e_114_0 _ _).trans ?_
  by_cases hc447 : (σ.1 50 16) = 0
  · simp only [if_pos hc447]
    all_goals
      refine (e_114_8 _ _).trans ?_
      exact t_114_29 L 4097 (am_put (am_put σ 50 16 1) 50 17 0) ((1 <<< ((σ.1 50 1) &&& 31)) - 2) ((1 <<< ((σ.1 50 1) &&& 31)) - 2) none none ((h hc447))
  · simp only [if_neg hc447]
    all_goals
      rfl
def w_114 (σ : am_M) : am_M := f_114 σ
theorem s_114 (L : Nat) (σ : am_M) (h : p_114 σ) : am_r L 114 0 [some (.inr (.inr (50, none))), none, none, none, none] [] σ = some (none, am_sh0 L, w_114 σ) := sf_114 L σ h
-- 115: X5_order
def p_115 (σ : am_M) : Prop := ¬ ((σ.1 50 1) = 0) → (p_114 (am_put σ 50 0 0))
def v_115 (σ : am_M) : Int32 := (if (σ.1 50 1) = 0 then (-1) else (if ((w_114 (am_put σ 50 0 0)).1 61 0) = 0 then ((-1) : Int32) else (((w_114 (am_put σ 50 0 0)).1 50 1) - 1)))
def w_115 (σ : am_M) : am_M := (if (σ.1 50 1) = 0 then (am_put σ 50 0 0) else (w_114 (am_put σ 50 0 0)))
set_option maxRecDepth 20000 in
theorem s_115 (L : Nat) (σ : am_M) (h : p_115 σ) : am_r L 115 0 [some (.inr (.inr (50, none)))] [] σ = some (some (.inl (v_115 σ)), am_sh0 L, w_115 σ) := by
  unfold p_115 at h
  unfold v_115 w_115
  refine (e_115_0 _ _).trans ?_
  by_cases hc448 : (σ.1 50 1) = 0
  · simp only [if_pos hc448]
    all_goals
      rfl
  · simp only [if_neg hc448]
    all_goals
      refine (e_115_14 _ _).trans ?_
      refine (am_bind_v (s_114 L (am_put σ 50 0 0) ((h hc448)))).trans ?_
      refine (e_115_18 _ _).trans ?_
      refine (if_neg (by decide)).trans ?_
      refine Eq.trans (b := am_r L 115 37 [some (.inr (.inr (50, none)))] [.inl (if ((w_114 (am_put σ 50 0 0)).1 61 0) = 0 then ((-1) : Int32) else (((w_114 (am_put σ 50 0 0)).1 50 1) - 1))] (w_114 (am_put σ 50 0 0))) ?_ ?_
      · by_cases hc449 : ((w_114 (am_put σ 50 0 0)).1 61 0) = 0
        · simp only [if_pos hc449]
          all_goals
            refine (e_115_36 _ _).trans ?_
            rfl
        · simp only [if_neg hc449]
          all_goals
            rfl
      refine (e_115_37 _ _ _).trans ?_
      rfl
-- 116: X5_step
def l_116_60 (k47 : am_M → Int32 → Int32 → Int32 → Int32 → Int32 × am_M) : Nat → am_M → Int32 → Int32 → Int32 → Int32 → Int32 × am_M
  | 0, σ, x1, x2, x3, x4 => (0, σ)
  | n + 1, σ, x1, x2, x3, x4 => (if ((x2 >>> (x3 &&& 31)) &&& 1) = 1 then (l_116_60 k47 n σ x1 x2 (x3 + 1) x4) else (if (σ.1 61 ((((x2 ||| (1 <<< (x3 &&& 31))) / 2)).toNatClampNeg)) = 0 then (l_116_60 k47 n σ x1 x2 (x3 + 1) x4) else (if (v_109 σ x3) = 0 then (l_116_60 k47 n (w_109 σ x3) x1 x2 (x3 + 1) x4) else (if (v_112 (w_109 σ x3) x3) = (-1) then (l_116_60 k47 n (w_109 σ x3) x1 x2 (x3 + 1) x4) else (k47 (w_109 σ x3) x1 (x2 ||| (1 <<< (x3 &&& 31))) x3 (x4 + 1))))))
def q_116_60 (c47 : am_M → Int32 → Int32 → Int32 → Int32 → Prop) : Nat → am_M → Int32 → Int32 → Int32 → Int32 → Prop
  | 0, _, _, _, _, _ => False
  | n + 1, σ, x1, x2, x3, x4 => ((((x2 >>> (x3 &&& 31)) &&& 1) = 1) → (q_116_60 c47 n σ x1 x2 (x3 + 1) x4)) ∧ (¬ (((x2 >>> (x3 &&& 31)) &&& 1) = 1) → ((¬ (((x2 ||| (1 <<< (x3 &&& 31))) / 2) < 0 ∨ 4096 ≤ (((x2 ||| (1 <<< (x3 &&& 31))) / 2)).toNatClampNeg)) ∧ ((((σ.1 61 ((((x2 ||| (1 <<< (x3 &&& 31))) / 2)).toNatClampNeg)) = 0) → (q_116_60 c47 n σ x1 x2 (x3 + 1) x4)) ∧ (¬ ((σ.1 61 ((((x2 ||| (1 <<< (x3 &&& 31))) / 2)).toNatClampNeg)) = 0) → ((p_109 σ x3) ∧ ((((v_109 σ x3) = 0) → (q_116_60 c47 n (w_109 σ x3) x1 x2 (x3 + 1) x4)) ∧ (¬ ((v_109 σ x3) = 0) → ((p_112 (w_109 σ x3) x3) ∧ ((((v_112 (w_109 σ x3) x3) = (-1)) → (q_116_60 c47 n (w_109 σ x3) x1 x2 (x3 + 1) x4)) ∧ (¬ ((v_112 (w_109 σ x3) x3) = (-1)) → (c47 (w_109 σ x3) x1 (x2 ||| (1 <<< (x3 &&& 31))) x3 (x4 + 1))))))))))))
set_option maxRecDepth 20000 in
theorem t_116_60 (L : Nat) (k47 : am_M → Int32 → Int32 → Int32 → Int32 → Int32 × am_M) (c47 : am_M → Int32 → Int32 → Int32 → Int32 → Prop) (hk47 : ∀ (σ : am_M) (x1 : Int32) (x2 : Int32) (x3 : Int32) (x4 : Int32), c47 σ x1 x2 x3 x4 → am_r L 116 47 [some (.inr (.inr (50, none))), some (.inl x1), some (.inl x2), some (.inl x3), some (.inl x4)] [] σ = some (some (.inl (k47 σ x1 x2 x3 x4).1), am_sh0 L, (k47 σ x1 x2 x3 x4).2)) : ∀ (n : Nat) (σ : am_M) (x1 : Int32) (x2 : Int32) (x3 : Int32) (x4 : Int32), q_116_60 c47 n σ x1 x2 x3 x4 → am_r L 116 60 [some (.inr (.inr (50, none))), some (.inl x1), some (.inl x2), some (.inl x3), some (.inl x4)] [] σ = some (some (.inl (l_116_60 k47 n σ x1 x2 x3 x4).1), am_sh0 L, (l_116_60 k47 n σ x1 x2 x3 x4).2) := by
  intro n
  induction n with
  | zero => intro σ x1 x2 x3 x4 h; exact h.elim
  | succ n ih =>
    intro σ x1 x2 x3 x4 h
    unfold q_116_60 at h
    unfold l_116_60
    refine (e_116_60 _ _ _ _ _ _).trans ?_
    by_cases hc450 : ((x2 >>> (x3 &&& 31)) &&& 1) = 1
    · simp only [if_pos hc450]
      all_goals
        refine (e_116_101 _ _ _ _ _ _).trans ?_
        exact ih σ x1 x2 (x3 + 1) x4 ((h.1 hc450))
    · simp only [if_neg hc450]
      all_goals
        refine (if_neg ((h.2 hc450).1)).trans ?_
        by_cases hc451 : (σ.1 61 ((((x2 ||| (1 <<< (x3 &&& 31))) / 2)).toNatClampNeg)) = 0
        · simp only [if_pos hc451]
          all_goals
            refine (e_116_101 _ _ _ _ _ _).trans ?_
            exact ih σ x1 x2 (x3 + 1) x4 (((h.2 hc450).2.1 hc451))
        · simp only [if_neg hc451]
          all_goals
            refine (am_bind_i (s_109 L σ x3 (((h.2 hc450).2.2 hc451).1))).trans ?_
            refine (e_116_89 _ _ _ _ _ _ _).trans ?_
            by_cases hc452 : (v_109 σ x3) = 0
            · simp only [if_pos hc452]
              all_goals
                refine (e_116_101 _ _ _ _ _ _).trans ?_
                exact ih (w_109 σ x3) x1 x2 (x3 + 1) x4 ((((h.2 hc450).2.2 hc451).2.1 hc452))
            · simp only [if_neg hc452]
              all_goals
                refine (am_bind_i (s_112 L (w_109 σ x3) x3 ((((h.2 hc450).2.2 hc451).2.2 hc452).1))).trans ?_
                refine (e_116_97 _ _ _ _ _ _ _).trans ?_
                by_cases hc453 : (v_112 (w_109 σ x3) x3) = (-1)
                · simp only [if_pos hc453]
                  all_goals
                    refine (e_116_101 _ _ _ _ _ _).trans ?_
                    exact ih (w_109 σ x3) x1 x2 (x3 + 1) x4 (((((h.2 hc450).2.2 hc451).2.2 hc452).2.1 hc453))
                · simp only [if_neg hc453]
                  all_goals
                    refine (e_116_107 _ _ _ _ _ _).trans ?_
                    exact hk47 (w_109 σ x3) x1 (x2 ||| (1 <<< (x3 &&& 31))) x3 (x4 + 1) (((((h.2 hc450).2.2 hc451).2.2 hc452).2.2 hc453))
def l_116_47 : Nat → am_M → Int32 → Int32 → Int32 → Int32 → Int32 × am_M
  | 0, σ, x1, x2, x3, x4 => (0, σ)
  | n + 1, σ, x1, x2, x3, x4 => (if x1 < x4 then (x3, σ) else (l_116_60 (l_116_47 n) 14 (w_90 σ x2) x1 x2 1 x4))
def q_116_47 : Nat → am_M → Int32 → Int32 → Int32 → Int32 → Prop
  | 0, _, _, _, _, _ => False
  | n + 1, σ, x1, x2, x3, x4 => ¬ (x1 < x4) → ((p_90 σ x2) ∧ (q_116_60 (q_116_47 n) 14 (w_90 σ x2) x1 x2 1 x4))
set_option maxRecDepth 20000 in
theorem t_116_47 (L : Nat) : ∀ (n : Nat) (σ : am_M) (x1 : Int32) (x2 : Int32) (x3 : Int32) (x4 : Int32), q_116_47 n σ x1 x2 x3 x4 → am_r L 116 47 [some (.inr (.inr (50, none))), some (.inl x1), some (.inl x2), some (.inl x3), some (.inl x4)] [] σ = some (some (.inl (l_116_47 n σ x1 x2 x3 x4).1), am_sh0 L, (l_116_47 n σ x1 x2 x3 x4).2) := by
  intro n
  induction n with
  | zero => intro σ x1 x2 x3 x4 h; exact h.elim
  | succ n ih =>
    intro σ x1 x2 x3 x4 h
    unfold q_116_47 at h
    unfold l_116_47
    refine (e_116_47 _ _ _ _ _ _).trans ?_
    by_cases hc454 : x1 < x4
    · simp only [if_pos hc454]
      all_goals
        refine (e_116_119 _ _ _ _ _ _).trans ?_
        rfl
    · simp only [if_neg hc454]
      all_goals
        refine (am_bind_v (s_90 L σ x2 ((h hc454).1))).trans ?_
        refine (e_116_58 _ _ _ _ _ _).trans ?_
        exact t_116_60 L (l_116_47 n) (q_116_47 n) ih 14 (w_90 σ x2) x1 x2 1 x4 ((h hc454).2)
def p_116 (σ : am_M) (x1 : Int32) : Prop := ¬ ((v_75 (am_put σ 50 0 0) (Int32.toInt64 x1) ((0 : Int32).toInt64) ((Int32.toInt64 (σ.1 50 1)) - (2 : Int32).toInt64)) = 0) → ((p_114 (am_put σ 50 0 0)) ∧ (¬ (((w_114 (am_put σ 50 0 0)).1 61 0) = 0) → (q_116_47 14 (w_114 (am_put σ 50 0 0)) x1 0 (-1) 0)))
def f_116 (σ : am_M) (x1 : Int32) : Int32 × am_M := (if (v_75 (am_put σ 50 0 0) (Int32.toInt64 x1) ((0 : Int32).toInt64) ((Int32.toInt64 (σ.1 50 1)) - (2 : Int32).toInt64)) = 0 then ((-1), (am_put σ 50 0 0)) else (if ((w_114 (am_put σ 50 0 0)).1 61 0) = 0 then ((-1), (w_114 (am_put σ 50 0 0))) else (l_116_47 14 (w_114 (am_put σ 50 0 0)) x1 0 (-1) 0)))
set_option maxRecDepth 20000 in
theorem sf_116 (L : Nat) (σ : am_M) (x1 : Int32) (h : p_116 σ x1) : am_r L 116 0 [some (.inr (.inr (50, none))), some (.inl x1), none, none, none] [] σ = some (some (.inl (f_116 σ x1).1), am_sh0 L, (f_116 σ x1).2) := by
  unfold p_116 at h
  unfold f_116
  refine (e_116_0 _ _ _).trans ?_
  refine (am_bind_i (s_75 L (am_put σ 50 0 0) (Int32.toInt64 x1) ((0 : Int32).toInt64) ((Int32.toInt64 (σ.1 50 1)) - (2 : Int32).toInt64))).trans ?_
  refine (e_116_20 _ _ _ _).trans ?_
  by_cases hc455 : (v_75 (am_put σ 50 0 0) (Int32.toInt64 x1) ((0 : Int32).toInt64) ((Int32.toInt64 (σ.1 50 1)) - (2 : Int32).toInt64)) = 0
  · simp only [if_pos hc455]
    all_goals
      rfl
  · simp only [if_neg hc455]
    all_goals
      refine (e_116_25 _ _ _).trans ?_
      refine (am_bind_v (s_114 L (am_put σ 50 0 0) ((h hc455).1))).trans ?_
      refine (e_116_29 _ _ _).trans ?_
      refine (if_neg (by decide)).trans ?_
      by_cases hc456 : ((w_114 (am_put σ 50 0 0)).1 61 0) = 0
      · simp only [if_pos hc456]
        all_goals
          rfl
      · simp only [if_neg hc456]
        all_goals
          refine (e_116_40 _ _ _).trans ?_
          exact t_116_47 L 14 (w_114 (am_put σ 50 0 0)) x1 0 (-1) 0 (((h hc455).2 hc456))
def v_116 (σ : am_M) (x1 : Int32) : Int32 := (f_116 σ x1).1
def w_116 (σ : am_M) (x1 : Int32) : am_M := (f_116 σ x1).2
theorem s_116 (L : Nat) (σ : am_M) (x1 : Int32) (h : p_116 σ x1) : am_r L 116 0 [some (.inr (.inr (50, none))), some (.inl x1), none, none, none] [] σ = some (some (.inl (v_116 σ x1)), am_sh0 L, w_116 σ x1) := sf_116 L σ x1 h
-- 117: X5_count
def p_117 (σ : am_M) (x1 : Int32) : Prop := (x1 = 1) → ((0 < (σ.1 50 1)) → (p_114 (am_put σ 50 0 0)))
def v_117 (σ : am_M) (x1 : Int32) : Int32 := (if x1 = 1 then (if 0 < (σ.1 50 1) then ((w_114 (am_put σ 50 0 0)).1 50 17) else (if x1 = 0 then ((σ.1 50 1) : Int32) else (if x1 = 1 then (0 : Int32) else (-1)))) else (if x1 = 0 then ((σ.1 50 1) : Int32) else (if x1 = 1 then (0 : Int32) else (-1))))
def w_117 (σ : am_M) (x1 : Int32) : am_M := (if x1 = 1 then (if 0 < (σ.1 50 1) then (w_114 (am_put σ 50 0 0)) else (am_put σ 50 0 0)) else (am_put σ 50 0 0))
set_option maxRecDepth 20000 in
theorem s_117 (L : Nat) (σ : am_M) (x1 : Int32) (h : p_117 σ x1) : am_r L 117 0 [some (.inr (.inr (50, none))), some (.inl x1)] [] σ = some (some (.inl (v_117 σ x1)), am_sh0 L, w_117 σ x1) := by
  unfold p_117 at h
  unfold v_117 w_117
  refine (e_117_0 _ _ _).trans ?_
  by_cases hc457 : x1 = 1
  · simp only [if_pos hc457]
    all_goals
      by_cases hc458 : 0 < (σ.1 50 1)
      · simp only [if_pos hc458]
        all_goals
          refine (am_bind_v (s_114 L (am_put σ 50 0 0) (((h hc457) hc458)))).trans ?_
          refine (e_117_21 _ _ _).trans ?_
          rfl
      · simp only [if_neg hc458]
        all_goals
          refine (e_117_26 _ _ _).trans ?_
          refine Eq.trans (b := am_r L 117 47 [some (.inr (.inr (50, none))), some (.inl x1)] [.inl (if x1 = 0 then ((σ.1 50 1) : Int32) else (if x1 = 1 then (0 : Int32) else (-1)))] (am_put σ 50 0 0)) ?_ ?_
          · by_cases hc459 : x1 = 0
            · simp only [if_pos hc459]
              all_goals
                rfl
            · simp only [if_neg hc459]
              all_goals
                refine (e_117_37 _ _ _).trans ?_
                refine Eq.trans (b := am_r L 117 47 [some (.inr (.inr (50, none))), some (.inl x1)] [.inl (if x1 = 1 then (0 : Int32) else (-1))] (am_put σ 50 0 0)) ?_ ?_
                · by_cases hc460 : x1 = 1
                  · simp only [if_pos hc460]
                    all_goals
                      rfl
                  · simp only [if_neg hc460]
                    all_goals
                      refine (e_117_46 _ _ _).trans ?_
                      rfl
                rfl
          refine (e_117_47 _ _ _ _).trans ?_
          rfl
  · simp only [if_neg hc457]
    all_goals
      refine (e_117_26 _ _ _).trans ?_
      refine Eq.trans (b := am_r L 117 47 [some (.inr (.inr (50, none))), some (.inl x1)] [.inl (if x1 = 0 then ((σ.1 50 1) : Int32) else (if x1 = 1 then (0 : Int32) else (-1)))] (am_put σ 50 0 0)) ?_ ?_
      · by_cases hc461 : x1 = 0
        · simp only [if_pos hc461]
          all_goals
            rfl
        · simp only [if_neg hc461]
          all_goals
            refine (e_117_37 _ _ _).trans ?_
            refine Eq.trans (b := am_r L 117 47 [some (.inr (.inr (50, none))), some (.inl x1)] [.inl (if x1 = 1 then (0 : Int32) else (-1))] (am_put σ 50 0 0)) ?_ ?_
            · by_cases hc462 : x1 = 1
              · simp only [if_pos hc462]
                all_goals
                  rfl
              · simp only [if_neg hc462]
                all_goals
                  refine (e_117_46 _ _ _).trans ?_
                  rfl
            rfl
      refine (e_117_47 _ _ _ _).trans ?_
      rfl
-- 118: X5_check
def v_118 (σ : am_M) : Int32 := 1
def w_118 (σ : am_M) : am_M := (am_put σ 50 0 0)
set_option maxRecDepth 20000 in
theorem s_118 (L : Nat) (σ : am_M) : am_r L 118 0 [some (.inr (.inr (50, none)))] [] σ = some (some (.inl (v_118 σ)), am_sh0 L, w_118 σ) := by
  unfold v_118 w_118
  refine (e_118_0 _ _).trans ?_
  rfl
