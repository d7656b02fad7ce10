-- 83: X5_areOver
def p_83 (σ : am_M) (x1 : Int32) (x2 : Int32) : Prop := (¬ ((4 * x1) < 0 ∨ 52 ≤ ((4 * x1)).toNatClampNeg)) ∧ ((¬ (((4 * x2) + 2) < 0 ∨ 52 ≤ (((4 * x2) + 2)).toNatClampNeg)) ∧ (((σ.1 55 (((4 * x1)).toNatClampNeg)) < (σ.1 55 ((((4 * x2) + 2)).toNatClampNeg))) → ((¬ ((4 * x2) < 0 ∨ 52 ≤ ((4 * x2)).toNatClampNeg)) ∧ ((¬ (((4 * x1) + 2) < 0 ∨ 52 ≤ (((4 * x1) + 2)).toNatClampNeg)) ∧ (((σ.1 55 (((4 * x2)).toNatClampNeg)) < (σ.1 55 ((((4 * x1) + 2)).toNatClampNeg))) → ((¬ (((4 * x1) + 1) < 0 ∨ 52 ≤ (((4 * x1) + 1)).toNatClampNeg)) ∧ ((¬ (((4 * x2) + 3) < 0 ∨ 52 ≤ (((4 * x2) + 3)).toNatClampNeg)) ∧ (((σ.1 55 ((((4 * x1) + 1)).toNatClampNeg)) < (σ.1 55 ((((4 * x2) + 3)).toNatClampNeg))) → ((¬ (((4 * x2) + 1) < 0 ∨ 52 ≤ (((4 * x2) + 1)).toNatClampNeg)) ∧ (¬ (((4 * x1) + 3) < 0 ∨ 52 ≤ (((4 * x1) + 3)).toNatClampNeg)))))))))))
def v_83 (σ : am_M) (x1 : Int32) (x2 : Int32) : Int32 := (if (σ.1 55 (((4 * x1)).toNatClampNeg)) < (σ.1 55 ((((4 * x2) + 2)).toNatClampNeg)) then ((if (σ.1 55 (((4 * x2)).toNatClampNeg)) < (σ.1 55 ((((4 * x1) + 2)).toNatClampNeg)) then ((if (σ.1 55 ((((4 * x1) + 1)).toNatClampNeg)) < (σ.1 55 ((((4 * x2) + 3)).toNatClampNeg)) then ((if (σ.1 55 ((((4 * x2) + 1)).toNatClampNeg)) < (σ.1 55 ((((4 * x1) + 3)).toNatClampNeg)) then (1 : Int32) else 0) : Int32) else 0) : Int32) else 0) : Int32) else 0)
set_option maxRecDepth 20000 in
theorem s_83 (L : Nat) (σ : am_M) (x1 : Int32) (x2 : Int32) (h : p_83 σ x1 x2) : am_r L 83 0 [some (.inr (.inr (50, none))), some (.inl x1), some (.inl x2)] [] σ = some (some (.inl (v_83 σ x1 x2)), am_sh0 L, σ) := by
  unfold p_83 at h
  unfold v_83
  refine (e_83_0 _ _ _ _).trans ?_
  refine (if_neg h.1).trans ?_
  refine (if_neg h.2.1).trans ?_
  refine Eq.trans (b := am_r L 83 93 [some (.inr (.inr (50, none))), some (.inl x1), some (.inl x2)] [.inl (if (σ.1 55 (((4 * x1)).toNatClampNeg)) < (σ.1 55 ((((4 * x2) + 2)).toNatClampNeg)) then ((if (σ.1 55 (((4 * x2)).toNatClampNeg)) < (σ.1 55 ((((4 * x1) + 2)).toNatClampNeg)) then ((if (σ.1 55 ((((4 * x1) + 1)).toNatClampNeg)) < (σ.1 55 ((((4 * x2) + 3)).toNatClampNeg)) then ((if (σ.1 55 ((((4 * x2) + 1)).toNatClampNeg)) < (σ.1 55 ((((4 * x1) + 3)).toNatClampNeg)) then (1 : Int32) else 0) : Int32) else 0) : Int32) else 0) : Int32) else 0)] σ) ?_ ?_
  · by_cases hc248 : (σ.1 55 (((4 * x1)).toNatClampNeg)) < (σ.1 55 ((((4 * x2) + 2)).toNatClampNeg))
    · refine (if_pos hc248).trans ?_
      refine Eq.trans (b := am_r L 83 93 [some (.inr (.inr (50, none))), some (.inl x1), some (.inl x2)] [.inl (if (σ.1 55 (((4 * x2)).toNatClampNeg)) < (σ.1 55 ((((4 * x1) + 2)).toNatClampNeg)) then ((if (σ.1 55 ((((4 * x1) + 1)).toNatClampNeg)) < (σ.1 55 ((((4 * x2) + 3)).toNatClampNeg)) then ((if (σ.1 55 ((((4 * x2) + 1)).toNatClampNeg)) < (σ.1 55 ((((4 * x1) + 3)).toNatClampNeg)) then (1 : Int32) else 0) : Int32) else 0) : Int32) else 0)] σ) ?_ ?_
      · refine (if_neg ((h.2.2 hc248).1)).trans ?_
        refine (e_83_29 _ _ _ _ _).trans ?_
        refine (if_neg ((h.2.2 hc248).2.1)).trans ?_
        refine Eq.trans (b := am_r L 83 93 [some (.inr (.inr (50, none))), some (.inl x1), some (.inl x2)] [.inl (if (σ.1 55 (((4 * x2)).toNatClampNeg)) < (σ.1 55 ((((4 * x1) + 2)).toNatClampNeg)) then ((if (σ.1 55 ((((4 * x1) + 1)).toNatClampNeg)) < (σ.1 55 ((((4 * x2) + 3)).toNatClampNeg)) then ((if (σ.1 55 ((((4 * x2) + 1)).toNatClampNeg)) < (σ.1 55 ((((4 * x1) + 3)).toNatClampNeg)) then (1 : Int32) else 0) : Int32) else 0) : Int32) else 0)] σ) ?_ ?_
        · by_cases hc249 : (σ.1 55 (((4 * x2)).toNatClampNeg)) < (σ.1 55 ((((4 * x1) + 2)).toNatClampNeg))
          · refine (if_pos hc249).trans ?_
            refine Eq.trans (b := am_r L 83 93 [some (.inr (.inr (50, none))), some (.inl x1), some (.inl x2)] [.inl (if (σ.1 55 ((((4 * x1) + 1)).toNatClampNeg)) < (σ.1 55 ((((4 * x2) + 3)).toNatClampNeg)) then ((if (σ.1 55 ((((4 * x2) + 1)).toNatClampNeg)) < (σ.1 55 ((((4 * x1) + 3)).toNatClampNeg)) then (1 : Int32) else 0) : Int32) else 0)] σ) ?_ ?_
            · refine (if_neg (((h.2.2 hc248).2.2 hc249).1)).trans ?_
              refine (e_83_58 _ _ _ _ _ _ _).trans ?_
              refine (if_neg (((h.2.2 hc248).2.2 hc249).2.1)).trans ?_
              refine Eq.trans (b := am_r L 83 93 [some (.inr (.inr (50, none))), some (.inl x1), some (.inl x2)] [.inl (if (σ.1 55 ((((4 * x1) + 1)).toNatClampNeg)) < (σ.1 55 ((((4 * x2) + 3)).toNatClampNeg)) then ((if (σ.1 55 ((((4 * x2) + 1)).toNatClampNeg)) < (σ.1 55 ((((4 * x1) + 3)).toNatClampNeg)) then (1 : Int32) else 0) : Int32) else 0)] σ) ?_ ?_
              · by_cases hc250 : (σ.1 55 ((((4 * x1) + 1)).toNatClampNeg)) < (σ.1 55 ((((4 * x2) + 3)).toNatClampNeg))
                · refine (if_pos hc250).trans ?_
                  refine Eq.trans (b := am_r L 83 93 [some (.inr (.inr (50, none))), some (.inl x1), some (.inl x2)] [.inl (if (σ.1 55 ((((4 * x2) + 1)).toNatClampNeg)) < (σ.1 55 ((((4 * x1) + 3)).toNatClampNeg)) then (1 : Int32) else 0)] σ) ?_ ?_
                  · refine (if_neg ((((h.2.2 hc248).2.2 hc249).2.2 hc250).1)).trans ?_
                    refine (if_neg ((((h.2.2 hc248).2.2 hc249).2.2 hc250).2)).trans ?_
                    refine (e_83_85 _ _ _ _ _ _).trans ?_
                    refine Eq.trans (b := am_r L 83 93 [some (.inr (.inr (50, none))), some (.inl x1), some (.inl x2)] [.inl (if (σ.1 55 ((((4 * x2) + 1)).toNatClampNeg)) < (σ.1 55 ((((4 * x1) + 3)).toNatClampNeg)) then (1 : Int32) else 0)] σ) ?_ ?_
                    · by_cases hc251 : (σ.1 55 ((((4 * x2) + 1)).toNatClampNeg)) < (σ.1 55 ((((4 * x1) + 3)).toNatClampNeg))
                      · refine (if_pos hc251).trans ?_
                        refine Eq.trans (b := am_r L 83 93 [some (.inr (.inr (50, none))), some (.inl x1), some (.inl x2)] [.inl 1] σ) ?_ ?_
                        · rfl
                        · first | with_reducible rfl | simp only [if_pos hc251]
                      · refine (if_neg hc251).trans ?_
                        refine Eq.trans (b := am_r L 83 93 [some (.inr (.inr (50, none))), some (.inl x1), some (.inl x2)] [.inl 0] σ) ?_ ?_
                        · refine (e_83_92 _ _ _ _).trans ?_
                          rfl
                        · first | with_reducible rfl | simp only [if_neg hc251]
                    rfl
                  · first | with_reducible rfl | simp only [if_pos hc250]
                · refine (if_neg hc250).trans ?_
                  refine Eq.trans (b := am_r L 83 93 [some (.inr (.inr (50, none))), some (.inl x1), some (.inl x2)] [.inl 0] σ) ?_ ?_
                  · refine (e_83_92 _ _ _ _).trans ?_
                    rfl
                  · first | with_reducible rfl | simp only [if_neg hc250]
              rfl
            · first | with_reducible rfl | simp only [if_pos hc249]
          · refine (if_neg hc249).trans ?_
            refine Eq.trans (b := am_r L 83 93 [some (.inr (.inr (50, none))), some (.inl x1), some (.inl x2)] [.inl 0] σ) ?_ ?_
            · refine (e_83_92 _ _ _ _).trans ?_
              rfl
            · first | with_reducible rfl | simp only [if_neg hc249]
        rfl
      · first | with_reducible rfl | simp only [if_pos hc248]
    · refine (if_neg hc248).trans ?_
      refine Eq.trans (b := am_r L 83 93 [some (.inr (.inr (50, none))), some (.inl x1), some (.inl x2)] [.inl 0] σ) ?_ ?_
      · refine (e_83_92 _ _ _ _).trans ?_
        rfl
      · first | with_reducible rfl | simp only [if_neg hc248]
  refine (e_83_93 _ _ _ _ _).trans ?_
  refine (if_pos (am_01 (am_01 (am_01 (am_01 (Or.inr rfl) (Or.inl rfl)) (Or.inl rfl)) (Or.inl rfl)) (Or.inl rfl))).trans ?_
  rfl
theorem b_83 (σ : am_M) (x1 : Int32) (x2 : Int32) : v_83 σ x1 x2 = 0 ∨ v_83 σ x1 x2 = 1 := (am_01 (am_01 (am_01 (am_01 (Or.inr rfl) (Or.inl rfl)) (Or.inl rfl)) (Or.inl rfl)) (Or.inl rfl))
-- 84: X5_flat
def l_84_109 (k97 : am_M → Int32 → Int32 × am_M) : Nat → am_M → Int32 → Int32 → Int32 × am_M
  | 0, σ, x1, x2 => (0, σ)
  | n + 1, σ, x1, x2 => (if x2 < (σ.1 50 1) then (if (v_83 σ x1 x2) = 0 then (l_84_109 k97 n σ x1 (x2 + 1)) else (2, (am_put (am_put σ 50 9 x1) 50 10 x2))) else (k97 σ (x1 + 1)))
def q_84_109 (c97 : am_M → Int32 → Prop) : Nat → am_M → Int32 → Int32 → Prop
  | 0, _, _, _ => False
  | n + 1, σ, x1, x2 => ((x2 < (σ.1 50 1)) → ((p_83 σ x1 x2) ∧ (((v_83 σ x1 x2) = 0) → (q_84_109 c97 n σ x1 (x2 + 1))))) ∧ (¬ (x2 < (σ.1 50 1)) → (c97 σ (x1 + 1)))
set_option maxRecDepth 20000 in
theorem t_84_109 (L : Nat) (k97 : am_M → Int32 → Int32 × am_M) (c97 : am_M → Int32 → Prop) (hk97 : ∀ (σ : am_M) (x1 : Int32) (o2 : Option am_V), c97 σ x1 → am_r L 84 97 [some (.inr (.inr (50, none))), some (.inl x1), o2] [] σ = some (some (.inl (k97 σ x1).1), am_sh0 L, (k97 σ x1).2)) : ∀ (n : Nat) (σ : am_M) (x1 : Int32) (x2 : Int32), q_84_109 c97 n σ x1 x2 → am_r L 84 109 [some (.inr (.inr (50, none))), some (.inl x1), some (.inl x2)] [] σ = some (some (.inl (l_84_109 k97 n σ x1 x2).1), am_sh0 L, (l_84_109 k97 n σ x1 x2).2) := by
  intro n
  induction n with
  | zero => intro σ x1 x2 h; exact h.elim
  | succ n ih =>
    intro σ x1 x2 h
    unfold q_84_109 at h
    unfold l_84_109
    refine (e_84_109 _ _ _ _).trans ?_
    refine am_fkPI (fun hc252 => ?_) (fun hc252 => ?_)
    · refine (am_bind_i (s_83 L σ x1 x2 ((h.1 hc252).1))).trans ?_
      refine (e_84_123 _ _ _ _ _).trans ?_
      refine am_fkPI (fun hc253 => ?_) (fun hc253 => ?_)
      · refine (e_84_138 _ _ _ _).trans ?_
        exact ih σ x1 (x2 + 1) (((h.1 hc252).2 hc253))
      · rfl
    · refine (e_84_144 _ _ _ _).trans ?_
      exact hk97 σ (x1 + 1) (some (.inl x2)) ((h.2 hc252))
def l_84_97 : Nat → am_M → Int32 → Int32 × am_M
  | 0, σ, x1 => (0, σ)
  | n + 1, σ, x1 => (if x1 < (σ.1 50 1) then (l_84_109 (l_84_97 n) 14 σ x1 (x1 + 1)) else (0, σ))
def q_84_97 : Nat → am_M → Int32 → Prop
  | 0, _, _ => False
  | n + 1, σ, x1 => (x1 < (σ.1 50 1)) → (q_84_109 (q_84_97 n) 14 σ x1 (x1 + 1))
set_option maxRecDepth 20000 in
theorem t_84_97 (L : Nat) : ∀ (n : Nat) (σ : am_M) (x1 : Int32) (o2 : Option am_V), q_84_97 n σ x1 → am_r L 84 97 [some (.inr (.inr (50, none))), some (.inl x1), o2] [] σ = some (some (.inl (l_84_97 n σ x1).1), am_sh0 L, (l_84_97 n σ x1).2) := by
  intro n
  induction n with
  | zero => intro σ x1 o2 h; exact h.elim
  | succ n ih =>
    intro σ x1 o2 h
    unfold q_84_97 at h
    unfold l_84_97
    refine (e_84_97 _ _ _ _).trans ?_
    refine am_fkPI (fun hc254 => ?_) (fun hc254 => ?_)
    · exact t_84_109 L (l_84_97 n) (q_84_97 n) ih 14 σ x1 (x1 + 1) ((h hc254))
    · refine (e_84_150 _ _ _ _).trans ?_
      rfl
def l_84_30 : Nat → am_M → Int32 → Int32 × am_M
  | 0, σ, x1 => (0, σ)
  | n + 1, σ, x1 => (if x1 < (σ.1 50 1) then (if (σ.1 55 (((4 * x1)).toNatClampNeg)) < (σ.1 55 ((((4 * x1) + 2)).toNatClampNeg)) then (if (σ.1 55 ((((4 * x1) + 1)).toNatClampNeg)) < (σ.1 55 ((((4 * x1) + 3)).toNatClampNeg)) then (l_84_30 n σ (x1 + 1)) else (1, (am_put σ 50 9 x1))) else (1, (am_put σ 50 9 x1))) else (l_84_97 14 σ 0))
def q_84_30 : Nat → am_M → Int32 → Prop
  | 0, _, _ => False
  | n + 1, σ, x1 => ((x1 < (σ.1 50 1)) → ((¬ ((4 * x1) < 0 ∨ 52 ≤ ((4 * x1)).toNatClampNeg)) ∧ ((¬ (((4 * x1) + 2) < 0 ∨ 52 ≤ (((4 * x1) + 2)).toNatClampNeg)) ∧ (((σ.1 55 (((4 * x1)).toNatClampNeg)) < (σ.1 55 ((((4 * x1) + 2)).toNatClampNeg))) → ((¬ (((4 * x1) + 1) < 0 ∨ 52 ≤ (((4 * x1) + 1)).toNatClampNeg)) ∧ ((¬ (((4 * x1) + 3) < 0 ∨ 52 ≤ (((4 * x1) + 3)).toNatClampNeg)) ∧ (((σ.1 55 ((((4 * x1) + 1)).toNatClampNeg)) < (σ.1 55 ((((4 * x1) + 3)).toNatClampNeg))) → (q_84_30 n σ (x1 + 1))))))))) ∧ (¬ (x1 < (σ.1 50 1)) → (q_84_97 14 σ 0))
set_option maxRecDepth 20000 in
theorem t_84_30 (L : Nat) : ∀ (n : Nat) (σ : am_M) (x1 : Int32), q_84_30 n σ x1 → am_r L 84 30 [some (.inr (.inr (50, none))), some (.inl x1), none] [] σ = some (some (.inl (l_84_30 n σ x1).1), am_sh0 L, (l_84_30 n σ x1).2) := by
  intro n
  induction n with
  | zero => intro σ x1 h; exact h.elim
  | succ n ih =>
    intro σ x1 h
    unfold q_84_30 at h
    unfold l_84_30
    refine (e_84_30 _ _ _).trans ?_
    refine am_fkPI (fun hc255 => ?_) (fun hc255 => ?_)
    · refine (if_neg ((h.1 hc255).1)).trans ?_
      refine (if_neg ((h.1 hc255).2.1)).trans ?_
      refine am_fkPI (fun hc256 => ?_) (fun hc256 => ?_)
      · refine (e_84_63 _ _ _).trans ?_
        refine (if_neg (((h.1 hc255).2.2 hc256).1)).trans ?_
        refine (if_neg (((h.1 hc255).2.2 hc256).2.1)).trans ?_
        refine am_fkPI (fun hc257 => ?_) (fun hc257 => ?_)
        · refine (e_84_89 _ _ _).trans ?_
          exact ih σ (x1 + 1) ((((h.1 hc255).2.2 hc256).2.2 hc257))
        · refine (e_84_82 _ _ _).trans ?_
          rfl
      · refine (e_84_82 _ _ _).trans ?_
        rfl
    · refine (e_84_95 _ _ _).trans ?_
      exact t_84_97 L 14 σ 0 none ((h.2 hc255))
def p_84 (σ : am_M) : Prop := ¬ ((σ.1 50 1) = 0) → ((p_82 (am_put σ 50 0 0)) ∧ (q_84_30 14 (am_put (am_put (w_82 (am_put σ 50 0 0)) 50 9 (-1)) 50 10 (-1)) 0))
def f_84 (σ : am_M) : Int32 × am_M := (if (σ.1 50 1) = 0 then ((-1), (am_put σ 50 0 0)) else (l_84_30 14 (am_put (am_put (w_82 (am_put σ 50 0 0)) 50 9 (-1)) 50 10 (-1)) 0))
set_option maxRecDepth 20000 in
theorem sf_84 (L : Nat) (σ : am_M) (h : p_84 σ) : am_r L 84 0 [some (.inr (.inr (50, none))), none, none] [] σ = some (some (.inl (f_84 σ).1), am_sh0 L, (f_84 σ).2) := by
  unfold p_84 at h
  unfold f_84
  refine (e_84_0 _ _).trans ?_
  refine am_fkPI (fun hc258 => ?_) (fun hc258 => ?_)
  · rfl
  · refine (e_84_14 _ _).trans ?_
    refine (am_bind_v (s_82 L (am_put σ 50 0 0) ((h hc258).1))).trans ?_
    refine (e_84_18 _ _).trans ?_
    exact t_84_30 L 14 (am_put (am_put (w_82 (am_put σ 50 0 0)) 50 9 (-1)) 50 10 (-1)) 0 ((h hc258).2)
def v_84 (σ : am_M) : Int32 := (f_84 σ).1
def w_84 (σ : am_M) : am_M := (f_84 σ).2
theorem s_84 (L : Nat) (σ : am_M) (h : p_84 σ) : am_r L 84 0 [some (.inr (.inr (50, none))), none, none] [] σ = some (some (.inl (v_84 σ)), am_sh0 L, w_84 σ) := sf_84 L σ h
-- 85: X5_wrong
def v_85 (σ : am_M) (x1 : Int32) : Int32 := (if x1 = 0 then ((σ.1 50 9) : Int32) else (if x1 = 1 then ((σ.1 50 10) : Int32) else (-1)))
def w_85 (σ : am_M) (x1 : Int32) : am_M := (am_put σ 50 0 0)
set_option maxRecDepth 20000 in
theorem s_85 (L : Nat) (σ : am_M) (x1 : Int32) : am_r L 85 0 [some (.inr (.inr (50, none))), some (.inl x1)] [] σ = some (some (.inl (v_85 σ x1)), am_sh0 L, w_85 σ x1) := by
  unfold v_85 w_85
  refine (e_85_0 _ _ _).trans ?_
  refine Eq.trans (b := am_r L 85 29 [some (.inr (.inr (50, none))), some (.inl x1)] [.inl (if x1 = 0 then ((σ.1 50 9) : Int32) else (if x1 = 1 then ((σ.1 50 10) : Int32) else (-1)))] (am_put σ 50 0 0)) ?_ ?_
  · by_cases hc259 : x1 = 0
    · refine (if_pos hc259).trans ?_
      refine Eq.trans (b := am_r L 85 29 [some (.inr (.inr (50, none))), some (.inl x1)] [.inl (σ.1 50 9)] (am_put σ 50 0 0)) ?_ ?_
      · rfl
      · first | with_reducible rfl | simp only [if_pos hc259]
    · refine (if_neg hc259).trans ?_
      refine Eq.trans (b := am_r L 85 29 [some (.inr (.inr (50, none))), some (.inl x1)] [.inl (if x1 = 1 then ((σ.1 50 10) : Int32) else (-1))] (am_put σ 50 0 0)) ?_ ?_
      · refine (e_85_16 _ _ _).trans ?_
        refine Eq.trans (b := am_r L 85 29 [some (.inr (.inr (50, none))), some (.inl x1)] [.inl (if x1 = 1 then ((σ.1 50 10) : Int32) else (-1))] (am_put σ 50 0 0)) ?_ ?_
        · by_cases hc260 : x1 = 1
          · refine (if_pos hc260).trans ?_
            refine Eq.trans (b := am_r L 85 29 [some (.inr (.inr (50, none))), some (.inl x1)] [.inl (σ.1 50 10)] (am_put σ 50 0 0)) ?_ ?_
            · rfl
            · first | with_reducible rfl | simp only [if_pos hc260]
          · refine (if_neg hc260).trans ?_
            refine Eq.trans (b := am_r L 85 29 [some (.inr (.inr (50, none))), some (.inl x1)] [.inl (-1)] (am_put σ 50 0 0)) ?_ ?_
            · refine (e_85_28 _ _ _).trans ?_
              rfl
            · first | with_reducible rfl | simp only [if_neg hc260]
        rfl
      · first | with_reducible rfl | simp only [if_neg hc259]
  refine (e_85_29 _ _ _ _).trans ?_
  rfl
-- 86: X5_flatOf
def p_86 (σ : am_M) (x1 : Int32) (x2 : Int32) : Prop := ¬ ((v_75 (am_put σ 50 0 0) (Int32.toInt64 x1) ((0 : Int32).toInt64) ((Int32.toInt64 (σ.1 50 1)) - (1 : Int32).toInt64)) = 0) → (¬ ((v_75 (am_put σ 50 0 0) (Int32.toInt64 x2) ((0 : Int32).toInt64) ((3 : Int32).toInt64)) = 0) → ((p_82 (am_put σ 50 0 0)) ∧ (¬ (((4 * x1) + x2) < 0 ∨ 52 ≤ (((4 * x1) + x2)).toNatClampNeg))))
def v_86 (σ : am_M) (x1 : Int32) (x2 : Int32) : Int32 := (if (v_75 (am_put σ 50 0 0) (Int32.toInt64 x1) ((0 : Int32).toInt64) ((Int32.toInt64 (σ.1 50 1)) - (1 : Int32).toInt64)) = 0 then (-1000000) else (if (v_75 (am_put σ 50 0 0) (Int32.toInt64 x2) ((0 : Int32).toInt64) ((3 : Int32).toInt64)) = 0 then (-1000000) else ((w_82 (am_put σ 50 0 0)).1 55 ((((4 * x1) + x2)).toNatClampNeg))))
def w_86 (σ : am_M) (x1 : Int32) (x2 : Int32) : am_M := (if (v_75 (am_put σ 50 0 0) (Int32.toInt64 x1) ((0 : Int32).toInt64) ((Int32.toInt64 (σ.1 50 1)) - (1 : Int32).toInt64)) = 0 then (am_put σ 50 0 0) else (if (v_75 (am_put σ 50 0 0) (Int32.toInt64 x2) ((0 : Int32).toInt64) ((3 : Int32).toInt64)) = 0 then (am_put σ 50 0 0) else (w_82 (am_put σ 50 0 0))))
set_option maxRecDepth 20000 in
theorem s_86 (L : Nat) (σ : am_M) (x1 : Int32) (x2 : Int32) (h : p_86 σ x1 x2) : am_r L 86 0 [some (.inr (.inr (50, none))), some (.inl x1), some (.inl x2)] [] σ = some (some (.inl (v_86 σ x1 x2)), am_sh0 L, w_86 σ x1 x2) := by
  unfold p_86 at h
  unfold v_86 w_86
  refine (e_86_0 _ _ _ _).trans ?_
  refine (am_bind_i (s_75 L (am_put σ 50 0 0) (Int32.toInt64 x1) ((0 : Int32).toInt64) ((Int32.toInt64 (σ.1 50 1)) - (1 : Int32).toInt64))).trans ?_
  refine (e_86_18 _ _ _ _ _).trans ?_
  refine am_fkIvm (fun hc261 => ?_) (fun hc261 => ?_)
  · refine (e_86_33 _ _ _ _).trans ?_
    rfl
  · refine (am_bind_i (s_75 L (am_put σ 50 0 0) (Int32.toInt64 x2) ((0 : Int32).toInt64) ((3 : Int32).toInt64))).trans ?_
    refine (e_86_30 _ _ _ _ _).trans ?_
    refine am_fkIvm (fun hc262 => ?_) (fun hc262 => ?_)
    · refine (e_86_33 _ _ _ _).trans ?_
      rfl
    · refine (e_86_36 _ _ _ _).trans ?_
      refine (am_bind_v (s_82 L (am_put σ 50 0 0) (((h hc261) hc262).1))).trans ?_
      refine (e_86_40 _ _ _ _).trans ?_
      refine (if_neg (((h hc261) hc262).2)).trans ?_
      rfl
-- 87: X5_size
def l_87_40 : Nat → am_M → Int32 → Int32 → Int32 → Int32 × am_M
  | 0, σ, x1, x2, x3 => (0, σ)
  | n + 1, σ, x1, x2, x3 => (if x3 < (σ.1 50 1) then (l_87_40 n σ x1 (if x2 < (σ.1 55 (((((4 * x3) + 2) + x1)).toNatClampNeg)) then ((σ.1 55 (((((4 * x3) + 2) + x1)).toNatClampNeg)) : Int32) else x2) (x3 + 1)) else (x2, σ))
def q_87_40 : Nat → am_M → Int32 → Int32 → Int32 → Prop
  | 0, _, _, _, _ => False
  | n + 1, σ, x1, x2, x3 => (x3 < (σ.1 50 1)) → ((¬ ((((4 * x3) + 2) + x1) < 0 ∨ 52 ≤ ((((4 * x3) + 2) + x1)).toNatClampNeg)) ∧ (((x2 < (σ.1 55 (((((4 * x3) + 2) + x1)).toNatClampNeg))) → (¬ ((((4 * x3) + 2) + x1) < 0 ∨ 52 ≤ ((((4 * x3) + 2) + x1)).toNatClampNeg))) ∧ (q_87_40 n σ x1 (if x2 < (σ.1 55 (((((4 * x3) + 2) + x1)).toNatClampNeg)) then ((σ.1 55 (((((4 * x3) + 2) + x1)).toNatClampNeg)) : Int32) else x2) (x3 + 1))))
set_option maxRecDepth 20000 in
theorem t_87_40 (L : Nat) : ∀ (n : Nat) (σ : am_M) (x1 : Int32) (x2 : Int32) (x3 : Int32), q_87_40 n σ x1 x2 x3 → am_r L 87 40 [some (.inr (.inr (50, none))), some (.inl x1), some (.inl x2), some (.inl x3)] [] σ = some (some (.inl (l_87_40 n σ x1 x2 x3).1), am_sh0 L, (l_87_40 n σ x1 x2 x3).2) := by
  intro n
  induction n with
  | zero => intro σ x1 x2 x3 h; exact h.elim
  | succ n ih =>
    intro σ x1 x2 x3 h
    unfold q_87_40 at h
    unfold l_87_40
    refine (e_87_40 _ _ _ _ _).trans ?_
    refine am_fkPI (fun hc263 => ?_) (fun hc263 => ?_)
    · refine (if_neg ((h hc263).1)).trans ?_
      refine Eq.trans (b := am_r L 87 80 [some (.inr (.inr (50, none))), some (.inl x1), some (.inl x2), some (.inl x3)] [.inl (if x2 < (σ.1 55 (((((4 * x3) + 2) + x1)).toNatClampNeg)) then ((σ.1 55 (((((4 * x3) + 2) + x1)).toNatClampNeg)) : Int32) else x2)] σ) ?_ ?_
      · by_cases hc264 : x2 < (σ.1 55 (((((4 * x3) + 2) + x1)).toNatClampNeg))
        · refine (if_pos hc264).trans ?_
          refine Eq.trans (b := am_r L 87 80 [some (.inr (.inr (50, none))), some (.inl x1), some (.inl x2), some (.inl x3)] [.inl (σ.1 55 (((((4 * x3) + 2) + x1)).toNatClampNeg))] σ) ?_ ?_
          · refine (e_87_74 _ _ _ _ _ _ _).trans ?_
            refine (if_neg (((h hc263).2.1 hc264))).trans ?_
            rfl
          · first | with_reducible rfl | simp only [if_pos hc264]
        · refine (if_neg hc264).trans ?_
          refine Eq.trans (b := am_r L 87 80 [some (.inr (.inr (50, none))), some (.inl x1), some (.inl x2), some (.inl x3)] [.inl x2] σ) ?_ ?_
          · refine (e_87_79 _ _ _ _ _).trans ?_
            rfl
          · first | with_reducible rfl | simp only [if_neg hc264]
      refine (e_87_80 _ _ _ _ _ _).trans ?_
      exact ih σ x1 (if x2 < (σ.1 55 (((((4 * x3) + 2) + x1)).toNatClampNeg)) then ((σ.1 55 (((((4 * x3) + 2) + x1)).toNatClampNeg)) : Int32) else x2) (x3 + 1) ((h hc263).2.2)
    · refine (e_87_87 _ _ _ _ _).trans ?_
      rfl
def p_87 (σ : am_M) (x1 : Int32) : Prop := ¬ ((σ.1 50 1) = 0) → (¬ ((v_75 (am_put σ 50 0 0) (Int32.toInt64 x1) ((0 : Int32).toInt64) ((1 : Int32).toInt64)) = 0) → ((p_82 (am_put σ 50 0 0)) ∧ ((¬ ((2 + x1) < 0 ∨ 52 ≤ ((2 + x1)).toNatClampNeg)) ∧ (q_87_40 14 (w_82 (am_put σ 50 0 0)) x1 ((w_82 (am_put σ 50 0 0)).1 55 (((2 + x1)).toNatClampNeg)) 0))))
def f_87 (σ : am_M) (x1 : Int32) : Int32 × am_M := (if (σ.1 50 1) = 0 then ((-1000000), (am_put σ 50 0 0)) else (if (v_75 (am_put σ 50 0 0) (Int32.toInt64 x1) ((0 : Int32).toInt64) ((1 : Int32).toInt64)) = 0 then ((-1000000), (am_put σ 50 0 0)) else (l_87_40 14 (w_82 (am_put σ 50 0 0)) x1 ((w_82 (am_put σ 50 0 0)).1 55 (((2 + x1)).toNatClampNeg)) 0)))
set_option maxRecDepth 20000 in
theorem sf_87 (L : Nat) (σ : am_M) (x1 : Int32) (h : p_87 σ x1) : am_r L 87 0 [some (.inr (.inr (50, none))), some (.inl x1), none, none] [] σ = some (some (.inl (f_87 σ x1).1), am_sh0 L, (f_87 σ x1).2) := by
  unfold p_87 at h
  unfold f_87
  refine (e_87_0 _ _ _).trans ?_
  refine am_fkPI (fun hc265 => ?_) (fun hc265 => ?_)
  · refine (e_87_22 _ _ _).trans ?_
    rfl
  · refine (am_bind_i (s_75 L (am_put σ 50 0 0) (Int32.toInt64 x1) ((0 : Int32).toInt64) ((1 : Int32).toInt64))).trans ?_
    refine (e_87_19 _ _ _ _).trans ?_
    refine am_fkPI (fun hc266 => ?_) (fun hc266 => ?_)
    · refine (e_87_22 _ _ _).trans ?_
      rfl
    · refine (e_87_25 _ _ _).trans ?_
      refine (am_bind_v (s_82 L (am_put σ 50 0 0) (((h hc265) hc266).1))).trans ?_
      refine (e_87_29 _ _ _).trans ?_
      refine (if_neg (((h hc265) hc266).2.1)).trans ?_
      exact t_87_40 L 14 (w_82 (am_put σ 50 0 0)) x1 ((w_82 (am_put σ 50 0 0)).1 55 (((2 + x1)).toNatClampNeg)) 0 (((h hc265) hc266).2.2)
def v_87 (σ : am_M) (x1 : Int32) : Int32 := (f_87 σ x1).1
def w_87 (σ : am_M) (x1 : Int32) : am_M := (f_87 σ x1).2
theorem s_87 (L : Nat) (σ : am_M) (x1 : Int32) (h : p_87 σ x1) : am_r L 87 0 [some (.inr (.inr (50, none))), some (.inl x1), none, none] [] σ = some (some (.inl (v_87 σ x1)), am_sh0 L, w_87 σ x1) := sf_87 L σ x1 h
-- 88: X5_areBends
def v_88 (σ : am_M) (x1 : Int32) : Int32 := (if 0 < (σ.1 50 1) then ((if (x1 &&& ((((1 : Int32) <<< ((σ.1 50 1) &&& (31 : Int32))) - 2) ^^^ (-1))) = 0 then (1 : Int32) else 0) : Int32) else 0)
set_option maxRecDepth 20000 in
theorem s_88 (L : Nat) (σ : am_M) (x1 : Int32) : am_r L 88 0 [some (.inr (.inr (50, none))), some (.inl x1)] [] σ = some (some (.inl (v_88 σ x1)), am_sh0 L, σ) := by
  unfold v_88
  refine (e_88_0 _ _ _).trans ?_
  refine Eq.trans (b := am_r L 88 27 [some (.inr (.inr (50, none))), some (.inl x1)] [.inl (if 0 < (σ.1 50 1) then ((if (x1 &&& ((((1 : Int32) <<< ((σ.1 50 1) &&& (31 : Int32))) - 2) ^^^ (-1))) = 0 then (1 : Int32) else 0) : Int32) else 0)] σ) ?_ ?_
  · by_cases hc267 : 0 < (σ.1 50 1)
    · refine (if_pos hc267).trans ?_
      refine Eq.trans (b := am_r L 88 27 [some (.inr (.inr (50, none))), some (.inl x1)] [.inl (if (x1 &&& ((((1 : Int32) <<< ((σ.1 50 1) &&& (31 : Int32))) - 2) ^^^ (-1))) = 0 then (1 : Int32) else 0)] σ) ?_ ?_
      · refine Eq.trans (b := am_r L 88 27 [some (.inr (.inr (50, none))), some (.inl x1)] [.inl (if (x1 &&& ((((1 : Int32) <<< ((σ.1 50 1) &&& (31 : Int32))) - 2) ^^^ (-1))) = 0 then (1 : Int32) else 0)] σ) ?_ ?_
        · by_cases hc268 : (x1 &&& ((((1 : Int32) <<< ((σ.1 50 1) &&& (31 : Int32))) - 2) ^^^ (-1))) = 0
          · refine (if_pos hc268).trans ?_
            refine Eq.trans (b := am_r L 88 27 [some (.inr (.inr (50, none))), some (.inl x1)] [.inl 1] σ) ?_ ?_
            · rfl
            · first | with_reducible rfl | simp only [if_pos hc268]
          · refine (if_neg hc268).trans ?_
            refine Eq.trans (b := am_r L 88 27 [some (.inr (.inr (50, none))), some (.inl x1)] [.inl 0] σ) ?_ ?_
            · refine (e_88_26 _ _ _).trans ?_
              rfl
            · first | with_reducible rfl | simp only [if_neg hc268]
        rfl
      · first | with_reducible rfl | simp only [if_pos hc267]
    · refine (if_neg hc267).trans ?_
      refine Eq.trans (b := am_r L 88 27 [some (.inr (.inr (50, none))), some (.inl x1)] [.inl 0] σ) ?_ ?_
      · refine (e_88_26 _ _ _).trans ?_
        rfl
      · first | with_reducible rfl | simp only [if_neg hc267]
  refine (e_88_27 _ _ _ _).trans ?_
  refine (if_pos (am_01 (am_01 (Or.inr rfl) (Or.inl rfl)) (Or.inl rfl))).trans ?_
  rfl
theorem b_88 (σ : am_M) (x1 : Int32) : v_88 σ x1 = 0 ∨ v_88 σ x1 = 1 := (am_01 (am_01 (Or.inr rfl) (Or.inl rfl)) (Or.inl rfl))
-- 89: X5_turn
def l_89_130 : Nat → am_M → Int32 → Int32 → Int32 → Int32 → Int32 → Int32 → Int32 → Int32 → am_M
  | 0, σ, x1, x2, x3, x4, x5, x6, x7, x8 => σ
  | n + 1, σ, x1, x2, x3, x4, x5, x6, x7, x8 => (if x8 < 3 then (l_89_130 n (am_put (am_put (am_put (am_put σ 57 ((((3 * x1) + x8)).toNatClampNeg) (if x4 = 0 then ((σ.1 57 (((x3 + x8)).toNatClampNeg)) : Int32) else (if x2 = 0 then ((if x4 = 0 then ((σ.1 58 (((x3 + x8)).toNatClampNeg)) : Int32) else (σ.1 57 (((x3 + x8)).toNatClampNeg))) : Int32) else ((x5 * x6) * (σ.1 59 (((x3 + x8)).toNatClampNeg)))))) 58 ((((3 * x1) + x8)).toNatClampNeg) (if x4 = 0 then ((if x2 = 0 then ((if x4 = 0 then ((σ.1 58 (((x3 + x8)).toNatClampNeg)) : Int32) else (σ.1 57 (((x3 + x8)).toNatClampNeg))) : Int32) else ((x5 * x6) * (σ.1 59 (((x3 + x8)).toNatClampNeg)))) : Int32) else (σ.1 58 (((x3 + x8)).toNatClampNeg)))) 59 ((((3 * x1) + x8)).toNatClampNeg) (if x2 = 0 then ((σ.1 59 (((x3 + x8)).toNatClampNeg)) : Int32) else (((-x5) * x6) * (if x4 = 0 then ((σ.1 58 (((x3 + x8)).toNatClampNeg)) : Int32) else (σ.1 57 (((x3 + x8)).toNatClampNeg)))))) 56 ((((3 * x1) + x8)).toNatClampNeg) ((σ.1 56 (((x3 + x8)).toNatClampNeg)) + (x7 * ((if x4 = 0 then ((σ.1 58 (((x3 + x8)).toNatClampNeg)) : Int32) else (σ.1 57 (((x3 + x8)).toNatClampNeg))) - (if x2 = 0 then ((if x4 = 0 then ((σ.1 58 (((x3 + x8)).toNatClampNeg)) : Int32) else (σ.1 57 (((x3 + x8)).toNatClampNeg))) : Int32) else ((x5 * x6) * (σ.1 59 (((x3 + x8)).toNatClampNeg)))))))) x1 x2 x3 x4 x5 x6 x7 (x8 + 1)) else σ)
def q_89_130 : Nat → am_M → Int32 → Int32 → Int32 → Int32 → Int32 → Int32 → Int32 → Int32 → Prop
  | 0, _, _, _, _, _, _, _, _, _ => False
  | n + 1, σ, x1, x2, x3, x4, x5, x6, x7, x8 => (x8 < 3) → ((((x4 = 0) → (¬ ((x3 + x8) < 0 ∨ 39 ≤ ((x3 + x8)).toNatClampNeg))) ∧ (¬ (x4 = 0) → (¬ ((x3 + x8) < 0 ∨ 39 ≤ ((x3 + x8)).toNatClampNeg)))) ∧ ((¬ (x2 = 0) → (¬ ((x3 + x8) < 0 ∨ 39 ≤ ((x3 + x8)).toNatClampNeg))) ∧ (((x4 = 0) → (¬ ((x3 + x8) < 0 ∨ 39 ≤ ((x3 + x8)).toNatClampNeg))) ∧ ((¬ (((3 * x1) + x8) < 0 ∨ 39 ≤ (((3 * x1) + x8)).toNatClampNeg)) ∧ ((¬ (x4 = 0) → (¬ ((x3 + x8) < 0 ∨ 39 ≤ ((x3 + x8)).toNatClampNeg))) ∧ ((¬ (((3 * x1) + x8) < 0 ∨ 39 ≤ (((3 * x1) + x8)).toNatClampNeg)) ∧ (((x2 = 0) → (¬ ((x3 + x8) < 0 ∨ 39 ≤ ((x3 + x8)).toNatClampNeg))) ∧ ((¬ (((3 * x1) + x8) < 0 ∨ 39 ≤ (((3 * x1) + x8)).toNatClampNeg)) ∧ ((¬ ((x3 + x8) < 0 ∨ 39 ≤ ((x3 + x8)).toNatClampNeg)) ∧ ((¬ (((3 * x1) + x8) < 0 ∨ 39 ≤ (((3 * x1) + x8)).toNatClampNeg)) ∧ (q_89_130 n (am_put (am_put (am_put (am_put σ 57 ((((3 * x1) + x8)).toNatClampNeg) (if x4 = 0 then ((σ.1 57 (((x3 + x8)).toNatClampNeg)) : Int32) else (if x2 = 0 then ((if x4 = 0 then ((σ.1 58 (((x3 + x8)).toNatClampNeg)) : Int32) else (σ.1 57 (((x3 + x8)).toNatClampNeg))) : Int32) else ((x5 * x6) * (σ.1 59 (((x3 + x8)).toNatClampNeg)))))) 58 ((((3 * x1) + x8)).toNatClampNeg) (if x4 = 0 then ((if x2 = 0 then ((if x4 = 0 then ((σ.1 58 (((x3 + x8)).toNatClampNeg)) : Int32) else (σ.1 57 (((x3 + x8)).toNatClampNeg))) : Int32) else ((x5 * x6) * (σ.1 59 (((x3 + x8)).toNatClampNeg)))) : Int32) else (σ.1 58 (((x3 + x8)).toNatClampNeg)))) 59 ((((3 * x1) + x8)).toNatClampNeg) (if x2 = 0 then ((σ.1 59 (((x3 + x8)).toNatClampNeg)) : Int32) else (((-x5) * x6) * (if x4 = 0 then ((σ.1 58 (((x3 + x8)).toNatClampNeg)) : Int32) else (σ.1 57 (((x3 + x8)).toNatClampNeg)))))) 56 ((((3 * x1) + x8)).toNatClampNeg) ((σ.1 56 (((x3 + x8)).toNatClampNeg)) + (x7 * ((if x4 = 0 then ((σ.1 58 (((x3 + x8)).toNatClampNeg)) : Int32) else (σ.1 57 (((x3 + x8)).toNatClampNeg))) - (if x2 = 0 then ((if x4 = 0 then ((σ.1 58 (((x3 + x8)).toNatClampNeg)) : Int32) else (σ.1 57 (((x3 + x8)).toNatClampNeg))) : Int32) else ((x5 * x6) * (σ.1 59 (((x3 + x8)).toNatClampNeg)))))))) x1 x2 x3 x4 x5 x6 x7 (x8 + 1))))))))))))
set_option maxRecDepth 20000 in
theorem t_89_130 (L : Nat) : ∀ (n : Nat) (σ : am_M) (x1 : Int32) (x2 : Int32) (x3 : Int32) (x4 : Int32) (x5 : Int32) (x6 : Int32) (x7 : Int32) (x8 : Int32) (o9 : Option am_V) (o10 : Option am_V), q_89_130 n σ x1 x2 x3 x4 x5 x6 x7 x8 → am_r L 89 130 [some (.inr (.inr (50, none))), some (.inl x1), some (.inl x2), some (.inl x3), some (.inl x4), some (.inl x5), some (.inl x6), some (.inl x7), some (.inl x8), o9, o10] [] σ = some (none, am_sh0 L, (l_89_130 n σ x1 x2 x3 x4 x5 x6 x7 x8)) := by
  intro n
  induction n with
  | zero => intro σ x1 x2 x3 x4 x5 x6 x7 x8 o9 o10 h; exact h.elim
  | succ n ih =>
    intro σ x1 x2 x3 x4 x5 x6 x7 x8 o9 o10 h
    unfold q_89_130 at h
    unfold l_89_130
    refine (e_89_130 _ _ _ _ _ _ _ _ _ _ _ _).trans ?_
    refine am_fkVm (fun hc269 => ?_) (fun hc269 => ?_)
    · refine Eq.trans (b := am_r L 89 162 [some (.inr (.inr (50, none))), some (.inl x1), some (.inl x2), some (.inl x3), some (.inl x4), some (.inl x5), some (.inl x6), some (.inl x7), some (.inl x8), o9, o10] [.inl (if x4 = 0 then ((σ.1 58 (((x3 + x8)).toNatClampNeg)) : Int32) else (σ.1 57 (((x3 + x8)).toNatClampNeg)))] σ) ?_ ?_
      · by_cases hc270 : x4 = 0
        · refine (if_pos hc270).trans ?_
          refine Eq.trans (b := am_r L 89 162 [some (.inr (.inr (50, none))), some (.inl x1), some (.inl x2), some (.inl x3), some (.inl x4), some (.inl x5), some (.inl x6), some (.inl x7), some (.inl x8), o9, o10] [.inl (σ.1 58 (((x3 + x8)).toNatClampNeg))] σ) ?_ ?_
          · refine (e_89_153 _ _ _ _ _ _ _ _ _ _ _ _).trans ?_
            refine (if_neg (((h hc269).1.1 hc270))).trans ?_
            rfl
          · first | with_reducible rfl | simp only [if_pos hc270]
        · refine (if_neg hc270).trans ?_
          refine Eq.trans (b := am_r L 89 162 [some (.inr (.inr (50, none))), some (.inl x1), some (.inl x2), some (.inl x3), some (.inl x4), some (.inl x5), some (.inl x6), some (.inl x7), some (.inl x8), o9, o10] [.inl (σ.1 57 (((x3 + x8)).toNatClampNeg))] σ) ?_ ?_
          · refine (if_neg (((h hc269).1.2 hc270))).trans ?_
            rfl
          · first | with_reducible rfl | simp only [if_neg hc270]
      refine (e_89_162 _ _ _ _ _ _ _ _ _ _ _ _ _).trans ?_
      refine Eq.trans (b := am_r L 89 188 [some (.inr (.inr (50, none))), some (.inl x1), some (.inl x2), some (.inl x3), some (.inl x4), some (.inl x5), some (.inl x6), some (.inl x7), some (.inl x8), some (.inl (if x4 = 0 then ((σ.1 58 (((x3 + x8)).toNatClampNeg)) : Int32) else (σ.1 57 (((x3 + x8)).toNatClampNeg)))), o10] [.inl (if x2 = 0 then ((if x4 = 0 then ((σ.1 58 (((x3 + x8)).toNatClampNeg)) : Int32) else (σ.1 57 (((x3 + x8)).toNatClampNeg))) : Int32) else ((x5 * x6) * (σ.1 59 (((x3 + x8)).toNatClampNeg))))] σ) ?_ ?_
      · by_cases hc271 : x2 = 0
        · refine (if_pos hc271).trans ?_
          refine Eq.trans (b := am_r L 89 188 [some (.inr (.inr (50, none))), some (.inl x1), some (.inl x2), some (.inl x3), some (.inl x4), some (.inl x5), some (.inl x6), some (.inl x7), some (.inl x8), some (.inl (if x4 = 0 then ((σ.1 58 (((x3 + x8)).toNatClampNeg)) : Int32) else (σ.1 57 (((x3 + x8)).toNatClampNeg)))), o10] [.inl (if x4 = 0 then ((σ.1 58 (((x3 + x8)).toNatClampNeg)) : Int32) else (σ.1 57 (((x3 + x8)).toNatClampNeg)))] σ) ?_ ?_
          · refine (e_89_186 _ _ _ _ _ _ _ _ _ _ _ _).trans ?_
            rfl
          · first | with_reducible rfl | simp only [if_pos hc271]
        · refine (if_neg hc271).trans ?_
          refine Eq.trans (b := am_r L 89 188 [some (.inr (.inr (50, none))), some (.inl x1), some (.inl x2), some (.inl x3), some (.inl x4), some (.inl x5), some (.inl x6), some (.inl x7), some (.inl x8), some (.inl (if x4 = 0 then ((σ.1 58 (((x3 + x8)).toNatClampNeg)) : Int32) else (σ.1 57 (((x3 + x8)).toNatClampNeg)))), o10] [.inl ((x5 * x6) * (σ.1 59 (((x3 + x8)).toNatClampNeg)))] σ) ?_ ?_
          · refine (if_neg (((h hc269).2.1 hc271))).trans ?_
            rfl
          · first | with_reducible rfl | simp only [if_neg hc271]
      refine (e_89_188 _ _ _ _ _ _ _ _ _ _ _ _ _).trans ?_
      refine Eq.trans (b := am_r L 89 219 [some (.inr (.inr (50, none))), some (.inl x1), some (.inl x2), some (.inl x3), some (.inl x4), some (.inl x5), some (.inl x6), some (.inl x7), some (.inl x8), some (.inl (if x4 = 0 then ((σ.1 58 (((x3 + x8)).toNatClampNeg)) : Int32) else (σ.1 57 (((x3 + x8)).toNatClampNeg)))), some (.inl (if x2 = 0 then ((if x4 = 0 then ((σ.1 58 (((x3 + x8)).toNatClampNeg)) : Int32) else (σ.1 57 (((x3 + x8)).toNatClampNeg))) : Int32) else ((x5 * x6) * (σ.1 59 (((x3 + x8)).toNatClampNeg)))))] [.inl (if x4 = 0 then ((σ.1 57 (((x3 + x8)).toNatClampNeg)) : Int32) else (if x2 = 0 then ((if x4 = 0 then ((σ.1 58 (((x3 + x8)).toNatClampNeg)) : Int32) else (σ.1 57 (((x3 + x8)).toNatClampNeg))) : Int32) else ((x5 * x6) * (σ.1 59 (((x3 + x8)).toNatClampNeg))))), .inl ((3 * x1) + x8), .inr (.inr (57, none))] σ) ?_ ?_
      · by_cases hc272 : x4 = 0
        · refine (if_pos hc272).trans ?_
          refine Eq.trans (b := am_r L 89 219 [some (.inr (.inr (50, none))), some (.inl x1), some (.inl x2), some (.inl x3), some (.inl x4), some (.inl x5), some (.inl x6), some (.inl x7), some (.inl x8), some (.inl (if x4 = 0 then ((σ.1 58 (((x3 + x8)).toNatClampNeg)) : Int32) else (σ.1 57 (((x3 + x8)).toNatClampNeg)))), some (.inl (if x2 = 0 then ((if x4 = 0 then ((σ.1 58 (((x3 + x8)).toNatClampNeg)) : Int32) else (σ.1 57 (((x3 + x8)).toNatClampNeg))) : Int32) else ((x5 * x6) * (σ.1 59 (((x3 + x8)).toNatClampNeg)))))] [.inl (σ.1 57 (((x3 + x8)).toNatClampNeg)), .inl ((3 * x1) + x8), .inr (.inr (57, none))] σ) ?_ ?_
          · refine (e_89_210 _ _ _ _ _ _ _ _ _ _ _ _ _).trans ?_
            refine (if_neg (((h hc269).2.2.1 hc272))).trans ?_
            rfl
          · first | with_reducible rfl | simp only [if_pos hc272]
        · refine (if_neg hc272).trans ?_
          refine Eq.trans (b := am_r L 89 219 [some (.inr (.inr (50, none))), some (.inl x1), some (.inl x2), some (.inl x3), some (.inl x4), some (.inl x5), some (.inl x6), some (.inl x7), some (.inl x8), some (.inl (if x4 = 0 then ((σ.1 58 (((x3 + x8)).toNatClampNeg)) : Int32) else (σ.1 57 (((x3 + x8)).toNatClampNeg)))), some (.inl (if x2 = 0 then ((if x4 = 0 then ((σ.1 58 (((x3 + x8)).toNatClampNeg)) : Int32) else (σ.1 57 (((x3 + x8)).toNatClampNeg))) : Int32) else ((x5 * x6) * (σ.1 59 (((x3 + x8)).toNatClampNeg)))))] [.inl (if x2 = 0 then ((if x4 = 0 then ((σ.1 58 (((x3 + x8)).toNatClampNeg)) : Int32) else (σ.1 57 (((x3 + x8)).toNatClampNeg))) : Int32) else ((x5 * x6) * (σ.1 59 (((x3 + x8)).toNatClampNeg)))), .inl ((3 * x1) + x8), .inr (.inr (57, none))] σ) ?_ ?_
          · rfl
          · first | with_reducible rfl | simp only [if_neg hc272]
      refine (e_89_219 _ _ _ _ _ _ _ _ _ _ _ _ _ _).trans ?_
      refine (if_neg ((h hc269).2.2.2.1)).trans ?_
      refine Eq.trans (b := am_r L 89 249 [some (.inr (.inr (50, none))), some (.inl x1), some (.inl x2), some (.inl x3), some (.inl x4), some (.inl x5), some (.inl x6), some (.inl x7), some (.inl x8), some (.inl (if x4 = 0 then ((σ.1 58 (((x3 + x8)).toNatClampNeg)) : Int32) else (σ.1 57 (((x3 + x8)).toNatClampNeg)))), some (.inl (if x2 = 0 then ((if x4 = 0 then ((σ.1 58 (((x3 + x8)).toNatClampNeg)) : Int32) else (σ.1 57 (((x3 + x8)).toNatClampNeg))) : Int32) else ((x5 * x6) * (σ.1 59 (((x3 + x8)).toNatClampNeg)))))] [.inl (if x4 = 0 then ((if x2 = 0 then ((if x4 = 0 then ((σ.1 58 (((x3 + x8)).toNatClampNeg)) : Int32) else (σ.1 57 (((x3 + x8)).toNatClampNeg))) : Int32) else ((x5 * x6) * (σ.1 59 (((x3 + x8)).toNatClampNeg)))) : Int32) else (σ.1 58 (((x3 + x8)).toNatClampNeg))), .inl ((3 * x1) + x8), .inr (.inr (58, none))] (am_put σ 57 ((((3 * x1) + x8)).toNatClampNeg) (if x4 = 0 then ((σ.1 57 (((x3 + x8)).toNatClampNeg)) : Int32) else (if x2 = 0 then ((if x4 = 0 then ((σ.1 58 (((x3 + x8)).toNatClampNeg)) : Int32) else (σ.1 57 (((x3 + x8)).toNatClampNeg))) : Int32) else ((x5 * x6) * (σ.1 59 (((x3 + x8)).toNatClampNeg))))))) ?_ ?_
      · by_cases hc273 : x4 = 0
        · refine (if_pos hc273).trans ?_
          refine Eq.trans (b := am_r L 89 249 [some (.inr (.inr (50, none))), some (.inl x1), some (.inl x2), some (.inl x3), some (.inl x4), some (.inl x5), some (.inl x6), some (.inl x7), some (.inl x8), some (.inl (if x4 = 0 then ((σ.1 58 (((x3 + x8)).toNatClampNeg)) : Int32) else (σ.1 57 (((x3 + x8)).toNatClampNeg)))), some (.inl (if x2 = 0 then ((if x4 = 0 then ((σ.1 58 (((x3 + x8)).toNatClampNeg)) : Int32) else (σ.1 57 (((x3 + x8)).toNatClampNeg))) : Int32) else ((x5 * x6) * (σ.1 59 (((x3 + x8)).toNatClampNeg)))))] [.inl (if x2 = 0 then ((if x4 = 0 then ((σ.1 58 (((x3 + x8)).toNatClampNeg)) : Int32) else (σ.1 57 (((x3 + x8)).toNatClampNeg))) : Int32) else ((x5 * x6) * (σ.1 59 (((x3 + x8)).toNatClampNeg)))), .inl ((3 * x1) + x8), .inr (.inr (58, none))] (am_put σ 57 ((((3 * x1) + x8)).toNatClampNeg) (if x4 = 0 then ((σ.1 57 (((x3 + x8)).toNatClampNeg)) : Int32) else (if x2 = 0 then ((if x4 = 0 then ((σ.1 58 (((x3 + x8)).toNatClampNeg)) : Int32) else (σ.1 57 (((x3 + x8)).toNatClampNeg))) : Int32) else ((x5 * x6) * (σ.1 59 (((x3 + x8)).toNatClampNeg))))))) ?_ ?_
          · refine (e_89_247 _ _ _ _ _ _ _ _ _ _ _ _ _).trans ?_
            rfl
          · first | with_reducible rfl | simp only [if_pos hc273]
        · refine (if_neg hc273).trans ?_
          refine Eq.trans (b := am_r L 89 249 [some (.inr (.inr (50, none))), some (.inl x1), some (.inl x2), some (.inl x3), some (.inl x4), some (.inl x5), some (.inl x6), some (.inl x7), some (.inl x8), some (.inl (if x4 = 0 then ((σ.1 58 (((x3 + x8)).toNatClampNeg)) : Int32) else (σ.1 57 (((x3 + x8)).toNatClampNeg)))), some (.inl (if x2 = 0 then ((if x4 = 0 then ((σ.1 58 (((x3 + x8)).toNatClampNeg)) : Int32) else (σ.1 57 (((x3 + x8)).toNatClampNeg))) : Int32) else ((x5 * x6) * (σ.1 59 (((x3 + x8)).toNatClampNeg)))))] [.inl (σ.1 58 (((x3 + x8)).toNatClampNeg)), .inl ((3 * x1) + x8), .inr (.inr (58, none))] (am_put σ 57 ((((3 * x1) + x8)).toNatClampNeg) (if x4 = 0 then ((σ.1 57 (((x3 + x8)).toNatClampNeg)) : Int32) else (if x2 = 0 then ((if x4 = 0 then ((σ.1 58 (((x3 + x8)).toNatClampNeg)) : Int32) else (σ.1 57 (((x3 + x8)).toNatClampNeg))) : Int32) else ((x5 * x6) * (σ.1 59 (((x3 + x8)).toNatClampNeg))))))) ?_ ?_
          · refine (if_neg (((h hc269).2.2.2.2.1 hc273))).trans ?_
            rfl
          · first | with_reducible rfl | simp only [if_neg hc273]
      refine (e_89_249 _ _ _ _ _ _ _ _ _ _ _ _ _ _).trans ?_
      refine (if_neg ((h hc269).2.2.2.2.2.1)).trans ?_
      refine Eq.trans (b := am_r L 89 285 [some (.inr (.inr (50, none))), some (.inl x1), some (.inl x2), some (.inl x3), some (.inl x4), some (.inl x5), some (.inl x6), some (.inl x7), some (.inl x8), some (.inl (if x4 = 0 then ((σ.1 58 (((x3 + x8)).toNatClampNeg)) : Int32) else (σ.1 57 (((x3 + x8)).toNatClampNeg)))), some (.inl (if x2 = 0 then ((if x4 = 0 then ((σ.1 58 (((x3 + x8)).toNatClampNeg)) : Int32) else (σ.1 57 (((x3 + x8)).toNatClampNeg))) : Int32) else ((x5 * x6) * (σ.1 59 (((x3 + x8)).toNatClampNeg)))))] [.inl (if x2 = 0 then ((σ.1 59 (((x3 + x8)).toNatClampNeg)) : Int32) else (((-x5) * x6) * (if x4 = 0 then ((σ.1 58 (((x3 + x8)).toNatClampNeg)) : Int32) else (σ.1 57 (((x3 + x8)).toNatClampNeg))))), .inl ((3 * x1) + x8), .inr (.inr (59, none))] (am_put (am_put σ 57 ((((3 * x1) + x8)).toNatClampNeg) (if x4 = 0 then ((σ.1 57 (((x3 + x8)).toNatClampNeg)) : Int32) else (if x2 = 0 then ((if x4 = 0 then ((σ.1 58 (((x3 + x8)).toNatClampNeg)) : Int32) else (σ.1 57 (((x3 + x8)).toNatClampNeg))) : Int32) else ((x5 * x6) * (σ.1 59 (((x3 + x8)).toNatClampNeg)))))) 58 ((((3 * x1) + x8)).toNatClampNeg) (if x4 = 0 then ((if x2 = 0 then ((if x4 = 0 then ((σ.1 58 (((x3 + x8)).toNatClampNeg)) : Int32) else (σ.1 57 (((x3 + x8)).toNatClampNeg))) : Int32) else ((x5 * x6) * (σ.1 59 (((x3 + x8)).toNatClampNeg)))) : Int32) else (σ.1 58 (((x3 + x8)).toNatClampNeg))))) ?_ ?_
      · by_cases hc274 : x2 = 0
        · refine (if_pos hc274).trans ?_
          refine Eq.trans (b := am_r L 89 285 [some (.inr (.inr (50, none))), some (.inl x1), some (.inl x2), some (.inl x3), some (.inl x4), some (.inl x5), some (.inl x6), some (.inl x7), some (.inl x8), some (.inl (if x4 = 0 then ((σ.1 58 (((x3 + x8)).toNatClampNeg)) : Int32) else (σ.1 57 (((x3 + x8)).toNatClampNeg)))), some (.inl (if x2 = 0 then ((if x4 = 0 then ((σ.1 58 (((x3 + x8)).toNatClampNeg)) : Int32) else (σ.1 57 (((x3 + x8)).toNatClampNeg))) : Int32) else ((x5 * x6) * (σ.1 59 (((x3 + x8)).toNatClampNeg)))))] [.inl (σ.1 59 (((x3 + x8)).toNatClampNeg)), .inl ((3 * x1) + x8), .inr (.inr (59, none))] (am_put (am_put σ 57 ((((3 * x1) + x8)).toNatClampNeg) (if x4 = 0 then ((σ.1 57 (((x3 + x8)).toNatClampNeg)) : Int32) else (if x2 = 0 then ((if x4 = 0 then ((σ.1 58 (((x3 + x8)).toNatClampNeg)) : Int32) else (σ.1 57 (((x3 + x8)).toNatClampNeg))) : Int32) else ((x5 * x6) * (σ.1 59 (((x3 + x8)).toNatClampNeg)))))) 58 ((((3 * x1) + x8)).toNatClampNeg) (if x4 = 0 then ((if x2 = 0 then ((if x4 = 0 then ((σ.1 58 (((x3 + x8)).toNatClampNeg)) : Int32) else (σ.1 57 (((x3 + x8)).toNatClampNeg))) : Int32) else ((x5 * x6) * (σ.1 59 (((x3 + x8)).toNatClampNeg)))) : Int32) else (σ.1 58 (((x3 + x8)).toNatClampNeg))))) ?_ ?_
          · refine (e_89_276 _ _ _ _ _ _ _ _ _ _ _ _ _).trans ?_
            refine (if_neg (((h hc269).2.2.2.2.2.2.1 hc274))).trans ?_
            rfl
          · first | with_reducible rfl | simp only [if_pos hc274]
        · refine (if_neg hc274).trans ?_
          refine Eq.trans (b := am_r L 89 285 [some (.inr (.inr (50, none))), some (.inl x1), some (.inl x2), some (.inl x3), some (.inl x4), some (.inl x5), some (.inl x6), some (.inl x7), some (.inl x8), some (.inl (if x4 = 0 then ((σ.1 58 (((x3 + x8)).toNatClampNeg)) : Int32) else (σ.1 57 (((x3 + x8)).toNatClampNeg)))), some (.inl (if x2 = 0 then ((if x4 = 0 then ((σ.1 58 (((x3 + x8)).toNatClampNeg)) : Int32) else (σ.1 57 (((x3 + x8)).toNatClampNeg))) : Int32) else ((x5 * x6) * (σ.1 59 (((x3 + x8)).toNatClampNeg)))))] [.inl (((-x5) * x6) * (if x4 = 0 then ((σ.1 58 (((x3 + x8)).toNatClampNeg)) : Int32) else (σ.1 57 (((x3 + x8)).toNatClampNeg)))), .inl ((3 * x1) + x8), .inr (.inr (59, none))] (am_put (am_put σ 57 ((((3 * x1) + x8)).toNatClampNeg) (if x4 = 0 then ((σ.1 57 (((x3 + x8)).toNatClampNeg)) : Int32) else (if x2 = 0 then ((if x4 = 0 then ((σ.1 58 (((x3 + x8)).toNatClampNeg)) : Int32) else (σ.1 57 (((x3 + x8)).toNatClampNeg))) : Int32) else ((x5 * x6) * (σ.1 59 (((x3 + x8)).toNatClampNeg)))))) 58 ((((3 * x1) + x8)).toNatClampNeg) (if x4 = 0 then ((if x2 = 0 then ((if x4 = 0 then ((σ.1 58 (((x3 + x8)).toNatClampNeg)) : Int32) else (σ.1 57 (((x3 + x8)).toNatClampNeg))) : Int32) else ((x5 * x6) * (σ.1 59 (((x3 + x8)).toNatClampNeg)))) : Int32) else (σ.1 58 (((x3 + x8)).toNatClampNeg))))) ?_ ?_
          · rfl
          · first | with_reducible rfl | simp only [if_neg hc274]
      refine (e_89_285 _ _ _ _ _ _ _ _ _ _ _ _ _ _).trans ?_
      refine (if_neg ((h hc269).2.2.2.2.2.2.2.1)).trans ?_
      refine (if_neg ((h hc269).2.2.2.2.2.2.2.2.1)).trans ?_
      refine (if_neg ((h hc269).2.2.2.2.2.2.2.2.2.1)).trans ?_
      refine (e_89_315 _ _ _ _ _ _ _ _ _ _ _ _).trans ?_
      exact ih (am_put (am_put (am_put (am_put σ 57 ((((3 * x1) + x8)).toNatClampNeg) (if x4 = 0 then ((σ.1 57 (((x3 + x8)).toNatClampNeg)) : Int32) else (if x2 = 0 then ((if x4 = 0 then ((σ.1 58 (((x3 + x8)).toNatClampNeg)) : Int32) else (σ.1 57 (((x3 + x8)).toNatClampNeg))) : Int32) else ((x5 * x6) * (σ.1 59 (((x3 + x8)).toNatClampNeg)))))) 58 ((((3 * x1) + x8)).toNatClampNeg) (if x4 = 0 then ((if x2 = 0 then ((if x4 = 0 then ((σ.1 58 (((x3 + x8)).toNatClampNeg)) : Int32) else (σ.1 57 (((x3 + x8)).toNatClampNeg))) : Int32) else ((x5 * x6) * (σ.1 59 (((x3 + x8)).toNatClampNeg)))) : Int32) else (σ.1 58 (((x3 + x8)).toNatClampNeg)))) 59 ((((3 * x1) + x8)).toNatClampNeg) (if x2 = 0 then ((σ.1 59 (((x3 + x8)).toNatClampNeg)) : Int32) else (((-x5) * x6) * (if x4 = 0 then ((σ.1 58 (((x3 + x8)).toNatClampNeg)) : Int32) else (σ.1 57 (((x3 + x8)).toNatClampNeg)))))) 56 ((((3 * x1) + x8)).toNatClampNeg) ((σ.1 56 (((x3 + x8)).toNatClampNeg)) + (x7 * ((if x4 = 0 then ((σ.1 58 (((x3 + x8)).toNatClampNeg)) : Int32) else (σ.1 57 (((x3 + x8)).toNatClampNeg))) - (if x2 = 0 then ((if x4 = 0 then ((σ.1 58 (((x3 + x8)).toNatClampNeg)) : Int32) else (σ.1 57 (((x3 + x8)).toNatClampNeg))) : Int32) else ((x5 * x6) * (σ.1 59 (((x3 + x8)).toNatClampNeg)))))))) x1 x2 x3 x4 x5 x6 x7 (x8 + 1) (some (.inl (if x4 = 0 then ((σ.1 58 (((x3 + x8)).toNatClampNeg)) : Int32) else (σ.1 57 (((x3 + x8)).toNatClampNeg))))) (some (.inl (if x2 = 0 then ((if x4 = 0 then ((σ.1 58 (((x3 + x8)).toNatClampNeg)) : Int32) else (σ.1 57 (((x3 + x8)).toNatClampNeg))) : Int32) else ((x5 * x6) * (σ.1 59 (((x3 + x8)).toNatClampNeg)))))) ((h hc269).2.2.2.2.2.2.2.2.2.2)
    · refine (e_89_321 _ _ _ _ _ _ _ _ _ _ _ _).trans ?_
      rfl
def p_89 (σ : am_M) (x1 : Int32) (x2 : Int32) : Prop := (¬ (x1 < 0 ∨ 13 ≤ x1.toNatClampNeg)) ∧ ((¬ (x1 < 0 ∨ 13 ≤ x1.toNatClampNeg)) ∧ ((¬ (x1 < 0 ∨ 13 ≤ x1.toNatClampNeg)) ∧ ((¬ (x1 < 0 ∨ 13 ≤ x1.toNatClampNeg)) ∧ (((((if ((σ.1 52 x1.toNatClampNeg) - (σ.1 52 x1.toNatClampNeg) / 2 * 2) = 0 then (1 : Int32) else 0) = 0) → ((¬ (x1 < 0 ∨ 13 ≤ x1.toNatClampNeg)) ∧ ((¬ (x1 < 0 ∨ 13 ≤ x1.toNatClampNeg)) ∧ (¬ (((4 * (σ.1 51 x1.toNatClampNeg)) + (if (σ.1 52 x1.toNatClampNeg) = 1 then (3 : Int32) else 1)) < 0 ∨ 52 ≤ (((4 * (σ.1 51 x1.toNatClampNeg)) + (if (σ.1 52 x1.toNatClampNeg) = 1 then (3 : Int32) else 1))).toNatClampNeg))))) ∧ (¬ ((if ((σ.1 52 x1.toNatClampNeg) - (σ.1 52 x1.toNatClampNeg) / 2 * 2) = 0 then (1 : Int32) else 0) = 0) → ((¬ (x1 < 0 ∨ 13 ≤ x1.toNatClampNeg)) ∧ ((¬ (x1 < 0 ∨ 13 ≤ x1.toNatClampNeg)) ∧ (¬ (((4 * (σ.1 51 x1.toNatClampNeg)) + (if (σ.1 52 x1.toNatClampNeg) = 0 then (2 : Int32) else 0)) < 0 ∨ 52 ≤ (((4 * (σ.1 51 x1.toNatClampNeg)) + (if (σ.1 52 x1.toNatClampNeg) = 0 then (2 : Int32) else 0))).toNatClampNeg)))))) ∧ (q_89_130 14 σ x1 x2 (3 * (σ.1 51 x1.toNatClampNeg)) (if ((σ.1 52 x1.toNatClampNeg) - (σ.1 52 x1.toNatClampNeg) / 2 * 2) = 0 then (1 : Int32) else 0) (if (σ.1 52 x1.toNatClampNeg) < 2 then (1 : Int32) else (-1)) (if (σ.1 53 x1.toNatClampNeg) = 0 then ((-1) : Int32) else 1) (if (if ((σ.1 52 x1.toNatClampNeg) - (σ.1 52 x1.toNatClampNeg) / 2 * 2) = 0 then (1 : Int32) else 0) = 0 then ((σ.1 54 ((((4 * (σ.1 51 x1.toNatClampNeg)) + (if (σ.1 52 x1.toNatClampNeg) = 1 then (3 : Int32) else 1))).toNatClampNeg)) : Int32) else (σ.1 54 ((((4 * (σ.1 51 x1.toNatClampNeg)) + (if (σ.1 52 x1.toNatClampNeg) = 0 then (2 : Int32) else 0))).toNatClampNeg))) 0)))))
def f_89 (σ : am_M) (x1 : Int32) (x2 : Int32) : am_M := (l_89_130 14 σ x1 x2 (3 * (σ.1 51 x1.toNatClampNeg)) (if ((σ.1 52 x1.toNatClampNeg) - (σ.1 52 x1.toNatClampNeg) / 2 * 2) = 0 then (1 : Int32) else 0) (if (σ.1 52 x1.toNatClampNeg) < 2 then (1 : Int32) else (-1)) (if (σ.1 53 x1.toNatClampNeg) = 0 then ((-1) : Int32) else 1) (if (if ((σ.1 52 x1.toNatClampNeg) - (σ.1 52 x1.toNatClampNeg) / 2 * 2) = 0 then (1 : Int32) else 0) = 0 then ((σ.1 54 ((((4 * (σ.1 51 x1.toNatClampNeg)) + (if (σ.1 52 x1.toNatClampNeg) = 1 then (3 : Int32) else 1))).toNatClampNeg)) : Int32) else (σ.1 54 ((((4 * (σ.1 51 x1.toNatClampNeg)) + (if (σ.1 52 x1.toNatClampNeg) = 0 then (2 : Int32) else 0))).toNatClampNeg))) 0)
set_option maxRecDepth 20000 in
theorem sf_89 (L : Nat) (σ : am_M) (x1 : Int32) (x2 : Int32) (h : p_89 σ x1 x2) : am_r L 89 0 [some (.inr (.inr (50, none))), some (.inl x1), some (.inl x2), none, none, none, none, none, none, none, none] [] σ = some (none, am_sh0 L, (f_89 σ x1 x2)) := by
  unfold p_89 at h
  unfold f_89
  refine (e_89_0 _ _ _ _).trans ?_
  refine (if_neg h.1).trans ?_
  refine (if_neg h.2.1).trans ?_
  refine Eq.trans (b := am_r L 89 25 [some (.inr (.inr (50, none))), some (.inl x1), some (.inl x2), some (.inl (3 * (σ.1 51 x1.toNatClampNeg))), none, none, none, none, none, none, none] [.inl (if ((σ.1 52 x1.toNatClampNeg) - (σ.1 52 x1.toNatClampNeg) / 2 * 2) = 0 then (1 : Int32) else 0)] σ) ?_ ?_
  · by_cases hc275 : ((σ.1 52 x1.toNatClampNeg) - (σ.1 52 x1.toNatClampNeg) / 2 * 2) = 0
    · refine (if_pos hc275).trans ?_
      refine Eq.trans (b := am_r L 89 25 [some (.inr (.inr (50, none))), some (.inl x1), some (.inl x2), some (.inl (3 * (σ.1 51 x1.toNatClampNeg))), none, none, none, none, none, none, none] [.inl 1] σ) ?_ ?_
      · rfl
      · first | with_reducible rfl | simp only [if_pos hc275]
    · refine (if_neg hc275).trans ?_
      refine Eq.trans (b := am_r L 89 25 [some (.inr (.inr (50, none))), some (.inl x1), some (.inl x2), some (.inl (3 * (σ.1 51 x1.toNatClampNeg))), none, none, none, none, none, none, none] [.inl 0] σ) ?_ ?_
      · refine (e_89_24 _ _ _ _ _).trans ?_
        rfl
      · first | with_reducible rfl | simp only [if_neg hc275]
  refine (e_89_25 _ _ _ _ _ _).trans ?_
  refine (if_neg h.2.2.1).trans ?_
  refine Eq.trans (b := am_r L 89 42 [some (.inr (.inr (50, none))), some (.inl x1), some (.inl x2), some (.inl (3 * (σ.1 51 x1.toNatClampNeg))), some (.inl (if ((σ.1 52 x1.toNatClampNeg) - (σ.1 52 x1.toNatClampNeg) / 2 * 2) = 0 then (1 : Int32) else 0)), none, none, none, none, none, none] [.inl (if (σ.1 52 x1.toNatClampNeg) < 2 then (1 : Int32) else (-1))] σ) ?_ ?_
  · by_cases hc276 : (σ.1 52 x1.toNatClampNeg) < 2
    · refine (if_pos hc276).trans ?_
      refine Eq.trans (b := am_r L 89 42 [some (.inr (.inr (50, none))), some (.inl x1), some (.inl x2), some (.inl (3 * (σ.1 51 x1.toNatClampNeg))), some (.inl (if ((σ.1 52 x1.toNatClampNeg) - (σ.1 52 x1.toNatClampNeg) / 2 * 2) = 0 then (1 : Int32) else 0)), none, none, none, none, none, none] [.inl 1] σ) ?_ ?_
      · rfl
      · first | with_reducible rfl | simp only [if_pos hc276]
    · refine (if_neg hc276).trans ?_
      refine Eq.trans (b := am_r L 89 42 [some (.inr (.inr (50, none))), some (.inl x1), some (.inl x2), some (.inl (3 * (σ.1 51 x1.toNatClampNeg))), some (.inl (if ((σ.1 52 x1.toNatClampNeg) - (σ.1 52 x1.toNatClampNeg) / 2 * 2) = 0 then (1 : Int32) else 0)), none, none, none, none, none, none] [.inl (-1)] σ) ?_ ?_
      · refine (e_89_41 _ _ _ _ _ _).trans ?_
        rfl
      · first | with_reducible rfl | simp only [if_neg hc276]
  refine (e_89_42 _ _ _ _ _ _ _).trans ?_
  refine (if_neg h.2.2.2.1).trans ?_
  refine Eq.trans (b := am_r L 89 58 [some (.inr (.inr (50, none))), some (.inl x1), some (.inl x2), some (.inl (3 * (σ.1 51 x1.toNatClampNeg))), some (.inl (if ((σ.1 52 x1.toNatClampNeg) - (σ.1 52 x1.toNatClampNeg) / 2 * 2) = 0 then (1 : Int32) else 0)), some (.inl (if (σ.1 52 x1.toNatClampNeg) < 2 then (1 : Int32) else (-1))), none, none, none, none, none] [.inl (if (σ.1 53 x1.toNatClampNeg) = 0 then ((-1) : Int32) else 1)] σ) ?_ ?_
  · by_cases hc277 : (σ.1 53 x1.toNatClampNeg) = 0
    · refine (if_pos hc277).trans ?_
      refine Eq.trans (b := am_r L 89 58 [some (.inr (.inr (50, none))), some (.inl x1), some (.inl x2), some (.inl (3 * (σ.1 51 x1.toNatClampNeg))), some (.inl (if ((σ.1 52 x1.toNatClampNeg) - (σ.1 52 x1.toNatClampNeg) / 2 * 2) = 0 then (1 : Int32) else 0)), some (.inl (if (σ.1 52 x1.toNatClampNeg) < 2 then (1 : Int32) else (-1))), none, none, none, none, none] [.inl (-1)] σ) ?_ ?_
      · refine (e_89_57 _ _ _ _ _ _ _).trans ?_
        rfl
      · first | with_reducible rfl | simp only [if_pos hc277]
    · refine (if_neg hc277).trans ?_
      refine Eq.trans (b := am_r L 89 58 [some (.inr (.inr (50, none))), some (.inl x1), some (.inl x2), some (.inl (3 * (σ.1 51 x1.toNatClampNeg))), some (.inl (if ((σ.1 52 x1.toNatClampNeg) - (σ.1 52 x1.toNatClampNeg) / 2 * 2) = 0 then (1 : Int32) else 0)), some (.inl (if (σ.1 52 x1.toNatClampNeg) < 2 then (1 : Int32) else (-1))), none, none, none, none, none] [.inl 1] σ) ?_ ?_
      · rfl
      · first | with_reducible rfl | simp only [if_neg hc277]
  refine (e_89_58 _ _ _ _ _ _ _ _).trans ?_
  refine Eq.trans (b := am_r L 89 125 [some (.inr (.inr (50, none))), some (.inl x1), some (.inl x2), some (.inl (3 * (σ.1 51 x1.toNatClampNeg))), some (.inl (if ((σ.1 52 x1.toNatClampNeg) - (σ.1 52 x1.toNatClampNeg) / 2 * 2) = 0 then (1 : Int32) else 0)), some (.inl (if (σ.1 52 x1.toNatClampNeg) < 2 then (1 : Int32) else (-1))), some (.inl (if (σ.1 53 x1.toNatClampNeg) = 0 then ((-1) : Int32) else 1)), none, none, none, none] [.inl (if (if ((σ.1 52 x1.toNatClampNeg) - (σ.1 52 x1.toNatClampNeg) / 2 * 2) = 0 then (1 : Int32) else 0) = 0 then ((σ.1 54 ((((4 * (σ.1 51 x1.toNatClampNeg)) + (if (σ.1 52 x1.toNatClampNeg) = 1 then (3 : Int32) else 1))).toNatClampNeg)) : Int32) else (σ.1 54 ((((4 * (σ.1 51 x1.toNatClampNeg)) + (if (σ.1 52 x1.toNatClampNeg) = 0 then (2 : Int32) else 0))).toNatClampNeg)))] σ) ?_ ?_
  · by_cases hc278 : (if ((σ.1 52 x1.toNatClampNeg) - (σ.1 52 x1.toNatClampNeg) / 2 * 2) = 0 then (1 : Int32) else 0) = 0
    · refine (if_pos hc278).trans ?_
      refine Eq.trans (b := am_r L 89 125 [some (.inr (.inr (50, none))), some (.inl x1), some (.inl x2), some (.inl (3 * (σ.1 51 x1.toNatClampNeg))), some (.inl (if ((σ.1 52 x1.toNatClampNeg) - (σ.1 52 x1.toNatClampNeg) / 2 * 2) = 0 then (1 : Int32) else 0)), some (.inl (if (σ.1 52 x1.toNatClampNeg) < 2 then (1 : Int32) else (-1))), some (.inl (if (σ.1 53 x1.toNatClampNeg) = 0 then ((-1) : Int32) else 1)), none, none, none, none] [.inl (σ.1 54 ((((4 * (σ.1 51 x1.toNatClampNeg)) + (if (σ.1 52 x1.toNatClampNeg) = 1 then (3 : Int32) else 1))).toNatClampNeg))] σ) ?_ ?_
      · refine (e_89_96 _ _ _ _ _ _ _ _).trans ?_
        refine (if_neg ((h.2.2.2.2.1.1 hc278).1)).trans ?_
        refine (if_neg ((h.2.2.2.2.1.1 hc278).2.1)).trans ?_
        refine Eq.trans (b := am_r L 89 123 [some (.inr (.inr (50, none))), some (.inl x1), some (.inl x2), some (.inl (3 * (σ.1 51 x1.toNatClampNeg))), some (.inl (if ((σ.1 52 x1.toNatClampNeg) - (σ.1 52 x1.toNatClampNeg) / 2 * 2) = 0 then (1 : Int32) else 0)), some (.inl (if (σ.1 52 x1.toNatClampNeg) < 2 then (1 : Int32) else (-1))), some (.inl (if (σ.1 53 x1.toNatClampNeg) = 0 then ((-1) : Int32) else 1)), none, none, none, none] [.inl (if (σ.1 52 x1.toNatClampNeg) = 1 then (3 : Int32) else 1), .inl (4 * (σ.1 51 x1.toNatClampNeg)), .inr (.inr (54, none))] σ) ?_ ?_
        · by_cases hc279 : (σ.1 52 x1.toNatClampNeg) = 1
          · refine (if_pos hc279).trans ?_
            refine Eq.trans (b := am_r L 89 123 [some (.inr (.inr (50, none))), some (.inl x1), some (.inl x2), some (.inl (3 * (σ.1 51 x1.toNatClampNeg))), some (.inl (if ((σ.1 52 x1.toNatClampNeg) - (σ.1 52 x1.toNatClampNeg) / 2 * 2) = 0 then (1 : Int32) else 0)), some (.inl (if (σ.1 52 x1.toNatClampNeg) < 2 then (1 : Int32) else (-1))), some (.inl (if (σ.1 53 x1.toNatClampNeg) = 0 then ((-1) : Int32) else 1)), none, none, none, none] [.inl 3, .inl (4 * (σ.1 51 x1.toNatClampNeg)), .inr (.inr (54, none))] σ) ?_ ?_
            · rfl
            · first | with_reducible rfl | simp only [if_pos hc279]
          · refine (if_neg hc279).trans ?_
            refine Eq.trans (b := am_r L 89 123 [some (.inr (.inr (50, none))), some (.inl x1), some (.inl x2), some (.inl (3 * (σ.1 51 x1.toNatClampNeg))), some (.inl (if ((σ.1 52 x1.toNatClampNeg) - (σ.1 52 x1.toNatClampNeg) / 2 * 2) = 0 then (1 : Int32) else 0)), some (.inl (if (σ.1 52 x1.toNatClampNeg) < 2 then (1 : Int32) else (-1))), some (.inl (if (σ.1 53 x1.toNatClampNeg) = 0 then ((-1) : Int32) else 1)), none, none, none, none] [.inl 1, .inl (4 * (σ.1 51 x1.toNatClampNeg)), .inr (.inr (54, none))] σ) ?_ ?_
            · refine (e_89_122 _ _ _ _ _ _ _ _ _).trans ?_
              rfl
            · first | with_reducible rfl | simp only [if_neg hc279]
        refine (e_89_123 _ _ _ _ _ _ _ _ _ _).trans ?_
        refine (if_neg ((h.2.2.2.2.1.1 hc278).2.2)).trans ?_
        rfl
      · first | with_reducible rfl | simp only [if_pos hc278]
    · refine (if_neg hc278).trans ?_
      refine Eq.trans (b := am_r L 89 125 [some (.inr (.inr (50, none))), some (.inl x1), some (.inl x2), some (.inl (3 * (σ.1 51 x1.toNatClampNeg))), some (.inl (if ((σ.1 52 x1.toNatClampNeg) - (σ.1 52 x1.toNatClampNeg) / 2 * 2) = 0 then (1 : Int32) else 0)), some (.inl (if (σ.1 52 x1.toNatClampNeg) < 2 then (1 : Int32) else (-1))), some (.inl (if (σ.1 53 x1.toNatClampNeg) = 0 then ((-1) : Int32) else 1)), none, none, none, none] [.inl (σ.1 54 ((((4 * (σ.1 51 x1.toNatClampNeg)) + (if (σ.1 52 x1.toNatClampNeg) = 0 then (2 : Int32) else 0))).toNatClampNeg))] σ) ?_ ?_
      · refine (if_neg ((h.2.2.2.2.1.2 hc278).1)).trans ?_
        refine (if_neg ((h.2.2.2.2.1.2 hc278).2.1)).trans ?_
        refine Eq.trans (b := am_r L 89 91 [some (.inr (.inr (50, none))), some (.inl x1), some (.inl x2), some (.inl (3 * (σ.1 51 x1.toNatClampNeg))), some (.inl (if ((σ.1 52 x1.toNatClampNeg) - (σ.1 52 x1.toNatClampNeg) / 2 * 2) = 0 then (1 : Int32) else 0)), some (.inl (if (σ.1 52 x1.toNatClampNeg) < 2 then (1 : Int32) else (-1))), some (.inl (if (σ.1 53 x1.toNatClampNeg) = 0 then ((-1) : Int32) else 1)), none, none, none, none] [.inl (if (σ.1 52 x1.toNatClampNeg) = 0 then (2 : Int32) else 0), .inl (4 * (σ.1 51 x1.toNatClampNeg)), .inr (.inr (54, none))] σ) ?_ ?_
        · by_cases hc280 : (σ.1 52 x1.toNatClampNeg) = 0
          · refine (if_pos hc280).trans ?_
            refine Eq.trans (b := am_r L 89 91 [some (.inr (.inr (50, none))), some (.inl x1), some (.inl x2), some (.inl (3 * (σ.1 51 x1.toNatClampNeg))), some (.inl (if ((σ.1 52 x1.toNatClampNeg) - (σ.1 52 x1.toNatClampNeg) / 2 * 2) = 0 then (1 : Int32) else 0)), some (.inl (if (σ.1 52 x1.toNatClampNeg) < 2 then (1 : Int32) else (-1))), some (.inl (if (σ.1 53 x1.toNatClampNeg) = 0 then ((-1) : Int32) else 1)), none, none, none, none] [.inl 2, .inl (4 * (σ.1 51 x1.toNatClampNeg)), .inr (.inr (54, none))] σ) ?_ ?_
            · rfl
            · first | with_reducible rfl | simp only [if_pos hc280]
          · refine (if_neg hc280).trans ?_
            refine Eq.trans (b := am_r L 89 91 [some (.inr (.inr (50, none))), some (.inl x1), some (.inl x2), some (.inl (3 * (σ.1 51 x1.toNatClampNeg))), some (.inl (if ((σ.1 52 x1.toNatClampNeg) - (σ.1 52 x1.toNatClampNeg) / 2 * 2) = 0 then (1 : Int32) else 0)), some (.inl (if (σ.1 52 x1.toNatClampNeg) < 2 then (1 : Int32) else (-1))), some (.inl (if (σ.1 53 x1.toNatClampNeg) = 0 then ((-1) : Int32) else 1)), none, none, none, none] [.inl 0, .inl (4 * (σ.1 51 x1.toNatClampNeg)), .inr (.inr (54, none))] σ) ?_ ?_
            · refine (e_89_90 _ _ _ _ _ _ _ _ _).trans ?_
              rfl
            · first | with_reducible rfl | simp only [if_neg hc280]
        refine (e_89_91 _ _ _ _ _ _ _ _ _ _).trans ?_
        refine (if_neg ((h.2.2.2.2.1.2 hc278).2.2)).trans ?_
        rfl
      · first | with_reducible rfl | simp only [if_neg hc278]
  refine (e_89_125 _ _ _ _ _ _ _ _ _).trans ?_
  exact t_89_130 L 14 σ x1 x2 (3 * (σ.1 51 x1.toNatClampNeg)) (if ((σ.1 52 x1.toNatClampNeg) - (σ.1 52 x1.toNatClampNeg) / 2 * 2) = 0 then (1 : Int32) else 0) (if (σ.1 52 x1.toNatClampNeg) < 2 then (1 : Int32) else (-1)) (if (σ.1 53 x1.toNatClampNeg) = 0 then ((-1) : Int32) else 1) (if (if ((σ.1 52 x1.toNatClampNeg) - (σ.1 52 x1.toNatClampNeg) / 2 * 2) = 0 then (1 : Int32) else 0) = 0 then ((σ.1 54 ((((4 * (σ.1 51 x1.toNatClampNeg)) + (if (σ.1 52 x1.toNatClampNeg) = 1 then (3 : Int32) else 1))).toNatClampNeg)) : Int32) else (σ.1 54 ((((4 * (σ.1 51 x1.toNatClampNeg)) + (if (σ.1 52 x1.toNatClampNeg) = 0 then (2 : Int32) else 0))).toNatClampNeg))) 0 none none h.2.2.2.2.2
def w_89 (σ : am_M) (x1 : Int32) (x2 : Int32) : am_M := f_89 σ x1 x2
theorem s_89 (L : Nat) (σ : am_M) (x1 : Int32) (x2 : Int32) (h : p_89 σ x1 x2) : am_r L 89 0 [some (.inr (.inr (50, none))), some (.inl x1), some (.inl x2), none, none, none, none, none, none, none, none] [] σ = some (none, am_sh0 L, w_89 σ x1 x2) := sf_89 L σ x1 x2 h
