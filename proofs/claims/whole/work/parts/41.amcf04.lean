-- 59: X4_meets
def l_59_55 (k39 : am_M → Int32 → Int32 → Int32 → Int32 × am_M) : Nat → am_M → Int32 → Int32 → Int32 → Int32 → Int32 × am_M
  | 0, σ, x1, x2, x3, x4 => (0, σ)
  | n + 1, σ, x1, x2, x3, x4 => (if x4 < (σ.1 2 0) then (l_59_55 k39 n σ x1 (if (σ.1 3 x4.toNatClampNeg) = x3 then (x2 : Int32) else (if (v_12 σ x3 x4) = 0 then ((if (v_12 σ x4 x3) = 0 then (x2 : Int32) else (x2 + 1)) : Int32) else (x2 + 1))) x3 (x4 + 1)) else (k39 σ x1 x2 (x3 + 1)))
def q_59_55 (c39 : am_M → Int32 → Int32 → Int32 → Prop) : Nat → am_M → Int32 → Int32 → Int32 → Int32 → Prop
  | 0, _, _, _, _, _ => False
  | n + 1, σ, x1, x2, x3, x4 => ((x4 < (σ.1 2 0)) → ((¬ (x4 < 0 ∨ 13 ≤ x4.toNatClampNeg)) ∧ ((¬ ((σ.1 3 x4.toNatClampNeg) = x3) → ((p_12 σ x3 x4) ∧ (((v_12 σ x3 x4) = 0) → (p_12 σ x4 x3)))) ∧ (q_59_55 c39 n σ x1 (if (σ.1 3 x4.toNatClampNeg) = x3 then (x2 : Int32) else (if (v_12 σ x3 x4) = 0 then ((if (v_12 σ x4 x3) = 0 then (x2 : Int32) else (x2 + 1)) : Int32) else (x2 + 1))) x3 (x4 + 1))))) ∧ (¬ (x4 < (σ.1 2 0)) → (c39 σ x1 x2 (x3 + 1)))
set_option maxRecDepth 20000 in
theorem t_59_55 (L : Nat) (k39 : am_M → Int32 → Int32 → Int32 → Int32 × am_M) (c39 : am_M → Int32 → Int32 → Int32 → Prop) (hk39 : ∀ (σ : am_M) (x1 : Int32) (x2 : Int32) (x3 : Int32) (o4 : Option am_V), c39 σ x1 x2 x3 → am_r L 59 39 [some (.inr (.inr (1, none))), some (.inl x1), some (.inl x2), some (.inl x3), o4] [] σ = some (some (.inl (k39 σ x1 x2 x3).1), am_sh0 L, (k39 σ x1 x2 x3).2)) : ∀ (n : Nat) (σ : am_M) (x1 : Int32) (x2 : Int32) (x3 : Int32) (x4 : Int32), q_59_55 c39 n σ x1 x2 x3 x4 → am_r L 59 55 [some (.inr (.inr (1, none))), some (.inl x1), some (.inl x2), some (.inl x3), some (.inl x4)] [] σ = some (some (.inl (l_59_55 k39 n σ x1 x2 x3 x4).1), am_sh0 L, (l_59_55 k39 n σ x1 x2 x3 x4).2) := by
  intro n
  induction n with
  | zero => intro σ x1 x2 x3 x4 h; exact h.elim
  | succ n ih =>
    intro σ x1 x2 x3 x4 h
    unfold q_59_55 at h
    unfold l_59_55
    refine (e_59_55 _ _ _ _ _ _).trans ?_
    by_cases hc97 : x4 < (σ.1 2 0)
    · simp only [if_pos hc97]
      all_goals
        refine (if_neg ((h.1 hc97).1)).trans ?_
        refine Eq.trans (b := am_r L 59 110 [some (.inr (.inr (1, none))), some (.inl x1), some (.inl (if (σ.1 3 x4.toNatClampNeg) = x3 then (x2 : Int32) else (if (v_12 σ x3 x4) = 0 then ((if (v_12 σ x4 x3) = 0 then (x2 : Int32) else (x2 + 1)) : Int32) else (x2 + 1)))), some (.inl x3), some (.inl x4)] [] σ) ?_ ?_
        · by_cases hc98 : (σ.1 3 x4.toNatClampNeg) = x3
          · simp only [if_pos hc98]
            all_goals
              rfl
          · simp only [if_neg hc98]
            all_goals
              refine (am_bind_i (s_12 L σ x3 x4 (((h.1 hc97).2.1 hc98).1))).trans ?_
              refine (e_59_91 _ _ _ _ _ _ _).trans ?_
              refine Eq.trans (b := am_r L 59 110 [some (.inr (.inr (1, none))), some (.inl x1), some (.inl (if (v_12 σ x3 x4) = 0 then ((if (v_12 σ x4 x3) = 0 then (x2 : Int32) else (x2 + 1)) : Int32) else (x2 + 1))), some (.inl x3), some (.inl x4)] [] σ) ?_ ?_
              · by_cases hc99 : (v_12 σ x3 x4) = 0
                · simp only [if_pos hc99]
                  all_goals
                    refine (am_bind_i (s_12 L σ x4 x3 ((((h.1 hc97).2.1 hc98).2 hc99)))).trans ?_
                    refine (e_59_104 _ _ _ _ _ _ _).trans ?_
                    refine Eq.trans (b := am_r L 59 110 [some (.inr (.inr (1, none))), some (.inl x1), some (.inl (if (v_12 σ x4 x3) = 0 then (x2 : Int32) else (x2 + 1))), some (.inl x3), some (.inl x4)] [] σ) ?_ ?_
                    · by_cases hc100 : (v_12 σ x4 x3) = 0
                      · simp only [if_pos hc100]
                        all_goals
                          rfl
                      · simp only [if_neg hc100]
                        all_goals
                          refine (e_59_107 _ _ _ _ _ _).trans ?_
                          rfl
                    rfl
                · simp only [if_neg hc99]
                  all_goals
                    refine (e_59_107 _ _ _ _ _ _).trans ?_
                    rfl
              rfl
        refine (e_59_110 _ _ _ _ _ _).trans ?_
        exact ih σ x1 (if (σ.1 3 x4.toNatClampNeg) = x3 then (x2 : Int32) else (if (v_12 σ x3 x4) = 0 then ((if (v_12 σ x4 x3) = 0 then (x2 : Int32) else (x2 + 1)) : Int32) else (x2 + 1))) x3 (x4 + 1) ((h.1 hc97).2.2)
    · simp only [if_neg hc97]
      all_goals
        refine (e_59_116 _ _ _ _ _ _).trans ?_
        exact hk39 σ x1 x2 (x3 + 1) (some (.inl x4)) ((h.2 hc97))
def l_59_39 : Nat → am_M → Int32 → Int32 → Int32 → Int32 × am_M
  | 0, σ, x1, x2, x3 => (0, σ)
  | n + 1, σ, x1, x2, x3 => (if x3 < (σ.1 2 0) then (l_59_55 (l_59_39 n) 14 σ x1 x2 x3 (x3 + 1)) else (x2, σ))
def q_59_39 : Nat → am_M → Int32 → Int32 → Int32 → Prop
  | 0, _, _, _, _ => False
  | n + 1, σ, x1, x2, x3 => (x3 < (σ.1 2 0)) → (q_59_55 (q_59_39 n) 14 σ x1 x2 x3 (x3 + 1))
set_option maxRecDepth 20000 in
theorem t_59_39 (L : Nat) : ∀ (n : Nat) (σ : am_M) (x1 : Int32) (x2 : Int32) (x3 : Int32) (o4 : Option am_V), q_59_39 n σ x1 x2 x3 → am_r L 59 39 [some (.inr (.inr (1, none))), some (.inl x1), some (.inl x2), some (.inl x3), o4] [] σ = some (some (.inl (l_59_39 n σ x1 x2 x3).1), am_sh0 L, (l_59_39 n σ x1 x2 x3).2) := by
  intro n
  induction n with
  | zero => intro σ x1 x2 x3 o4 h; exact h.elim
  | succ n ih =>
    intro σ x1 x2 x3 o4 h
    unfold q_59_39 at h
    unfold l_59_39
    refine (e_59_39 _ _ _ _ _ _).trans ?_
    by_cases hc101 : x3 < (σ.1 2 0)
    · simp only [if_pos hc101]
      all_goals
        exact t_59_55 L (l_59_39 n) (q_59_39 n) ih 14 σ x1 x2 x3 (x3 + 1) ((h hc101))
    · simp only [if_neg hc101]
      all_goals
        refine (e_59_122 _ _ _ _ _ _).trans ?_
        rfl
def p_59 (σ : am_M) (x1 : Int32) : Prop := ¬ ((σ.1 2 0) = 0) → (¬ ((v_29 σ x1) = 0) → ((p_1 σ x1) ∧ (q_59_39 14 (w_1 σ x1) x1 0 0)))
def f_59 (σ : am_M) (x1 : Int32) : Int32 × am_M := (if (σ.1 2 0) = 0 then ((-1), σ) else (if (v_29 σ x1) = 0 then ((-1), σ) else (l_59_39 14 (w_1 σ x1) x1 0 0)))
set_option maxRecDepth 20000 in
theorem sf_59 (L : Nat) (σ : am_M) (x1 : Int32) (h : p_59 σ x1) : am_r L 59 0 [some (.inr (.inr (1, none))), some (.inl x1), none, none, none] [] σ = some (some (.inl (f_59 σ x1).1), am_sh0 L, (f_59 σ x1).2) := by
  unfold p_59 at h
  unfold f_59
  refine (e_59_0 _ _ _).trans ?_
  by_cases hc102 : (σ.1 2 0) = 0
  · simp only [if_pos hc102]
    all_goals
      refine (e_59_21 _ _ _).trans ?_
      rfl
  · simp only [if_neg hc102]
    all_goals
      refine (am_bind_i (s_29 L σ x1)).trans ?_
      refine (e_59_18 _ _ _ _).trans ?_
      by_cases hc103 : (v_29 σ x1) = 0
      · simp only [if_pos hc103]
        all_goals
          refine (e_59_21 _ _ _).trans ?_
          rfl
      · simp only [if_neg hc103]
        all_goals
          refine (e_59_23 _ _ _).trans ?_
          refine (am_bind_v (s_1 L σ x1 (((h hc102) hc103).1))).trans ?_
          refine (e_59_35 _ _ _).trans ?_
          exact t_59_39 L 14 (w_1 σ x1) x1 0 0 none (((h hc102) hc103).2)
def v_59 (σ : am_M) (x1 : Int32) : Int32 := (f_59 σ x1).1
def w_59 (σ : am_M) (x1 : Int32) : am_M := (f_59 σ x1).2
theorem s_59 (L : Nat) (σ : am_M) (x1 : Int32) (h : p_59 σ x1) : am_r L 59 0 [some (.inr (.inr (1, none))), some (.inl x1), none, none, none] [] σ = some (some (.inl (v_59 σ x1)), am_sh0 L, w_59 σ x1) := sf_59 L σ x1 h
-- 27: X2_hasBend
def v_27 (σ : am_M) (x1 : Int32) : Int32 := (if x1 < 1 then (0 : Int32) else (if x1 < (σ.1 2 0) then (1 : Int32) else 0))
set_option maxRecDepth 20000 in
theorem s_27 (L : Nat) (σ : am_M) (x1 : Int32) : am_r L 27 0 [some (.inr (.inr (2, none))), some (.inl x1)] [] σ = some (some (.inl (v_27 σ x1)), am_sh0 L, σ) := by
  unfold v_27
  refine (e_27_0 _ _ _).trans ?_
  refine Eq.trans (b := am_r L 27 18 [some (.inr (.inr (2, none))), some (.inl x1)] [.inl (if x1 < 1 then (0 : Int32) else (if x1 < (σ.1 2 0) then (1 : Int32) else 0))] σ) ?_ ?_
  · by_cases hc104 : x1 < 1
    · simp only [if_pos hc104]
      all_goals
        refine (e_27_17 _ _ _).trans ?_
        rfl
    · simp only [if_neg hc104]
      all_goals
        refine Eq.trans (b := am_r L 27 18 [some (.inr (.inr (2, none))), some (.inl x1)] [.inl (if x1 < (σ.1 2 0) then (1 : Int32) else 0)] σ) ?_ ?_
        · by_cases hc105 : x1 < (σ.1 2 0)
          · simp only [if_pos hc105]
            all_goals
              rfl
          · simp only [if_neg hc105]
            all_goals
              refine (e_27_17 _ _ _).trans ?_
              rfl
        rfl
  refine (e_27_18 _ _ _ _).trans ?_
  refine (if_pos (am_01 (Or.inl rfl) (am_01 (Or.inr rfl) (Or.inl rfl)))).trans ?_
  rfl
theorem b_27 (σ : am_M) (x1 : Int32) : v_27 σ x1 = 0 ∨ v_27 σ x1 = 1 := (am_01 (Or.inl rfl) (am_01 (Or.inr rfl) (Or.inl rfl)))
-- 39: X2_branchOf
def l_39_8 : Nat → am_M → Int32 → Int32 → Int32 → Int32
  | 0, _, _, _, _ => 0
  | n + 1, σ, x1, x2, x3 => (if x3 < (σ.1 2 0) then (l_39_8 n σ x1 (if ((x2 >>> ((σ.1 3 x3.toNatClampNeg) &&& 31)) &&& 1) = 1 then ((x2 ||| (1 <<< (x3 &&& 31))) : Int32) else x2) (x3 + 1)) else x2)
def q_39_8 : Nat → am_M → Int32 → Int32 → Int32 → Prop
  | 0, _, _, _, _ => False
  | n + 1, σ, x1, x2, x3 => (x3 < (σ.1 2 0)) → ((¬ (x3 < 0 ∨ 13 ≤ x3.toNatClampNeg)) ∧ (q_39_8 n σ x1 (if ((x2 >>> ((σ.1 3 x3.toNatClampNeg) &&& 31)) &&& 1) = 1 then ((x2 ||| (1 <<< (x3 &&& 31))) : Int32) else x2) (x3 + 1)))
set_option maxRecDepth 20000 in
theorem t_39_8 (L : Nat) (σ : am_M) : ∀ (n : Nat) (x1 : Int32) (x2 : Int32) (x3 : Int32), q_39_8 n σ x1 x2 x3 → am_r L 39 8 [some (.inr (.inr (2, none))), some (.inl x1), some (.inl x2), some (.inl x3)] [] σ = some (some (.inl (l_39_8 n σ x1 x2 x3)), am_sh0 L, σ) := by
  intro n
  induction n with
  | zero => intro x1 x2 x3 h; exact h.elim
  | succ n ih =>
    intro x1 x2 x3 h
    unfold q_39_8 at h
    unfold l_39_8
    refine (e_39_8 _ _ _ _ _).trans ?_
    by_cases hc106 : x3 < (σ.1 2 0)
    · simp only [if_pos hc106]
      all_goals
        refine (if_neg ((h hc106).1)).trans ?_
        refine Eq.trans (b := am_r L 39 36 [some (.inr (.inr (2, none))), some (.inl x1), some (.inl (if ((x2 >>> ((σ.1 3 x3.toNatClampNeg) &&& 31)) &&& 1) = 1 then ((x2 ||| (1 <<< (x3 &&& 31))) : Int32) else x2)), some (.inl x3)] [] σ) ?_ ?_
        · by_cases hc107 : ((x2 >>> ((σ.1 3 x3.toNatClampNeg) &&& 31)) &&& 1) = 1
          · simp only [if_pos hc107]
            all_goals
              rfl
          · simp only [if_neg hc107]
            all_goals
              rfl
        refine (e_39_36 _ _ _ _ _).trans ?_
        exact ih x1 (if ((x2 >>> ((σ.1 3 x3.toNatClampNeg) &&& 31)) &&& 1) = 1 then ((x2 ||| (1 <<< (x3 &&& 31))) : Int32) else x2) (x3 + 1) ((h hc106).2)
    · simp only [if_neg hc106]
      all_goals
        refine (e_39_42 _ _ _ _ _).trans ?_
        rfl
def p_39 (σ : am_M) (x1 : Int32) : Prop := q_39_8 14 σ x1 (1 <<< (x1 &&& 31)) (x1 + 1)
def f_39 (σ : am_M) (x1 : Int32) : Int32 := (l_39_8 14 σ x1 (1 <<< (x1 &&& 31)) (x1 + 1))
set_option maxRecDepth 20000 in
theorem sf_39 (L : Nat) (σ : am_M) (x1 : Int32) (h : p_39 σ x1) : am_r L 39 0 [some (.inr (.inr (2, none))), some (.inl x1), none, none] [] σ = some (some (.inl (f_39 σ x1)), am_sh0 L, σ) := by
  unfold p_39 at h
  unfold f_39
  refine (e_39_0 _ _ _).trans ?_
  exact t_39_8 L σ 14 x1 (1 <<< (x1 &&& 31)) (x1 + 1) h
def v_39 (σ : am_M) (x1 : Int32) : Int32 := f_39 σ x1
theorem s_39 (L : Nat) (σ : am_M) (x1 : Int32) (h : p_39 σ x1) : am_r L 39 0 [some (.inr (.inr (2, none))), some (.inl x1), none, none] [] σ = some (some (.inl (v_39 σ x1)), am_sh0 L, σ) := sf_39 L σ x1 h
-- 119: J6_bitCount_0f7a4
def v_119 (σ : am_M) (x0 : Int32) : Int32 := ((((((((x0 - ((Int32.toUInt32 x0 >>> (Int32.toUInt32 1 &&& Int32.toUInt32 31)).toInt32 &&& 1431655765)) &&& 858993459) + ((Int32.toUInt32 (x0 - ((Int32.toUInt32 x0 >>> (Int32.toUInt32 1 &&& Int32.toUInt32 31)).toInt32 &&& 1431655765)) >>> (Int32.toUInt32 2 &&& Int32.toUInt32 31)).toInt32 &&& 858993459)) + (Int32.toUInt32 (((x0 - ((Int32.toUInt32 x0 >>> (Int32.toUInt32 1 &&& Int32.toUInt32 31)).toInt32 &&& 1431655765)) &&& 858993459) + ((Int32.toUInt32 (x0 - ((Int32.toUInt32 x0 >>> (Int32.toUInt32 1 &&& Int32.toUInt32 31)).toInt32 &&& 1431655765)) >>> (Int32.toUInt32 2 &&& Int32.toUInt32 31)).toInt32 &&& 858993459)) >>> (Int32.toUInt32 4 &&& Int32.toUInt32 31)).toInt32) &&& 252645135) + (Int32.toUInt32 (((((x0 - ((Int32.toUInt32 x0 >>> (Int32.toUInt32 1 &&& Int32.toUInt32 31)).toInt32 &&& 1431655765)) &&& 858993459) + ((Int32.toUInt32 (x0 - ((Int32.toUInt32 x0 >>> (Int32.toUInt32 1 &&& Int32.toUInt32 31)).toInt32 &&& 1431655765)) >>> (Int32.toUInt32 2 &&& Int32.toUInt32 31)).toInt32 &&& 858993459)) + (Int32.toUInt32 (((x0 - ((Int32.toUInt32 x0 >>> (Int32.toUInt32 1 &&& Int32.toUInt32 31)).toInt32 &&& 1431655765)) &&& 858993459) + ((Int32.toUInt32 (x0 - ((Int32.toUInt32 x0 >>> (Int32.toUInt32 1 &&& Int32.toUInt32 31)).toInt32 &&& 1431655765)) >>> (Int32.toUInt32 2 &&& Int32.toUInt32 31)).toInt32 &&& 858993459)) >>> (Int32.toUInt32 4 &&& Int32.toUInt32 31)).toInt32) &&& 252645135) >>> (Int32.toUInt32 8 &&& Int32.toUInt32 31)).toInt32) + (Int32.toUInt32 ((((((x0 - ((Int32.toUInt32 x0 >>> (Int32.toUInt32 1 &&& Int32.toUInt32 31)).toInt32 &&& 1431655765)) &&& 858993459) + ((Int32.toUInt32 (x0 - ((Int32.toUInt32 x0 >>> (Int32.toUInt32 1 &&& Int32.toUInt32 31)).toInt32 &&& 1431655765)) >>> (Int32.toUInt32 2 &&& Int32.toUInt32 31)).toInt32 &&& 858993459)) + (Int32.toUInt32 (((x0 - ((Int32.toUInt32 x0 >>> (Int32.toUInt32 1 &&& Int32.toUInt32 31)).toInt32 &&& 1431655765)) &&& 858993459) + ((Int32.toUInt32 (x0 - ((Int32.toUInt32 x0 >>> (Int32.toUInt32 1 &&& Int32.toUInt32 31)).toInt32 &&& 1431655765)) >>> (Int32.toUInt32 2 &&& Int32.toUInt32 31)).toInt32 &&& 858993459)) >>> (Int32.toUInt32 4 &&& Int32.toUInt32 31)).toInt32) &&& 252645135) + (Int32.toUInt32 (((((x0 - ((Int32.toUInt32 x0 >>> (Int32.toUInt32 1 &&& Int32.toUInt32 31)).toInt32 &&& 1431655765)) &&& 858993459) + ((Int32.toUInt32 (x0 - ((Int32.toUInt32 x0 >>> (Int32.toUInt32 1 &&& Int32.toUInt32 31)).toInt32 &&& 1431655765)) >>> (Int32.toUInt32 2 &&& Int32.toUInt32 31)).toInt32 &&& 858993459)) + (Int32.toUInt32 (((x0 - ((Int32.toUInt32 x0 >>> (Int32.toUInt32 1 &&& Int32.toUInt32 31)).toInt32 &&& 1431655765)) &&& 858993459) + ((Int32.toUInt32 (x0 - ((Int32.toUInt32 x0 >>> (Int32.toUInt32 1 &&& Int32.toUInt32 31)).toInt32 &&& 1431655765)) >>> (Int32.toUInt32 2 &&& Int32.toUInt32 31)).toInt32 &&& 858993459)) >>> (Int32.toUInt32 4 &&& Int32.toUInt32 31)).toInt32) &&& 252645135) >>> (Int32.toUInt32 8 &&& Int32.toUInt32 31)).toInt32) >>> (Int32.toUInt32 16 &&& Int32.toUInt32 31)).toInt32) &&& 63)
set_option maxRecDepth 20000 in
theorem s_119 (L : Nat) (σ : am_M) (x0 : Int32) : am_r L 119 0 [some (.inl x0)] [] σ = some (some (.inl (v_119 σ x0)), am_sh0 L, σ) := by
  unfold v_119
  refine (e_119_0 _ _ _).trans ?_
  refine (e_119_35 _ _ _ _).trans ?_
  rfl
-- 40: X2_movingWith
def p_40 (σ : am_M) (x1 : Int32) : Prop := p_39 σ x1
def v_40 (σ : am_M) (x1 : Int32) : Int32 := (if ((σ.1 2 0) - (v_119 σ (v_39 σ x1))) < (v_119 σ (v_39 σ x1)) then ((((1 <<< ((σ.1 2 0) &&& 31)) - 1) &&& ((v_39 σ x1) ^^^ (-1))) : Int32) else (v_39 σ x1))
set_option maxRecDepth 20000 in
theorem s_40 (L : Nat) (σ : am_M) (x1 : Int32) (h : p_40 σ x1) : am_r L 40 0 [some (.inr (.inr (2, none))), some (.inl x1), none, none] [] σ = some (some (.inl (v_40 σ x1)), am_sh0 L, σ) := by
  unfold p_40 at h
  unfold v_40
  refine (e_40_0 _ _ _).trans ?_
  refine (am_bind_i (s_39 L σ x1 h)).trans ?_
  refine (e_40_5 _ _ _ _).trans ?_
  refine (am_bind_i (s_119 L σ (v_39 σ x1))).trans ?_
  refine (e_40_10 _ _ _ _ _).trans ?_
  refine Eq.trans (b := am_r L 40 37 [some (.inr (.inr (2, none))), some (.inl x1), some (.inl (v_39 σ x1)), some (.inl (v_119 σ (v_39 σ x1)))] [.inl (if ((σ.1 2 0) - (v_119 σ (v_39 σ x1))) < (v_119 σ (v_39 σ x1)) then ((((1 <<< ((σ.1 2 0) &&& 31)) - 1) &&& ((v_39 σ x1) ^^^ (-1))) : Int32) else (v_39 σ x1))] σ) ?_ ?_
  · by_cases hc108 : ((σ.1 2 0) - (v_119 σ (v_39 σ x1))) < (v_119 σ (v_39 σ x1))
    · simp only [if_pos hc108]
      all_goals
        refine (e_40_25 _ _ _ _ _).trans ?_
        rfl
    · simp only [if_neg hc108]
      all_goals
        rfl
  refine (e_40_37 _ _ _ _ _ _).trans ?_
  rfl
-- 60: X4_moves
def p_60 (σ : am_M) (x1 : Int32) : Prop := ¬ ((v_27 σ x1) = 0) → (p_40 σ x1)
def v_60 (σ : am_M) (x1 : Int32) : Int32 := (if (v_27 σ x1) = 0 then ((-1) : Int32) else (v_40 σ x1))
set_option maxRecDepth 20000 in
theorem s_60 (L : Nat) (σ : am_M) (x1 : Int32) (h : p_60 σ x1) : am_r L 60 0 [some (.inr (.inr (1, none))), some (.inl x1)] [] σ = some (some (.inl (v_60 σ x1)), am_sh0 L, σ) := by
  unfold p_60 at h
  unfold v_60
  refine (e_60_0 _ _ _).trans ?_
  refine (am_bind_i (s_27 L σ x1)).trans ?_
  refine (e_60_8 _ _ _ _).trans ?_
  refine Eq.trans (b := am_r L 60 23 [some (.inr (.inr (1, none))), some (.inl x1)] [.inl (if (v_27 σ x1) = 0 then ((-1) : Int32) else (v_40 σ x1))] σ) ?_ ?_
  · by_cases hc109 : (v_27 σ x1) = 0
    · simp only [if_pos hc109]
      all_goals
        refine (e_60_22 _ _ _).trans ?_
        rfl
    · simp only [if_neg hc109]
      all_goals
        refine (am_bind_i (s_40 L σ x1 ((h hc109)))).trans ?_
        refine (e_60_19 _ _ _ _).trans ?_
        rfl
  refine (e_60_23 _ _ _ _).trans ?_
  rfl
-- 7: X0_axisOf
def v_7 (σ : am_M) (x0 : Int32) : Int32 := ((if x0 < 0 then ((-x0) : Int32) else x0) - 1)
set_option maxRecDepth 20000 in
theorem s_7 (L : Nat) (σ : am_M) (x0 : Int32) : am_r L 7 0 [some (.inl x0)] [] σ = some (some (.inl (v_7 σ x0)), am_sh0 L, σ) := by
  unfold v_7
  refine (e_7_0 _ _ _).trans ?_
  refine Eq.trans (b := am_r L 7 10 [some (.inl x0)] [.inl (if x0 < 0 then ((-x0) : Int32) else x0)] σ) ?_ ?_
  · by_cases hc110 : x0 < 0
    · simp only [if_pos hc110]
      all_goals
        rfl
    · simp only [if_neg hc110]
      all_goals
        refine (e_7_9 _ _ _).trans ?_
        rfl
  refine (e_7_10 _ _ _ _).trans ?_
  rfl
-- 9: X0_axisAlong
def p_9 (σ : am_M) (x1 : Int32) (x2 : Int32) : Prop := (((v_70 σ x2) = 0) → (¬ (x1 < 0 ∨ 13 ≤ x1.toNatClampNeg))) ∧ (¬ ((v_70 σ x2) = 0) → (¬ (x1 < 0 ∨ 13 ≤ x1.toNatClampNeg)))
def v_9 (σ : am_M) (x1 : Int32) (x2 : Int32) : Int32 := (v_7 σ (if (v_70 σ x2) = 0 then ((σ.1 21 x1.toNatClampNeg) : Int32) else (σ.1 22 x1.toNatClampNeg)))
set_option maxRecDepth 20000 in
theorem s_9 (L : Nat) (σ : am_M) (x1 : Int32) (x2 : Int32) (h : p_9 σ x1 x2) : am_r L 9 0 [some (.inr (.inr (20, none))), some (.inl x1), some (.inl x2)] [] σ = some (some (.inl (v_9 σ x1 x2)), am_sh0 L, σ) := by
  unfold p_9 at h
  unfold v_9
  refine (e_9_0 _ _ _ _).trans ?_
  refine (am_bind_i (s_70 L σ x2)).trans ?_
  refine (e_9_4 _ _ _ _ _).trans ?_
  refine Eq.trans (b := am_r L 9 22 [some (.inr (.inr (20, none))), some (.inl x1), some (.inl x2)] [.inl (if (v_70 σ x2) = 0 then ((σ.1 21 x1.toNatClampNeg) : Int32) else (σ.1 22 x1.toNatClampNeg))] σ) ?_ ?_
  · by_cases hc111 : (v_70 σ x2) = 0
    · simp only [if_pos hc111]
      all_goals
        refine (e_9_16 _ _ _ _).trans ?_
        refine (if_neg ((h.1 hc111))).trans ?_
        rfl
    · simp only [if_neg hc111]
      all_goals
        refine (if_neg ((h.2 hc111))).trans ?_
        rfl
  refine (e_9_22 _ _ _ _ _).trans ?_
  refine (am_bind_i (s_7 L σ (if (v_70 σ x2) = 0 then ((σ.1 21 x1.toNatClampNeg) : Int32) else (σ.1 22 x1.toNatClampNeg)))).trans ?_
  refine (e_9_25 _ _ _ _ _).trans ?_
  rfl
-- 43: X3_setDirections
def w_43_98 (σ : am_M) (x3 : Int32) (x4 : Int32) (x5 : Int32) (x6 : Int32) (s1 : Int32) : am_M := (am_put σ 36 1 s1)
set_option maxRecDepth 20000 in
theorem s_43_98 (L : Nat) (σ : am_M) (x3 : Int32) (x4 : Int32) (x5 : Int32) (x6 : Int32) (s1 : Int32) : am_r L 43 98 [some (.inr (.inr (36, none))), some (.inr (.inr (2, none))), some (.inr (.inr (20, none))), some (.inl x3), some (.inl x4), some (.inl x5), some (.inl x6)] [.inl s1, .inr (.inr (36, none))] σ = some (none, am_sh0 L, w_43_98 σ x3 x4 x5 x6 s1) := by
  unfold w_43_98
  refine (e_43_98 _ _ _ _ _ _ _).trans ?_
  rfl
def p_43 (σ : am_M) (x3 : Int32) : Prop := (¬ (x3 < 0 ∨ 13 ≤ x3.toNatClampNeg)) ∧ ((¬ (x3 < 0 ∨ 13 ≤ x3.toNatClampNeg)) ∧ ((p_8 σ (σ.1 3 x3.toNatClampNeg) (σ.1 4 x3.toNatClampNeg)) ∧ ((¬ (x3 < 0 ∨ 13 ≤ x3.toNatClampNeg)) ∧ (((((σ.1 5 x3.toNatClampNeg) = 0) → (¬ ((σ.1 3 x3.toNatClampNeg) < 0 ∨ 13 ≤ ((σ.1 3 x3.toNatClampNeg)).toNatClampNeg))) ∧ (¬ ((σ.1 5 x3.toNatClampNeg) = 0) → (¬ ((σ.1 3 x3.toNatClampNeg) < 0 ∨ 13 ≤ ((σ.1 3 x3.toNatClampNeg)).toNatClampNeg)))) ∧ ((¬ (x3 < 0 ∨ 13 ≤ x3.toNatClampNeg)) ∧ (p_9 (am_put (am_put (am_put (am_put σ 37 0 (v_8 σ (σ.1 3 x3.toNatClampNeg) (σ.1 4 x3.toNatClampNeg))) 37 1 (if (σ.1 5 x3.toNatClampNeg) = 0 then ((-(σ.1 23 (((σ.1 3 x3.toNatClampNeg)).toNatClampNeg))) : Int32) else (σ.1 23 (((σ.1 3 x3.toNatClampNeg)).toNatClampNeg)))) 37 2 (-(v_8 σ (σ.1 3 x3.toNatClampNeg) (σ.1 4 x3.toNatClampNeg)))) 37 3 (-(if (σ.1 5 x3.toNatClampNeg) = 0 then ((-(σ.1 23 (((σ.1 3 x3.toNatClampNeg)).toNatClampNeg))) : Int32) else (σ.1 23 (((σ.1 3 x3.toNatClampNeg)).toNatClampNeg))))) (σ.1 3 x3.toNatClampNeg) (σ.1 4 x3.toNatClampNeg)))))))
def w_43 (σ : am_M) (x3 : Int32) : am_M := (w_43_98 (am_put (am_put (am_put (am_put σ 37 0 (v_8 σ (σ.1 3 x3.toNatClampNeg) (σ.1 4 x3.toNatClampNeg))) 37 1 (if (σ.1 5 x3.toNatClampNeg) = 0 then ((-(σ.1 23 (((σ.1 3 x3.toNatClampNeg)).toNatClampNeg))) : Int32) else (σ.1 23 (((σ.1 3 x3.toNatClampNeg)).toNatClampNeg)))) 37 2 (-(v_8 σ (σ.1 3 x3.toNatClampNeg) (σ.1 4 x3.toNatClampNeg)))) 37 3 (-(if (σ.1 5 x3.toNatClampNeg) = 0 then ((-(σ.1 23 (((σ.1 3 x3.toNatClampNeg)).toNatClampNeg))) : Int32) else (σ.1 23 (((σ.1 3 x3.toNatClampNeg)).toNatClampNeg))))) x3 (σ.1 3 x3.toNatClampNeg) (v_8 σ (σ.1 3 x3.toNatClampNeg) (σ.1 4 x3.toNatClampNeg)) (if (σ.1 5 x3.toNatClampNeg) = 0 then ((-(σ.1 23 (((σ.1 3 x3.toNatClampNeg)).toNatClampNeg))) : Int32) else (σ.1 23 (((σ.1 3 x3.toNatClampNeg)).toNatClampNeg))) (v_9 (am_put (am_put (am_put (am_put σ 37 0 (v_8 σ (σ.1 3 x3.toNatClampNeg) (σ.1 4 x3.toNatClampNeg))) 37 1 (if (σ.1 5 x3.toNatClampNeg) = 0 then ((-(σ.1 23 (((σ.1 3 x3.toNatClampNeg)).toNatClampNeg))) : Int32) else (σ.1 23 (((σ.1 3 x3.toNatClampNeg)).toNatClampNeg)))) 37 2 (-(v_8 σ (σ.1 3 x3.toNatClampNeg) (σ.1 4 x3.toNatClampNeg)))) 37 3 (-(if (σ.1 5 x3.toNatClampNeg) = 0 then ((-(σ.1 23 (((σ.1 3 x3.toNatClampNeg)).toNatClampNeg))) : Int32) else (σ.1 23 (((σ.1 3 x3.toNatClampNeg)).toNatClampNeg))))) (σ.1 3 x3.toNatClampNeg) (σ.1 4 x3.toNatClampNeg)))
set_option maxRecDepth 20000 in
theorem s_43 (L : Nat) (σ : am_M) (x3 : Int32) (h : p_43 σ x3) : am_r L 43 0 [some (.inr (.inr (36, none))), some (.inr (.inr (2, none))), some (.inr (.inr (20, none))), some (.inl x3), none, none, none] [] σ = some (none, am_sh0 L, w_43 σ x3) := by
  unfold p_43 at h
  unfold w_43
  refine (e_43_0 _ _ _).trans ?_
  refine (if_neg h.1).trans ?_
  refine (if_neg h.2.1).trans ?_
  refine (am_bind_i (s_8 L σ (σ.1 3 x3.toNatClampNeg) (σ.1 4 x3.toNatClampNeg) h.2.2.1)).trans ?_
  refine (e_43_20 _ _ _ _ _).trans ?_
  refine (if_neg h.2.2.2.1).trans ?_
  refine Eq.trans (b := am_r L 43 49 [some (.inr (.inr (36, none))), some (.inr (.inr (2, none))), some (.inr (.inr (20, none))), some (.inl x3), some (.inl (σ.1 3 x3.toNatClampNeg)), some (.inl (v_8 σ (σ.1 3 x3.toNatClampNeg) (σ.1 4 x3.toNatClampNeg))), none] [.inl (if (σ.1 5 x3.toNatClampNeg) = 0 then ((-(σ.1 23 (((σ.1 3 x3.toNatClampNeg)).toNatClampNeg))) : Int32) else (σ.1 23 (((σ.1 3 x3.toNatClampNeg)).toNatClampNeg)))] σ) ?_ ?_
  · by_cases hc112 : (σ.1 5 x3.toNatClampNeg) = 0
    · simp only [if_pos hc112]
      all_goals
        refine (e_43_41 _ _ _ _ _).trans ?_
        refine (if_neg ((h.2.2.2.2.1.1 hc112))).trans ?_
        rfl
    · simp only [if_neg hc112]
      all_goals
        refine (if_neg ((h.2.2.2.2.1.2 hc112))).trans ?_
        rfl
  refine (e_43_49 _ _ _ _ _ _).trans ?_
  refine (if_neg (by decide)).trans ?_
  refine (if_neg (by decide)).trans ?_
  refine (if_neg (by decide)).trans ?_
  refine (e_43_77 _ _ _ _ _ _).trans ?_
  refine (if_neg (by decide)).trans ?_
  refine (if_neg h.2.2.2.2.2.1).trans ?_
  refine (am_bind_i (s_9 L (am_put (am_put (am_put (am_put σ 37 0 (v_8 σ (σ.1 3 x3.toNatClampNeg) (σ.1 4 x3.toNatClampNeg))) 37 1 (if (σ.1 5 x3.toNatClampNeg) = 0 then ((-(σ.1 23 (((σ.1 3 x3.toNatClampNeg)).toNatClampNeg))) : Int32) else (σ.1 23 (((σ.1 3 x3.toNatClampNeg)).toNatClampNeg)))) 37 2 (-(v_8 σ (σ.1 3 x3.toNatClampNeg) (σ.1 4 x3.toNatClampNeg)))) 37 3 (-(if (σ.1 5 x3.toNatClampNeg) = 0 then ((-(σ.1 23 (((σ.1 3 x3.toNatClampNeg)).toNatClampNeg))) : Int32) else (σ.1 23 (((σ.1 3 x3.toNatClampNeg)).toNatClampNeg))))) (σ.1 3 x3.toNatClampNeg) (σ.1 4 x3.toNatClampNeg) h.2.2.2.2.2.2)).trans ?_
  exact s_43_98 L (am_put (am_put (am_put (am_put σ 37 0 (v_8 σ (σ.1 3 x3.toNatClampNeg) (σ.1 4 x3.toNatClampNeg))) 37 1 (if (σ.1 5 x3.toNatClampNeg) = 0 then ((-(σ.1 23 (((σ.1 3 x3.toNatClampNeg)).toNatClampNeg))) : Int32) else (σ.1 23 (((σ.1 3 x3.toNatClampNeg)).toNatClampNeg)))) 37 2 (-(v_8 σ (σ.1 3 x3.toNatClampNeg) (σ.1 4 x3.toNatClampNeg)))) 37 3 (-(if (σ.1 5 x3.toNatClampNeg) = 0 then ((-(σ.1 23 (((σ.1 3 x3.toNatClampNeg)).toNatClampNeg))) : Int32) else (σ.1 23 (((σ.1 3 x3.toNatClampNeg)).toNatClampNeg))))) x3 (σ.1 3 x3.toNatClampNeg) (v_8 σ (σ.1 3 x3.toNatClampNeg) (σ.1 4 x3.toNatClampNeg)) (if (σ.1 5 x3.toNatClampNeg) = 0 then ((-(σ.1 23 (((σ.1 3 x3.toNatClampNeg)).toNatClampNeg))) : Int32) else (σ.1 23 (((σ.1 3 x3.toNatClampNeg)).toNatClampNeg))) (v_9 (am_put (am_put (am_put (am_put σ 37 0 (v_8 σ (σ.1 3 x3.toNatClampNeg) (σ.1 4 x3.toNatClampNeg))) 37 1 (if (σ.1 5 x3.toNatClampNeg) = 0 then ((-(σ.1 23 (((σ.1 3 x3.toNatClampNeg)).toNatClampNeg))) : Int32) else (σ.1 23 (((σ.1 3 x3.toNatClampNeg)).toNatClampNeg)))) 37 2 (-(v_8 σ (σ.1 3 x3.toNatClampNeg) (σ.1 4 x3.toNatClampNeg)))) 37 3 (-(if (σ.1 5 x3.toNatClampNeg) = 0 then ((-(σ.1 23 (((σ.1 3 x3.toNatClampNeg)).toNatClampNeg))) : Int32) else (σ.1 23 (((σ.1 3 x3.toNatClampNeg)).toNatClampNeg))))) (σ.1 3 x3.toNatClampNeg) (σ.1 4 x3.toNatClampNeg))
-- 10: X0_greatestAlong
def p_10 (σ : am_M) (x1 : Int32) (x2 : Int32) : Prop := ((0 < x2) → ((¬ ((v_7 σ x2) < 0 ∨ 3 ≤ ((v_7 σ x2)).toNatClampNeg)) ∧ (¬ (x1 < 0 ∨ 13 ≤ x1.toNatClampNeg)))) ∧ (¬ (0 < x2) → ((¬ ((v_7 σ x2) < 0 ∨ 3 ≤ ((v_7 σ x2)).toNatClampNeg)) ∧ (¬ (x1 < 0 ∨ 13 ≤ x1.toNatClampNeg))))
def v_10 (σ : am_M) (x1 : Int32) (x2 : Int32) : Int32 := (if 0 < x2 then ((σ.1 (33 + ((v_7 σ x2)).toNatClampNeg) x1.toNatClampNeg) : Int32) else (-(σ.1 (29 + ((v_7 σ x2)).toNatClampNeg) x1.toNatClampNeg)))
set_option maxRecDepth 20000 in
theorem s_10 (L : Nat) (σ : am_M) (x1 : Int32) (x2 : Int32) (h : p_10 σ x1 x2) : am_r L 10 0 [some (.inr (.inr (20, none))), some (.inl x1), some (.inl x2), none] [] σ = some (some (.inl (v_10 σ x1 x2)), am_sh0 L, σ) := by
  unfold p_10 at h
  unfold v_10
  refine (e_10_0 _ _ _ _).trans ?_
  refine (am_bind_i (s_7 L σ x2)).trans ?_
  refine (e_10_4 _ _ _ _ _).trans ?_
  refine Eq.trans (b := am_r L 10 29 [some (.inr (.inr (20, none))), some (.inl x1), some (.inl x2), some (.inl (v_7 σ x2))] [.inl (if 0 < x2 then ((σ.1 (33 + ((v_7 σ x2)).toNatClampNeg) x1.toNatClampNeg) : Int32) else (-(σ.1 (29 + ((v_7 σ x2)).toNatClampNeg) x1.toNatClampNeg)))] σ) ?_ ?_
  · by_cases hc113 : 0 < x2
    · simp only [if_pos hc113]
      all_goals
        refine (if_neg ((h.1 hc113).1)).trans ?_
        refine (if_neg ((h.1 hc113).2)).trans ?_
        rfl
    · simp only [if_neg hc113]
      all_goals
        refine (e_10_20 _ _ _ _ _).trans ?_
        refine (if_neg ((h.2 hc113).1)).trans ?_
        refine (if_neg ((h.2 hc113).2)).trans ?_
        rfl
  refine (e_10_29 _ _ _ _ _ _).trans ?_
  rfl
-- 44: X3_setBands
def l_44_109 : Nat → am_M → Int32 → Int32 → Int32 → Int32 → Int32 → am_M
  | 0, σ, x2, x3, x4, x5, x6 => σ
  | n + 1, σ, x2, x3, x4, x5, x6 => (if x6 < 4 then (l_44_109 n (am_put (am_put σ (40 + x6.toNatClampNeg) x3.toNatClampNeg (if (if 0 < (σ.1 38 x6.toNatClampNeg) then ((if (σ.1 38 ((((x6 + 1) &&& 3)).toNatClampNeg)) < 0 then (0 : Int32) else 1) : Int32) else 0) = 0 then (0 : Int32) else (((v_120 σ 0 (-(σ.1 38 ((((x6 + 2) &&& 3)).toNatClampNeg)))) * (v_120 σ 0 (-(σ.1 38 ((((x6 + 2) &&& 3)).toNatClampNeg))))) + ((v_120 σ 0 (-(σ.1 38 ((((x6 + 3) &&& 3)).toNatClampNeg)))) * (v_120 σ 0 (-(σ.1 38 ((((x6 + 3) &&& 3)).toNatClampNeg)))))))) (45 + x6.toNatClampNeg) x3.toNatClampNeg (if (if 0 < (σ.1 38 x6.toNatClampNeg) then ((if (σ.1 38 ((((x6 + 1) &&& 3)).toNatClampNeg)) < 0 then (0 : Int32) else 1) : Int32) else 0) = 0 then (0 : Int32) else (((σ.1 38 x6.toNatClampNeg) * (σ.1 38 x6.toNatClampNeg)) + ((σ.1 38 ((((x6 + 1) &&& 3)).toNatClampNeg)) * (σ.1 38 ((((x6 + 1) &&& 3)).toNatClampNeg)))))) x2 x3 x4 x5 (x6 + 1)) else σ)
def q_44_109 : Nat → am_M → Int32 → Int32 → Int32 → Int32 → Int32 → Prop
  | 0, _, _, _, _, _, _ => False
  | n + 1, σ, x2, x3, x4, x5, x6 => (x6 < 4) → ((¬ (x6 < 0 ∨ 4 ≤ x6.toNatClampNeg)) ∧ ((¬ (((x6 + 1) &&& 3) < 0 ∨ 4 ≤ (((x6 + 1) &&& 3)).toNatClampNeg)) ∧ ((¬ (((x6 + 2) &&& 3) < 0 ∨ 4 ≤ (((x6 + 2) &&& 3)).toNatClampNeg)) ∧ ((¬ (((x6 + 3) &&& 3) < 0 ∨ 4 ≤ (((x6 + 3) &&& 3)).toNatClampNeg)) ∧ ((¬ (x6 < 0 ∨ 4 ≤ x6.toNatClampNeg)) ∧ ((¬ (x3 < 0 ∨ 13 ≤ x3.toNatClampNeg)) ∧ ((¬ (x6 < 0 ∨ 4 ≤ x6.toNatClampNeg)) ∧ ((¬ (x3 < 0 ∨ 13 ≤ x3.toNatClampNeg)) ∧ (q_44_109 n (am_put (am_put σ (40 + x6.toNatClampNeg) x3.toNatClampNeg (if (if 0 < (σ.1 38 x6.toNatClampNeg) then ((if (σ.1 38 ((((x6 + 1) &&& 3)).toNatClampNeg)) < 0 then (0 : Int32) else 1) : Int32) else 0) = 0 then (0 : Int32) else (((v_120 σ 0 (-(σ.1 38 ((((x6 + 2) &&& 3)).toNatClampNeg)))) * (v_120 σ 0 (-(σ.1 38 ((((x6 + 2) &&& 3)).toNatClampNeg))))) + ((v_120 σ 0 (-(σ.1 38 ((((x6 + 3) &&& 3)).toNatClampNeg)))) * (v_120 σ 0 (-(σ.1 38 ((((x6 + 3) &&& 3)).toNatClampNeg)))))))) (45 + x6.toNatClampNeg) x3.toNatClampNeg (if (if 0 < (σ.1 38 x6.toNatClampNeg) then ((if (σ.1 38 ((((x6 + 1) &&& 3)).toNatClampNeg)) < 0 then (0 : Int32) else 1) : Int32) else 0) = 0 then (0 : Int32) else (((σ.1 38 x6.toNatClampNeg) * (σ.1 38 x6.toNatClampNeg)) + ((σ.1 38 ((((x6 + 1) &&& 3)).toNatClampNeg)) * (σ.1 38 ((((x6 + 1) &&& 3)).toNatClampNeg)))))) x2 x3 x4 x5 (x6 + 1))))))))))
set_option maxRecDepth 20000 in
theorem t_44_109 (L : Nat) : ∀ (n : Nat) (σ : am_M) (x2 : Int32) (x3 : Int32) (x4 : Int32) (x5 : Int32) (x6 : Int32) (o7 : Option am_V) (o8 : Option am_V) (o9 : Option am_V) (o10 : Option am_V) (o11 : Option am_V), q_44_109 n σ x2 x3 x4 x5 x6 → am_r L 44 109 [some (.inr (.inr (36, none))), some (.inr (.inr (20, none))), some (.inl x2), some (.inl x3), some (.inl x4), some (.inl x5), some (.inl x6), o7, o8, o9, o10, o11] [] σ = some (none, am_sh0 L, (l_44_109 n σ x2 x3 x4 x5 x6)) := by
  intro n
  induction n with
  | zero => intro σ x2 x3 x4 x5 x6 o7 o8 o9 o10 o11 h; exact h.elim
  | succ n ih =>
    intro σ x2 x3 x4 x5 x6 o7 o8 o9 o10 o11 h
    unfold q_44_109 at h
    unfold l_44_109
    refine (e_44_109 _ _ _ _ _ _ _ _ _ _ _ _).trans ?_
    by_cases hc114 : x6 < 4
    · simp only [if_pos hc114]
      all_goals
        refine (if_neg ((h hc114).1)).trans ?_
        refine (if_neg ((h hc114).2.1)).trans ?_
        refine Eq.trans (b := am_r L 44 152 [some (.inr (.inr (36, none))), some (.inr (.inr (20, none))), some (.inl x2), some (.inl x3), some (.inl x4), some (.inl x5), some (.inl x6), some (.inl (σ.1 38 x6.toNatClampNeg)), some (.inl (σ.1 38 ((((x6 + 1) &&& 3)).toNatClampNeg))), o9, o10, o11] [.inl (if 0 < (σ.1 38 x6.toNatClampNeg) then ((if (σ.1 38 ((((x6 + 1) &&& 3)).toNatClampNeg)) < 0 then (0 : Int32) else 1) : Int32) else 0)] σ) ?_ ?_
        · by_cases hc115 : 0 < (σ.1 38 x6.toNatClampNeg)
          · simp only [if_pos hc115]
            all_goals
              refine Eq.trans (b := am_r L 44 152 [some (.inr (.inr (36, none))), some (.inr (.inr (20, none))), some (.inl x2), some (.inl x3), some (.inl x4), some (.inl x5), some (.inl x6), some (.inl (σ.1 38 x6.toNatClampNeg)), some (.inl (σ.1 38 ((((x6 + 1) &&& 3)).toNatClampNeg))), o9, o10, o11] [.inl (if (σ.1 38 ((((x6 + 1) &&& 3)).toNatClampNeg)) < 0 then (0 : Int32) else 1)] σ) ?_ ?_
              · by_cases hc116 : (σ.1 38 ((((x6 + 1) &&& 3)).toNatClampNeg)) < 0
                · simp only [if_pos hc116]
                  all_goals
                    refine (e_44_151 _ _ _ _ _ _ _ _ _ _ _ _).trans ?_
                    rfl
                · simp only [if_neg hc116]
                  all_goals
                    refine (e_44_147 _ _ _ _ _ _ _ _ _ _ _ _).trans ?_
                    rfl
              rfl
          · simp only [if_neg hc115]
            all_goals
              refine (e_44_151 _ _ _ _ _ _ _ _ _ _ _ _).trans ?_
              rfl
        refine (e_44_152 _ _ _ _ _ _ _ _ _ _ _ _ _).trans ?_
        refine (if_neg ((h hc114).2.2.1)).trans ?_
        refine (am_bind_i (s_120 L σ 0 (-(σ.1 38 ((((x6 + 2) &&& 3)).toNatClampNeg))))).trans ?_
        refine (e_44_170 _ _ _ _ _ _ _ _ _ _ _ _ _).trans ?_
        refine (if_neg ((h hc114).2.2.2.1)).trans ?_
        refine (am_bind_i (s_120 L σ 0 (-(σ.1 38 ((((x6 + 3) &&& 3)).toNatClampNeg))))).trans ?_
        refine (e_44_188 _ _ _ _ _ _ _ _ _ _ _ _ _).trans ?_
        refine (if_neg ((h hc114).2.2.2.2.1)).trans ?_
        refine Eq.trans (b := am_r L 44 218 [some (.inr (.inr (36, none))), some (.inr (.inr (20, none))), some (.inl x2), some (.inl x3), some (.inl x4), some (.inl x5), some (.inl x6), some (.inl (σ.1 38 x6.toNatClampNeg)), some (.inl (σ.1 38 ((((x6 + 1) &&& 3)).toNatClampNeg))), some (.inl (if 0 < (σ.1 38 x6.toNatClampNeg) then ((if (σ.1 38 ((((x6 + 1) &&& 3)).toNatClampNeg)) < 0 then (0 : Int32) else 1) : Int32) else 0)), some (.inl (v_120 σ 0 (-(σ.1 38 ((((x6 + 2) &&& 3)).toNatClampNeg))))), some (.inl (v_120 σ 0 (-(σ.1 38 ((((x6 + 3) &&& 3)).toNatClampNeg)))))] [.inl (if (if 0 < (σ.1 38 x6.toNatClampNeg) then ((if (σ.1 38 ((((x6 + 1) &&& 3)).toNatClampNeg)) < 0 then (0 : Int32) else 1) : Int32) else 0) = 0 then (0 : Int32) else (((v_120 σ 0 (-(σ.1 38 ((((x6 + 2) &&& 3)).toNatClampNeg)))) * (v_120 σ 0 (-(σ.1 38 ((((x6 + 2) &&& 3)).toNatClampNeg))))) + ((v_120 σ 0 (-(σ.1 38 ((((x6 + 3) &&& 3)).toNatClampNeg)))) * (v_120 σ 0 (-(σ.1 38 ((((x6 + 3) &&& 3)).toNatClampNeg))))))), .inl x3, .inr (.inr (39, some x6.toNatClampNeg))] σ) ?_ ?_
        · by_cases hc117 : (if 0 < (σ.1 38 x6.toNatClampNeg) then ((if (σ.1 38 ((((x6 + 1) &&& 3)).toNatClampNeg)) < 0 then (0 : Int32) else 1) : Int32) else 0) = 0
          · simp only [if_pos hc117]
            all_goals
              refine (e_44_217 _ _ _ _ _ _ _ _ _ _ _ _ _ _).trans ?_
              rfl
          · simp only [if_neg hc117]
            all_goals
              rfl
        refine (e_44_218 _ _ _ _ _ _ _ _ _ _ _ _ _ _ _).trans ?_
        refine (if_neg ((h hc114).2.2.2.2.2.1)).trans ?_
        refine (if_neg ((h hc114).2.2.2.2.2.2.1)).trans ?_
        refine Eq.trans (b := am_r L 44 247 [some (.inr (.inr (36, none))), some (.inr (.inr (20, none))), some (.inl x2), some (.inl x3), some (.inl x4), some (.inl x5), some (.inl x6), some (.inl (σ.1 38 x6.toNatClampNeg)), some (.inl (σ.1 38 ((((x6 + 1) &&& 3)).toNatClampNeg))), some (.inl (if 0 < (σ.1 38 x6.toNatClampNeg) then ((if (σ.1 38 ((((x6 + 1) &&& 3)).toNatClampNeg)) < 0 then (0 : Int32) else 1) : Int32) else 0)), some (.inl (v_120 σ 0 (-(σ.1 38 ((((x6 + 2) &&& 3)).toNatClampNeg))))), some (.inl (v_120 σ 0 (-(σ.1 38 ((((x6 + 3) &&& 3)).toNatClampNeg)))))] [.inl (if (if 0 < (σ.1 38 x6.toNatClampNeg) then ((if (σ.1 38 ((((x6 + 1) &&& 3)).toNatClampNeg)) < 0 then (0 : Int32) else 1) : Int32) else 0) = 0 then (0 : Int32) else (((σ.1 38 x6.toNatClampNeg) * (σ.1 38 x6.toNatClampNeg)) + ((σ.1 38 ((((x6 + 1) &&& 3)).toNatClampNeg)) * (σ.1 38 ((((x6 + 1) &&& 3)).toNatClampNeg))))), .inl x3, .inr (.inr (44, some x6.toNatClampNeg))] (am_put σ (40 + x6.toNatClampNeg) x3.toNatClampNeg (if (if 0 < (σ.1 38 x6.toNatClampNeg) then ((if (σ.1 38 ((((x6 + 1) &&& 3)).toNatClampNeg)) < 0 then (0 : Int32) else 1) : Int32) else 0) = 0 then (0 : Int32) else (((v_120 σ 0 (-(σ.1 38 ((((x6 + 2) &&& 3)).toNatClampNeg)))) * (v_120 σ 0 (-(σ.1 38 ((((x6 + 2) &&& 3)).toNatClampNeg))))) + ((v_120 σ 0 (-(σ.1 38 ((((x6 + 3) &&& 3)).toNatClampNeg)))) * (v_120 σ 0 (-(σ.1 38 ((((x6 + 3) &&& 3)).toNatClampNeg))))))))) ?_ ?_
        · by_cases hc118 : (if 0 < (σ.1 38 x6.toNatClampNeg) then ((if (σ.1 38 ((((x6 + 1) &&& 3)).toNatClampNeg)) < 0 then (0 : Int32) else 1) : Int32) else 0) = 0
          · simp only [if_pos hc118]
            all_goals
              refine (e_44_246 _ _ _ _ _ _ _ _ _ _ _ _ _ _).trans ?_
              rfl
          · simp only [if_neg hc118]
            all_goals
              rfl
        refine (e_44_247 _ _ _ _ _ _ _ _ _ _ _ _ _ _ _).trans ?_
        refine (if_neg ((h hc114).2.2.2.2.2.2.2.1)).trans ?_
        exact ih (am_put (am_put σ (40 + x6.toNatClampNeg) x3.toNatClampNeg (if (if 0 < (σ.1 38 x6.toNatClampNeg) then ((if (σ.1 38 ((((x6 + 1) &&& 3)).toNatClampNeg)) < 0 then (0 : Int32) else 1) : Int32) else 0) = 0 then (0 : Int32) else (((v_120 σ 0 (-(σ.1 38 ((((x6 + 2) &&& 3)).toNatClampNeg)))) * (v_120 σ 0 (-(σ.1 38 ((((x6 + 2) &&& 3)).toNatClampNeg))))) + ((v_120 σ 0 (-(σ.1 38 ((((x6 + 3) &&& 3)).toNatClampNeg)))) * (v_120 σ 0 (-(σ.1 38 ((((x6 + 3) &&& 3)).toNatClampNeg)))))))) (45 + x6.toNatClampNeg) x3.toNatClampNeg (if (if 0 < (σ.1 38 x6.toNatClampNeg) then ((if (σ.1 38 ((((x6 + 1) &&& 3)).toNatClampNeg)) < 0 then (0 : Int32) else 1) : Int32) else 0) = 0 then (0 : Int32) else (((σ.1 38 x6.toNatClampNeg) * (σ.1 38 x6.toNatClampNeg)) + ((σ.1 38 ((((x6 + 1) &&& 3)).toNatClampNeg)) * (σ.1 38 ((((x6 + 1) &&& 3)).toNatClampNeg)))))) x2 x3 x4 x5 (x6 + 1) (some (.inl (σ.1 38 x6.toNatClampNeg))) (some (.inl (σ.1 38 ((((x6 + 1) &&& 3)).toNatClampNeg)))) (some (.inl (if 0 < (σ.1 38 x6.toNatClampNeg) then ((if (σ.1 38 ((((x6 + 1) &&& 3)).toNatClampNeg)) < 0 then (0 : Int32) else 1) : Int32) else 0))) (some (.inl (v_120 σ 0 (-(σ.1 38 ((((x6 + 2) &&& 3)).toNatClampNeg)))))) (some (.inl (v_120 σ 0 (-(σ.1 38 ((((x6 + 3) &&& 3)).toNatClampNeg)))))) ((h hc114).2.2.2.2.2.2.2.2)
    · simp only [if_neg hc114]
      all_goals
        refine (e_44_254 _ _ _ _ _ _ _ _ _ _ _ _).trans ?_
        rfl
def p_44 (σ : am_M) (x2 : Int32) (x3 : Int32) : Prop := (p_10 σ x2 (σ.1 37 0)) ∧ ((p_10 σ x2 (σ.1 37 1)) ∧ ((p_10 σ x3 (σ.1 37 0)) ∧ ((p_10 (am_put σ 38 0 ((v_10 σ x3 (σ.1 37 0)) - (v_10 σ x2 (σ.1 37 0)))) x3 (σ.1 37 1)) ∧ ((p_10 (am_put (am_put σ 38 0 ((v_10 σ x3 (σ.1 37 0)) - (v_10 σ x2 (σ.1 37 0)))) 38 1 ((v_10 (am_put σ 38 0 ((v_10 σ x3 (σ.1 37 0)) - (v_10 σ x2 (σ.1 37 0)))) x3 (σ.1 37 1)) - (v_10 σ x2 (σ.1 37 1)))) x3 (σ.1 37 2)) ∧ ((p_10 (am_put (am_put (am_put σ 38 0 ((v_10 σ x3 (σ.1 37 0)) - (v_10 σ x2 (σ.1 37 0)))) 38 1 ((v_10 (am_put σ 38 0 ((v_10 σ x3 (σ.1 37 0)) - (v_10 σ x2 (σ.1 37 0)))) x3 (σ.1 37 1)) - (v_10 σ x2 (σ.1 37 1)))) 38 2 ((v_10 (am_put (am_put σ 38 0 ((v_10 σ x3 (σ.1 37 0)) - (v_10 σ x2 (σ.1 37 0)))) 38 1 ((v_10 (am_put σ 38 0 ((v_10 σ x3 (σ.1 37 0)) - (v_10 σ x2 (σ.1 37 0)))) x3 (σ.1 37 1)) - (v_10 σ x2 (σ.1 37 1)))) x3 (σ.1 37 2)) + (v_10 σ x2 (σ.1 37 0)))) x3 (σ.1 37 3)) ∧ (q_44_109 14 (am_put (am_put (am_put (am_put σ 38 0 ((v_10 σ x3 (σ.1 37 0)) - (v_10 σ x2 (σ.1 37 0)))) 38 1 ((v_10 (am_put σ 38 0 ((v_10 σ x3 (σ.1 37 0)) - (v_10 σ x2 (σ.1 37 0)))) x3 (σ.1 37 1)) - (v_10 σ x2 (σ.1 37 1)))) 38 2 ((v_10 (am_put (am_put σ 38 0 ((v_10 σ x3 (σ.1 37 0)) - (v_10 σ x2 (σ.1 37 0)))) 38 1 ((v_10 (am_put σ 38 0 ((v_10 σ x3 (σ.1 37 0)) - (v_10 σ x2 (σ.1 37 0)))) x3 (σ.1 37 1)) - (v_10 σ x2 (σ.1 37 1)))) x3 (σ.1 37 2)) + (v_10 σ x2 (σ.1 37 0)))) 38 3 ((v_10 (am_put (am_put (am_put σ 38 0 ((v_10 σ x3 (σ.1 37 0)) - (v_10 σ x2 (σ.1 37 0)))) 38 1 ((v_10 (am_put σ 38 0 ((v_10 σ x3 (σ.1 37 0)) - (v_10 σ x2 (σ.1 37 0)))) x3 (σ.1 37 1)) - (v_10 σ x2 (σ.1 37 1)))) 38 2 ((v_10 (am_put (am_put σ 38 0 ((v_10 σ x3 (σ.1 37 0)) - (v_10 σ x2 (σ.1 37 0)))) 38 1 ((v_10 (am_put σ 38 0 ((v_10 σ x3 (σ.1 37 0)) - (v_10 σ x2 (σ.1 37 0)))) x3 (σ.1 37 1)) - (v_10 σ x2 (σ.1 37 1)))) x3 (σ.1 37 2)) + (v_10 σ x2 (σ.1 37 0)))) x3 (σ.1 37 3)) + (v_10 σ x2 (σ.1 37 1)))) x2 x3 (v_10 σ x2 (σ.1 37 0)) (v_10 σ x2 (σ.1 37 1)) 0))))))
def f_44 (σ : am_M) (x2 : Int32) (x3 : Int32) : am_M := (l_44_109 14 (am_put (am_put (am_put (am_put σ 38 0 ((v_10 σ x3 (σ.1 37 0)) - (v_10 σ x2 (σ.1 37 0)))) 38 1 ((v_10 (am_put σ 38 0 ((v_10 σ x3 (σ.1 37 0)) - (v_10 σ x2 (σ.1 37 0)))) x3 (σ.1 37 1)) - (v_10 σ x2 (σ.1 37 1)))) 38 2 ((v_10 (am_put (am_put σ 38 0 ((v_10 σ x3 (σ.1 37 0)) - (v_10 σ x2 (σ.1 37 0)))) 38 1 ((v_10 (am_put σ 38 0 ((v_10 σ x3 (σ.1 37 0)) - (v_10 σ x2 (σ.1 37 0)))) x3 (σ.1 37 1)) - (v_10 σ x2 (σ.1 37 1)))) x3 (σ.1 37 2)) + (v_10 σ x2 (σ.1 37 0)))) 38 3 ((v_10 (am_put (am_put (am_put σ 38 0 ((v_10 σ x3 (σ.1 37 0)) - (v_10 σ x2 (σ.1 37 0)))) 38 1 ((v_10 (am_put σ 38 0 ((v_10 σ x3 (σ.1 37 0)) - (v_10 σ x2 (σ.1 37 0)))) x3 (σ.1 37 1)) - (v_10 σ x2 (σ.1 37 1)))) 38 2 ((v_10 (am_put (am_put σ 38 0 ((v_10 σ x3 (σ.1 37 0)) - (v_10 σ x2 (σ.1 37 0)))) 38 1 ((v_10 (am_put σ 38 0 ((v_10 σ x3 (σ.1 37 0)) - (v_10 σ x2 (σ.1 37 0)))) x3 (σ.1 37 1)) - (v_10 σ x2 (σ.1 37 1)))) x3 (σ.1 37 2)) + (v_10 σ x2 (σ.1 37 0)))) x3 (σ.1 37 3)) + (v_10 σ x2 (σ.1 37 1)))) x2 x3 (v_10 σ x2 (σ.1 37 0)) (v_10 σ x2 (σ.1 37 1)) 0)
set_option maxRecDepth 20000 in
theorem sf_44 (L : Nat) (σ : am_M) (x2 : Int32) (x3 : Int32) (h : p_44 σ x2 x3) : am_r L 44 0 [some (.inr (.inr (36, none))), some (.inr (.inr (20, none))), some (.inl x2), some (.inl x3), none, none, none, none, none, none, none, none] [] σ = some (none, am_sh0 L, (f_44 σ x2 x3)) := by
  unfold p_44 at h
  unfold f_44
  refine (e_44_0 _ _ _ _).trans ?_
  refine (if_neg (by decide)).trans ?_
  refine (am_bind_i (s_10 L σ x2 (σ.1 37 0) h.1)).trans ?_
  refine (e_44_11 _ _ _ _ _).trans ?_
  refine (if_neg (by decide)).trans ?_
  refine (am_bind_i (s_10 L σ x2 (σ.1 37 1) h.2.1)).trans ?_
  refine (e_44_24 _ _ _ _ _ _).trans ?_
  refine (if_neg (by decide)).trans ?_
  refine (am_bind_i (s_10 L σ x3 (σ.1 37 0) h.2.2.1)).trans ?_
  refine (e_44_42 _ _ _ _ _ _ _ _).trans ?_
  refine (if_neg (by decide)).trans ?_
  refine (if_neg (by decide)).trans ?_
  refine (am_bind_i (s_10 L (am_put σ 38 0 ((v_10 σ x3 (σ.1 37 0)) - (v_10 σ x2 (σ.1 37 0)))) x3 (σ.1 37 1) h.2.2.2.1)).trans ?_
  refine (e_44_62 _ _ _ _ _ _ _ _).trans ?_
  refine (if_neg (by decide)).trans ?_
  refine (if_neg (by decide)).trans ?_
  refine (am_bind_i (s_10 L (am_put (am_put σ 38 0 ((v_10 σ x3 (σ.1 37 0)) - (v_10 σ x2 (σ.1 37 0)))) 38 1 ((v_10 (am_put σ 38 0 ((v_10 σ x3 (σ.1 37 0)) - (v_10 σ x2 (σ.1 37 0)))) x3 (σ.1 37 1)) - (v_10 σ x2 (σ.1 37 1)))) x3 (σ.1 37 2) h.2.2.2.2.1)).trans ?_
  refine (e_44_82 _ _ _ _ _ _ _ _).trans ?_
  refine (if_neg (by decide)).trans ?_
  refine (if_neg (by decide)).trans ?_
  refine (am_bind_i (s_10 L (am_put (am_put (am_put σ 38 0 ((v_10 σ x3 (σ.1 37 0)) - (v_10 σ x2 (σ.1 37 0)))) 38 1 ((v_10 (am_put σ 38 0 ((v_10 σ x3 (σ.1 37 0)) - (v_10 σ x2 (σ.1 37 0)))) x3 (σ.1 37 1)) - (v_10 σ x2 (σ.1 37 1)))) 38 2 ((v_10 (am_put (am_put σ 38 0 ((v_10 σ x3 (σ.1 37 0)) - (v_10 σ x2 (σ.1 37 0)))) 38 1 ((v_10 (am_put σ 38 0 ((v_10 σ x3 (σ.1 37 0)) - (v_10 σ x2 (σ.1 37 0)))) x3 (σ.1 37 1)) - (v_10 σ x2 (σ.1 37 1)))) x3 (σ.1 37 2)) + (v_10 σ x2 (σ.1 37 0)))) x3 (σ.1 37 3) h.2.2.2.2.2.1)).trans ?_
  refine (e_44_102 _ _ _ _ _ _ _ _).trans ?_
  refine (if_neg (by decide)).trans ?_
  exact t_44_109 L 14 (am_put (am_put (am_put (am_put σ 38 0 ((v_10 σ x3 (σ.1 37 0)) - (v_10 σ x2 (σ.1 37 0)))) 38 1 ((v_10 (am_put σ 38 0 ((v_10 σ x3 (σ.1 37 0)) - (v_10 σ x2 (σ.1 37 0)))) x3 (σ.1 37 1)) - (v_10 σ x2 (σ.1 37 1)))) 38 2 ((v_10 (am_put (am_put σ 38 0 ((v_10 σ x3 (σ.1 37 0)) - (v_10 σ x2 (σ.1 37 0)))) 38 1 ((v_10 (am_put σ 38 0 ((v_10 σ x3 (σ.1 37 0)) - (v_10 σ x2 (σ.1 37 0)))) x3 (σ.1 37 1)) - (v_10 σ x2 (σ.1 37 1)))) x3 (σ.1 37 2)) + (v_10 σ x2 (σ.1 37 0)))) 38 3 ((v_10 (am_put (am_put (am_put σ 38 0 ((v_10 σ x3 (σ.1 37 0)) - (v_10 σ x2 (σ.1 37 0)))) 38 1 ((v_10 (am_put σ 38 0 ((v_10 σ x3 (σ.1 37 0)) - (v_10 σ x2 (σ.1 37 0)))) x3 (σ.1 37 1)) - (v_10 σ x2 (σ.1 37 1)))) 38 2 ((v_10 (am_put (am_put σ 38 0 ((v_10 σ x3 (σ.1 37 0)) - (v_10 σ x2 (σ.1 37 0)))) 38 1 ((v_10 (am_put σ 38 0 ((v_10 σ x3 (σ.1 37 0)) - (v_10 σ x2 (σ.1 37 0)))) x3 (σ.1 37 1)) - (v_10 σ x2 (σ.1 37 1)))) x3 (σ.1 37 2)) + (v_10 σ x2 (σ.1 37 0)))) x3 (σ.1 37 3)) + (v_10 σ x2 (σ.1 37 1)))) x2 x3 (v_10 σ x2 (σ.1 37 0)) (v_10 σ x2 (σ.1 37 1)) 0 none none none none none h.2.2.2.2.2.2
def w_44 (σ : am_M) (x2 : Int32) (x3 : Int32) : am_M := f_44 σ x2 x3
theorem s_44 (L : Nat) (σ : am_M) (x2 : Int32) (x3 : Int32) (h : p_44 σ x2 x3) : am_r L 44 0 [some (.inr (.inr (36, none))), some (.inr (.inr (20, none))), some (.inl x2), some (.inl x3), none, none, none, none, none, none, none, none] [] σ = some (none, am_sh0 L, w_44 σ x2 x3) := sf_44 L σ x2 x3 h
-- 46: X3_isBeside
def p_46 (σ : am_M) (x2 : Int32) (x3 : Int32) : Prop := (¬ ((σ.1 36 1) < 0 ∨ 3 ≤ ((σ.1 36 1)).toNatClampNeg)) ∧ ((¬ (x2 < 0 ∨ 13 ≤ x2.toNatClampNeg)) ∧ ((¬ ((σ.1 36 1) < 0 ∨ 3 ≤ ((σ.1 36 1)).toNatClampNeg)) ∧ ((¬ (x2 < 0 ∨ 13 ≤ x2.toNatClampNeg)) ∧ ((¬ ((σ.1 36 1) < 0 ∨ 3 ≤ ((σ.1 36 1)).toNatClampNeg)) ∧ ((¬ (x3 < 0 ∨ 13 ≤ x3.toNatClampNeg)) ∧ ((¬ ((σ.1 36 1) < 0 ∨ 3 ≤ ((σ.1 36 1)).toNatClampNeg)) ∧ (¬ (x3 < 0 ∨ 13 ≤ x3.toNatClampNeg))))))))
def v_46 (σ : am_M) (x2 : Int32) (x3 : Int32) : Int32 := (if (σ.1 (29 + ((σ.1 36 1)).toNatClampNeg) x2.toNatClampNeg) = (σ.1 (33 + ((σ.1 36 1)).toNatClampNeg) x2.toNatClampNeg) then (if (σ.1 (29 + ((σ.1 36 1)).toNatClampNeg) x3.toNatClampNeg) = (σ.1 (33 + ((σ.1 36 1)).toNatClampNeg) x3.toNatClampNeg) then (if (σ.1 (29 + ((σ.1 36 1)).toNatClampNeg) x2.toNatClampNeg) = (σ.1 (29 + ((σ.1 36 1)).toNatClampNeg) x3.toNatClampNeg) then (1 : Int32) else 0) else (if (σ.1 (29 + ((σ.1 36 1)).toNatClampNeg) x2.toNatClampNeg) < (σ.1 (33 + ((σ.1 36 1)).toNatClampNeg) x3.toNatClampNeg) then ((if (σ.1 (29 + ((σ.1 36 1)).toNatClampNeg) x3.toNatClampNeg) < (σ.1 (33 + ((σ.1 36 1)).toNatClampNeg) x2.toNatClampNeg) then (1 : Int32) else 0) : Int32) else 0)) else (if (σ.1 (29 + ((σ.1 36 1)).toNatClampNeg) x2.toNatClampNeg) < (σ.1 (33 + ((σ.1 36 1)).toNatClampNeg) x3.toNatClampNeg) then ((if (σ.1 (29 + ((σ.1 36 1)).toNatClampNeg) x3.toNatClampNeg) < (σ.1 (33 + ((σ.1 36 1)).toNatClampNeg) x2.toNatClampNeg) then (1 : Int32) else 0) : Int32) else 0))
set_option maxRecDepth 20000 in
theorem s_46 (L : Nat) (σ : am_M) (x2 : Int32) (x3 : Int32) (h : p_46 σ x2 x3) : am_r L 46 0 [some (.inr (.inr (36, none))), some (.inr (.inr (20, none))), some (.inl x2), some (.inl x3), none, none, none, none] [] σ = some (some (.inl (v_46 σ x2 x3)), am_sh0 L, σ) := by
  unfold p_46 at h
  unfold v_46
  refine (e_46_0 _ _ _ _).trans ?_
  refine (if_neg h.1).trans ?_
  refine (if_neg h.2.1).trans ?_
  refine (if_neg h.2.2.1).trans ?_
  refine (if_neg h.2.2.2.1).trans ?_
  refine (e_46_24 _ _ _ _ _ _).trans ?_
  refine (if_neg h.2.2.2.2.1).trans ?_
  refine (if_neg h.2.2.2.2.2.1).trans ?_
  refine (if_neg h.2.2.2.2.2.2.1).trans ?_
  refine (if_neg h.2.2.2.2.2.2.2).trans ?_
  refine (e_46_50 _ _ _ _ _ _ _ _).trans ?_
  by_cases hc119 : (σ.1 (29 + ((σ.1 36 1)).toNatClampNeg) x2.toNatClampNeg) = (σ.1 (33 + ((σ.1 36 1)).toNatClampNeg) x2.toNatClampNeg)
  · simp only [if_pos hc119]
    all_goals
      by_cases hc120 : (σ.1 (29 + ((σ.1 36 1)).toNatClampNeg) x3.toNatClampNeg) = (σ.1 (33 + ((σ.1 36 1)).toNatClampNeg) x3.toNatClampNeg)
      · simp only [if_pos hc120]
        all_goals
          refine Eq.trans (b := am_r L 46 78 [some (.inr (.inr (36, none))), some (.inr (.inr (20, none))), some (.inl x2), some (.inl x3), some (.inl (σ.1 (29 + ((σ.1 36 1)).toNatClampNeg) x2.toNatClampNeg)), some (.inl (σ.1 (33 + ((σ.1 36 1)).toNatClampNeg) x2.toNatClampNeg)), some (.inl (σ.1 (29 + ((σ.1 36 1)).toNatClampNeg) x3.toNatClampNeg)), some (.inl (σ.1 (33 + ((σ.1 36 1)).toNatClampNeg) x3.toNatClampNeg))] [.inl (if (σ.1 (29 + ((σ.1 36 1)).toNatClampNeg) x2.toNatClampNeg) = (σ.1 (29 + ((σ.1 36 1)).toNatClampNeg) x3.toNatClampNeg) then (1 : Int32) else 0)] σ) ?_ ?_
          · by_cases hc121 : (σ.1 (29 + ((σ.1 36 1)).toNatClampNeg) x2.toNatClampNeg) = (σ.1 (29 + ((σ.1 36 1)).toNatClampNeg) x3.toNatClampNeg)
            · simp only [if_pos hc121]
              all_goals
                rfl
            · simp only [if_neg hc121]
              all_goals
                refine (e_46_77 _ _ _ _ _ _ _ _).trans ?_
                rfl
          refine (e_46_78 _ _ _ _ _ _ _ _ _).trans ?_
          refine (if_pos (am_01 (Or.inr rfl) (Or.inl rfl))).trans ?_
          rfl
      · simp only [if_neg hc120]
        all_goals
          refine (e_46_79 _ _ _ _ _ _ _ _).trans ?_
          refine Eq.trans (b := am_r L 46 98 [some (.inr (.inr (36, none))), some (.inr (.inr (20, none))), some (.inl x2), some (.inl x3), some (.inl (σ.1 (29 + ((σ.1 36 1)).toNatClampNeg) x2.toNatClampNeg)), some (.inl (σ.1 (33 + ((σ.1 36 1)).toNatClampNeg) x2.toNatClampNeg)), some (.inl (σ.1 (29 + ((σ.1 36 1)).toNatClampNeg) x3.toNatClampNeg)), some (.inl (σ.1 (33 + ((σ.1 36 1)).toNatClampNeg) x3.toNatClampNeg))] [.inl (if (σ.1 (29 + ((σ.1 36 1)).toNatClampNeg) x2.toNatClampNeg) < (σ.1 (33 + ((σ.1 36 1)).toNatClampNeg) x3.toNatClampNeg) then ((if (σ.1 (29 + ((σ.1 36 1)).toNatClampNeg) x3.toNatClampNeg) < (σ.1 (33 + ((σ.1 36 1)).toNatClampNeg) x2.toNatClampNeg) then (1 : Int32) else 0) : Int32) else 0)] σ) ?_ ?_
          · by_cases hc122 : (σ.1 (29 + ((σ.1 36 1)).toNatClampNeg) x2.toNatClampNeg) < (σ.1 (33 + ((σ.1 36 1)).toNatClampNeg) x3.toNatClampNeg)
            · simp only [if_pos hc122]
              all_goals
                refine Eq.trans (b := am_r L 46 98 [some (.inr (.inr (36, none))), some (.inr (.inr (20, none))), some (.inl x2), some (.inl x3), some (.inl (σ.1 (29 + ((σ.1 36 1)).toNatClampNeg) x2.toNatClampNeg)), some (.inl (σ.1 (33 + ((σ.1 36 1)).toNatClampNeg) x2.toNatClampNeg)), some (.inl (σ.1 (29 + ((σ.1 36 1)).toNatClampNeg) x3.toNatClampNeg)), some (.inl (σ.1 (33 + ((σ.1 36 1)).toNatClampNeg) x3.toNatClampNeg))] [.inl (if (σ.1 (29 + ((σ.1 36 1)).toNatClampNeg) x3.toNatClampNeg) < (σ.1 (33 + ((σ.1 36 1)).toNatClampNeg) x2.toNatClampNeg) then (1 : Int32) else 0)] σ) ?_ ?_
                · by_cases hc123 : (σ.1 (29 + ((σ.1 36 1)).toNatClampNeg) x3.toNatClampNeg) < (σ.1 (33 + ((σ.1 36 1)).toNatClampNeg) x2.toNatClampNeg)
                  · simp only [if_pos hc123]
                    all_goals
                      rfl
                  · simp only [if_neg hc123]
                    all_goals
                      refine (e_46_97 _ _ _ _ _ _ _ _).trans ?_
                      rfl
                rfl
            · simp only [if_neg hc122]
              all_goals
                refine (e_46_97 _ _ _ _ _ _ _ _).trans ?_
                rfl
          refine (e_46_98 _ _ _ _ _ _ _ _ _).trans ?_
          refine (if_pos (am_01 (am_01 (Or.inr rfl) (Or.inl rfl)) (Or.inl rfl))).trans ?_
          rfl
  · simp only [if_neg hc119]
    all_goals
      refine (e_46_79 _ _ _ _ _ _ _ _).trans ?_
      refine Eq.trans (b := am_r L 46 98 [some (.inr (.inr (36, none))), some (.inr (.inr (20, none))), some (.inl x2), some (.inl x3), some (.inl (σ.1 (29 + ((σ.1 36 1)).toNatClampNeg) x2.toNatClampNeg)), some (.inl (σ.1 (33 + ((σ.1 36 1)).toNatClampNeg) x2.toNatClampNeg)), some (.inl (σ.1 (29 + ((σ.1 36 1)).toNatClampNeg) x3.toNatClampNeg)), some (.inl (σ.1 (33 + ((σ.1 36 1)).toNatClampNeg) x3.toNatClampNeg))] [.inl (if (σ.1 (29 + ((σ.1 36 1)).toNatClampNeg) x2.toNatClampNeg) < (σ.1 (33 + ((σ.1 36 1)).toNatClampNeg) x3.toNatClampNeg) then ((if (σ.1 (29 + ((σ.1 36 1)).toNatClampNeg) x3.toNatClampNeg) < (σ.1 (33 + ((σ.1 36 1)).toNatClampNeg) x2.toNatClampNeg) then (1 : Int32) else 0) : Int32) else 0)] σ) ?_ ?_
      · by_cases hc124 : (σ.1 (29 + ((σ.1 36 1)).toNatClampNeg) x2.toNatClampNeg) < (σ.1 (33 + ((σ.1 36 1)).toNatClampNeg) x3.toNatClampNeg)
        · simp only [if_pos hc124]
          all_goals
            refine Eq.trans (b := am_r L 46 98 [some (.inr (.inr (36, none))), some (.inr (.inr (20, none))), some (.inl x2), some (.inl x3), some (.inl (σ.1 (29 + ((σ.1 36 1)).toNatClampNeg) x2.toNatClampNeg)), some (.inl (σ.1 (33 + ((σ.1 36 1)).toNatClampNeg) x2.toNatClampNeg)), some (.inl (σ.1 (29 + ((σ.1 36 1)).toNatClampNeg) x3.toNatClampNeg)), some (.inl (σ.1 (33 + ((σ.1 36 1)).toNatClampNeg) x3.toNatClampNeg))] [.inl (if (σ.1 (29 + ((σ.1 36 1)).toNatClampNeg) x3.toNatClampNeg) < (σ.1 (33 + ((σ.1 36 1)).toNatClampNeg) x2.toNatClampNeg) then (1 : Int32) else 0)] σ) ?_ ?_
            · by_cases hc125 : (σ.1 (29 + ((σ.1 36 1)).toNatClampNeg) x3.toNatClampNeg) < (σ.1 (33 + ((σ.1 36 1)).toNatClampNeg) x2.toNatClampNeg)
              · simp only [if_pos hc125]
                all_goals
                  rfl
              · simp only [if_neg hc125]
                all_goals
                  refine (e_46_97 _ _ _ _ _ _ _ _).trans ?_
                  rfl
            rfl
        · simp only [if_neg hc124]
          all_goals
            refine (e_46_97 _ _ _ _ _ _ _ _).trans ?_
            rfl
      refine (e_46_98 _ _ _ _ _ _ _ _ _).trans ?_
      refine (if_pos (am_01 (am_01 (Or.inr rfl) (Or.inl rfl)) (Or.inl rfl))).trans ?_
      rfl
theorem b_46 (σ : am_M) (x2 : Int32) (x3 : Int32) : v_46 σ x2 x3 = 0 ∨ v_46 σ x2 x3 = 1 := (am_01 (am_01 (am_01 (Or.inr rfl) (Or.inl rfl)) (am_01 (am_01 (Or.inr rfl) (Or.inl rfl)) (Or.inl rfl))) (am_01 (am_01 (Or.inr rfl) (Or.inl rfl)) (Or.inl rfl)))
-- 47: X3_areBandsCommon
def l_47_3 : Nat → am_M → Int32 → Int32 → Int32 → Int32 → Int32
  | 0, _, _, _, _, _ => 0
  | n + 1, σ, x1, x2, x3, x4 => (if x4 < 4 then (if (v_120 σ (σ.1 (40 + x4.toNatClampNeg) x1.toNatClampNeg) (σ.1 (40 + x4.toNatClampNeg) x2.toNatClampNeg)) < (v_121 σ (σ.1 (45 + x4.toNatClampNeg) x1.toNatClampNeg) (σ.1 (45 + x4.toNatClampNeg) x2.toNatClampNeg)) then 1 else (if (v_120 σ (σ.1 (40 + x4.toNatClampNeg) x1.toNatClampNeg) (σ.1 (40 + (((x4 + x3) &&& 3)).toNatClampNeg) x2.toNatClampNeg)) < (v_121 σ (σ.1 (45 + x4.toNatClampNeg) x1.toNatClampNeg) (σ.1 (45 + (((x4 + x3) &&& 3)).toNatClampNeg) x2.toNatClampNeg)) then 1 else (l_47_3 n σ x1 x2 x3 (x4 + 1)))) else 0)
def q_47_3 : Nat → am_M → Int32 → Int32 → Int32 → Int32 → Prop
  | 0, _, _, _, _, _ => False
  | n + 1, σ, x1, x2, x3, x4 => (x4 < 4) → ((¬ (x4 < 0 ∨ 4 ≤ x4.toNatClampNeg)) ∧ ((¬ (x1 < 0 ∨ 13 ≤ x1.toNatClampNeg)) ∧ ((¬ (x4 < 0 ∨ 4 ≤ x4.toNatClampNeg)) ∧ ((¬ (x1 < 0 ∨ 13 ≤ x1.toNatClampNeg)) ∧ ((¬ (x4 < 0 ∨ 4 ≤ x4.toNatClampNeg)) ∧ ((¬ (x2 < 0 ∨ 13 ≤ x2.toNatClampNeg)) ∧ ((¬ (x4 < 0 ∨ 4 ≤ x4.toNatClampNeg)) ∧ ((¬ (x2 < 0 ∨ 13 ≤ x2.toNatClampNeg)) ∧ (¬ ((v_120 σ (σ.1 (40 + x4.toNatClampNeg) x1.toNatClampNeg) (σ.1 (40 + x4.toNatClampNeg) x2.toNatClampNeg)) < (v_121 σ (σ.1 (45 + x4.toNatClampNeg) x1.toNatClampNeg) (σ.1 (45 + x4.toNatClampNeg) x2.toNatClampNeg))) → ((¬ (((x4 + x3) &&& 3) < 0 ∨ 4 ≤ (((x4 + x3) &&& 3)).toNatClampNeg)) ∧ ((¬ (x2 < 0 ∨ 13 ≤ x2.toNatClampNeg)) ∧ ((¬ (((x4 + x3) &&& 3) < 0 ∨ 4 ≤ (((x4 + x3) &&& 3)).toNatClampNeg)) ∧ ((¬ (x2 < 0 ∨ 13 ≤ x2.toNatClampNeg)) ∧ (¬ ((v_120 σ (σ.1 (40 + x4.toNatClampNeg) x1.toNatClampNeg) (σ.1 (40 + (((x4 + x3) &&& 3)).toNatClampNeg) x2.toNatClampNeg)) < (v_121 σ (σ.1 (45 + x4.toNatClampNeg) x1.toNatClampNeg) (σ.1 (45 + (((x4 + x3) &&& 3)).toNatClampNeg) x2.toNatClampNeg))) → (q_47_3 n σ x1 x2 x3 (x4 + 1))))))))))))))))
set_option maxRecDepth 20000 in
theorem t_47_3 (L : Nat) (σ : am_M) : ∀ (n : Nat) (x1 : Int32) (x2 : Int32) (x3 : Int32) (x4 : Int32) (o5 : Option am_V) (o6 : Option am_V) (o7 : Option am_V), q_47_3 n σ x1 x2 x3 x4 → am_r L 47 3 [some (.inr (.inr (36, none))), some (.inl x1), some (.inl x2), some (.inl x3), some (.inl x4), o5, o6, o7] [] σ = some (some (.inl (l_47_3 n σ x1 x2 x3 x4)), am_sh0 L, σ) := by
  intro n
  induction n with
  | zero => intro x1 x2 x3 x4 o5 o6 o7 h; exact h.elim
  | succ n ih =>
    intro x1 x2 x3 x4 o5 o6 o7 h
    unfold q_47_3 at h
    unfold l_47_3
    refine (e_47_3 _ _ _ _ _ _ _ _ _).trans ?_
    by_cases hc126 : x4 < 4
    · simp only [if_pos hc126]
      all_goals
        refine (if_neg ((h hc126).1)).trans ?_
        refine (if_neg ((h hc126).2.1)).trans ?_
        refine (if_neg ((h hc126).2.2.1)).trans ?_
        refine (e_47_35 _ _ _ _ _ _ _ _ _ _).trans ?_
        refine (if_neg ((h hc126).2.2.2.1)).trans ?_
        refine (if_neg ((h hc126).2.2.2.2.1)).trans ?_
        refine (if_neg ((h hc126).2.2.2.2.2.1)).trans ?_
        refine (am_bind_i (s_120 L σ (σ.1 (40 + x4.toNatClampNeg) x1.toNatClampNeg) (σ.1 (40 + x4.toNatClampNeg) x2.toNatClampNeg))).trans ?_
        refine (e_47_53 _ _ _ _ _ _ _ _ _ _).trans ?_
        refine (if_neg ((h hc126).2.2.2.2.2.2.1)).trans ?_
        refine (if_neg ((h hc126).2.2.2.2.2.2.2.1)).trans ?_
        refine (am_bind_i (s_121 L σ (σ.1 (45 + x4.toNatClampNeg) x1.toNatClampNeg) (σ.1 (45 + x4.toNatClampNeg) x2.toNatClampNeg))).trans ?_
        refine (e_47_67 _ _ _ _ _ _ _ _ _ _ _).trans ?_
        by_cases hc127 : (v_120 σ (σ.1 (40 + x4.toNatClampNeg) x1.toNatClampNeg) (σ.1 (40 + x4.toNatClampNeg) x2.toNatClampNeg)) < (v_121 σ (σ.1 (45 + x4.toNatClampNeg) x1.toNatClampNeg) (σ.1 (45 + x4.toNatClampNeg) x2.toNatClampNeg))
        · simp only [if_pos hc127]
          all_goals
            refine (e_47_101 _ _ _ _ _ _ _ _ _).trans ?_
            refine (e_47_102 _ _ _ _ _ _ _ _ _ _).trans ?_
            rfl
        · simp only [if_neg hc127]
          all_goals
            refine (if_neg (((h hc126).2.2.2.2.2.2.2.2 hc127).1)).trans ?_
            refine (if_neg (((h hc126).2.2.2.2.2.2.2.2 hc127).2.1)).trans ?_
            refine (am_bind_i (s_120 L σ (σ.1 (40 + x4.toNatClampNeg) x1.toNatClampNeg) (σ.1 (40 + (((x4 + x3) &&& 3)).toNatClampNeg) x2.toNatClampNeg))).trans ?_
            refine (e_47_84 _ _ _ _ _ _ _ _ _ _).trans ?_
            refine (if_neg (((h hc126).2.2.2.2.2.2.2.2 hc127).2.2.1)).trans ?_
            refine (if_neg (((h hc126).2.2.2.2.2.2.2.2 hc127).2.2.2.1)).trans ?_
            refine (am_bind_i (s_121 L σ (σ.1 (45 + x4.toNatClampNeg) x1.toNatClampNeg) (σ.1 (45 + (((x4 + x3) &&& 3)).toNatClampNeg) x2.toNatClampNeg))).trans ?_
            refine (e_47_98 _ _ _ _ _ _ _ _ _ _ _).trans ?_
            by_cases hc128 : (v_120 σ (σ.1 (40 + x4.toNatClampNeg) x1.toNatClampNeg) (σ.1 (40 + (((x4 + x3) &&& 3)).toNatClampNeg) x2.toNatClampNeg)) < (v_121 σ (σ.1 (45 + x4.toNatClampNeg) x1.toNatClampNeg) (σ.1 (45 + (((x4 + x3) &&& 3)).toNatClampNeg) x2.toNatClampNeg))
            · simp only [if_pos hc128]
              all_goals
                refine (e_47_101 _ _ _ _ _ _ _ _ _).trans ?_
                refine (e_47_102 _ _ _ _ _ _ _ _ _ _).trans ?_
                rfl
            · simp only [if_neg hc128]
              all_goals
                refine (e_47_103 _ _ _ _ _ _ _ _ _).trans ?_
                exact ih x1 x2 x3 (x4 + 1) (some (.inl ((x4 + x3) &&& 3))) (some (.inl (σ.1 (40 + x4.toNatClampNeg) x1.toNatClampNeg))) (some (.inl (σ.1 (45 + x4.toNatClampNeg) x1.toNatClampNeg))) ((((h hc126).2.2.2.2.2.2.2.2 hc127).2.2.2.2 hc128))
    · simp only [if_neg hc126]
      all_goals
        refine (e_47_109 _ _ _ _ _ _ _ _ _).trans ?_
        refine (e_47_110 _ _ _ _ _ _ _ _ _ _).trans ?_
        rfl
def p_47 (σ : am_M) (x1 : Int32) (x2 : Int32) (x3 : Int32) : Prop := q_47_3 14 σ x1 x2 x3 0
def f_47 (σ : am_M) (x1 : Int32) (x2 : Int32) (x3 : Int32) : Int32 := (l_47_3 14 σ x1 x2 x3 0)
set_option maxRecDepth 20000 in
theorem sf_47 (L : Nat) (σ : am_M) (x1 : Int32) (x2 : Int32) (x3 : Int32) (h : p_47 σ x1 x2 x3) : am_r L 47 0 [some (.inr (.inr (36, none))), some (.inl x1), some (.inl x2), some (.inl x3), none, none, none, none] [] σ = some (some (.inl (f_47 σ x1 x2 x3)), am_sh0 L, σ) := by
  unfold p_47 at h
  unfold f_47
  refine (e_47_0 _ _ _ _ _).trans ?_
  exact t_47_3 L σ 14 x1 x2 x3 0 none none none h
def v_47 (σ : am_M) (x1 : Int32) (x2 : Int32) (x3 : Int32) : Int32 := f_47 σ x1 x2 x3
theorem s_47 (L : Nat) (σ : am_M) (x1 : Int32) (x2 : Int32) (x3 : Int32) (h : p_47 σ x1 x2 x3) : am_r L 47 0 [some (.inr (.inr (36, none))), some (.inl x1), some (.inl x2), some (.inl x3), none, none, none, none] [] σ = some (some (.inl (v_47 σ x1 x2 x3)), am_sh0 L, σ) := sf_47 L σ x1 x2 x3 h
-- 45: X3_hitsFixed
def l_45_3 : Nat → am_M → Int32 → Int32 → Int32 → Int32 → Int32 → Int32
  | 0, _, _, _, _, _, _ => 0
  | n + 1, σ, x3, x4, x5, x6, x7 => (if x7 < (σ.1 2 0) then (if ((x4 >>> (x7 &&& 31)) &&& 1) = 0 then (if (if x5 = x3 then ((if x7 = (σ.1 3 x3.toNatClampNeg) then (1 : Int32) else (if x7 = x3 then ((if x5 = (σ.1 3 x3.toNatClampNeg) then (1 : Int32) else 0) : Int32) else 0)) : Int32) else (if x7 = x3 then ((if x5 = (σ.1 3 x3.toNatClampNeg) then (1 : Int32) else 0) : Int32) else 0)) = 0 then (if (v_46 σ x5 x7) = 0 then (l_45_3 n σ x3 x4 x5 x6 (x7 + 1)) else (if (v_47 σ x5 x7 x6) = 0 then (l_45_3 n σ x3 x4 x5 x6 (x7 + 1)) else 1)) else (l_45_3 n σ x3 x4 x5 x6 (x7 + 1))) else (l_45_3 n σ x3 x4 x5 x6 (x7 + 1))) else 0)
def q_45_3 : Nat → am_M → Int32 → Int32 → Int32 → Int32 → Int32 → Prop
  | 0, _, _, _, _, _, _ => False
  | n + 1, σ, x3, x4, x5, x6, x7 => (x7 < (σ.1 2 0)) → ((((x5 = x3) → ((¬ (x3 < 0 ∨ 13 ≤ x3.toNatClampNeg)) ∧ (¬ (x7 = (σ.1 3 x3.toNatClampNeg)) → ((x7 = x3) → (¬ (x3 < 0 ∨ 13 ≤ x3.toNatClampNeg)))))) ∧ (¬ (x5 = x3) → ((x7 = x3) → (¬ (x3 < 0 ∨ 13 ≤ x3.toNatClampNeg))))) ∧ (((((x4 >>> (x7 &&& 31)) &&& 1) = 0) → ((((if x5 = x3 then ((if x7 = (σ.1 3 x3.toNatClampNeg) then (1 : Int32) else (if x7 = x3 then ((if x5 = (σ.1 3 x3.toNatClampNeg) then (1 : Int32) else 0) : Int32) else 0)) : Int32) else (if x7 = x3 then ((if x5 = (σ.1 3 x3.toNatClampNeg) then (1 : Int32) else 0) : Int32) else 0)) = 0) → ((p_46 σ x5 x7) ∧ ((((v_46 σ x5 x7) = 0) → (q_45_3 n σ x3 x4 x5 x6 (x7 + 1))) ∧ (¬ ((v_46 σ x5 x7) = 0) → ((p_47 σ x5 x7 x6) ∧ (((v_47 σ x5 x7 x6) = 0) → (q_45_3 n σ x3 x4 x5 x6 (x7 + 1)))))))) ∧ (¬ ((if x5 = x3 then ((if x7 = (σ.1 3 x3.toNatClampNeg) then (1 : Int32) else (if x7 = x3 then ((if x5 = (σ.1 3 x3.toNatClampNeg) then (1 : Int32) else 0) : Int32) else 0)) : Int32) else (if x7 = x3 then ((if x5 = (σ.1 3 x3.toNatClampNeg) then (1 : Int32) else 0) : Int32) else 0)) = 0) → (q_45_3 n σ x3 x4 x5 x6 (x7 + 1))))) ∧ (¬ (((x4 >>> (x7 &&& 31)) &&& 1) = 0) → (q_45_3 n σ x3 x4 x5 x6 (x7 + 1)))))
set_option maxRecDepth 20000 in
theorem t_45_3 (L : Nat) (σ : am_M) : ∀ (n : Nat) (x3 : Int32) (x4 : Int32) (x5 : Int32) (x6 : Int32) (x7 : Int32) (o8 : Option am_V), q_45_3 n σ x3 x4 x5 x6 x7 → am_r L 45 3 [some (.inr (.inr (36, none))), some (.inr (.inr (2, none))), some (.inr (.inr (20, none))), some (.inl x3), some (.inl x4), some (.inl x5), some (.inl x6), some (.inl x7), o8] [] σ = some (some (.inl (l_45_3 n σ x3 x4 x5 x6 x7)), am_sh0 L, σ) := by
  intro n
  induction n with
  | zero => intro x3 x4 x5 x6 x7 o8 h; exact h.elim
  | succ n ih =>
    intro x3 x4 x5 x6 x7 o8 h
    unfold q_45_3 at h
    unfold l_45_3
    refine (e_45_3 _ _ _ _ _ _ _ _).trans ?_
    by_cases hc129 : x7 < (σ.1 2 0)
    · simp only [if_pos hc129]
      all_goals
        refine Eq.trans (b := am_r L 45 51 [some (.inr (.inr (36, none))), some (.inr (.inr (2, none))), some (.inr (.inr (20, none))), some (.inl x3), some (.inl x4), some (.inl x5), some (.inl x6), some (.inl x7), o8] [.inl (if x5 = x3 then ((if x7 = (σ.1 3 x3.toNatClampNeg) then (1 : Int32) else (if x7 = x3 then ((if x5 = (σ.1 3 x3.toNatClampNeg) then (1 : Int32) else 0) : Int32) else 0)) : Int32) else (if x7 = x3 then ((if x5 = (σ.1 3 x3.toNatClampNeg) then (1 : Int32) else 0) : Int32) else 0))] σ) ?_ ?_
        · by_cases hc130 : x5 = x3
          · simp only [if_pos hc130]
            all_goals
              refine (if_neg (((h hc129).1.1 hc130).1)).trans ?_
              refine Eq.trans (b := am_r L 45 51 [some (.inr (.inr (36, none))), some (.inr (.inr (2, none))), some (.inr (.inr (20, none))), some (.inl x3), some (.inl x4), some (.inl x5), some (.inl x6), some (.inl x7), o8] [.inl (if x7 = (σ.1 3 x3.toNatClampNeg) then (1 : Int32) else (if x7 = x3 then ((if x5 = (σ.1 3 x3.toNatClampNeg) then (1 : Int32) else 0) : Int32) else 0))] σ) ?_ ?_
              · by_cases hc131 : x7 = (σ.1 3 x3.toNatClampNeg)
                · simp only [if_pos hc131]
                  all_goals
                    refine (e_45_46 _ _ _ _ _ _ _ _).trans ?_
                    rfl
                · simp only [if_neg hc131]
                  all_goals
                    refine (e_45_29 _ _ _ _ _ _ _ _).trans ?_
                    refine Eq.trans (b := am_r L 45 51 [some (.inr (.inr (36, none))), some (.inr (.inr (2, none))), some (.inr (.inr (20, none))), some (.inl x3), some (.inl x4), some (.inl x5), some (.inl x6), some (.inl x7), o8] [.inl (if x7 = x3 then ((if x5 = (σ.1 3 x3.toNatClampNeg) then (1 : Int32) else 0) : Int32) else 0)] σ) ?_ ?_
                    · by_cases hc132 : x7 = x3
                      · simp only [if_pos hc132]
                        all_goals
                          refine (if_neg (((((h hc129).1.1 hc130).2 hc131) hc132))).trans ?_
                          refine Eq.trans (b := am_r L 45 51 [some (.inr (.inr (36, none))), some (.inr (.inr (2, none))), some (.inr (.inr (20, none))), some (.inl x3), some (.inl x4), some (.inl x5), some (.inl x6), some (.inl x7), o8] [.inl (if x5 = (σ.1 3 x3.toNatClampNeg) then (1 : Int32) else 0)] σ) ?_ ?_
                          · by_cases hc133 : x5 = (σ.1 3 x3.toNatClampNeg)
                            · simp only [if_pos hc133]
                              all_goals
                                refine (e_45_46 _ _ _ _ _ _ _ _).trans ?_
                                rfl
                            · simp only [if_neg hc133]
                              all_goals
                                refine (e_45_50 _ _ _ _ _ _ _ _).trans ?_
                                rfl
                          rfl
                      · simp only [if_neg hc132]
                        all_goals
                          refine (e_45_50 _ _ _ _ _ _ _ _).trans ?_
                          rfl
                    rfl
              rfl
          · simp only [if_neg hc130]
            all_goals
              refine (e_45_29 _ _ _ _ _ _ _ _).trans ?_
              refine Eq.trans (b := am_r L 45 51 [some (.inr (.inr (36, none))), some (.inr (.inr (2, none))), some (.inr (.inr (20, none))), some (.inl x3), some (.inl x4), some (.inl x5), some (.inl x6), some (.inl x7), o8] [.inl (if x7 = x3 then ((if x5 = (σ.1 3 x3.toNatClampNeg) then (1 : Int32) else 0) : Int32) else 0)] σ) ?_ ?_
              · by_cases hc134 : x7 = x3
                · simp only [if_pos hc134]
                  all_goals
                    refine (if_neg ((((h hc129).1.2 hc130) hc134))).trans ?_
                    refine Eq.trans (b := am_r L 45 51 [some (.inr (.inr (36, none))), some (.inr (.inr (2, none))), some (.inr (.inr (20, none))), some (.inl x3), some (.inl x4), some (.inl x5), some (.inl x6), some (.inl x7), o8] [.inl (if x5 = (σ.1 3 x3.toNatClampNeg) then (1 : Int32) else 0)] σ) ?_ ?_
                    · by_cases hc135 : x5 = (σ.1 3 x3.toNatClampNeg)
                      · simp only [if_pos hc135]
                        all_goals
                          refine (e_45_46 _ _ _ _ _ _ _ _).trans ?_
                          rfl
                      · simp only [if_neg hc135]
                        all_goals
                          refine (e_45_50 _ _ _ _ _ _ _ _).trans ?_
                          rfl
                    rfl
                · simp only [if_neg hc134]
                  all_goals
                    refine (e_45_50 _ _ _ _ _ _ _ _).trans ?_
                    rfl
              rfl
        refine (e_45_51 _ _ _ _ _ _ _ _ _).trans ?_
        by_cases hc136 : ((x4 >>> (x7 &&& 31)) &&& 1) = 0
        · simp only [if_pos hc136]
          all_goals
            by_cases hc137 : (if x5 = x3 then ((if x7 = (σ.1 3 x3.toNatClampNeg) then (1 : Int32) else (if x7 = x3 then ((if x5 = (σ.1 3 x3.toNatClampNeg) then (1 : Int32) else 0) : Int32) else 0)) : Int32) else (if x7 = x3 then ((if x5 = (σ.1 3 x3.toNatClampNeg) then (1 : Int32) else 0) : Int32) else 0)) = 0
            · simp only [if_pos hc137]
              all_goals
                refine (am_bind_i (s_46 L σ x5 x7 ((((h hc129).2.1 hc136).1 hc137).1))).trans ?_
                refine (e_45_77 _ _ _ _ _ _ _ _ _).trans ?_
                by_cases hc138 : (v_46 σ x5 x7) = 0
                · simp only [if_pos hc138]
                  all_goals
                    refine (e_45_95 _ _ _ _ _ _ _ _).trans ?_
                    exact ih x3 x4 x5 x6 (x7 + 1) (some (.inl (if x5 = x3 then ((if x7 = (σ.1 3 x3.toNatClampNeg) then (1 : Int32) else (if x7 = x3 then ((if x5 = (σ.1 3 x3.toNatClampNeg) then (1 : Int32) else 0) : Int32) else 0)) : Int32) else (if x7 = x3 then ((if x5 = (σ.1 3 x3.toNatClampNeg) then (1 : Int32) else 0) : Int32) else 0)))) (((((h hc129).2.1 hc136).1 hc137).2.1 hc138))
                · simp only [if_neg hc138]
                  all_goals
                    refine (am_bind_i (s_47 L σ x5 x7 x6 (((((h hc129).2.1 hc136).1 hc137).2.2 hc138).1))).trans ?_
                    refine (e_45_90 _ _ _ _ _ _ _ _ _).trans ?_
                    by_cases hc139 : (v_47 σ x5 x7 x6) = 0
                    · simp only [if_pos hc139]
                      all_goals
                        refine (e_45_95 _ _ _ _ _ _ _ _).trans ?_
                        exact ih x3 x4 x5 x6 (x7 + 1) (some (.inl (if x5 = x3 then ((if x7 = (σ.1 3 x3.toNatClampNeg) then (1 : Int32) else (if x7 = x3 then ((if x5 = (σ.1 3 x3.toNatClampNeg) then (1 : Int32) else 0) : Int32) else 0)) : Int32) else (if x7 = x3 then ((if x5 = (σ.1 3 x3.toNatClampNeg) then (1 : Int32) else 0) : Int32) else 0)))) ((((((h hc129).2.1 hc136).1 hc137).2.2 hc138).2 hc139))
                    · simp only [if_neg hc139]
                      all_goals
                        refine (e_45_94 _ _ _ _ _ _ _ _ _).trans ?_
                        rfl
            · simp only [if_neg hc137]
              all_goals
                refine (e_45_95 _ _ _ _ _ _ _ _).trans ?_
                exact ih x3 x4 x5 x6 (x7 + 1) (some (.inl (if x5 = x3 then ((if x7 = (σ.1 3 x3.toNatClampNeg) then (1 : Int32) else (if x7 = x3 then ((if x5 = (σ.1 3 x3.toNatClampNeg) then (1 : Int32) else 0) : Int32) else 0)) : Int32) else (if x7 = x3 then ((if x5 = (σ.1 3 x3.toNatClampNeg) then (1 : Int32) else 0) : Int32) else 0)))) ((((h hc129).2.1 hc136).2 hc137))
        · simp only [if_neg hc136]
          all_goals
            refine (e_45_95 _ _ _ _ _ _ _ _).trans ?_
            exact ih x3 x4 x5 x6 (x7 + 1) (some (.inl (if x5 = x3 then ((if x7 = (σ.1 3 x3.toNatClampNeg) then (1 : Int32) else (if x7 = x3 then ((if x5 = (σ.1 3 x3.toNatClampNeg) then (1 : Int32) else 0) : Int32) else 0)) : Int32) else (if x7 = x3 then ((if x5 = (σ.1 3 x3.toNatClampNeg) then (1 : Int32) else 0) : Int32) else 0)))) (((h hc129).2.2 hc136))
    · simp only [if_neg hc129]
      all_goals
        refine (e_45_101 _ _ _ _ _ _ _ _).trans ?_
        refine (e_45_102 _ _ _ _ _ _ _ _ _).trans ?_
        rfl
def p_45 (σ : am_M) (x3 : Int32) (x4 : Int32) (x5 : Int32) (x6 : Int32) : Prop := q_45_3 14 σ x3 x4 x5 x6 0
def f_45 (σ : am_M) (x3 : Int32) (x4 : Int32) (x5 : Int32) (x6 : Int32) : Int32 := (l_45_3 14 σ x3 x4 x5 x6 0)
set_option maxRecDepth 20000 in
theorem sf_45 (L : Nat) (σ : am_M) (x3 : Int32) (x4 : Int32) (x5 : Int32) (x6 : Int32) (h : p_45 σ x3 x4 x5 x6) : am_r L 45 0 [some (.inr (.inr (36, none))), some (.inr (.inr (2, none))), some (.inr (.inr (20, none))), some (.inl x3), some (.inl x4), some (.inl x5), some (.inl x6), none, none] [] σ = some (some (.inl (f_45 σ x3 x4 x5 x6)), am_sh0 L, σ) := by
  unfold p_45 at h
  unfold f_45
  refine (e_45_0 _ _ _ _ _ _).trans ?_
  exact t_45_3 L σ 14 x3 x4 x5 x6 0 none h
def v_45 (σ : am_M) (x3 : Int32) (x4 : Int32) (x5 : Int32) (x6 : Int32) : Int32 := f_45 σ x3 x4 x5 x6
theorem s_45 (L : Nat) (σ : am_M) (x3 : Int32) (x4 : Int32) (x5 : Int32) (x6 : Int32) (h : p_45 σ x3 x4 x5 x6) : am_r L 45 0 [some (.inr (.inr (36, none))), some (.inr (.inr (2, none))), some (.inr (.inr (20, none))), some (.inl x3), some (.inl x4), some (.inl x5), some (.inl x6), none, none] [] σ = some (some (.inl (v_45 σ x3 x4 x5 x6)), am_sh0 L, σ) := sf_45 L σ x3 x4 x5 x6 h
