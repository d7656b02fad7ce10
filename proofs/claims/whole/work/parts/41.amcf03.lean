-- 54: X4_flat
def l_54_55 : Nat → am_M → Int32 → Int32 × am_M
  | 0, σ, x1 => (0, σ)
  | n + 1, σ, x1 => (if x1 < (σ.1 2 0) then (if (v_23 σ x1) = (-1) then (l_54_55 n σ (x1 + 1)) else (2, (am_put (am_put σ 1 6 x1) 1 7 (v_23 σ x1)))) else (0, σ))
def q_54_55 : Nat → am_M → Int32 → Prop
  | 0, _, _ => False
  | n + 1, σ, x1 => (x1 < (σ.1 2 0)) → ((p_23 σ x1) ∧ (((v_23 σ x1) = (-1)) → (q_54_55 n σ (x1 + 1))))
set_option maxRecDepth 20000 in
theorem t_54_55 (L : Nat) : ∀ (n : Nat) (σ : am_M) (x1 : Int32) (o2 : Option am_V), q_54_55 n σ x1 → am_r L 54 55 [some (.inr (.inr (1, none))), some (.inl x1), o2] [] σ = some (some (.inl (l_54_55 n σ x1).1), am_sh0 L, (l_54_55 n σ x1).2) := by
  intro n
  induction n with
  | zero => intro σ x1 o2 h; exact h.elim
  | succ n ih =>
    intro σ x1 o2 h
    unfold q_54_55 at h
    unfold l_54_55
    refine (e_54_55 _ _ _ _).trans ?_
    refine am_fkPI (fun hc54 => ?_) (fun hc54 => ?_)
    · refine (am_bind_i (s_23 L σ x1 ((h hc54).1))).trans ?_
      refine (e_54_74 _ _ _ _ _).trans ?_
      refine am_fkPI (fun hc55 => ?_) (fun hc55 => ?_)
      · refine (e_54_92 _ _ _ _).trans ?_
        exact ih σ (x1 + 1) (some (.inl (v_23 σ x1))) (((h hc54).2 hc55))
      · rfl
    · refine (e_54_98 _ _ _ _).trans ?_
      rfl
def p_54 (σ : am_M) : Prop := ¬ ((σ.1 2 0) = 0) → ((p_17 σ (σ.1 1 4)) ∧ ((p_22 (w_17 σ (σ.1 1 4))) ∧ (((v_22 (w_17 σ (σ.1 1 4))) = (-1)) → (q_54_55 14 (am_put (am_put (w_17 σ (σ.1 1 4)) 1 6 (v_22 (w_17 σ (σ.1 1 4)))) 1 7 (-1)) 0))))
def f_54 (σ : am_M) : Int32 × am_M := (if (σ.1 2 0) = 0 then ((-1), σ) else (if (v_22 (w_17 σ (σ.1 1 4))) = (-1) then (l_54_55 14 (am_put (am_put (w_17 σ (σ.1 1 4)) 1 6 (v_22 (w_17 σ (σ.1 1 4)))) 1 7 (-1)) 0) else (1, (am_put (am_put (w_17 σ (σ.1 1 4)) 1 6 (v_22 (w_17 σ (σ.1 1 4)))) 1 7 (-1)))))
set_option maxRecDepth 20000 in
theorem sf_54 (L : Nat) (σ : am_M) (h : p_54 σ) : am_r L 54 0 [some (.inr (.inr (1, none))), none, none] [] σ = some (some (.inl (f_54 σ).1), am_sh0 L, (f_54 σ).2) := by
  unfold p_54 at h
  unfold f_54
  refine (e_54_0 _ _).trans ?_
  refine am_fkPI (fun hc56 => ?_) (fun hc56 => ?_)
  · rfl
  · refine (e_54_12 _ _).trans ?_
    refine (am_bind_v (s_17 L σ (σ.1 1 4) ((h hc56).1))).trans ?_
    refine (e_54_27 _ _).trans ?_
    refine (am_bind_i (s_22 L (w_17 σ (σ.1 1 4)) ((h hc56).2.1))).trans ?_
    refine (e_54_35 _ _ _).trans ?_
    refine am_fkPI (fun hc57 => ?_) (fun hc57 => ?_)
    · refine (e_54_53 _ _).trans ?_
      exact t_54_55 L 14 (am_put (am_put (w_17 σ (σ.1 1 4)) 1 6 (v_22 (w_17 σ (σ.1 1 4)))) 1 7 (-1)) 0 none (((h hc56).2.2 hc57))
    · rfl
def v_54 (σ : am_M) : Int32 := (f_54 σ).1
def w_54 (σ : am_M) : am_M := (f_54 σ).2
theorem s_54 (L : Nat) (σ : am_M) (h : p_54 σ) : am_r L 54 0 [some (.inr (.inr (1, none))), none, none] [] σ = some (some (.inl (v_54 σ)), am_sh0 L, w_54 σ) := sf_54 L σ h
-- 55: X4_wrong
def v_55 (σ : am_M) (x1 : Int32) : Int32 := (if x1 = 0 then (σ.1 1 6) else (if x1 = 1 then ((σ.1 1 7) : Int32) else (-1)))
set_option maxRecDepth 20000 in
theorem s_55 (L : Nat) (σ : am_M) (x1 : Int32) : am_r L 55 0 [some (.inr (.inr (1, none))), some (.inl x1)] [] σ = some (some (.inl (v_55 σ x1)), am_sh0 L, σ) := by
  unfold v_55
  refine (e_55_0 _ _ _).trans ?_
  refine am_fkIv (fun hc58 => ?_) (fun hc58 => ?_)
  · rfl
  · refine (e_55_9 _ _ _).trans ?_
    refine Eq.trans (b := am_r L 55 22 [some (.inr (.inr (1, none))), some (.inl x1)] [.inl (if x1 = 1 then ((σ.1 1 7) : Int32) else (-1))] σ) ?_ ?_
    · by_cases hc59 : x1 = 1
      · refine (if_pos hc59).trans ?_
        refine Eq.trans (b := am_r L 55 22 [some (.inr (.inr (1, none))), some (.inl x1)] [.inl (σ.1 1 7)] σ) ?_ ?_
        · rfl
        · first | with_reducible rfl | simp only [if_pos hc59]
      · refine (if_neg hc59).trans ?_
        refine Eq.trans (b := am_r L 55 22 [some (.inr (.inr (1, none))), some (.inl x1)] [.inl (-1)] σ) ?_ ?_
        · refine (e_55_21 _ _ _).trans ?_
          rfl
        · first | with_reducible rfl | simp only [if_neg hc59]
    refine (e_55_22 _ _ _ _).trans ?_
    rfl
-- 56: X4_flatOf
def p_56 (σ : am_M) (x1 : Int32) (x2 : Int32) : Prop := ¬ ((v_26 σ x1) = 0) → (¬ ((v_67 σ x2 0 3) = 0) → ((p_17 σ (σ.1 1 4)) ∧ ((¬ ((v_68 (w_17 σ (σ.1 1 4)) x2) < 0 ∨ 4 ≤ ((v_68 (w_17 σ (σ.1 1 4)) x2)).toNatClampNeg)) ∧ (¬ (x1 < 0 ∨ 13 ≤ x1.toNatClampNeg)))))
def v_56 (σ : am_M) (x1 : Int32) (x2 : Int32) : Int32 := (if (v_26 σ x1) = 0 then (-1000000) else (if (v_67 σ x2 0 3) = 0 then (-1000000) else ((w_17 σ (σ.1 1 4)).1 (14 + ((v_68 (w_17 σ (σ.1 1 4)) x2)).toNatClampNeg) x1.toNatClampNeg)))
def w_56 (σ : am_M) (x1 : Int32) (x2 : Int32) : am_M := (if (v_26 σ x1) = 0 then σ else (if (v_67 σ x2 0 3) = 0 then σ else (w_17 σ (σ.1 1 4))))
set_option maxRecDepth 20000 in
theorem s_56 (L : Nat) (σ : am_M) (x1 : Int32) (x2 : Int32) (h : p_56 σ x1 x2) : am_r L 56 0 [some (.inr (.inr (1, none))), some (.inl x1), some (.inl x2)] [] σ = some (some (.inl (v_56 σ x1 x2)), am_sh0 L, w_56 σ x1 x2) := by
  unfold p_56 at h
  unfold v_56 w_56
  refine (e_56_0 _ _ _ _).trans ?_
  refine (am_bind_i (s_26 L σ x1)).trans ?_
  refine (e_56_8 _ _ _ _ _).trans ?_
  refine am_fkIvm (fun hc60 => ?_) (fun hc60 => ?_)
  · refine (e_56_20 _ _ _ _).trans ?_
    rfl
  · refine (am_bind_i (s_67 L σ x2 0 3)).trans ?_
    refine (e_56_17 _ _ _ _ _).trans ?_
    refine am_fkIvm (fun hc61 => ?_) (fun hc61 => ?_)
    · refine (e_56_20 _ _ _ _).trans ?_
      rfl
    · refine (e_56_23 _ _ _ _).trans ?_
      refine (am_bind_v (s_17 L σ (σ.1 1 4) (((h hc60) hc61).1))).trans ?_
      refine (e_56_38 _ _ _ _).trans ?_
      refine (am_bind_i (s_68 L (w_17 σ (σ.1 1 4)) x2)).trans ?_
      refine (e_56_49 _ _ _ _ _).trans ?_
      refine (if_neg (((h hc60) hc61).2.1)).trans ?_
      refine (if_neg (((h hc60) hc61).2.2)).trans ?_
      rfl
-- 120: J9_max_7cf53
def v_120 (σ : am_M) (x0 : Int32) (x1 : Int32) : Int32 := (if x0 < x1 then (x1 : Int32) else x0)
set_option maxRecDepth 20000 in
theorem s_120 (L : Nat) (σ : am_M) (x0 : Int32) (x1 : Int32) : am_r L 120 0 [some (.inl x0), some (.inl x1)] [] σ = some (some (.inl (v_120 σ x0 x1)), am_sh0 L, σ) := by
  unfold v_120
  refine (e_120_0 _ _ _ _).trans ?_
  refine Eq.trans (b := am_r L 120 10 [some (.inl x0), some (.inl x1)] [.inl (if x0 < x1 then (x1 : Int32) else x0)] σ) ?_ ?_
  · by_cases hc62 : x0 < x1
    · refine (if_pos hc62).trans ?_
      refine Eq.trans (b := am_r L 120 10 [some (.inl x0), some (.inl x1)] [.inl x1] σ) ?_ ?_
      · refine (e_120_9 _ _ _ _).trans ?_
        rfl
      · first | with_reducible rfl | simp only [if_pos hc62]
    · refine (if_neg hc62).trans ?_
      refine Eq.trans (b := am_r L 120 10 [some (.inl x0), some (.inl x1)] [.inl x0] σ) ?_ ?_
      · rfl
      · first | with_reducible rfl | simp only [if_neg hc62]
  refine (e_120_10 _ _ _ _ _).trans ?_
  rfl
-- 21: X1_greatestOf
def l_21_11 : Nat → am_M → Int32 → Int32 → Int32 → Int32
  | 0, _, _, _, _ => 0
  | n + 1, σ, x1, x2, x3 => (if x3 < (σ.1 12 0) then (l_21_11 n σ x1 (v_120 σ x2 (σ.1 (14 + x1.toNatClampNeg) x3.toNatClampNeg)) (x3 + 1)) else x2)
def q_21_11 : Nat → am_M → Int32 → Int32 → Int32 → Prop
  | 0, _, _, _, _ => False
  | n + 1, σ, x1, x2, x3 => (x3 < (σ.1 12 0)) → ((¬ (x1 < 0 ∨ 4 ≤ x1.toNatClampNeg)) ∧ ((¬ (x3 < 0 ∨ 13 ≤ x3.toNatClampNeg)) ∧ (q_21_11 n σ x1 (v_120 σ x2 (σ.1 (14 + x1.toNatClampNeg) x3.toNatClampNeg)) (x3 + 1))))
set_option maxRecDepth 20000 in
theorem t_21_11 (L : Nat) (σ : am_M) : ∀ (n : Nat) (x1 : Int32) (x2 : Int32) (x3 : Int32), q_21_11 n σ x1 x2 x3 → am_r L 21 11 [some (.inr (.inr (12, none))), some (.inl x1), some (.inl x2), some (.inl x3)] [] σ = some (some (.inl (l_21_11 n σ x1 x2 x3)), am_sh0 L, σ) := by
  intro n
  induction n with
  | zero => intro x1 x2 x3 h; exact h.elim
  | succ n ih =>
    intro x1 x2 x3 h
    unfold q_21_11 at h
    unfold l_21_11
    refine (e_21_11 _ _ _ _ _).trans ?_
    refine am_fkIv (fun hc63 => ?_) (fun hc63 => ?_)
    · refine (if_neg ((h hc63).1)).trans ?_
      refine (if_neg ((h hc63).2.1)).trans ?_
      refine (am_bind_i (s_120 L σ x2 (σ.1 (14 + x1.toNatClampNeg) x3.toNatClampNeg))).trans ?_
      refine (e_21_31 _ _ _ _ _ _).trans ?_
      exact ih x1 (v_120 σ x2 (σ.1 (14 + x1.toNatClampNeg) x3.toNatClampNeg)) (x3 + 1) ((h hc63).2.2)
    · refine (e_21_38 _ _ _ _ _).trans ?_
      rfl
def p_21 (σ : am_M) (x1 : Int32) : Prop := (¬ (x1 < 0 ∨ 4 ≤ x1.toNatClampNeg)) ∧ (q_21_11 14 σ x1 (σ.1 (14 + x1.toNatClampNeg) 0) 1)
def f_21 (σ : am_M) (x1 : Int32) : Int32 := (l_21_11 14 σ x1 (σ.1 (14 + x1.toNatClampNeg) 0) 1)
set_option maxRecDepth 20000 in
theorem sf_21 (L : Nat) (σ : am_M) (x1 : Int32) (h : p_21 σ x1) : am_r L 21 0 [some (.inr (.inr (12, none))), some (.inl x1), none, none] [] σ = some (some (.inl (f_21 σ x1)), am_sh0 L, σ) := by
  unfold p_21 at h
  unfold f_21
  refine (e_21_0 _ _ _).trans ?_
  refine (if_neg h.1).trans ?_
  refine (if_neg (by decide)).trans ?_
  exact t_21_11 L σ 14 x1 (σ.1 (14 + x1.toNatClampNeg) 0) 1 h.2
def v_21 (σ : am_M) (x1 : Int32) : Int32 := f_21 σ x1
theorem s_21 (L : Nat) (σ : am_M) (x1 : Int32) (h : p_21 σ x1) : am_r L 21 0 [some (.inr (.inr (12, none))), some (.inl x1), none, none] [] σ = some (some (.inl (v_21 σ x1)), am_sh0 L, σ) := sf_21 L σ x1 h
-- 57: X4_size
def p_57 (σ : am_M) (x1 : Int32) : Prop := ¬ ((σ.1 2 0) = 0) → (¬ ((v_67 σ x1 0 1) = 0) → ((p_17 σ (σ.1 1 4)) ∧ (p_21 (w_17 σ (σ.1 1 4)) (if x1 = 0 then (0 : Int32) else 1))))
def v_57 (σ : am_M) (x1 : Int32) : Int32 := (if (σ.1 2 0) = 0 then (-1000000) else (if (v_67 σ x1 0 1) = 0 then (-1000000) else (v_21 (w_17 σ (σ.1 1 4)) (if x1 = 0 then (0 : Int32) else 1))))
def w_57 (σ : am_M) (x1 : Int32) : am_M := (if (σ.1 2 0) = 0 then σ else (if (v_67 σ x1 0 1) = 0 then σ else (w_17 σ (σ.1 1 4))))
set_option maxRecDepth 20000 in
theorem s_57 (L : Nat) (σ : am_M) (x1 : Int32) (h : p_57 σ x1) : am_r L 57 0 [some (.inr (.inr (1, none))), some (.inl x1)] [] σ = some (some (.inl (v_57 σ x1)), am_sh0 L, w_57 σ x1) := by
  unfold p_57 at h
  unfold v_57 w_57
  refine (e_57_0 _ _ _).trans ?_
  refine am_fkIvm (fun hc64 => ?_) (fun hc64 => ?_)
  · refine (e_57_19 _ _ _).trans ?_
    rfl
  · refine (am_bind_i (s_67 L σ x1 0 1)).trans ?_
    refine (e_57_16 _ _ _ _).trans ?_
    refine am_fkIvm (fun hc65 => ?_) (fun hc65 => ?_)
    · refine (e_57_19 _ _ _).trans ?_
      rfl
    · refine (e_57_22 _ _ _).trans ?_
      refine (am_bind_v (s_17 L σ (σ.1 1 4) (((h hc64) hc65).1))).trans ?_
      refine (e_57_37 _ _ _).trans ?_
      refine Eq.trans (b := am_r L 57 50 [some (.inr (.inr (1, none))), some (.inl x1)] [.inl (if x1 = 0 then (0 : Int32) else 1), .inr (.inr (12, none))] (w_17 σ (σ.1 1 4))) ?_ ?_
      · by_cases hc66 : x1 = 0
        · refine (if_pos hc66).trans ?_
          refine Eq.trans (b := am_r L 57 50 [some (.inr (.inr (1, none))), some (.inl x1)] [.inl 0, .inr (.inr (12, none))] (w_17 σ (σ.1 1 4))) ?_ ?_
          · rfl
          · first | with_reducible rfl | simp only [if_pos hc66]
        · refine (if_neg hc66).trans ?_
          refine Eq.trans (b := am_r L 57 50 [some (.inr (.inr (1, none))), some (.inl x1)] [.inl 1, .inr (.inr (12, none))] (w_17 σ (σ.1 1 4))) ?_ ?_
          · refine (e_57_49 _ _ _).trans ?_
            rfl
          · first | with_reducible rfl | simp only [if_neg hc66]
      refine (e_57_50 _ _ _ _).trans ?_
      refine (am_bind_i (s_21 L (w_17 σ (σ.1 1 4)) (if x1 = 0 then (0 : Int32) else 1) (((h hc64) hc65).2))).trans ?_
      refine (e_57_53 _ _ _ _).trans ?_
      rfl
-- 8: X0_awayFrom
def p_8 (σ : am_M) (x1 : Int32) (x2 : Int32) : Prop := (((v_70 σ x2) = 0) → (¬ (x1 < 0 ∨ 13 ≤ x1.toNatClampNeg))) ∧ (¬ ((v_70 σ x2) = 0) → (¬ (x1 < 0 ∨ 13 ≤ x1.toNatClampNeg)))
def v_8 (σ : am_M) (x1 : Int32) (x2 : Int32) : Int32 := (if (v_69 σ x2) = 0 then ((-(if (v_70 σ x2) = 0 then ((σ.1 22 x1.toNatClampNeg) : Int32) else (σ.1 21 x1.toNatClampNeg))) : Int32) else (if (v_70 σ x2) = 0 then ((σ.1 22 x1.toNatClampNeg) : Int32) else (σ.1 21 x1.toNatClampNeg)))
set_option maxRecDepth 20000 in
theorem s_8 (L : Nat) (σ : am_M) (x1 : Int32) (x2 : Int32) (h : p_8 σ x1 x2) : am_r L 8 0 [some (.inr (.inr (20, none))), some (.inl x1), some (.inl x2), none] [] σ = some (some (.inl (v_8 σ x1 x2)), am_sh0 L, σ) := by
  unfold p_8 at h
  unfold v_8
  refine (e_8_0 _ _ _ _).trans ?_
  refine (am_bind_i (s_70 L σ x2)).trans ?_
  refine (e_8_4 _ _ _ _ _).trans ?_
  refine Eq.trans (b := am_r L 8 22 [some (.inr (.inr (20, none))), some (.inl x1), some (.inl x2), none] [.inl (if (v_70 σ x2) = 0 then ((σ.1 22 x1.toNatClampNeg) : Int32) else (σ.1 21 x1.toNatClampNeg))] σ) ?_ ?_
  · by_cases hc67 : (v_70 σ x2) = 0
    · refine (if_pos hc67).trans ?_
      refine Eq.trans (b := am_r L 8 22 [some (.inr (.inr (20, none))), some (.inl x1), some (.inl x2), none] [.inl (σ.1 22 x1.toNatClampNeg)] σ) ?_ ?_
      · refine (e_8_16 _ _ _ _).trans ?_
        refine (if_neg ((h.1 hc67))).trans ?_
        rfl
      · first | with_reducible rfl | simp only [if_pos hc67]
    · refine (if_neg hc67).trans ?_
      refine Eq.trans (b := am_r L 8 22 [some (.inr (.inr (20, none))), some (.inl x1), some (.inl x2), none] [.inl (σ.1 21 x1.toNatClampNeg)] σ) ?_ ?_
      · refine (if_neg ((h.2 hc67))).trans ?_
        rfl
      · first | with_reducible rfl | simp only [if_neg hc67]
  refine (e_8_22 _ _ _ _ _).trans ?_
  refine (am_bind_i (s_69 L σ x2)).trans ?_
  refine (e_8_27 _ _ _ _ _ _).trans ?_
  refine Eq.trans (b := am_r L 8 36 [some (.inr (.inr (20, none))), some (.inl x1), some (.inl x2), some (.inl (if (v_70 σ x2) = 0 then ((σ.1 22 x1.toNatClampNeg) : Int32) else (σ.1 21 x1.toNatClampNeg)))] [.inl (if (v_69 σ x2) = 0 then ((-(if (v_70 σ x2) = 0 then ((σ.1 22 x1.toNatClampNeg) : Int32) else (σ.1 21 x1.toNatClampNeg))) : Int32) else (if (v_70 σ x2) = 0 then ((σ.1 22 x1.toNatClampNeg) : Int32) else (σ.1 21 x1.toNatClampNeg)))] σ) ?_ ?_
  · by_cases hc68 : (v_69 σ x2) = 0
    · refine (if_pos hc68).trans ?_
      refine Eq.trans (b := am_r L 8 36 [some (.inr (.inr (20, none))), some (.inl x1), some (.inl x2), some (.inl (if (v_70 σ x2) = 0 then ((σ.1 22 x1.toNatClampNeg) : Int32) else (σ.1 21 x1.toNatClampNeg)))] [.inl (-(if (v_70 σ x2) = 0 then ((σ.1 22 x1.toNatClampNeg) : Int32) else (σ.1 21 x1.toNatClampNeg)))] σ) ?_ ?_
      · refine (e_8_34 _ _ _ _ _).trans ?_
        rfl
      · first | with_reducible rfl | simp only [if_pos hc68]
    · refine (if_neg hc68).trans ?_
      refine Eq.trans (b := am_r L 8 36 [some (.inr (.inr (20, none))), some (.inl x1), some (.inl x2), some (.inl (if (v_70 σ x2) = 0 then ((σ.1 22 x1.toNatClampNeg) : Int32) else (σ.1 21 x1.toNatClampNeg)))] [.inl (if (v_70 σ x2) = 0 then ((σ.1 22 x1.toNatClampNeg) : Int32) else (σ.1 21 x1.toNatClampNeg))] σ) ?_ ?_
      · rfl
      · first | with_reducible rfl | simp only [if_neg hc68]
  refine (e_8_36 _ _ _ _ _ _).trans ?_
  rfl
-- 2: X0_setDirections
def p_2_127 (σ : am_M) (x2 : Int32) (x3 : Int32) (x4 : Int32) (x5 : Int32) (x6 : Int32) (x7 : Int32) (s0 : Int32) : Prop := (((v_70 σ x5) = 0) → (¬ (x2 < 0 ∨ 13 ≤ x2.toNatClampNeg))) ∧ (¬ ((v_70 σ x5) = 0) → (¬ (x2 < 0 ∨ 13 ≤ x2.toNatClampNeg)))
def w_2_127 (σ : am_M) (x2 : Int32) (x3 : Int32) (x4 : Int32) (x5 : Int32) (x6 : Int32) (x7 : Int32) (s0 : Int32) : am_M := (if (v_70 σ x5) = 0 then (am_put σ 22 x2.toNatClampNeg (if s0 = 0 then ((-x7) : Int32) else x7)) else (am_put σ 21 x2.toNatClampNeg (if s0 = 0 then ((-x7) : Int32) else x7)))
set_option maxRecDepth 20000 in
theorem s_2_127 (L : Nat) (σ : am_M) (x2 : Int32) (x3 : Int32) (x4 : Int32) (x5 : Int32) (x6 : Int32) (x7 : Int32) (s0 : Int32) (h : p_2_127 σ x2 x3 x4 x5 x6 x7 s0) : am_r L 2 127 [some (.inr (.inr (20, none))), some (.inr (.inr (2, none))), some (.inl x2), some (.inl x3), some (.inl x4), some (.inl x5), some (.inl x6), some (.inl x7), none] [.inl s0] σ = some (none, am_sh0 L, w_2_127 σ x2 x3 x4 x5 x6 x7 s0) := by
  unfold p_2_127 at h
  unfold w_2_127
  refine (e_2_127 _ _ _ _ _ _ _ _ _).trans ?_
  refine Eq.trans (b := am_r L 2 138 [some (.inr (.inr (20, none))), some (.inr (.inr (2, none))), some (.inl x2), some (.inl x3), some (.inl x4), some (.inl x5), some (.inl x6), some (.inl x7), none] [.inl (if s0 = 0 then ((-x7) : Int32) else x7)] σ) ?_ ?_
  · by_cases hc69 : s0 = 0
    · refine (if_pos hc69).trans ?_
      refine Eq.trans (b := am_r L 2 138 [some (.inr (.inr (20, none))), some (.inr (.inr (2, none))), some (.inl x2), some (.inl x3), some (.inl x4), some (.inl x5), some (.inl x6), some (.inl x7), none] [.inl (-x7)] σ) ?_ ?_
      · refine (e_2_135 _ _ _ _ _ _ _ _).trans ?_
        rfl
      · first | with_reducible rfl | simp only [if_pos hc69]
    · refine (if_neg hc69).trans ?_
      refine Eq.trans (b := am_r L 2 138 [some (.inr (.inr (20, none))), some (.inr (.inr (2, none))), some (.inl x2), some (.inl x3), some (.inl x4), some (.inl x5), some (.inl x6), some (.inl x7), none] [.inl x7] σ) ?_ ?_
      · rfl
      · first | with_reducible rfl | simp only [if_neg hc69]
  refine (e_2_138 _ _ _ _ _ _ _ _ _).trans ?_
  refine (am_bind_i (s_70 L σ x5)).trans ?_
  refine (e_2_145 _ _ _ _ _ _ _ _ _ _).trans ?_
  refine am_fkVm (fun hc70 => ?_) (fun hc70 => ?_)
  · refine (e_2_159 _ _ _ _ _ _ _ _ _).trans ?_
    refine (if_neg ((h.1 hc70))).trans ?_
    refine (e_2_167 _ _ _ _ _ _ _ _ _).trans ?_
    rfl
  · refine (if_neg ((h.2 hc70))).trans ?_
    refine (e_2_167 _ _ _ _ _ _ _ _ _).trans ?_
    rfl
def p_2 (σ : am_M) (x2 : Int32) (x3 : Int32) : Prop := (¬ (x2 < 0 ∨ 13 ≤ x2.toNatClampNeg)) ∧ ((¬ (x2 < 0 ∨ 13 ≤ x2.toNatClampNeg)) ∧ ((¬ ((σ.1 3 x2.toNatClampNeg) < 0 ∨ 13 ≤ ((σ.1 3 x2.toNatClampNeg)).toNatClampNeg)) ∧ ((¬ (x2 < 0 ∨ 13 ≤ x2.toNatClampNeg)) ∧ ((¬ ((σ.1 3 x2.toNatClampNeg) < 0 ∨ 13 ≤ ((σ.1 3 x2.toNatClampNeg)).toNatClampNeg)) ∧ ((¬ (x2 < 0 ∨ 13 ≤ x2.toNatClampNeg)) ∧ ((¬ ((σ.1 3 x2.toNatClampNeg) < 0 ∨ 13 ≤ ((σ.1 3 x2.toNatClampNeg)).toNatClampNeg)) ∧ ((¬ (x2 < 0 ∨ 13 ≤ x2.toNatClampNeg)) ∧ (¬ (x3 = 0) → ((p_8 (am_put (am_put (am_put σ 21 x2.toNatClampNeg (σ.1 21 (((σ.1 3 x2.toNatClampNeg)).toNatClampNeg))) 22 x2.toNatClampNeg (σ.1 22 (((σ.1 3 x2.toNatClampNeg)).toNatClampNeg))) 23 x2.toNatClampNeg (σ.1 23 (((σ.1 3 x2.toNatClampNeg)).toNatClampNeg))) (σ.1 3 x2.toNatClampNeg) (σ.1 4 x2.toNatClampNeg)) ∧ ((¬ (x2 < 0 ∨ 13 ≤ x2.toNatClampNeg)) ∧ (((((σ.1 5 x2.toNatClampNeg) = 0) → (¬ ((σ.1 3 x2.toNatClampNeg) < 0 ∨ 13 ≤ ((σ.1 3 x2.toNatClampNeg)).toNatClampNeg))) ∧ (¬ ((σ.1 5 x2.toNatClampNeg) = 0) → (¬ ((σ.1 3 x2.toNatClampNeg) < 0 ∨ 13 ≤ ((σ.1 3 x2.toNatClampNeg)).toNatClampNeg)))) ∧ ((¬ (x2 < 0 ∨ 13 ≤ x2.toNatClampNeg)) ∧ ((¬ (x2 < 0 ∨ 13 ≤ x2.toNatClampNeg)) ∧ (p_2_127 (am_put (am_put (am_put (am_put σ 21 x2.toNatClampNeg (σ.1 21 (((σ.1 3 x2.toNatClampNeg)).toNatClampNeg))) 22 x2.toNatClampNeg (σ.1 22 (((σ.1 3 x2.toNatClampNeg)).toNatClampNeg))) 23 x2.toNatClampNeg (σ.1 23 (((σ.1 3 x2.toNatClampNeg)).toNatClampNeg))) 23 x2.toNatClampNeg (if (σ.1 5 x2.toNatClampNeg) = 0 then ((v_8 (am_put (am_put (am_put σ 21 x2.toNatClampNeg (σ.1 21 (((σ.1 3 x2.toNatClampNeg)).toNatClampNeg))) 22 x2.toNatClampNeg (σ.1 22 (((σ.1 3 x2.toNatClampNeg)).toNatClampNeg))) 23 x2.toNatClampNeg (σ.1 23 (((σ.1 3 x2.toNatClampNeg)).toNatClampNeg))) (σ.1 3 x2.toNatClampNeg) (σ.1 4 x2.toNatClampNeg)) : Int32) else (-(v_8 (am_put (am_put (am_put σ 21 x2.toNatClampNeg (σ.1 21 (((σ.1 3 x2.toNatClampNeg)).toNatClampNeg))) 22 x2.toNatClampNeg (σ.1 22 (((σ.1 3 x2.toNatClampNeg)).toNatClampNeg))) 23 x2.toNatClampNeg (σ.1 23 (((σ.1 3 x2.toNatClampNeg)).toNatClampNeg))) (σ.1 3 x2.toNatClampNeg) (σ.1 4 x2.toNatClampNeg))))) x2 x3 (σ.1 3 x2.toNatClampNeg) (σ.1 4 x2.toNatClampNeg) (v_8 (am_put (am_put (am_put σ 21 x2.toNatClampNeg (σ.1 21 (((σ.1 3 x2.toNatClampNeg)).toNatClampNeg))) 22 x2.toNatClampNeg (σ.1 22 (((σ.1 3 x2.toNatClampNeg)).toNatClampNeg))) 23 x2.toNatClampNeg (σ.1 23 (((σ.1 3 x2.toNatClampNeg)).toNatClampNeg))) (σ.1 3 x2.toNatClampNeg) (σ.1 4 x2.toNatClampNeg)) (if (σ.1 5 x2.toNatClampNeg) = 0 then ((-((am_put (am_put (am_put σ 21 x2.toNatClampNeg (σ.1 21 (((σ.1 3 x2.toNatClampNeg)).toNatClampNeg))) 22 x2.toNatClampNeg (σ.1 22 (((σ.1 3 x2.toNatClampNeg)).toNatClampNeg))) 23 x2.toNatClampNeg (σ.1 23 (((σ.1 3 x2.toNatClampNeg)).toNatClampNeg))).1 23 (((σ.1 3 x2.toNatClampNeg)).toNatClampNeg))) : Int32) else ((am_put (am_put (am_put σ 21 x2.toNatClampNeg (σ.1 21 (((σ.1 3 x2.toNatClampNeg)).toNatClampNeg))) 22 x2.toNatClampNeg (σ.1 22 (((σ.1 3 x2.toNatClampNeg)).toNatClampNeg))) 23 x2.toNatClampNeg (σ.1 23 (((σ.1 3 x2.toNatClampNeg)).toNatClampNeg))).1 23 (((σ.1 3 x2.toNatClampNeg)).toNatClampNeg))) (v_69 (am_put (am_put (am_put (am_put σ 21 x2.toNatClampNeg (σ.1 21 (((σ.1 3 x2.toNatClampNeg)).toNatClampNeg))) 22 x2.toNatClampNeg (σ.1 22 (((σ.1 3 x2.toNatClampNeg)).toNatClampNeg))) 23 x2.toNatClampNeg (σ.1 23 (((σ.1 3 x2.toNatClampNeg)).toNatClampNeg))) 23 x2.toNatClampNeg (if (σ.1 5 x2.toNatClampNeg) = 0 then ((v_8 (am_put (am_put (am_put σ 21 x2.toNatClampNeg (σ.1 21 (((σ.1 3 x2.toNatClampNeg)).toNatClampNeg))) 22 x2.toNatClampNeg (σ.1 22 (((σ.1 3 x2.toNatClampNeg)).toNatClampNeg))) 23 x2.toNatClampNeg (σ.1 23 (((σ.1 3 x2.toNatClampNeg)).toNatClampNeg))) (σ.1 3 x2.toNatClampNeg) (σ.1 4 x2.toNatClampNeg)) : Int32) else (-(v_8 (am_put (am_put (am_put σ 21 x2.toNatClampNeg (σ.1 21 (((σ.1 3 x2.toNatClampNeg)).toNatClampNeg))) 22 x2.toNatClampNeg (σ.1 22 (((σ.1 3 x2.toNatClampNeg)).toNatClampNeg))) 23 x2.toNatClampNeg (σ.1 23 (((σ.1 3 x2.toNatClampNeg)).toNatClampNeg))) (σ.1 3 x2.toNatClampNeg) (σ.1 4 x2.toNatClampNeg))))) (σ.1 4 x2.toNatClampNeg))))))))))))))))
def w_2 (σ : am_M) (x2 : Int32) (x3 : Int32) : am_M := (if x3 = 0 then (am_put (am_put (am_put σ 21 x2.toNatClampNeg (σ.1 21 (((σ.1 3 x2.toNatClampNeg)).toNatClampNeg))) 22 x2.toNatClampNeg (σ.1 22 (((σ.1 3 x2.toNatClampNeg)).toNatClampNeg))) 23 x2.toNatClampNeg (σ.1 23 (((σ.1 3 x2.toNatClampNeg)).toNatClampNeg))) else (w_2_127 (am_put (am_put (am_put (am_put σ 21 x2.toNatClampNeg (σ.1 21 (((σ.1 3 x2.toNatClampNeg)).toNatClampNeg))) 22 x2.toNatClampNeg (σ.1 22 (((σ.1 3 x2.toNatClampNeg)).toNatClampNeg))) 23 x2.toNatClampNeg (σ.1 23 (((σ.1 3 x2.toNatClampNeg)).toNatClampNeg))) 23 x2.toNatClampNeg (if (σ.1 5 x2.toNatClampNeg) = 0 then ((v_8 (am_put (am_put (am_put σ 21 x2.toNatClampNeg (σ.1 21 (((σ.1 3 x2.toNatClampNeg)).toNatClampNeg))) 22 x2.toNatClampNeg (σ.1 22 (((σ.1 3 x2.toNatClampNeg)).toNatClampNeg))) 23 x2.toNatClampNeg (σ.1 23 (((σ.1 3 x2.toNatClampNeg)).toNatClampNeg))) (σ.1 3 x2.toNatClampNeg) (σ.1 4 x2.toNatClampNeg)) : Int32) else (-(v_8 (am_put (am_put (am_put σ 21 x2.toNatClampNeg (σ.1 21 (((σ.1 3 x2.toNatClampNeg)).toNatClampNeg))) 22 x2.toNatClampNeg (σ.1 22 (((σ.1 3 x2.toNatClampNeg)).toNatClampNeg))) 23 x2.toNatClampNeg (σ.1 23 (((σ.1 3 x2.toNatClampNeg)).toNatClampNeg))) (σ.1 3 x2.toNatClampNeg) (σ.1 4 x2.toNatClampNeg))))) x2 x3 (σ.1 3 x2.toNatClampNeg) (σ.1 4 x2.toNatClampNeg) (v_8 (am_put (am_put (am_put σ 21 x2.toNatClampNeg (σ.1 21 (((σ.1 3 x2.toNatClampNeg)).toNatClampNeg))) 22 x2.toNatClampNeg (σ.1 22 (((σ.1 3 x2.toNatClampNeg)).toNatClampNeg))) 23 x2.toNatClampNeg (σ.1 23 (((σ.1 3 x2.toNatClampNeg)).toNatClampNeg))) (σ.1 3 x2.toNatClampNeg) (σ.1 4 x2.toNatClampNeg)) (if (σ.1 5 x2.toNatClampNeg) = 0 then ((-((am_put (am_put (am_put σ 21 x2.toNatClampNeg (σ.1 21 (((σ.1 3 x2.toNatClampNeg)).toNatClampNeg))) 22 x2.toNatClampNeg (σ.1 22 (((σ.1 3 x2.toNatClampNeg)).toNatClampNeg))) 23 x2.toNatClampNeg (σ.1 23 (((σ.1 3 x2.toNatClampNeg)).toNatClampNeg))).1 23 (((σ.1 3 x2.toNatClampNeg)).toNatClampNeg))) : Int32) else ((am_put (am_put (am_put σ 21 x2.toNatClampNeg (σ.1 21 (((σ.1 3 x2.toNatClampNeg)).toNatClampNeg))) 22 x2.toNatClampNeg (σ.1 22 (((σ.1 3 x2.toNatClampNeg)).toNatClampNeg))) 23 x2.toNatClampNeg (σ.1 23 (((σ.1 3 x2.toNatClampNeg)).toNatClampNeg))).1 23 (((σ.1 3 x2.toNatClampNeg)).toNatClampNeg))) (v_69 (am_put (am_put (am_put (am_put σ 21 x2.toNatClampNeg (σ.1 21 (((σ.1 3 x2.toNatClampNeg)).toNatClampNeg))) 22 x2.toNatClampNeg (σ.1 22 (((σ.1 3 x2.toNatClampNeg)).toNatClampNeg))) 23 x2.toNatClampNeg (σ.1 23 (((σ.1 3 x2.toNatClampNeg)).toNatClampNeg))) 23 x2.toNatClampNeg (if (σ.1 5 x2.toNatClampNeg) = 0 then ((v_8 (am_put (am_put (am_put σ 21 x2.toNatClampNeg (σ.1 21 (((σ.1 3 x2.toNatClampNeg)).toNatClampNeg))) 22 x2.toNatClampNeg (σ.1 22 (((σ.1 3 x2.toNatClampNeg)).toNatClampNeg))) 23 x2.toNatClampNeg (σ.1 23 (((σ.1 3 x2.toNatClampNeg)).toNatClampNeg))) (σ.1 3 x2.toNatClampNeg) (σ.1 4 x2.toNatClampNeg)) : Int32) else (-(v_8 (am_put (am_put (am_put σ 21 x2.toNatClampNeg (σ.1 21 (((σ.1 3 x2.toNatClampNeg)).toNatClampNeg))) 22 x2.toNatClampNeg (σ.1 22 (((σ.1 3 x2.toNatClampNeg)).toNatClampNeg))) 23 x2.toNatClampNeg (σ.1 23 (((σ.1 3 x2.toNatClampNeg)).toNatClampNeg))) (σ.1 3 x2.toNatClampNeg) (σ.1 4 x2.toNatClampNeg))))) (σ.1 4 x2.toNatClampNeg))))
set_option maxRecDepth 20000 in
theorem s_2 (L : Nat) (σ : am_M) (x2 : Int32) (x3 : Int32) (h : p_2 σ x2 x3) : am_r L 2 0 [some (.inr (.inr (20, none))), some (.inr (.inr (2, none))), some (.inl x2), some (.inl x3), none, none, none, none, none] [] σ = some (none, am_sh0 L, w_2 σ x2 x3) := by
  unfold p_2 at h
  unfold w_2
  refine (e_2_0 _ _ _ _).trans ?_
  refine (if_neg h.1).trans ?_
  refine (if_neg h.2.1).trans ?_
  refine (if_neg h.2.2.1).trans ?_
  refine (if_neg h.2.2.2.1).trans ?_
  refine (e_2_29 _ _ _ _ _ _).trans ?_
  refine (if_neg h.2.2.2.2.1).trans ?_
  refine (if_neg h.2.2.2.2.2.1).trans ?_
  refine (if_neg h.2.2.2.2.2.2.1).trans ?_
  refine (if_neg h.2.2.2.2.2.2.2.1).trans ?_
  refine (e_2_55 _ _ _ _ _ _).trans ?_
  refine am_fkVm (fun hc71 => ?_) (fun hc71 => ?_)
  · rfl
  · refine (e_2_60 _ _ _ _ _ _).trans ?_
    refine (am_bind_i (s_8 L (am_put (am_put (am_put σ 21 x2.toNatClampNeg (σ.1 21 (((σ.1 3 x2.toNatClampNeg)).toNatClampNeg))) 22 x2.toNatClampNeg (σ.1 22 (((σ.1 3 x2.toNatClampNeg)).toNatClampNeg))) 23 x2.toNatClampNeg (σ.1 23 (((σ.1 3 x2.toNatClampNeg)).toNatClampNeg))) (σ.1 3 x2.toNatClampNeg) (σ.1 4 x2.toNatClampNeg) ((h.2.2.2.2.2.2.2.2 hc71).1))).trans ?_
    refine (e_2_68 _ _ _ _ _ _ _).trans ?_
    refine (if_neg ((h.2.2.2.2.2.2.2.2 hc71).2.1)).trans ?_
    refine Eq.trans (b := am_r L 2 97 [some (.inr (.inr (20, none))), some (.inr (.inr (2, none))), some (.inl x2), some (.inl x3), some (.inl (σ.1 3 x2.toNatClampNeg)), some (.inl (σ.1 4 x2.toNatClampNeg)), some (.inl (v_8 (am_put (am_put (am_put σ 21 x2.toNatClampNeg (σ.1 21 (((σ.1 3 x2.toNatClampNeg)).toNatClampNeg))) 22 x2.toNatClampNeg (σ.1 22 (((σ.1 3 x2.toNatClampNeg)).toNatClampNeg))) 23 x2.toNatClampNeg (σ.1 23 (((σ.1 3 x2.toNatClampNeg)).toNatClampNeg))) (σ.1 3 x2.toNatClampNeg) (σ.1 4 x2.toNatClampNeg))), none, none] [.inl (if (σ.1 5 x2.toNatClampNeg) = 0 then ((-((am_put (am_put (am_put σ 21 x2.toNatClampNeg (σ.1 21 (((σ.1 3 x2.toNatClampNeg)).toNatClampNeg))) 22 x2.toNatClampNeg (σ.1 22 (((σ.1 3 x2.toNatClampNeg)).toNatClampNeg))) 23 x2.toNatClampNeg (σ.1 23 (((σ.1 3 x2.toNatClampNeg)).toNatClampNeg))).1 23 (((σ.1 3 x2.toNatClampNeg)).toNatClampNeg))) : Int32) else ((am_put (am_put (am_put σ 21 x2.toNatClampNeg (σ.1 21 (((σ.1 3 x2.toNatClampNeg)).toNatClampNeg))) 22 x2.toNatClampNeg (σ.1 22 (((σ.1 3 x2.toNatClampNeg)).toNatClampNeg))) 23 x2.toNatClampNeg (σ.1 23 (((σ.1 3 x2.toNatClampNeg)).toNatClampNeg))).1 23 (((σ.1 3 x2.toNatClampNeg)).toNatClampNeg)))] (am_put (am_put (am_put σ 21 x2.toNatClampNeg (σ.1 21 (((σ.1 3 x2.toNatClampNeg)).toNatClampNeg))) 22 x2.toNatClampNeg (σ.1 22 (((σ.1 3 x2.toNatClampNeg)).toNatClampNeg))) 23 x2.toNatClampNeg (σ.1 23 (((σ.1 3 x2.toNatClampNeg)).toNatClampNeg)))) ?_ ?_
    · by_cases hc72 : (σ.1 5 x2.toNatClampNeg) = 0
      · refine (if_pos hc72).trans ?_
        refine Eq.trans (b := am_r L 2 97 [some (.inr (.inr (20, none))), some (.inr (.inr (2, none))), some (.inl x2), some (.inl x3), some (.inl (σ.1 3 x2.toNatClampNeg)), some (.inl (σ.1 4 x2.toNatClampNeg)), some (.inl (v_8 (am_put (am_put (am_put σ 21 x2.toNatClampNeg (σ.1 21 (((σ.1 3 x2.toNatClampNeg)).toNatClampNeg))) 22 x2.toNatClampNeg (σ.1 22 (((σ.1 3 x2.toNatClampNeg)).toNatClampNeg))) 23 x2.toNatClampNeg (σ.1 23 (((σ.1 3 x2.toNatClampNeg)).toNatClampNeg))) (σ.1 3 x2.toNatClampNeg) (σ.1 4 x2.toNatClampNeg))), none, none] [.inl (-((am_put (am_put (am_put σ 21 x2.toNatClampNeg (σ.1 21 (((σ.1 3 x2.toNatClampNeg)).toNatClampNeg))) 22 x2.toNatClampNeg (σ.1 22 (((σ.1 3 x2.toNatClampNeg)).toNatClampNeg))) 23 x2.toNatClampNeg (σ.1 23 (((σ.1 3 x2.toNatClampNeg)).toNatClampNeg))).1 23 (((σ.1 3 x2.toNatClampNeg)).toNatClampNeg)))] (am_put (am_put (am_put σ 21 x2.toNatClampNeg (σ.1 21 (((σ.1 3 x2.toNatClampNeg)).toNatClampNeg))) 22 x2.toNatClampNeg (σ.1 22 (((σ.1 3 x2.toNatClampNeg)).toNatClampNeg))) 23 x2.toNatClampNeg (σ.1 23 (((σ.1 3 x2.toNatClampNeg)).toNatClampNeg)))) ?_ ?_
        · refine (e_2_89 _ _ _ _ _ _ _).trans ?_
          refine (if_neg (((h.2.2.2.2.2.2.2.2 hc71).2.2.1.1 hc72))).trans ?_
          rfl
        · first | with_reducible rfl | simp only [if_pos hc72]
      · refine (if_neg hc72).trans ?_
        refine Eq.trans (b := am_r L 2 97 [some (.inr (.inr (20, none))), some (.inr (.inr (2, none))), some (.inl x2), some (.inl x3), some (.inl (σ.1 3 x2.toNatClampNeg)), some (.inl (σ.1 4 x2.toNatClampNeg)), some (.inl (v_8 (am_put (am_put (am_put σ 21 x2.toNatClampNeg (σ.1 21 (((σ.1 3 x2.toNatClampNeg)).toNatClampNeg))) 22 x2.toNatClampNeg (σ.1 22 (((σ.1 3 x2.toNatClampNeg)).toNatClampNeg))) 23 x2.toNatClampNeg (σ.1 23 (((σ.1 3 x2.toNatClampNeg)).toNatClampNeg))) (σ.1 3 x2.toNatClampNeg) (σ.1 4 x2.toNatClampNeg))), none, none] [.inl ((am_put (am_put (am_put σ 21 x2.toNatClampNeg (σ.1 21 (((σ.1 3 x2.toNatClampNeg)).toNatClampNeg))) 22 x2.toNatClampNeg (σ.1 22 (((σ.1 3 x2.toNatClampNeg)).toNatClampNeg))) 23 x2.toNatClampNeg (σ.1 23 (((σ.1 3 x2.toNatClampNeg)).toNatClampNeg))).1 23 (((σ.1 3 x2.toNatClampNeg)).toNatClampNeg))] (am_put (am_put (am_put σ 21 x2.toNatClampNeg (σ.1 21 (((σ.1 3 x2.toNatClampNeg)).toNatClampNeg))) 22 x2.toNatClampNeg (σ.1 22 (((σ.1 3 x2.toNatClampNeg)).toNatClampNeg))) 23 x2.toNatClampNeg (σ.1 23 (((σ.1 3 x2.toNatClampNeg)).toNatClampNeg)))) ?_ ?_
        · refine (if_neg (((h.2.2.2.2.2.2.2.2 hc71).2.2.1.2 hc72))).trans ?_
          rfl
        · first | with_reducible rfl | simp only [if_neg hc72]
    refine (e_2_97 _ _ _ _ _ _ _ _).trans ?_
    refine (if_neg ((h.2.2.2.2.2.2.2.2 hc71).2.2.2.1)).trans ?_
    refine Eq.trans (b := am_r L 2 121 [some (.inr (.inr (20, none))), some (.inr (.inr (2, none))), some (.inl x2), some (.inl x3), some (.inl (σ.1 3 x2.toNatClampNeg)), some (.inl (σ.1 4 x2.toNatClampNeg)), some (.inl (v_8 (am_put (am_put (am_put σ 21 x2.toNatClampNeg (σ.1 21 (((σ.1 3 x2.toNatClampNeg)).toNatClampNeg))) 22 x2.toNatClampNeg (σ.1 22 (((σ.1 3 x2.toNatClampNeg)).toNatClampNeg))) 23 x2.toNatClampNeg (σ.1 23 (((σ.1 3 x2.toNatClampNeg)).toNatClampNeg))) (σ.1 3 x2.toNatClampNeg) (σ.1 4 x2.toNatClampNeg))), some (.inl (if (σ.1 5 x2.toNatClampNeg) = 0 then ((-((am_put (am_put (am_put σ 21 x2.toNatClampNeg (σ.1 21 (((σ.1 3 x2.toNatClampNeg)).toNatClampNeg))) 22 x2.toNatClampNeg (σ.1 22 (((σ.1 3 x2.toNatClampNeg)).toNatClampNeg))) 23 x2.toNatClampNeg (σ.1 23 (((σ.1 3 x2.toNatClampNeg)).toNatClampNeg))).1 23 (((σ.1 3 x2.toNatClampNeg)).toNatClampNeg))) : Int32) else ((am_put (am_put (am_put σ 21 x2.toNatClampNeg (σ.1 21 (((σ.1 3 x2.toNatClampNeg)).toNatClampNeg))) 22 x2.toNatClampNeg (σ.1 22 (((σ.1 3 x2.toNatClampNeg)).toNatClampNeg))) 23 x2.toNatClampNeg (σ.1 23 (((σ.1 3 x2.toNatClampNeg)).toNatClampNeg))).1 23 (((σ.1 3 x2.toNatClampNeg)).toNatClampNeg)))), none] [.inl (if (σ.1 5 x2.toNatClampNeg) = 0 then ((v_8 (am_put (am_put (am_put σ 21 x2.toNatClampNeg (σ.1 21 (((σ.1 3 x2.toNatClampNeg)).toNatClampNeg))) 22 x2.toNatClampNeg (σ.1 22 (((σ.1 3 x2.toNatClampNeg)).toNatClampNeg))) 23 x2.toNatClampNeg (σ.1 23 (((σ.1 3 x2.toNatClampNeg)).toNatClampNeg))) (σ.1 3 x2.toNatClampNeg) (σ.1 4 x2.toNatClampNeg)) : Int32) else (-(v_8 (am_put (am_put (am_put σ 21 x2.toNatClampNeg (σ.1 21 (((σ.1 3 x2.toNatClampNeg)).toNatClampNeg))) 22 x2.toNatClampNeg (σ.1 22 (((σ.1 3 x2.toNatClampNeg)).toNatClampNeg))) 23 x2.toNatClampNeg (σ.1 23 (((σ.1 3 x2.toNatClampNeg)).toNatClampNeg))) (σ.1 3 x2.toNatClampNeg) (σ.1 4 x2.toNatClampNeg)))), .inl x2, .inr (.inr (23, none))] (am_put (am_put (am_put σ 21 x2.toNatClampNeg (σ.1 21 (((σ.1 3 x2.toNatClampNeg)).toNatClampNeg))) 22 x2.toNatClampNeg (σ.1 22 (((σ.1 3 x2.toNatClampNeg)).toNatClampNeg))) 23 x2.toNatClampNeg (σ.1 23 (((σ.1 3 x2.toNatClampNeg)).toNatClampNeg)))) ?_ ?_
    · by_cases hc73 : (σ.1 5 x2.toNatClampNeg) = 0
      · refine (if_pos hc73).trans ?_
        refine Eq.trans (b := am_r L 2 121 [some (.inr (.inr (20, none))), some (.inr (.inr (2, none))), some (.inl x2), some (.inl x3), some (.inl (σ.1 3 x2.toNatClampNeg)), some (.inl (σ.1 4 x2.toNatClampNeg)), some (.inl (v_8 (am_put (am_put (am_put σ 21 x2.toNatClampNeg (σ.1 21 (((σ.1 3 x2.toNatClampNeg)).toNatClampNeg))) 22 x2.toNatClampNeg (σ.1 22 (((σ.1 3 x2.toNatClampNeg)).toNatClampNeg))) 23 x2.toNatClampNeg (σ.1 23 (((σ.1 3 x2.toNatClampNeg)).toNatClampNeg))) (σ.1 3 x2.toNatClampNeg) (σ.1 4 x2.toNatClampNeg))), some (.inl (if (σ.1 5 x2.toNatClampNeg) = 0 then ((-((am_put (am_put (am_put σ 21 x2.toNatClampNeg (σ.1 21 (((σ.1 3 x2.toNatClampNeg)).toNatClampNeg))) 22 x2.toNatClampNeg (σ.1 22 (((σ.1 3 x2.toNatClampNeg)).toNatClampNeg))) 23 x2.toNatClampNeg (σ.1 23 (((σ.1 3 x2.toNatClampNeg)).toNatClampNeg))).1 23 (((σ.1 3 x2.toNatClampNeg)).toNatClampNeg))) : Int32) else ((am_put (am_put (am_put σ 21 x2.toNatClampNeg (σ.1 21 (((σ.1 3 x2.toNatClampNeg)).toNatClampNeg))) 22 x2.toNatClampNeg (σ.1 22 (((σ.1 3 x2.toNatClampNeg)).toNatClampNeg))) 23 x2.toNatClampNeg (σ.1 23 (((σ.1 3 x2.toNatClampNeg)).toNatClampNeg))).1 23 (((σ.1 3 x2.toNatClampNeg)).toNatClampNeg)))), none] [.inl (v_8 (am_put (am_put (am_put σ 21 x2.toNatClampNeg (σ.1 21 (((σ.1 3 x2.toNatClampNeg)).toNatClampNeg))) 22 x2.toNatClampNeg (σ.1 22 (((σ.1 3 x2.toNatClampNeg)).toNatClampNeg))) 23 x2.toNatClampNeg (σ.1 23 (((σ.1 3 x2.toNatClampNeg)).toNatClampNeg))) (σ.1 3 x2.toNatClampNeg) (σ.1 4 x2.toNatClampNeg)), .inl x2, .inr (.inr (23, none))] (am_put (am_put (am_put σ 21 x2.toNatClampNeg (σ.1 21 (((σ.1 3 x2.toNatClampNeg)).toNatClampNeg))) 22 x2.toNatClampNeg (σ.1 22 (((σ.1 3 x2.toNatClampNeg)).toNatClampNeg))) 23 x2.toNatClampNeg (σ.1 23 (((σ.1 3 x2.toNatClampNeg)).toNatClampNeg)))) ?_ ?_
        · refine (e_2_119 _ _ _ _ _ _ _ _ _).trans ?_
          rfl
        · first | with_reducible rfl | simp only [if_pos hc73]
      · refine (if_neg hc73).trans ?_
        refine Eq.trans (b := am_r L 2 121 [some (.inr (.inr (20, none))), some (.inr (.inr (2, none))), some (.inl x2), some (.inl x3), some (.inl (σ.1 3 x2.toNatClampNeg)), some (.inl (σ.1 4 x2.toNatClampNeg)), some (.inl (v_8 (am_put (am_put (am_put σ 21 x2.toNatClampNeg (σ.1 21 (((σ.1 3 x2.toNatClampNeg)).toNatClampNeg))) 22 x2.toNatClampNeg (σ.1 22 (((σ.1 3 x2.toNatClampNeg)).toNatClampNeg))) 23 x2.toNatClampNeg (σ.1 23 (((σ.1 3 x2.toNatClampNeg)).toNatClampNeg))) (σ.1 3 x2.toNatClampNeg) (σ.1 4 x2.toNatClampNeg))), some (.inl (if (σ.1 5 x2.toNatClampNeg) = 0 then ((-((am_put (am_put (am_put σ 21 x2.toNatClampNeg (σ.1 21 (((σ.1 3 x2.toNatClampNeg)).toNatClampNeg))) 22 x2.toNatClampNeg (σ.1 22 (((σ.1 3 x2.toNatClampNeg)).toNatClampNeg))) 23 x2.toNatClampNeg (σ.1 23 (((σ.1 3 x2.toNatClampNeg)).toNatClampNeg))).1 23 (((σ.1 3 x2.toNatClampNeg)).toNatClampNeg))) : Int32) else ((am_put (am_put (am_put σ 21 x2.toNatClampNeg (σ.1 21 (((σ.1 3 x2.toNatClampNeg)).toNatClampNeg))) 22 x2.toNatClampNeg (σ.1 22 (((σ.1 3 x2.toNatClampNeg)).toNatClampNeg))) 23 x2.toNatClampNeg (σ.1 23 (((σ.1 3 x2.toNatClampNeg)).toNatClampNeg))).1 23 (((σ.1 3 x2.toNatClampNeg)).toNatClampNeg)))), none] [.inl (-(v_8 (am_put (am_put (am_put σ 21 x2.toNatClampNeg (σ.1 21 (((σ.1 3 x2.toNatClampNeg)).toNatClampNeg))) 22 x2.toNatClampNeg (σ.1 22 (((σ.1 3 x2.toNatClampNeg)).toNatClampNeg))) 23 x2.toNatClampNeg (σ.1 23 (((σ.1 3 x2.toNatClampNeg)).toNatClampNeg))) (σ.1 3 x2.toNatClampNeg) (σ.1 4 x2.toNatClampNeg))), .inl x2, .inr (.inr (23, none))] (am_put (am_put (am_put σ 21 x2.toNatClampNeg (σ.1 21 (((σ.1 3 x2.toNatClampNeg)).toNatClampNeg))) 22 x2.toNatClampNeg (σ.1 22 (((σ.1 3 x2.toNatClampNeg)).toNatClampNeg))) 23 x2.toNatClampNeg (σ.1 23 (((σ.1 3 x2.toNatClampNeg)).toNatClampNeg)))) ?_ ?_
        · rfl
        · first | with_reducible rfl | simp only [if_neg hc73]
    refine (e_2_121 _ _ _ _ _ _ _ _ _ _).trans ?_
    refine (if_neg ((h.2.2.2.2.2.2.2.2 hc71).2.2.2.2.1)).trans ?_
    refine (am_bind_i (s_69 L (am_put (am_put (am_put (am_put σ 21 x2.toNatClampNeg (σ.1 21 (((σ.1 3 x2.toNatClampNeg)).toNatClampNeg))) 22 x2.toNatClampNeg (σ.1 22 (((σ.1 3 x2.toNatClampNeg)).toNatClampNeg))) 23 x2.toNatClampNeg (σ.1 23 (((σ.1 3 x2.toNatClampNeg)).toNatClampNeg))) 23 x2.toNatClampNeg (if (σ.1 5 x2.toNatClampNeg) = 0 then ((v_8 (am_put (am_put (am_put σ 21 x2.toNatClampNeg (σ.1 21 (((σ.1 3 x2.toNatClampNeg)).toNatClampNeg))) 22 x2.toNatClampNeg (σ.1 22 (((σ.1 3 x2.toNatClampNeg)).toNatClampNeg))) 23 x2.toNatClampNeg (σ.1 23 (((σ.1 3 x2.toNatClampNeg)).toNatClampNeg))) (σ.1 3 x2.toNatClampNeg) (σ.1 4 x2.toNatClampNeg)) : Int32) else (-(v_8 (am_put (am_put (am_put σ 21 x2.toNatClampNeg (σ.1 21 (((σ.1 3 x2.toNatClampNeg)).toNatClampNeg))) 22 x2.toNatClampNeg (σ.1 22 (((σ.1 3 x2.toNatClampNeg)).toNatClampNeg))) 23 x2.toNatClampNeg (σ.1 23 (((σ.1 3 x2.toNatClampNeg)).toNatClampNeg))) (σ.1 3 x2.toNatClampNeg) (σ.1 4 x2.toNatClampNeg))))) (σ.1 4 x2.toNatClampNeg))).trans ?_
    exact s_2_127 L (am_put (am_put (am_put (am_put σ 21 x2.toNatClampNeg (σ.1 21 (((σ.1 3 x2.toNatClampNeg)).toNatClampNeg))) 22 x2.toNatClampNeg (σ.1 22 (((σ.1 3 x2.toNatClampNeg)).toNatClampNeg))) 23 x2.toNatClampNeg (σ.1 23 (((σ.1 3 x2.toNatClampNeg)).toNatClampNeg))) 23 x2.toNatClampNeg (if (σ.1 5 x2.toNatClampNeg) = 0 then ((v_8 (am_put (am_put (am_put σ 21 x2.toNatClampNeg (σ.1 21 (((σ.1 3 x2.toNatClampNeg)).toNatClampNeg))) 22 x2.toNatClampNeg (σ.1 22 (((σ.1 3 x2.toNatClampNeg)).toNatClampNeg))) 23 x2.toNatClampNeg (σ.1 23 (((σ.1 3 x2.toNatClampNeg)).toNatClampNeg))) (σ.1 3 x2.toNatClampNeg) (σ.1 4 x2.toNatClampNeg)) : Int32) else (-(v_8 (am_put (am_put (am_put σ 21 x2.toNatClampNeg (σ.1 21 (((σ.1 3 x2.toNatClampNeg)).toNatClampNeg))) 22 x2.toNatClampNeg (σ.1 22 (((σ.1 3 x2.toNatClampNeg)).toNatClampNeg))) 23 x2.toNatClampNeg (σ.1 23 (((σ.1 3 x2.toNatClampNeg)).toNatClampNeg))) (σ.1 3 x2.toNatClampNeg) (σ.1 4 x2.toNatClampNeg))))) x2 x3 (σ.1 3 x2.toNatClampNeg) (σ.1 4 x2.toNatClampNeg) (v_8 (am_put (am_put (am_put σ 21 x2.toNatClampNeg (σ.1 21 (((σ.1 3 x2.toNatClampNeg)).toNatClampNeg))) 22 x2.toNatClampNeg (σ.1 22 (((σ.1 3 x2.toNatClampNeg)).toNatClampNeg))) 23 x2.toNatClampNeg (σ.1 23 (((σ.1 3 x2.toNatClampNeg)).toNatClampNeg))) (σ.1 3 x2.toNatClampNeg) (σ.1 4 x2.toNatClampNeg)) (if (σ.1 5 x2.toNatClampNeg) = 0 then ((-((am_put (am_put (am_put σ 21 x2.toNatClampNeg (σ.1 21 (((σ.1 3 x2.toNatClampNeg)).toNatClampNeg))) 22 x2.toNatClampNeg (σ.1 22 (((σ.1 3 x2.toNatClampNeg)).toNatClampNeg))) 23 x2.toNatClampNeg (σ.1 23 (((σ.1 3 x2.toNatClampNeg)).toNatClampNeg))).1 23 (((σ.1 3 x2.toNatClampNeg)).toNatClampNeg))) : Int32) else ((am_put (am_put (am_put σ 21 x2.toNatClampNeg (σ.1 21 (((σ.1 3 x2.toNatClampNeg)).toNatClampNeg))) 22 x2.toNatClampNeg (σ.1 22 (((σ.1 3 x2.toNatClampNeg)).toNatClampNeg))) 23 x2.toNatClampNeg (σ.1 23 (((σ.1 3 x2.toNatClampNeg)).toNatClampNeg))).1 23 (((σ.1 3 x2.toNatClampNeg)).toNatClampNeg))) (v_69 (am_put (am_put (am_put (am_put σ 21 x2.toNatClampNeg (σ.1 21 (((σ.1 3 x2.toNatClampNeg)).toNatClampNeg))) 22 x2.toNatClampNeg (σ.1 22 (((σ.1 3 x2.toNatClampNeg)).toNatClampNeg))) 23 x2.toNatClampNeg (σ.1 23 (((σ.1 3 x2.toNatClampNeg)).toNatClampNeg))) 23 x2.toNatClampNeg (if (σ.1 5 x2.toNatClampNeg) = 0 then ((v_8 (am_put (am_put (am_put σ 21 x2.toNatClampNeg (σ.1 21 (((σ.1 3 x2.toNatClampNeg)).toNatClampNeg))) 22 x2.toNatClampNeg (σ.1 22 (((σ.1 3 x2.toNatClampNeg)).toNatClampNeg))) 23 x2.toNatClampNeg (σ.1 23 (((σ.1 3 x2.toNatClampNeg)).toNatClampNeg))) (σ.1 3 x2.toNatClampNeg) (σ.1 4 x2.toNatClampNeg)) : Int32) else (-(v_8 (am_put (am_put (am_put σ 21 x2.toNatClampNeg (σ.1 21 (((σ.1 3 x2.toNatClampNeg)).toNatClampNeg))) 22 x2.toNatClampNeg (σ.1 22 (((σ.1 3 x2.toNatClampNeg)).toNatClampNeg))) 23 x2.toNatClampNeg (σ.1 23 (((σ.1 3 x2.toNatClampNeg)).toNatClampNeg))) (σ.1 3 x2.toNatClampNeg) (σ.1 4 x2.toNatClampNeg))))) (σ.1 4 x2.toNatClampNeg)) ((h.2.2.2.2.2.2.2.2 hc71).2.2.2.2.2)
-- 6: X0_share
def v_6 (σ : am_M) (x0 : Int32) (x1 : Int32) : Int32 := (if x0 = (x1 + 1) then 1 else (if x0 = ((-x1) - 1) then ((-1) : Int32) else 0))
set_option maxRecDepth 20000 in
theorem s_6 (L : Nat) (σ : am_M) (x0 : Int32) (x1 : Int32) : am_r L 6 0 [some (.inl x0), some (.inl x1)] [] σ = some (some (.inl (v_6 σ x0 x1)), am_sh0 L, σ) := by
  unfold v_6
  refine (e_6_0 _ _ _ _).trans ?_
  refine am_fkIv (fun hc74 => ?_) (fun hc74 => ?_)
  · rfl
  · refine (e_6_9 _ _ _ _).trans ?_
    refine Eq.trans (b := am_r L 6 22 [some (.inl x0), some (.inl x1)] [.inl (if x0 = ((-x1) - 1) then ((-1) : Int32) else 0)] σ) ?_ ?_
    · by_cases hc75 : x0 = ((-x1) - 1)
      · refine (if_pos hc75).trans ?_
        refine Eq.trans (b := am_r L 6 22 [some (.inl x0), some (.inl x1)] [.inl (-1)] σ) ?_ ?_
        · rfl
        · first | with_reducible rfl | simp only [if_pos hc75]
      · refine (if_neg hc75).trans ?_
        refine Eq.trans (b := am_r L 6 22 [some (.inl x0), some (.inl x1)] [.inl 0] σ) ?_ ?_
        · refine (e_6_21 _ _ _ _).trans ?_
          rfl
        · first | with_reducible rfl | simp only [if_neg hc75]
    refine (e_6_22 _ _ _ _ _).trans ?_
    rfl
-- 5: X0_inSpace
def p_5 (σ : am_M) (x2 : Int32) (x3 : Int32) (x4 : Int32) (x5 : Int32) : Prop := (¬ (x5 < 0 ∨ 3 ≤ x5.toNatClampNeg)) ∧ ((¬ (x2 < 0 ∨ 13 ≤ x2.toNatClampNeg)) ∧ ((¬ (x2 < 0 ∨ 13 ≤ x2.toNatClampNeg)) ∧ ((¬ (x2 < 0 ∨ 13 ≤ x2.toNatClampNeg)) ∧ ((¬ (x2 < 0 ∨ 13 ≤ x2.toNatClampNeg)) ∧ (¬ (x2 < 0 ∨ 13 ≤ x2.toNatClampNeg))))))
def v_5 (σ : am_M) (x2 : Int32) (x3 : Int32) (x4 : Int32) (x5 : Int32) : Int32 := (((σ.1 (25 + x5.toNatClampNeg) x2.toNatClampNeg) + ((x3 - (σ.1 10 x2.toNatClampNeg)) * (v_6 σ (σ.1 21 x2.toNatClampNeg) x5))) + ((x4 - (σ.1 11 x2.toNatClampNeg)) * (v_6 σ (σ.1 22 x2.toNatClampNeg) x5)))
set_option maxRecDepth 20000 in
theorem s_5 (L : Nat) (σ : am_M) (x2 : Int32) (x3 : Int32) (x4 : Int32) (x5 : Int32) (h : p_5 σ x2 x3 x4 x5) : am_r L 5 0 [some (.inr (.inr (20, none))), some (.inr (.inr (2, none))), some (.inl x2), some (.inl x3), some (.inl x4), some (.inl x5)] [] σ = some (some (.inl (v_5 σ x2 x3 x4 x5)), am_sh0 L, σ) := by
  unfold p_5 at h
  unfold v_5
  refine (e_5_0 _ _ _ _ _ _).trans ?_
  refine (if_neg h.1).trans ?_
  refine (if_neg h.2.1).trans ?_
  refine (if_neg (by decide)).trans ?_
  refine (if_neg h.2.2.1).trans ?_
  refine (e_5_20 _ _ _ _ _ _ _ _).trans ?_
  refine (if_neg h.2.2.2.1).trans ?_
  refine (am_bind_i (s_6 L σ (σ.1 21 x2.toNatClampNeg) x5)).trans ?_
  refine (e_5_30 _ _ _ _ _ _ _ _ _).trans ?_
  refine (if_neg (by decide)).trans ?_
  refine (if_neg h.2.2.2.2.1).trans ?_
  refine (if_neg h.2.2.2.2.2).trans ?_
  refine (am_bind_i (s_6 L σ (σ.1 22 x2.toNatClampNeg) x5)).trans ?_
  refine (e_5_54 _ _ _ _ _ _ _ _ _).trans ?_
  rfl
-- 36: X2_bendX
def p_36 (σ : am_M) (x1 : Int32) : Prop := (¬ (x1 < 0 ∨ 13 ≤ x1.toNatClampNeg)) ∧ ((¬ ((if (σ.1 4 x1.toNatClampNeg) = 2 then (0 : Int32) else 2) < 0 ∨ 4 ≤ ((if (σ.1 4 x1.toNatClampNeg) = 2 then (0 : Int32) else 2)).toNatClampNeg)) ∧ (¬ (x1 < 0 ∨ 13 ≤ x1.toNatClampNeg)))
def v_36 (σ : am_M) (x1 : Int32) : Int32 := (σ.1 (8 + ((if (σ.1 4 x1.toNatClampNeg) = 2 then (0 : Int32) else 2)).toNatClampNeg) x1.toNatClampNeg)
set_option maxRecDepth 20000 in
theorem s_36 (L : Nat) (σ : am_M) (x1 : Int32) (h : p_36 σ x1) : am_r L 36 0 [some (.inr (.inr (2, none))), some (.inl x1)] [] σ = some (some (.inl (v_36 σ x1)), am_sh0 L, σ) := by
  unfold p_36 at h
  unfold v_36
  refine (e_36_0 _ _ _).trans ?_
  refine (if_neg h.1).trans ?_
  refine Eq.trans (b := am_r L 36 19 [some (.inr (.inr (2, none))), some (.inl x1)] [.inl (if (σ.1 4 x1.toNatClampNeg) = 2 then (0 : Int32) else 2), .inr (.inr (7, none))] σ) ?_ ?_
  · by_cases hc76 : (σ.1 4 x1.toNatClampNeg) = 2
    · refine (if_pos hc76).trans ?_
      refine Eq.trans (b := am_r L 36 19 [some (.inr (.inr (2, none))), some (.inl x1)] [.inl 0, .inr (.inr (7, none))] σ) ?_ ?_
      · rfl
      · first | with_reducible rfl | simp only [if_pos hc76]
    · refine (if_neg hc76).trans ?_
      refine Eq.trans (b := am_r L 36 19 [some (.inr (.inr (2, none))), some (.inl x1)] [.inl 2, .inr (.inr (7, none))] σ) ?_ ?_
      · refine (e_36_18 _ _ _).trans ?_
        rfl
      · first | with_reducible rfl | simp only [if_neg hc76]
  refine (e_36_19 _ _ _ _).trans ?_
  refine (if_neg h.2.1).trans ?_
  refine (if_neg h.2.2).trans ?_
  rfl
-- 37: X2_bendY
def p_37 (σ : am_M) (x1 : Int32) : Prop := (¬ (x1 < 0 ∨ 13 ≤ x1.toNatClampNeg)) ∧ ((¬ ((if (σ.1 4 x1.toNatClampNeg) = 3 then (1 : Int32) else 3) < 0 ∨ 4 ≤ ((if (σ.1 4 x1.toNatClampNeg) = 3 then (1 : Int32) else 3)).toNatClampNeg)) ∧ (¬ (x1 < 0 ∨ 13 ≤ x1.toNatClampNeg)))
def v_37 (σ : am_M) (x1 : Int32) : Int32 := (σ.1 (8 + ((if (σ.1 4 x1.toNatClampNeg) = 3 then (1 : Int32) else 3)).toNatClampNeg) x1.toNatClampNeg)
set_option maxRecDepth 20000 in
theorem s_37 (L : Nat) (σ : am_M) (x1 : Int32) (h : p_37 σ x1) : am_r L 37 0 [some (.inr (.inr (2, none))), some (.inl x1)] [] σ = some (some (.inl (v_37 σ x1)), am_sh0 L, σ) := by
  unfold p_37 at h
  unfold v_37
  refine (e_37_0 _ _ _).trans ?_
  refine (if_neg h.1).trans ?_
  refine Eq.trans (b := am_r L 37 19 [some (.inr (.inr (2, none))), some (.inl x1)] [.inl (if (σ.1 4 x1.toNatClampNeg) = 3 then (1 : Int32) else 3), .inr (.inr (7, none))] σ) ?_ ?_
  · by_cases hc77 : (σ.1 4 x1.toNatClampNeg) = 3
    · refine (if_pos hc77).trans ?_
      refine Eq.trans (b := am_r L 37 19 [some (.inr (.inr (2, none))), some (.inl x1)] [.inl 1, .inr (.inr (7, none))] σ) ?_ ?_
      · rfl
      · first | with_reducible rfl | simp only [if_pos hc77]
    · refine (if_neg hc77).trans ?_
      refine Eq.trans (b := am_r L 37 19 [some (.inr (.inr (2, none))), some (.inl x1)] [.inl 3, .inr (.inr (7, none))] σ) ?_ ?_
      · refine (e_37_18 _ _ _).trans ?_
        rfl
      · first | with_reducible rfl | simp only [if_neg hc77]
  refine (e_37_19 _ _ _ _).trans ?_
  refine (if_neg h.2.1).trans ?_
  refine (if_neg h.2.2).trans ?_
  rfl
-- 3: X0_setCorner
def l_3_50 : Nat → am_M → Int32 → Int32 → Int32 → Int32 → Int32 → Int32 → Int32 → am_M
  | 0, σ, x2, x3, x4, x5, x6, x7, x8 => σ
  | n + 1, σ, x2, x3, x4, x5, x6, x7, x8 => (if x8 < 3 then (l_3_50 n (am_put σ (25 + x8.toNatClampNeg) x2.toNatClampNeg (((v_5 σ x3 x4 x5 x8) - (x6 * (v_6 σ (σ.1 21 x2.toNatClampNeg) x8))) - (x7 * (v_6 σ (σ.1 22 x2.toNatClampNeg) x8)))) x2 x3 x4 x5 x6 x7 (x8 + 1)) else σ)
def q_3_50 : Nat → am_M → Int32 → Int32 → Int32 → Int32 → Int32 → Int32 → Int32 → Prop
  | 0, _, _, _, _, _, _, _, _ => False
  | n + 1, σ, x2, x3, x4, x5, x6, x7, x8 => (x8 < 3) → ((¬ (x8 < 0 ∨ 3 ≤ x8.toNatClampNeg)) ∧ ((p_5 σ x3 x4 x5 x8) ∧ ((¬ (x2 < 0 ∨ 13 ≤ x2.toNatClampNeg)) ∧ ((¬ (x2 < 0 ∨ 13 ≤ x2.toNatClampNeg)) ∧ ((¬ (x2 < 0 ∨ 13 ≤ x2.toNatClampNeg)) ∧ (q_3_50 n (am_put σ (25 + x8.toNatClampNeg) x2.toNatClampNeg (((v_5 σ x3 x4 x5 x8) - (x6 * (v_6 σ (σ.1 21 x2.toNatClampNeg) x8))) - (x7 * (v_6 σ (σ.1 22 x2.toNatClampNeg) x8)))) x2 x3 x4 x5 x6 x7 (x8 + 1)))))))
set_option maxRecDepth 20000 in
theorem t_3_50 (L : Nat) : ∀ (n : Nat) (σ : am_M) (x2 : Int32) (x3 : Int32) (x4 : Int32) (x5 : Int32) (x6 : Int32) (x7 : Int32) (x8 : Int32), q_3_50 n σ x2 x3 x4 x5 x6 x7 x8 → am_r L 3 50 [some (.inr (.inr (20, none))), some (.inr (.inr (2, none))), some (.inl x2), some (.inl x3), some (.inl x4), some (.inl x5), some (.inl x6), some (.inl x7), some (.inl x8)] [] σ = some (none, am_sh0 L, (l_3_50 n σ x2 x3 x4 x5 x6 x7 x8)) := by
  intro n
  induction n with
  | zero => intro σ x2 x3 x4 x5 x6 x7 x8 h; exact h.elim
  | succ n ih =>
    intro σ x2 x3 x4 x5 x6 x7 x8 h
    unfold q_3_50 at h
    unfold l_3_50
    refine (e_3_50 _ _ _ _ _ _ _ _ _).trans ?_
    refine am_fkVm (fun hc78 => ?_) (fun hc78 => ?_)
    · refine (if_neg ((h hc78).1)).trans ?_
      refine (am_bind_i (s_5 L σ x3 x4 x5 x8 ((h hc78).2.1))).trans ?_
      refine (e_3_76 _ _ _ _ _ _ _ _ _ _ _ _).trans ?_
      refine (if_neg ((h hc78).2.2.1)).trans ?_
      refine (am_bind_i (s_6 L σ (σ.1 21 x2.toNatClampNeg) x8)).trans ?_
      refine (e_3_89 _ _ _ _ _ _ _ _ _ _ _ _ _ _).trans ?_
      refine (if_neg ((h hc78).2.2.2.1)).trans ?_
      refine (am_bind_i (s_6 L σ (σ.1 22 x2.toNatClampNeg) x8)).trans ?_
      refine (e_3_104 _ _ _ _ _ _ _ _ _ _ _ _ _ _).trans ?_
      refine (if_neg ((h hc78).2.2.2.2.1)).trans ?_
      exact ih (am_put σ (25 + x8.toNatClampNeg) x2.toNatClampNeg (((v_5 σ x3 x4 x5 x8) - (x6 * (v_6 σ (σ.1 21 x2.toNatClampNeg) x8))) - (x7 * (v_6 σ (σ.1 22 x2.toNatClampNeg) x8)))) x2 x3 x4 x5 x6 x7 (x8 + 1) ((h hc78).2.2.2.2.2)
    · refine (e_3_113 _ _ _ _ _ _ _ _ _).trans ?_
      rfl
def p_3 (σ : am_M) (x2 : Int32) : Prop := (¬ (x2 < 0 ∨ 13 ≤ x2.toNatClampNeg)) ∧ ((p_36 σ x2) ∧ ((p_37 σ x2) ∧ ((¬ (x2 < 0 ∨ 13 ≤ x2.toNatClampNeg)) ∧ ((¬ (x2 < 0 ∨ 13 ≤ x2.toNatClampNeg)) ∧ (q_3_50 14 σ x2 (σ.1 3 x2.toNatClampNeg) (v_36 σ x2) (v_37 σ x2) ((v_36 σ x2) - (σ.1 10 x2.toNatClampNeg)) ((v_37 σ x2) - (σ.1 11 x2.toNatClampNeg)) 0)))))
def f_3 (σ : am_M) (x2 : Int32) : am_M := (l_3_50 14 σ x2 (σ.1 3 x2.toNatClampNeg) (v_36 σ x2) (v_37 σ x2) ((v_36 σ x2) - (σ.1 10 x2.toNatClampNeg)) ((v_37 σ x2) - (σ.1 11 x2.toNatClampNeg)) 0)
set_option maxRecDepth 20000 in
theorem sf_3 (L : Nat) (σ : am_M) (x2 : Int32) (h : p_3 σ x2) : am_r L 3 0 [some (.inr (.inr (20, none))), some (.inr (.inr (2, none))), some (.inl x2), none, none, none, none, none, none] [] σ = some (none, am_sh0 L, (f_3 σ x2)) := by
  unfold p_3 at h
  unfold f_3
  refine (e_3_0 _ _ _).trans ?_
  refine (if_neg h.1).trans ?_
  refine (am_bind_i (s_36 L σ x2 h.2.1)).trans ?_
  refine (e_3_12 _ _ _ _ _).trans ?_
  refine (am_bind_i (s_37 L σ x2 h.2.2.1)).trans ?_
  refine (e_3_19 _ _ _ _ _ _).trans ?_
  refine (if_neg (by decide)).trans ?_
  refine (if_neg h.2.2.2.1).trans ?_
  refine (if_neg (by decide)).trans ?_
  refine (if_neg h.2.2.2.2.1).trans ?_
  refine (e_3_44 _ _ _ _ _ _ _ _ _).trans ?_
  exact t_3_50 L 14 σ x2 (σ.1 3 x2.toNatClampNeg) (v_36 σ x2) (v_37 σ x2) ((v_36 σ x2) - (σ.1 10 x2.toNatClampNeg)) ((v_37 σ x2) - (σ.1 11 x2.toNatClampNeg)) 0 h.2.2.2.2.2
def w_3 (σ : am_M) (x2 : Int32) : am_M := f_3 σ x2
theorem s_3 (L : Nat) (σ : am_M) (x2 : Int32) (h : p_3 σ x2) : am_r L 3 0 [some (.inr (.inr (20, none))), some (.inr (.inr (2, none))), some (.inl x2), none, none, none, none, none, none] [] σ = some (none, am_sh0 L, w_3 σ x2) := sf_3 L σ x2 h
-- 4: X0_setBox
def l_4_2 : Nat → am_M → Int32 → Int32 → am_M
  | 0, σ, x2, x3 => σ
  | n + 1, σ, x2, x3 => (if x3 < 3 then (l_4_2 n (am_put (am_put σ (29 + x3.toNatClampNeg) x2.toNatClampNeg (v_121 σ (σ.1 (25 + x3.toNatClampNeg) x2.toNatClampNeg) (((σ.1 (25 + x3.toNatClampNeg) x2.toNatClampNeg) + ((v_30 σ x2) * (v_6 σ (σ.1 21 x2.toNatClampNeg) x3))) + ((v_31 σ x2) * (v_6 σ (σ.1 22 x2.toNatClampNeg) x3))))) (33 + x3.toNatClampNeg) x2.toNatClampNeg (v_120 (am_put σ (29 + x3.toNatClampNeg) x2.toNatClampNeg (v_121 σ (σ.1 (25 + x3.toNatClampNeg) x2.toNatClampNeg) (((σ.1 (25 + x3.toNatClampNeg) x2.toNatClampNeg) + ((v_30 σ x2) * (v_6 σ (σ.1 21 x2.toNatClampNeg) x3))) + ((v_31 σ x2) * (v_6 σ (σ.1 22 x2.toNatClampNeg) x3))))) ((am_put σ (29 + x3.toNatClampNeg) x2.toNatClampNeg (v_121 σ (σ.1 (25 + x3.toNatClampNeg) x2.toNatClampNeg) (((σ.1 (25 + x3.toNatClampNeg) x2.toNatClampNeg) + ((v_30 σ x2) * (v_6 σ (σ.1 21 x2.toNatClampNeg) x3))) + ((v_31 σ x2) * (v_6 σ (σ.1 22 x2.toNatClampNeg) x3))))).1 (25 + x3.toNatClampNeg) x2.toNatClampNeg) (((σ.1 (25 + x3.toNatClampNeg) x2.toNatClampNeg) + ((v_30 σ x2) * (v_6 σ (σ.1 21 x2.toNatClampNeg) x3))) + ((v_31 σ x2) * (v_6 σ (σ.1 22 x2.toNatClampNeg) x3))))) x2 (x3 + 1)) else σ)
def q_4_2 : Nat → am_M → Int32 → Int32 → Prop
  | 0, _, _, _ => False
  | n + 1, σ, x2, x3 => (x3 < 3) → ((¬ (x3 < 0 ∨ 3 ≤ x3.toNatClampNeg)) ∧ ((¬ (x2 < 0 ∨ 13 ≤ x2.toNatClampNeg)) ∧ ((p_30 σ x2) ∧ ((¬ (x2 < 0 ∨ 13 ≤ x2.toNatClampNeg)) ∧ ((p_31 σ x2) ∧ ((¬ (x2 < 0 ∨ 13 ≤ x2.toNatClampNeg)) ∧ ((¬ (x3 < 0 ∨ 3 ≤ x3.toNatClampNeg)) ∧ ((¬ (x3 < 0 ∨ 3 ≤ x3.toNatClampNeg)) ∧ ((¬ (x2 < 0 ∨ 13 ≤ x2.toNatClampNeg)) ∧ ((¬ (x2 < 0 ∨ 13 ≤ x2.toNatClampNeg)) ∧ ((¬ (x3 < 0 ∨ 3 ≤ x3.toNatClampNeg)) ∧ ((¬ (x3 < 0 ∨ 3 ≤ x3.toNatClampNeg)) ∧ ((¬ (x2 < 0 ∨ 13 ≤ x2.toNatClampNeg)) ∧ ((¬ (x2 < 0 ∨ 13 ≤ x2.toNatClampNeg)) ∧ (q_4_2 n (am_put (am_put σ (29 + x3.toNatClampNeg) x2.toNatClampNeg (v_121 σ (σ.1 (25 + x3.toNatClampNeg) x2.toNatClampNeg) (((σ.1 (25 + x3.toNatClampNeg) x2.toNatClampNeg) + ((v_30 σ x2) * (v_6 σ (σ.1 21 x2.toNatClampNeg) x3))) + ((v_31 σ x2) * (v_6 σ (σ.1 22 x2.toNatClampNeg) x3))))) (33 + x3.toNatClampNeg) x2.toNatClampNeg (v_120 (am_put σ (29 + x3.toNatClampNeg) x2.toNatClampNeg (v_121 σ (σ.1 (25 + x3.toNatClampNeg) x2.toNatClampNeg) (((σ.1 (25 + x3.toNatClampNeg) x2.toNatClampNeg) + ((v_30 σ x2) * (v_6 σ (σ.1 21 x2.toNatClampNeg) x3))) + ((v_31 σ x2) * (v_6 σ (σ.1 22 x2.toNatClampNeg) x3))))) ((am_put σ (29 + x3.toNatClampNeg) x2.toNatClampNeg (v_121 σ (σ.1 (25 + x3.toNatClampNeg) x2.toNatClampNeg) (((σ.1 (25 + x3.toNatClampNeg) x2.toNatClampNeg) + ((v_30 σ x2) * (v_6 σ (σ.1 21 x2.toNatClampNeg) x3))) + ((v_31 σ x2) * (v_6 σ (σ.1 22 x2.toNatClampNeg) x3))))).1 (25 + x3.toNatClampNeg) x2.toNatClampNeg) (((σ.1 (25 + x3.toNatClampNeg) x2.toNatClampNeg) + ((v_30 σ x2) * (v_6 σ (σ.1 21 x2.toNatClampNeg) x3))) + ((v_31 σ x2) * (v_6 σ (σ.1 22 x2.toNatClampNeg) x3))))) x2 (x3 + 1))))))))))))))))
set_option maxRecDepth 20000 in
theorem t_4_2 (L : Nat) : ∀ (n : Nat) (σ : am_M) (x2 : Int32) (x3 : Int32) (o4 : Option am_V), q_4_2 n σ x2 x3 → am_r L 4 2 [some (.inr (.inr (20, none))), some (.inr (.inr (2, none))), some (.inl x2), some (.inl x3), o4] [] σ = some (none, am_sh0 L, (l_4_2 n σ x2 x3)) := by
  intro n
  induction n with
  | zero => intro σ x2 x3 o4 h; exact h.elim
  | succ n ih =>
    intro σ x2 x3 o4 h
    unfold q_4_2 at h
    unfold l_4_2
    refine (e_4_2 _ _ _ _ _).trans ?_
    refine am_fkVm (fun hc79 => ?_) (fun hc79 => ?_)
    · refine (if_neg ((h hc79).1)).trans ?_
      refine (if_neg ((h hc79).2.1)).trans ?_
      refine (am_bind_i (s_30 L σ x2 ((h hc79).2.2.1))).trans ?_
      refine (e_4_20 _ _ _ _ _ _ _).trans ?_
      refine (if_neg ((h hc79).2.2.2.1)).trans ?_
      refine (am_bind_i (s_6 L σ (σ.1 21 x2.toNatClampNeg) x3)).trans ?_
      refine (e_4_30 _ _ _ _ _ _ _ _).trans ?_
      refine (am_bind_i (s_31 L σ x2 ((h hc79).2.2.2.2.1))).trans ?_
      refine (e_4_37 _ _ _ _ _ _ _).trans ?_
      refine (if_neg ((h hc79).2.2.2.2.2.1)).trans ?_
      refine (am_bind_i (s_6 L σ (σ.1 22 x2.toNatClampNeg) x3)).trans ?_
      refine (e_4_47 _ _ _ _ _ _ _ _).trans ?_
      refine (if_neg ((h hc79).2.2.2.2.2.2.1)).trans ?_
      refine (if_neg ((h hc79).2.2.2.2.2.2.2.1)).trans ?_
      refine (if_neg ((h hc79).2.2.2.2.2.2.2.2.1)).trans ?_
      refine (am_bind_i (s_121 L σ (σ.1 (25 + x3.toNatClampNeg) x2.toNatClampNeg) (((σ.1 (25 + x3.toNatClampNeg) x2.toNatClampNeg) + ((v_30 σ x2) * (v_6 σ (σ.1 21 x2.toNatClampNeg) x3))) + ((v_31 σ x2) * (v_6 σ (σ.1 22 x2.toNatClampNeg) x3))))).trans ?_
      refine (e_4_71 _ _ _ _ _ _ _ _).trans ?_
      refine (if_neg ((h hc79).2.2.2.2.2.2.2.2.2.1)).trans ?_
      refine (if_neg ((h hc79).2.2.2.2.2.2.2.2.2.2.1)).trans ?_
      refine (if_neg ((h hc79).2.2.2.2.2.2.2.2.2.2.2.1)).trans ?_
      refine (if_neg ((h hc79).2.2.2.2.2.2.2.2.2.2.2.2.1)).trans ?_
      refine (am_bind_i (s_120 L (am_put σ (29 + x3.toNatClampNeg) x2.toNatClampNeg (v_121 σ (σ.1 (25 + x3.toNatClampNeg) x2.toNatClampNeg) (((σ.1 (25 + x3.toNatClampNeg) x2.toNatClampNeg) + ((v_30 σ x2) * (v_6 σ (σ.1 21 x2.toNatClampNeg) x3))) + ((v_31 σ x2) * (v_6 σ (σ.1 22 x2.toNatClampNeg) x3))))) ((am_put σ (29 + x3.toNatClampNeg) x2.toNatClampNeg (v_121 σ (σ.1 (25 + x3.toNatClampNeg) x2.toNatClampNeg) (((σ.1 (25 + x3.toNatClampNeg) x2.toNatClampNeg) + ((v_30 σ x2) * (v_6 σ (σ.1 21 x2.toNatClampNeg) x3))) + ((v_31 σ x2) * (v_6 σ (σ.1 22 x2.toNatClampNeg) x3))))).1 (25 + x3.toNatClampNeg) x2.toNatClampNeg) (((σ.1 (25 + x3.toNatClampNeg) x2.toNatClampNeg) + ((v_30 σ x2) * (v_6 σ (σ.1 21 x2.toNatClampNeg) x3))) + ((v_31 σ x2) * (v_6 σ (σ.1 22 x2.toNatClampNeg) x3))))).trans ?_
      refine (e_4_92 _ _ _ _ _ _ _ _).trans ?_
      refine (if_neg ((h hc79).2.2.2.2.2.2.2.2.2.2.2.2.2.1)).trans ?_
      exact ih (am_put (am_put σ (29 + x3.toNatClampNeg) x2.toNatClampNeg (v_121 σ (σ.1 (25 + x3.toNatClampNeg) x2.toNatClampNeg) (((σ.1 (25 + x3.toNatClampNeg) x2.toNatClampNeg) + ((v_30 σ x2) * (v_6 σ (σ.1 21 x2.toNatClampNeg) x3))) + ((v_31 σ x2) * (v_6 σ (σ.1 22 x2.toNatClampNeg) x3))))) (33 + x3.toNatClampNeg) x2.toNatClampNeg (v_120 (am_put σ (29 + x3.toNatClampNeg) x2.toNatClampNeg (v_121 σ (σ.1 (25 + x3.toNatClampNeg) x2.toNatClampNeg) (((σ.1 (25 + x3.toNatClampNeg) x2.toNatClampNeg) + ((v_30 σ x2) * (v_6 σ (σ.1 21 x2.toNatClampNeg) x3))) + ((v_31 σ x2) * (v_6 σ (σ.1 22 x2.toNatClampNeg) x3))))) ((am_put σ (29 + x3.toNatClampNeg) x2.toNatClampNeg (v_121 σ (σ.1 (25 + x3.toNatClampNeg) x2.toNatClampNeg) (((σ.1 (25 + x3.toNatClampNeg) x2.toNatClampNeg) + ((v_30 σ x2) * (v_6 σ (σ.1 21 x2.toNatClampNeg) x3))) + ((v_31 σ x2) * (v_6 σ (σ.1 22 x2.toNatClampNeg) x3))))).1 (25 + x3.toNatClampNeg) x2.toNatClampNeg) (((σ.1 (25 + x3.toNatClampNeg) x2.toNatClampNeg) + ((v_30 σ x2) * (v_6 σ (σ.1 21 x2.toNatClampNeg) x3))) + ((v_31 σ x2) * (v_6 σ (σ.1 22 x2.toNatClampNeg) x3))))) x2 (x3 + 1) (some (.inl (((σ.1 (25 + x3.toNatClampNeg) x2.toNatClampNeg) + ((v_30 σ x2) * (v_6 σ (σ.1 21 x2.toNatClampNeg) x3))) + ((v_31 σ x2) * (v_6 σ (σ.1 22 x2.toNatClampNeg) x3))))) ((h hc79).2.2.2.2.2.2.2.2.2.2.2.2.2.2)
    · refine (e_4_99 _ _ _ _ _).trans ?_
      rfl
def p_4 (σ : am_M) (x2 : Int32) : Prop := q_4_2 14 σ x2 0
def f_4 (σ : am_M) (x2 : Int32) : am_M := (l_4_2 14 σ x2 0)
set_option maxRecDepth 20000 in
theorem sf_4 (L : Nat) (σ : am_M) (x2 : Int32) (h : p_4 σ x2) : am_r L 4 0 [some (.inr (.inr (20, none))), some (.inr (.inr (2, none))), some (.inl x2), none, none] [] σ = some (none, am_sh0 L, (f_4 σ x2)) := by
  unfold p_4 at h
  unfold f_4
  refine (e_4_0 _ _ _).trans ?_
  exact t_4_2 L 14 σ x2 0 none h
def w_4 (σ : am_M) (x2 : Int32) : am_M := f_4 σ x2
theorem s_4 (L : Nat) (σ : am_M) (x2 : Int32) (h : p_4 σ x2) : am_r L 4 0 [some (.inr (.inr (20, none))), some (.inr (.inr (2, none))), some (.inl x2), none, none] [] σ = some (none, am_sh0 L, w_4 σ x2) := sf_4 L σ x2 h
-- 1: X0_foldAll
def l_1_45 : Nat → am_M → Int32 → Int32 → am_M
  | 0, σ, x2, x3 => σ
  | n + 1, σ, x2, x3 => (if x3 < (σ.1 2 0) then (if 0 < x3 then (l_1_45 n (w_4 (w_3 (w_2 σ x3 (if ((x2 >>> (x3 &&& (31 : Int32))) &&& (1 : Int32)) = 1 then (1 : Int32) else 0)) x3) x3) x2 (x3 + 1)) else (l_1_45 n (w_4 σ x3) x2 (x3 + 1))) else σ)
def q_1_45 : Nat → am_M → Int32 → Int32 → Prop
  | 0, _, _, _ => False
  | n + 1, σ, x2, x3 => (x3 < (σ.1 2 0)) → (((0 < x3) → ((p_2 σ x3 (if ((x2 >>> (x3 &&& (31 : Int32))) &&& (1 : Int32)) = 1 then (1 : Int32) else 0)) ∧ ((p_3 (w_2 σ x3 (if ((x2 >>> (x3 &&& (31 : Int32))) &&& (1 : Int32)) = 1 then (1 : Int32) else 0)) x3) ∧ ((p_4 (w_3 (w_2 σ x3 (if ((x2 >>> (x3 &&& (31 : Int32))) &&& (1 : Int32)) = 1 then (1 : Int32) else 0)) x3) x3) ∧ (q_1_45 n (w_4 (w_3 (w_2 σ x3 (if ((x2 >>> (x3 &&& (31 : Int32))) &&& (1 : Int32)) = 1 then (1 : Int32) else 0)) x3) x3) x2 (x3 + 1)))))) ∧ (¬ (0 < x3) → ((p_4 σ x3) ∧ (q_1_45 n (w_4 σ x3) x2 (x3 + 1)))))
set_option maxRecDepth 20000 in
theorem t_1_45 (L : Nat) : ∀ (n : Nat) (σ : am_M) (x2 : Int32) (x3 : Int32), q_1_45 n σ x2 x3 → am_r L 1 45 [some (.inr (.inr (20, none))), some (.inr (.inr (2, none))), some (.inl x2), some (.inl x3)] [] σ = some (none, am_sh0 L, (l_1_45 n σ x2 x3)) := by
  intro n
  induction n with
  | zero => intro σ x2 x3 h; exact h.elim
  | succ n ih =>
    intro σ x2 x3 h
    unfold q_1_45 at h
    unfold l_1_45
    refine (e_1_45 _ _ _ _).trans ?_
    refine am_fkVm (fun hc80 => ?_) (fun hc80 => ?_)
    · refine am_fkVm (fun hc81 => ?_) (fun hc81 => ?_)
      · refine Eq.trans (b := am_r L 1 74 [some (.inr (.inr (20, none))), some (.inr (.inr (2, none))), some (.inl x2), some (.inl x3)] [.inl (if ((x2 >>> (x3 &&& (31 : Int32))) &&& (1 : Int32)) = 1 then (1 : Int32) else 0), .inl x3, .inr (.inr (2, none)), .inr (.inr (20, none))] σ) ?_ ?_
        · by_cases hc82 : ((x2 >>> (x3 &&& (31 : Int32))) &&& (1 : Int32)) = 1
          · refine (if_pos hc82).trans ?_
            refine Eq.trans (b := am_r L 1 74 [some (.inr (.inr (20, none))), some (.inr (.inr (2, none))), some (.inl x2), some (.inl x3)] [.inl 1, .inl x3, .inr (.inr (2, none)), .inr (.inr (20, none))] σ) ?_ ?_
            · rfl
            · first | with_reducible rfl | simp only [if_pos hc82]
          · refine (if_neg hc82).trans ?_
            refine Eq.trans (b := am_r L 1 74 [some (.inr (.inr (20, none))), some (.inr (.inr (2, none))), some (.inl x2), some (.inl x3)] [.inl 0, .inl x3, .inr (.inr (2, none)), .inr (.inr (20, none))] σ) ?_ ?_
            · refine (e_1_73 _ _ _ _ _).trans ?_
              rfl
            · first | with_reducible rfl | simp only [if_neg hc82]
        refine (e_1_74 _ _ _ _ _ _).trans ?_
        refine (am_bind_v (s_2 L σ x3 (if ((x2 >>> (x3 &&& (31 : Int32))) &&& (1 : Int32)) = 1 then (1 : Int32) else 0) (((h hc80).1 hc81).1))).trans ?_
        refine (e_1_77 _ _ _ _).trans ?_
        refine (am_bind_v (s_3 L (w_2 σ x3 (if ((x2 >>> (x3 &&& (31 : Int32))) &&& (1 : Int32)) = 1 then (1 : Int32) else 0)) x3 (((h hc80).1 hc81).2.1))).trans ?_
        refine (e_1_83 _ _ _ _).trans ?_
        refine (am_bind_v (s_4 L (w_3 (w_2 σ x3 (if ((x2 >>> (x3 &&& (31 : Int32))) &&& (1 : Int32)) = 1 then (1 : Int32) else 0)) x3) x3 (((h hc80).1 hc81).2.2.1))).trans ?_
        refine (e_1_89 _ _ _ _).trans ?_
        exact ih (w_4 (w_3 (w_2 σ x3 (if ((x2 >>> (x3 &&& (31 : Int32))) &&& (1 : Int32)) = 1 then (1 : Int32) else 0)) x3) x3) x2 (x3 + 1) (((h hc80).1 hc81).2.2.2)
      · refine (e_1_83 _ _ _ _).trans ?_
        refine (am_bind_v (s_4 L σ x3 (((h hc80).2 hc81).1))).trans ?_
        refine (e_1_89 _ _ _ _).trans ?_
        exact ih (w_4 σ x3) x2 (x3 + 1) (((h hc80).2 hc81).2)
    · refine (e_1_95 _ _ _ _).trans ?_
      rfl
def l_1_23 : Nat → am_M → Int32 → Int32 → am_M
  | 0, σ, x2, x3 => σ
  | n + 1, σ, x2, x3 => (if x3 < 3 then (l_1_23 n (am_put σ (25 + x3.toNatClampNeg) 0 0) x2 (x3 + 1)) else (l_1_45 14 σ x2 0))
def q_1_23 : Nat → am_M → Int32 → Int32 → Prop
  | 0, _, _, _ => False
  | n + 1, σ, x2, x3 => ((x3 < 3) → ((¬ (x3 < 0 ∨ 3 ≤ x3.toNatClampNeg)) ∧ (q_1_23 n (am_put σ (25 + x3.toNatClampNeg) 0 0) x2 (x3 + 1)))) ∧ (¬ (x3 < 3) → (q_1_45 14 σ x2 0))
set_option maxRecDepth 20000 in
theorem t_1_23 (L : Nat) : ∀ (n : Nat) (σ : am_M) (x2 : Int32) (x3 : Int32), q_1_23 n σ x2 x3 → am_r L 1 23 [some (.inr (.inr (20, none))), some (.inr (.inr (2, none))), some (.inl x2), some (.inl x3)] [] σ = some (none, am_sh0 L, (l_1_23 n σ x2 x3)) := by
  intro n
  induction n with
  | zero => intro σ x2 x3 h; exact h.elim
  | succ n ih =>
    intro σ x2 x3 h
    unfold q_1_23 at h
    unfold l_1_23
    refine (e_1_23 _ _ _ _).trans ?_
    refine am_fkVm (fun hc83 => ?_) (fun hc83 => ?_)
    · refine (if_neg ((h.1 hc83).1)).trans ?_
      refine (if_neg (by decide)).trans ?_
      exact ih (am_put σ (25 + x3.toNatClampNeg) 0 0) x2 (x3 + 1) ((h.1 hc83).2)
    · refine (e_1_43 _ _ _ _).trans ?_
      exact t_1_45 L 14 σ x2 0 ((h.2 hc83))
def p_1 (σ : am_M) (x2 : Int32) : Prop := q_1_23 14 (am_put (am_put (am_put σ 21 0 1) 22 0 2) 23 0 3) x2 0
def f_1 (σ : am_M) (x2 : Int32) : am_M := (l_1_23 14 (am_put (am_put (am_put σ 21 0 1) 22 0 2) 23 0 3) x2 0)
set_option maxRecDepth 20000 in
theorem sf_1 (L : Nat) (σ : am_M) (x2 : Int32) (h : p_1 σ x2) : am_r L 1 0 [some (.inr (.inr (20, none))), some (.inr (.inr (2, none))), some (.inl x2), none] [] σ = some (none, am_sh0 L, (f_1 σ x2)) := by
  unfold p_1 at h
  unfold f_1
  refine (e_1_0 _ _ _).trans ?_
  refine (if_neg (by decide)).trans ?_
  refine (if_neg (by decide)).trans ?_
  refine (if_neg (by decide)).trans ?_
  exact t_1_23 L 14 (am_put (am_put (am_put σ 21 0 1) 22 0 2) 23 0 3) x2 0 h
def w_1 (σ : am_M) (x2 : Int32) : am_M := f_1 σ x2
theorem s_1 (L : Nat) (σ : am_M) (x2 : Int32) (h : p_1 σ x2) : am_r L 1 0 [some (.inr (.inr (20, none))), some (.inr (.inr (2, none))), some (.inl x2), none] [] σ = some (none, am_sh0 L, w_1 σ x2) := sf_1 L σ x2 h
