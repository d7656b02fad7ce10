-- 63: X4_order
def p_63 (σ : am_M) : Prop := ¬ ((σ.1 2 0) = 0) → (p_72 σ)
def v_63 (σ : am_M) : Int32 := (if (σ.1 2 0) = 0 then (-1) else (if ((w_72 σ).1 49 0) = (-1) then ((-1) : Int32) else (((w_72 σ).1 2 0) - 1)))
def w_63 (σ : am_M) : am_M := (if (σ.1 2 0) = 0 then σ else (w_72 σ))
set_option maxRecDepth 20000 in
theorem s_63 (L : Nat) (σ : am_M) (h : p_63 σ) : am_r L 63 0 [some (.inr (.inr (1, none)))] [] σ = some (some (.inl (v_63 σ)), am_sh0 L, w_63 σ) := by
  unfold p_63 at h
  unfold v_63 w_63
  refine (e_63_0 _ _).trans ?_
  refine am_fkIvm (fun hc166 => ?_) (fun hc166 => ?_)
  · rfl
  · refine (e_63_12 _ _).trans ?_
    refine (am_bind_v (s_72 L σ ((h hc166)))).trans ?_
    refine (e_63_16 _ _).trans ?_
    refine (if_neg (by decide)).trans ?_
    refine Eq.trans (b := am_r L 63 39 [some (.inr (.inr (1, none)))] [.inl (if ((w_72 σ).1 49 0) = (-1) then ((-1) : Int32) else (((w_72 σ).1 2 0) - 1))] (w_72 σ)) ?_ ?_
    · by_cases hc167 : ((w_72 σ).1 49 0) = (-1)
      · refine (if_pos hc167).trans ?_
        refine Eq.trans (b := am_r L 63 39 [some (.inr (.inr (1, none)))] [.inl (-1)] (w_72 σ)) ?_ ?_
        · rfl
        · first | with_reducible rfl | simp only [if_pos hc167]
      · refine (if_neg hc167).trans ?_
        refine Eq.trans (b := am_r L 63 39 [some (.inr (.inr (1, none)))] [.inl (((w_72 σ).1 2 0) - 1)] (w_72 σ)) ?_ ?_
        · refine (e_63_30 _ _).trans ?_
          rfl
        · first | with_reducible rfl | simp only [if_neg hc167]
    refine (e_63_39 _ _ _).trans ?_
    rfl
-- 64: X4_step
def l_64_45 : Nat → am_M → Int32 → Int32 → Int32 → Int32 → Int32 × am_M
  | 0, σ, x1, x2, x3, x4 => (0, σ)
  | n + 1, σ, x1, x2, x3, x4 => (if x4 < x1 then (if x3 = (-1) then (x3, σ) else (l_64_45 n σ x1 (x2 ||| ((1 : Int32) <<< (x3 &&& (31 : Int32)))) (σ.1 49 ((((x2 ||| ((1 : Int32) <<< (x3 &&& (31 : Int32)))) >>> ((1 : Int32) &&& (31 : Int32)))).toNatClampNeg)) (x4 + 1))) else (x3, σ))
def q_64_45 : Nat → am_M → Int32 → Int32 → Int32 → Int32 → Prop
  | 0, _, _, _, _, _ => False
  | n + 1, σ, x1, x2, x3, x4 => (x4 < x1) → (¬ (x3 = (-1)) → ((¬ (((x2 ||| ((1 : Int32) <<< (x3 &&& (31 : Int32)))) >>> ((1 : Int32) &&& (31 : Int32))) < 0 ∨ 4096 ≤ (((x2 ||| ((1 : Int32) <<< (x3 &&& (31 : Int32)))) >>> ((1 : Int32) &&& (31 : Int32)))).toNatClampNeg)) ∧ (q_64_45 n σ x1 (x2 ||| ((1 : Int32) <<< (x3 &&& (31 : Int32)))) (σ.1 49 ((((x2 ||| ((1 : Int32) <<< (x3 &&& (31 : Int32)))) >>> ((1 : Int32) &&& (31 : Int32)))).toNatClampNeg)) (x4 + 1))))
set_option maxRecDepth 20000 in
theorem t_64_45 (L : Nat) : ∀ (n : Nat) (σ : am_M) (x1 : Int32) (x2 : Int32) (x3 : Int32) (x4 : Int32), q_64_45 n σ x1 x2 x3 x4 → am_r L 64 45 [some (.inr (.inr (1, none))), some (.inl x1), some (.inl x2), some (.inl x3), some (.inl x4)] [] σ = some (some (.inl (l_64_45 n σ x1 x2 x3 x4).1), am_sh0 L, (l_64_45 n σ x1 x2 x3 x4).2) := by
  intro n
  induction n with
  | zero => intro σ x1 x2 x3 x4 h; exact h.elim
  | succ n ih =>
    intro σ x1 x2 x3 x4 h
    unfold q_64_45 at h
    unfold l_64_45
    refine (e_64_45 _ _ _ _ _ _).trans ?_
    refine am_fkPI (fun hc168 => ?_) (fun hc168 => ?_)
    · refine am_fkPI (fun hc169 => ?_) (fun hc169 => ?_)
      · refine (e_64_77 _ _ _ _ _ _).trans ?_
        rfl
      · refine (if_neg (((h hc168) hc169).1)).trans ?_
        exact ih σ x1 (x2 ||| ((1 : Int32) <<< (x3 &&& (31 : Int32)))) (σ.1 49 ((((x2 ||| ((1 : Int32) <<< (x3 &&& (31 : Int32)))) >>> ((1 : Int32) &&& (31 : Int32)))).toNatClampNeg)) (x4 + 1) (((h hc168) hc169).2)
    · refine (e_64_77 _ _ _ _ _ _).trans ?_
      rfl
def p_64 (σ : am_M) (x1 : Int32) : Prop := ¬ ((σ.1 2 0) = 0) → (¬ ((v_67 σ x1 0 ((σ.1 2 0) - 2)) = 0) → ((p_72 σ) ∧ (q_64_45 14 (w_72 σ) x1 0 ((w_72 σ).1 49 0) 0)))
def f_64 (σ : am_M) (x1 : Int32) : Int32 × am_M := (if (σ.1 2 0) = 0 then ((-1), σ) else (if (v_67 σ x1 0 ((σ.1 2 0) - 2)) = 0 then ((-1), σ) else (l_64_45 14 (w_72 σ) x1 0 ((w_72 σ).1 49 0) 0)))
set_option maxRecDepth 20000 in
theorem sf_64 (L : Nat) (σ : am_M) (x1 : Int32) (h : p_64 σ x1) : am_r L 64 0 [some (.inr (.inr (1, none))), some (.inl x1), none, none, none] [] σ = some (some (.inl (f_64 σ x1).1), am_sh0 L, (f_64 σ x1).2) := by
  unfold p_64 at h
  unfold f_64
  refine (e_64_0 _ _ _).trans ?_
  refine am_fkPI (fun hc170 => ?_) (fun hc170 => ?_)
  · refine (e_64_27 _ _ _).trans ?_
    rfl
  · refine (am_bind_i (s_67 L σ x1 0 ((σ.1 2 0) - 2))).trans ?_
    refine (e_64_24 _ _ _ _).trans ?_
    refine am_fkPI (fun hc171 => ?_) (fun hc171 => ?_)
    · refine (e_64_27 _ _ _).trans ?_
      rfl
    · refine (e_64_29 _ _ _).trans ?_
      refine (am_bind_v (s_72 L σ (((h hc170) hc171).1))).trans ?_
      refine (e_64_33 _ _ _).trans ?_
      refine (if_neg (by decide)).trans ?_
      exact t_64_45 L 14 (w_72 σ) x1 0 ((w_72 σ).1 49 0) 0 (((h hc170) hc171).2)
def v_64 (σ : am_M) (x1 : Int32) : Int32 := (f_64 σ x1).1
def w_64 (σ : am_M) (x1 : Int32) : am_M := (f_64 σ x1).2
theorem s_64 (L : Nat) (σ : am_M) (x1 : Int32) (h : p_64 σ x1) : am_r L 64 0 [some (.inr (.inr (1, none))), some (.inl x1), none, none, none] [] σ = some (some (.inl (v_64 σ x1)), am_sh0 L, w_64 σ x1) := sf_64 L σ x1 h
-- 65: X4_count
def l_65_45 : Nat → am_M → Int32 → Int32 → Int32 → Int32 × am_M
  | 0, σ, x1, x2, x3 => (0, σ)
  | n + 1, σ, x1, x2, x3 => (if x3 < 0 then (x2, σ) else (l_65_45 n σ x1 (if (σ.1 49 (((x3 >>> ((1 : Int32) &&& (31 : Int32)))).toNatClampNeg)) = (-1) then (x2 : Int32) else (x2 + 1)) (x3 + (-2))))
def q_65_45 : Nat → am_M → Int32 → Int32 → Int32 → Prop
  | 0, _, _, _, _ => False
  | n + 1, σ, x1, x2, x3 => ¬ (x3 < 0) → ((¬ ((x3 >>> ((1 : Int32) &&& (31 : Int32))) < 0 ∨ 4096 ≤ ((x3 >>> ((1 : Int32) &&& (31 : Int32)))).toNatClampNeg)) ∧ (q_65_45 n σ x1 (if (σ.1 49 (((x3 >>> ((1 : Int32) &&& (31 : Int32)))).toNatClampNeg)) = (-1) then (x2 : Int32) else (x2 + 1)) (x3 + (-2))))
set_option maxRecDepth 20000 in
theorem t_65_45 (L : Nat) : ∀ (n : Nat) (σ : am_M) (x1 : Int32) (x2 : Int32) (x3 : Int32), q_65_45 n σ x1 x2 x3 → am_r L 65 45 [some (.inr (.inr (1, none))), some (.inl x1), some (.inl x2), some (.inl x3)] [] σ = some (some (.inl (l_65_45 n σ x1 x2 x3).1), am_sh0 L, (l_65_45 n σ x1 x2 x3).2) := by
  intro n
  induction n with
  | zero => intro σ x1 x2 x3 h; exact h.elim
  | succ n ih =>
    intro σ x1 x2 x3 h
    unfold q_65_45 at h
    unfold l_65_45
    refine (e_65_45 _ _ _ _ _).trans ?_
    refine am_fkPI (fun hc172 => ?_) (fun hc172 => ?_)
    · refine (e_65_70 _ _ _ _ _).trans ?_
      rfl
    · refine (if_neg ((h hc172).1)).trans ?_
      refine Eq.trans (b := am_r L 65 64 [some (.inr (.inr (1, none))), some (.inl x1), some (.inl (if (σ.1 49 (((x3 >>> ((1 : Int32) &&& (31 : Int32)))).toNatClampNeg)) = (-1) then (x2 : Int32) else (x2 + 1))), some (.inl x3)] [] σ) ?_ ?_
      · by_cases hc173 : (σ.1 49 (((x3 >>> ((1 : Int32) &&& (31 : Int32)))).toNatClampNeg)) = (-1)
        · refine (if_pos hc173).trans ?_
          refine Eq.trans (b := am_r L 65 64 [some (.inr (.inr (1, none))), some (.inl x1), some (.inl x2), some (.inl x3)] [] σ) ?_ ?_
          · rfl
          · first | with_reducible rfl | simp only [if_pos hc173]
        · refine (if_neg hc173).trans ?_
          refine Eq.trans (b := am_r L 65 64 [some (.inr (.inr (1, none))), some (.inl x1), some (.inl (x2 + 1)), some (.inl x3)] [] σ) ?_ ?_
          · rfl
          · first | with_reducible rfl | simp only [if_neg hc173]
      refine (e_65_64 _ _ _ _ _).trans ?_
      exact ih σ x1 (if (σ.1 49 (((x3 >>> ((1 : Int32) &&& (31 : Int32)))).toNatClampNeg)) = (-1) then (x2 : Int32) else (x2 + 1)) (x3 + (-2)) ((h hc172).2)
def p_65 (σ : am_M) (x1 : Int32) : Prop := ¬ (x1 = 0) → ((x1 = 1) → (¬ ((σ.1 2 0) = 0) → ((p_72 σ) ∧ (q_65_45 4097 (w_72 σ) x1 0 (v_28 (w_72 σ))))))
def f_65 (σ : am_M) (x1 : Int32) : Int32 × am_M := (if x1 = 0 then ((σ.1 2 0), σ) else (if x1 = 1 then (if (σ.1 2 0) = 0 then (0, σ) else (l_65_45 4097 (w_72 σ) x1 0 (v_28 (w_72 σ)))) else ((-1), σ)))
set_option maxRecDepth 20000 in
theorem sf_65 (L : Nat) (σ : am_M) (x1 : Int32) (h : p_65 σ x1) : am_r L 65 0 [some (.inr (.inr (1, none))), some (.inl x1), none, none] [] σ = some (some (.inl (f_65 σ x1).1), am_sh0 L, (f_65 σ x1).2) := by
  unfold p_65 at h
  unfold f_65
  refine (e_65_0 _ _ _).trans ?_
  refine am_fkPI (fun hc174 => ?_) (fun hc174 => ?_)
  · rfl
  · refine (e_65_12 _ _ _).trans ?_
    refine am_fkPI (fun hc175 => ?_) (fun hc175 => ?_)
    · refine (e_65_19 _ _ _).trans ?_
      refine am_fkPI (fun hc176 => ?_) (fun hc176 => ?_)
      · rfl
      · refine (e_65_31 _ _ _).trans ?_
        refine (am_bind_v (s_72 L σ ((((h hc174) hc175) hc176).1))).trans ?_
        refine (e_65_35 _ _ _).trans ?_
        refine (am_bind_i (s_28 L (w_72 σ))).trans ?_
        refine (e_65_44 _ _ _ _ _).trans ?_
        exact t_65_45 L 4097 (w_72 σ) x1 0 (v_28 (w_72 σ)) ((((h hc174) hc175) hc176).2)
    · rfl
def v_65 (σ : am_M) (x1 : Int32) : Int32 := (f_65 σ x1).1
def w_65 (σ : am_M) (x1 : Int32) : am_M := (f_65 σ x1).2
theorem s_65 (L : Nat) (σ : am_M) (x1 : Int32) (h : p_65 σ x1) : am_r L 65 0 [some (.inr (.inr (1, none))), some (.inl x1), none, none] [] σ = some (some (.inl (v_65 σ x1)), am_sh0 L, w_65 σ x1) := sf_65 L σ x1 h
-- 11: X0_spanAlong
def p_11 (σ : am_M) (x1 : Int32) (x2 : Int32) : Prop := (¬ ((v_7 σ x2) < 0 ∨ 3 ≤ ((v_7 σ x2)).toNatClampNeg)) ∧ ((¬ (x1 < 0 ∨ 13 ≤ x1.toNatClampNeg)) ∧ ((¬ ((v_7 σ x2) < 0 ∨ 3 ≤ ((v_7 σ x2)).toNatClampNeg)) ∧ (¬ (x1 < 0 ∨ 13 ≤ x1.toNatClampNeg))))
def v_11 (σ : am_M) (x1 : Int32) (x2 : Int32) : Int32 := ((σ.1 (33 + ((v_7 σ x2)).toNatClampNeg) x1.toNatClampNeg) - (σ.1 (29 + ((v_7 σ x2)).toNatClampNeg) x1.toNatClampNeg))
set_option maxRecDepth 20000 in
theorem s_11 (L : Nat) (σ : am_M) (x1 : Int32) (x2 : Int32) (h : p_11 σ x1 x2) : am_r L 11 0 [some (.inr (.inr (20, none))), some (.inl x1), some (.inl x2), none] [] σ = some (some (.inl (v_11 σ x1 x2)), am_sh0 L, σ) := by
  unfold p_11 at h
  unfold v_11
  refine (e_11_0 _ _ _ _).trans ?_
  refine (am_bind_i (s_7 L σ x2)).trans ?_
  refine (e_11_4 _ _ _ _ _).trans ?_
  refine (if_neg h.1).trans ?_
  refine (if_neg h.2.1).trans ?_
  refine (if_neg h.2.2.1).trans ?_
  refine (if_neg h.2.2.2).trans ?_
  rfl
-- 15: X0_isBendShared
def l_15_75 : Nat → am_M → Int32 → Int32 → Int32 → Int32 → Int32 → Int32 → Int32 → Int32 → Int32
  | 0, _, _, _, _, _, _, _, _, _ => 0
  | n + 1, σ, x2, x3, x4, x5, x6, x7, x8, x9 => (if x9 < 3 then (if (v_5 σ x2 x5 x6 x9) = (v_5 σ x3 x5 x6 x9) then (if (v_5 σ x2 x7 x8 x9) = (v_5 σ x3 x7 x8 x9) then (l_15_75 n σ x2 x3 x4 x5 x6 x7 x8 (x9 + 1)) else 0) else 0) else 1)
def q_15_75 : Nat → am_M → Int32 → Int32 → Int32 → Int32 → Int32 → Int32 → Int32 → Int32 → Prop
  | 0, _, _, _, _, _, _, _, _, _ => False
  | n + 1, σ, x2, x3, x4, x5, x6, x7, x8, x9 => (x9 < 3) → ((p_5 σ x2 x5 x6 x9) ∧ ((p_5 σ x3 x5 x6 x9) ∧ (((v_5 σ x2 x5 x6 x9) = (v_5 σ x3 x5 x6 x9)) → ((p_5 σ x2 x7 x8 x9) ∧ ((p_5 σ x3 x7 x8 x9) ∧ (((v_5 σ x2 x7 x8 x9) = (v_5 σ x3 x7 x8 x9)) → (q_15_75 n σ x2 x3 x4 x5 x6 x7 x8 (x9 + 1))))))))
set_option maxRecDepth 20000 in
theorem t_15_75 (L : Nat) (σ : am_M) : ∀ (n : Nat) (x2 : Int32) (x3 : Int32) (x4 : Int32) (x5 : Int32) (x6 : Int32) (x7 : Int32) (x8 : Int32) (x9 : Int32), q_15_75 n σ x2 x3 x4 x5 x6 x7 x8 x9 → am_r L 15 75 [some (.inr (.inr (20, none))), some (.inr (.inr (2, none))), some (.inl x2), some (.inl x3), some (.inl x4), some (.inl x5), some (.inl x6), some (.inl x7), some (.inl x8), some (.inl x9)] [] σ = some (some (.inl (l_15_75 n σ x2 x3 x4 x5 x6 x7 x8 x9)), am_sh0 L, σ) := by
  intro n
  induction n with
  | zero => intro x2 x3 x4 x5 x6 x7 x8 x9 h; exact h.elim
  | succ n ih =>
    intro x2 x3 x4 x5 x6 x7 x8 x9 h
    unfold q_15_75 at h
    unfold l_15_75
    refine (e_15_75 _ _ _ _ _ _ _ _ _ _).trans ?_
    refine am_fkIv (fun hc177 => ?_) (fun hc177 => ?_)
    · refine (am_bind_i (s_5 L σ x2 x5 x6 x9 ((h hc177).1))).trans ?_
      refine (e_15_93 _ _ _ _ _ _ _ _ _ _ _).trans ?_
      refine (am_bind_i (s_5 L σ x3 x5 x6 x9 ((h hc177).2.1))).trans ?_
      refine (e_15_105 _ _ _ _ _ _ _ _ _ _ _ _).trans ?_
      refine am_fkIv (fun hc178 => ?_) (fun hc178 => ?_)
      · refine (am_bind_i (s_5 L σ x2 x7 x8 x9 (((h hc177).2.2 hc178).1))).trans ?_
        refine (e_15_120 _ _ _ _ _ _ _ _ _ _ _).trans ?_
        refine (am_bind_i (s_5 L σ x3 x7 x8 x9 (((h hc177).2.2 hc178).2.1))).trans ?_
        refine (e_15_132 _ _ _ _ _ _ _ _ _ _ _ _).trans ?_
        refine am_fkIv (fun hc179 => ?_) (fun hc179 => ?_)
        · refine (e_15_137 _ _ _ _ _ _ _ _ _ _).trans ?_
          exact ih x2 x3 x4 x5 x6 x7 x8 (x9 + 1) ((((h hc177).2.2 hc178).2.2 hc179))
        · refine (e_15_135 _ _ _ _ _ _ _ _ _ _).trans ?_
          refine (e_15_136 _ _ _ _ _ _ _ _ _ _ _).trans ?_
          rfl
      · refine (e_15_135 _ _ _ _ _ _ _ _ _ _).trans ?_
        refine (e_15_136 _ _ _ _ _ _ _ _ _ _ _).trans ?_
        rfl
    · refine (e_15_143 _ _ _ _ _ _ _ _ _ _).trans ?_
      refine (e_15_144 _ _ _ _ _ _ _ _ _ _ _).trans ?_
      rfl
def p_15 (σ : am_M) (x2 : Int32) : Prop := (¬ (x2 < 0 ∨ 13 ≤ x2.toNatClampNeg)) ∧ ((¬ (x2 < 0 ∨ 13 ≤ x2.toNatClampNeg)) ∧ ((p_36 σ x2) ∧ ((p_37 σ x2) ∧ ((((v_70 σ (σ.1 4 x2.toNatClampNeg)) = 0) → (¬ (x2 < 0 ∨ 13 ≤ x2.toNatClampNeg))) ∧ ((¬ ((v_70 σ (σ.1 4 x2.toNatClampNeg)) = 0) → (¬ (x2 < 0 ∨ 13 ≤ x2.toNatClampNeg))) ∧ (q_15_75 14 σ x2 (σ.1 3 x2.toNatClampNeg) (v_70 σ (σ.1 4 x2.toNatClampNeg)) (v_36 σ x2) (v_37 σ x2) (if (v_70 σ (σ.1 4 x2.toNatClampNeg)) = 0 then ((σ.1 8 x2.toNatClampNeg) : Int32) else (v_36 σ x2)) (if (v_70 σ (σ.1 4 x2.toNatClampNeg)) = 0 then ((v_37 σ x2) : Int32) else (σ.1 9 x2.toNatClampNeg)) 0))))))
def f_15 (σ : am_M) (x2 : Int32) : Int32 := (l_15_75 14 σ x2 (σ.1 3 x2.toNatClampNeg) (v_70 σ (σ.1 4 x2.toNatClampNeg)) (v_36 σ x2) (v_37 σ x2) (if (v_70 σ (σ.1 4 x2.toNatClampNeg)) = 0 then ((σ.1 8 x2.toNatClampNeg) : Int32) else (v_36 σ x2)) (if (v_70 σ (σ.1 4 x2.toNatClampNeg)) = 0 then ((v_37 σ x2) : Int32) else (σ.1 9 x2.toNatClampNeg)) 0)
set_option maxRecDepth 20000 in
theorem sf_15 (L : Nat) (σ : am_M) (x2 : Int32) (h : p_15 σ x2) : am_r L 15 0 [some (.inr (.inr (20, none))), some (.inr (.inr (2, none))), some (.inl x2), none, none, none, none, none, none, none] [] σ = some (some (.inl (f_15 σ x2)), am_sh0 L, σ) := by
  unfold p_15 at h
  unfold f_15
  refine (e_15_0 _ _ _).trans ?_
  refine (if_neg h.1).trans ?_
  refine (if_neg h.2.1).trans ?_
  refine (am_bind_i (s_70 L σ (σ.1 4 x2.toNatClampNeg))).trans ?_
  refine (e_15_16 _ _ _ _ _).trans ?_
  refine (am_bind_i (s_36 L σ x2 h.2.2.1)).trans ?_
  refine (e_15_23 _ _ _ _ _ _).trans ?_
  refine (am_bind_i (s_37 L σ x2 h.2.2.2.1)).trans ?_
  refine (e_15_30 _ _ _ _ _ _ _).trans ?_
  refine Eq.trans (b := am_r L 15 50 [some (.inr (.inr (20, none))), some (.inr (.inr (2, none))), some (.inl x2), some (.inl (σ.1 3 x2.toNatClampNeg)), some (.inl (v_70 σ (σ.1 4 x2.toNatClampNeg))), some (.inl (v_36 σ x2)), some (.inl (v_37 σ x2)), none, none, none] [.inl (if (v_70 σ (σ.1 4 x2.toNatClampNeg)) = 0 then ((σ.1 8 x2.toNatClampNeg) : Int32) else (v_36 σ x2))] σ) ?_ ?_
  · by_cases hc180 : (v_70 σ (σ.1 4 x2.toNatClampNeg)) = 0
    · refine (if_pos hc180).trans ?_
      refine Eq.trans (b := am_r L 15 50 [some (.inr (.inr (20, none))), some (.inr (.inr (2, none))), some (.inl x2), some (.inl (σ.1 3 x2.toNatClampNeg)), some (.inl (v_70 σ (σ.1 4 x2.toNatClampNeg))), some (.inl (v_36 σ x2)), some (.inl (v_37 σ x2)), none, none, none] [.inl (σ.1 8 x2.toNatClampNeg)] σ) ?_ ?_
      · refine (e_15_42 _ _ _ _ _ _ _).trans ?_
        refine (if_neg (by decide)).trans ?_
        refine (if_neg ((h.2.2.2.2.1 hc180))).trans ?_
        rfl
      · first | with_reducible rfl | simp only [if_pos hc180]
    · refine (if_neg hc180).trans ?_
      refine Eq.trans (b := am_r L 15 50 [some (.inr (.inr (20, none))), some (.inr (.inr (2, none))), some (.inl x2), some (.inl (σ.1 3 x2.toNatClampNeg)), some (.inl (v_70 σ (σ.1 4 x2.toNatClampNeg))), some (.inl (v_36 σ x2)), some (.inl (v_37 σ x2)), none, none, none] [.inl (v_36 σ x2)] σ) ?_ ?_
      · rfl
      · first | with_reducible rfl | simp only [if_neg hc180]
  refine (e_15_50 _ _ _ _ _ _ _ _).trans ?_
  refine Eq.trans (b := am_r L 15 70 [some (.inr (.inr (20, none))), some (.inr (.inr (2, none))), some (.inl x2), some (.inl (σ.1 3 x2.toNatClampNeg)), some (.inl (v_70 σ (σ.1 4 x2.toNatClampNeg))), some (.inl (v_36 σ x2)), some (.inl (v_37 σ x2)), some (.inl (if (v_70 σ (σ.1 4 x2.toNatClampNeg)) = 0 then ((σ.1 8 x2.toNatClampNeg) : Int32) else (v_36 σ x2))), none, none] [.inl (if (v_70 σ (σ.1 4 x2.toNatClampNeg)) = 0 then ((v_37 σ x2) : Int32) else (σ.1 9 x2.toNatClampNeg))] σ) ?_ ?_
  · by_cases hc181 : (v_70 σ (σ.1 4 x2.toNatClampNeg)) = 0
    · refine (if_pos hc181).trans ?_
      refine Eq.trans (b := am_r L 15 70 [some (.inr (.inr (20, none))), some (.inr (.inr (2, none))), some (.inl x2), some (.inl (σ.1 3 x2.toNatClampNeg)), some (.inl (v_70 σ (σ.1 4 x2.toNatClampNeg))), some (.inl (v_36 σ x2)), some (.inl (v_37 σ x2)), some (.inl (if (v_70 σ (σ.1 4 x2.toNatClampNeg)) = 0 then ((σ.1 8 x2.toNatClampNeg) : Int32) else (v_36 σ x2))), none, none] [.inl (v_37 σ x2)] σ) ?_ ?_
      · refine (e_15_68 _ _ _ _ _ _ _ _).trans ?_
        rfl
      · first | with_reducible rfl | simp only [if_pos hc181]
    · refine (if_neg hc181).trans ?_
      refine Eq.trans (b := am_r L 15 70 [some (.inr (.inr (20, none))), some (.inr (.inr (2, none))), some (.inl x2), some (.inl (σ.1 3 x2.toNatClampNeg)), some (.inl (v_70 σ (σ.1 4 x2.toNatClampNeg))), some (.inl (v_36 σ x2)), some (.inl (v_37 σ x2)), some (.inl (if (v_70 σ (σ.1 4 x2.toNatClampNeg)) = 0 then ((σ.1 8 x2.toNatClampNeg) : Int32) else (v_36 σ x2))), none, none] [.inl (σ.1 9 x2.toNatClampNeg)] σ) ?_ ?_
      · refine (if_neg (by decide)).trans ?_
        refine (if_neg ((h.2.2.2.2.2.1 hc181))).trans ?_
        rfl
      · first | with_reducible rfl | simp only [if_neg hc181]
  refine (e_15_70 _ _ _ _ _ _ _ _ _).trans ?_
  exact t_15_75 L σ 14 x2 (σ.1 3 x2.toNatClampNeg) (v_70 σ (σ.1 4 x2.toNatClampNeg)) (v_36 σ x2) (v_37 σ x2) (if (v_70 σ (σ.1 4 x2.toNatClampNeg)) = 0 then ((σ.1 8 x2.toNatClampNeg) : Int32) else (v_36 σ x2)) (if (v_70 σ (σ.1 4 x2.toNatClampNeg)) = 0 then ((v_37 σ x2) : Int32) else (σ.1 9 x2.toNatClampNeg)) 0 h.2.2.2.2.2.2
def v_15 (σ : am_M) (x2 : Int32) : Int32 := f_15 σ x2
theorem s_15 (L : Nat) (σ : am_M) (x2 : Int32) (h : p_15 σ x2) : am_r L 15 0 [some (.inr (.inr (20, none))), some (.inr (.inr (2, none))), some (.inl x2), none, none, none, none, none, none, none] [] σ = some (some (.inl (v_15 σ x2)), am_sh0 L, σ) := sf_15 L σ x2 h
-- 14: X0_isTrueTo
def l_14_2 : Nat → am_M → Int32 → Int32
  | 0, _, _ => 0
  | n + 1, σ, x2 => (if x2 < (σ.1 2 0) then (if (v_11 σ x2 (σ.1 21 x2.toNatClampNeg)) = (v_30 σ x2) then (if (v_11 σ x2 (σ.1 22 x2.toNatClampNeg)) = (v_31 σ x2) then (if (v_11 σ x2 (σ.1 23 x2.toNatClampNeg)) = 0 then (if 0 < x2 then (if (v_15 σ x2) = 0 then 0 else (l_14_2 n σ (x2 + 1))) else (l_14_2 n σ (x2 + 1))) else 0) else 0) else 0) else 1)
def q_14_2 : Nat → am_M → Int32 → Prop
  | 0, _, _ => False
  | n + 1, σ, x2 => (x2 < (σ.1 2 0)) → ((¬ (x2 < 0 ∨ 13 ≤ x2.toNatClampNeg)) ∧ ((p_11 σ x2 (σ.1 21 x2.toNatClampNeg)) ∧ ((p_30 σ x2) ∧ (((v_11 σ x2 (σ.1 21 x2.toNatClampNeg)) = (v_30 σ x2)) → ((¬ (x2 < 0 ∨ 13 ≤ x2.toNatClampNeg)) ∧ ((p_11 σ x2 (σ.1 22 x2.toNatClampNeg)) ∧ ((p_31 σ x2) ∧ (((v_11 σ x2 (σ.1 22 x2.toNatClampNeg)) = (v_31 σ x2)) → ((¬ (x2 < 0 ∨ 13 ≤ x2.toNatClampNeg)) ∧ ((p_11 σ x2 (σ.1 23 x2.toNatClampNeg)) ∧ (((v_11 σ x2 (σ.1 23 x2.toNatClampNeg)) = 0) → (((0 < x2) → ((p_15 σ x2) ∧ (¬ ((v_15 σ x2) = 0) → (q_14_2 n σ (x2 + 1))))) ∧ (¬ (0 < x2) → (q_14_2 n σ (x2 + 1)))))))))))))))
set_option maxRecDepth 20000 in
theorem t_14_2 (L : Nat) (σ : am_M) : ∀ (n : Nat) (x2 : Int32), q_14_2 n σ x2 → am_r L 14 2 [some (.inr (.inr (20, none))), some (.inr (.inr (2, none))), some (.inl x2)] [] σ = some (some (.inl (l_14_2 n σ x2)), am_sh0 L, σ) := by
  intro n
  induction n with
  | zero => intro x2 h; exact h.elim
  | succ n ih =>
    intro x2 h
    unfold q_14_2 at h
    unfold l_14_2
    refine (e_14_2 _ _ _).trans ?_
    refine am_fkIv (fun hc182 => ?_) (fun hc182 => ?_)
    · refine (if_neg ((h hc182).1)).trans ?_
      refine (am_bind_i (s_11 L σ x2 (σ.1 21 x2.toNatClampNeg) ((h hc182).2.1))).trans ?_
      refine (e_14_21 _ _ _ _).trans ?_
      refine (am_bind_i (s_30 L σ x2 ((h hc182).2.2.1))).trans ?_
      refine (e_14_26 _ _ _ _ _).trans ?_
      refine am_fkIv (fun hc183 => ?_) (fun hc183 => ?_)
      · refine (if_neg (((h hc182).2.2.2 hc183).1)).trans ?_
        refine (am_bind_i (s_11 L σ x2 (σ.1 22 x2.toNatClampNeg) (((h hc182).2.2.2 hc183).2.1))).trans ?_
        refine (e_14_40 _ _ _ _).trans ?_
        refine (am_bind_i (s_31 L σ x2 (((h hc182).2.2.2 hc183).2.2.1))).trans ?_
        refine (e_14_45 _ _ _ _ _).trans ?_
        refine am_fkIv (fun hc184 => ?_) (fun hc184 => ?_)
        · refine (if_neg ((((h hc182).2.2.2 hc183).2.2.2 hc184).1)).trans ?_
          refine (am_bind_i (s_11 L σ x2 (σ.1 23 x2.toNatClampNeg) ((((h hc182).2.2.2 hc183).2.2.2 hc184).2.1))).trans ?_
          refine (e_14_59 _ _ _ _).trans ?_
          refine am_fkIv (fun hc185 => ?_) (fun hc185 => ?_)
          · refine (e_14_64 _ _ _).trans ?_
            refine am_fkIv (fun hc186 => ?_) (fun hc186 => ?_)
            · refine (am_bind_i (s_15 L σ x2 ((((((h hc182).2.2.2 hc183).2.2.2 hc184).2.2 hc185).1 hc186).1))).trans ?_
              refine (e_14_74 _ _ _ _).trans ?_
              refine am_fkIv (fun hc187 => ?_) (fun hc187 => ?_)
              · refine (e_14_78 _ _ _ _).trans ?_
                rfl
              · refine (e_14_79 _ _ _).trans ?_
                exact ih (x2 + 1) (((((((h hc182).2.2.2 hc183).2.2.2 hc184).2.2 hc185).1 hc186).2 hc187))
            · refine (e_14_79 _ _ _).trans ?_
              exact ih (x2 + 1) ((((((h hc182).2.2.2 hc183).2.2.2 hc184).2.2 hc185).2 hc186))
          · refine (e_14_62 _ _ _).trans ?_
            refine (e_14_63 _ _ _ _).trans ?_
            rfl
        · refine (e_14_62 _ _ _).trans ?_
          refine (e_14_63 _ _ _ _).trans ?_
          rfl
      · refine (e_14_62 _ _ _).trans ?_
        refine (e_14_63 _ _ _ _).trans ?_
        rfl
    · refine (e_14_85 _ _ _).trans ?_
      refine (e_14_86 _ _ _ _).trans ?_
      rfl
def p_14 (σ : am_M) : Prop := q_14_2 14 σ 0
def f_14 (σ : am_M) : Int32 := (l_14_2 14 σ 0)
set_option maxRecDepth 20000 in
theorem sf_14 (L : Nat) (σ : am_M) (h : p_14 σ) : am_r L 14 0 [some (.inr (.inr (20, none))), some (.inr (.inr (2, none))), none] [] σ = some (some (.inl (f_14 σ)), am_sh0 L, σ) := by
  unfold p_14 at h
  unfold f_14
  refine (e_14_0 _ _).trans ?_
  exact t_14_2 L σ 14 0 h
def v_14 (σ : am_M) : Int32 := f_14 σ
theorem s_14 (L : Nat) (σ : am_M) (h : p_14 σ) : am_r L 14 0 [some (.inr (.inr (20, none))), some (.inr (.inr (2, none))), none] [] σ = some (some (.inl (v_14 σ)), am_sh0 L, σ) := sf_14 L σ h
-- 66: X4_check
def p_66 (σ : am_M) : Prop := (p_1 σ 0) ∧ ((p_14 (w_1 σ 0)) ∧ (¬ ((v_14 (w_1 σ 0)) = 0) → ((p_1 (w_1 σ 0) (v_28 (w_1 σ 0))) ∧ (p_14 (w_1 (w_1 σ 0) (v_28 (w_1 σ 0)))))))
def v_66 (σ : am_M) : Int32 := (if (v_14 (w_1 σ 0)) = 0 then 0 else (if (v_14 (w_1 (w_1 σ 0) (v_28 (w_1 σ 0)))) = 0 then (0 : Int32) else 1))
def w_66 (σ : am_M) : am_M := (if (v_14 (w_1 σ 0)) = 0 then (w_1 σ 0) else (w_1 (w_1 σ 0) (v_28 (w_1 σ 0))))
set_option maxRecDepth 20000 in
theorem s_66 (L : Nat) (σ : am_M) (h : p_66 σ) : am_r L 66 0 [some (.inr (.inr (1, none)))] [] σ = some (some (.inl (v_66 σ)), am_sh0 L, w_66 σ) := by
  unfold p_66 at h
  unfold v_66 w_66
  refine (e_66_0 _ _).trans ?_
  refine (am_bind_v (s_1 L σ 0 h.1)).trans ?_
  refine (e_66_12 _ _).trans ?_
  refine (am_bind_i (s_14 L (w_1 σ 0) h.2.1)).trans ?_
  refine (e_66_23 _ _ _).trans ?_
  refine am_fkIvm (fun hc188 => ?_) (fun hc188 => ?_)
  · rfl
  · refine (e_66_28 _ _).trans ?_
    refine (am_bind_i (s_28 L (w_1 σ 0))).trans ?_
    refine (e_66_43 _ _ _).trans ?_
    refine (am_bind_v (s_1 L (w_1 σ 0) (v_28 (w_1 σ 0)) ((h.2.2 hc188).1))).trans ?_
    refine (e_66_46 _ _).trans ?_
    refine (am_bind_i (s_14 L (w_1 (w_1 σ 0) (v_28 (w_1 σ 0))) ((h.2.2 hc188).2))).trans ?_
    refine (e_66_57 _ _ _).trans ?_
    refine Eq.trans (b := am_r L 66 65 [some (.inr (.inr (1, none)))] [.inl (if (v_14 (w_1 (w_1 σ 0) (v_28 (w_1 σ 0)))) = 0 then (0 : Int32) else 1)] (w_1 (w_1 σ 0) (v_28 (w_1 σ 0)))) ?_ ?_
    · by_cases hc189 : (v_14 (w_1 (w_1 σ 0) (v_28 (w_1 σ 0)))) = 0
      · refine (if_pos hc189).trans ?_
        refine Eq.trans (b := am_r L 66 65 [some (.inr (.inr (1, none)))] [.inl 0] (w_1 (w_1 σ 0) (v_28 (w_1 σ 0)))) ?_ ?_
        · refine (e_66_64 _ _).trans ?_
          rfl
        · first | with_reducible rfl | simp only [if_pos hc189]
      · refine (if_neg hc189).trans ?_
        refine Eq.trans (b := am_r L 66 65 [some (.inr (.inr (1, none)))] [.inl 1] (w_1 (w_1 σ 0) (v_28 (w_1 σ 0)))) ?_ ?_
        · rfl
        · first | with_reducible rfl | simp only [if_neg hc189]
    refine (e_66_65 _ _ _).trans ?_
    rfl
-- 75: X5_isIn
def v_75 (σ : am_M) (x0 : Int64) (x2 : Int64) (x4 : Int64) : Int32 := (if (lg_cmp x0 x2) < 0 then (0 : Int32) else (if 0 < (lg_cmp x0 x4) then (0 : Int32) else 1))
set_option maxRecDepth 20000 in
theorem s_75 (L : Nat) (σ : am_M) (x0 : Int64) (x2 : Int64) (x4 : Int64) : am_r L 75 0 [some (.inr (.inl x0)), none, some (.inr (.inl x2)), none, some (.inr (.inl x4)), none] [] σ = some (some (.inl (v_75 σ x0 x2 x4)), am_sh0 L, σ) := by
  unfold v_75
  refine (e_75_0 _ _ _ _ _).trans ?_
  refine Eq.trans (b := am_r L 75 18 [some (.inr (.inl x0)), none, some (.inr (.inl x2)), none, some (.inr (.inl x4)), none] [.inl (if (lg_cmp x0 x2) < 0 then (0 : Int32) else (if 0 < (lg_cmp x0 x4) then (0 : Int32) else 1))] σ) ?_ ?_
  · by_cases hc190 : (lg_cmp x0 x2) < 0
    · refine (if_pos hc190).trans ?_
      refine Eq.trans (b := am_r L 75 18 [some (.inr (.inl x0)), none, some (.inr (.inl x2)), none, some (.inr (.inl x4)), none] [.inl 0] σ) ?_ ?_
      · refine (e_75_17 _ _ _ _ _).trans ?_
        rfl
      · first | with_reducible rfl | simp only [if_pos hc190]
    · refine (if_neg hc190).trans ?_
      refine Eq.trans (b := am_r L 75 18 [some (.inr (.inl x0)), none, some (.inr (.inl x2)), none, some (.inr (.inl x4)), none] [.inl (if 0 < (lg_cmp x0 x4) then (0 : Int32) else 1)] σ) ?_ ?_
      · refine Eq.trans (b := am_r L 75 18 [some (.inr (.inl x0)), none, some (.inr (.inl x2)), none, some (.inr (.inl x4)), none] [.inl (if 0 < (lg_cmp x0 x4) then (0 : Int32) else 1)] σ) ?_ ?_
        · by_cases hc191 : 0 < (lg_cmp x0 x4)
          · refine (if_pos hc191).trans ?_
            refine Eq.trans (b := am_r L 75 18 [some (.inr (.inl x0)), none, some (.inr (.inl x2)), none, some (.inr (.inl x4)), none] [.inl 0] σ) ?_ ?_
            · refine (e_75_17 _ _ _ _ _).trans ?_
              rfl
            · first | with_reducible rfl | simp only [if_pos hc191]
          · refine (if_neg hc191).trans ?_
            refine Eq.trans (b := am_r L 75 18 [some (.inr (.inl x0)), none, some (.inr (.inl x2)), none, some (.inr (.inl x4)), none] [.inl 1] σ) ?_ ?_
            · rfl
            · first | with_reducible rfl | simp only [if_neg hc191]
        rfl
      · first | with_reducible rfl | simp only [if_neg hc190]
  refine (e_75_18 _ _ _ _ _ _).trans ?_
  refine (if_pos (am_01 (Or.inl rfl) (am_01 (Or.inl rfl) (Or.inr rfl)))).trans ?_
  rfl
theorem b_75 (σ : am_M) (x0 : Int64) (x2 : Int64) (x4 : Int64) : v_75 σ x0 x2 x4 = 0 ∨ v_75 σ x0 x2 x4 = 1 := (am_01 (Or.inl rfl) (am_01 (Or.inl rfl) (Or.inr rfl)))
-- 76: X5_base
def v_76 (σ : am_M) (x1 : Int32) (x2 : Int32) : Int32 := (if (v_75 (am_put σ 50 0 0) (Int32.toInt64 x1) ((1 : Int32).toInt64) ((2000 : Int32).toInt64)) = 0 then 0 else (if (v_75 (am_put σ 50 0 0) (Int32.toInt64 x2) ((1 : Int32).toInt64) ((2000 : Int32).toInt64)) = 0 then 0 else 1))
def w_76 (σ : am_M) (x1 : Int32) (x2 : Int32) : am_M := (if (v_75 (am_put σ 50 0 0) (Int32.toInt64 x1) ((1 : Int32).toInt64) ((2000 : Int32).toInt64)) = 0 then (am_put σ 50 0 0) else (if (v_75 (am_put σ 50 0 0) (Int32.toInt64 x2) ((1 : Int32).toInt64) ((2000 : Int32).toInt64)) = 0 then (am_put σ 50 0 0) else (am_put (am_put (am_put (am_put (am_put (am_put (am_put (am_put (am_put σ 50 0 0) 50 1 1) 51 0 (-1)) 52 0 (-1)) 54 0 0) 54 1 0) 54 2 x1) 54 3 x2) 50 16 0)))
set_option maxRecDepth 20000 in
theorem s_76 (L : Nat) (σ : am_M) (x1 : Int32) (x2 : Int32) : am_r L 76 0 [some (.inr (.inr (50, none))), some (.inl x1), some (.inl x2)] [] σ = some (some (.inl (v_76 σ x1 x2)), am_sh0 L, w_76 σ x1 x2) := by
  unfold v_76 w_76
  refine (e_76_0 _ _ _ _).trans ?_
  refine (am_bind_i (s_75 L (am_put σ 50 0 0) (Int32.toInt64 x1) ((1 : Int32).toInt64) ((2000 : Int32).toInt64))).trans ?_
  refine (e_76_14 _ _ _ _ _).trans ?_
  refine am_fkIvm (fun hc192 => ?_) (fun hc192 => ?_)
  · refine (e_76_29 _ _ _ _).trans ?_
    rfl
  · refine (am_bind_i (s_75 L (am_put σ 50 0 0) (Int32.toInt64 x2) ((1 : Int32).toInt64) ((2000 : Int32).toInt64))).trans ?_
    refine (e_76_26 _ _ _ _ _).trans ?_
    refine am_fkIvm (fun hc193 => ?_) (fun hc193 => ?_)
    · refine (e_76_29 _ _ _ _).trans ?_
      rfl
    · refine (e_76_31 _ _ _ _).trans ?_
      refine (if_neg (by decide)).trans ?_
      refine (if_neg (by decide)).trans ?_
      refine (if_neg (by decide)).trans ?_
      refine (e_76_57 _ _ _ _).trans ?_
      refine (if_neg (by decide)).trans ?_
      refine (if_neg (by decide)).trans ?_
      refine (if_neg (by decide)).trans ?_
      refine (e_76_83 _ _ _ _).trans ?_
      rfl
-- 77: X5_panel
def p_77 (σ : am_M) (x1 : Int32) (x2 : Int32) (x3 : Int32) (x4 : Int32) (x5 : Int32) (x6 : Int32) : Prop := ¬ ((v_75 (am_put σ 50 0 0) (Int32.toInt64 x1) ((0 : Int32).toInt64) ((Int32.toInt64 (σ.1 50 1)) - (1 : Int32).toInt64)) = 0) → (¬ ((v_75 (am_put σ 50 0 0) (Int32.toInt64 x2) ((0 : Int32).toInt64) ((3 : Int32).toInt64)) = 0) → (¬ ((v_75 (am_put σ 50 0 0) (Int32.toInt64 x6) ((0 : Int32).toInt64) ((1 : Int32).toInt64)) = 0) → (¬ ((σ.1 50 1) = 13) → (((0 < x1) → ((¬ (x1 < 0 ∨ 13 ≤ x1.toNatClampNeg)) ∧ (¬ (x2 = (((σ.1 52 x1.toNatClampNeg) + 2) - ((σ.1 52 x1.toNatClampNeg) + 2) / 4 * 4)) → (((((if (x2 - x2 / 2 * 2) = 0 then (1 : Int32) else 0) = 0) → ((¬ (((4 * x1) + 2) < 0 ∨ 52 ≤ (((4 * x1) + 2)).toNatClampNeg)) ∧ (¬ ((4 * x1) < 0 ∨ 52 ≤ ((4 * x1)).toNatClampNeg)))) ∧ (¬ ((if (x2 - x2 / 2 * 2) = 0 then (1 : Int32) else 0) = 0) → ((¬ (((4 * x1) + 3) < 0 ∨ 52 ≤ (((4 * x1) + 3)).toNatClampNeg)) ∧ (¬ (((4 * x1) + 1) < 0 ∨ 52 ≤ (((4 * x1) + 1)).toNatClampNeg))))) ∧ (¬ ((v_75 (am_put σ 50 0 0) (Int32.toInt64 x4) ((1 : Int32).toInt64) ((2000 : Int32).toInt64)) = 0) → (¬ ((v_75 (am_put σ 50 0 0) (Int32.toInt64 x5) ((1 : Int32).toInt64) ((2000 : Int32).toInt64)) = 0) → (¬ (x3 < 0) → (¬ (0 < (lg_cmp ((Int32.toInt64 x3) + (Int32.toInt64 x4)) (Int32.toInt64 (if (if (x2 - x2 / 2 * 2) = 0 then (1 : Int32) else 0) = 0 then (((σ.1 54 ((((4 * x1) + 2)).toNatClampNeg)) - (σ.1 54 (((4 * x1)).toNatClampNeg))) : Int32) else ((σ.1 54 ((((4 * x1) + 3)).toNatClampNeg)) - (σ.1 54 ((((4 * x1) + 1)).toNatClampNeg))))))) → ((¬ ((σ.1 50 1) < 0 ∨ 13 ≤ ((σ.1 50 1)).toNatClampNeg)) ∧ ((¬ ((σ.1 50 1) < 0 ∨ 13 ≤ ((σ.1 50 1)).toNatClampNeg)) ∧ ((¬ ((σ.1 50 1) < 0 ∨ 13 ≤ ((σ.1 50 1)).toNatClampNeg)) ∧ ((((if (x2 - x2 / 2 * 2) = 0 then (1 : Int32) else 0) = 0) → ((¬ ((4 * x1) < 0 ∨ 52 ≤ ((4 * x1)).toNatClampNeg)) ∧ ((¬ ((4 * (σ.1 50 1)) < 0 ∨ 52 ≤ ((4 * (σ.1 50 1))).toNatClampNeg)) ∧ ((((x2 = 1) → (¬ (((4 * x1) + 3) < 0 ∨ 52 ≤ (((4 * x1) + 3)).toNatClampNeg))) ∧ (¬ (x2 = 1) → (¬ (((4 * x1) + 1) < 0 ∨ 52 ≤ (((4 * x1) + 1)).toNatClampNeg)))) ∧ ((¬ (((4 * (σ.1 50 1)) + 1) < 0 ∨ 52 ≤ (((4 * (σ.1 50 1)) + 1)).toNatClampNeg)) ∧ ((¬ ((4 * (σ.1 50 1)) < 0 ∨ 52 ≤ ((4 * (σ.1 50 1))).toNatClampNeg)) ∧ ((¬ (((4 * (σ.1 50 1)) + 2) < 0 ∨ 52 ≤ (((4 * (σ.1 50 1)) + 2)).toNatClampNeg)) ∧ ((¬ (((4 * (σ.1 50 1)) + 1) < 0 ∨ 52 ≤ (((4 * (σ.1 50 1)) + 1)).toNatClampNeg)) ∧ (¬ (((4 * (σ.1 50 1)) + 3) < 0 ∨ 52 ≤ (((4 * (σ.1 50 1)) + 3)).toNatClampNeg)))))))))) ∧ (¬ ((if (x2 - x2 / 2 * 2) = 0 then (1 : Int32) else 0) = 0) → ((((x2 = 0) → (¬ (((4 * x1) + 2) < 0 ∨ 52 ≤ (((4 * x1) + 2)).toNatClampNeg))) ∧ (¬ (x2 = 0) → (¬ ((4 * x1) < 0 ∨ 52 ≤ ((4 * x1)).toNatClampNeg)))) ∧ ((¬ ((4 * (σ.1 50 1)) < 0 ∨ 52 ≤ ((4 * (σ.1 50 1))).toNatClampNeg)) ∧ ((¬ (((4 * x1) + 1) < 0 ∨ 52 ≤ (((4 * x1) + 1)).toNatClampNeg)) ∧ ((¬ (((4 * (σ.1 50 1)) + 1) < 0 ∨ 52 ≤ (((4 * (σ.1 50 1)) + 1)).toNatClampNeg)) ∧ ((¬ ((4 * (σ.1 50 1)) < 0 ∨ 52 ≤ ((4 * (σ.1 50 1))).toNatClampNeg)) ∧ ((¬ (((4 * (σ.1 50 1)) + 2) < 0 ∨ 52 ≤ (((4 * (σ.1 50 1)) + 2)).toNatClampNeg)) ∧ ((¬ (((4 * (σ.1 50 1)) + 1) < 0 ∨ 52 ≤ (((4 * (σ.1 50 1)) + 1)).toNatClampNeg)) ∧ (¬ (((4 * (σ.1 50 1)) + 3) < 0 ∨ 52 ≤ (((4 * (σ.1 50 1)) + 3)).toNatClampNeg)))))))))))))))))))))) ∧ (¬ (0 < x1) → (((((if (x2 - x2 / 2 * 2) = 0 then (1 : Int32) else 0) = 0) → ((¬ (((4 * x1) + 2) < 0 ∨ 52 ≤ (((4 * x1) + 2)).toNatClampNeg)) ∧ (¬ ((4 * x1) < 0 ∨ 52 ≤ ((4 * x1)).toNatClampNeg)))) ∧ (¬ ((if (x2 - x2 / 2 * 2) = 0 then (1 : Int32) else 0) = 0) → ((¬ (((4 * x1) + 3) < 0 ∨ 52 ≤ (((4 * x1) + 3)).toNatClampNeg)) ∧ (¬ (((4 * x1) + 1) < 0 ∨ 52 ≤ (((4 * x1) + 1)).toNatClampNeg))))) ∧ (¬ ((v_75 (am_put σ 50 0 0) (Int32.toInt64 x4) ((1 : Int32).toInt64) ((2000 : Int32).toInt64)) = 0) → (¬ ((v_75 (am_put σ 50 0 0) (Int32.toInt64 x5) ((1 : Int32).toInt64) ((2000 : Int32).toInt64)) = 0) → (¬ (x3 < 0) → (¬ (0 < (lg_cmp ((Int32.toInt64 x3) + (Int32.toInt64 x4)) (Int32.toInt64 (if (if (x2 - x2 / 2 * 2) = 0 then (1 : Int32) else 0) = 0 then (((σ.1 54 ((((4 * x1) + 2)).toNatClampNeg)) - (σ.1 54 (((4 * x1)).toNatClampNeg))) : Int32) else ((σ.1 54 ((((4 * x1) + 3)).toNatClampNeg)) - (σ.1 54 ((((4 * x1) + 1)).toNatClampNeg))))))) → ((¬ ((σ.1 50 1) < 0 ∨ 13 ≤ ((σ.1 50 1)).toNatClampNeg)) ∧ ((¬ ((σ.1 50 1) < 0 ∨ 13 ≤ ((σ.1 50 1)).toNatClampNeg)) ∧ ((¬ ((σ.1 50 1) < 0 ∨ 13 ≤ ((σ.1 50 1)).toNatClampNeg)) ∧ ((((if (x2 - x2 / 2 * 2) = 0 then (1 : Int32) else 0) = 0) → ((¬ ((4 * x1) < 0 ∨ 52 ≤ ((4 * x1)).toNatClampNeg)) ∧ ((¬ ((4 * (σ.1 50 1)) < 0 ∨ 52 ≤ ((4 * (σ.1 50 1))).toNatClampNeg)) ∧ ((((x2 = 1) → (¬ (((4 * x1) + 3) < 0 ∨ 52 ≤ (((4 * x1) + 3)).toNatClampNeg))) ∧ (¬ (x2 = 1) → (¬ (((4 * x1) + 1) < 0 ∨ 52 ≤ (((4 * x1) + 1)).toNatClampNeg)))) ∧ ((¬ (((4 * (σ.1 50 1)) + 1) < 0 ∨ 52 ≤ (((4 * (σ.1 50 1)) + 1)).toNatClampNeg)) ∧ ((¬ ((4 * (σ.1 50 1)) < 0 ∨ 52 ≤ ((4 * (σ.1 50 1))).toNatClampNeg)) ∧ ((¬ (((4 * (σ.1 50 1)) + 2) < 0 ∨ 52 ≤ (((4 * (σ.1 50 1)) + 2)).toNatClampNeg)) ∧ ((¬ (((4 * (σ.1 50 1)) + 1) < 0 ∨ 52 ≤ (((4 * (σ.1 50 1)) + 1)).toNatClampNeg)) ∧ (¬ (((4 * (σ.1 50 1)) + 3) < 0 ∨ 52 ≤ (((4 * (σ.1 50 1)) + 3)).toNatClampNeg)))))))))) ∧ (¬ ((if (x2 - x2 / 2 * 2) = 0 then (1 : Int32) else 0) = 0) → ((((x2 = 0) → (¬ (((4 * x1) + 2) < 0 ∨ 52 ≤ (((4 * x1) + 2)).toNatClampNeg))) ∧ (¬ (x2 = 0) → (¬ ((4 * x1) < 0 ∨ 52 ≤ ((4 * x1)).toNatClampNeg)))) ∧ ((¬ ((4 * (σ.1 50 1)) < 0 ∨ 52 ≤ ((4 * (σ.1 50 1))).toNatClampNeg)) ∧ ((¬ (((4 * x1) + 1) < 0 ∨ 52 ≤ (((4 * x1) + 1)).toNatClampNeg)) ∧ ((¬ (((4 * (σ.1 50 1)) + 1) < 0 ∨ 52 ≤ (((4 * (σ.1 50 1)) + 1)).toNatClampNeg)) ∧ ((¬ ((4 * (σ.1 50 1)) < 0 ∨ 52 ≤ ((4 * (σ.1 50 1))).toNatClampNeg)) ∧ ((¬ (((4 * (σ.1 50 1)) + 2) < 0 ∨ 52 ≤ (((4 * (σ.1 50 1)) + 2)).toNatClampNeg)) ∧ ((¬ (((4 * (σ.1 50 1)) + 1) < 0 ∨ 52 ≤ (((4 * (σ.1 50 1)) + 1)).toNatClampNeg)) ∧ (¬ (((4 * (σ.1 50 1)) + 3) < 0 ∨ 52 ≤ (((4 * (σ.1 50 1)) + 3)).toNatClampNeg))))))))))))))))))))))))
def v_77 (σ : am_M) (x1 : Int32) (x2 : Int32) (x3 : Int32) (x4 : Int32) (x5 : Int32) (x6 : Int32) : Int32 := (if (v_75 (am_put σ 50 0 0) (Int32.toInt64 x1) ((0 : Int32).toInt64) ((Int32.toInt64 (σ.1 50 1)) - (1 : Int32).toInt64)) = 0 then (-1) else (if (v_75 (am_put σ 50 0 0) (Int32.toInt64 x2) ((0 : Int32).toInt64) ((3 : Int32).toInt64)) = 0 then (-1) else (if (v_75 (am_put σ 50 0 0) (Int32.toInt64 x6) ((0 : Int32).toInt64) ((1 : Int32).toInt64)) = 0 then (-1) else (if (σ.1 50 1) = 13 then (-1) else (if 0 < x1 then (if x2 = (((σ.1 52 x1.toNatClampNeg) + 2) - ((σ.1 52 x1.toNatClampNeg) + 2) / 4 * 4) then (-1) else (if (v_75 (am_put σ 50 0 0) (Int32.toInt64 x4) ((1 : Int32).toInt64) ((2000 : Int32).toInt64)) = 0 then (-1) else (if (v_75 (am_put σ 50 0 0) (Int32.toInt64 x5) ((1 : Int32).toInt64) ((2000 : Int32).toInt64)) = 0 then (-1) else (if x3 < 0 then (-1) else (if 0 < (lg_cmp ((Int32.toInt64 x3) + (Int32.toInt64 x4)) (Int32.toInt64 (if (if (x2 - x2 / 2 * 2) = 0 then (1 : Int32) else 0) = 0 then (((σ.1 54 ((((4 * x1) + 2)).toNatClampNeg)) - (σ.1 54 (((4 * x1)).toNatClampNeg))) : Int32) else ((σ.1 54 ((((4 * x1) + 3)).toNatClampNeg)) - (σ.1 54 ((((4 * x1) + 1)).toNatClampNeg)))))) then (-1) else (σ.1 50 1)))))) else (if (v_75 (am_put σ 50 0 0) (Int32.toInt64 x4) ((1 : Int32).toInt64) ((2000 : Int32).toInt64)) = 0 then (-1) else (if (v_75 (am_put σ 50 0 0) (Int32.toInt64 x5) ((1 : Int32).toInt64) ((2000 : Int32).toInt64)) = 0 then (-1) else (if x3 < 0 then (-1) else (if 0 < (lg_cmp ((Int32.toInt64 x3) + (Int32.toInt64 x4)) (Int32.toInt64 (if (if (x2 - x2 / 2 * 2) = 0 then (1 : Int32) else 0) = 0 then (((σ.1 54 ((((4 * x1) + 2)).toNatClampNeg)) - (σ.1 54 (((4 * x1)).toNatClampNeg))) : Int32) else ((σ.1 54 ((((4 * x1) + 3)).toNatClampNeg)) - (σ.1 54 ((((4 * x1) + 1)).toNatClampNeg)))))) then (-1) else (σ.1 50 1))))))))))
def w_77 (σ : am_M) (x1 : Int32) (x2 : Int32) (x3 : Int32) (x4 : Int32) (x5 : Int32) (x6 : Int32) : am_M := (if (v_75 (am_put σ 50 0 0) (Int32.toInt64 x1) ((0 : Int32).toInt64) ((Int32.toInt64 (σ.1 50 1)) - (1 : Int32).toInt64)) = 0 then (am_put σ 50 0 0) else (if (v_75 (am_put σ 50 0 0) (Int32.toInt64 x2) ((0 : Int32).toInt64) ((3 : Int32).toInt64)) = 0 then (am_put σ 50 0 0) else (if (v_75 (am_put σ 50 0 0) (Int32.toInt64 x6) ((0 : Int32).toInt64) ((1 : Int32).toInt64)) = 0 then (am_put σ 50 0 0) else (if (σ.1 50 1) = 13 then (am_put σ 50 0 0) else (if 0 < x1 then (if x2 = (((σ.1 52 x1.toNatClampNeg) + 2) - ((σ.1 52 x1.toNatClampNeg) + 2) / 4 * 4) then (am_put σ 50 0 0) else (if (v_75 (am_put σ 50 0 0) (Int32.toInt64 x4) ((1 : Int32).toInt64) ((2000 : Int32).toInt64)) = 0 then (am_put σ 50 0 0) else (if (v_75 (am_put σ 50 0 0) (Int32.toInt64 x5) ((1 : Int32).toInt64) ((2000 : Int32).toInt64)) = 0 then (am_put σ 50 0 0) else (if x3 < 0 then (am_put σ 50 0 0) else (if 0 < (lg_cmp ((Int32.toInt64 x3) + (Int32.toInt64 x4)) (Int32.toInt64 (if (if (x2 - x2 / 2 * 2) = 0 then (1 : Int32) else 0) = 0 then (((σ.1 54 ((((4 * x1) + 2)).toNatClampNeg)) - (σ.1 54 (((4 * x1)).toNatClampNeg))) : Int32) else ((σ.1 54 ((((4 * x1) + 3)).toNatClampNeg)) - (σ.1 54 ((((4 * x1) + 1)).toNatClampNeg)))))) then (am_put σ 50 0 0) else (if (if (x2 - x2 / 2 * 2) = 0 then (1 : Int32) else 0) = 0 then (am_put (am_put (am_put (am_put (am_put (am_put (am_put (am_put (am_put (am_put σ 50 0 0) 51 (((σ.1 50 1)).toNatClampNeg) x1) 52 (((σ.1 50 1)).toNatClampNeg) x2) 53 (((σ.1 50 1)).toNatClampNeg) (vp_nar .boolean (if x6 = 1 then (1 : Int32) else 0))) 54 (((4 * (σ.1 50 1))).toNatClampNeg) ((σ.1 54 (((4 * x1)).toNatClampNeg)) + x3)) 54 ((((4 * (σ.1 50 1)) + 1)).toNatClampNeg) (if x2 = 1 then (((am_put (am_put (am_put (am_put (am_put σ 50 0 0) 51 (((σ.1 50 1)).toNatClampNeg) x1) 52 (((σ.1 50 1)).toNatClampNeg) x2) 53 (((σ.1 50 1)).toNatClampNeg) (vp_nar .boolean (if x6 = 1 then (1 : Int32) else 0))) 54 (((4 * (σ.1 50 1))).toNatClampNeg) ((σ.1 54 (((4 * x1)).toNatClampNeg)) + x3)).1 54 ((((4 * x1) + 3)).toNatClampNeg)) : Int32) else (((am_put (am_put (am_put (am_put (am_put σ 50 0 0) 51 (((σ.1 50 1)).toNatClampNeg) x1) 52 (((σ.1 50 1)).toNatClampNeg) x2) 53 (((σ.1 50 1)).toNatClampNeg) (vp_nar .boolean (if x6 = 1 then (1 : Int32) else 0))) 54 (((4 * (σ.1 50 1))).toNatClampNeg) ((σ.1 54 (((4 * x1)).toNatClampNeg)) + x3)).1 54 ((((4 * x1) + 1)).toNatClampNeg)) - x5))) 54 ((((4 * (σ.1 50 1)) + 2)).toNatClampNeg) (((am_put (am_put (am_put (am_put (am_put (am_put σ 50 0 0) 51 (((σ.1 50 1)).toNatClampNeg) x1) 52 (((σ.1 50 1)).toNatClampNeg) x2) 53 (((σ.1 50 1)).toNatClampNeg) (vp_nar .boolean (if x6 = 1 then (1 : Int32) else 0))) 54 (((4 * (σ.1 50 1))).toNatClampNeg) ((σ.1 54 (((4 * x1)).toNatClampNeg)) + x3)) 54 ((((4 * (σ.1 50 1)) + 1)).toNatClampNeg) (if x2 = 1 then (((am_put (am_put (am_put (am_put (am_put σ 50 0 0) 51 (((σ.1 50 1)).toNatClampNeg) x1) 52 (((σ.1 50 1)).toNatClampNeg) x2) 53 (((σ.1 50 1)).toNatClampNeg) (vp_nar .boolean (if x6 = 1 then (1 : Int32) else 0))) 54 (((4 * (σ.1 50 1))).toNatClampNeg) ((σ.1 54 (((4 * x1)).toNatClampNeg)) + x3)).1 54 ((((4 * x1) + 3)).toNatClampNeg)) : Int32) else (((am_put (am_put (am_put (am_put (am_put σ 50 0 0) 51 (((σ.1 50 1)).toNatClampNeg) x1) 52 (((σ.1 50 1)).toNatClampNeg) x2) 53 (((σ.1 50 1)).toNatClampNeg) (vp_nar .boolean (if x6 = 1 then (1 : Int32) else 0))) 54 (((4 * (σ.1 50 1))).toNatClampNeg) ((σ.1 54 (((4 * x1)).toNatClampNeg)) + x3)).1 54 ((((4 * x1) + 1)).toNatClampNeg)) - x5))).1 54 (((4 * (σ.1 50 1))).toNatClampNeg)) + x4)) 54 ((((4 * (σ.1 50 1)) + 3)).toNatClampNeg) (((am_put (am_put (am_put (am_put (am_put (am_put (am_put σ 50 0 0) 51 (((σ.1 50 1)).toNatClampNeg) x1) 52 (((σ.1 50 1)).toNatClampNeg) x2) 53 (((σ.1 50 1)).toNatClampNeg) (vp_nar .boolean (if x6 = 1 then (1 : Int32) else 0))) 54 (((4 * (σ.1 50 1))).toNatClampNeg) ((σ.1 54 (((4 * x1)).toNatClampNeg)) + x3)) 54 ((((4 * (σ.1 50 1)) + 1)).toNatClampNeg) (if x2 = 1 then (((am_put (am_put (am_put (am_put (am_put σ 50 0 0) 51 (((σ.1 50 1)).toNatClampNeg) x1) 52 (((σ.1 50 1)).toNatClampNeg) x2) 53 (((σ.1 50 1)).toNatClampNeg) (vp_nar .boolean (if x6 = 1 then (1 : Int32) else 0))) 54 (((4 * (σ.1 50 1))).toNatClampNeg) ((σ.1 54 (((4 * x1)).toNatClampNeg)) + x3)).1 54 ((((4 * x1) + 3)).toNatClampNeg)) : Int32) else (((am_put (am_put (am_put (am_put (am_put σ 50 0 0) 51 (((σ.1 50 1)).toNatClampNeg) x1) 52 (((σ.1 50 1)).toNatClampNeg) x2) 53 (((σ.1 50 1)).toNatClampNeg) (vp_nar .boolean (if x6 = 1 then (1 : Int32) else 0))) 54 (((4 * (σ.1 50 1))).toNatClampNeg) ((σ.1 54 (((4 * x1)).toNatClampNeg)) + x3)).1 54 ((((4 * x1) + 1)).toNatClampNeg)) - x5))) 54 ((((4 * (σ.1 50 1)) + 2)).toNatClampNeg) (((am_put (am_put (am_put (am_put (am_put (am_put σ 50 0 0) 51 (((σ.1 50 1)).toNatClampNeg) x1) 52 (((σ.1 50 1)).toNatClampNeg) x2) 53 (((σ.1 50 1)).toNatClampNeg) (vp_nar .boolean (if x6 = 1 then (1 : Int32) else 0))) 54 (((4 * (σ.1 50 1))).toNatClampNeg) ((σ.1 54 (((4 * x1)).toNatClampNeg)) + x3)) 54 ((((4 * (σ.1 50 1)) + 1)).toNatClampNeg) (if x2 = 1 then (((am_put (am_put (am_put (am_put (am_put σ 50 0 0) 51 (((σ.1 50 1)).toNatClampNeg) x1) 52 (((σ.1 50 1)).toNatClampNeg) x2) 53 (((σ.1 50 1)).toNatClampNeg) (vp_nar .boolean (if x6 = 1 then (1 : Int32) else 0))) 54 (((4 * (σ.1 50 1))).toNatClampNeg) ((σ.1 54 (((4 * x1)).toNatClampNeg)) + x3)).1 54 ((((4 * x1) + 3)).toNatClampNeg)) : Int32) else (((am_put (am_put (am_put (am_put (am_put σ 50 0 0) 51 (((σ.1 50 1)).toNatClampNeg) x1) 52 (((σ.1 50 1)).toNatClampNeg) x2) 53 (((σ.1 50 1)).toNatClampNeg) (vp_nar .boolean (if x6 = 1 then (1 : Int32) else 0))) 54 (((4 * (σ.1 50 1))).toNatClampNeg) ((σ.1 54 (((4 * x1)).toNatClampNeg)) + x3)).1 54 ((((4 * x1) + 1)).toNatClampNeg)) - x5))).1 54 (((4 * (σ.1 50 1))).toNatClampNeg)) + x4)).1 54 ((((4 * (σ.1 50 1)) + 1)).toNatClampNeg)) + x5)) 50 1 ((σ.1 50 1) + 1)) 50 16 0) else (am_put (am_put (am_put (am_put (am_put (am_put (am_put (am_put (am_put (am_put σ 50 0 0) 51 (((σ.1 50 1)).toNatClampNeg) x1) 52 (((σ.1 50 1)).toNatClampNeg) x2) 53 (((σ.1 50 1)).toNatClampNeg) (vp_nar .boolean (if x6 = 1 then (1 : Int32) else 0))) 54 (((4 * (σ.1 50 1))).toNatClampNeg) (if x2 = 0 then ((σ.1 54 ((((4 * x1) + 2)).toNatClampNeg)) : Int32) else ((σ.1 54 (((4 * x1)).toNatClampNeg)) - x5))) 54 ((((4 * (σ.1 50 1)) + 1)).toNatClampNeg) (((am_put (am_put (am_put (am_put (am_put σ 50 0 0) 51 (((σ.1 50 1)).toNatClampNeg) x1) 52 (((σ.1 50 1)).toNatClampNeg) x2) 53 (((σ.1 50 1)).toNatClampNeg) (vp_nar .boolean (if x6 = 1 then (1 : Int32) else 0))) 54 (((4 * (σ.1 50 1))).toNatClampNeg) (if x2 = 0 then ((σ.1 54 ((((4 * x1) + 2)).toNatClampNeg)) : Int32) else ((σ.1 54 (((4 * x1)).toNatClampNeg)) - x5))).1 54 ((((4 * x1) + 1)).toNatClampNeg)) + x3)) 54 ((((4 * (σ.1 50 1)) + 2)).toNatClampNeg) (((am_put (am_put (am_put (am_put (am_put (am_put σ 50 0 0) 51 (((σ.1 50 1)).toNatClampNeg) x1) 52 (((σ.1 50 1)).toNatClampNeg) x2) 53 (((σ.1 50 1)).toNatClampNeg) (vp_nar .boolean (if x6 = 1 then (1 : Int32) else 0))) 54 (((4 * (σ.1 50 1))).toNatClampNeg) (if x2 = 0 then ((σ.1 54 ((((4 * x1) + 2)).toNatClampNeg)) : Int32) else ((σ.1 54 (((4 * x1)).toNatClampNeg)) - x5))) 54 ((((4 * (σ.1 50 1)) + 1)).toNatClampNeg) (((am_put (am_put (am_put (am_put (am_put σ 50 0 0) 51 (((σ.1 50 1)).toNatClampNeg) x1) 52 (((σ.1 50 1)).toNatClampNeg) x2) 53 (((σ.1 50 1)).toNatClampNeg) (vp_nar .boolean (if x6 = 1 then (1 : Int32) else 0))) 54 (((4 * (σ.1 50 1))).toNatClampNeg) (if x2 = 0 then ((σ.1 54 ((((4 * x1) + 2)).toNatClampNeg)) : Int32) else ((σ.1 54 (((4 * x1)).toNatClampNeg)) - x5))).1 54 ((((4 * x1) + 1)).toNatClampNeg)) + x3)).1 54 (((4 * (σ.1 50 1))).toNatClampNeg)) + x5)) 54 ((((4 * (σ.1 50 1)) + 3)).toNatClampNeg) (((am_put (am_put (am_put (am_put (am_put (am_put (am_put σ 50 0 0) 51 (((σ.1 50 1)).toNatClampNeg) x1) 52 (((σ.1 50 1)).toNatClampNeg) x2) 53 (((σ.1 50 1)).toNatClampNeg) (vp_nar .boolean (if x6 = 1 then (1 : Int32) else 0))) 54 (((4 * (σ.1 50 1))).toNatClampNeg) (if x2 = 0 then ((σ.1 54 ((((4 * x1) + 2)).toNatClampNeg)) : Int32) else ((σ.1 54 (((4 * x1)).toNatClampNeg)) - x5))) 54 ((((4 * (σ.1 50 1)) + 1)).toNatClampNeg) (((am_put (am_put (am_put (am_put (am_put σ 50 0 0) 51 (((σ.1 50 1)).toNatClampNeg) x1) 52 (((σ.1 50 1)).toNatClampNeg) x2) 53 (((σ.1 50 1)).toNatClampNeg) (vp_nar .boolean (if x6 = 1 then (1 : Int32) else 0))) 54 (((4 * (σ.1 50 1))).toNatClampNeg) (if x2 = 0 then ((σ.1 54 ((((4 * x1) + 2)).toNatClampNeg)) : Int32) else ((σ.1 54 (((4 * x1)).toNatClampNeg)) - x5))).1 54 ((((4 * x1) + 1)).toNatClampNeg)) + x3)) 54 ((((4 * (σ.1 50 1)) + 2)).toNatClampNeg) (((am_put (am_put (am_put (am_put (am_put (am_put σ 50 0 0) 51 (((σ.1 50 1)).toNatClampNeg) x1) 52 (((σ.1 50 1)).toNatClampNeg) x2) 53 (((σ.1 50 1)).toNatClampNeg) (vp_nar .boolean (if x6 = 1 then (1 : Int32) else 0))) 54 (((4 * (σ.1 50 1))).toNatClampNeg) (if x2 = 0 then ((σ.1 54 ((((4 * x1) + 2)).toNatClampNeg)) : Int32) else ((σ.1 54 (((4 * x1)).toNatClampNeg)) - x5))) 54 ((((4 * (σ.1 50 1)) + 1)).toNatClampNeg) (((am_put (am_put (am_put (am_put (am_put σ 50 0 0) 51 (((σ.1 50 1)).toNatClampNeg) x1) 52 (((σ.1 50 1)).toNatClampNeg) x2) 53 (((σ.1 50 1)).toNatClampNeg) (vp_nar .boolean (if x6 = 1 then (1 : Int32) else 0))) 54 (((4 * (σ.1 50 1))).toNatClampNeg) (if x2 = 0 then ((σ.1 54 ((((4 * x1) + 2)).toNatClampNeg)) : Int32) else ((σ.1 54 (((4 * x1)).toNatClampNeg)) - x5))).1 54 ((((4 * x1) + 1)).toNatClampNeg)) + x3)).1 54 (((4 * (σ.1 50 1))).toNatClampNeg)) + x5)).1 54 ((((4 * (σ.1 50 1)) + 1)).toNatClampNeg)) + x4)) 50 1 ((σ.1 50 1) + 1)) 50 16 0))))))) else (if (v_75 (am_put σ 50 0 0) (Int32.toInt64 x4) ((1 : Int32).toInt64) ((2000 : Int32).toInt64)) = 0 then (am_put σ 50 0 0) else (if (v_75 (am_put σ 50 0 0) (Int32.toInt64 x5) ((1 : Int32).toInt64) ((2000 : Int32).toInt64)) = 0 then (am_put σ 50 0 0) else (if x3 < 0 then (am_put σ 50 0 0) else (if 0 < (lg_cmp ((Int32.toInt64 x3) + (Int32.toInt64 x4)) (Int32.toInt64 (if (if (x2 - x2 / 2 * 2) = 0 then (1 : Int32) else 0) = 0 then (((σ.1 54 ((((4 * x1) + 2)).toNatClampNeg)) - (σ.1 54 (((4 * x1)).toNatClampNeg))) : Int32) else ((σ.1 54 ((((4 * x1) + 3)).toNatClampNeg)) - (σ.1 54 ((((4 * x1) + 1)).toNatClampNeg)))))) then (am_put σ 50 0 0) else (if (if (x2 - x2 / 2 * 2) = 0 then (1 : Int32) else 0) = 0 then (am_put (am_put (am_put (am_put (am_put (am_put (am_put (am_put (am_put (am_put σ 50 0 0) 51 (((σ.1 50 1)).toNatClampNeg) x1) 52 (((σ.1 50 1)).toNatClampNeg) x2) 53 (((σ.1 50 1)).toNatClampNeg) (vp_nar .boolean (if x6 = 1 then (1 : Int32) else 0))) 54 (((4 * (σ.1 50 1))).toNatClampNeg) ((σ.1 54 (((4 * x1)).toNatClampNeg)) + x3)) 54 ((((4 * (σ.1 50 1)) + 1)).toNatClampNeg) (if x2 = 1 then (((am_put (am_put (am_put (am_put (am_put σ 50 0 0) 51 (((σ.1 50 1)).toNatClampNeg) x1) 52 (((σ.1 50 1)).toNatClampNeg) x2) 53 (((σ.1 50 1)).toNatClampNeg) (vp_nar .boolean (if x6 = 1 then (1 : Int32) else 0))) 54 (((4 * (σ.1 50 1))).toNatClampNeg) ((σ.1 54 (((4 * x1)).toNatClampNeg)) + x3)).1 54 ((((4 * x1) + 3)).toNatClampNeg)) : Int32) else (((am_put (am_put (am_put (am_put (am_put σ 50 0 0) 51 (((σ.1 50 1)).toNatClampNeg) x1) 52 (((σ.1 50 1)).toNatClampNeg) x2) 53 (((σ.1 50 1)).toNatClampNeg) (vp_nar .boolean (if x6 = 1 then (1 : Int32) else 0))) 54 (((4 * (σ.1 50 1))).toNatClampNeg) ((σ.1 54 (((4 * x1)).toNatClampNeg)) + x3)).1 54 ((((4 * x1) + 1)).toNatClampNeg)) - x5))) 54 ((((4 * (σ.1 50 1)) + 2)).toNatClampNeg) (((am_put (am_put (am_put (am_put (am_put (am_put σ 50 0 0) 51 (((σ.1 50 1)).toNatClampNeg) x1) 52 (((σ.1 50 1)).toNatClampNeg) x2) 53 (((σ.1 50 1)).toNatClampNeg) (vp_nar .boolean (if x6 = 1 then (1 : Int32) else 0))) 54 (((4 * (σ.1 50 1))).toNatClampNeg) ((σ.1 54 (((4 * x1)).toNatClampNeg)) + x3)) 54 ((((4 * (σ.1 50 1)) + 1)).toNatClampNeg) (if x2 = 1 then (((am_put (am_put (am_put (am_put (am_put σ 50 0 0) 51 (((σ.1 50 1)).toNatClampNeg) x1) 52 (((σ.1 50 1)).toNatClampNeg) x2) 53 (((σ.1 50 1)).toNatClampNeg) (vp_nar .boolean (if x6 = 1 then (1 : Int32) else 0))) 54 (((4 * (σ.1 50 1))).toNatClampNeg) ((σ.1 54 (((4 * x1)).toNatClampNeg)) + x3)).1 54 ((((4 * x1) + 3)).toNatClampNeg)) : Int32) else (((am_put (am_put (am_put (am_put (am_put σ 50 0 0) 51 (((σ.1 50 1)).toNatClampNeg) x1) 52 (((σ.1 50 1)).toNatClampNeg) x2) 53 (((σ.1 50 1)).toNatClampNeg) (vp_nar .boolean (if x6 = 1 then (1 : Int32) else 0))) 54 (((4 * (σ.1 50 1))).toNatClampNeg) ((σ.1 54 (((4 * x1)).toNatClampNeg)) + x3)).1 54 ((((4 * x1) + 1)).toNatClampNeg)) - x5))).1 54 (((4 * (σ.1 50 1))).toNatClampNeg)) + x4)) 54 ((((4 * (σ.1 50 1)) + 3)).toNatClampNeg) (((am_put (am_put (am_put (am_put (am_put (am_put (am_put σ 50 0 0) 51 (((σ.1 50 1)).toNatClampNeg) x1) 52 (((σ.1 50 1)).toNatClampNeg) x2) 53 (((σ.1 50 1)).toNatClampNeg) (vp_nar .boolean (if x6 = 1 then (1 : Int32) else 0))) 54 (((4 * (σ.1 50 1))).toNatClampNeg) ((σ.1 54 (((4 * x1)).toNatClampNeg)) + x3)) 54 ((((4 * (σ.1 50 1)) + 1)).toNatClampNeg) (if x2 = 1 then (((am_put (am_put (am_put (am_put (am_put σ 50 0 0) 51 (((σ.1 50 1)).toNatClampNeg) x1) 52 (((σ.1 50 1)).toNatClampNeg) x2) 53 (((σ.1 50 1)).toNatClampNeg) (vp_nar .boolean (if x6 = 1 then (1 : Int32) else 0))) 54 (((4 * (σ.1 50 1))).toNatClampNeg) ((σ.1 54 (((4 * x1)).toNatClampNeg)) + x3)).1 54 ((((4 * x1) + 3)).toNatClampNeg)) : Int32) else (((am_put (am_put (am_put (am_put (am_put σ 50 0 0) 51 (((σ.1 50 1)).toNatClampNeg) x1) 52 (((σ.1 50 1)).toNatClampNeg) x2) 53 (((σ.1 50 1)).toNatClampNeg) (vp_nar .boolean (if x6 = 1 then (1 : Int32) else 0))) 54 (((4 * (σ.1 50 1))).toNatClampNeg) ((σ.1 54 (((4 * x1)).toNatClampNeg)) + x3)).1 54 ((((4 * x1) + 1)).toNatClampNeg)) - x5))) 54 ((((4 * (σ.1 50 1)) + 2)).toNatClampNeg) (((am_put (am_put (am_put (am_put (am_put (am_put σ 50 0 0) 51 (((σ.1 50 1)).toNatClampNeg) x1) 52 (((σ.1 50 1)).toNatClampNeg) x2) 53 (((σ.1 50 1)).toNatClampNeg) (vp_nar .boolean (if x6 = 1 then (1 : Int32) else 0))) 54 (((4 * (σ.1 50 1))).toNatClampNeg) ((σ.1 54 (((4 * x1)).toNatClampNeg)) + x3)) 54 ((((4 * (σ.1 50 1)) + 1)).toNatClampNeg) (if x2 = 1 then (((am_put (am_put (am_put (am_put (am_put σ 50 0 0) 51 (((σ.1 50 1)).toNatClampNeg) x1) 52 (((σ.1 50 1)).toNatClampNeg) x2) 53 (((σ.1 50 1)).toNatClampNeg) (vp_nar .boolean (if x6 = 1 then (1 : Int32) else 0))) 54 (((4 * (σ.1 50 1))).toNatClampNeg) ((σ.1 54 (((4 * x1)).toNatClampNeg)) + x3)).1 54 ((((4 * x1) + 3)).toNatClampNeg)) : Int32) else (((am_put (am_put (am_put (am_put (am_put σ 50 0 0) 51 (((σ.1 50 1)).toNatClampNeg) x1) 52 (((σ.1 50 1)).toNatClampNeg) x2) 53 (((σ.1 50 1)).toNatClampNeg) (vp_nar .boolean (if x6 = 1 then (1 : Int32) else 0))) 54 (((4 * (σ.1 50 1))).toNatClampNeg) ((σ.1 54 (((4 * x1)).toNatClampNeg)) + x3)).1 54 ((((4 * x1) + 1)).toNatClampNeg)) - x5))).1 54 (((4 * (σ.1 50 1))).toNatClampNeg)) + x4)).1 54 ((((4 * (σ.1 50 1)) + 1)).toNatClampNeg)) + x5)) 50 1 ((σ.1 50 1) + 1)) 50 16 0) else (am_put (am_put (am_put (am_put (am_put (am_put (am_put (am_put (am_put (am_put σ 50 0 0) 51 (((σ.1 50 1)).toNatClampNeg) x1) 52 (((σ.1 50 1)).toNatClampNeg) x2) 53 (((σ.1 50 1)).toNatClampNeg) (vp_nar .boolean (if x6 = 1 then (1 : Int32) else 0))) 54 (((4 * (σ.1 50 1))).toNatClampNeg) (if x2 = 0 then ((σ.1 54 ((((4 * x1) + 2)).toNatClampNeg)) : Int32) else ((σ.1 54 (((4 * x1)).toNatClampNeg)) - x5))) 54 ((((4 * (σ.1 50 1)) + 1)).toNatClampNeg) (((am_put (am_put (am_put (am_put (am_put σ 50 0 0) 51 (((σ.1 50 1)).toNatClampNeg) x1) 52 (((σ.1 50 1)).toNatClampNeg) x2) 53 (((σ.1 50 1)).toNatClampNeg) (vp_nar .boolean (if x6 = 1 then (1 : Int32) else 0))) 54 (((4 * (σ.1 50 1))).toNatClampNeg) (if x2 = 0 then ((σ.1 54 ((((4 * x1) + 2)).toNatClampNeg)) : Int32) else ((σ.1 54 (((4 * x1)).toNatClampNeg)) - x5))).1 54 ((((4 * x1) + 1)).toNatClampNeg)) + x3)) 54 ((((4 * (σ.1 50 1)) + 2)).toNatClampNeg) (((am_put (am_put (am_put (am_put (am_put (am_put σ 50 0 0) 51 (((σ.1 50 1)).toNatClampNeg) x1) 52 (((σ.1 50 1)).toNatClampNeg) x2) 53 (((σ.1 50 1)).toNatClampNeg) (vp_nar .boolean (if x6 = 1 then (1 : Int32) else 0))) 54 (((4 * (σ.1 50 1))).toNatClampNeg) (if x2 = 0 then ((σ.1 54 ((((4 * x1) + 2)).toNatClampNeg)) : Int32) else ((σ.1 54 (((4 * x1)).toNatClampNeg)) - x5))) 54 ((((4 * (σ.1 50 1)) + 1)).toNatClampNeg) (((am_put (am_put (am_put (am_put (am_put σ 50 0 0) 51 (((σ.1 50 1)).toNatClampNeg) x1) 52 (((σ.1 50 1)).toNatClampNeg) x2) 53 (((σ.1 50 1)).toNatClampNeg) (vp_nar .boolean (if x6 = 1 then (1 : Int32) else 0))) 54 (((4 * (σ.1 50 1))).toNatClampNeg) (if x2 = 0 then ((σ.1 54 ((((4 * x1) + 2)).toNatClampNeg)) : Int32) else ((σ.1 54 (((4 * x1)).toNatClampNeg)) - x5))).1 54 ((((4 * x1) + 1)).toNatClampNeg)) + x3)).1 54 (((4 * (σ.1 50 1))).toNatClampNeg)) + x5)) 54 ((((4 * (σ.1 50 1)) + 3)).toNatClampNeg) (((am_put (am_put (am_put (am_put (am_put (am_put (am_put σ 50 0 0) 51 (((σ.1 50 1)).toNatClampNeg) x1) 52 (((σ.1 50 1)).toNatClampNeg) x2) 53 (((σ.1 50 1)).toNatClampNeg) (vp_nar .boolean (if x6 = 1 then (1 : Int32) else 0))) 54 (((4 * (σ.1 50 1))).toNatClampNeg) (if x2 = 0 then ((σ.1 54 ((((4 * x1) + 2)).toNatClampNeg)) : Int32) else ((σ.1 54 (((4 * x1)).toNatClampNeg)) - x5))) 54 ((((4 * (σ.1 50 1)) + 1)).toNatClampNeg) (((am_put (am_put (am_put (am_put (am_put σ 50 0 0) 51 (((σ.1 50 1)).toNatClampNeg) x1) 52 (((σ.1 50 1)).toNatClampNeg) x2) 53 (((σ.1 50 1)).toNatClampNeg) (vp_nar .boolean (if x6 = 1 then (1 : Int32) else 0))) 54 (((4 * (σ.1 50 1))).toNatClampNeg) (if x2 = 0 then ((σ.1 54 ((((4 * x1) + 2)).toNatClampNeg)) : Int32) else ((σ.1 54 (((4 * x1)).toNatClampNeg)) - x5))).1 54 ((((4 * x1) + 1)).toNatClampNeg)) + x3)) 54 ((((4 * (σ.1 50 1)) + 2)).toNatClampNeg) (((am_put (am_put (am_put (am_put (am_put (am_put σ 50 0 0) 51 (((σ.1 50 1)).toNatClampNeg) x1) 52 (((σ.1 50 1)).toNatClampNeg) x2) 53 (((σ.1 50 1)).toNatClampNeg) (vp_nar .boolean (if x6 = 1 then (1 : Int32) else 0))) 54 (((4 * (σ.1 50 1))).toNatClampNeg) (if x2 = 0 then ((σ.1 54 ((((4 * x1) + 2)).toNatClampNeg)) : Int32) else ((σ.1 54 (((4 * x1)).toNatClampNeg)) - x5))) 54 ((((4 * (σ.1 50 1)) + 1)).toNatClampNeg) (((am_put (am_put (am_put (am_put (am_put σ 50 0 0) 51 (((σ.1 50 1)).toNatClampNeg) x1) 52 (((σ.1 50 1)).toNatClampNeg) x2) 53 (((σ.1 50 1)).toNatClampNeg) (vp_nar .boolean (if x6 = 1 then (1 : Int32) else 0))) 54 (((4 * (σ.1 50 1))).toNatClampNeg) (if x2 = 0 then ((σ.1 54 ((((4 * x1) + 2)).toNatClampNeg)) : Int32) else ((σ.1 54 (((4 * x1)).toNatClampNeg)) - x5))).1 54 ((((4 * x1) + 1)).toNatClampNeg)) + x3)).1 54 (((4 * (σ.1 50 1))).toNatClampNeg)) + x5)).1 54 ((((4 * (σ.1 50 1)) + 1)).toNatClampNeg)) + x4)) 50 1 ((σ.1 50 1) + 1)) 50 16 0)))))))))))
set_option maxRecDepth 20000 in
theorem s_77 (L : Nat) (σ : am_M) (x1 : Int32) (x2 : Int32) (x3 : Int32) (x4 : Int32) (x5 : Int32) (x6 : Int32) (h : p_77 σ x1 x2 x3 x4 x5 x6) : am_r L 77 0 [some (.inr (.inr (50, none))), some (.inl x1), some (.inl x2), some (.inl x3), some (.inl x4), some (.inl x5), some (.inl x6), none, none, none, none] [] σ = some (some (.inl (v_77 σ x1 x2 x3 x4 x5 x6)), am_sh0 L, w_77 σ x1 x2 x3 x4 x5 x6) := by
  unfold p_77 at h
  unfold v_77 w_77
  refine (e_77_0 _ _ _ _ _ _ _ _).trans ?_
  refine (am_bind_i (s_75 L (am_put σ 50 0 0) (Int32.toInt64 x1) ((0 : Int32).toInt64) ((Int32.toInt64 (σ.1 50 1)) - (1 : Int32).toInt64))).trans ?_
  refine (e_77_18 _ _ _ _ _ _ _ _ _).trans ?_
  refine am_fkIvm (fun hc194 => ?_) (fun hc194 => ?_)
  · refine (e_77_53 _ _ _ _ _ _ _ _).trans ?_
    rfl
  · refine (am_bind_i (s_75 L (am_put σ 50 0 0) (Int32.toInt64 x2) ((0 : Int32).toInt64) ((3 : Int32).toInt64))).trans ?_
    refine (e_77_30 _ _ _ _ _ _ _ _ _).trans ?_
    refine am_fkIvm (fun hc195 => ?_) (fun hc195 => ?_)
    · refine (e_77_53 _ _ _ _ _ _ _ _).trans ?_
      rfl
    · refine (am_bind_i (s_75 L (am_put σ 50 0 0) (Int32.toInt64 x6) ((0 : Int32).toInt64) ((1 : Int32).toInt64))).trans ?_
      refine (e_77_41 _ _ _ _ _ _ _ _ _).trans ?_
      refine am_fkIvm (fun hc196 => ?_) (fun hc196 => ?_)
      · refine (e_77_53 _ _ _ _ _ _ _ _).trans ?_
        rfl
      · refine am_fkIvm (fun hc197 => ?_) (fun hc197 => ?_)
        · refine (e_77_53 _ _ _ _ _ _ _ _).trans ?_
          rfl
        · refine (e_77_55 _ _ _ _ _ _ _ _).trans ?_
          refine am_fkIvm (fun hc198 => ?_) (fun hc198 => ?_)
          · refine (if_neg ((((((h hc194) hc195) hc196) hc197).1 hc198).1)).trans ?_
            refine am_fkIvm (fun hc199 => ?_) (fun hc199 => ?_)
            · rfl
            · refine (e_77_75 _ _ _ _ _ _ _ _).trans ?_
              refine Eq.trans (b := am_r L 77 91 [some (.inr (.inr (50, none))), some (.inl x1), some (.inl x2), some (.inl x3), some (.inl x4), some (.inl x5), some (.inl x6), some (.inl (4 * x1)), none, none, none] [.inl (if (x2 - x2 / 2 * 2) = 0 then (1 : Int32) else 0)] (am_put σ 50 0 0)) ?_ ?_
              · by_cases hc200 : (x2 - x2 / 2 * 2) = 0
                · refine (if_pos hc200).trans ?_
                  refine Eq.trans (b := am_r L 77 91 [some (.inr (.inr (50, none))), some (.inl x1), some (.inl x2), some (.inl x3), some (.inl x4), some (.inl x5), some (.inl x6), some (.inl (4 * x1)), none, none, none] [.inl 1] (am_put σ 50 0 0)) ?_ ?_
                  · rfl
                  · first | with_reducible rfl | simp only [if_pos hc200]
                · refine (if_neg hc200).trans ?_
                  refine Eq.trans (b := am_r L 77 91 [some (.inr (.inr (50, none))), some (.inl x1), some (.inl x2), some (.inl x3), some (.inl x4), some (.inl x5), some (.inl x6), some (.inl (4 * x1)), none, none, none] [.inl 0] (am_put σ 50 0 0)) ?_ ?_
                  · refine (e_77_90 _ _ _ _ _ _ _ _ _).trans ?_
                    rfl
                  · first | with_reducible rfl | simp only [if_neg hc200]
              refine (e_77_91 _ _ _ _ _ _ _ _ _ _).trans ?_
              refine Eq.trans (b := am_r L 77 137 [some (.inr (.inr (50, none))), some (.inl x1), some (.inl x2), some (.inl x3), some (.inl x4), some (.inl x5), some (.inl x6), some (.inl (4 * x1)), some (.inl (if (x2 - x2 / 2 * 2) = 0 then (1 : Int32) else 0)), none, none] [.inl (if (if (x2 - x2 / 2 * 2) = 0 then (1 : Int32) else 0) = 0 then (((σ.1 54 ((((4 * x1) + 2)).toNatClampNeg)) - (σ.1 54 (((4 * x1)).toNatClampNeg))) : Int32) else ((σ.1 54 ((((4 * x1) + 3)).toNatClampNeg)) - (σ.1 54 ((((4 * x1) + 1)).toNatClampNeg))))] (am_put σ 50 0 0)) ?_ ?_
              · by_cases hc201 : (if (x2 - x2 / 2 * 2) = 0 then (1 : Int32) else 0) = 0
                · refine (if_pos hc201).trans ?_
                  refine Eq.trans (b := am_r L 77 137 [some (.inr (.inr (50, none))), some (.inl x1), some (.inl x2), some (.inl x3), some (.inl x4), some (.inl x5), some (.inl x6), some (.inl (4 * x1)), some (.inl (if (x2 - x2 / 2 * 2) = 0 then (1 : Int32) else 0)), none, none] [.inl ((σ.1 54 ((((4 * x1) + 2)).toNatClampNeg)) - (σ.1 54 (((4 * x1)).toNatClampNeg)))] (am_put σ 50 0 0)) ?_ ?_
                  · refine (e_77_120 _ _ _ _ _ _ _ _ _ _).trans ?_
                    refine (if_neg ((((((((h hc194) hc195) hc196) hc197).1 hc198).2 hc199).1.1 hc201).1)).trans ?_
                    refine (if_neg ((((((((h hc194) hc195) hc196) hc197).1 hc198).2 hc199).1.1 hc201).2)).trans ?_
                    rfl
                  · first | with_reducible rfl | simp only [if_pos hc201]
                · refine (if_neg hc201).trans ?_
                  refine Eq.trans (b := am_r L 77 137 [some (.inr (.inr (50, none))), some (.inl x1), some (.inl x2), some (.inl x3), some (.inl x4), some (.inl x5), some (.inl x6), some (.inl (4 * x1)), some (.inl (if (x2 - x2 / 2 * 2) = 0 then (1 : Int32) else 0)), none, none] [.inl ((σ.1 54 ((((4 * x1) + 3)).toNatClampNeg)) - (σ.1 54 ((((4 * x1) + 1)).toNatClampNeg)))] (am_put σ 50 0 0)) ?_ ?_
                  · refine (if_neg ((((((((h hc194) hc195) hc196) hc197).1 hc198).2 hc199).1.2 hc201).1)).trans ?_
                    refine (if_neg ((((((((h hc194) hc195) hc196) hc197).1 hc198).2 hc199).1.2 hc201).2)).trans ?_
                    rfl
                  · first | with_reducible rfl | simp only [if_neg hc201]
              refine (e_77_137 _ _ _ _ _ _ _ _ _ _ _).trans ?_
              refine (am_bind_i (s_75 L (am_put σ 50 0 0) (Int32.toInt64 x4) ((1 : Int32).toInt64) ((2000 : Int32).toInt64))).trans ?_
              refine (e_77_149 _ _ _ _ _ _ _ _ _ _ _ _).trans ?_
              refine am_fkIvm (fun hc202 => ?_) (fun hc202 => ?_)
              · refine (e_77_182 _ _ _ _ _ _ _ _ _ _ _).trans ?_
                rfl
              · refine (am_bind_i (s_75 L (am_put σ 50 0 0) (Int32.toInt64 x5) ((1 : Int32).toInt64) ((2000 : Int32).toInt64))).trans ?_
                refine (e_77_162 _ _ _ _ _ _ _ _ _ _ _ _).trans ?_
                refine am_fkIvm (fun hc203 => ?_) (fun hc203 => ?_)
                · refine (e_77_182 _ _ _ _ _ _ _ _ _ _ _).trans ?_
                  rfl
                · refine am_fkIvm (fun hc204 => ?_) (fun hc204 => ?_)
                  · refine (e_77_182 _ _ _ _ _ _ _ _ _ _ _).trans ?_
                    rfl
                  · refine am_fkIvm (fun hc205 => ?_) (fun hc205 => ?_)
                    · refine (e_77_182 _ _ _ _ _ _ _ _ _ _ _).trans ?_
                      rfl
                    · refine (e_77_184 _ _ _ _ _ _ _ _ _ _ _).trans ?_
                      refine (if_neg (((((((((((h hc194) hc195) hc196) hc197).1 hc198).2 hc199).2 hc202) hc203) hc204) hc205).1)).trans ?_
                      refine (if_neg (((((((((((h hc194) hc195) hc196) hc197).1 hc198).2 hc199).2 hc202) hc203) hc204) hc205).2.1)).trans ?_
                      refine Eq.trans (b := am_r L 77 223 [some (.inr (.inr (50, none))), some (.inl x1), some (.inl x2), some (.inl x3), some (.inl x4), some (.inl x5), some (.inl x6), some (.inl (4 * x1)), some (.inl (if (x2 - x2 / 2 * 2) = 0 then (1 : Int32) else 0)), some (.inl (if (if (x2 - x2 / 2 * 2) = 0 then (1 : Int32) else 0) = 0 then (((σ.1 54 ((((4 * x1) + 2)).toNatClampNeg)) - (σ.1 54 (((4 * x1)).toNatClampNeg))) : Int32) else ((σ.1 54 ((((4 * x1) + 3)).toNatClampNeg)) - (σ.1 54 ((((4 * x1) + 1)).toNatClampNeg))))), some (.inl (σ.1 50 1))] [.inl (if x6 = 1 then (1 : Int32) else 0), .inl (σ.1 50 1), .inr (.inr (53, none))] (am_put (am_put (am_put σ 50 0 0) 51 (((σ.1 50 1)).toNatClampNeg) x1) 52 (((σ.1 50 1)).toNatClampNeg) x2)) ?_ ?_
                      · by_cases hc206 : x6 = 1
                        · refine (if_pos hc206).trans ?_
                          refine Eq.trans (b := am_r L 77 223 [some (.inr (.inr (50, none))), some (.inl x1), some (.inl x2), some (.inl x3), some (.inl x4), some (.inl x5), some (.inl x6), some (.inl (4 * x1)), some (.inl (if (x2 - x2 / 2 * 2) = 0 then (1 : Int32) else 0)), some (.inl (if (if (x2 - x2 / 2 * 2) = 0 then (1 : Int32) else 0) = 0 then (((σ.1 54 ((((4 * x1) + 2)).toNatClampNeg)) - (σ.1 54 (((4 * x1)).toNatClampNeg))) : Int32) else ((σ.1 54 ((((4 * x1) + 3)).toNatClampNeg)) - (σ.1 54 ((((4 * x1) + 1)).toNatClampNeg))))), some (.inl (σ.1 50 1))] [.inl 1, .inl (σ.1 50 1), .inr (.inr (53, none))] (am_put (am_put (am_put σ 50 0 0) 51 (((σ.1 50 1)).toNatClampNeg) x1) 52 (((σ.1 50 1)).toNatClampNeg) x2)) ?_ ?_
                          · rfl
                          · first | with_reducible rfl | simp only [if_pos hc206]
                        · refine (if_neg hc206).trans ?_
                          refine Eq.trans (b := am_r L 77 223 [some (.inr (.inr (50, none))), some (.inl x1), some (.inl x2), some (.inl x3), some (.inl x4), some (.inl x5), some (.inl x6), some (.inl (4 * x1)), some (.inl (if (x2 - x2 / 2 * 2) = 0 then (1 : Int32) else 0)), some (.inl (if (if (x2 - x2 / 2 * 2) = 0 then (1 : Int32) else 0) = 0 then (((σ.1 54 ((((4 * x1) + 2)).toNatClampNeg)) - (σ.1 54 (((4 * x1)).toNatClampNeg))) : Int32) else ((σ.1 54 ((((4 * x1) + 3)).toNatClampNeg)) - (σ.1 54 ((((4 * x1) + 1)).toNatClampNeg))))), some (.inl (σ.1 50 1))] [.inl 0, .inl (σ.1 50 1), .inr (.inr (53, none))] (am_put (am_put (am_put σ 50 0 0) 51 (((σ.1 50 1)).toNatClampNeg) x1) 52 (((σ.1 50 1)).toNatClampNeg) x2)) ?_ ?_
                          · refine (e_77_222 _ _ _ _ _ _ _ _ _ _ _ _ _).trans ?_
                            rfl
                          · first | with_reducible rfl | simp only [if_neg hc206]
                      refine (e_77_223 _ _ _ _ _ _ _ _ _ _ _ _ _ _).trans ?_
                      refine (if_neg (((((((((((h hc194) hc195) hc196) hc197).1 hc198).2 hc199).2 hc202) hc203) hc204) hc205).2.2.1)).trans ?_
                      refine am_fkIm (fun hc207 => ?_) (fun hc207 => ?_)
                      · refine (e_77_337 _ _ _ _ _ _ _ _ _ _ _ _).trans ?_
                        refine (if_neg ((((((((((((h hc194) hc195) hc196) hc197).1 hc198).2 hc199).2 hc202) hc203) hc204) hc205).2.2.2.1 hc207).1)).trans ?_
                        refine (if_neg ((((((((((((h hc194) hc195) hc196) hc197).1 hc198).2 hc199).2 hc202) hc203) hc204) hc205).2.2.2.1 hc207).2.1)).trans ?_
                        refine (e_77_367 _ _ _ _ _ _ _ _ _ _ _ _ _ _ _).trans ?_
                        refine Eq.trans (b := am_r L 77 394 [some (.inr (.inr (50, none))), some (.inl x1), some (.inl x2), some (.inl x3), some (.inl x4), some (.inl x5), some (.inl x6), some (.inl (4 * x1)), some (.inl (if (x2 - x2 / 2 * 2) = 0 then (1 : Int32) else 0)), some (.inl (if (if (x2 - x2 / 2 * 2) = 0 then (1 : Int32) else 0) = 0 then (((σ.1 54 ((((4 * x1) + 2)).toNatClampNeg)) - (σ.1 54 (((4 * x1)).toNatClampNeg))) : Int32) else ((σ.1 54 ((((4 * x1) + 3)).toNatClampNeg)) - (σ.1 54 ((((4 * x1) + 1)).toNatClampNeg))))), some (.inl (σ.1 50 1))] [.inl (if x2 = 1 then (((am_put (am_put (am_put (am_put (am_put σ 50 0 0) 51 (((σ.1 50 1)).toNatClampNeg) x1) 52 (((σ.1 50 1)).toNatClampNeg) x2) 53 (((σ.1 50 1)).toNatClampNeg) (vp_nar .boolean (if x6 = 1 then (1 : Int32) else 0))) 54 (((4 * (σ.1 50 1))).toNatClampNeg) ((σ.1 54 (((4 * x1)).toNatClampNeg)) + x3)).1 54 ((((4 * x1) + 3)).toNatClampNeg)) : Int32) else (((am_put (am_put (am_put (am_put (am_put σ 50 0 0) 51 (((σ.1 50 1)).toNatClampNeg) x1) 52 (((σ.1 50 1)).toNatClampNeg) x2) 53 (((σ.1 50 1)).toNatClampNeg) (vp_nar .boolean (if x6 = 1 then (1 : Int32) else 0))) 54 (((4 * (σ.1 50 1))).toNatClampNeg) ((σ.1 54 (((4 * x1)).toNatClampNeg)) + x3)).1 54 ((((4 * x1) + 1)).toNatClampNeg)) - x5)), .inl ((4 * (σ.1 50 1)) + 1), .inr (.inr (54, none))] (am_put (am_put (am_put (am_put (am_put σ 50 0 0) 51 (((σ.1 50 1)).toNatClampNeg) x1) 52 (((σ.1 50 1)).toNatClampNeg) x2) 53 (((σ.1 50 1)).toNatClampNeg) (vp_nar .boolean (if x6 = 1 then (1 : Int32) else 0))) 54 (((4 * (σ.1 50 1))).toNatClampNeg) ((σ.1 54 (((4 * x1)).toNatClampNeg)) + x3))) ?_ ?_
                        · by_cases hc208 : x2 = 1
                          · refine (if_pos hc208).trans ?_
                            refine Eq.trans (b := am_r L 77 394 [some (.inr (.inr (50, none))), some (.inl x1), some (.inl x2), some (.inl x3), some (.inl x4), some (.inl x5), some (.inl x6), some (.inl (4 * x1)), some (.inl (if (x2 - x2 / 2 * 2) = 0 then (1 : Int32) else 0)), some (.inl (if (if (x2 - x2 / 2 * 2) = 0 then (1 : Int32) else 0) = 0 then (((σ.1 54 ((((4 * x1) + 2)).toNatClampNeg)) - (σ.1 54 (((4 * x1)).toNatClampNeg))) : Int32) else ((σ.1 54 ((((4 * x1) + 3)).toNatClampNeg)) - (σ.1 54 ((((4 * x1) + 1)).toNatClampNeg))))), some (.inl (σ.1 50 1))] [.inl ((am_put (am_put (am_put (am_put (am_put σ 50 0 0) 51 (((σ.1 50 1)).toNatClampNeg) x1) 52 (((σ.1 50 1)).toNatClampNeg) x2) 53 (((σ.1 50 1)).toNatClampNeg) (vp_nar .boolean (if x6 = 1 then (1 : Int32) else 0))) 54 (((4 * (σ.1 50 1))).toNatClampNeg) ((σ.1 54 (((4 * x1)).toNatClampNeg)) + x3)).1 54 ((((4 * x1) + 3)).toNatClampNeg)), .inl ((4 * (σ.1 50 1)) + 1), .inr (.inr (54, none))] (am_put (am_put (am_put (am_put (am_put σ 50 0 0) 51 (((σ.1 50 1)).toNatClampNeg) x1) 52 (((σ.1 50 1)).toNatClampNeg) x2) 53 (((σ.1 50 1)).toNatClampNeg) (vp_nar .boolean (if x6 = 1 then (1 : Int32) else 0))) 54 (((4 * (σ.1 50 1))).toNatClampNeg) ((σ.1 54 (((4 * x1)).toNatClampNeg)) + x3))) ?_ ?_
                            · refine (if_neg (((((((((((((h hc194) hc195) hc196) hc197).1 hc198).2 hc199).2 hc202) hc203) hc204) hc205).2.2.2.1 hc207).2.2.1.1 hc208))).trans ?_
                              rfl
                            · first | with_reducible rfl | simp only [if_pos hc208]
                          · refine (if_neg hc208).trans ?_
                            refine Eq.trans (b := am_r L 77 394 [some (.inr (.inr (50, none))), some (.inl x1), some (.inl x2), some (.inl x3), some (.inl x4), some (.inl x5), some (.inl x6), some (.inl (4 * x1)), some (.inl (if (x2 - x2 / 2 * 2) = 0 then (1 : Int32) else 0)), some (.inl (if (if (x2 - x2 / 2 * 2) = 0 then (1 : Int32) else 0) = 0 then (((σ.1 54 ((((4 * x1) + 2)).toNatClampNeg)) - (σ.1 54 (((4 * x1)).toNatClampNeg))) : Int32) else ((σ.1 54 ((((4 * x1) + 3)).toNatClampNeg)) - (σ.1 54 ((((4 * x1) + 1)).toNatClampNeg))))), some (.inl (σ.1 50 1))] [.inl (((am_put (am_put (am_put (am_put (am_put σ 50 0 0) 51 (((σ.1 50 1)).toNatClampNeg) x1) 52 (((σ.1 50 1)).toNatClampNeg) x2) 53 (((σ.1 50 1)).toNatClampNeg) (vp_nar .boolean (if x6 = 1 then (1 : Int32) else 0))) 54 (((4 * (σ.1 50 1))).toNatClampNeg) ((σ.1 54 (((4 * x1)).toNatClampNeg)) + x3)).1 54 ((((4 * x1) + 1)).toNatClampNeg)) - x5), .inl ((4 * (σ.1 50 1)) + 1), .inr (.inr (54, none))] (am_put (am_put (am_put (am_put (am_put σ 50 0 0) 51 (((σ.1 50 1)).toNatClampNeg) x1) 52 (((σ.1 50 1)).toNatClampNeg) x2) 53 (((σ.1 50 1)).toNatClampNeg) (vp_nar .boolean (if x6 = 1 then (1 : Int32) else 0))) 54 (((4 * (σ.1 50 1))).toNatClampNeg) ((σ.1 54 (((4 * x1)).toNatClampNeg)) + x3))) ?_ ?_
                            · refine (e_77_382 _ _ _ _ _ _ _ _ _ _ _ _ _).trans ?_
                              refine (if_neg (((((((((((((h hc194) hc195) hc196) hc197).1 hc198).2 hc199).2 hc202) hc203) hc204) hc205).2.2.2.1 hc207).2.2.1.2 hc208))).trans ?_
                              rfl
                            · first | with_reducible rfl | simp only [if_neg hc208]
                        refine (e_77_394 _ _ _ _ _ _ _ _ _ _ _ _ _ _).trans ?_
                        refine (if_neg ((((((((((((h hc194) hc195) hc196) hc197).1 hc198).2 hc199).2 hc202) hc203) hc204) hc205).2.2.2.1 hc207).2.2.2.1)).trans ?_
                        refine (if_neg ((((((((((((h hc194) hc195) hc196) hc197).1 hc198).2 hc199).2 hc202) hc203) hc204) hc205).2.2.2.1 hc207).2.2.2.2.1)).trans ?_
                        refine (if_neg ((((((((((((h hc194) hc195) hc196) hc197).1 hc198).2 hc199).2 hc202) hc203) hc204) hc205).2.2.2.1 hc207).2.2.2.2.2.1)).trans ?_
                        refine (e_77_419 _ _ _ _ _ _ _ _ _ _ _ _).trans ?_
                        refine (if_neg ((((((((((((h hc194) hc195) hc196) hc197).1 hc198).2 hc199).2 hc202) hc203) hc204) hc205).2.2.2.1 hc207).2.2.2.2.2.2.1)).trans ?_
                        refine (if_neg ((((((((((((h hc194) hc195) hc196) hc197).1 hc198).2 hc199).2 hc202) hc203) hc204) hc205).2.2.2.1 hc207).2.2.2.2.2.2.2)).trans ?_
                        refine (e_77_443 _ _ _ _ _ _ _ _ _ _ _ _).trans ?_
                        rfl
                      · refine Eq.trans (b := am_r L 77 263 [some (.inr (.inr (50, none))), some (.inl x1), some (.inl x2), some (.inl x3), some (.inl x4), some (.inl x5), some (.inl x6), some (.inl (4 * x1)), some (.inl (if (x2 - x2 / 2 * 2) = 0 then (1 : Int32) else 0)), some (.inl (if (if (x2 - x2 / 2 * 2) = 0 then (1 : Int32) else 0) = 0 then (((σ.1 54 ((((4 * x1) + 2)).toNatClampNeg)) - (σ.1 54 (((4 * x1)).toNatClampNeg))) : Int32) else ((σ.1 54 ((((4 * x1) + 3)).toNatClampNeg)) - (σ.1 54 ((((4 * x1) + 1)).toNatClampNeg))))), some (.inl (σ.1 50 1))] [.inl (if x2 = 0 then ((σ.1 54 ((((4 * x1) + 2)).toNatClampNeg)) : Int32) else ((σ.1 54 (((4 * x1)).toNatClampNeg)) - x5)), .inl (4 * (σ.1 50 1)), .inr (.inr (54, none))] (am_put (am_put (am_put (am_put σ 50 0 0) 51 (((σ.1 50 1)).toNatClampNeg) x1) 52 (((σ.1 50 1)).toNatClampNeg) x2) 53 (((σ.1 50 1)).toNatClampNeg) (vp_nar .boolean (if x6 = 1 then (1 : Int32) else 0)))) ?_ ?_
                        · by_cases hc209 : x2 = 0
                          · refine (if_pos hc209).trans ?_
                            refine Eq.trans (b := am_r L 77 263 [some (.inr (.inr (50, none))), some (.inl x1), some (.inl x2), some (.inl x3), some (.inl x4), some (.inl x5), some (.inl x6), some (.inl (4 * x1)), some (.inl (if (x2 - x2 / 2 * 2) = 0 then (1 : Int32) else 0)), some (.inl (if (if (x2 - x2 / 2 * 2) = 0 then (1 : Int32) else 0) = 0 then (((σ.1 54 ((((4 * x1) + 2)).toNatClampNeg)) - (σ.1 54 (((4 * x1)).toNatClampNeg))) : Int32) else ((σ.1 54 ((((4 * x1) + 3)).toNatClampNeg)) - (σ.1 54 ((((4 * x1) + 1)).toNatClampNeg))))), some (.inl (σ.1 50 1))] [.inl (σ.1 54 ((((4 * x1) + 2)).toNatClampNeg)), .inl (4 * (σ.1 50 1)), .inr (.inr (54, none))] (am_put (am_put (am_put (am_put σ 50 0 0) 51 (((σ.1 50 1)).toNatClampNeg) x1) 52 (((σ.1 50 1)).toNatClampNeg) x2) 53 (((σ.1 50 1)).toNatClampNeg) (vp_nar .boolean (if x6 = 1 then (1 : Int32) else 0)))) ?_ ?_
                            · refine (if_neg (((((((((((((h hc194) hc195) hc196) hc197).1 hc198).2 hc199).2 hc202) hc203) hc204) hc205).2.2.2.2 hc207).1.1 hc209))).trans ?_
                              rfl
                            · first | with_reducible rfl | simp only [if_pos hc209]
                          · refine (if_neg hc209).trans ?_
                            refine Eq.trans (b := am_r L 77 263 [some (.inr (.inr (50, none))), some (.inl x1), some (.inl x2), some (.inl x3), some (.inl x4), some (.inl x5), some (.inl x6), some (.inl (4 * x1)), some (.inl (if (x2 - x2 / 2 * 2) = 0 then (1 : Int32) else 0)), some (.inl (if (if (x2 - x2 / 2 * 2) = 0 then (1 : Int32) else 0) = 0 then (((σ.1 54 ((((4 * x1) + 2)).toNatClampNeg)) - (σ.1 54 (((4 * x1)).toNatClampNeg))) : Int32) else ((σ.1 54 ((((4 * x1) + 3)).toNatClampNeg)) - (σ.1 54 ((((4 * x1) + 1)).toNatClampNeg))))), some (.inl (σ.1 50 1))] [.inl ((σ.1 54 (((4 * x1)).toNatClampNeg)) - x5), .inl (4 * (σ.1 50 1)), .inr (.inr (54, none))] (am_put (am_put (am_put (am_put σ 50 0 0) 51 (((σ.1 50 1)).toNatClampNeg) x1) 52 (((σ.1 50 1)).toNatClampNeg) x2) 53 (((σ.1 50 1)).toNatClampNeg) (vp_nar .boolean (if x6 = 1 then (1 : Int32) else 0)))) ?_ ?_
                            · refine (e_77_253 _ _ _ _ _ _ _ _ _ _ _ _ _).trans ?_
                              refine (if_neg (((((((((((((h hc194) hc195) hc196) hc197).1 hc198).2 hc199).2 hc202) hc203) hc204) hc205).2.2.2.2 hc207).1.2 hc209))).trans ?_
                              rfl
                            · first | with_reducible rfl | simp only [if_neg hc209]
                        refine (e_77_263 _ _ _ _ _ _ _ _ _ _ _ _ _ _).trans ?_
                        refine (if_neg ((((((((((((h hc194) hc195) hc196) hc197).1 hc198).2 hc199).2 hc202) hc203) hc204) hc205).2.2.2.2 hc207).2.1)).trans ?_
                        refine (if_neg ((((((((((((h hc194) hc195) hc196) hc197).1 hc198).2 hc199).2 hc202) hc203) hc204) hc205).2.2.2.2 hc207).2.2.1)).trans ?_
                        refine (if_neg ((((((((((((h hc194) hc195) hc196) hc197).1 hc198).2 hc199).2 hc202) hc203) hc204) hc205).2.2.2.2 hc207).2.2.2.1)).trans ?_
                        refine (e_77_287 _ _ _ _ _ _ _ _ _ _ _ _).trans ?_
                        refine (if_neg ((((((((((((h hc194) hc195) hc196) hc197).1 hc198).2 hc199).2 hc202) hc203) hc204) hc205).2.2.2.2 hc207).2.2.2.2.1)).trans ?_
                        refine (if_neg ((((((((((((h hc194) hc195) hc196) hc197).1 hc198).2 hc199).2 hc202) hc203) hc204) hc205).2.2.2.2 hc207).2.2.2.2.2.1)).trans ?_
                        refine (e_77_318 _ _ _ _ _ _ _ _ _ _ _ _ _ _).trans ?_
                        refine (if_neg ((((((((((((h hc194) hc195) hc196) hc197).1 hc198).2 hc199).2 hc202) hc203) hc204) hc205).2.2.2.2 hc207).2.2.2.2.2.2.1)).trans ?_
                        refine (if_neg ((((((((((((h hc194) hc195) hc196) hc197).1 hc198).2 hc199).2 hc202) hc203) hc204) hc205).2.2.2.2 hc207).2.2.2.2.2.2.2)).trans ?_
                        refine (e_77_443 _ _ _ _ _ _ _ _ _ _ _ _).trans ?_
                        rfl
          · refine (e_77_75 _ _ _ _ _ _ _ _).trans ?_
            refine Eq.trans (b := am_r L 77 91 [some (.inr (.inr (50, none))), some (.inl x1), some (.inl x2), some (.inl x3), some (.inl x4), some (.inl x5), some (.inl x6), some (.inl (4 * x1)), none, none, none] [.inl (if (x2 - x2 / 2 * 2) = 0 then (1 : Int32) else 0)] (am_put σ 50 0 0)) ?_ ?_
            · by_cases hc210 : (x2 - x2 / 2 * 2) = 0
              · refine (if_pos hc210).trans ?_
                refine Eq.trans (b := am_r L 77 91 [some (.inr (.inr (50, none))), some (.inl x1), some (.inl x2), some (.inl x3), some (.inl x4), some (.inl x5), some (.inl x6), some (.inl (4 * x1)), none, none, none] [.inl 1] (am_put σ 50 0 0)) ?_ ?_
                · rfl
                · first | with_reducible rfl | simp only [if_pos hc210]
              · refine (if_neg hc210).trans ?_
                refine Eq.trans (b := am_r L 77 91 [some (.inr (.inr (50, none))), some (.inl x1), some (.inl x2), some (.inl x3), some (.inl x4), some (.inl x5), some (.inl x6), some (.inl (4 * x1)), none, none, none] [.inl 0] (am_put σ 50 0 0)) ?_ ?_
                · refine (e_77_90 _ _ _ _ _ _ _ _ _).trans ?_
                  rfl
                · first | with_reducible rfl | simp only [if_neg hc210]
            refine (e_77_91 _ _ _ _ _ _ _ _ _ _).trans ?_
            refine Eq.trans (b := am_r L 77 137 [some (.inr (.inr (50, none))), some (.inl x1), some (.inl x2), some (.inl x3), some (.inl x4), some (.inl x5), some (.inl x6), some (.inl (4 * x1)), some (.inl (if (x2 - x2 / 2 * 2) = 0 then (1 : Int32) else 0)), none, none] [.inl (if (if (x2 - x2 / 2 * 2) = 0 then (1 : Int32) else 0) = 0 then (((σ.1 54 ((((4 * x1) + 2)).toNatClampNeg)) - (σ.1 54 (((4 * x1)).toNatClampNeg))) : Int32) else ((σ.1 54 ((((4 * x1) + 3)).toNatClampNeg)) - (σ.1 54 ((((4 * x1) + 1)).toNatClampNeg))))] (am_put σ 50 0 0)) ?_ ?_
            · by_cases hc211 : (if (x2 - x2 / 2 * 2) = 0 then (1 : Int32) else 0) = 0
              · refine (if_pos hc211).trans ?_
                refine Eq.trans (b := am_r L 77 137 [some (.inr (.inr (50, none))), some (.inl x1), some (.inl x2), some (.inl x3), some (.inl x4), some (.inl x5), some (.inl x6), some (.inl (4 * x1)), some (.inl (if (x2 - x2 / 2 * 2) = 0 then (1 : Int32) else 0)), none, none] [.inl ((σ.1 54 ((((4 * x1) + 2)).toNatClampNeg)) - (σ.1 54 (((4 * x1)).toNatClampNeg)))] (am_put σ 50 0 0)) ?_ ?_
                · refine (e_77_120 _ _ _ _ _ _ _ _ _ _).trans ?_
                  refine (if_neg (((((((h hc194) hc195) hc196) hc197).2 hc198).1.1 hc211).1)).trans ?_
                  refine (if_neg (((((((h hc194) hc195) hc196) hc197).2 hc198).1.1 hc211).2)).trans ?_
                  rfl
                · first | with_reducible rfl | simp only [if_pos hc211]
              · refine (if_neg hc211).trans ?_
                refine Eq.trans (b := am_r L 77 137 [some (.inr (.inr (50, none))), some (.inl x1), some (.inl x2), some (.inl x3), some (.inl x4), some (.inl x5), some (.inl x6), some (.inl (4 * x1)), some (.inl (if (x2 - x2 / 2 * 2) = 0 then (1 : Int32) else 0)), none, none] [.inl ((σ.1 54 ((((4 * x1) + 3)).toNatClampNeg)) - (σ.1 54 ((((4 * x1) + 1)).toNatClampNeg)))] (am_put σ 50 0 0)) ?_ ?_
                · refine (if_neg (((((((h hc194) hc195) hc196) hc197).2 hc198).1.2 hc211).1)).trans ?_
                  refine (if_neg (((((((h hc194) hc195) hc196) hc197).2 hc198).1.2 hc211).2)).trans ?_
                  rfl
                · first | with_reducible rfl | simp only [if_neg hc211]
            refine (e_77_137 _ _ _ _ _ _ _ _ _ _ _).trans ?_
            refine (am_bind_i (s_75 L (am_put σ 50 0 0) (Int32.toInt64 x4) ((1 : Int32).toInt64) ((2000 : Int32).toInt64))).trans ?_
            refine (e_77_149 _ _ _ _ _ _ _ _ _ _ _ _).trans ?_
            refine am_fkIvm (fun hc212 => ?_) (fun hc212 => ?_)
            · refine (e_77_182 _ _ _ _ _ _ _ _ _ _ _).trans ?_
              rfl
            · refine (am_bind_i (s_75 L (am_put σ 50 0 0) (Int32.toInt64 x5) ((1 : Int32).toInt64) ((2000 : Int32).toInt64))).trans ?_
              refine (e_77_162 _ _ _ _ _ _ _ _ _ _ _ _).trans ?_
              refine am_fkIvm (fun hc213 => ?_) (fun hc213 => ?_)
              · refine (e_77_182 _ _ _ _ _ _ _ _ _ _ _).trans ?_
                rfl
              · refine am_fkIvm (fun hc214 => ?_) (fun hc214 => ?_)
                · refine (e_77_182 _ _ _ _ _ _ _ _ _ _ _).trans ?_
                  rfl
                · refine am_fkIvm (fun hc215 => ?_) (fun hc215 => ?_)
                  · refine (e_77_182 _ _ _ _ _ _ _ _ _ _ _).trans ?_
                    rfl
                  · refine (e_77_184 _ _ _ _ _ _ _ _ _ _ _).trans ?_
                    refine (if_neg ((((((((((h hc194) hc195) hc196) hc197).2 hc198).2 hc212) hc213) hc214) hc215).1)).trans ?_
                    refine (if_neg ((((((((((h hc194) hc195) hc196) hc197).2 hc198).2 hc212) hc213) hc214) hc215).2.1)).trans ?_
                    refine Eq.trans (b := am_r L 77 223 [some (.inr (.inr (50, none))), some (.inl x1), some (.inl x2), some (.inl x3), some (.inl x4), some (.inl x5), some (.inl x6), some (.inl (4 * x1)), some (.inl (if (x2 - x2 / 2 * 2) = 0 then (1 : Int32) else 0)), some (.inl (if (if (x2 - x2 / 2 * 2) = 0 then (1 : Int32) else 0) = 0 then (((σ.1 54 ((((4 * x1) + 2)).toNatClampNeg)) - (σ.1 54 (((4 * x1)).toNatClampNeg))) : Int32) else ((σ.1 54 ((((4 * x1) + 3)).toNatClampNeg)) - (σ.1 54 ((((4 * x1) + 1)).toNatClampNeg))))), some (.inl (σ.1 50 1))] [.inl (if x6 = 1 then (1 : Int32) else 0), .inl (σ.1 50 1), .inr (.inr (53, none))] (am_put (am_put (am_put σ 50 0 0) 51 (((σ.1 50 1)).toNatClampNeg) x1) 52 (((σ.1 50 1)).toNatClampNeg) x2)) ?_ ?_
                    · by_cases hc216 : x6 = 1
                      · refine (if_pos hc216).trans ?_
                        refine Eq.trans (b := am_r L 77 223 [some (.inr (.inr (50, none))), some (.inl x1), some (.inl x2), some (.inl x3), some (.inl x4), some (.inl x5), some (.inl x6), some (.inl (4 * x1)), some (.inl (if (x2 - x2 / 2 * 2) = 0 then (1 : Int32) else 0)), some (.inl (if (if (x2 - x2 / 2 * 2) = 0 then (1 : Int32) else 0) = 0 then (((σ.1 54 ((((4 * x1) + 2)).toNatClampNeg)) - (σ.1 54 (((4 * x1)).toNatClampNeg))) : Int32) else ((σ.1 54 ((((4 * x1) + 3)).toNatClampNeg)) - (σ.1 54 ((((4 * x1) + 1)).toNatClampNeg))))), some (.inl (σ.1 50 1))] [.inl 1, .inl (σ.1 50 1), .inr (.inr (53, none))] (am_put (am_put (am_put σ 50 0 0) 51 (((σ.1 50 1)).toNatClampNeg) x1) 52 (((σ.1 50 1)).toNatClampNeg) x2)) ?_ ?_
                        · rfl
                        · first | with_reducible rfl | simp only [if_pos hc216]
                      · refine (if_neg hc216).trans ?_
                        refine Eq.trans (b := am_r L 77 223 [some (.inr (.inr (50, none))), some (.inl x1), some (.inl x2), some (.inl x3), some (.inl x4), some (.inl x5), some (.inl x6), some (.inl (4 * x1)), some (.inl (if (x2 - x2 / 2 * 2) = 0 then (1 : Int32) else 0)), some (.inl (if (if (x2 - x2 / 2 * 2) = 0 then (1 : Int32) else 0) = 0 then (((σ.1 54 ((((4 * x1) + 2)).toNatClampNeg)) - (σ.1 54 (((4 * x1)).toNatClampNeg))) : Int32) else ((σ.1 54 ((((4 * x1) + 3)).toNatClampNeg)) - (σ.1 54 ((((4 * x1) + 1)).toNatClampNeg))))), some (.inl (σ.1 50 1))] [.inl 0, .inl (σ.1 50 1), .inr (.inr (53, none))] (am_put (am_put (am_put σ 50 0 0) 51 (((σ.1 50 1)).toNatClampNeg) x1) 52 (((σ.1 50 1)).toNatClampNeg) x2)) ?_ ?_
                        · refine (e_77_222 _ _ _ _ _ _ _ _ _ _ _ _ _).trans ?_
                          rfl
                        · first | with_reducible rfl | simp only [if_neg hc216]
                    refine (e_77_223 _ _ _ _ _ _ _ _ _ _ _ _ _ _).trans ?_
                    refine (if_neg ((((((((((h hc194) hc195) hc196) hc197).2 hc198).2 hc212) hc213) hc214) hc215).2.2.1)).trans ?_
                    refine am_fkIm (fun hc217 => ?_) (fun hc217 => ?_)
                    · refine (e_77_337 _ _ _ _ _ _ _ _ _ _ _ _).trans ?_
                      refine (if_neg (((((((((((h hc194) hc195) hc196) hc197).2 hc198).2 hc212) hc213) hc214) hc215).2.2.2.1 hc217).1)).trans ?_
                      refine (if_neg (((((((((((h hc194) hc195) hc196) hc197).2 hc198).2 hc212) hc213) hc214) hc215).2.2.2.1 hc217).2.1)).trans ?_
                      refine (e_77_367 _ _ _ _ _ _ _ _ _ _ _ _ _ _ _).trans ?_
                      refine Eq.trans (b := am_r L 77 394 [some (.inr (.inr (50, none))), some (.inl x1), some (.inl x2), some (.inl x3), some (.inl x4), some (.inl x5), some (.inl x6), some (.inl (4 * x1)), some (.inl (if (x2 - x2 / 2 * 2) = 0 then (1 : Int32) else 0)), some (.inl (if (if (x2 - x2 / 2 * 2) = 0 then (1 : Int32) else 0) = 0 then (((σ.1 54 ((((4 * x1) + 2)).toNatClampNeg)) - (σ.1 54 (((4 * x1)).toNatClampNeg))) : Int32) else ((σ.1 54 ((((4 * x1) + 3)).toNatClampNeg)) - (σ.1 54 ((((4 * x1) + 1)).toNatClampNeg))))), some (.inl (σ.1 50 1))] [.inl (if x2 = 1 then (((am_put (am_put (am_put (am_put (am_put σ 50 0 0) 51 (((σ.1 50 1)).toNatClampNeg) x1) 52 (((σ.1 50 1)).toNatClampNeg) x2) 53 (((σ.1 50 1)).toNatClampNeg) (vp_nar .boolean (if x6 = 1 then (1 : Int32) else 0))) 54 (((4 * (σ.1 50 1))).toNatClampNeg) ((σ.1 54 (((4 * x1)).toNatClampNeg)) + x3)).1 54 ((((4 * x1) + 3)).toNatClampNeg)) : Int32) else (((am_put (am_put (am_put (am_put (am_put σ 50 0 0) 51 (((σ.1 50 1)).toNatClampNeg) x1) 52 (((σ.1 50 1)).toNatClampNeg) x2) 53 (((σ.1 50 1)).toNatClampNeg) (vp_nar .boolean (if x6 = 1 then (1 : Int32) else 0))) 54 (((4 * (σ.1 50 1))).toNatClampNeg) ((σ.1 54 (((4 * x1)).toNatClampNeg)) + x3)).1 54 ((((4 * x1) + 1)).toNatClampNeg)) - x5)), .inl ((4 * (σ.1 50 1)) + 1), .inr (.inr (54, none))] (am_put (am_put (am_put (am_put (am_put σ 50 0 0) 51 (((σ.1 50 1)).toNatClampNeg) x1) 52 (((σ.1 50 1)).toNatClampNeg) x2) 53 (((σ.1 50 1)).toNatClampNeg) (vp_nar .boolean (if x6 = 1 then (1 : Int32) else 0))) 54 (((4 * (σ.1 50 1))).toNatClampNeg) ((σ.1 54 (((4 * x1)).toNatClampNeg)) + x3))) ?_ ?_
                      · by_cases hc218 : x2 = 1
                        · refine (if_pos hc218).trans ?_
                          refine Eq.trans (b := am_r L 77 394 [some (.inr (.inr (50, none))), some (.inl x1), some (.inl x2), some (.inl x3), some (.inl x4), some (.inl x5), some (.inl x6), some (.inl (4 * x1)), some (.inl (if (x2 - x2 / 2 * 2) = 0 then (1 : Int32) else 0)), some (.inl (if (if (x2 - x2 / 2 * 2) = 0 then (1 : Int32) else 0) = 0 then (((σ.1 54 ((((4 * x1) + 2)).toNatClampNeg)) - (σ.1 54 (((4 * x1)).toNatClampNeg))) : Int32) else ((σ.1 54 ((((4 * x1) + 3)).toNatClampNeg)) - (σ.1 54 ((((4 * x1) + 1)).toNatClampNeg))))), some (.inl (σ.1 50 1))] [.inl ((am_put (am_put (am_put (am_put (am_put σ 50 0 0) 51 (((σ.1 50 1)).toNatClampNeg) x1) 52 (((σ.1 50 1)).toNatClampNeg) x2) 53 (((σ.1 50 1)).toNatClampNeg) (vp_nar .boolean (if x6 = 1 then (1 : Int32) else 0))) 54 (((4 * (σ.1 50 1))).toNatClampNeg) ((σ.1 54 (((4 * x1)).toNatClampNeg)) + x3)).1 54 ((((4 * x1) + 3)).toNatClampNeg)), .inl ((4 * (σ.1 50 1)) + 1), .inr (.inr (54, none))] (am_put (am_put (am_put (am_put (am_put σ 50 0 0) 51 (((σ.1 50 1)).toNatClampNeg) x1) 52 (((σ.1 50 1)).toNatClampNeg) x2) 53 (((σ.1 50 1)).toNatClampNeg) (vp_nar .boolean (if x6 = 1 then (1 : Int32) else 0))) 54 (((4 * (σ.1 50 1))).toNatClampNeg) ((σ.1 54 (((4 * x1)).toNatClampNeg)) + x3))) ?_ ?_
                          · refine (if_neg ((((((((((((h hc194) hc195) hc196) hc197).2 hc198).2 hc212) hc213) hc214) hc215).2.2.2.1 hc217).2.2.1.1 hc218))).trans ?_
                            rfl
                          · first | with_reducible rfl | simp only [if_pos hc218]
                        · refine (if_neg hc218).trans ?_
                          refine Eq.trans (b := am_r L 77 394 [some (.inr (.inr (50, none))), some (.inl x1), some (.inl x2), some (.inl x3), some (.inl x4), some (.inl x5), some (.inl x6), some (.inl (4 * x1)), some (.inl (if (x2 - x2 / 2 * 2) = 0 then (1 : Int32) else 0)), some (.inl (if (if (x2 - x2 / 2 * 2) = 0 then (1 : Int32) else 0) = 0 then (((σ.1 54 ((((4 * x1) + 2)).toNatClampNeg)) - (σ.1 54 (((4 * x1)).toNatClampNeg))) : Int32) else ((σ.1 54 ((((4 * x1) + 3)).toNatClampNeg)) - (σ.1 54 ((((4 * x1) + 1)).toNatClampNeg))))), some (.inl (σ.1 50 1))] [.inl (((am_put (am_put (am_put (am_put (am_put σ 50 0 0) 51 (((σ.1 50 1)).toNatClampNeg) x1) 52 (((σ.1 50 1)).toNatClampNeg) x2) 53 (((σ.1 50 1)).toNatClampNeg) (vp_nar .boolean (if x6 = 1 then (1 : Int32) else 0))) 54 (((4 * (σ.1 50 1))).toNatClampNeg) ((σ.1 54 (((4 * x1)).toNatClampNeg)) + x3)).1 54 ((((4 * x1) + 1)).toNatClampNeg)) - x5), .inl ((4 * (σ.1 50 1)) + 1), .inr (.inr (54, none))] (am_put (am_put (am_put (am_put (am_put σ 50 0 0) 51 (((σ.1 50 1)).toNatClampNeg) x1) 52 (((σ.1 50 1)).toNatClampNeg) x2) 53 (((σ.1 50 1)).toNatClampNeg) (vp_nar .boolean (if x6 = 1 then (1 : Int32) else 0))) 54 (((4 * (σ.1 50 1))).toNatClampNeg) ((σ.1 54 (((4 * x1)).toNatClampNeg)) + x3))) ?_ ?_
                          · refine (e_77_382 _ _ _ _ _ _ _ _ _ _ _ _ _).trans ?_
                            refine (if_neg ((((((((((((h hc194) hc195) hc196) hc197).2 hc198).2 hc212) hc213) hc214) hc215).2.2.2.1 hc217).2.2.1.2 hc218))).trans ?_
                            rfl
                          · first | with_reducible rfl | simp only [if_neg hc218]
                      refine (e_77_394 _ _ _ _ _ _ _ _ _ _ _ _ _ _).trans ?_
                      refine (if_neg (((((((((((h hc194) hc195) hc196) hc197).2 hc198).2 hc212) hc213) hc214) hc215).2.2.2.1 hc217).2.2.2.1)).trans ?_
                      refine (if_neg (((((((((((h hc194) hc195) hc196) hc197).2 hc198).2 hc212) hc213) hc214) hc215).2.2.2.1 hc217).2.2.2.2.1)).trans ?_
                      refine (if_neg (((((((((((h hc194) hc195) hc196) hc197).2 hc198).2 hc212) hc213) hc214) hc215).2.2.2.1 hc217).2.2.2.2.2.1)).trans ?_
                      refine (e_77_419 _ _ _ _ _ _ _ _ _ _ _ _).trans ?_
                      refine (if_neg (((((((((((h hc194) hc195) hc196) hc197).2 hc198).2 hc212) hc213) hc214) hc215).2.2.2.1 hc217).2.2.2.2.2.2.1)).trans ?_
                      refine (if_neg (((((((((((h hc194) hc195) hc196) hc197).2 hc198).2 hc212) hc213) hc214) hc215).2.2.2.1 hc217).2.2.2.2.2.2.2)).trans ?_
                      refine (e_77_443 _ _ _ _ _ _ _ _ _ _ _ _).trans ?_
                      rfl
                    · refine Eq.trans (b := am_r L 77 263 [some (.inr (.inr (50, none))), some (.inl x1), some (.inl x2), some (.inl x3), some (.inl x4), some (.inl x5), some (.inl x6), some (.inl (4 * x1)), some (.inl (if (x2 - x2 / 2 * 2) = 0 then (1 : Int32) else 0)), some (.inl (if (if (x2 - x2 / 2 * 2) = 0 then (1 : Int32) else 0) = 0 then (((σ.1 54 ((((4 * x1) + 2)).toNatClampNeg)) - (σ.1 54 (((4 * x1)).toNatClampNeg))) : Int32) else ((σ.1 54 ((((4 * x1) + 3)).toNatClampNeg)) - (σ.1 54 ((((4 * x1) + 1)).toNatClampNeg))))), some (.inl (σ.1 50 1))] [.inl (if x2 = 0 then ((σ.1 54 ((((4 * x1) + 2)).toNatClampNeg)) : Int32) else ((σ.1 54 (((4 * x1)).toNatClampNeg)) - x5)), .inl (4 * (σ.1 50 1)), .inr (.inr (54, none))] (am_put (am_put (am_put (am_put σ 50 0 0) 51 (((σ.1 50 1)).toNatClampNeg) x1) 52 (((σ.1 50 1)).toNatClampNeg) x2) 53 (((σ.1 50 1)).toNatClampNeg) (vp_nar .boolean (if x6 = 1 then (1 : Int32) else 0)))) ?_ ?_
                      · by_cases hc219 : x2 = 0
                        · refine (if_pos hc219).trans ?_
                          refine Eq.trans (b := am_r L 77 263 [some (.inr (.inr (50, none))), some (.inl x1), some (.inl x2), some (.inl x3), some (.inl x4), some (.inl x5), some (.inl x6), some (.inl (4 * x1)), some (.inl (if (x2 - x2 / 2 * 2) = 0 then (1 : Int32) else 0)), some (.inl (if (if (x2 - x2 / 2 * 2) = 0 then (1 : Int32) else 0) = 0 then (((σ.1 54 ((((4 * x1) + 2)).toNatClampNeg)) - (σ.1 54 (((4 * x1)).toNatClampNeg))) : Int32) else ((σ.1 54 ((((4 * x1) + 3)).toNatClampNeg)) - (σ.1 54 ((((4 * x1) + 1)).toNatClampNeg))))), some (.inl (σ.1 50 1))] [.inl (σ.1 54 ((((4 * x1) + 2)).toNatClampNeg)), .inl (4 * (σ.1 50 1)), .inr (.inr (54, none))] (am_put (am_put (am_put (am_put σ 50 0 0) 51 (((σ.1 50 1)).toNatClampNeg) x1) 52 (((σ.1 50 1)).toNatClampNeg) x2) 53 (((σ.1 50 1)).toNatClampNeg) (vp_nar .boolean (if x6 = 1 then (1 : Int32) else 0)))) ?_ ?_
                          · refine (if_neg ((((((((((((h hc194) hc195) hc196) hc197).2 hc198).2 hc212) hc213) hc214) hc215).2.2.2.2 hc217).1.1 hc219))).trans ?_
                            rfl
                          · first | with_reducible rfl | simp only [if_pos hc219]
                        · refine (if_neg hc219).trans ?_
                          refine Eq.trans (b := am_r L 77 263 [some (.inr (.inr (50, none))), some (.inl x1), some (.inl x2), some (.inl x3), some (.inl x4), some (.inl x5), some (.inl x6), some (.inl (4 * x1)), some (.inl (if (x2 - x2 / 2 * 2) = 0 then (1 : Int32) else 0)), some (.inl (if (if (x2 - x2 / 2 * 2) = 0 then (1 : Int32) else 0) = 0 then (((σ.1 54 ((((4 * x1) + 2)).toNatClampNeg)) - (σ.1 54 (((4 * x1)).toNatClampNeg))) : Int32) else ((σ.1 54 ((((4 * x1) + 3)).toNatClampNeg)) - (σ.1 54 ((((4 * x1) + 1)).toNatClampNeg))))), some (.inl (σ.1 50 1))] [.inl ((σ.1 54 (((4 * x1)).toNatClampNeg)) - x5), .inl (4 * (σ.1 50 1)), .inr (.inr (54, none))] (am_put (am_put (am_put (am_put σ 50 0 0) 51 (((σ.1 50 1)).toNatClampNeg) x1) 52 (((σ.1 50 1)).toNatClampNeg) x2) 53 (((σ.1 50 1)).toNatClampNeg) (vp_nar .boolean (if x6 = 1 then (1 : Int32) else 0)))) ?_ ?_
                          · refine (e_77_253 _ _ _ _ _ _ _ _ _ _ _ _ _).trans ?_
                            refine (if_neg ((((((((((((h hc194) hc195) hc196) hc197).2 hc198).2 hc212) hc213) hc214) hc215).2.2.2.2 hc217).1.2 hc219))).trans ?_
                            rfl
                          · first | with_reducible rfl | simp only [if_neg hc219]
                      refine (e_77_263 _ _ _ _ _ _ _ _ _ _ _ _ _ _).trans ?_
                      refine (if_neg (((((((((((h hc194) hc195) hc196) hc197).2 hc198).2 hc212) hc213) hc214) hc215).2.2.2.2 hc217).2.1)).trans ?_
                      refine (if_neg (((((((((((h hc194) hc195) hc196) hc197).2 hc198).2 hc212) hc213) hc214) hc215).2.2.2.2 hc217).2.2.1)).trans ?_
                      refine (if_neg (((((((((((h hc194) hc195) hc196) hc197).2 hc198).2 hc212) hc213) hc214) hc215).2.2.2.2 hc217).2.2.2.1)).trans ?_
                      refine (e_77_287 _ _ _ _ _ _ _ _ _ _ _ _).trans ?_
                      refine (if_neg (((((((((((h hc194) hc195) hc196) hc197).2 hc198).2 hc212) hc213) hc214) hc215).2.2.2.2 hc217).2.2.2.2.1)).trans ?_
                      refine (if_neg (((((((((((h hc194) hc195) hc196) hc197).2 hc198).2 hc212) hc213) hc214) hc215).2.2.2.2 hc217).2.2.2.2.2.1)).trans ?_
                      refine (e_77_318 _ _ _ _ _ _ _ _ _ _ _ _ _ _).trans ?_
                      refine (if_neg (((((((((((h hc194) hc195) hc196) hc197).2 hc198).2 hc212) hc213) hc214) hc215).2.2.2.2 hc217).2.2.2.2.2.2.1)).trans ?_
                      refine (if_neg (((((((((((h hc194) hc195) hc196) hc197).2 hc198).2 hc212) hc213) hc214) hc215).2.2.2.2 hc217).2.2.2.2.2.2.2)).trans ?_
                      refine (e_77_443 _ _ _ _ _ _ _ _ _ _ _ _).trans ?_
                      rfl
