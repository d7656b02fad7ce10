-- 94: X5_isBend
def v_94 (σ : am_M) (x1 : Int32) : Int32 := (v_75 σ (Int32.toInt64 x1) ((1 : Int32).toInt64) ((Int32.toInt64 (σ.1 50 1)) - (1 : Int32).toInt64))
set_option maxRecDepth 20000 in
theorem s_94 (L : Nat) (σ : am_M) (x1 : Int32) : am_r L 94 0 [some (.inr (.inr (50, none))), some (.inl x1)] [] σ = some (some (.inl (v_94 σ x1)), am_sh0 L, σ) := by
  unfold v_94
  refine (e_94_0 _ _ _).trans ?_
  refine (am_bind_i (s_75 L σ (Int32.toInt64 x1) ((1 : Int32).toInt64) ((Int32.toInt64 (σ.1 50 1)) - (1 : Int32).toInt64))).trans ?_
  refine (e_94_13 _ _ _ _).trans ?_
  refine (if_pos (b_75 σ (Int32.toInt64 x1) ((1 : Int32).toInt64) ((Int32.toInt64 (σ.1 50 1)) - (1 : Int32).toInt64))).trans ?_
  rfl
theorem b_94 (σ : am_M) (x1 : Int32) : v_94 σ x1 = 0 ∨ v_94 σ x1 = 1 := (b_75 σ (Int32.toInt64 x1) ((1 : Int32).toInt64) ((Int32.toInt64 (σ.1 50 1)) - (1 : Int32).toInt64))
-- 95: X5_behind
def l_95_8 : Nat → am_M → Int32 → Int32 → Int32 → Int32
  | 0, _, _, _, _ => 0
  | n + 1, σ, x1, x2, x3 => (if x3 < (σ.1 50 1) then (l_95_8 n σ x1 (x2 ||| (((x2 >>> ((σ.1 51 x3.toNatClampNeg) &&& (31 : Int32))) &&& (1 : Int32)) <<< (x3 &&& (31 : Int32)))) (x3 + 1)) else x2)
def q_95_8 : Nat → am_M → Int32 → Int32 → Int32 → Prop
  | 0, _, _, _, _ => False
  | n + 1, σ, x1, x2, x3 => (x3 < (σ.1 50 1)) → ((¬ (x3 < 0 ∨ 13 ≤ x3.toNatClampNeg)) ∧ (q_95_8 n σ x1 (x2 ||| (((x2 >>> ((σ.1 51 x3.toNatClampNeg) &&& (31 : Int32))) &&& (1 : Int32)) <<< (x3 &&& (31 : Int32)))) (x3 + 1)))
set_option maxRecDepth 20000 in
theorem t_95_8 (L : Nat) (σ : am_M) : ∀ (n : Nat) (x1 : Int32) (x2 : Int32) (x3 : Int32), q_95_8 n σ x1 x2 x3 → am_r L 95 8 [some (.inr (.inr (50, none))), some (.inl x1), some (.inl x2), some (.inl x3)] [] σ = some (some (.inl (l_95_8 n σ x1 x2 x3)), am_sh0 L, σ) := by
  intro n
  induction n with
  | zero => intro x1 x2 x3 h; exact h.elim
  | succ n ih =>
    intro x1 x2 x3 h
    unfold q_95_8 at h
    unfold l_95_8
    refine (e_95_8 _ _ _ _ _).trans ?_
    refine am_fkIv (fun hc307 => ?_) (fun hc307 => ?_)
    · refine (if_neg ((h hc307).1)).trans ?_
      exact ih x1 (x2 ||| (((x2 >>> ((σ.1 51 x3.toNatClampNeg) &&& (31 : Int32))) &&& (1 : Int32)) <<< (x3 &&& (31 : Int32)))) (x3 + 1) ((h hc307).2)
    · refine (e_95_37 _ _ _ _ _).trans ?_
      rfl
def p_95 (σ : am_M) (x1 : Int32) : Prop := q_95_8 14 σ x1 ((1 : Int32) <<< (x1 &&& (31 : Int32))) (x1 + 1)
def f_95 (σ : am_M) (x1 : Int32) : Int32 := (l_95_8 14 σ x1 ((1 : Int32) <<< (x1 &&& (31 : Int32))) (x1 + 1))
set_option maxRecDepth 20000 in
theorem sf_95 (L : Nat) (σ : am_M) (x1 : Int32) (h : p_95 σ x1) : am_r L 95 0 [some (.inr (.inr (50, none))), some (.inl x1), none, none] [] σ = some (some (.inl (f_95 σ x1)), am_sh0 L, σ) := by
  unfold p_95 at h
  unfold f_95
  refine (e_95_0 _ _ _).trans ?_
  exact t_95_8 L σ 14 x1 ((1 : Int32) <<< (x1 &&& (31 : Int32))) (x1 + 1) h
def v_95 (σ : am_M) (x1 : Int32) : Int32 := f_95 σ x1
theorem s_95 (L : Nat) (σ : am_M) (x1 : Int32) (h : p_95 σ x1) : am_r L 95 0 [some (.inr (.inr (50, none))), some (.inl x1), none, none] [] σ = some (some (.inl (v_95 σ x1)), am_sh0 L, σ) := sf_95 L σ x1 h
-- 96: X5_many
def l_96_4 : Nat → am_M → Int32 → Int32 → Int32 → Int32
  | 0, _, _, _, _ => 0
  | n + 1, σ, x0, x1, x2 => (if x2 < 13 then (l_96_4 n σ x0 (x1 + ((x0 >>> (x2 &&& (31 : Int32))) &&& (1 : Int32))) (x2 + 1)) else x1)
def q_96_4 : Nat → am_M → Int32 → Int32 → Int32 → Prop
  | 0, _, _, _, _ => False
  | n + 1, σ, x0, x1, x2 => (x2 < 13) → (q_96_4 n σ x0 (x1 + ((x0 >>> (x2 &&& (31 : Int32))) &&& (1 : Int32))) (x2 + 1))
set_option maxRecDepth 20000 in
theorem t_96_4 (L : Nat) (σ : am_M) : ∀ (n : Nat) (x0 : Int32) (x1 : Int32) (x2 : Int32), q_96_4 n σ x0 x1 x2 → am_r L 96 4 [some (.inl x0), some (.inl x1), some (.inl x2)] [] σ = some (some (.inl (l_96_4 n σ x0 x1 x2)), am_sh0 L, σ) := by
  intro n
  induction n with
  | zero => intro x0 x1 x2 h; exact h.elim
  | succ n ih =>
    intro x0 x1 x2 h
    unfold q_96_4 at h
    unfold l_96_4
    refine (e_96_4 _ _ _ _ _).trans ?_
    refine am_fkIv (fun hc308 => ?_) (fun hc308 => ?_)
    · exact ih x0 (x1 + ((x0 >>> (x2 &&& (31 : Int32))) &&& (1 : Int32))) (x2 + 1) ((h hc308))
    · refine (e_96_24 _ _ _ _ _).trans ?_
      rfl
def p_96 (σ : am_M) (x0 : Int32) : Prop := q_96_4 14 σ x0 0 0
def f_96 (σ : am_M) (x0 : Int32) : Int32 := (l_96_4 14 σ x0 0 0)
set_option maxRecDepth 20000 in
theorem sf_96 (L : Nat) (σ : am_M) (x0 : Int32) (h : p_96 σ x0) : am_r L 96 0 [some (.inl x0), none, none] [] σ = some (some (.inl (f_96 σ x0)), am_sh0 L, σ) := by
  unfold p_96 at h
  unfold f_96
  refine (e_96_0 _ _ _).trans ?_
  exact t_96_4 L σ 14 x0 0 0 h
def v_96 (σ : am_M) (x0 : Int32) : Int32 := f_96 σ x0
theorem s_96 (L : Nat) (σ : am_M) (x0 : Int32) (h : p_96 σ x0) : am_r L 96 0 [some (.inl x0), none, none] [] σ = some (some (.inl (v_96 σ x0)), am_sh0 L, σ) := sf_96 L σ x0 h
-- 97: X5_moving
def p_97 (σ : am_M) (x1 : Int32) : Prop := (p_95 σ x1) ∧ ((p_96 σ (v_95 σ x1)) ∧ (p_96 σ (v_95 σ x1)))
def v_97 (σ : am_M) (x1 : Int32) : Int32 := (if ((σ.1 50 1) - (v_96 σ (v_95 σ x1))) < (v_96 σ (v_95 σ x1)) then (((((1 : Int32) <<< ((σ.1 50 1) &&& (31 : Int32))) - 1) &&& ((v_95 σ x1) ^^^ (-1))) : Int32) else (v_95 σ x1))
set_option maxRecDepth 20000 in
theorem s_97 (L : Nat) (σ : am_M) (x1 : Int32) (h : p_97 σ x1) : am_r L 97 0 [some (.inr (.inr (50, none))), some (.inl x1), none, none] [] σ = some (some (.inl (v_97 σ x1)), am_sh0 L, σ) := by
  unfold p_97 at h
  unfold v_97
  refine (e_97_0 _ _ _).trans ?_
  refine (am_bind_i (s_95 L σ x1 h.1)).trans ?_
  refine (e_97_5 _ _ _ _).trans ?_
  refine (am_bind_i (s_96 L σ (v_95 σ x1) h.2.1)).trans ?_
  refine (e_97_19 _ _ _ _ _ _).trans ?_
  refine (am_bind_i (s_96 L σ (v_95 σ x1) h.2.2)).trans ?_
  refine (e_97_27 _ _ _ _ _ _ _ _).trans ?_
  refine Eq.trans (b := am_r L 97 40 [some (.inr (.inr (50, none))), some (.inl x1), some (.inl (v_95 σ x1)), some (.inl (((1 : Int32) <<< ((σ.1 50 1) &&& (31 : Int32))) - 1))] [.inl (if ((σ.1 50 1) - (v_96 σ (v_95 σ x1))) < (v_96 σ (v_95 σ x1)) then (((((1 : Int32) <<< ((σ.1 50 1) &&& (31 : Int32))) - 1) &&& ((v_95 σ x1) ^^^ (-1))) : Int32) else (v_95 σ x1))] σ) ?_ ?_
  · by_cases hc309 : ((σ.1 50 1) - (v_96 σ (v_95 σ x1))) < (v_96 σ (v_95 σ x1))
    · refine (if_pos hc309).trans ?_
      refine Eq.trans (b := am_r L 97 40 [some (.inr (.inr (50, none))), some (.inl x1), some (.inl (v_95 σ x1)), some (.inl (((1 : Int32) <<< ((σ.1 50 1) &&& (31 : Int32))) - 1))] [.inl ((((1 : Int32) <<< ((σ.1 50 1) &&& (31 : Int32))) - 1) &&& ((v_95 σ x1) ^^^ (-1)))] σ) ?_ ?_
      · refine (e_97_35 _ _ _ _ _).trans ?_
        rfl
      · first | with_reducible rfl | simp only [if_pos hc309]
    · refine (if_neg hc309).trans ?_
      refine Eq.trans (b := am_r L 97 40 [some (.inr (.inr (50, none))), some (.inl x1), some (.inl (v_95 σ x1)), some (.inl (((1 : Int32) <<< ((σ.1 50 1) &&& (31 : Int32))) - 1))] [.inl (v_95 σ x1)] σ) ?_ ?_
      · rfl
      · first | with_reducible rfl | simp only [if_neg hc309]
  refine (e_97_40 _ _ _ _ _ _).trans ?_
  rfl
-- 98: X5_moves
def p_98 (σ : am_M) (x1 : Int32) : Prop := ¬ ((v_94 (am_put σ 50 0 0) x1) = 0) → (p_97 (am_put σ 50 0 0) x1)
def v_98 (σ : am_M) (x1 : Int32) : Int32 := (if (v_94 (am_put σ 50 0 0) x1) = 0 then ((-1) : Int32) else (v_97 (am_put σ 50 0 0) x1))
def w_98 (σ : am_M) (x1 : Int32) : am_M := (am_put σ 50 0 0)
set_option maxRecDepth 20000 in
theorem s_98 (L : Nat) (σ : am_M) (x1 : Int32) (h : p_98 σ x1) : am_r L 98 0 [some (.inr (.inr (50, none))), some (.inl x1)] [] σ = some (some (.inl (v_98 σ x1)), am_sh0 L, w_98 σ x1) := by
  unfold p_98 at h
  unfold v_98 w_98
  refine (e_98_0 _ _ _).trans ?_
  refine (am_bind_i (s_94 L (am_put σ 50 0 0) x1)).trans ?_
  refine (e_98_10 _ _ _ _).trans ?_
  refine Eq.trans (b := am_r L 98 22 [some (.inr (.inr (50, none))), some (.inl x1)] [.inl (if (v_94 (am_put σ 50 0 0) x1) = 0 then ((-1) : Int32) else (v_97 (am_put σ 50 0 0) x1))] (am_put σ 50 0 0)) ?_ ?_
  · by_cases hc310 : (v_94 (am_put σ 50 0 0) x1) = 0
    · refine (if_pos hc310).trans ?_
      refine Eq.trans (b := am_r L 98 22 [some (.inr (.inr (50, none))), some (.inl x1)] [.inl (-1)] (am_put σ 50 0 0)) ?_ ?_
      · refine (e_98_21 _ _ _).trans ?_
        rfl
      · first | with_reducible rfl | simp only [if_pos hc310]
    · refine (if_neg hc310).trans ?_
      refine Eq.trans (b := am_r L 98 22 [some (.inr (.inr (50, none))), some (.inl x1)] [.inl (v_97 (am_put σ 50 0 0) x1)] (am_put σ 50 0 0)) ?_ ?_
      · refine (am_bind_i (s_97 L (am_put σ 50 0 0) x1 ((h hc310)))).trans ?_
        refine (e_98_18 _ _ _ _).trans ?_
        rfl
      · first | with_reducible rfl | simp only [if_neg hc310]
  refine (e_98_22 _ _ _ _).trans ?_
  rfl
-- 99: X5_square
def v_99 (σ : am_M) (x0 : Int64) : Int64 := (x0 * x0)
set_option maxRecDepth 20000 in
theorem s_99 (L : Nat) (σ : am_M) (x0 : Int64) : am_r L 99 0 [some (.inr (.inl x0)), none] [] σ = some (some (.inr (.inl (v_99 σ x0))), am_sh0 L, σ) := by
  unfold v_99
  refine (e_99_0 _ _ _).trans ?_
  rfl
-- 100a57: X5_along
def l_100a57_9 : Nat → am_M → Int32 → Int32 → Int32 → Int32 → Int32 → Int32 → Int32 → Int32 → Int32
  | 0, _, _, _, _, _, _, _, _, _ => 0
  | n + 1, σ, x1, x3, x4, x5, x6, x7, x8, x9 => (if x9 < 3 then (l_100a57_9 n σ x1 x3 x4 x5 x6 (if (x4 * (σ.1 57 (((x3 + x9)).toNatClampNeg))) = 0 then (x7 : Int32) else (if ((x4 * (σ.1 57 (((x3 + x9)).toNatClampNeg))) * (σ.1 60 ((((6 * x1) + x9)).toNatClampNeg))) < ((x4 * (σ.1 57 (((x3 + x9)).toNatClampNeg))) * (σ.1 60 (((((6 * x1) + 3) + x9)).toNatClampNeg))) then (((x4 * (σ.1 57 (((x3 + x9)).toNatClampNeg))) * (σ.1 60 ((((6 * x1) + x9)).toNatClampNeg))) : Int32) else ((x4 * (σ.1 57 (((x3 + x9)).toNatClampNeg))) * (σ.1 60 (((((6 * x1) + 3) + x9)).toNatClampNeg))))) (if (x4 * (σ.1 57 (((x3 + x9)).toNatClampNeg))) = 0 then (x8 : Int32) else (if ((x4 * (σ.1 57 (((x3 + x9)).toNatClampNeg))) * (σ.1 60 ((((6 * x1) + x9)).toNatClampNeg))) < ((x4 * (σ.1 57 (((x3 + x9)).toNatClampNeg))) * (σ.1 60 (((((6 * x1) + 3) + x9)).toNatClampNeg))) then (((x4 * (σ.1 57 (((x3 + x9)).toNatClampNeg))) * (σ.1 60 (((((6 * x1) + 3) + x9)).toNatClampNeg))) : Int32) else ((x4 * (σ.1 57 (((x3 + x9)).toNatClampNeg))) * (σ.1 60 ((((6 * x1) + x9)).toNatClampNeg))))) (x9 + 1)) else ((if x5 = 0 then (x7 : Int32) else x8) - x6))
def q_100a57_9 : Nat → am_M → Int32 → Int32 → Int32 → Int32 → Int32 → Int32 → Int32 → Int32 → Prop
  | 0, _, _, _, _, _, _, _, _, _ => False
  | n + 1, σ, x1, x3, x4, x5, x6, x7, x8, x9 => (x9 < 3) → ((¬ ((x3 + x9) < 0 ∨ 39 ≤ ((x3 + x9)).toNatClampNeg)) ∧ ((¬ ((x4 * (σ.1 57 (((x3 + x9)).toNatClampNeg))) = 0) → ((¬ (((6 * x1) + x9) < 0 ∨ 78 ≤ (((6 * x1) + x9)).toNatClampNeg)) ∧ (¬ ((((6 * x1) + 3) + x9) < 0 ∨ 78 ≤ ((((6 * x1) + 3) + x9)).toNatClampNeg)))) ∧ (q_100a57_9 n σ x1 x3 x4 x5 x6 (if (x4 * (σ.1 57 (((x3 + x9)).toNatClampNeg))) = 0 then (x7 : Int32) else (if ((x4 * (σ.1 57 (((x3 + x9)).toNatClampNeg))) * (σ.1 60 ((((6 * x1) + x9)).toNatClampNeg))) < ((x4 * (σ.1 57 (((x3 + x9)).toNatClampNeg))) * (σ.1 60 (((((6 * x1) + 3) + x9)).toNatClampNeg))) then (((x4 * (σ.1 57 (((x3 + x9)).toNatClampNeg))) * (σ.1 60 ((((6 * x1) + x9)).toNatClampNeg))) : Int32) else ((x4 * (σ.1 57 (((x3 + x9)).toNatClampNeg))) * (σ.1 60 (((((6 * x1) + 3) + x9)).toNatClampNeg))))) (if (x4 * (σ.1 57 (((x3 + x9)).toNatClampNeg))) = 0 then (x8 : Int32) else (if ((x4 * (σ.1 57 (((x3 + x9)).toNatClampNeg))) * (σ.1 60 ((((6 * x1) + x9)).toNatClampNeg))) < ((x4 * (σ.1 57 (((x3 + x9)).toNatClampNeg))) * (σ.1 60 (((((6 * x1) + 3) + x9)).toNatClampNeg))) then (((x4 * (σ.1 57 (((x3 + x9)).toNatClampNeg))) * (σ.1 60 (((((6 * x1) + 3) + x9)).toNatClampNeg))) : Int32) else ((x4 * (σ.1 57 (((x3 + x9)).toNatClampNeg))) * (σ.1 60 ((((6 * x1) + x9)).toNatClampNeg))))) (x9 + 1))))
set_option maxRecDepth 20000 in
theorem t_100a57_9 (L : Nat) (σ : am_M) : ∀ (n : Nat) (x1 : Int32) (x3 : Int32) (x4 : Int32) (x5 : Int32) (x6 : Int32) (x7 : Int32) (x8 : Int32) (x9 : Int32) (o10 : Option am_V) (o11 : Option am_V) (o12 : Option am_V), q_100a57_9 n σ x1 x3 x4 x5 x6 x7 x8 x9 → am_r L 100 9 [some (.inr (.inr (50, none))), some (.inl x1), some (.inr (.inr (57, none))), some (.inl x3), some (.inl x4), some (.inl x5), some (.inl x6), some (.inl x7), some (.inl x8), some (.inl x9), o10, o11, o12] [] σ = some (some (.inl (l_100a57_9 n σ x1 x3 x4 x5 x6 x7 x8 x9)), am_sh0 L, σ) := by
  intro n
  induction n with
  | zero => intro x1 x3 x4 x5 x6 x7 x8 x9 o10 o11 o12 h; exact h.elim
  | succ n ih =>
    intro x1 x3 x4 x5 x6 x7 x8 x9 o10 o11 o12 h
    unfold q_100a57_9 at h
    unfold l_100a57_9
    refine (e_100a57_9 _ _ _ _ _ _ _ _ _ _ _ _ _).trans ?_
    refine am_fkIv (fun hc311 => ?_) (fun hc311 => ?_)
    · refine (if_neg ((h hc311).1)).trans ?_
      refine Eq.trans (b := am_r L 100 99 [some (.inr (.inr (50, none))), some (.inl x1), some (.inr (.inr (57, none))), some (.inl x3), some (.inl x4), some (.inl x5), some (.inl x6), some (.inl (if (x4 * (σ.1 57 (((x3 + x9)).toNatClampNeg))) = 0 then (x7 : Int32) else (if ((x4 * (σ.1 57 (((x3 + x9)).toNatClampNeg))) * (σ.1 60 ((((6 * x1) + x9)).toNatClampNeg))) < ((x4 * (σ.1 57 (((x3 + x9)).toNatClampNeg))) * (σ.1 60 (((((6 * x1) + 3) + x9)).toNatClampNeg))) then (((x4 * (σ.1 57 (((x3 + x9)).toNatClampNeg))) * (σ.1 60 ((((6 * x1) + x9)).toNatClampNeg))) : Int32) else ((x4 * (σ.1 57 (((x3 + x9)).toNatClampNeg))) * (σ.1 60 (((((6 * x1) + 3) + x9)).toNatClampNeg)))))), some (.inl (if (x4 * (σ.1 57 (((x3 + x9)).toNatClampNeg))) = 0 then (x8 : Int32) else (if ((x4 * (σ.1 57 (((x3 + x9)).toNatClampNeg))) * (σ.1 60 ((((6 * x1) + x9)).toNatClampNeg))) < ((x4 * (σ.1 57 (((x3 + x9)).toNatClampNeg))) * (σ.1 60 (((((6 * x1) + 3) + x9)).toNatClampNeg))) then (((x4 * (σ.1 57 (((x3 + x9)).toNatClampNeg))) * (σ.1 60 (((((6 * x1) + 3) + x9)).toNatClampNeg))) : Int32) else ((x4 * (σ.1 57 (((x3 + x9)).toNatClampNeg))) * (σ.1 60 ((((6 * x1) + x9)).toNatClampNeg)))))), some (.inl x9), some (.inl (x4 * (σ.1 57 (((x3 + x9)).toNatClampNeg)))), (if (x4 * (σ.1 57 (((x3 + x9)).toNatClampNeg))) = 0 then o11 else some (.inl ((x4 * (σ.1 57 (((x3 + x9)).toNatClampNeg))) * (σ.1 60 ((((6 * x1) + x9)).toNatClampNeg))))), (if (x4 * (σ.1 57 (((x3 + x9)).toNatClampNeg))) = 0 then o12 else some (.inl ((x4 * (σ.1 57 (((x3 + x9)).toNatClampNeg))) * (σ.1 60 (((((6 * x1) + 3) + x9)).toNatClampNeg)))))] [] σ) ?_ ?_
      · by_cases hc312 : (x4 * (σ.1 57 (((x3 + x9)).toNatClampNeg))) = 0
        · refine (if_pos hc312).trans ?_
          refine Eq.trans (b := am_r L 100 99 [some (.inr (.inr (50, none))), some (.inl x1), some (.inr (.inr (57, none))), some (.inl x3), some (.inl x4), some (.inl x5), some (.inl x6), some (.inl x7), some (.inl x8), some (.inl x9), some (.inl (x4 * (σ.1 57 (((x3 + x9)).toNatClampNeg)))), o11, o12] [] σ) ?_ ?_
          · rfl
          · first | with_reducible rfl | simp only [if_pos hc312]
        · refine (if_neg hc312).trans ?_
          refine Eq.trans (b := am_r L 100 99 [some (.inr (.inr (50, none))), some (.inl x1), some (.inr (.inr (57, none))), some (.inl x3), some (.inl x4), some (.inl x5), some (.inl x6), some (.inl (if ((x4 * (σ.1 57 (((x3 + x9)).toNatClampNeg))) * (σ.1 60 ((((6 * x1) + x9)).toNatClampNeg))) < ((x4 * (σ.1 57 (((x3 + x9)).toNatClampNeg))) * (σ.1 60 (((((6 * x1) + 3) + x9)).toNatClampNeg))) then (((x4 * (σ.1 57 (((x3 + x9)).toNatClampNeg))) * (σ.1 60 ((((6 * x1) + x9)).toNatClampNeg))) : Int32) else ((x4 * (σ.1 57 (((x3 + x9)).toNatClampNeg))) * (σ.1 60 (((((6 * x1) + 3) + x9)).toNatClampNeg))))), some (.inl (if ((x4 * (σ.1 57 (((x3 + x9)).toNatClampNeg))) * (σ.1 60 ((((6 * x1) + x9)).toNatClampNeg))) < ((x4 * (σ.1 57 (((x3 + x9)).toNatClampNeg))) * (σ.1 60 (((((6 * x1) + 3) + x9)).toNatClampNeg))) then (((x4 * (σ.1 57 (((x3 + x9)).toNatClampNeg))) * (σ.1 60 (((((6 * x1) + 3) + x9)).toNatClampNeg))) : Int32) else ((x4 * (σ.1 57 (((x3 + x9)).toNatClampNeg))) * (σ.1 60 ((((6 * x1) + x9)).toNatClampNeg))))), some (.inl x9), some (.inl (x4 * (σ.1 57 (((x3 + x9)).toNatClampNeg)))), some (.inl ((x4 * (σ.1 57 (((x3 + x9)).toNatClampNeg))) * (σ.1 60 ((((6 * x1) + x9)).toNatClampNeg)))), some (.inl ((x4 * (σ.1 57 (((x3 + x9)).toNatClampNeg))) * (σ.1 60 (((((6 * x1) + 3) + x9)).toNatClampNeg))))] [] σ) ?_ ?_
          · refine (if_neg (((h hc311).2.1 hc312).1)).trans ?_
            refine (e_100a57_45 _ _ _ _ _ _ _ _ _ _ _ _ _ _ _).trans ?_
            refine (if_neg (((h hc311).2.1 hc312).2)).trans ?_
            refine Eq.trans (b := am_r L 100 81 [some (.inr (.inr (50, none))), some (.inl x1), some (.inr (.inr (57, none))), some (.inl x3), some (.inl x4), some (.inl x5), some (.inl x6), some (.inl x7), some (.inl x8), some (.inl x9), some (.inl (x4 * (σ.1 57 (((x3 + x9)).toNatClampNeg)))), some (.inl ((x4 * (σ.1 57 (((x3 + x9)).toNatClampNeg))) * (σ.1 60 ((((6 * x1) + x9)).toNatClampNeg)))), some (.inl ((x4 * (σ.1 57 (((x3 + x9)).toNatClampNeg))) * (σ.1 60 (((((6 * x1) + 3) + x9)).toNatClampNeg))))] [.inl (if ((x4 * (σ.1 57 (((x3 + x9)).toNatClampNeg))) * (σ.1 60 ((((6 * x1) + x9)).toNatClampNeg))) < ((x4 * (σ.1 57 (((x3 + x9)).toNatClampNeg))) * (σ.1 60 (((((6 * x1) + 3) + x9)).toNatClampNeg))) then (((x4 * (σ.1 57 (((x3 + x9)).toNatClampNeg))) * (σ.1 60 ((((6 * x1) + x9)).toNatClampNeg))) : Int32) else ((x4 * (σ.1 57 (((x3 + x9)).toNatClampNeg))) * (σ.1 60 (((((6 * x1) + 3) + x9)).toNatClampNeg))))] σ) ?_ ?_
            · by_cases hc313 : ((x4 * (σ.1 57 (((x3 + x9)).toNatClampNeg))) * (σ.1 60 ((((6 * x1) + x9)).toNatClampNeg))) < ((x4 * (σ.1 57 (((x3 + x9)).toNatClampNeg))) * (σ.1 60 (((((6 * x1) + 3) + x9)).toNatClampNeg)))
              · refine (if_pos hc313).trans ?_
                refine Eq.trans (b := am_r L 100 81 [some (.inr (.inr (50, none))), some (.inl x1), some (.inr (.inr (57, none))), some (.inl x3), some (.inl x4), some (.inl x5), some (.inl x6), some (.inl x7), some (.inl x8), some (.inl x9), some (.inl (x4 * (σ.1 57 (((x3 + x9)).toNatClampNeg)))), some (.inl ((x4 * (σ.1 57 (((x3 + x9)).toNatClampNeg))) * (σ.1 60 ((((6 * x1) + x9)).toNatClampNeg)))), some (.inl ((x4 * (σ.1 57 (((x3 + x9)).toNatClampNeg))) * (σ.1 60 (((((6 * x1) + 3) + x9)).toNatClampNeg))))] [.inl ((x4 * (σ.1 57 (((x3 + x9)).toNatClampNeg))) * (σ.1 60 ((((6 * x1) + x9)).toNatClampNeg)))] σ) ?_ ?_
                · rfl
                · first | with_reducible rfl | simp only [if_pos hc313]
              · refine (if_neg hc313).trans ?_
                refine Eq.trans (b := am_r L 100 81 [some (.inr (.inr (50, none))), some (.inl x1), some (.inr (.inr (57, none))), some (.inl x3), some (.inl x4), some (.inl x5), some (.inl x6), some (.inl x7), some (.inl x8), some (.inl x9), some (.inl (x4 * (σ.1 57 (((x3 + x9)).toNatClampNeg)))), some (.inl ((x4 * (σ.1 57 (((x3 + x9)).toNatClampNeg))) * (σ.1 60 ((((6 * x1) + x9)).toNatClampNeg)))), some (.inl ((x4 * (σ.1 57 (((x3 + x9)).toNatClampNeg))) * (σ.1 60 (((((6 * x1) + 3) + x9)).toNatClampNeg))))] [.inl ((x4 * (σ.1 57 (((x3 + x9)).toNatClampNeg))) * (σ.1 60 (((((6 * x1) + 3) + x9)).toNatClampNeg)))] σ) ?_ ?_
                · refine (e_100a57_79 _ _ _ _ _ _ _ _ _ _ _ _ _).trans ?_
                  rfl
                · first | with_reducible rfl | simp only [if_neg hc313]
            refine (e_100a57_81 _ _ _ _ _ _ _ _ _ _ _ _ _ _).trans ?_
            refine Eq.trans (b := am_r L 100 97 [some (.inr (.inr (50, none))), some (.inl x1), some (.inr (.inr (57, none))), some (.inl x3), some (.inl x4), some (.inl x5), some (.inl x6), some (.inl (if ((x4 * (σ.1 57 (((x3 + x9)).toNatClampNeg))) * (σ.1 60 ((((6 * x1) + x9)).toNatClampNeg))) < ((x4 * (σ.1 57 (((x3 + x9)).toNatClampNeg))) * (σ.1 60 (((((6 * x1) + 3) + x9)).toNatClampNeg))) then (((x4 * (σ.1 57 (((x3 + x9)).toNatClampNeg))) * (σ.1 60 ((((6 * x1) + x9)).toNatClampNeg))) : Int32) else ((x4 * (σ.1 57 (((x3 + x9)).toNatClampNeg))) * (σ.1 60 (((((6 * x1) + 3) + x9)).toNatClampNeg))))), some (.inl x8), some (.inl x9), some (.inl (x4 * (σ.1 57 (((x3 + x9)).toNatClampNeg)))), some (.inl ((x4 * (σ.1 57 (((x3 + x9)).toNatClampNeg))) * (σ.1 60 ((((6 * x1) + x9)).toNatClampNeg)))), some (.inl ((x4 * (σ.1 57 (((x3 + x9)).toNatClampNeg))) * (σ.1 60 (((((6 * x1) + 3) + x9)).toNatClampNeg))))] [.inl (if ((x4 * (σ.1 57 (((x3 + x9)).toNatClampNeg))) * (σ.1 60 ((((6 * x1) + x9)).toNatClampNeg))) < ((x4 * (σ.1 57 (((x3 + x9)).toNatClampNeg))) * (σ.1 60 (((((6 * x1) + 3) + x9)).toNatClampNeg))) then (((x4 * (σ.1 57 (((x3 + x9)).toNatClampNeg))) * (σ.1 60 (((((6 * x1) + 3) + x9)).toNatClampNeg))) : Int32) else ((x4 * (σ.1 57 (((x3 + x9)).toNatClampNeg))) * (σ.1 60 ((((6 * x1) + x9)).toNatClampNeg))))] σ) ?_ ?_
            · by_cases hc314 : ((x4 * (σ.1 57 (((x3 + x9)).toNatClampNeg))) * (σ.1 60 ((((6 * x1) + x9)).toNatClampNeg))) < ((x4 * (σ.1 57 (((x3 + x9)).toNatClampNeg))) * (σ.1 60 (((((6 * x1) + 3) + x9)).toNatClampNeg)))
              · refine (if_pos hc314).trans ?_
                refine Eq.trans (b := am_r L 100 97 [some (.inr (.inr (50, none))), some (.inl x1), some (.inr (.inr (57, none))), some (.inl x3), some (.inl x4), some (.inl x5), some (.inl x6), some (.inl (if ((x4 * (σ.1 57 (((x3 + x9)).toNatClampNeg))) * (σ.1 60 ((((6 * x1) + x9)).toNatClampNeg))) < ((x4 * (σ.1 57 (((x3 + x9)).toNatClampNeg))) * (σ.1 60 (((((6 * x1) + 3) + x9)).toNatClampNeg))) then (((x4 * (σ.1 57 (((x3 + x9)).toNatClampNeg))) * (σ.1 60 ((((6 * x1) + x9)).toNatClampNeg))) : Int32) else ((x4 * (σ.1 57 (((x3 + x9)).toNatClampNeg))) * (σ.1 60 (((((6 * x1) + 3) + x9)).toNatClampNeg))))), some (.inl x8), some (.inl x9), some (.inl (x4 * (σ.1 57 (((x3 + x9)).toNatClampNeg)))), some (.inl ((x4 * (σ.1 57 (((x3 + x9)).toNatClampNeg))) * (σ.1 60 ((((6 * x1) + x9)).toNatClampNeg)))), some (.inl ((x4 * (σ.1 57 (((x3 + x9)).toNatClampNeg))) * (σ.1 60 (((((6 * x1) + 3) + x9)).toNatClampNeg))))] [.inl ((x4 * (σ.1 57 (((x3 + x9)).toNatClampNeg))) * (σ.1 60 (((((6 * x1) + 3) + x9)).toNatClampNeg)))] σ) ?_ ?_
                · rfl
                · first | with_reducible rfl | simp only [if_pos hc314]
              · refine (if_neg hc314).trans ?_
                refine Eq.trans (b := am_r L 100 97 [some (.inr (.inr (50, none))), some (.inl x1), some (.inr (.inr (57, none))), some (.inl x3), some (.inl x4), some (.inl x5), some (.inl x6), some (.inl (if ((x4 * (σ.1 57 (((x3 + x9)).toNatClampNeg))) * (σ.1 60 ((((6 * x1) + x9)).toNatClampNeg))) < ((x4 * (σ.1 57 (((x3 + x9)).toNatClampNeg))) * (σ.1 60 (((((6 * x1) + 3) + x9)).toNatClampNeg))) then (((x4 * (σ.1 57 (((x3 + x9)).toNatClampNeg))) * (σ.1 60 ((((6 * x1) + x9)).toNatClampNeg))) : Int32) else ((x4 * (σ.1 57 (((x3 + x9)).toNatClampNeg))) * (σ.1 60 (((((6 * x1) + 3) + x9)).toNatClampNeg))))), some (.inl x8), some (.inl x9), some (.inl (x4 * (σ.1 57 (((x3 + x9)).toNatClampNeg)))), some (.inl ((x4 * (σ.1 57 (((x3 + x9)).toNatClampNeg))) * (σ.1 60 ((((6 * x1) + x9)).toNatClampNeg)))), some (.inl ((x4 * (σ.1 57 (((x3 + x9)).toNatClampNeg))) * (σ.1 60 (((((6 * x1) + 3) + x9)).toNatClampNeg))))] [.inl ((x4 * (σ.1 57 (((x3 + x9)).toNatClampNeg))) * (σ.1 60 ((((6 * x1) + x9)).toNatClampNeg)))] σ) ?_ ?_
                · refine (e_100a57_95 _ _ _ _ _ _ _ _ _ _ _ _ _).trans ?_
                  rfl
                · first | with_reducible rfl | simp only [if_neg hc314]
            refine (e_100a57_97 _ _ _ _ _ _ _ _ _ _ _ _ _ _).trans ?_
            rfl
          · first | with_reducible rfl | simp only [if_neg hc312]
      refine (e_100a57_99 _ _ _ _ _ _ _ _ _ _ _ _ _).trans ?_
      exact ih x1 x3 x4 x5 x6 (if (x4 * (σ.1 57 (((x3 + x9)).toNatClampNeg))) = 0 then (x7 : Int32) else (if ((x4 * (σ.1 57 (((x3 + x9)).toNatClampNeg))) * (σ.1 60 ((((6 * x1) + x9)).toNatClampNeg))) < ((x4 * (σ.1 57 (((x3 + x9)).toNatClampNeg))) * (σ.1 60 (((((6 * x1) + 3) + x9)).toNatClampNeg))) then (((x4 * (σ.1 57 (((x3 + x9)).toNatClampNeg))) * (σ.1 60 ((((6 * x1) + x9)).toNatClampNeg))) : Int32) else ((x4 * (σ.1 57 (((x3 + x9)).toNatClampNeg))) * (σ.1 60 (((((6 * x1) + 3) + x9)).toNatClampNeg))))) (if (x4 * (σ.1 57 (((x3 + x9)).toNatClampNeg))) = 0 then (x8 : Int32) else (if ((x4 * (σ.1 57 (((x3 + x9)).toNatClampNeg))) * (σ.1 60 ((((6 * x1) + x9)).toNatClampNeg))) < ((x4 * (σ.1 57 (((x3 + x9)).toNatClampNeg))) * (σ.1 60 (((((6 * x1) + 3) + x9)).toNatClampNeg))) then (((x4 * (σ.1 57 (((x3 + x9)).toNatClampNeg))) * (σ.1 60 (((((6 * x1) + 3) + x9)).toNatClampNeg))) : Int32) else ((x4 * (σ.1 57 (((x3 + x9)).toNatClampNeg))) * (σ.1 60 ((((6 * x1) + x9)).toNatClampNeg))))) (x9 + 1) (some (.inl (x4 * (σ.1 57 (((x3 + x9)).toNatClampNeg))))) (if (x4 * (σ.1 57 (((x3 + x9)).toNatClampNeg))) = 0 then o11 else some (.inl ((x4 * (σ.1 57 (((x3 + x9)).toNatClampNeg))) * (σ.1 60 ((((6 * x1) + x9)).toNatClampNeg))))) (if (x4 * (σ.1 57 (((x3 + x9)).toNatClampNeg))) = 0 then o12 else some (.inl ((x4 * (σ.1 57 (((x3 + x9)).toNatClampNeg))) * (σ.1 60 (((((6 * x1) + 3) + x9)).toNatClampNeg))))) ((h hc311).2.2)
    · refine (e_100a57_105 _ _ _ _ _ _ _ _ _ _ _ _ _).trans ?_
      refine Eq.trans (b := am_r L 100 117 [some (.inr (.inr (50, none))), some (.inl x1), some (.inr (.inr (57, none))), some (.inl x3), some (.inl x4), some (.inl x5), some (.inl x6), some (.inl x7), some (.inl x8), some (.inl x9), o10, o11, o12] [.inl (if x5 = 0 then (x7 : Int32) else x8)] σ) ?_ ?_
      · by_cases hc315 : x5 = 0
        · refine (if_pos hc315).trans ?_
          refine Eq.trans (b := am_r L 100 117 [some (.inr (.inr (50, none))), some (.inl x1), some (.inr (.inr (57, none))), some (.inl x3), some (.inl x4), some (.inl x5), some (.inl x6), some (.inl x7), some (.inl x8), some (.inl x9), o10, o11, o12] [.inl x7] σ) ?_ ?_
          · refine (e_100a57_115 _ _ _ _ _ _ _ _ _ _ _ _ _).trans ?_
            rfl
          · first | with_reducible rfl | simp only [if_pos hc315]
        · refine (if_neg hc315).trans ?_
          refine Eq.trans (b := am_r L 100 117 [some (.inr (.inr (50, none))), some (.inl x1), some (.inr (.inr (57, none))), some (.inl x3), some (.inl x4), some (.inl x5), some (.inl x6), some (.inl x7), some (.inl x8), some (.inl x9), o10, o11, o12] [.inl x8] σ) ?_ ?_
          · rfl
          · first | with_reducible rfl | simp only [if_neg hc315]
      refine (e_100a57_117 _ _ _ _ _ _ _ _ _ _ _ _ _ _).trans ?_
      rfl
def p_100a57 (σ : am_M) (x1 : Int32) (x3 : Int32) (x4 : Int32) (x5 : Int32) (x6 : Int32) : Prop := q_100a57_9 14 σ x1 x3 x4 x5 x6 0 0 0
def f_100a57 (σ : am_M) (x1 : Int32) (x3 : Int32) (x4 : Int32) (x5 : Int32) (x6 : Int32) : Int32 := (l_100a57_9 14 σ x1 x3 x4 x5 x6 0 0 0)
set_option maxRecDepth 20000 in
theorem sf_100a57 (L : Nat) (σ : am_M) (x1 : Int32) (x3 : Int32) (x4 : Int32) (x5 : Int32) (x6 : Int32) (h : p_100a57 σ x1 x3 x4 x5 x6) : am_r L 100 0 [some (.inr (.inr (50, none))), some (.inl x1), some (.inr (.inr (57, none))), some (.inl x3), some (.inl x4), some (.inl x5), some (.inl x6), none, none, none, none, none, none] [] σ = some (some (.inl (f_100a57 σ x1 x3 x4 x5 x6)), am_sh0 L, σ) := by
  unfold p_100a57 at h
  unfold f_100a57
  refine (e_100a57_0 _ _ _ _ _ _ _).trans ?_
  exact t_100a57_9 L σ 14 x1 x3 x4 x5 x6 0 0 0 none none none h
def v_100a57 (σ : am_M) (x1 : Int32) (x3 : Int32) (x4 : Int32) (x5 : Int32) (x6 : Int32) : Int32 := f_100a57 σ x1 x3 x4 x5 x6
theorem s_100a57 (L : Nat) (σ : am_M) (x1 : Int32) (x3 : Int32) (x4 : Int32) (x5 : Int32) (x6 : Int32) (h : p_100a57 σ x1 x3 x4 x5 x6) : am_r L 100 0 [some (.inr (.inr (50, none))), some (.inl x1), some (.inr (.inr (57, none))), some (.inl x3), some (.inl x4), some (.inl x5), some (.inl x6), none, none, none, none, none, none] [] σ = some (some (.inl (v_100a57 σ x1 x3 x4 x5 x6)), am_sh0 L, σ) := sf_100a57 L σ x1 x3 x4 x5 x6 h
-- 100a58: X5_along
def l_100a58_9 : Nat → am_M → Int32 → Int32 → Int32 → Int32 → Int32 → Int32 → Int32 → Int32 → Int32
  | 0, _, _, _, _, _, _, _, _, _ => 0
  | n + 1, σ, x1, x3, x4, x5, x6, x7, x8, x9 => (if x9 < 3 then (l_100a58_9 n σ x1 x3 x4 x5 x6 (if (x4 * (σ.1 58 (((x3 + x9)).toNatClampNeg))) = 0 then (x7 : Int32) else (if ((x4 * (σ.1 58 (((x3 + x9)).toNatClampNeg))) * (σ.1 60 ((((6 * x1) + x9)).toNatClampNeg))) < ((x4 * (σ.1 58 (((x3 + x9)).toNatClampNeg))) * (σ.1 60 (((((6 * x1) + 3) + x9)).toNatClampNeg))) then (((x4 * (σ.1 58 (((x3 + x9)).toNatClampNeg))) * (σ.1 60 ((((6 * x1) + x9)).toNatClampNeg))) : Int32) else ((x4 * (σ.1 58 (((x3 + x9)).toNatClampNeg))) * (σ.1 60 (((((6 * x1) + 3) + x9)).toNatClampNeg))))) (if (x4 * (σ.1 58 (((x3 + x9)).toNatClampNeg))) = 0 then (x8 : Int32) else (if ((x4 * (σ.1 58 (((x3 + x9)).toNatClampNeg))) * (σ.1 60 ((((6 * x1) + x9)).toNatClampNeg))) < ((x4 * (σ.1 58 (((x3 + x9)).toNatClampNeg))) * (σ.1 60 (((((6 * x1) + 3) + x9)).toNatClampNeg))) then (((x4 * (σ.1 58 (((x3 + x9)).toNatClampNeg))) * (σ.1 60 (((((6 * x1) + 3) + x9)).toNatClampNeg))) : Int32) else ((x4 * (σ.1 58 (((x3 + x9)).toNatClampNeg))) * (σ.1 60 ((((6 * x1) + x9)).toNatClampNeg))))) (x9 + 1)) else ((if x5 = 0 then (x7 : Int32) else x8) - x6))
def q_100a58_9 : Nat → am_M → Int32 → Int32 → Int32 → Int32 → Int32 → Int32 → Int32 → Int32 → Prop
  | 0, _, _, _, _, _, _, _, _, _ => False
  | n + 1, σ, x1, x3, x4, x5, x6, x7, x8, x9 => (x9 < 3) → ((¬ ((x3 + x9) < 0 ∨ 39 ≤ ((x3 + x9)).toNatClampNeg)) ∧ ((¬ ((x4 * (σ.1 58 (((x3 + x9)).toNatClampNeg))) = 0) → ((¬ (((6 * x1) + x9) < 0 ∨ 78 ≤ (((6 * x1) + x9)).toNatClampNeg)) ∧ (¬ ((((6 * x1) + 3) + x9) < 0 ∨ 78 ≤ ((((6 * x1) + 3) + x9)).toNatClampNeg)))) ∧ (q_100a58_9 n σ x1 x3 x4 x5 x6 (if (x4 * (σ.1 58 (((x3 + x9)).toNatClampNeg))) = 0 then (x7 : Int32) else (if ((x4 * (σ.1 58 (((x3 + x9)).toNatClampNeg))) * (σ.1 60 ((((6 * x1) + x9)).toNatClampNeg))) < ((x4 * (σ.1 58 (((x3 + x9)).toNatClampNeg))) * (σ.1 60 (((((6 * x1) + 3) + x9)).toNatClampNeg))) then (((x4 * (σ.1 58 (((x3 + x9)).toNatClampNeg))) * (σ.1 60 ((((6 * x1) + x9)).toNatClampNeg))) : Int32) else ((x4 * (σ.1 58 (((x3 + x9)).toNatClampNeg))) * (σ.1 60 (((((6 * x1) + 3) + x9)).toNatClampNeg))))) (if (x4 * (σ.1 58 (((x3 + x9)).toNatClampNeg))) = 0 then (x8 : Int32) else (if ((x4 * (σ.1 58 (((x3 + x9)).toNatClampNeg))) * (σ.1 60 ((((6 * x1) + x9)).toNatClampNeg))) < ((x4 * (σ.1 58 (((x3 + x9)).toNatClampNeg))) * (σ.1 60 (((((6 * x1) + 3) + x9)).toNatClampNeg))) then (((x4 * (σ.1 58 (((x3 + x9)).toNatClampNeg))) * (σ.1 60 (((((6 * x1) + 3) + x9)).toNatClampNeg))) : Int32) else ((x4 * (σ.1 58 (((x3 + x9)).toNatClampNeg))) * (σ.1 60 ((((6 * x1) + x9)).toNatClampNeg))))) (x9 + 1))))
set_option maxRecDepth 20000 in
theorem t_100a58_9 (L : Nat) (σ : am_M) : ∀ (n : Nat) (x1 : Int32) (x3 : Int32) (x4 : Int32) (x5 : Int32) (x6 : Int32) (x7 : Int32) (x8 : Int32) (x9 : Int32) (o10 : Option am_V) (o11 : Option am_V) (o12 : Option am_V), q_100a58_9 n σ x1 x3 x4 x5 x6 x7 x8 x9 → am_r L 100 9 [some (.inr (.inr (50, none))), some (.inl x1), some (.inr (.inr (58, none))), some (.inl x3), some (.inl x4), some (.inl x5), some (.inl x6), some (.inl x7), some (.inl x8), some (.inl x9), o10, o11, o12] [] σ = some (some (.inl (l_100a58_9 n σ x1 x3 x4 x5 x6 x7 x8 x9)), am_sh0 L, σ) := by
  intro n
  induction n with
  | zero => intro x1 x3 x4 x5 x6 x7 x8 x9 o10 o11 o12 h; exact h.elim
  | succ n ih =>
    intro x1 x3 x4 x5 x6 x7 x8 x9 o10 o11 o12 h
    unfold q_100a58_9 at h
    unfold l_100a58_9
    refine (e_100a58_9 _ _ _ _ _ _ _ _ _ _ _ _ _).trans ?_
    refine am_fkIv (fun hc316 => ?_) (fun hc316 => ?_)
    · refine (if_neg ((h hc316).1)).trans ?_
      refine Eq.trans (b := am_r L 100 99 [some (.inr (.inr (50, none))), some (.inl x1), some (.inr (.inr (58, none))), some (.inl x3), some (.inl x4), some (.inl x5), some (.inl x6), some (.inl (if (x4 * (σ.1 58 (((x3 + x9)).toNatClampNeg))) = 0 then (x7 : Int32) else (if ((x4 * (σ.1 58 (((x3 + x9)).toNatClampNeg))) * (σ.1 60 ((((6 * x1) + x9)).toNatClampNeg))) < ((x4 * (σ.1 58 (((x3 + x9)).toNatClampNeg))) * (σ.1 60 (((((6 * x1) + 3) + x9)).toNatClampNeg))) then (((x4 * (σ.1 58 (((x3 + x9)).toNatClampNeg))) * (σ.1 60 ((((6 * x1) + x9)).toNatClampNeg))) : Int32) else ((x4 * (σ.1 58 (((x3 + x9)).toNatClampNeg))) * (σ.1 60 (((((6 * x1) + 3) + x9)).toNatClampNeg)))))), some (.inl (if (x4 * (σ.1 58 (((x3 + x9)).toNatClampNeg))) = 0 then (x8 : Int32) else (if ((x4 * (σ.1 58 (((x3 + x9)).toNatClampNeg))) * (σ.1 60 ((((6 * x1) + x9)).toNatClampNeg))) < ((x4 * (σ.1 58 (((x3 + x9)).toNatClampNeg))) * (σ.1 60 (((((6 * x1) + 3) + x9)).toNatClampNeg))) then (((x4 * (σ.1 58 (((x3 + x9)).toNatClampNeg))) * (σ.1 60 (((((6 * x1) + 3) + x9)).toNatClampNeg))) : Int32) else ((x4 * (σ.1 58 (((x3 + x9)).toNatClampNeg))) * (σ.1 60 ((((6 * x1) + x9)).toNatClampNeg)))))), some (.inl x9), some (.inl (x4 * (σ.1 58 (((x3 + x9)).toNatClampNeg)))), (if (x4 * (σ.1 58 (((x3 + x9)).toNatClampNeg))) = 0 then o11 else some (.inl ((x4 * (σ.1 58 (((x3 + x9)).toNatClampNeg))) * (σ.1 60 ((((6 * x1) + x9)).toNatClampNeg))))), (if (x4 * (σ.1 58 (((x3 + x9)).toNatClampNeg))) = 0 then o12 else some (.inl ((x4 * (σ.1 58 (((x3 + x9)).toNatClampNeg))) * (σ.1 60 (((((6 * x1) + 3) + x9)).toNatClampNeg)))))] [] σ) ?_ ?_
      · by_cases hc317 : (x4 * (σ.1 58 (((x3 + x9)).toNatClampNeg))) = 0
        · refine (if_pos hc317).trans ?_
          refine Eq.trans (b := am_r L 100 99 [some (.inr (.inr (50, none))), some (.inl x1), some (.inr (.inr (58, none))), some (.inl x3), some (.inl x4), some (.inl x5), some (.inl x6), some (.inl x7), some (.inl x8), some (.inl x9), some (.inl (x4 * (σ.1 58 (((x3 + x9)).toNatClampNeg)))), o11, o12] [] σ) ?_ ?_
          · rfl
          · first | with_reducible rfl | simp only [if_pos hc317]
        · refine (if_neg hc317).trans ?_
          refine Eq.trans (b := am_r L 100 99 [some (.inr (.inr (50, none))), some (.inl x1), some (.inr (.inr (58, none))), some (.inl x3), some (.inl x4), some (.inl x5), some (.inl x6), some (.inl (if ((x4 * (σ.1 58 (((x3 + x9)).toNatClampNeg))) * (σ.1 60 ((((6 * x1) + x9)).toNatClampNeg))) < ((x4 * (σ.1 58 (((x3 + x9)).toNatClampNeg))) * (σ.1 60 (((((6 * x1) + 3) + x9)).toNatClampNeg))) then (((x4 * (σ.1 58 (((x3 + x9)).toNatClampNeg))) * (σ.1 60 ((((6 * x1) + x9)).toNatClampNeg))) : Int32) else ((x4 * (σ.1 58 (((x3 + x9)).toNatClampNeg))) * (σ.1 60 (((((6 * x1) + 3) + x9)).toNatClampNeg))))), some (.inl (if ((x4 * (σ.1 58 (((x3 + x9)).toNatClampNeg))) * (σ.1 60 ((((6 * x1) + x9)).toNatClampNeg))) < ((x4 * (σ.1 58 (((x3 + x9)).toNatClampNeg))) * (σ.1 60 (((((6 * x1) + 3) + x9)).toNatClampNeg))) then (((x4 * (σ.1 58 (((x3 + x9)).toNatClampNeg))) * (σ.1 60 (((((6 * x1) + 3) + x9)).toNatClampNeg))) : Int32) else ((x4 * (σ.1 58 (((x3 + x9)).toNatClampNeg))) * (σ.1 60 ((((6 * x1) + x9)).toNatClampNeg))))), some (.inl x9), some (.inl (x4 * (σ.1 58 (((x3 + x9)).toNatClampNeg)))), some (.inl ((x4 * (σ.1 58 (((x3 + x9)).toNatClampNeg))) * (σ.1 60 ((((6 * x1) + x9)).toNatClampNeg)))), some (.inl ((x4 * (σ.1 58 (((x3 + x9)).toNatClampNeg))) * (σ.1 60 (((((6 * x1) + 3) + x9)).toNatClampNeg))))] [] σ) ?_ ?_
          · refine (if_neg (((h hc316).2.1 hc317).1)).trans ?_
            refine (e_100a58_45 _ _ _ _ _ _ _ _ _ _ _ _ _ _ _).trans ?_
            refine (if_neg (((h hc316).2.1 hc317).2)).trans ?_
            refine Eq.trans (b := am_r L 100 81 [some (.inr (.inr (50, none))), some (.inl x1), some (.inr (.inr (58, none))), some (.inl x3), some (.inl x4), some (.inl x5), some (.inl x6), some (.inl x7), some (.inl x8), some (.inl x9), some (.inl (x4 * (σ.1 58 (((x3 + x9)).toNatClampNeg)))), some (.inl ((x4 * (σ.1 58 (((x3 + x9)).toNatClampNeg))) * (σ.1 60 ((((6 * x1) + x9)).toNatClampNeg)))), some (.inl ((x4 * (σ.1 58 (((x3 + x9)).toNatClampNeg))) * (σ.1 60 (((((6 * x1) + 3) + x9)).toNatClampNeg))))] [.inl (if ((x4 * (σ.1 58 (((x3 + x9)).toNatClampNeg))) * (σ.1 60 ((((6 * x1) + x9)).toNatClampNeg))) < ((x4 * (σ.1 58 (((x3 + x9)).toNatClampNeg))) * (σ.1 60 (((((6 * x1) + 3) + x9)).toNatClampNeg))) then (((x4 * (σ.1 58 (((x3 + x9)).toNatClampNeg))) * (σ.1 60 ((((6 * x1) + x9)).toNatClampNeg))) : Int32) else ((x4 * (σ.1 58 (((x3 + x9)).toNatClampNeg))) * (σ.1 60 (((((6 * x1) + 3) + x9)).toNatClampNeg))))] σ) ?_ ?_
            · by_cases hc318 : ((x4 * (σ.1 58 (((x3 + x9)).toNatClampNeg))) * (σ.1 60 ((((6 * x1) + x9)).toNatClampNeg))) < ((x4 * (σ.1 58 (((x3 + x9)).toNatClampNeg))) * (σ.1 60 (((((6 * x1) + 3) + x9)).toNatClampNeg)))
              · refine (if_pos hc318).trans ?_
                refine Eq.trans (b := am_r L 100 81 [some (.inr (.inr (50, none))), some (.inl x1), some (.inr (.inr (58, none))), some (.inl x3), some (.inl x4), some (.inl x5), some (.inl x6), some (.inl x7), some (.inl x8), some (.inl x9), some (.inl (x4 * (σ.1 58 (((x3 + x9)).toNatClampNeg)))), some (.inl ((x4 * (σ.1 58 (((x3 + x9)).toNatClampNeg))) * (σ.1 60 ((((6 * x1) + x9)).toNatClampNeg)))), some (.inl ((x4 * (σ.1 58 (((x3 + x9)).toNatClampNeg))) * (σ.1 60 (((((6 * x1) + 3) + x9)).toNatClampNeg))))] [.inl ((x4 * (σ.1 58 (((x3 + x9)).toNatClampNeg))) * (σ.1 60 ((((6 * x1) + x9)).toNatClampNeg)))] σ) ?_ ?_
                · rfl
                · first | with_reducible rfl | simp only [if_pos hc318]
              · refine (if_neg hc318).trans ?_
                refine Eq.trans (b := am_r L 100 81 [some (.inr (.inr (50, none))), some (.inl x1), some (.inr (.inr (58, none))), some (.inl x3), some (.inl x4), some (.inl x5), some (.inl x6), some (.inl x7), some (.inl x8), some (.inl x9), some (.inl (x4 * (σ.1 58 (((x3 + x9)).toNatClampNeg)))), some (.inl ((x4 * (σ.1 58 (((x3 + x9)).toNatClampNeg))) * (σ.1 60 ((((6 * x1) + x9)).toNatClampNeg)))), some (.inl ((x4 * (σ.1 58 (((x3 + x9)).toNatClampNeg))) * (σ.1 60 (((((6 * x1) + 3) + x9)).toNatClampNeg))))] [.inl ((x4 * (σ.1 58 (((x3 + x9)).toNatClampNeg))) * (σ.1 60 (((((6 * x1) + 3) + x9)).toNatClampNeg)))] σ) ?_ ?_
                · refine (e_100a58_79 _ _ _ _ _ _ _ _ _ _ _ _ _).trans ?_
                  rfl
                · first | with_reducible rfl | simp only [if_neg hc318]
            refine (e_100a58_81 _ _ _ _ _ _ _ _ _ _ _ _ _ _).trans ?_
            refine Eq.trans (b := am_r L 100 97 [some (.inr (.inr (50, none))), some (.inl x1), some (.inr (.inr (58, none))), some (.inl x3), some (.inl x4), some (.inl x5), some (.inl x6), some (.inl (if ((x4 * (σ.1 58 (((x3 + x9)).toNatClampNeg))) * (σ.1 60 ((((6 * x1) + x9)).toNatClampNeg))) < ((x4 * (σ.1 58 (((x3 + x9)).toNatClampNeg))) * (σ.1 60 (((((6 * x1) + 3) + x9)).toNatClampNeg))) then (((x4 * (σ.1 58 (((x3 + x9)).toNatClampNeg))) * (σ.1 60 ((((6 * x1) + x9)).toNatClampNeg))) : Int32) else ((x4 * (σ.1 58 (((x3 + x9)).toNatClampNeg))) * (σ.1 60 (((((6 * x1) + 3) + x9)).toNatClampNeg))))), some (.inl x8), some (.inl x9), some (.inl (x4 * (σ.1 58 (((x3 + x9)).toNatClampNeg)))), some (.inl ((x4 * (σ.1 58 (((x3 + x9)).toNatClampNeg))) * (σ.1 60 ((((6 * x1) + x9)).toNatClampNeg)))), some (.inl ((x4 * (σ.1 58 (((x3 + x9)).toNatClampNeg))) * (σ.1 60 (((((6 * x1) + 3) + x9)).toNatClampNeg))))] [.inl (if ((x4 * (σ.1 58 (((x3 + x9)).toNatClampNeg))) * (σ.1 60 ((((6 * x1) + x9)).toNatClampNeg))) < ((x4 * (σ.1 58 (((x3 + x9)).toNatClampNeg))) * (σ.1 60 (((((6 * x1) + 3) + x9)).toNatClampNeg))) then (((x4 * (σ.1 58 (((x3 + x9)).toNatClampNeg))) * (σ.1 60 (((((6 * x1) + 3) + x9)).toNatClampNeg))) : Int32) else ((x4 * (σ.1 58 (((x3 + x9)).toNatClampNeg))) * (σ.1 60 ((((6 * x1) + x9)).toNatClampNeg))))] σ) ?_ ?_
            · by_cases hc319 : ((x4 * (σ.1 58 (((x3 + x9)).toNatClampNeg))) * (σ.1 60 ((((6 * x1) + x9)).toNatClampNeg))) < ((x4 * (σ.1 58 (((x3 + x9)).toNatClampNeg))) * (σ.1 60 (((((6 * x1) + 3) + x9)).toNatClampNeg)))
              · refine (if_pos hc319).trans ?_
                refine Eq.trans (b := am_r L 100 97 [some (.inr (.inr (50, none))), some (.inl x1), some (.inr (.inr (58, none))), some (.inl x3), some (.inl x4), some (.inl x5), some (.inl x6), some (.inl (if ((x4 * (σ.1 58 (((x3 + x9)).toNatClampNeg))) * (σ.1 60 ((((6 * x1) + x9)).toNatClampNeg))) < ((x4 * (σ.1 58 (((x3 + x9)).toNatClampNeg))) * (σ.1 60 (((((6 * x1) + 3) + x9)).toNatClampNeg))) then (((x4 * (σ.1 58 (((x3 + x9)).toNatClampNeg))) * (σ.1 60 ((((6 * x1) + x9)).toNatClampNeg))) : Int32) else ((x4 * (σ.1 58 (((x3 + x9)).toNatClampNeg))) * (σ.1 60 (((((6 * x1) + 3) + x9)).toNatClampNeg))))), some (.inl x8), some (.inl x9), some (.inl (x4 * (σ.1 58 (((x3 + x9)).toNatClampNeg)))), some (.inl ((x4 * (σ.1 58 (((x3 + x9)).toNatClampNeg))) * (σ.1 60 ((((6 * x1) + x9)).toNatClampNeg)))), some (.inl ((x4 * (σ.1 58 (((x3 + x9)).toNatClampNeg))) * (σ.1 60 (((((6 * x1) + 3) + x9)).toNatClampNeg))))] [.inl ((x4 * (σ.1 58 (((x3 + x9)).toNatClampNeg))) * (σ.1 60 (((((6 * x1) + 3) + x9)).toNatClampNeg)))] σ) ?_ ?_
                · rfl
                · first | with_reducible rfl | simp only [if_pos hc319]
              · refine (if_neg hc319).trans ?_
                refine Eq.trans (b := am_r L 100 97 [some (.inr (.inr (50, none))), some (.inl x1), some (.inr (.inr (58, none))), some (.inl x3), some (.inl x4), some (.inl x5), some (.inl x6), some (.inl (if ((x4 * (σ.1 58 (((x3 + x9)).toNatClampNeg))) * (σ.1 60 ((((6 * x1) + x9)).toNatClampNeg))) < ((x4 * (σ.1 58 (((x3 + x9)).toNatClampNeg))) * (σ.1 60 (((((6 * x1) + 3) + x9)).toNatClampNeg))) then (((x4 * (σ.1 58 (((x3 + x9)).toNatClampNeg))) * (σ.1 60 ((((6 * x1) + x9)).toNatClampNeg))) : Int32) else ((x4 * (σ.1 58 (((x3 + x9)).toNatClampNeg))) * (σ.1 60 (((((6 * x1) + 3) + x9)).toNatClampNeg))))), some (.inl x8), some (.inl x9), some (.inl (x4 * (σ.1 58 (((x3 + x9)).toNatClampNeg)))), some (.inl ((x4 * (σ.1 58 (((x3 + x9)).toNatClampNeg))) * (σ.1 60 ((((6 * x1) + x9)).toNatClampNeg)))), some (.inl ((x4 * (σ.1 58 (((x3 + x9)).toNatClampNeg))) * (σ.1 60 (((((6 * x1) + 3) + x9)).toNatClampNeg))))] [.inl ((x4 * (σ.1 58 (((x3 + x9)).toNatClampNeg))) * (σ.1 60 ((((6 * x1) + x9)).toNatClampNeg)))] σ) ?_ ?_
                · refine (e_100a58_95 _ _ _ _ _ _ _ _ _ _ _ _ _).trans ?_
                  rfl
                · first | with_reducible rfl | simp only [if_neg hc319]
            refine (e_100a58_97 _ _ _ _ _ _ _ _ _ _ _ _ _ _).trans ?_
            rfl
          · first | with_reducible rfl | simp only [if_neg hc317]
      refine (e_100a58_99 _ _ _ _ _ _ _ _ _ _ _ _ _).trans ?_
      exact ih x1 x3 x4 x5 x6 (if (x4 * (σ.1 58 (((x3 + x9)).toNatClampNeg))) = 0 then (x7 : Int32) else (if ((x4 * (σ.1 58 (((x3 + x9)).toNatClampNeg))) * (σ.1 60 ((((6 * x1) + x9)).toNatClampNeg))) < ((x4 * (σ.1 58 (((x3 + x9)).toNatClampNeg))) * (σ.1 60 (((((6 * x1) + 3) + x9)).toNatClampNeg))) then (((x4 * (σ.1 58 (((x3 + x9)).toNatClampNeg))) * (σ.1 60 ((((6 * x1) + x9)).toNatClampNeg))) : Int32) else ((x4 * (σ.1 58 (((x3 + x9)).toNatClampNeg))) * (σ.1 60 (((((6 * x1) + 3) + x9)).toNatClampNeg))))) (if (x4 * (σ.1 58 (((x3 + x9)).toNatClampNeg))) = 0 then (x8 : Int32) else (if ((x4 * (σ.1 58 (((x3 + x9)).toNatClampNeg))) * (σ.1 60 ((((6 * x1) + x9)).toNatClampNeg))) < ((x4 * (σ.1 58 (((x3 + x9)).toNatClampNeg))) * (σ.1 60 (((((6 * x1) + 3) + x9)).toNatClampNeg))) then (((x4 * (σ.1 58 (((x3 + x9)).toNatClampNeg))) * (σ.1 60 (((((6 * x1) + 3) + x9)).toNatClampNeg))) : Int32) else ((x4 * (σ.1 58 (((x3 + x9)).toNatClampNeg))) * (σ.1 60 ((((6 * x1) + x9)).toNatClampNeg))))) (x9 + 1) (some (.inl (x4 * (σ.1 58 (((x3 + x9)).toNatClampNeg))))) (if (x4 * (σ.1 58 (((x3 + x9)).toNatClampNeg))) = 0 then o11 else some (.inl ((x4 * (σ.1 58 (((x3 + x9)).toNatClampNeg))) * (σ.1 60 ((((6 * x1) + x9)).toNatClampNeg))))) (if (x4 * (σ.1 58 (((x3 + x9)).toNatClampNeg))) = 0 then o12 else some (.inl ((x4 * (σ.1 58 (((x3 + x9)).toNatClampNeg))) * (σ.1 60 (((((6 * x1) + 3) + x9)).toNatClampNeg))))) ((h hc316).2.2)
    · refine (e_100a58_105 _ _ _ _ _ _ _ _ _ _ _ _ _).trans ?_
      refine Eq.trans (b := am_r L 100 117 [some (.inr (.inr (50, none))), some (.inl x1), some (.inr (.inr (58, none))), some (.inl x3), some (.inl x4), some (.inl x5), some (.inl x6), some (.inl x7), some (.inl x8), some (.inl x9), o10, o11, o12] [.inl (if x5 = 0 then (x7 : Int32) else x8)] σ) ?_ ?_
      · by_cases hc320 : x5 = 0
        · refine (if_pos hc320).trans ?_
          refine Eq.trans (b := am_r L 100 117 [some (.inr (.inr (50, none))), some (.inl x1), some (.inr (.inr (58, none))), some (.inl x3), some (.inl x4), some (.inl x5), some (.inl x6), some (.inl x7), some (.inl x8), some (.inl x9), o10, o11, o12] [.inl x7] σ) ?_ ?_
          · refine (e_100a58_115 _ _ _ _ _ _ _ _ _ _ _ _ _).trans ?_
            rfl
          · first | with_reducible rfl | simp only [if_pos hc320]
        · refine (if_neg hc320).trans ?_
          refine Eq.trans (b := am_r L 100 117 [some (.inr (.inr (50, none))), some (.inl x1), some (.inr (.inr (58, none))), some (.inl x3), some (.inl x4), some (.inl x5), some (.inl x6), some (.inl x7), some (.inl x8), some (.inl x9), o10, o11, o12] [.inl x8] σ) ?_ ?_
          · rfl
          · first | with_reducible rfl | simp only [if_neg hc320]
      refine (e_100a58_117 _ _ _ _ _ _ _ _ _ _ _ _ _ _).trans ?_
      rfl
def p_100a58 (σ : am_M) (x1 : Int32) (x3 : Int32) (x4 : Int32) (x5 : Int32) (x6 : Int32) : Prop := q_100a58_9 14 σ x1 x3 x4 x5 x6 0 0 0
def f_100a58 (σ : am_M) (x1 : Int32) (x3 : Int32) (x4 : Int32) (x5 : Int32) (x6 : Int32) : Int32 := (l_100a58_9 14 σ x1 x3 x4 x5 x6 0 0 0)
set_option maxRecDepth 20000 in
theorem sf_100a58 (L : Nat) (σ : am_M) (x1 : Int32) (x3 : Int32) (x4 : Int32) (x5 : Int32) (x6 : Int32) (h : p_100a58 σ x1 x3 x4 x5 x6) : am_r L 100 0 [some (.inr (.inr (50, none))), some (.inl x1), some (.inr (.inr (58, none))), some (.inl x3), some (.inl x4), some (.inl x5), some (.inl x6), none, none, none, none, none, none] [] σ = some (some (.inl (f_100a58 σ x1 x3 x4 x5 x6)), am_sh0 L, σ) := by
  unfold p_100a58 at h
  unfold f_100a58
  refine (e_100a58_0 _ _ _ _ _ _ _).trans ?_
  exact t_100a58_9 L σ 14 x1 x3 x4 x5 x6 0 0 0 none none none h
def v_100a58 (σ : am_M) (x1 : Int32) (x3 : Int32) (x4 : Int32) (x5 : Int32) (x6 : Int32) : Int32 := f_100a58 σ x1 x3 x4 x5 x6
theorem s_100a58 (L : Nat) (σ : am_M) (x1 : Int32) (x3 : Int32) (x4 : Int32) (x5 : Int32) (x6 : Int32) (h : p_100a58 σ x1 x3 x4 x5 x6) : am_r L 100 0 [some (.inr (.inr (50, none))), some (.inl x1), some (.inr (.inr (58, none))), some (.inl x3), some (.inl x4), some (.inl x5), some (.inl x6), none, none, none, none, none, none] [] σ = some (some (.inl (v_100a58 σ x1 x3 x4 x5 x6)), am_sh0 L, σ) := sf_100a58 L σ x1 x3 x4 x5 x6 h
-- 100a59: X5_along
def l_100a59_9 : Nat → am_M → Int32 → Int32 → Int32 → Int32 → Int32 → Int32 → Int32 → Int32 → Int32
  | 0, _, _, _, _, _, _, _, _, _ => 0
  | n + 1, σ, x1, x3, x4, x5, x6, x7, x8, x9 => (if x9 < 3 then (l_100a59_9 n σ x1 x3 x4 x5 x6 (if (x4 * (σ.1 59 (((x3 + x9)).toNatClampNeg))) = 0 then (x7 : Int32) else (if ((x4 * (σ.1 59 (((x3 + x9)).toNatClampNeg))) * (σ.1 60 ((((6 * x1) + x9)).toNatClampNeg))) < ((x4 * (σ.1 59 (((x3 + x9)).toNatClampNeg))) * (σ.1 60 (((((6 * x1) + 3) + x9)).toNatClampNeg))) then (((x4 * (σ.1 59 (((x3 + x9)).toNatClampNeg))) * (σ.1 60 ((((6 * x1) + x9)).toNatClampNeg))) : Int32) else ((x4 * (σ.1 59 (((x3 + x9)).toNatClampNeg))) * (σ.1 60 (((((6 * x1) + 3) + x9)).toNatClampNeg))))) (if (x4 * (σ.1 59 (((x3 + x9)).toNatClampNeg))) = 0 then (x8 : Int32) else (if ((x4 * (σ.1 59 (((x3 + x9)).toNatClampNeg))) * (σ.1 60 ((((6 * x1) + x9)).toNatClampNeg))) < ((x4 * (σ.1 59 (((x3 + x9)).toNatClampNeg))) * (σ.1 60 (((((6 * x1) + 3) + x9)).toNatClampNeg))) then (((x4 * (σ.1 59 (((x3 + x9)).toNatClampNeg))) * (σ.1 60 (((((6 * x1) + 3) + x9)).toNatClampNeg))) : Int32) else ((x4 * (σ.1 59 (((x3 + x9)).toNatClampNeg))) * (σ.1 60 ((((6 * x1) + x9)).toNatClampNeg))))) (x9 + 1)) else ((if x5 = 0 then (x7 : Int32) else x8) - x6))
def q_100a59_9 : Nat → am_M → Int32 → Int32 → Int32 → Int32 → Int32 → Int32 → Int32 → Int32 → Prop
  | 0, _, _, _, _, _, _, _, _, _ => False
  | n + 1, σ, x1, x3, x4, x5, x6, x7, x8, x9 => (x9 < 3) → ((¬ ((x3 + x9) < 0 ∨ 39 ≤ ((x3 + x9)).toNatClampNeg)) ∧ ((¬ ((x4 * (σ.1 59 (((x3 + x9)).toNatClampNeg))) = 0) → ((¬ (((6 * x1) + x9) < 0 ∨ 78 ≤ (((6 * x1) + x9)).toNatClampNeg)) ∧ (¬ ((((6 * x1) + 3) + x9) < 0 ∨ 78 ≤ ((((6 * x1) + 3) + x9)).toNatClampNeg)))) ∧ (q_100a59_9 n σ x1 x3 x4 x5 x6 (if (x4 * (σ.1 59 (((x3 + x9)).toNatClampNeg))) = 0 then (x7 : Int32) else (if ((x4 * (σ.1 59 (((x3 + x9)).toNatClampNeg))) * (σ.1 60 ((((6 * x1) + x9)).toNatClampNeg))) < ((x4 * (σ.1 59 (((x3 + x9)).toNatClampNeg))) * (σ.1 60 (((((6 * x1) + 3) + x9)).toNatClampNeg))) then (((x4 * (σ.1 59 (((x3 + x9)).toNatClampNeg))) * (σ.1 60 ((((6 * x1) + x9)).toNatClampNeg))) : Int32) else ((x4 * (σ.1 59 (((x3 + x9)).toNatClampNeg))) * (σ.1 60 (((((6 * x1) + 3) + x9)).toNatClampNeg))))) (if (x4 * (σ.1 59 (((x3 + x9)).toNatClampNeg))) = 0 then (x8 : Int32) else (if ((x4 * (σ.1 59 (((x3 + x9)).toNatClampNeg))) * (σ.1 60 ((((6 * x1) + x9)).toNatClampNeg))) < ((x4 * (σ.1 59 (((x3 + x9)).toNatClampNeg))) * (σ.1 60 (((((6 * x1) + 3) + x9)).toNatClampNeg))) then (((x4 * (σ.1 59 (((x3 + x9)).toNatClampNeg))) * (σ.1 60 (((((6 * x1) + 3) + x9)).toNatClampNeg))) : Int32) else ((x4 * (σ.1 59 (((x3 + x9)).toNatClampNeg))) * (σ.1 60 ((((6 * x1) + x9)).toNatClampNeg))))) (x9 + 1))))
set_option maxRecDepth 20000 in
theorem t_100a59_9 (L : Nat) (σ : am_M) : ∀ (n : Nat) (x1 : Int32) (x3 : Int32) (x4 : Int32) (x5 : Int32) (x6 : Int32) (x7 : Int32) (x8 : Int32) (x9 : Int32) (o10 : Option am_V) (o11 : Option am_V) (o12 : Option am_V), q_100a59_9 n σ x1 x3 x4 x5 x6 x7 x8 x9 → am_r L 100 9 [some (.inr (.inr (50, none))), some (.inl x1), some (.inr (.inr (59, none))), some (.inl x3), some (.inl x4), some (.inl x5), some (.inl x6), some (.inl x7), some (.inl x8), some (.inl x9), o10, o11, o12] [] σ = some (some (.inl (l_100a59_9 n σ x1 x3 x4 x5 x6 x7 x8 x9)), am_sh0 L, σ) := by
  intro n
  induction n with
  | zero => intro x1 x3 x4 x5 x6 x7 x8 x9 o10 o11 o12 h; exact h.elim
  | succ n ih =>
    intro x1 x3 x4 x5 x6 x7 x8 x9 o10 o11 o12 h
    unfold q_100a59_9 at h
    unfold l_100a59_9
    refine (e_100a59_9 _ _ _ _ _ _ _ _ _ _ _ _ _).trans ?_
    refine am_fkIv (fun hc321 => ?_) (fun hc321 => ?_)
    · refine (if_neg ((h hc321).1)).trans ?_
      refine Eq.trans (b := am_r L 100 99 [some (.inr (.inr (50, none))), some (.inl x1), some (.inr (.inr (59, none))), some (.inl x3), some (.inl x4), some (.inl x5), some (.inl x6), some (.inl (if (x4 * (σ.1 59 (((x3 + x9)).toNatClampNeg))) = 0 then (x7 : Int32) else (if ((x4 * (σ.1 59 (((x3 + x9)).toNatClampNeg))) * (σ.1 60 ((((6 * x1) + x9)).toNatClampNeg))) < ((x4 * (σ.1 59 (((x3 + x9)).toNatClampNeg))) * (σ.1 60 (((((6 * x1) + 3) + x9)).toNatClampNeg))) then (((x4 * (σ.1 59 (((x3 + x9)).toNatClampNeg))) * (σ.1 60 ((((6 * x1) + x9)).toNatClampNeg))) : Int32) else ((x4 * (σ.1 59 (((x3 + x9)).toNatClampNeg))) * (σ.1 60 (((((6 * x1) + 3) + x9)).toNatClampNeg)))))), some (.inl (if (x4 * (σ.1 59 (((x3 + x9)).toNatClampNeg))) = 0 then (x8 : Int32) else (if ((x4 * (σ.1 59 (((x3 + x9)).toNatClampNeg))) * (σ.1 60 ((((6 * x1) + x9)).toNatClampNeg))) < ((x4 * (σ.1 59 (((x3 + x9)).toNatClampNeg))) * (σ.1 60 (((((6 * x1) + 3) + x9)).toNatClampNeg))) then (((x4 * (σ.1 59 (((x3 + x9)).toNatClampNeg))) * (σ.1 60 (((((6 * x1) + 3) + x9)).toNatClampNeg))) : Int32) else ((x4 * (σ.1 59 (((x3 + x9)).toNatClampNeg))) * (σ.1 60 ((((6 * x1) + x9)).toNatClampNeg)))))), some (.inl x9), some (.inl (x4 * (σ.1 59 (((x3 + x9)).toNatClampNeg)))), (if (x4 * (σ.1 59 (((x3 + x9)).toNatClampNeg))) = 0 then o11 else some (.inl ((x4 * (σ.1 59 (((x3 + x9)).toNatClampNeg))) * (σ.1 60 ((((6 * x1) + x9)).toNatClampNeg))))), (if (x4 * (σ.1 59 (((x3 + x9)).toNatClampNeg))) = 0 then o12 else some (.inl ((x4 * (σ.1 59 (((x3 + x9)).toNatClampNeg))) * (σ.1 60 (((((6 * x1) + 3) + x9)).toNatClampNeg)))))] [] σ) ?_ ?_
      · by_cases hc322 : (x4 * (σ.1 59 (((x3 + x9)).toNatClampNeg))) = 0
        · refine (if_pos hc322).trans ?_
          refine Eq.trans (b := am_r L 100 99 [some (.inr (.inr (50, none))), some (.inl x1), some (.inr (.inr (59, none))), some (.inl x3), some (.inl x4), some (.inl x5), some (.inl x6), some (.inl x7), some (.inl x8), some (.inl x9), some (.inl (x4 * (σ.1 59 (((x3 + x9)).toNatClampNeg)))), o11, o12] [] σ) ?_ ?_
          · rfl
          · first | with_reducible rfl | simp only [if_pos hc322]
        · refine (if_neg hc322).trans ?_
          refine Eq.trans (b := am_r L 100 99 [some (.inr (.inr (50, none))), some (.inl x1), some (.inr (.inr (59, none))), some (.inl x3), some (.inl x4), some (.inl x5), some (.inl x6), some (.inl (if ((x4 * (σ.1 59 (((x3 + x9)).toNatClampNeg))) * (σ.1 60 ((((6 * x1) + x9)).toNatClampNeg))) < ((x4 * (σ.1 59 (((x3 + x9)).toNatClampNeg))) * (σ.1 60 (((((6 * x1) + 3) + x9)).toNatClampNeg))) then (((x4 * (σ.1 59 (((x3 + x9)).toNatClampNeg))) * (σ.1 60 ((((6 * x1) + x9)).toNatClampNeg))) : Int32) else ((x4 * (σ.1 59 (((x3 + x9)).toNatClampNeg))) * (σ.1 60 (((((6 * x1) + 3) + x9)).toNatClampNeg))))), some (.inl (if ((x4 * (σ.1 59 (((x3 + x9)).toNatClampNeg))) * (σ.1 60 ((((6 * x1) + x9)).toNatClampNeg))) < ((x4 * (σ.1 59 (((x3 + x9)).toNatClampNeg))) * (σ.1 60 (((((6 * x1) + 3) + x9)).toNatClampNeg))) then (((x4 * (σ.1 59 (((x3 + x9)).toNatClampNeg))) * (σ.1 60 (((((6 * x1) + 3) + x9)).toNatClampNeg))) : Int32) else ((x4 * (σ.1 59 (((x3 + x9)).toNatClampNeg))) * (σ.1 60 ((((6 * x1) + x9)).toNatClampNeg))))), some (.inl x9), some (.inl (x4 * (σ.1 59 (((x3 + x9)).toNatClampNeg)))), some (.inl ((x4 * (σ.1 59 (((x3 + x9)).toNatClampNeg))) * (σ.1 60 ((((6 * x1) + x9)).toNatClampNeg)))), some (.inl ((x4 * (σ.1 59 (((x3 + x9)).toNatClampNeg))) * (σ.1 60 (((((6 * x1) + 3) + x9)).toNatClampNeg))))] [] σ) ?_ ?_
          · refine (if_neg (((h hc321).2.1 hc322).1)).trans ?_
            refine (e_100a59_45 _ _ _ _ _ _ _ _ _ _ _ _ _ _ _).trans ?_
            refine (if_neg (((h hc321).2.1 hc322).2)).trans ?_
            refine Eq.trans (b := am_r L 100 81 [some (.inr (.inr (50, none))), some (.inl x1), some (.inr (.inr (59, none))), some (.inl x3), some (.inl x4), some (.inl x5), some (.inl x6), some (.inl x7), some (.inl x8), some (.inl x9), some (.inl (x4 * (σ.1 59 (((x3 + x9)).toNatClampNeg)))), some (.inl ((x4 * (σ.1 59 (((x3 + x9)).toNatClampNeg))) * (σ.1 60 ((((6 * x1) + x9)).toNatClampNeg)))), some (.inl ((x4 * (σ.1 59 (((x3 + x9)).toNatClampNeg))) * (σ.1 60 (((((6 * x1) + 3) + x9)).toNatClampNeg))))] [.inl (if ((x4 * (σ.1 59 (((x3 + x9)).toNatClampNeg))) * (σ.1 60 ((((6 * x1) + x9)).toNatClampNeg))) < ((x4 * (σ.1 59 (((x3 + x9)).toNatClampNeg))) * (σ.1 60 (((((6 * x1) + 3) + x9)).toNatClampNeg))) then (((x4 * (σ.1 59 (((x3 + x9)).toNatClampNeg))) * (σ.1 60 ((((6 * x1) + x9)).toNatClampNeg))) : Int32) else ((x4 * (σ.1 59 (((x3 + x9)).toNatClampNeg))) * (σ.1 60 (((((6 * x1) + 3) + x9)).toNatClampNeg))))] σ) ?_ ?_
            · by_cases hc323 : ((x4 * (σ.1 59 (((x3 + x9)).toNatClampNeg))) * (σ.1 60 ((((6 * x1) + x9)).toNatClampNeg))) < ((x4 * (σ.1 59 (((x3 + x9)).toNatClampNeg))) * (σ.1 60 (((((6 * x1) + 3) + x9)).toNatClampNeg)))
              · refine (if_pos hc323).trans ?_
                refine Eq.trans (b := am_r L 100 81 [some (.inr (.inr (50, none))), some (.inl x1), some (.inr (.inr (59, none))), some (.inl x3), some (.inl x4), some (.inl x5), some (.inl x6), some (.inl x7), some (.inl x8), some (.inl x9), some (.inl (x4 * (σ.1 59 (((x3 + x9)).toNatClampNeg)))), some (.inl ((x4 * (σ.1 59 (((x3 + x9)).toNatClampNeg))) * (σ.1 60 ((((6 * x1) + x9)).toNatClampNeg)))), some (.inl ((x4 * (σ.1 59 (((x3 + x9)).toNatClampNeg))) * (σ.1 60 (((((6 * x1) + 3) + x9)).toNatClampNeg))))] [.inl ((x4 * (σ.1 59 (((x3 + x9)).toNatClampNeg))) * (σ.1 60 ((((6 * x1) + x9)).toNatClampNeg)))] σ) ?_ ?_
                · rfl
                · first | with_reducible rfl | simp only [if_pos hc323]
              · refine (if_neg hc323).trans ?_
                refine Eq.trans (b := am_r L 100 81 [some (.inr (.inr (50, none))), some (.inl x1), some (.inr (.inr (59, none))), some (.inl x3), some (.inl x4), some (.inl x5), some (.inl x6), some (.inl x7), some (.inl x8), some (.inl x9), some (.inl (x4 * (σ.1 59 (((x3 + x9)).toNatClampNeg)))), some (.inl ((x4 * (σ.1 59 (((x3 + x9)).toNatClampNeg))) * (σ.1 60 ((((6 * x1) + x9)).toNatClampNeg)))), some (.inl ((x4 * (σ.1 59 (((x3 + x9)).toNatClampNeg))) * (σ.1 60 (((((6 * x1) + 3) + x9)).toNatClampNeg))))] [.inl ((x4 * (σ.1 59 (((x3 + x9)).toNatClampNeg))) * (σ.1 60 (((((6 * x1) + 3) + x9)).toNatClampNeg)))] σ) ?_ ?_
                · refine (e_100a59_79 _ _ _ _ _ _ _ _ _ _ _ _ _).trans ?_
                  rfl
                · first | with_reducible rfl | simp only [if_neg hc323]
            refine (e_100a59_81 _ _ _ _ _ _ _ _ _ _ _ _ _ _).trans ?_
            refine Eq.trans (b := am_r L 100 97 [some (.inr (.inr (50, none))), some (.inl x1), some (.inr (.inr (59, none))), some (.inl x3), some (.inl x4), some (.inl x5), some (.inl x6), some (.inl (if ((x4 * (σ.1 59 (((x3 + x9)).toNatClampNeg))) * (σ.1 60 ((((6 * x1) + x9)).toNatClampNeg))) < ((x4 * (σ.1 59 (((x3 + x9)).toNatClampNeg))) * (σ.1 60 (((((6 * x1) + 3) + x9)).toNatClampNeg))) then (((x4 * (σ.1 59 (((x3 + x9)).toNatClampNeg))) * (σ.1 60 ((((6 * x1) + x9)).toNatClampNeg))) : Int32) else ((x4 * (σ.1 59 (((x3 + x9)).toNatClampNeg))) * (σ.1 60 (((((6 * x1) + 3) + x9)).toNatClampNeg))))), some (.inl x8), some (.inl x9), some (.inl (x4 * (σ.1 59 (((x3 + x9)).toNatClampNeg)))), some (.inl ((x4 * (σ.1 59 (((x3 + x9)).toNatClampNeg))) * (σ.1 60 ((((6 * x1) + x9)).toNatClampNeg)))), some (.inl ((x4 * (σ.1 59 (((x3 + x9)).toNatClampNeg))) * (σ.1 60 (((((6 * x1) + 3) + x9)).toNatClampNeg))))] [.inl (if ((x4 * (σ.1 59 (((x3 + x9)).toNatClampNeg))) * (σ.1 60 ((((6 * x1) + x9)).toNatClampNeg))) < ((x4 * (σ.1 59 (((x3 + x9)).toNatClampNeg))) * (σ.1 60 (((((6 * x1) + 3) + x9)).toNatClampNeg))) then (((x4 * (σ.1 59 (((x3 + x9)).toNatClampNeg))) * (σ.1 60 (((((6 * x1) + 3) + x9)).toNatClampNeg))) : Int32) else ((x4 * (σ.1 59 (((x3 + x9)).toNatClampNeg))) * (σ.1 60 ((((6 * x1) + x9)).toNatClampNeg))))] σ) ?_ ?_
            · by_cases hc324 : ((x4 * (σ.1 59 (((x3 + x9)).toNatClampNeg))) * (σ.1 60 ((((6 * x1) + x9)).toNatClampNeg))) < ((x4 * (σ.1 59 (((x3 + x9)).toNatClampNeg))) * (σ.1 60 (((((6 * x1) + 3) + x9)).toNatClampNeg)))
              · refine (if_pos hc324).trans ?_
                refine Eq.trans (b := am_r L 100 97 [some (.inr (.inr (50, none))), some (.inl x1), some (.inr (.inr (59, none))), some (.inl x3), some (.inl x4), some (.inl x5), some (.inl x6), some (.inl (if ((x4 * (σ.1 59 (((x3 + x9)).toNatClampNeg))) * (σ.1 60 ((((6 * x1) + x9)).toNatClampNeg))) < ((x4 * (σ.1 59 (((x3 + x9)).toNatClampNeg))) * (σ.1 60 (((((6 * x1) + 3) + x9)).toNatClampNeg))) then (((x4 * (σ.1 59 (((x3 + x9)).toNatClampNeg))) * (σ.1 60 ((((6 * x1) + x9)).toNatClampNeg))) : Int32) else ((x4 * (σ.1 59 (((x3 + x9)).toNatClampNeg))) * (σ.1 60 (((((6 * x1) + 3) + x9)).toNatClampNeg))))), some (.inl x8), some (.inl x9), some (.inl (x4 * (σ.1 59 (((x3 + x9)).toNatClampNeg)))), some (.inl ((x4 * (σ.1 59 (((x3 + x9)).toNatClampNeg))) * (σ.1 60 ((((6 * x1) + x9)).toNatClampNeg)))), some (.inl ((x4 * (σ.1 59 (((x3 + x9)).toNatClampNeg))) * (σ.1 60 (((((6 * x1) + 3) + x9)).toNatClampNeg))))] [.inl ((x4 * (σ.1 59 (((x3 + x9)).toNatClampNeg))) * (σ.1 60 (((((6 * x1) + 3) + x9)).toNatClampNeg)))] σ) ?_ ?_
                · rfl
                · first | with_reducible rfl | simp only [if_pos hc324]
              · refine (if_neg hc324).trans ?_
                refine Eq.trans (b := am_r L 100 97 [some (.inr (.inr (50, none))), some (.inl x1), some (.inr (.inr (59, none))), some (.inl x3), some (.inl x4), some (.inl x5), some (.inl x6), some (.inl (if ((x4 * (σ.1 59 (((x3 + x9)).toNatClampNeg))) * (σ.1 60 ((((6 * x1) + x9)).toNatClampNeg))) < ((x4 * (σ.1 59 (((x3 + x9)).toNatClampNeg))) * (σ.1 60 (((((6 * x1) + 3) + x9)).toNatClampNeg))) then (((x4 * (σ.1 59 (((x3 + x9)).toNatClampNeg))) * (σ.1 60 ((((6 * x1) + x9)).toNatClampNeg))) : Int32) else ((x4 * (σ.1 59 (((x3 + x9)).toNatClampNeg))) * (σ.1 60 (((((6 * x1) + 3) + x9)).toNatClampNeg))))), some (.inl x8), some (.inl x9), some (.inl (x4 * (σ.1 59 (((x3 + x9)).toNatClampNeg)))), some (.inl ((x4 * (σ.1 59 (((x3 + x9)).toNatClampNeg))) * (σ.1 60 ((((6 * x1) + x9)).toNatClampNeg)))), some (.inl ((x4 * (σ.1 59 (((x3 + x9)).toNatClampNeg))) * (σ.1 60 (((((6 * x1) + 3) + x9)).toNatClampNeg))))] [.inl ((x4 * (σ.1 59 (((x3 + x9)).toNatClampNeg))) * (σ.1 60 ((((6 * x1) + x9)).toNatClampNeg)))] σ) ?_ ?_
                · refine (e_100a59_95 _ _ _ _ _ _ _ _ _ _ _ _ _).trans ?_
                  rfl
                · first | with_reducible rfl | simp only [if_neg hc324]
            refine (e_100a59_97 _ _ _ _ _ _ _ _ _ _ _ _ _ _).trans ?_
            rfl
          · first | with_reducible rfl | simp only [if_neg hc322]
      refine (e_100a59_99 _ _ _ _ _ _ _ _ _ _ _ _ _).trans ?_
      exact ih x1 x3 x4 x5 x6 (if (x4 * (σ.1 59 (((x3 + x9)).toNatClampNeg))) = 0 then (x7 : Int32) else (if ((x4 * (σ.1 59 (((x3 + x9)).toNatClampNeg))) * (σ.1 60 ((((6 * x1) + x9)).toNatClampNeg))) < ((x4 * (σ.1 59 (((x3 + x9)).toNatClampNeg))) * (σ.1 60 (((((6 * x1) + 3) + x9)).toNatClampNeg))) then (((x4 * (σ.1 59 (((x3 + x9)).toNatClampNeg))) * (σ.1 60 ((((6 * x1) + x9)).toNatClampNeg))) : Int32) else ((x4 * (σ.1 59 (((x3 + x9)).toNatClampNeg))) * (σ.1 60 (((((6 * x1) + 3) + x9)).toNatClampNeg))))) (if (x4 * (σ.1 59 (((x3 + x9)).toNatClampNeg))) = 0 then (x8 : Int32) else (if ((x4 * (σ.1 59 (((x3 + x9)).toNatClampNeg))) * (σ.1 60 ((((6 * x1) + x9)).toNatClampNeg))) < ((x4 * (σ.1 59 (((x3 + x9)).toNatClampNeg))) * (σ.1 60 (((((6 * x1) + 3) + x9)).toNatClampNeg))) then (((x4 * (σ.1 59 (((x3 + x9)).toNatClampNeg))) * (σ.1 60 (((((6 * x1) + 3) + x9)).toNatClampNeg))) : Int32) else ((x4 * (σ.1 59 (((x3 + x9)).toNatClampNeg))) * (σ.1 60 ((((6 * x1) + x9)).toNatClampNeg))))) (x9 + 1) (some (.inl (x4 * (σ.1 59 (((x3 + x9)).toNatClampNeg))))) (if (x4 * (σ.1 59 (((x3 + x9)).toNatClampNeg))) = 0 then o11 else some (.inl ((x4 * (σ.1 59 (((x3 + x9)).toNatClampNeg))) * (σ.1 60 ((((6 * x1) + x9)).toNatClampNeg))))) (if (x4 * (σ.1 59 (((x3 + x9)).toNatClampNeg))) = 0 then o12 else some (.inl ((x4 * (σ.1 59 (((x3 + x9)).toNatClampNeg))) * (σ.1 60 (((((6 * x1) + 3) + x9)).toNatClampNeg))))) ((h hc321).2.2)
    · refine (e_100a59_105 _ _ _ _ _ _ _ _ _ _ _ _ _).trans ?_
      refine Eq.trans (b := am_r L 100 117 [some (.inr (.inr (50, none))), some (.inl x1), some (.inr (.inr (59, none))), some (.inl x3), some (.inl x4), some (.inl x5), some (.inl x6), some (.inl x7), some (.inl x8), some (.inl x9), o10, o11, o12] [.inl (if x5 = 0 then (x7 : Int32) else x8)] σ) ?_ ?_
      · by_cases hc325 : x5 = 0
        · refine (if_pos hc325).trans ?_
          refine Eq.trans (b := am_r L 100 117 [some (.inr (.inr (50, none))), some (.inl x1), some (.inr (.inr (59, none))), some (.inl x3), some (.inl x4), some (.inl x5), some (.inl x6), some (.inl x7), some (.inl x8), some (.inl x9), o10, o11, o12] [.inl x7] σ) ?_ ?_
          · refine (e_100a59_115 _ _ _ _ _ _ _ _ _ _ _ _ _).trans ?_
            rfl
          · first | with_reducible rfl | simp only [if_pos hc325]
        · refine (if_neg hc325).trans ?_
          refine Eq.trans (b := am_r L 100 117 [some (.inr (.inr (50, none))), some (.inl x1), some (.inr (.inr (59, none))), some (.inl x3), some (.inl x4), some (.inl x5), some (.inl x6), some (.inl x7), some (.inl x8), some (.inl x9), o10, o11, o12] [.inl x8] σ) ?_ ?_
          · rfl
          · first | with_reducible rfl | simp only [if_neg hc325]
      refine (e_100a59_117 _ _ _ _ _ _ _ _ _ _ _ _ _ _).trans ?_
      rfl
def p_100a59 (σ : am_M) (x1 : Int32) (x3 : Int32) (x4 : Int32) (x5 : Int32) (x6 : Int32) : Prop := q_100a59_9 14 σ x1 x3 x4 x5 x6 0 0 0
def f_100a59 (σ : am_M) (x1 : Int32) (x3 : Int32) (x4 : Int32) (x5 : Int32) (x6 : Int32) : Int32 := (l_100a59_9 14 σ x1 x3 x4 x5 x6 0 0 0)
set_option maxRecDepth 20000 in
theorem sf_100a59 (L : Nat) (σ : am_M) (x1 : Int32) (x3 : Int32) (x4 : Int32) (x5 : Int32) (x6 : Int32) (h : p_100a59 σ x1 x3 x4 x5 x6) : am_r L 100 0 [some (.inr (.inr (50, none))), some (.inl x1), some (.inr (.inr (59, none))), some (.inl x3), some (.inl x4), some (.inl x5), some (.inl x6), none, none, none, none, none, none] [] σ = some (some (.inl (f_100a59 σ x1 x3 x4 x5 x6)), am_sh0 L, σ) := by
  unfold p_100a59 at h
  unfold f_100a59
  refine (e_100a59_0 _ _ _ _ _ _ _).trans ?_
  exact t_100a59_9 L σ 14 x1 x3 x4 x5 x6 0 0 0 none none none h
def v_100a59 (σ : am_M) (x1 : Int32) (x3 : Int32) (x4 : Int32) (x5 : Int32) (x6 : Int32) : Int32 := f_100a59 σ x1 x3 x4 x5 x6
theorem s_100a59 (L : Nat) (σ : am_M) (x1 : Int32) (x3 : Int32) (x4 : Int32) (x5 : Int32) (x6 : Int32) (h : p_100a59 σ x1 x3 x4 x5 x6) : am_r L 100 0 [some (.inr (.inr (50, none))), some (.inl x1), some (.inr (.inr (59, none))), some (.inl x3), some (.inl x4), some (.inl x5), some (.inl x6), none, none, none, none, none, none] [] σ = some (some (.inl (v_100a59 σ x1 x3 x4 x5 x6)), am_sh0 L, σ) := sf_100a59 L σ x1 x3 x4 x5 x6 h
