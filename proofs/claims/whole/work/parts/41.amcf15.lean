-- 115: X5_order
def p_115 (σ : am_M) : Prop := ¬ ((σ.1 50 1) = 0) → (p_114 (am_put σ 50 0 0))
def v_115 (σ : am_M) : Int32 := (if (σ.1 50 1) = 0 then (-1) else (if ((w_114 (am_put σ 50 0 0)).1 61 0) = 0 then ((-1) : Int32) else (((w_114 (am_put σ 50 0 0)).1 50 1) - 1)))
def w_115 (σ : am_M) : am_M := (if (σ.1 50 1) = 0 then (am_put σ 50 0 0) else (w_114 (am_put σ 50 0 0)))
set_option maxRecDepth 20000 in
theorem s_115 (L : Nat) (σ : am_M) (h : p_115 σ) : am_r L 115 0 [some (.inr (.inr (50, none)))] [] σ = some (some (.inl (v_115 σ)), am_sh0 L, w_115 σ) := by
  unfold p_115 at h
  unfold v_115 w_115
  refine (e_115_0 _ _).trans ?_
  refine am_fkIvm (fun hc448 => ?_) (fun hc448 => ?_)
  · rfl
  · refine (e_115_14 _ _).trans ?_
    refine (am_bind_v (s_114 L (am_put σ 50 0 0) ((h hc448)))).trans ?_
    refine (e_115_18 _ _).trans ?_
    refine (if_neg (by decide)).trans ?_
    refine Eq.trans (b := am_r L 115 37 [some (.inr (.inr (50, none)))] [.inl (if ((w_114 (am_put σ 50 0 0)).1 61 0) = 0 then ((-1) : Int32) else (((w_114 (am_put σ 50 0 0)).1 50 1) - 1))] (w_114 (am_put σ 50 0 0))) ?_ ?_
    · by_cases hc449 : ((w_114 (am_put σ 50 0 0)).1 61 0) = 0
      · refine (if_pos hc449).trans ?_
        refine Eq.trans (b := am_r L 115 37 [some (.inr (.inr (50, none)))] [.inl (-1)] (w_114 (am_put σ 50 0 0))) ?_ ?_
        · refine (e_115_36 _ _).trans ?_
          rfl
        · first | with_reducible rfl | simp only [if_pos hc449]
      · refine (if_neg hc449).trans ?_
        refine Eq.trans (b := am_r L 115 37 [some (.inr (.inr (50, none)))] [.inl (((w_114 (am_put σ 50 0 0)).1 50 1) - 1)] (w_114 (am_put σ 50 0 0))) ?_ ?_
        · rfl
        · first | with_reducible rfl | simp only [if_neg hc449]
    refine (e_115_37 _ _ _).trans ?_
    rfl
-- 116: X5_step
def l_116_60 (k47 : am_M → Int32 → Int32 → Int32 → Int32 → Int32 × am_M) : Nat → am_M → Int32 → Int32 → Int32 → Int32 → Int32 × am_M
  | 0, σ, x1, x2, x3, x4 => (0, σ)
  | n + 1, σ, x1, x2, x3, x4 => (if ((x2 >>> (x3 &&& (31 : Int32))) &&& (1 : Int32)) = 1 then (l_116_60 k47 n σ x1 x2 (x3 + 1) x4) else (if (σ.1 61 ((((x2 ||| ((1 : Int32) <<< (x3 &&& (31 : Int32)))) / 2)).toNatClampNeg)) = 0 then (l_116_60 k47 n σ x1 x2 (x3 + 1) x4) else (if (v_109 σ x3) = 0 then (l_116_60 k47 n (w_109 σ x3) x1 x2 (x3 + 1) x4) else (if (v_112 (w_109 σ x3) x3) = (-1) then (l_116_60 k47 n (w_109 σ x3) x1 x2 (x3 + 1) x4) else (k47 (w_109 σ x3) x1 (x2 ||| ((1 : Int32) <<< (x3 &&& (31 : Int32)))) x3 (x4 + 1))))))
def q_116_60 (c47 : am_M → Int32 → Int32 → Int32 → Int32 → Prop) : Nat → am_M → Int32 → Int32 → Int32 → Int32 → Prop
  | 0, _, _, _, _, _ => False
  | n + 1, σ, x1, x2, x3, x4 => ((((x2 >>> (x3 &&& (31 : Int32))) &&& (1 : Int32)) = 1) → (q_116_60 c47 n σ x1 x2 (x3 + 1) x4)) ∧ (¬ (((x2 >>> (x3 &&& (31 : Int32))) &&& (1 : Int32)) = 1) → ((¬ (((x2 ||| ((1 : Int32) <<< (x3 &&& (31 : Int32)))) / 2) < 0 ∨ 4096 ≤ (((x2 ||| ((1 : Int32) <<< (x3 &&& (31 : Int32)))) / 2)).toNatClampNeg)) ∧ ((((σ.1 61 ((((x2 ||| ((1 : Int32) <<< (x3 &&& (31 : Int32)))) / 2)).toNatClampNeg)) = 0) → (q_116_60 c47 n σ x1 x2 (x3 + 1) x4)) ∧ (¬ ((σ.1 61 ((((x2 ||| ((1 : Int32) <<< (x3 &&& (31 : Int32)))) / 2)).toNatClampNeg)) = 0) → ((p_109 σ x3) ∧ ((((v_109 σ x3) = 0) → (q_116_60 c47 n (w_109 σ x3) x1 x2 (x3 + 1) x4)) ∧ (¬ ((v_109 σ x3) = 0) → ((p_112 (w_109 σ x3) x3) ∧ ((((v_112 (w_109 σ x3) x3) = (-1)) → (q_116_60 c47 n (w_109 σ x3) x1 x2 (x3 + 1) x4)) ∧ (¬ ((v_112 (w_109 σ x3) x3) = (-1)) → (c47 (w_109 σ x3) x1 (x2 ||| ((1 : Int32) <<< (x3 &&& (31 : Int32)))) x3 (x4 + 1))))))))))))
set_option maxRecDepth 20000 in
theorem t_116_60 (L : Nat) (k47 : am_M → Int32 → Int32 → Int32 → Int32 → Int32 × am_M) (c47 : am_M → Int32 → Int32 → Int32 → Int32 → Prop) (hk47 : ∀ (σ : am_M) (x1 : Int32) (x2 : Int32) (x3 : Int32) (x4 : Int32), c47 σ x1 x2 x3 x4 → am_r L 116 47 [some (.inr (.inr (50, none))), some (.inl x1), some (.inl x2), some (.inl x3), some (.inl x4)] [] σ = some (some (.inl (k47 σ x1 x2 x3 x4).1), am_sh0 L, (k47 σ x1 x2 x3 x4).2)) : ∀ (n : Nat) (σ : am_M) (x1 : Int32) (x2 : Int32) (x3 : Int32) (x4 : Int32), q_116_60 c47 n σ x1 x2 x3 x4 → am_r L 116 60 [some (.inr (.inr (50, none))), some (.inl x1), some (.inl x2), some (.inl x3), some (.inl x4)] [] σ = some (some (.inl (l_116_60 k47 n σ x1 x2 x3 x4).1), am_sh0 L, (l_116_60 k47 n σ x1 x2 x3 x4).2) := by
  intro n
  induction n with
  | zero => intro σ x1 x2 x3 x4 h; exact h.elim
  | succ n ih =>
    intro σ x1 x2 x3 x4 h
    unfold q_116_60 at h
    unfold l_116_60
    refine (e_116_60 _ _ _ _ _ _).trans ?_
    refine am_fkPI (fun hc450 => ?_) (fun hc450 => ?_)
    · refine (e_116_101 _ _ _ _ _ _).trans ?_
      exact ih σ x1 x2 (x3 + 1) x4 ((h.1 hc450))
    · refine (if_neg ((h.2 hc450).1)).trans ?_
      refine am_fkPI (fun hc451 => ?_) (fun hc451 => ?_)
      · refine (e_116_101 _ _ _ _ _ _).trans ?_
        exact ih σ x1 x2 (x3 + 1) x4 (((h.2 hc450).2.1 hc451))
      · refine (am_bind_i (s_109 L σ x3 (((h.2 hc450).2.2 hc451).1))).trans ?_
        refine (e_116_89 _ _ _ _ _ _ _).trans ?_
        refine am_fkPI (fun hc452 => ?_) (fun hc452 => ?_)
        · refine (e_116_101 _ _ _ _ _ _).trans ?_
          exact ih (w_109 σ x3) x1 x2 (x3 + 1) x4 ((((h.2 hc450).2.2 hc451).2.1 hc452))
        · refine (am_bind_i (s_112 L (w_109 σ x3) x3 ((((h.2 hc450).2.2 hc451).2.2 hc452).1))).trans ?_
          refine (e_116_97 _ _ _ _ _ _ _).trans ?_
          refine am_fkPI (fun hc453 => ?_) (fun hc453 => ?_)
          · refine (e_116_101 _ _ _ _ _ _).trans ?_
            exact ih (w_109 σ x3) x1 x2 (x3 + 1) x4 (((((h.2 hc450).2.2 hc451).2.2 hc452).2.1 hc453))
          · refine (e_116_107 _ _ _ _ _ _).trans ?_
            exact hk47 (w_109 σ x3) x1 (x2 ||| ((1 : Int32) <<< (x3 &&& (31 : Int32)))) x3 (x4 + 1) (((((h.2 hc450).2.2 hc451).2.2 hc452).2.2 hc453))
def l_116_47 : Nat → am_M → Int32 → Int32 → Int32 → Int32 → Int32 × am_M
  | 0, σ, x1, x2, x3, x4 => (0, σ)
  | n + 1, σ, x1, x2, x3, x4 => (if x1 < x4 then (x3, σ) else (l_116_60 (l_116_47 n) 14 (w_90 σ x2) x1 x2 1 x4))
def q_116_47 : Nat → am_M → Int32 → Int32 → Int32 → Int32 → Prop
  | 0, _, _, _, _, _ => False
  | n + 1, σ, x1, x2, x3, x4 => ¬ (x1 < x4) → ((p_90 σ x2) ∧ (q_116_60 (q_116_47 n) 14 (w_90 σ x2) x1 x2 1 x4))
set_option maxRecDepth 20000 in
theorem t_116_47 (L : Nat) : ∀ (n : Nat) (σ : am_M) (x1 : Int32) (x2 : Int32) (x3 : Int32) (x4 : Int32), q_116_47 n σ x1 x2 x3 x4 → am_r L 116 47 [some (.inr (.inr (50, none))), some (.inl x1), some (.inl x2), some (.inl x3), some (.inl x4)] [] σ = some (some (.inl (l_116_47 n σ x1 x2 x3 x4).1), am_sh0 L, (l_116_47 n σ x1 x2 x3 x4).2) := by
  intro n
  induction n with
  | zero => intro σ x1 x2 x3 x4 h; exact h.elim
  | succ n ih =>
    intro σ x1 x2 x3 x4 h
    unfold q_116_47 at h
    unfold l_116_47
    refine (e_116_47 _ _ _ _ _ _).trans ?_
    refine am_fkPI (fun hc454 => ?_) (fun hc454 => ?_)
    · refine (e_116_119 _ _ _ _ _ _).trans ?_
      rfl
    · refine (am_bind_v (s_90 L σ x2 ((h hc454).1))).trans ?_
      refine (e_116_58 _ _ _ _ _ _).trans ?_
      exact t_116_60 L (l_116_47 n) (q_116_47 n) ih 14 (w_90 σ x2) x1 x2 1 x4 ((h hc454).2)
def p_116 (σ : am_M) (x1 : Int32) : Prop := ¬ ((v_75 (am_put σ 50 0 0) (Int32.toInt64 x1) ((0 : Int32).toInt64) ((Int32.toInt64 (σ.1 50 1)) - (2 : Int32).toInt64)) = 0) → ((p_114 (am_put σ 50 0 0)) ∧ (¬ (((w_114 (am_put σ 50 0 0)).1 61 0) = 0) → (q_116_47 14 (w_114 (am_put σ 50 0 0)) x1 0 (-1) 0)))
def f_116 (σ : am_M) (x1 : Int32) : Int32 × am_M := (if (v_75 (am_put σ 50 0 0) (Int32.toInt64 x1) ((0 : Int32).toInt64) ((Int32.toInt64 (σ.1 50 1)) - (2 : Int32).toInt64)) = 0 then ((-1), (am_put σ 50 0 0)) else (if ((w_114 (am_put σ 50 0 0)).1 61 0) = 0 then ((-1), (w_114 (am_put σ 50 0 0))) else (l_116_47 14 (w_114 (am_put σ 50 0 0)) x1 0 (-1) 0)))
set_option maxRecDepth 20000 in
theorem sf_116 (L : Nat) (σ : am_M) (x1 : Int32) (h : p_116 σ x1) : am_r L 116 0 [some (.inr (.inr (50, none))), some (.inl x1), none, none, none] [] σ = some (some (.inl (f_116 σ x1).1), am_sh0 L, (f_116 σ x1).2) := by
  unfold p_116 at h
  unfold f_116
  refine (e_116_0 _ _ _).trans ?_
  refine (am_bind_i (s_75 L (am_put σ 50 0 0) (Int32.toInt64 x1) ((0 : Int32).toInt64) ((Int32.toInt64 (σ.1 50 1)) - (2 : Int32).toInt64))).trans ?_
  refine (e_116_20 _ _ _ _).trans ?_
  refine am_fkPI (fun hc455 => ?_) (fun hc455 => ?_)
  · rfl
  · refine (e_116_25 _ _ _).trans ?_
    refine (am_bind_v (s_114 L (am_put σ 50 0 0) ((h hc455).1))).trans ?_
    refine (e_116_29 _ _ _).trans ?_
    refine (if_neg (by decide)).trans ?_
    refine am_fkPI (fun hc456 => ?_) (fun hc456 => ?_)
    · rfl
    · refine (e_116_40 _ _ _).trans ?_
      exact t_116_47 L 14 (w_114 (am_put σ 50 0 0)) x1 0 (-1) 0 (((h hc455).2 hc456))
def v_116 (σ : am_M) (x1 : Int32) : Int32 := (f_116 σ x1).1
def w_116 (σ : am_M) (x1 : Int32) : am_M := (f_116 σ x1).2
theorem s_116 (L : Nat) (σ : am_M) (x1 : Int32) (h : p_116 σ x1) : am_r L 116 0 [some (.inr (.inr (50, none))), some (.inl x1), none, none, none] [] σ = some (some (.inl (v_116 σ x1)), am_sh0 L, w_116 σ x1) := sf_116 L σ x1 h
-- 117: X5_count
def p_117 (σ : am_M) (x1 : Int32) : Prop := (x1 = 1) → ((0 < (σ.1 50 1)) → (p_114 (am_put σ 50 0 0)))
def v_117 (σ : am_M) (x1 : Int32) : Int32 := (if x1 = 1 then (if 0 < (σ.1 50 1) then ((w_114 (am_put σ 50 0 0)).1 50 17) else (if x1 = 0 then ((σ.1 50 1) : Int32) else (if x1 = 1 then (0 : Int32) else (-1)))) else (if x1 = 0 then ((σ.1 50 1) : Int32) else (if x1 = 1 then (0 : Int32) else (-1))))
def w_117 (σ : am_M) (x1 : Int32) : am_M := (if x1 = 1 then (if 0 < (σ.1 50 1) then (w_114 (am_put σ 50 0 0)) else (am_put σ 50 0 0)) else (am_put σ 50 0 0))
set_option maxRecDepth 20000 in
theorem s_117 (L : Nat) (σ : am_M) (x1 : Int32) (h : p_117 σ x1) : am_r L 117 0 [some (.inr (.inr (50, none))), some (.inl x1)] [] σ = some (some (.inl (v_117 σ x1)), am_sh0 L, w_117 σ x1) := by
  unfold p_117 at h
  unfold v_117 w_117
  refine (e_117_0 _ _ _).trans ?_
  refine am_fkIvm (fun hc457 => ?_) (fun hc457 => ?_)
  · refine am_fkIvm (fun hc458 => ?_) (fun hc458 => ?_)
    · refine (am_bind_v (s_114 L (am_put σ 50 0 0) (((h hc457) hc458)))).trans ?_
      refine (e_117_21 _ _ _).trans ?_
      rfl
    · refine (e_117_26 _ _ _).trans ?_
      refine Eq.trans (b := am_r L 117 47 [some (.inr (.inr (50, none))), some (.inl x1)] [.inl (if x1 = 0 then ((σ.1 50 1) : Int32) else (if x1 = 1 then (0 : Int32) else (-1)))] (am_put σ 50 0 0)) ?_ ?_
      · by_cases hc459 : x1 = 0
        · refine (if_pos hc459).trans ?_
          refine Eq.trans (b := am_r L 117 47 [some (.inr (.inr (50, none))), some (.inl x1)] [.inl (σ.1 50 1)] (am_put σ 50 0 0)) ?_ ?_
          · rfl
          · first | with_reducible rfl | simp only [if_pos hc459]
        · refine (if_neg hc459).trans ?_
          refine Eq.trans (b := am_r L 117 47 [some (.inr (.inr (50, none))), some (.inl x1)] [.inl (if x1 = 1 then (0 : Int32) else (-1))] (am_put σ 50 0 0)) ?_ ?_
          · refine (e_117_37 _ _ _).trans ?_
            refine Eq.trans (b := am_r L 117 47 [some (.inr (.inr (50, none))), some (.inl x1)] [.inl (if x1 = 1 then (0 : Int32) else (-1))] (am_put σ 50 0 0)) ?_ ?_
            · by_cases hc460 : x1 = 1
              · refine (if_pos hc460).trans ?_
                refine Eq.trans (b := am_r L 117 47 [some (.inr (.inr (50, none))), some (.inl x1)] [.inl 0] (am_put σ 50 0 0)) ?_ ?_
                · rfl
                · first | with_reducible rfl | simp only [if_pos hc460]
              · refine (if_neg hc460).trans ?_
                refine Eq.trans (b := am_r L 117 47 [some (.inr (.inr (50, none))), some (.inl x1)] [.inl (-1)] (am_put σ 50 0 0)) ?_ ?_
                · refine (e_117_46 _ _ _).trans ?_
                  rfl
                · first | with_reducible rfl | simp only [if_neg hc460]
            rfl
          · first | with_reducible rfl | simp only [if_neg hc459]
      refine (e_117_47 _ _ _ _).trans ?_
      rfl
  · refine (e_117_26 _ _ _).trans ?_
    refine Eq.trans (b := am_r L 117 47 [some (.inr (.inr (50, none))), some (.inl x1)] [.inl (if x1 = 0 then ((σ.1 50 1) : Int32) else (if x1 = 1 then (0 : Int32) else (-1)))] (am_put σ 50 0 0)) ?_ ?_
    · by_cases hc461 : x1 = 0
      · refine (if_pos hc461).trans ?_
        refine Eq.trans (b := am_r L 117 47 [some (.inr (.inr (50, none))), some (.inl x1)] [.inl (σ.1 50 1)] (am_put σ 50 0 0)) ?_ ?_
        · rfl
        · first | with_reducible rfl | simp only [if_pos hc461]
      · refine (if_neg hc461).trans ?_
        refine Eq.trans (b := am_r L 117 47 [some (.inr (.inr (50, none))), some (.inl x1)] [.inl (if x1 = 1 then (0 : Int32) else (-1))] (am_put σ 50 0 0)) ?_ ?_
        · refine (e_117_37 _ _ _).trans ?_
          refine Eq.trans (b := am_r L 117 47 [some (.inr (.inr (50, none))), some (.inl x1)] [.inl (if x1 = 1 then (0 : Int32) else (-1))] (am_put σ 50 0 0)) ?_ ?_
          · by_cases hc462 : x1 = 1
            · refine (if_pos hc462).trans ?_
              refine Eq.trans (b := am_r L 117 47 [some (.inr (.inr (50, none))), some (.inl x1)] [.inl 0] (am_put σ 50 0 0)) ?_ ?_
              · rfl
              · first | with_reducible rfl | simp only [if_pos hc462]
            · refine (if_neg hc462).trans ?_
              refine Eq.trans (b := am_r L 117 47 [some (.inr (.inr (50, none))), some (.inl x1)] [.inl (-1)] (am_put σ 50 0 0)) ?_ ?_
              · refine (e_117_46 _ _ _).trans ?_
                rfl
              · first | with_reducible rfl | simp only [if_neg hc462]
          rfl
        · first | with_reducible rfl | simp only [if_neg hc461]
    refine (e_117_47 _ _ _ _).trans ?_
    rfl
-- 118: X5_check
def v_118 (σ : am_M) : Int32 := 1
def w_118 (σ : am_M) : am_M := (am_put σ 50 0 0)
set_option maxRecDepth 20000 in
theorem s_118 (L : Nat) (σ : am_M) : am_r L 118 0 [some (.inr (.inr (50, none)))] [] σ = some (some (.inl (v_118 σ)), am_sh0 L, w_118 σ) := by
  unfold v_118 w_118
  refine (e_118_0 _ _).trans ?_
  rfl
