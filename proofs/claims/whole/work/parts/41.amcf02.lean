-- 50: X4_panel
def p_50 (σ : am_M) (x1 : Int32) (x2 : Int32) (x3 : Int32) (x4 : Int32) (x5 : Int32) (x6 : Int32) : Prop := ((σ.1 2 0) < 13) → (¬ ((v_67 σ x6 0 1) = 0) → ((p_34 σ x1 x2) ∧ (¬ ((v_34 σ x1 x2) = 0) → (¬ ((v_67 σ x4 1 2000) = 0) → (¬ ((v_67 σ x5 1 2000) = 0) → ((p_32 σ x1 x2) ∧ (¬ ((v_67 σ x3 0 ((v_32 σ x1 x2) - x4)) = 0) → (p_35 (am_put σ 1 9 0) x1 x2 x3 x4 x5 (if x6 = 1 then (1 : Int32) else 0)))))))))
def v_50 (σ : am_M) (x1 : Int32) (x2 : Int32) (x3 : Int32) (x4 : Int32) (x5 : Int32) (x6 : Int32) : Int32 := (if (σ.1 2 0) < 13 then (if (v_67 σ x6 0 1) = 0 then (-1) else (if (v_34 σ x1 x2) = 0 then (-1) else (if (v_67 σ x4 1 2000) = 0 then (-1) else (if (v_67 σ x5 1 2000) = 0 then (-1) else (if (v_67 σ x3 0 ((v_32 σ x1 x2) - x4)) = 0 then (-1) else (v_35 (am_put σ 1 9 0) x1 x2 x3 x4 x5 (if x6 = 1 then (1 : Int32) else 0))))))) else (-1))
def w_50 (σ : am_M) (x1 : Int32) (x2 : Int32) (x3 : Int32) (x4 : Int32) (x5 : Int32) (x6 : Int32) : am_M := (if (σ.1 2 0) < 13 then (if (v_67 σ x6 0 1) = 0 then σ else (if (v_34 σ x1 x2) = 0 then σ else (if (v_67 σ x4 1 2000) = 0 then σ else (if (v_67 σ x5 1 2000) = 0 then σ else (if (v_67 σ x3 0 ((v_32 σ x1 x2) - x4)) = 0 then σ else (w_35 (am_put σ 1 9 0) x1 x2 x3 x4 x5 (if x6 = 1 then (1 : Int32) else 0))))))) else σ)
set_option maxRecDepth 20000 in
theorem s_50 (L : Nat) (σ : am_M) (x1 : Int32) (x2 : Int32) (x3 : Int32) (x4 : Int32) (x5 : Int32) (x6 : Int32) (h : p_50 σ x1 x2 x3 x4 x5 x6) : am_r L 50 0 [some (.inr (.inr (1, none))), some (.inl x1), some (.inl x2), some (.inl x3), some (.inl x4), some (.inl x5), some (.inl x6)] [] σ = some (some (.inl (v_50 σ x1 x2 x3 x4 x5 x6)), am_sh0 L, w_50 σ x1 x2 x3 x4 x5 x6) := by
  unfold p_50 at h
  unfold v_50 w_50
  refine (e_50_0 _ _ _ _ _ _ _ _).trans ?_
  refine am_fkIvm (fun hc18 => ?_) (fun hc18 => ?_)
  · refine (am_bind_i (s_67 L σ x6 0 1)).trans ?_
    refine (e_50_19 _ _ _ _ _ _ _ _ _).trans ?_
    refine am_fkIvm (fun hc19 => ?_) (fun hc19 => ?_)
    · refine (e_50_34 _ _ _ _ _ _ _ _).trans ?_
      rfl
    · refine (am_bind_i (s_34 L σ x1 x2 (((h hc18) hc19).1))).trans ?_
      refine (e_50_31 _ _ _ _ _ _ _ _ _).trans ?_
      refine am_fkIvm (fun hc20 => ?_) (fun hc20 => ?_)
      · refine (e_50_34 _ _ _ _ _ _ _ _).trans ?_
        rfl
      · refine (e_50_36 _ _ _ _ _ _ _ _).trans ?_
        refine (am_bind_i (s_67 L σ x4 1 2000)).trans ?_
        refine (e_50_45 _ _ _ _ _ _ _ _ _).trans ?_
        refine am_fkIvm (fun hc21 => ?_) (fun hc21 => ?_)
        · refine (e_50_60 _ _ _ _ _ _ _ _).trans ?_
          rfl
        · refine (am_bind_i (s_67 L σ x5 1 2000)).trans ?_
          refine (e_50_57 _ _ _ _ _ _ _ _ _).trans ?_
          refine am_fkIvm (fun hc22 => ?_) (fun hc22 => ?_)
          · refine (e_50_60 _ _ _ _ _ _ _ _).trans ?_
            rfl
          · refine (e_50_62 _ _ _ _ _ _ _ _).trans ?_
            refine (am_bind_i (s_32 L σ x1 x2 ((((((h hc18) hc19).2 hc20) hc21) hc22).1))).trans ?_
            refine (e_50_73 _ _ _ _ _ _ _ _ _ _ _).trans ?_
            refine (am_bind_i (s_67 L σ x3 0 ((v_32 σ x1 x2) - x4))).trans ?_
            refine (e_50_79 _ _ _ _ _ _ _ _ _).trans ?_
            refine am_fkIvm (fun hc23 => ?_) (fun hc23 => ?_)
            · rfl
            · refine (e_50_84 _ _ _ _ _ _ _ _).trans ?_
              refine Eq.trans (b := am_r L 50 111 [some (.inr (.inr (1, none))), some (.inl x1), some (.inl x2), some (.inl x3), some (.inl x4), some (.inl x5), some (.inl x6)] [.inl (if x6 = 1 then (1 : Int32) else 0), .inl x5, .inl x4, .inl x3, .inl x2, .inl x1, .inr (.inr (2, none))] (am_put σ 1 9 0)) ?_ ?_
              · by_cases hc24 : x6 = 1
                · refine (if_pos hc24).trans ?_
                  refine Eq.trans (b := am_r L 50 111 [some (.inr (.inr (1, none))), some (.inl x1), some (.inl x2), some (.inl x3), some (.inl x4), some (.inl x5), some (.inl x6)] [.inl 1, .inl x5, .inl x4, .inl x3, .inl x2, .inl x1, .inr (.inr (2, none))] (am_put σ 1 9 0)) ?_ ?_
                  · rfl
                  · first | with_reducible rfl | simp only [if_pos hc24]
                · refine (if_neg hc24).trans ?_
                  refine Eq.trans (b := am_r L 50 111 [some (.inr (.inr (1, none))), some (.inl x1), some (.inl x2), some (.inl x3), some (.inl x4), some (.inl x5), some (.inl x6)] [.inl 0, .inl x5, .inl x4, .inl x3, .inl x2, .inl x1, .inr (.inr (2, none))] (am_put σ 1 9 0)) ?_ ?_
                  · refine (e_50_110 _ _ _ _ _ _ _ _ _ _ _ _ _).trans ?_
                    rfl
                  · first | with_reducible rfl | simp only [if_neg hc24]
              refine (e_50_111 _ _ _ _ _ _ _ _ _ _ _ _ _ _).trans ?_
              refine (am_bind_i (s_35 L (am_put σ 1 9 0) x1 x2 x3 x4 x5 (if x6 = 1 then (1 : Int32) else 0) (((((((h hc18) hc19).2 hc20) hc21) hc22).2 hc23)))).trans ?_
              refine (e_50_114 _ _ _ _ _ _ _ _ _).trans ?_
              rfl
  · refine (e_50_34 _ _ _ _ _ _ _ _).trans ?_
    rfl
-- 51: X4_deduction
def v_51 (σ : am_M) (x1 : Int32) : Int32 := (if (v_67 σ x1 0 400) = 0 then 0 else (if (x1 &&& (1 : Int32)) = 0 then 1 else 0))
def w_51 (σ : am_M) (x1 : Int32) : am_M := (if (v_67 σ x1 0 400) = 0 then σ else (if (x1 &&& (1 : Int32)) = 0 then (am_put σ 1 4 x1) else σ))
set_option maxRecDepth 20000 in
theorem s_51 (L : Nat) (σ : am_M) (x1 : Int32) : am_r L 51 0 [some (.inr (.inr (1, none))), some (.inl x1)] [] σ = some (some (.inl (v_51 σ x1)), am_sh0 L, w_51 σ x1) := by
  unfold v_51 w_51
  refine (e_51_0 _ _ _).trans ?_
  refine (am_bind_i (s_67 L σ x1 0 400)).trans ?_
  refine (e_51_8 _ _ _ _).trans ?_
  refine am_fkIvm (fun hc25 => ?_) (fun hc25 => ?_)
  · refine (e_51_17 _ _ _).trans ?_
    rfl
  · refine am_fkIvm (fun hc26 => ?_) (fun hc26 => ?_)
    · refine (e_51_19 _ _ _).trans ?_
      rfl
    · refine (e_51_17 _ _ _).trans ?_
      rfl
-- 52: X4_gauge
def v_52 (σ : am_M) (x1 : Int32) : Int32 := (if (v_67 σ x1 1 4000) = 0 then 0 else 1)
def w_52 (σ : am_M) (x1 : Int32) : am_M := (if (v_67 σ x1 1 4000) = 0 then σ else (am_put (am_put σ 1 5 x1) 1 9 0))
set_option maxRecDepth 20000 in
theorem s_52 (L : Nat) (σ : am_M) (x1 : Int32) : am_r L 52 0 [some (.inr (.inr (1, none))), some (.inl x1)] [] σ = some (some (.inl (v_52 σ x1)), am_sh0 L, w_52 σ x1) := by
  unfold v_52 w_52
  refine (e_52_0 _ _ _).trans ?_
  refine (am_bind_i (s_67 L σ x1 1 4000)).trans ?_
  refine (e_52_8 _ _ _ _).trans ?_
  refine am_fkIvm (fun hc27 => ?_) (fun hc27 => ?_)
  · rfl
  · refine (e_52_13 _ _ _).trans ?_
    rfl
-- 38: X2_turnOver
def l_38_11 : Nat → am_M → Int32 → Int32 → am_M
  | 0, σ, x1, x2 => σ
  | n + 1, σ, x1, x2 => (if x2 < (σ.1 2 0) then (if 0 < x2 then (l_38_11 n (am_put (am_put (am_put (am_put (am_put σ 8 x2.toNatClampNeg (x1 - (σ.1 10 x2.toNatClampNeg))) 10 x2.toNatClampNeg (x1 - (σ.1 8 x2.toNatClampNeg))) 6 x2.toNatClampNeg ((((σ.1 6 x2.toNatClampNeg) &&& (10 : Int32)) ||| ((((σ.1 6 x2.toNatClampNeg) >>> ((2 : Int32) &&& (31 : Int32))) &&& (1 : Int32)) <<< ((0 : Int32) &&& (31 : Int32)))) ||| ((((σ.1 6 x2.toNatClampNeg) >>> ((0 : Int32) &&& (31 : Int32))) &&& (1 : Int32)) <<< ((2 : Int32) &&& (31 : Int32))))) 4 x2.toNatClampNeg (if (v_70 (am_put (am_put (am_put σ 8 x2.toNatClampNeg (x1 - (σ.1 10 x2.toNatClampNeg))) 10 x2.toNatClampNeg (x1 - (σ.1 8 x2.toNatClampNeg))) 6 x2.toNatClampNeg ((((σ.1 6 x2.toNatClampNeg) &&& (10 : Int32)) ||| ((((σ.1 6 x2.toNatClampNeg) >>> ((2 : Int32) &&& (31 : Int32))) &&& (1 : Int32)) <<< ((0 : Int32) &&& (31 : Int32)))) ||| ((((σ.1 6 x2.toNatClampNeg) >>> ((0 : Int32) &&& (31 : Int32))) &&& (1 : Int32)) <<< ((2 : Int32) &&& (31 : Int32))))) (σ.1 4 x2.toNatClampNeg)) = 0 then ((σ.1 4 x2.toNatClampNeg) : Int32) else (v_68 (am_put (am_put (am_put σ 8 x2.toNatClampNeg (x1 - (σ.1 10 x2.toNatClampNeg))) 10 x2.toNatClampNeg (x1 - (σ.1 8 x2.toNatClampNeg))) 6 x2.toNatClampNeg ((((σ.1 6 x2.toNatClampNeg) &&& (10 : Int32)) ||| ((((σ.1 6 x2.toNatClampNeg) >>> ((2 : Int32) &&& (31 : Int32))) &&& (1 : Int32)) <<< ((0 : Int32) &&& (31 : Int32)))) ||| ((((σ.1 6 x2.toNatClampNeg) >>> ((0 : Int32) &&& (31 : Int32))) &&& (1 : Int32)) <<< ((2 : Int32) &&& (31 : Int32))))) (σ.1 4 x2.toNatClampNeg)))) 5 x2.toNatClampNeg (vp_nar .boolean (if (σ.1 5 x2.toNatClampNeg) = 0 then (1 : Int32) else 0))) x1 (x2 + 1)) else (l_38_11 n (am_put (am_put (am_put σ 8 x2.toNatClampNeg (x1 - (σ.1 10 x2.toNatClampNeg))) 10 x2.toNatClampNeg (x1 - (σ.1 8 x2.toNatClampNeg))) 6 x2.toNatClampNeg ((((σ.1 6 x2.toNatClampNeg) &&& (10 : Int32)) ||| ((((σ.1 6 x2.toNatClampNeg) >>> ((2 : Int32) &&& (31 : Int32))) &&& (1 : Int32)) <<< ((0 : Int32) &&& (31 : Int32)))) ||| ((((σ.1 6 x2.toNatClampNeg) >>> ((0 : Int32) &&& (31 : Int32))) &&& (1 : Int32)) <<< ((2 : Int32) &&& (31 : Int32))))) x1 (x2 + 1))) else σ)
def q_38_11 : Nat → am_M → Int32 → Int32 → Prop
  | 0, _, _, _ => False
  | n + 1, σ, x1, x2 => (x2 < (σ.1 2 0)) → ((¬ (x2 < 0 ∨ 13 ≤ x2.toNatClampNeg)) ∧ ((¬ (x2 < 0 ∨ 13 ≤ x2.toNatClampNeg)) ∧ ((¬ (x2 < 0 ∨ 13 ≤ x2.toNatClampNeg)) ∧ ((¬ (x2 < 0 ∨ 13 ≤ x2.toNatClampNeg)) ∧ ((¬ (x2 < 0 ∨ 13 ≤ x2.toNatClampNeg)) ∧ ((¬ (x2 < 0 ∨ 13 ≤ x2.toNatClampNeg)) ∧ ((¬ (x2 < 0 ∨ 13 ≤ x2.toNatClampNeg)) ∧ ((¬ (x2 < 0 ∨ 13 ≤ x2.toNatClampNeg)) ∧ (((0 < x2) → ((¬ (x2 < 0 ∨ 13 ≤ x2.toNatClampNeg)) ∧ (((((v_70 (am_put (am_put (am_put σ 8 x2.toNatClampNeg (x1 - (σ.1 10 x2.toNatClampNeg))) 10 x2.toNatClampNeg (x1 - (σ.1 8 x2.toNatClampNeg))) 6 x2.toNatClampNeg ((((σ.1 6 x2.toNatClampNeg) &&& (10 : Int32)) ||| ((((σ.1 6 x2.toNatClampNeg) >>> ((2 : Int32) &&& (31 : Int32))) &&& (1 : Int32)) <<< ((0 : Int32) &&& (31 : Int32)))) ||| ((((σ.1 6 x2.toNatClampNeg) >>> ((0 : Int32) &&& (31 : Int32))) &&& (1 : Int32)) <<< ((2 : Int32) &&& (31 : Int32))))) (σ.1 4 x2.toNatClampNeg)) = 0) → (¬ (x2 < 0 ∨ 13 ≤ x2.toNatClampNeg))) ∧ (¬ ((v_70 (am_put (am_put (am_put σ 8 x2.toNatClampNeg (x1 - (σ.1 10 x2.toNatClampNeg))) 10 x2.toNatClampNeg (x1 - (σ.1 8 x2.toNatClampNeg))) 6 x2.toNatClampNeg ((((σ.1 6 x2.toNatClampNeg) &&& (10 : Int32)) ||| ((((σ.1 6 x2.toNatClampNeg) >>> ((2 : Int32) &&& (31 : Int32))) &&& (1 : Int32)) <<< ((0 : Int32) &&& (31 : Int32)))) ||| ((((σ.1 6 x2.toNatClampNeg) >>> ((0 : Int32) &&& (31 : Int32))) &&& (1 : Int32)) <<< ((2 : Int32) &&& (31 : Int32))))) (σ.1 4 x2.toNatClampNeg)) = 0) → (¬ (x2 < 0 ∨ 13 ≤ x2.toNatClampNeg)))) ∧ ((¬ (x2 < 0 ∨ 13 ≤ x2.toNatClampNeg)) ∧ ((¬ (x2 < 0 ∨ 13 ≤ x2.toNatClampNeg)) ∧ ((¬ (x2 < 0 ∨ 13 ≤ x2.toNatClampNeg)) ∧ (q_38_11 n (am_put (am_put (am_put (am_put (am_put σ 8 x2.toNatClampNeg (x1 - (σ.1 10 x2.toNatClampNeg))) 10 x2.toNatClampNeg (x1 - (σ.1 8 x2.toNatClampNeg))) 6 x2.toNatClampNeg ((((σ.1 6 x2.toNatClampNeg) &&& (10 : Int32)) ||| ((((σ.1 6 x2.toNatClampNeg) >>> ((2 : Int32) &&& (31 : Int32))) &&& (1 : Int32)) <<< ((0 : Int32) &&& (31 : Int32)))) ||| ((((σ.1 6 x2.toNatClampNeg) >>> ((0 : Int32) &&& (31 : Int32))) &&& (1 : Int32)) <<< ((2 : Int32) &&& (31 : Int32))))) 4 x2.toNatClampNeg (if (v_70 (am_put (am_put (am_put σ 8 x2.toNatClampNeg (x1 - (σ.1 10 x2.toNatClampNeg))) 10 x2.toNatClampNeg (x1 - (σ.1 8 x2.toNatClampNeg))) 6 x2.toNatClampNeg ((((σ.1 6 x2.toNatClampNeg) &&& (10 : Int32)) ||| ((((σ.1 6 x2.toNatClampNeg) >>> ((2 : Int32) &&& (31 : Int32))) &&& (1 : Int32)) <<< ((0 : Int32) &&& (31 : Int32)))) ||| ((((σ.1 6 x2.toNatClampNeg) >>> ((0 : Int32) &&& (31 : Int32))) &&& (1 : Int32)) <<< ((2 : Int32) &&& (31 : Int32))))) (σ.1 4 x2.toNatClampNeg)) = 0 then ((σ.1 4 x2.toNatClampNeg) : Int32) else (v_68 (am_put (am_put (am_put σ 8 x2.toNatClampNeg (x1 - (σ.1 10 x2.toNatClampNeg))) 10 x2.toNatClampNeg (x1 - (σ.1 8 x2.toNatClampNeg))) 6 x2.toNatClampNeg ((((σ.1 6 x2.toNatClampNeg) &&& (10 : Int32)) ||| ((((σ.1 6 x2.toNatClampNeg) >>> ((2 : Int32) &&& (31 : Int32))) &&& (1 : Int32)) <<< ((0 : Int32) &&& (31 : Int32)))) ||| ((((σ.1 6 x2.toNatClampNeg) >>> ((0 : Int32) &&& (31 : Int32))) &&& (1 : Int32)) <<< ((2 : Int32) &&& (31 : Int32))))) (σ.1 4 x2.toNatClampNeg)))) 5 x2.toNatClampNeg (vp_nar .boolean (if (σ.1 5 x2.toNatClampNeg) = 0 then (1 : Int32) else 0))) x1 (x2 + 1)))))))) ∧ (¬ (0 < x2) → (q_38_11 n (am_put (am_put (am_put σ 8 x2.toNatClampNeg (x1 - (σ.1 10 x2.toNatClampNeg))) 10 x2.toNatClampNeg (x1 - (σ.1 8 x2.toNatClampNeg))) 6 x2.toNatClampNeg ((((σ.1 6 x2.toNatClampNeg) &&& (10 : Int32)) ||| ((((σ.1 6 x2.toNatClampNeg) >>> ((2 : Int32) &&& (31 : Int32))) &&& (1 : Int32)) <<< ((0 : Int32) &&& (31 : Int32)))) ||| ((((σ.1 6 x2.toNatClampNeg) >>> ((0 : Int32) &&& (31 : Int32))) &&& (1 : Int32)) <<< ((2 : Int32) &&& (31 : Int32))))) x1 (x2 + 1))))))))))))
set_option maxRecDepth 20000 in
theorem t_38_11 (L : Nat) : ∀ (n : Nat) (σ : am_M) (x1 : Int32) (x2 : Int32) (o3 : Option am_V), q_38_11 n σ x1 x2 → am_r L 38 11 [some (.inr (.inr (2, none))), some (.inl x1), some (.inl x2), o3] [] σ = some (none, am_sh0 L, (l_38_11 n σ x1 x2)) := by
  intro n
  induction n with
  | zero => intro σ x1 x2 o3 h; exact h.elim
  | succ n ih =>
    intro σ x1 x2 o3 h
    unfold q_38_11 at h
    unfold l_38_11
    refine (e_38_11 _ _ _ _ _).trans ?_
    refine am_fkVm (fun hc28 => ?_) (fun hc28 => ?_)
    · refine (if_neg (by decide)).trans ?_
      refine (if_neg ((h hc28).1)).trans ?_
      refine (if_neg (by decide)).trans ?_
      refine (e_38_37 _ _ _ _ _ _ _ _).trans ?_
      refine (if_neg (by decide)).trans ?_
      refine (if_neg ((h hc28).2.1)).trans ?_
      refine (if_neg ((h hc28).2.2.1)).trans ?_
      refine (if_neg (by decide)).trans ?_
      refine (e_38_56 _ _ _ _ _ _ _ _).trans ?_
      refine (if_neg ((h hc28).2.2.2.1)).trans ?_
      refine (if_neg ((h hc28).2.2.2.2.1)).trans ?_
      refine (if_neg ((h hc28).2.2.2.2.2.1)).trans ?_
      refine (e_38_81 _ _ _ _ _ _ _ _).trans ?_
      refine (if_neg ((h hc28).2.2.2.2.2.2.1)).trans ?_
      refine (if_neg ((h hc28).2.2.2.2.2.2.2.1)).trans ?_
      refine am_fkVm (fun hc29 => ?_) (fun hc29 => ?_)
      · refine (e_38_108 _ _ _ _ _ _).trans ?_
        refine (if_neg (((h hc28).2.2.2.2.2.2.2.2.1 hc29).1)).trans ?_
        refine (am_bind_i (s_70 L (am_put (am_put (am_put σ 8 x2.toNatClampNeg (x1 - (σ.1 10 x2.toNatClampNeg))) 10 x2.toNatClampNeg (x1 - (σ.1 8 x2.toNatClampNeg))) 6 x2.toNatClampNeg ((((σ.1 6 x2.toNatClampNeg) &&& (10 : Int32)) ||| ((((σ.1 6 x2.toNatClampNeg) >>> ((2 : Int32) &&& (31 : Int32))) &&& (1 : Int32)) <<< ((0 : Int32) &&& (31 : Int32)))) ||| ((((σ.1 6 x2.toNatClampNeg) >>> ((0 : Int32) &&& (31 : Int32))) &&& (1 : Int32)) <<< ((2 : Int32) &&& (31 : Int32))))) (σ.1 4 x2.toNatClampNeg))).trans ?_
        refine (e_38_116 _ _ _ _ _ _ _).trans ?_
        refine Eq.trans (b := am_r L 38 137 [some (.inr (.inr (2, none))), some (.inl x1), some (.inl x2), some (.inl (σ.1 8 x2.toNatClampNeg))] [.inl (if (v_70 (am_put (am_put (am_put σ 8 x2.toNatClampNeg (x1 - (σ.1 10 x2.toNatClampNeg))) 10 x2.toNatClampNeg (x1 - (σ.1 8 x2.toNatClampNeg))) 6 x2.toNatClampNeg ((((σ.1 6 x2.toNatClampNeg) &&& (10 : Int32)) ||| ((((σ.1 6 x2.toNatClampNeg) >>> ((2 : Int32) &&& (31 : Int32))) &&& (1 : Int32)) <<< ((0 : Int32) &&& (31 : Int32)))) ||| ((((σ.1 6 x2.toNatClampNeg) >>> ((0 : Int32) &&& (31 : Int32))) &&& (1 : Int32)) <<< ((2 : Int32) &&& (31 : Int32))))) (σ.1 4 x2.toNatClampNeg)) = 0 then ((σ.1 4 x2.toNatClampNeg) : Int32) else (v_68 (am_put (am_put (am_put σ 8 x2.toNatClampNeg (x1 - (σ.1 10 x2.toNatClampNeg))) 10 x2.toNatClampNeg (x1 - (σ.1 8 x2.toNatClampNeg))) 6 x2.toNatClampNeg ((((σ.1 6 x2.toNatClampNeg) &&& (10 : Int32)) ||| ((((σ.1 6 x2.toNatClampNeg) >>> ((2 : Int32) &&& (31 : Int32))) &&& (1 : Int32)) <<< ((0 : Int32) &&& (31 : Int32)))) ||| ((((σ.1 6 x2.toNatClampNeg) >>> ((0 : Int32) &&& (31 : Int32))) &&& (1 : Int32)) <<< ((2 : Int32) &&& (31 : Int32))))) (σ.1 4 x2.toNatClampNeg))), .inl x2, .inr (.inr (4, none))] (am_put (am_put (am_put σ 8 x2.toNatClampNeg (x1 - (σ.1 10 x2.toNatClampNeg))) 10 x2.toNatClampNeg (x1 - (σ.1 8 x2.toNatClampNeg))) 6 x2.toNatClampNeg ((((σ.1 6 x2.toNatClampNeg) &&& (10 : Int32)) ||| ((((σ.1 6 x2.toNatClampNeg) >>> ((2 : Int32) &&& (31 : Int32))) &&& (1 : Int32)) <<< ((0 : Int32) &&& (31 : Int32)))) ||| ((((σ.1 6 x2.toNatClampNeg) >>> ((0 : Int32) &&& (31 : Int32))) &&& (1 : Int32)) <<< ((2 : Int32) &&& (31 : Int32)))))) ?_ ?_
        · by_cases hc30 : (v_70 (am_put (am_put (am_put σ 8 x2.toNatClampNeg (x1 - (σ.1 10 x2.toNatClampNeg))) 10 x2.toNatClampNeg (x1 - (σ.1 8 x2.toNatClampNeg))) 6 x2.toNatClampNeg ((((σ.1 6 x2.toNatClampNeg) &&& (10 : Int32)) ||| ((((σ.1 6 x2.toNatClampNeg) >>> ((2 : Int32) &&& (31 : Int32))) &&& (1 : Int32)) <<< ((0 : Int32) &&& (31 : Int32)))) ||| ((((σ.1 6 x2.toNatClampNeg) >>> ((0 : Int32) &&& (31 : Int32))) &&& (1 : Int32)) <<< ((2 : Int32) &&& (31 : Int32))))) (σ.1 4 x2.toNatClampNeg)) = 0
          · refine (if_pos hc30).trans ?_
            refine Eq.trans (b := am_r L 38 137 [some (.inr (.inr (2, none))), some (.inl x1), some (.inl x2), some (.inl (σ.1 8 x2.toNatClampNeg))] [.inl (σ.1 4 x2.toNatClampNeg), .inl x2, .inr (.inr (4, none))] (am_put (am_put (am_put σ 8 x2.toNatClampNeg (x1 - (σ.1 10 x2.toNatClampNeg))) 10 x2.toNatClampNeg (x1 - (σ.1 8 x2.toNatClampNeg))) 6 x2.toNatClampNeg ((((σ.1 6 x2.toNatClampNeg) &&& (10 : Int32)) ||| ((((σ.1 6 x2.toNatClampNeg) >>> ((2 : Int32) &&& (31 : Int32))) &&& (1 : Int32)) <<< ((0 : Int32) &&& (31 : Int32)))) ||| ((((σ.1 6 x2.toNatClampNeg) >>> ((0 : Int32) &&& (31 : Int32))) &&& (1 : Int32)) <<< ((2 : Int32) &&& (31 : Int32)))))) ?_ ?_
            · refine (e_38_131 _ _ _ _ _ _).trans ?_
              refine (if_neg ((((h hc28).2.2.2.2.2.2.2.2.1 hc29).2.1.1 hc30))).trans ?_
              rfl
            · first | with_reducible rfl | simp only [if_pos hc30]
          · refine (if_neg hc30).trans ?_
            refine Eq.trans (b := am_r L 38 137 [some (.inr (.inr (2, none))), some (.inl x1), some (.inl x2), some (.inl (σ.1 8 x2.toNatClampNeg))] [.inl (v_68 (am_put (am_put (am_put σ 8 x2.toNatClampNeg (x1 - (σ.1 10 x2.toNatClampNeg))) 10 x2.toNatClampNeg (x1 - (σ.1 8 x2.toNatClampNeg))) 6 x2.toNatClampNeg ((((σ.1 6 x2.toNatClampNeg) &&& (10 : Int32)) ||| ((((σ.1 6 x2.toNatClampNeg) >>> ((2 : Int32) &&& (31 : Int32))) &&& (1 : Int32)) <<< ((0 : Int32) &&& (31 : Int32)))) ||| ((((σ.1 6 x2.toNatClampNeg) >>> ((0 : Int32) &&& (31 : Int32))) &&& (1 : Int32)) <<< ((2 : Int32) &&& (31 : Int32))))) (σ.1 4 x2.toNatClampNeg)), .inl x2, .inr (.inr (4, none))] (am_put (am_put (am_put σ 8 x2.toNatClampNeg (x1 - (σ.1 10 x2.toNatClampNeg))) 10 x2.toNatClampNeg (x1 - (σ.1 8 x2.toNatClampNeg))) 6 x2.toNatClampNeg ((((σ.1 6 x2.toNatClampNeg) &&& (10 : Int32)) ||| ((((σ.1 6 x2.toNatClampNeg) >>> ((2 : Int32) &&& (31 : Int32))) &&& (1 : Int32)) <<< ((0 : Int32) &&& (31 : Int32)))) ||| ((((σ.1 6 x2.toNatClampNeg) >>> ((0 : Int32) &&& (31 : Int32))) &&& (1 : Int32)) <<< ((2 : Int32) &&& (31 : Int32)))))) ?_ ?_
            · refine (if_neg ((((h hc28).2.2.2.2.2.2.2.2.1 hc29).2.1.2 hc30))).trans ?_
              refine (am_bind_i (s_68 L (am_put (am_put (am_put σ 8 x2.toNatClampNeg (x1 - (σ.1 10 x2.toNatClampNeg))) 10 x2.toNatClampNeg (x1 - (σ.1 8 x2.toNatClampNeg))) 6 x2.toNatClampNeg ((((σ.1 6 x2.toNatClampNeg) &&& (10 : Int32)) ||| ((((σ.1 6 x2.toNatClampNeg) >>> ((2 : Int32) &&& (31 : Int32))) &&& (1 : Int32)) <<< ((0 : Int32) &&& (31 : Int32)))) ||| ((((σ.1 6 x2.toNatClampNeg) >>> ((0 : Int32) &&& (31 : Int32))) &&& (1 : Int32)) <<< ((2 : Int32) &&& (31 : Int32))))) (σ.1 4 x2.toNatClampNeg))).trans ?_
              refine (e_38_128 _ _ _ _ _ _ _).trans ?_
              rfl
            · first | with_reducible rfl | simp only [if_neg hc30]
        refine (e_38_137 _ _ _ _ _ _ _).trans ?_
        refine (if_neg (((h hc28).2.2.2.2.2.2.2.2.1 hc29).2.2.1)).trans ?_
        refine (if_neg (((h hc28).2.2.2.2.2.2.2.2.1 hc29).2.2.2.1)).trans ?_
        refine Eq.trans (b := am_r L 38 157 [some (.inr (.inr (2, none))), some (.inl x1), some (.inl x2), some (.inl (σ.1 8 x2.toNatClampNeg))] [.inl (if (σ.1 5 x2.toNatClampNeg) = 0 then (1 : Int32) else 0), .inl x2, .inr (.inr (5, none))] (am_put (am_put (am_put (am_put σ 8 x2.toNatClampNeg (x1 - (σ.1 10 x2.toNatClampNeg))) 10 x2.toNatClampNeg (x1 - (σ.1 8 x2.toNatClampNeg))) 6 x2.toNatClampNeg ((((σ.1 6 x2.toNatClampNeg) &&& (10 : Int32)) ||| ((((σ.1 6 x2.toNatClampNeg) >>> ((2 : Int32) &&& (31 : Int32))) &&& (1 : Int32)) <<< ((0 : Int32) &&& (31 : Int32)))) ||| ((((σ.1 6 x2.toNatClampNeg) >>> ((0 : Int32) &&& (31 : Int32))) &&& (1 : Int32)) <<< ((2 : Int32) &&& (31 : Int32))))) 4 x2.toNatClampNeg (if (v_70 (am_put (am_put (am_put σ 8 x2.toNatClampNeg (x1 - (σ.1 10 x2.toNatClampNeg))) 10 x2.toNatClampNeg (x1 - (σ.1 8 x2.toNatClampNeg))) 6 x2.toNatClampNeg ((((σ.1 6 x2.toNatClampNeg) &&& (10 : Int32)) ||| ((((σ.1 6 x2.toNatClampNeg) >>> ((2 : Int32) &&& (31 : Int32))) &&& (1 : Int32)) <<< ((0 : Int32) &&& (31 : Int32)))) ||| ((((σ.1 6 x2.toNatClampNeg) >>> ((0 : Int32) &&& (31 : Int32))) &&& (1 : Int32)) <<< ((2 : Int32) &&& (31 : Int32))))) (σ.1 4 x2.toNatClampNeg)) = 0 then ((σ.1 4 x2.toNatClampNeg) : Int32) else (v_68 (am_put (am_put (am_put σ 8 x2.toNatClampNeg (x1 - (σ.1 10 x2.toNatClampNeg))) 10 x2.toNatClampNeg (x1 - (σ.1 8 x2.toNatClampNeg))) 6 x2.toNatClampNeg ((((σ.1 6 x2.toNatClampNeg) &&& (10 : Int32)) ||| ((((σ.1 6 x2.toNatClampNeg) >>> ((2 : Int32) &&& (31 : Int32))) &&& (1 : Int32)) <<< ((0 : Int32) &&& (31 : Int32)))) ||| ((((σ.1 6 x2.toNatClampNeg) >>> ((0 : Int32) &&& (31 : Int32))) &&& (1 : Int32)) <<< ((2 : Int32) &&& (31 : Int32))))) (σ.1 4 x2.toNatClampNeg))))) ?_ ?_
        · by_cases hc31 : (σ.1 5 x2.toNatClampNeg) = 0
          · refine (if_pos hc31).trans ?_
            refine Eq.trans (b := am_r L 38 157 [some (.inr (.inr (2, none))), some (.inl x1), some (.inl x2), some (.inl (σ.1 8 x2.toNatClampNeg))] [.inl 1, .inl x2, .inr (.inr (5, none))] (am_put (am_put (am_put (am_put σ 8 x2.toNatClampNeg (x1 - (σ.1 10 x2.toNatClampNeg))) 10 x2.toNatClampNeg (x1 - (σ.1 8 x2.toNatClampNeg))) 6 x2.toNatClampNeg ((((σ.1 6 x2.toNatClampNeg) &&& (10 : Int32)) ||| ((((σ.1 6 x2.toNatClampNeg) >>> ((2 : Int32) &&& (31 : Int32))) &&& (1 : Int32)) <<< ((0 : Int32) &&& (31 : Int32)))) ||| ((((σ.1 6 x2.toNatClampNeg) >>> ((0 : Int32) &&& (31 : Int32))) &&& (1 : Int32)) <<< ((2 : Int32) &&& (31 : Int32))))) 4 x2.toNatClampNeg (if (v_70 (am_put (am_put (am_put σ 8 x2.toNatClampNeg (x1 - (σ.1 10 x2.toNatClampNeg))) 10 x2.toNatClampNeg (x1 - (σ.1 8 x2.toNatClampNeg))) 6 x2.toNatClampNeg ((((σ.1 6 x2.toNatClampNeg) &&& (10 : Int32)) ||| ((((σ.1 6 x2.toNatClampNeg) >>> ((2 : Int32) &&& (31 : Int32))) &&& (1 : Int32)) <<< ((0 : Int32) &&& (31 : Int32)))) ||| ((((σ.1 6 x2.toNatClampNeg) >>> ((0 : Int32) &&& (31 : Int32))) &&& (1 : Int32)) <<< ((2 : Int32) &&& (31 : Int32))))) (σ.1 4 x2.toNatClampNeg)) = 0 then ((σ.1 4 x2.toNatClampNeg) : Int32) else (v_68 (am_put (am_put (am_put σ 8 x2.toNatClampNeg (x1 - (σ.1 10 x2.toNatClampNeg))) 10 x2.toNatClampNeg (x1 - (σ.1 8 x2.toNatClampNeg))) 6 x2.toNatClampNeg ((((σ.1 6 x2.toNatClampNeg) &&& (10 : Int32)) ||| ((((σ.1 6 x2.toNatClampNeg) >>> ((2 : Int32) &&& (31 : Int32))) &&& (1 : Int32)) <<< ((0 : Int32) &&& (31 : Int32)))) ||| ((((σ.1 6 x2.toNatClampNeg) >>> ((0 : Int32) &&& (31 : Int32))) &&& (1 : Int32)) <<< ((2 : Int32) &&& (31 : Int32))))) (σ.1 4 x2.toNatClampNeg))))) ?_ ?_
            · rfl
            · first | with_reducible rfl | simp only [if_pos hc31]
          · refine (if_neg hc31).trans ?_
            refine Eq.trans (b := am_r L 38 157 [some (.inr (.inr (2, none))), some (.inl x1), some (.inl x2), some (.inl (σ.1 8 x2.toNatClampNeg))] [.inl 0, .inl x2, .inr (.inr (5, none))] (am_put (am_put (am_put (am_put σ 8 x2.toNatClampNeg (x1 - (σ.1 10 x2.toNatClampNeg))) 10 x2.toNatClampNeg (x1 - (σ.1 8 x2.toNatClampNeg))) 6 x2.toNatClampNeg ((((σ.1 6 x2.toNatClampNeg) &&& (10 : Int32)) ||| ((((σ.1 6 x2.toNatClampNeg) >>> ((2 : Int32) &&& (31 : Int32))) &&& (1 : Int32)) <<< ((0 : Int32) &&& (31 : Int32)))) ||| ((((σ.1 6 x2.toNatClampNeg) >>> ((0 : Int32) &&& (31 : Int32))) &&& (1 : Int32)) <<< ((2 : Int32) &&& (31 : Int32))))) 4 x2.toNatClampNeg (if (v_70 (am_put (am_put (am_put σ 8 x2.toNatClampNeg (x1 - (σ.1 10 x2.toNatClampNeg))) 10 x2.toNatClampNeg (x1 - (σ.1 8 x2.toNatClampNeg))) 6 x2.toNatClampNeg ((((σ.1 6 x2.toNatClampNeg) &&& (10 : Int32)) ||| ((((σ.1 6 x2.toNatClampNeg) >>> ((2 : Int32) &&& (31 : Int32))) &&& (1 : Int32)) <<< ((0 : Int32) &&& (31 : Int32)))) ||| ((((σ.1 6 x2.toNatClampNeg) >>> ((0 : Int32) &&& (31 : Int32))) &&& (1 : Int32)) <<< ((2 : Int32) &&& (31 : Int32))))) (σ.1 4 x2.toNatClampNeg)) = 0 then ((σ.1 4 x2.toNatClampNeg) : Int32) else (v_68 (am_put (am_put (am_put σ 8 x2.toNatClampNeg (x1 - (σ.1 10 x2.toNatClampNeg))) 10 x2.toNatClampNeg (x1 - (σ.1 8 x2.toNatClampNeg))) 6 x2.toNatClampNeg ((((σ.1 6 x2.toNatClampNeg) &&& (10 : Int32)) ||| ((((σ.1 6 x2.toNatClampNeg) >>> ((2 : Int32) &&& (31 : Int32))) &&& (1 : Int32)) <<< ((0 : Int32) &&& (31 : Int32)))) ||| ((((σ.1 6 x2.toNatClampNeg) >>> ((0 : Int32) &&& (31 : Int32))) &&& (1 : Int32)) <<< ((2 : Int32) &&& (31 : Int32))))) (σ.1 4 x2.toNatClampNeg))))) ?_ ?_
            · refine (e_38_156 _ _ _ _ _ _).trans ?_
              rfl
            · first | with_reducible rfl | simp only [if_neg hc31]
        refine (e_38_157 _ _ _ _ _ _ _).trans ?_
        refine (if_neg (((h hc28).2.2.2.2.2.2.2.2.1 hc29).2.2.2.2.1)).trans ?_
        refine (e_38_158 _ _ _ _ _).trans ?_
        exact ih (am_put (am_put (am_put (am_put (am_put σ 8 x2.toNatClampNeg (x1 - (σ.1 10 x2.toNatClampNeg))) 10 x2.toNatClampNeg (x1 - (σ.1 8 x2.toNatClampNeg))) 6 x2.toNatClampNeg ((((σ.1 6 x2.toNatClampNeg) &&& (10 : Int32)) ||| ((((σ.1 6 x2.toNatClampNeg) >>> ((2 : Int32) &&& (31 : Int32))) &&& (1 : Int32)) <<< ((0 : Int32) &&& (31 : Int32)))) ||| ((((σ.1 6 x2.toNatClampNeg) >>> ((0 : Int32) &&& (31 : Int32))) &&& (1 : Int32)) <<< ((2 : Int32) &&& (31 : Int32))))) 4 x2.toNatClampNeg (if (v_70 (am_put (am_put (am_put σ 8 x2.toNatClampNeg (x1 - (σ.1 10 x2.toNatClampNeg))) 10 x2.toNatClampNeg (x1 - (σ.1 8 x2.toNatClampNeg))) 6 x2.toNatClampNeg ((((σ.1 6 x2.toNatClampNeg) &&& (10 : Int32)) ||| ((((σ.1 6 x2.toNatClampNeg) >>> ((2 : Int32) &&& (31 : Int32))) &&& (1 : Int32)) <<< ((0 : Int32) &&& (31 : Int32)))) ||| ((((σ.1 6 x2.toNatClampNeg) >>> ((0 : Int32) &&& (31 : Int32))) &&& (1 : Int32)) <<< ((2 : Int32) &&& (31 : Int32))))) (σ.1 4 x2.toNatClampNeg)) = 0 then ((σ.1 4 x2.toNatClampNeg) : Int32) else (v_68 (am_put (am_put (am_put σ 8 x2.toNatClampNeg (x1 - (σ.1 10 x2.toNatClampNeg))) 10 x2.toNatClampNeg (x1 - (σ.1 8 x2.toNatClampNeg))) 6 x2.toNatClampNeg ((((σ.1 6 x2.toNatClampNeg) &&& (10 : Int32)) ||| ((((σ.1 6 x2.toNatClampNeg) >>> ((2 : Int32) &&& (31 : Int32))) &&& (1 : Int32)) <<< ((0 : Int32) &&& (31 : Int32)))) ||| ((((σ.1 6 x2.toNatClampNeg) >>> ((0 : Int32) &&& (31 : Int32))) &&& (1 : Int32)) <<< ((2 : Int32) &&& (31 : Int32))))) (σ.1 4 x2.toNatClampNeg)))) 5 x2.toNatClampNeg (vp_nar .boolean (if (σ.1 5 x2.toNatClampNeg) = 0 then (1 : Int32) else 0))) x1 (x2 + 1) (some (.inl (σ.1 8 x2.toNatClampNeg))) (((h hc28).2.2.2.2.2.2.2.2.1 hc29).2.2.2.2.2)
      · refine (e_38_158 _ _ _ _ _).trans ?_
        exact ih (am_put (am_put (am_put σ 8 x2.toNatClampNeg (x1 - (σ.1 10 x2.toNatClampNeg))) 10 x2.toNatClampNeg (x1 - (σ.1 8 x2.toNatClampNeg))) 6 x2.toNatClampNeg ((((σ.1 6 x2.toNatClampNeg) &&& (10 : Int32)) ||| ((((σ.1 6 x2.toNatClampNeg) >>> ((2 : Int32) &&& (31 : Int32))) &&& (1 : Int32)) <<< ((0 : Int32) &&& (31 : Int32)))) ||| ((((σ.1 6 x2.toNatClampNeg) >>> ((0 : Int32) &&& (31 : Int32))) &&& (1 : Int32)) <<< ((2 : Int32) &&& (31 : Int32))))) x1 (x2 + 1) (some (.inl (σ.1 8 x2.toNatClampNeg))) (((h hc28).2.2.2.2.2.2.2.2.2 hc29))
    · refine (e_38_164 _ _ _ _ _).trans ?_
      rfl
def p_38 (σ : am_M) : Prop := q_38_11 14 σ (σ.1 8 0) 0
def f_38 (σ : am_M) : am_M := (l_38_11 14 σ (σ.1 8 0) 0)
set_option maxRecDepth 20000 in
theorem sf_38 (L : Nat) (σ : am_M) (h : p_38 σ) : am_r L 38 0 [some (.inr (.inr (2, none))), none, none, none] [] σ = some (none, am_sh0 L, (f_38 σ)) := by
  unfold p_38 at h
  unfold f_38
  refine (e_38_0 _ _).trans ?_
  refine (if_neg (by decide)).trans ?_
  refine (if_neg (by decide)).trans ?_
  exact t_38_11 L 14 σ (σ.1 8 0) 0 none h
def w_38 (σ : am_M) : am_M := f_38 σ
theorem s_38 (L : Nat) (σ : am_M) (h : p_38 σ) : am_r L 38 0 [some (.inr (.inr (2, none))), none, none, none] [] σ = some (none, am_sh0 L, w_38 σ) := sf_38 L σ h
-- 53: X4_over
def p_53 (σ : am_M) : Prop := ¬ ((σ.1 2 0) = 0) → (p_38 σ)
def v_53 (σ : am_M) : Int32 := (if (σ.1 2 0) = 0 then 0 else 1)
def w_53 (σ : am_M) : am_M := (if (σ.1 2 0) = 0 then σ else (am_put (w_38 σ) 1 9 0))
set_option maxRecDepth 20000 in
theorem s_53 (L : Nat) (σ : am_M) (h : p_53 σ) : am_r L 53 0 [some (.inr (.inr (1, none)))] [] σ = some (some (.inl (v_53 σ)), am_sh0 L, w_53 σ) := by
  unfold p_53 at h
  unfold v_53 w_53
  refine (e_53_0 _ _).trans ?_
  refine am_fkIvm (fun hc32 => ?_) (fun hc32 => ?_)
  · rfl
  · refine (e_53_12 _ _).trans ?_
    refine (am_bind_v (s_38 L σ ((h hc32)))).trans ?_
    refine (e_53_19 _ _).trans ?_
    rfl
-- 18: X1_moveTogether
def l_18_16 : Nat → am_M → Int32 → Int32 → am_M
  | 0, σ, x2, x3 => σ
  | n + 1, σ, x2, x3 => (if x3 < (σ.1 12 0) then (l_18_16 n (am_put (am_put σ 18 x3.toNatClampNeg ((σ.1 18 (((σ.1 3 x3.toNatClampNeg)).toNatClampNeg)) + (if (v_70 σ (σ.1 4 x3.toNatClampNeg)) = 0 then (0 : Int32) else (if (v_69 σ (σ.1 4 x3.toNatClampNeg)) = 0 then (x2 : Int32) else (-x2))))) 19 x3.toNatClampNeg ((σ.1 19 (((σ.1 3 x3.toNatClampNeg)).toNatClampNeg)) + (if (v_70 σ (σ.1 4 x3.toNatClampNeg)) = 0 then ((if (v_69 σ (σ.1 4 x3.toNatClampNeg)) = 0 then (x2 : Int32) else (-x2)) : Int32) else 0))) x2 (x3 + 1)) else σ)
def q_18_16 : Nat → am_M → Int32 → Int32 → Prop
  | 0, _, _, _ => False
  | n + 1, σ, x2, x3 => (x3 < (σ.1 12 0)) → ((¬ (x3 < 0 ∨ 13 ≤ x3.toNatClampNeg)) ∧ ((¬ (x3 < 0 ∨ 13 ≤ x3.toNatClampNeg)) ∧ ((¬ (x3 < 0 ∨ 13 ≤ x3.toNatClampNeg)) ∧ ((¬ ((σ.1 3 x3.toNatClampNeg) < 0 ∨ 13 ≤ ((σ.1 3 x3.toNatClampNeg)).toNatClampNeg)) ∧ ((¬ (x3 < 0 ∨ 13 ≤ x3.toNatClampNeg)) ∧ ((¬ ((σ.1 3 x3.toNatClampNeg) < 0 ∨ 13 ≤ ((σ.1 3 x3.toNatClampNeg)).toNatClampNeg)) ∧ ((¬ (x3 < 0 ∨ 13 ≤ x3.toNatClampNeg)) ∧ (q_18_16 n (am_put (am_put σ 18 x3.toNatClampNeg ((σ.1 18 (((σ.1 3 x3.toNatClampNeg)).toNatClampNeg)) + (if (v_70 σ (σ.1 4 x3.toNatClampNeg)) = 0 then (0 : Int32) else (if (v_69 σ (σ.1 4 x3.toNatClampNeg)) = 0 then (x2 : Int32) else (-x2))))) 19 x3.toNatClampNeg ((σ.1 19 (((σ.1 3 x3.toNatClampNeg)).toNatClampNeg)) + (if (v_70 σ (σ.1 4 x3.toNatClampNeg)) = 0 then ((if (v_69 σ (σ.1 4 x3.toNatClampNeg)) = 0 then (x2 : Int32) else (-x2)) : Int32) else 0))) x2 (x3 + 1)))))))))
set_option maxRecDepth 20000 in
theorem t_18_16 (L : Nat) : ∀ (n : Nat) (σ : am_M) (x2 : Int32) (x3 : Int32) (o4 : Option am_V) (o5 : Option am_V) (o6 : Option am_V), q_18_16 n σ x2 x3 → am_r L 18 16 [some (.inr (.inr (12, none))), some (.inr (.inr (2, none))), some (.inl x2), some (.inl x3), o4, o5, o6] [] σ = some (none, am_sh0 L, (l_18_16 n σ x2 x3)) := by
  intro n
  induction n with
  | zero => intro σ x2 x3 o4 o5 o6 h; exact h.elim
  | succ n ih =>
    intro σ x2 x3 o4 o5 o6 h
    unfold q_18_16 at h
    unfold l_18_16
    refine (e_18_16 _ _ _ _ _ _ _).trans ?_
    refine am_fkVm (fun hc33 => ?_) (fun hc33 => ?_)
    · refine (if_neg ((h hc33).1)).trans ?_
      refine (if_neg ((h hc33).2.1)).trans ?_
      refine (am_bind_i (s_69 L σ (σ.1 4 x3.toNatClampNeg))).trans ?_
      refine (e_18_41 _ _ _ _ _ _ _ _).trans ?_
      refine Eq.trans (b := am_r L 18 50 [some (.inr (.inr (12, none))), some (.inr (.inr (2, none))), some (.inl x2), some (.inl x3), some (.inl (σ.1 3 x3.toNatClampNeg)), o5, o6] [.inl (if (v_69 σ (σ.1 4 x3.toNatClampNeg)) = 0 then (x2 : Int32) else (-x2))] σ) ?_ ?_
      · by_cases hc34 : (v_69 σ (σ.1 4 x3.toNatClampNeg)) = 0
        · refine (if_pos hc34).trans ?_
          refine Eq.trans (b := am_r L 18 50 [some (.inr (.inr (12, none))), some (.inr (.inr (2, none))), some (.inl x2), some (.inl x3), some (.inl (σ.1 3 x3.toNatClampNeg)), o5, o6] [.inl x2] σ) ?_ ?_
          · refine (e_18_49 _ _ _ _ _ _ _).trans ?_
            rfl
          · first | with_reducible rfl | simp only [if_pos hc34]
        · refine (if_neg hc34).trans ?_
          refine Eq.trans (b := am_r L 18 50 [some (.inr (.inr (12, none))), some (.inr (.inr (2, none))), some (.inl x2), some (.inl x3), some (.inl (σ.1 3 x3.toNatClampNeg)), o5, o6] [.inl (-x2)] σ) ?_ ?_
          · rfl
          · first | with_reducible rfl | simp only [if_neg hc34]
      refine (e_18_50 _ _ _ _ _ _ _ _).trans ?_
      refine (if_neg ((h hc33).2.2.1)).trans ?_
      refine (am_bind_i (s_70 L σ (σ.1 4 x3.toNatClampNeg))).trans ?_
      refine (e_18_61 _ _ _ _ _ _ _ _).trans ?_
      refine (if_neg ((h hc33).2.2.2.1)).trans ?_
      refine Eq.trans (b := am_r L 18 86 [some (.inr (.inr (12, none))), some (.inr (.inr (2, none))), some (.inl x2), some (.inl x3), some (.inl (σ.1 3 x3.toNatClampNeg)), some (.inl (if (v_69 σ (σ.1 4 x3.toNatClampNeg)) = 0 then (x2 : Int32) else (-x2))), some (.inl (v_70 σ (σ.1 4 x3.toNatClampNeg)))] [.inl (if (v_70 σ (σ.1 4 x3.toNatClampNeg)) = 0 then (0 : Int32) else (if (v_69 σ (σ.1 4 x3.toNatClampNeg)) = 0 then (x2 : Int32) else (-x2))), .inl (σ.1 18 (((σ.1 3 x3.toNatClampNeg)).toNatClampNeg)), .inl x3, .inr (.inr (18, none))] σ) ?_ ?_
      · by_cases hc35 : (v_70 σ (σ.1 4 x3.toNatClampNeg)) = 0
        · refine (if_pos hc35).trans ?_
          refine Eq.trans (b := am_r L 18 86 [some (.inr (.inr (12, none))), some (.inr (.inr (2, none))), some (.inl x2), some (.inl x3), some (.inl (σ.1 3 x3.toNatClampNeg)), some (.inl (if (v_69 σ (σ.1 4 x3.toNatClampNeg)) = 0 then (x2 : Int32) else (-x2))), some (.inl (v_70 σ (σ.1 4 x3.toNatClampNeg)))] [.inl 0, .inl (σ.1 18 (((σ.1 3 x3.toNatClampNeg)).toNatClampNeg)), .inl x3, .inr (.inr (18, none))] σ) ?_ ?_
          · refine (e_18_85 _ _ _ _ _ _ _ _ _).trans ?_
            rfl
          · first | with_reducible rfl | simp only [if_pos hc35]
        · refine (if_neg hc35).trans ?_
          refine Eq.trans (b := am_r L 18 86 [some (.inr (.inr (12, none))), some (.inr (.inr (2, none))), some (.inl x2), some (.inl x3), some (.inl (σ.1 3 x3.toNatClampNeg)), some (.inl (if (v_69 σ (σ.1 4 x3.toNatClampNeg)) = 0 then (x2 : Int32) else (-x2))), some (.inl (v_70 σ (σ.1 4 x3.toNatClampNeg)))] [.inl (if (v_69 σ (σ.1 4 x3.toNatClampNeg)) = 0 then (x2 : Int32) else (-x2)), .inl (σ.1 18 (((σ.1 3 x3.toNatClampNeg)).toNatClampNeg)), .inl x3, .inr (.inr (18, none))] σ) ?_ ?_
          · rfl
          · first | with_reducible rfl | simp only [if_neg hc35]
      refine (e_18_86 _ _ _ _ _ _ _ _ _ _).trans ?_
      refine (if_neg ((h hc33).2.2.2.2.1)).trans ?_
      refine (if_neg ((h hc33).2.2.2.2.2.1)).trans ?_
      refine Eq.trans (b := am_r L 18 111 [some (.inr (.inr (12, none))), some (.inr (.inr (2, none))), some (.inl x2), some (.inl x3), some (.inl (σ.1 3 x3.toNatClampNeg)), some (.inl (if (v_69 σ (σ.1 4 x3.toNatClampNeg)) = 0 then (x2 : Int32) else (-x2))), some (.inl (v_70 σ (σ.1 4 x3.toNatClampNeg)))] [.inl (if (v_70 σ (σ.1 4 x3.toNatClampNeg)) = 0 then ((if (v_69 σ (σ.1 4 x3.toNatClampNeg)) = 0 then (x2 : Int32) else (-x2)) : Int32) else 0), .inl (σ.1 19 (((σ.1 3 x3.toNatClampNeg)).toNatClampNeg)), .inl x3, .inr (.inr (19, none))] (am_put σ 18 x3.toNatClampNeg ((σ.1 18 (((σ.1 3 x3.toNatClampNeg)).toNatClampNeg)) + (if (v_70 σ (σ.1 4 x3.toNatClampNeg)) = 0 then (0 : Int32) else (if (v_69 σ (σ.1 4 x3.toNatClampNeg)) = 0 then (x2 : Int32) else (-x2)))))) ?_ ?_
      · by_cases hc36 : (v_70 σ (σ.1 4 x3.toNatClampNeg)) = 0
        · refine (if_pos hc36).trans ?_
          refine Eq.trans (b := am_r L 18 111 [some (.inr (.inr (12, none))), some (.inr (.inr (2, none))), some (.inl x2), some (.inl x3), some (.inl (σ.1 3 x3.toNatClampNeg)), some (.inl (if (v_69 σ (σ.1 4 x3.toNatClampNeg)) = 0 then (x2 : Int32) else (-x2))), some (.inl (v_70 σ (σ.1 4 x3.toNatClampNeg)))] [.inl (if (v_69 σ (σ.1 4 x3.toNatClampNeg)) = 0 then (x2 : Int32) else (-x2)), .inl (σ.1 19 (((σ.1 3 x3.toNatClampNeg)).toNatClampNeg)), .inl x3, .inr (.inr (19, none))] (am_put σ 18 x3.toNatClampNeg ((σ.1 18 (((σ.1 3 x3.toNatClampNeg)).toNatClampNeg)) + (if (v_70 σ (σ.1 4 x3.toNatClampNeg)) = 0 then (0 : Int32) else (if (v_69 σ (σ.1 4 x3.toNatClampNeg)) = 0 then (x2 : Int32) else (-x2)))))) ?_ ?_
          · refine (e_18_109 _ _ _ _ _ _ _ _ _).trans ?_
            rfl
          · first | with_reducible rfl | simp only [if_pos hc36]
        · refine (if_neg hc36).trans ?_
          refine Eq.trans (b := am_r L 18 111 [some (.inr (.inr (12, none))), some (.inr (.inr (2, none))), some (.inl x2), some (.inl x3), some (.inl (σ.1 3 x3.toNatClampNeg)), some (.inl (if (v_69 σ (σ.1 4 x3.toNatClampNeg)) = 0 then (x2 : Int32) else (-x2))), some (.inl (v_70 σ (σ.1 4 x3.toNatClampNeg)))] [.inl 0, .inl (σ.1 19 (((σ.1 3 x3.toNatClampNeg)).toNatClampNeg)), .inl x3, .inr (.inr (19, none))] (am_put σ 18 x3.toNatClampNeg ((σ.1 18 (((σ.1 3 x3.toNatClampNeg)).toNatClampNeg)) + (if (v_70 σ (σ.1 4 x3.toNatClampNeg)) = 0 then (0 : Int32) else (if (v_69 σ (σ.1 4 x3.toNatClampNeg)) = 0 then (x2 : Int32) else (-x2)))))) ?_ ?_
          · rfl
          · first | with_reducible rfl | simp only [if_neg hc36]
      refine (e_18_111 _ _ _ _ _ _ _ _ _ _).trans ?_
      refine (if_neg ((h hc33).2.2.2.2.2.2.1)).trans ?_
      exact ih (am_put (am_put σ 18 x3.toNatClampNeg ((σ.1 18 (((σ.1 3 x3.toNatClampNeg)).toNatClampNeg)) + (if (v_70 σ (σ.1 4 x3.toNatClampNeg)) = 0 then (0 : Int32) else (if (v_69 σ (σ.1 4 x3.toNatClampNeg)) = 0 then (x2 : Int32) else (-x2))))) 19 x3.toNatClampNeg ((σ.1 19 (((σ.1 3 x3.toNatClampNeg)).toNatClampNeg)) + (if (v_70 σ (σ.1 4 x3.toNatClampNeg)) = 0 then ((if (v_69 σ (σ.1 4 x3.toNatClampNeg)) = 0 then (x2 : Int32) else (-x2)) : Int32) else 0))) x2 (x3 + 1) (some (.inl (σ.1 3 x3.toNatClampNeg))) (some (.inl (if (v_69 σ (σ.1 4 x3.toNatClampNeg)) = 0 then (x2 : Int32) else (-x2)))) (some (.inl (v_70 σ (σ.1 4 x3.toNatClampNeg)))) ((h hc33).2.2.2.2.2.2.2)
    · refine (e_18_119 _ _ _ _ _ _ _).trans ?_
      rfl
def p_18 (σ : am_M) (x2 : Int32) : Prop := q_18_16 14 (am_put (am_put σ 18 0 0) 19 0 0) x2 1
def f_18 (σ : am_M) (x2 : Int32) : am_M := (l_18_16 14 (am_put (am_put σ 18 0 0) 19 0 0) x2 1)
set_option maxRecDepth 20000 in
theorem sf_18 (L : Nat) (σ : am_M) (x2 : Int32) (h : p_18 σ x2) : am_r L 18 0 [some (.inr (.inr (12, none))), some (.inr (.inr (2, none))), some (.inl x2), none, none, none, none] [] σ = some (none, am_sh0 L, (f_18 σ x2)) := by
  unfold p_18 at h
  unfold f_18
  refine (e_18_0 _ _ _).trans ?_
  refine (if_neg (by decide)).trans ?_
  refine (if_neg (by decide)).trans ?_
  exact t_18_16 L 14 (am_put (am_put σ 18 0 0) 19 0 0) x2 1 none none none h
def w_18 (σ : am_M) (x2 : Int32) : am_M := f_18 σ x2
theorem s_18 (L : Nat) (σ : am_M) (x2 : Int32) (h : p_18 σ x2) : am_r L 18 0 [some (.inr (.inr (12, none))), some (.inr (.inr (2, none))), some (.inl x2), none, none, none, none] [] σ = some (none, am_sh0 L, w_18 σ x2) := sf_18 L σ x2 h
-- 33: X2_isFreeSide
def p_33 (σ : am_M) (x1 : Int32) (x2 : Int32) : Prop := ¬ (x1 < 0 ∨ 13 ≤ x1.toNatClampNeg)
def v_33 (σ : am_M) (x1 : Int32) (x2 : Int32) : Int32 := (if (((σ.1 6 x1.toNatClampNeg) >>> (x2 &&& (31 : Int32))) &&& (1 : Int32)) = 0 then (1 : Int32) else 0)
set_option maxRecDepth 20000 in
theorem s_33 (L : Nat) (σ : am_M) (x1 : Int32) (x2 : Int32) (h : p_33 σ x1 x2) : am_r L 33 0 [some (.inr (.inr (2, none))), some (.inl x1), some (.inl x2)] [] σ = some (some (.inl (v_33 σ x1 x2)), am_sh0 L, σ) := by
  unfold p_33 at h
  unfold v_33
  refine (e_33_0 _ _ _ _).trans ?_
  refine (if_neg h).trans ?_
  refine Eq.trans (b := am_r L 33 18 [some (.inr (.inr (2, none))), some (.inl x1), some (.inl x2)] [.inl (if (((σ.1 6 x1.toNatClampNeg) >>> (x2 &&& (31 : Int32))) &&& (1 : Int32)) = 0 then (1 : Int32) else 0)] σ) ?_ ?_
  · by_cases hc37 : (((σ.1 6 x1.toNatClampNeg) >>> (x2 &&& (31 : Int32))) &&& (1 : Int32)) = 0
    · refine (if_pos hc37).trans ?_
      refine Eq.trans (b := am_r L 33 18 [some (.inr (.inr (2, none))), some (.inl x1), some (.inl x2)] [.inl 1] σ) ?_ ?_
      · rfl
      · first | with_reducible rfl | simp only [if_pos hc37]
    · refine (if_neg hc37).trans ?_
      refine Eq.trans (b := am_r L 33 18 [some (.inr (.inr (2, none))), some (.inl x1), some (.inl x2)] [.inl 0] σ) ?_ ?_
      · refine (e_33_17 _ _ _ _).trans ?_
        rfl
      · first | with_reducible rfl | simp only [if_neg hc37]
  refine (e_33_18 _ _ _ _ _).trans ?_
  refine (if_pos (am_01 (Or.inr rfl) (Or.inl rfl))).trans ?_
  rfl
theorem b_33 (σ : am_M) (x1 : Int32) (x2 : Int32) : v_33 σ x1 x2 = 0 ∨ v_33 σ x1 x2 = 1 := (am_01 (Or.inr rfl) (Or.inl rfl))
-- 19: X1_takeOff
def l_19_3 : Nat → am_M → Int32 → Int32 → Int32 → am_M
  | 0, σ, x2, x3, x4 => σ
  | n + 1, σ, x2, x3, x4 => (if x4 < 4 then (l_19_3 n (am_put σ (14 + x4.toNatClampNeg) x2.toNatClampNeg (((σ.1 (8 + x4.toNatClampNeg) x2.toNatClampNeg) + (if (v_33 σ x2 x4) = 0 then ((if (v_69 σ x4) = 0 then (x3 : Int32) else (-x3)) : Int32) else 0)) + (if (v_70 σ x4) = 0 then ((σ.1 19 x2.toNatClampNeg) : Int32) else (σ.1 18 x2.toNatClampNeg)))) x2 x3 (x4 + 1)) else σ)
def q_19_3 : Nat → am_M → Int32 → Int32 → Int32 → Prop
  | 0, _, _, _, _ => False
  | n + 1, σ, x2, x3, x4 => (x4 < 4) → ((p_33 σ x2 x4) ∧ (((((v_70 σ x4) = 0) → (¬ (x2 < 0 ∨ 13 ≤ x2.toNatClampNeg))) ∧ (¬ ((v_70 σ x4) = 0) → (¬ (x2 < 0 ∨ 13 ≤ x2.toNatClampNeg)))) ∧ ((¬ (x4 < 0 ∨ 4 ≤ x4.toNatClampNeg)) ∧ ((¬ (x4 < 0 ∨ 4 ≤ x4.toNatClampNeg)) ∧ ((¬ (x2 < 0 ∨ 13 ≤ x2.toNatClampNeg)) ∧ ((¬ (x2 < 0 ∨ 13 ≤ x2.toNatClampNeg)) ∧ (q_19_3 n (am_put σ (14 + x4.toNatClampNeg) x2.toNatClampNeg (((σ.1 (8 + x4.toNatClampNeg) x2.toNatClampNeg) + (if (v_33 σ x2 x4) = 0 then ((if (v_69 σ x4) = 0 then (x3 : Int32) else (-x3)) : Int32) else 0)) + (if (v_70 σ x4) = 0 then ((σ.1 19 x2.toNatClampNeg) : Int32) else (σ.1 18 x2.toNatClampNeg)))) x2 x3 (x4 + 1))))))))
set_option maxRecDepth 20000 in
theorem t_19_3 (L : Nat) : ∀ (n : Nat) (σ : am_M) (x2 : Int32) (x3 : Int32) (x4 : Int32) (o5 : Option am_V) (o6 : Option am_V), q_19_3 n σ x2 x3 x4 → am_r L 19 3 [some (.inr (.inr (12, none))), some (.inr (.inr (2, none))), some (.inl x2), some (.inl x3), some (.inl x4), o5, o6] [] σ = some (none, am_sh0 L, (l_19_3 n σ x2 x3 x4)) := by
  intro n
  induction n with
  | zero => intro σ x2 x3 x4 o5 o6 h; exact h.elim
  | succ n ih =>
    intro σ x2 x3 x4 o5 o6 h
    unfold q_19_3 at h
    unfold l_19_3
    refine (e_19_3 _ _ _ _ _ _ _).trans ?_
    refine am_fkVm (fun hc38 => ?_) (fun hc38 => ?_)
    · refine (am_bind_i (s_33 L σ x2 x4 ((h hc38).1))).trans ?_
      refine (e_19_16 _ _ _ _ _ _ _ _).trans ?_
      refine Eq.trans (b := am_r L 19 37 [some (.inr (.inr (12, none))), some (.inr (.inr (2, none))), some (.inl x2), some (.inl x3), some (.inl x4), o5, o6] [.inl (if (v_33 σ x2 x4) = 0 then ((if (v_69 σ x4) = 0 then (x3 : Int32) else (-x3)) : Int32) else 0)] σ) ?_ ?_
      · by_cases hc39 : (v_33 σ x2 x4) = 0
        · refine (if_pos hc39).trans ?_
          refine Eq.trans (b := am_r L 19 37 [some (.inr (.inr (12, none))), some (.inr (.inr (2, none))), some (.inl x2), some (.inl x3), some (.inl x4), o5, o6] [.inl (if (v_69 σ x4) = 0 then (x3 : Int32) else (-x3))] σ) ?_ ?_
          · refine (e_19_23 _ _ _ _ _ _ _).trans ?_
            refine (am_bind_i (s_69 L σ x4)).trans ?_
            refine (e_19_28 _ _ _ _ _ _ _ _).trans ?_
            refine Eq.trans (b := am_r L 19 37 [some (.inr (.inr (12, none))), some (.inr (.inr (2, none))), some (.inl x2), some (.inl x3), some (.inl x4), o5, o6] [.inl (if (v_69 σ x4) = 0 then (x3 : Int32) else (-x3))] σ) ?_ ?_
            · by_cases hc40 : (v_69 σ x4) = 0
              · refine (if_pos hc40).trans ?_
                refine Eq.trans (b := am_r L 19 37 [some (.inr (.inr (12, none))), some (.inr (.inr (2, none))), some (.inl x2), some (.inl x3), some (.inl x4), o5, o6] [.inl x3] σ) ?_ ?_
                · refine (e_19_36 _ _ _ _ _ _ _).trans ?_
                  rfl
                · first | with_reducible rfl | simp only [if_pos hc40]
              · refine (if_neg hc40).trans ?_
                refine Eq.trans (b := am_r L 19 37 [some (.inr (.inr (12, none))), some (.inr (.inr (2, none))), some (.inl x2), some (.inl x3), some (.inl x4), o5, o6] [.inl (-x3)] σ) ?_ ?_
                · rfl
                · first | with_reducible rfl | simp only [if_neg hc40]
            rfl
          · first | with_reducible rfl | simp only [if_pos hc39]
        · refine (if_neg hc39).trans ?_
          refine Eq.trans (b := am_r L 19 37 [some (.inr (.inr (12, none))), some (.inr (.inr (2, none))), some (.inl x2), some (.inl x3), some (.inl x4), o5, o6] [.inl 0] σ) ?_ ?_
          · rfl
          · first | with_reducible rfl | simp only [if_neg hc39]
      refine (e_19_37 _ _ _ _ _ _ _ _).trans ?_
      refine (am_bind_i (s_70 L σ x4)).trans ?_
      refine (e_19_44 _ _ _ _ _ _ _ _).trans ?_
      refine Eq.trans (b := am_r L 19 62 [some (.inr (.inr (12, none))), some (.inr (.inr (2, none))), some (.inl x2), some (.inl x3), some (.inl x4), some (.inl (if (v_33 σ x2 x4) = 0 then ((if (v_69 σ x4) = 0 then (x3 : Int32) else (-x3)) : Int32) else 0)), o6] [.inl (if (v_70 σ x4) = 0 then ((σ.1 19 x2.toNatClampNeg) : Int32) else (σ.1 18 x2.toNatClampNeg))] σ) ?_ ?_
      · by_cases hc41 : (v_70 σ x4) = 0
        · refine (if_pos hc41).trans ?_
          refine Eq.trans (b := am_r L 19 62 [some (.inr (.inr (12, none))), some (.inr (.inr (2, none))), some (.inl x2), some (.inl x3), some (.inl x4), some (.inl (if (v_33 σ x2 x4) = 0 then ((if (v_69 σ x4) = 0 then (x3 : Int32) else (-x3)) : Int32) else 0)), o6] [.inl (σ.1 19 x2.toNatClampNeg)] σ) ?_ ?_
          · refine (e_19_56 _ _ _ _ _ _ _).trans ?_
            refine (if_neg (((h hc38).2.1.1 hc41))).trans ?_
            rfl
          · first | with_reducible rfl | simp only [if_pos hc41]
        · refine (if_neg hc41).trans ?_
          refine Eq.trans (b := am_r L 19 62 [some (.inr (.inr (12, none))), some (.inr (.inr (2, none))), some (.inl x2), some (.inl x3), some (.inl x4), some (.inl (if (v_33 σ x2 x4) = 0 then ((if (v_69 σ x4) = 0 then (x3 : Int32) else (-x3)) : Int32) else 0)), o6] [.inl (σ.1 18 x2.toNatClampNeg)] σ) ?_ ?_
          · refine (if_neg (((h hc38).2.1.2 hc41))).trans ?_
            rfl
          · first | with_reducible rfl | simp only [if_neg hc41]
      refine (e_19_62 _ _ _ _ _ _ _ _).trans ?_
      refine (if_neg ((h hc38).2.2.1)).trans ?_
      refine (if_neg ((h hc38).2.2.2.1)).trans ?_
      refine (if_neg ((h hc38).2.2.2.2.1)).trans ?_
      refine (if_neg ((h hc38).2.2.2.2.2.1)).trans ?_
      refine (e_19_88 _ _ _ _ _ _ _).trans ?_
      exact ih (am_put σ (14 + x4.toNatClampNeg) x2.toNatClampNeg (((σ.1 (8 + x4.toNatClampNeg) x2.toNatClampNeg) + (if (v_33 σ x2 x4) = 0 then ((if (v_69 σ x4) = 0 then (x3 : Int32) else (-x3)) : Int32) else 0)) + (if (v_70 σ x4) = 0 then ((σ.1 19 x2.toNatClampNeg) : Int32) else (σ.1 18 x2.toNatClampNeg)))) x2 x3 (x4 + 1) (some (.inl (if (v_33 σ x2 x4) = 0 then ((if (v_69 σ x4) = 0 then (x3 : Int32) else (-x3)) : Int32) else 0))) (some (.inl (if (v_70 σ x4) = 0 then ((σ.1 19 x2.toNatClampNeg) : Int32) else (σ.1 18 x2.toNatClampNeg)))) ((h hc38).2.2.2.2.2.2)
    · refine (e_19_94 _ _ _ _ _ _ _).trans ?_
      rfl
def p_19 (σ : am_M) (x2 : Int32) (x3 : Int32) : Prop := q_19_3 14 σ x2 x3 0
def f_19 (σ : am_M) (x2 : Int32) (x3 : Int32) : am_M := (l_19_3 14 σ x2 x3 0)
set_option maxRecDepth 20000 in
theorem sf_19 (L : Nat) (σ : am_M) (x2 : Int32) (x3 : Int32) (h : p_19 σ x2 x3) : am_r L 19 0 [some (.inr (.inr (12, none))), some (.inr (.inr (2, none))), some (.inl x2), some (.inl x3), none, none, none] [] σ = some (none, am_sh0 L, (f_19 σ x2 x3)) := by
  unfold p_19 at h
  unfold f_19
  refine (e_19_0 _ _ _ _).trans ?_
  exact t_19_3 L 14 σ x2 x3 0 none none h
def w_19 (σ : am_M) (x2 : Int32) (x3 : Int32) : am_M := f_19 σ x2 x3
theorem s_19 (L : Nat) (σ : am_M) (x2 : Int32) (x3 : Int32) (h : p_19 σ x2 x3) : am_r L 19 0 [some (.inr (.inr (12, none))), some (.inr (.inr (2, none))), some (.inl x2), some (.inl x3), none, none, none] [] σ = some (none, am_sh0 L, w_19 σ x2 x3) := sf_19 L σ x2 x3 h
-- 121: J9_min_7cf53
def v_121 (σ : am_M) (x0 : Int32) (x1 : Int32) : Int32 := (if x1 < x0 then (x1 : Int32) else x0)
set_option maxRecDepth 20000 in
theorem s_121 (L : Nat) (σ : am_M) (x0 : Int32) (x1 : Int32) : am_r L 121 0 [some (.inl x0), some (.inl x1)] [] σ = some (some (.inl (v_121 σ x0 x1)), am_sh0 L, σ) := by
  unfold v_121
  refine (e_121_0 _ _ _ _).trans ?_
  refine Eq.trans (b := am_r L 121 10 [some (.inl x0), some (.inl x1)] [.inl (if x1 < x0 then (x1 : Int32) else x0)] σ) ?_ ?_
  · by_cases hc42 : x1 < x0
    · refine (if_pos hc42).trans ?_
      refine Eq.trans (b := am_r L 121 10 [some (.inl x0), some (.inl x1)] [.inl x1] σ) ?_ ?_
      · refine (e_121_9 _ _ _ _).trans ?_
        rfl
      · first | with_reducible rfl | simp only [if_pos hc42]
    · refine (if_neg hc42).trans ?_
      refine Eq.trans (b := am_r L 121 10 [some (.inl x0), some (.inl x1)] [.inl x0] σ) ?_ ?_
      · rfl
      · first | with_reducible rfl | simp only [if_neg hc42]
  refine (e_121_10 _ _ _ _ _).trans ?_
  rfl
-- 20: X1_beginAtZero
def l_20_44 : Nat → am_M → Int32 → Int32 → Int32 → Int32 → am_M
  | 0, σ, x1, x2, x3, x4 => σ
  | n + 1, σ, x1, x2, x3, x4 => (if x4 < (σ.1 12 0) then (l_20_44 n (am_put (am_put σ (14 + x2.toNatClampNeg) x4.toNatClampNeg ((σ.1 (14 + x2.toNatClampNeg) x4.toNatClampNeg) - x3)) (14 + x1.toNatClampNeg) x4.toNatClampNeg (((am_put σ (14 + x2.toNatClampNeg) x4.toNatClampNeg ((σ.1 (14 + x2.toNatClampNeg) x4.toNatClampNeg) - x3)).1 (14 + x1.toNatClampNeg) x4.toNatClampNeg) - x3)) x1 x2 x3 (x4 + 1)) else σ)
def q_20_44 : Nat → am_M → Int32 → Int32 → Int32 → Int32 → Prop
  | 0, _, _, _, _, _ => False
  | n + 1, σ, x1, x2, x3, x4 => (x4 < (σ.1 12 0)) → ((¬ (x2 < 0 ∨ 4 ≤ x2.toNatClampNeg)) ∧ ((¬ (x4 < 0 ∨ 13 ≤ x4.toNatClampNeg)) ∧ ((¬ (x4 < 0 ∨ 13 ≤ x4.toNatClampNeg)) ∧ ((¬ (x1 < 0 ∨ 4 ≤ x1.toNatClampNeg)) ∧ ((¬ (x4 < 0 ∨ 13 ≤ x4.toNatClampNeg)) ∧ ((¬ (x4 < 0 ∨ 13 ≤ x4.toNatClampNeg)) ∧ (q_20_44 n (am_put (am_put σ (14 + x2.toNatClampNeg) x4.toNatClampNeg ((σ.1 (14 + x2.toNatClampNeg) x4.toNatClampNeg) - x3)) (14 + x1.toNatClampNeg) x4.toNatClampNeg (((am_put σ (14 + x2.toNatClampNeg) x4.toNatClampNeg ((σ.1 (14 + x2.toNatClampNeg) x4.toNatClampNeg) - x3)).1 (14 + x1.toNatClampNeg) x4.toNatClampNeg) - x3)) x1 x2 x3 (x4 + 1))))))))
set_option maxRecDepth 20000 in
theorem t_20_44 (L : Nat) : ∀ (n : Nat) (σ : am_M) (x1 : Int32) (x2 : Int32) (x3 : Int32) (x4 : Int32), q_20_44 n σ x1 x2 x3 x4 → am_r L 20 44 [some (.inr (.inr (12, none))), some (.inl x1), some (.inl x2), some (.inl x3), some (.inl x4)] [] σ = some (none, am_sh0 L, (l_20_44 n σ x1 x2 x3 x4)) := by
  intro n
  induction n with
  | zero => intro σ x1 x2 x3 x4 h; exact h.elim
  | succ n ih =>
    intro σ x1 x2 x3 x4 h
    unfold q_20_44 at h
    unfold l_20_44
    refine (e_20_44 _ _ _ _ _ _).trans ?_
    refine am_fkVm (fun hc43 => ?_) (fun hc43 => ?_)
    · refine (if_neg ((h hc43).1)).trans ?_
      refine (if_neg ((h hc43).2.1)).trans ?_
      refine (if_neg ((h hc43).2.2.1)).trans ?_
      refine (if_neg ((h hc43).2.2.2.1)).trans ?_
      refine (e_20_72 _ _ _ _ _ _ _).trans ?_
      refine (if_neg ((h hc43).2.2.2.2.1)).trans ?_
      refine (if_neg ((h hc43).2.2.2.2.2.1)).trans ?_
      exact ih (am_put (am_put σ (14 + x2.toNatClampNeg) x4.toNatClampNeg ((σ.1 (14 + x2.toNatClampNeg) x4.toNatClampNeg) - x3)) (14 + x1.toNatClampNeg) x4.toNatClampNeg (((am_put σ (14 + x2.toNatClampNeg) x4.toNatClampNeg ((σ.1 (14 + x2.toNatClampNeg) x4.toNatClampNeg) - x3)).1 (14 + x1.toNatClampNeg) x4.toNatClampNeg) - x3)) x1 x2 x3 (x4 + 1) ((h hc43).2.2.2.2.2.2)
    · refine (e_20_85 _ _ _ _ _ _).trans ?_
      rfl
def l_20_12 : Nat → am_M → Int32 → Int32 → Int32 → Int32 → am_M
  | 0, σ, x1, x2, x3, x4 => σ
  | n + 1, σ, x1, x2, x3, x4 => (if x4 < (σ.1 12 0) then (l_20_12 n σ x1 x2 (v_121 σ x3 (σ.1 (14 + x2.toNatClampNeg) x4.toNatClampNeg)) (x4 + 1)) else (l_20_44 14 σ x1 x2 x3 0))
def q_20_12 : Nat → am_M → Int32 → Int32 → Int32 → Int32 → Prop
  | 0, _, _, _, _, _ => False
  | n + 1, σ, x1, x2, x3, x4 => ((x4 < (σ.1 12 0)) → ((¬ (x2 < 0 ∨ 4 ≤ x2.toNatClampNeg)) ∧ ((¬ (x4 < 0 ∨ 13 ≤ x4.toNatClampNeg)) ∧ (q_20_12 n σ x1 x2 (v_121 σ x3 (σ.1 (14 + x2.toNatClampNeg) x4.toNatClampNeg)) (x4 + 1))))) ∧ (¬ (x4 < (σ.1 12 0)) → (q_20_44 14 σ x1 x2 x3 0))
set_option maxRecDepth 20000 in
theorem t_20_12 (L : Nat) : ∀ (n : Nat) (σ : am_M) (x1 : Int32) (x2 : Int32) (x3 : Int32) (x4 : Int32), q_20_12 n σ x1 x2 x3 x4 → am_r L 20 12 [some (.inr (.inr (12, none))), some (.inl x1), some (.inl x2), some (.inl x3), some (.inl x4)] [] σ = some (none, am_sh0 L, (l_20_12 n σ x1 x2 x3 x4)) := by
  intro n
  induction n with
  | zero => intro σ x1 x2 x3 x4 h; exact h.elim
  | succ n ih =>
    intro σ x1 x2 x3 x4 h
    unfold q_20_12 at h
    unfold l_20_12
    refine (e_20_12 _ _ _ _ _ _).trans ?_
    refine am_fkVm (fun hc44 => ?_) (fun hc44 => ?_)
    · refine (if_neg ((h.1 hc44).1)).trans ?_
      refine (if_neg ((h.1 hc44).2.1)).trans ?_
      refine (am_bind_i (s_121 L σ x3 (σ.1 (14 + x2.toNatClampNeg) x4.toNatClampNeg))).trans ?_
      refine (e_20_34 _ _ _ _ _ _ _).trans ?_
      exact ih σ x1 x2 (v_121 σ x3 (σ.1 (14 + x2.toNatClampNeg) x4.toNatClampNeg)) (x4 + 1) ((h.1 hc44).2.2)
    · refine (e_20_41 _ _ _ _ _ _).trans ?_
      exact t_20_44 L 14 σ x1 x2 x3 0 ((h.2 hc44))
def p_20 (σ : am_M) (x1 : Int32) (x2 : Int32) : Prop := (¬ (x2 < 0 ∨ 4 ≤ x2.toNatClampNeg)) ∧ (q_20_12 14 σ x1 x2 (σ.1 (14 + x2.toNatClampNeg) 0) 1)
def f_20 (σ : am_M) (x1 : Int32) (x2 : Int32) : am_M := (l_20_12 14 σ x1 x2 (σ.1 (14 + x2.toNatClampNeg) 0) 1)
set_option maxRecDepth 20000 in
theorem sf_20 (L : Nat) (σ : am_M) (x1 : Int32) (x2 : Int32) (h : p_20 σ x1 x2) : am_r L 20 0 [some (.inr (.inr (12, none))), some (.inl x1), some (.inl x2), none, none] [] σ = some (none, am_sh0 L, (f_20 σ x1 x2)) := by
  unfold p_20 at h
  unfold f_20
  refine (e_20_0 _ _ _ _).trans ?_
  refine (if_neg h.1).trans ?_
  refine (if_neg (by decide)).trans ?_
  exact t_20_12 L 14 σ x1 x2 (σ.1 (14 + x2.toNatClampNeg) 0) 1 h.2
def w_20 (σ : am_M) (x1 : Int32) (x2 : Int32) : am_M := f_20 σ x1 x2
theorem s_20 (L : Nat) (σ : am_M) (x1 : Int32) (x2 : Int32) (h : p_20 σ x1 x2) : am_r L 20 0 [some (.inr (.inr (12, none))), some (.inl x1), some (.inl x2), none, none] [] σ = some (none, am_sh0 L, w_20 σ x1 x2) := sf_20 L σ x1 x2 h
-- 17: X1_layOut
def l_17_16 : Nat → am_M → Int32 → Int32 → am_M
  | 0, σ, x2, x3 => σ
  | n + 1, σ, x2, x3 => (if x3 < (σ.1 12 0) then (l_17_16 n (w_19 σ x3 (x2 / 2)) x2 (x3 + 1)) else (w_20 (w_20 σ 0 2) 1 3))
def q_17_16 : Nat → am_M → Int32 → Int32 → Prop
  | 0, _, _, _ => False
  | n + 1, σ, x2, x3 => ((x3 < (σ.1 12 0)) → ((p_19 σ x3 (x2 / 2)) ∧ (q_17_16 n (w_19 σ x3 (x2 / 2)) x2 (x3 + 1)))) ∧ (¬ (x3 < (σ.1 12 0)) → ((p_20 σ 0 2) ∧ (p_20 (w_20 σ 0 2) 1 3)))
set_option maxRecDepth 20000 in
theorem t_17_16 (L : Nat) : ∀ (n : Nat) (σ : am_M) (x2 : Int32) (x3 : Int32), q_17_16 n σ x2 x3 → am_r L 17 16 [some (.inr (.inr (12, none))), some (.inr (.inr (2, none))), some (.inl x2), some (.inl x3)] [] σ = some (none, am_sh0 L, (l_17_16 n σ x2 x3)) := by
  intro n
  induction n with
  | zero => intro σ x2 x3 h; exact h.elim
  | succ n ih =>
    intro σ x2 x3 h
    unfold q_17_16 at h
    unfold l_17_16
    refine (e_17_16 _ _ _ _).trans ?_
    refine am_fkVm (fun hc45 => ?_) (fun hc45 => ?_)
    · refine (am_bind_v (s_19 L σ x3 (x2 / 2) ((h.1 hc45).1))).trans ?_
      refine (e_17_33 _ _ _ _).trans ?_
      exact ih (w_19 σ x3 (x2 / 2)) x2 (x3 + 1) ((h.1 hc45).2)
    · refine (e_17_39 _ _ _ _).trans ?_
      refine (am_bind_v (s_20 L σ 0 2 ((h.2 hc45).1))).trans ?_
      refine (e_17_45 _ _ _ _).trans ?_
      refine (am_bind_v (s_20 L (w_20 σ 0 2) 1 3 ((h.2 hc45).2))).trans ?_
      refine (e_17_51 _ _ _ _).trans ?_
      rfl
def p_17 (σ : am_M) (x2 : Int32) : Prop := (p_18 (am_put σ 12 0 (σ.1 2 0)) x2) ∧ (q_17_16 14 (w_18 (am_put σ 12 0 (σ.1 2 0)) x2) x2 0)
def f_17 (σ : am_M) (x2 : Int32) : am_M := (l_17_16 14 (w_18 (am_put σ 12 0 (σ.1 2 0)) x2) x2 0)
set_option maxRecDepth 20000 in
theorem sf_17 (L : Nat) (σ : am_M) (x2 : Int32) (h : p_17 σ x2) : am_r L 17 0 [some (.inr (.inr (12, none))), some (.inr (.inr (2, none))), some (.inl x2), none] [] σ = some (none, am_sh0 L, (f_17 σ x2)) := by
  unfold p_17 at h
  unfold f_17
  refine (e_17_0 _ _ _).trans ?_
  refine (am_bind_v (s_18 L (am_put σ 12 0 (σ.1 2 0)) x2 h.1)).trans ?_
  refine (e_17_14 _ _ _).trans ?_
  exact t_17_16 L 14 (w_18 (am_put σ 12 0 (σ.1 2 0)) x2) x2 0 h.2
def w_17 (σ : am_M) (x2 : Int32) : am_M := f_17 σ x2
theorem s_17 (L : Nat) (σ : am_M) (x2 : Int32) (h : p_17 σ x2) : am_r L 17 0 [some (.inr (.inr (12, none))), some (.inr (.inr (2, none))), some (.inl x2), none] [] σ = some (none, am_sh0 L, w_17 σ x2) := sf_17 L σ x2 h
-- 22: X1_firstWithoutInside
def l_22_2 : Nat → am_M → Int32 → Int32
  | 0, _, _ => 0
  | n + 1, σ, x1 => (if x1 < (σ.1 12 0) then (if (σ.1 16 x1.toNatClampNeg) < (σ.1 14 x1.toNatClampNeg) then (if (σ.1 17 x1.toNatClampNeg) < (σ.1 15 x1.toNatClampNeg) then (l_22_2 n σ (x1 + 1)) else x1) else x1) else (-1))
def q_22_2 : Nat → am_M → Int32 → Prop
  | 0, _, _ => False
  | n + 1, σ, x1 => (x1 < (σ.1 12 0)) → ((¬ (x1 < 0 ∨ 13 ≤ x1.toNatClampNeg)) ∧ ((¬ (x1 < 0 ∨ 13 ≤ x1.toNatClampNeg)) ∧ (((σ.1 16 x1.toNatClampNeg) < (σ.1 14 x1.toNatClampNeg)) → ((¬ (x1 < 0 ∨ 13 ≤ x1.toNatClampNeg)) ∧ ((¬ (x1 < 0 ∨ 13 ≤ x1.toNatClampNeg)) ∧ (((σ.1 17 x1.toNatClampNeg) < (σ.1 15 x1.toNatClampNeg)) → (q_22_2 n σ (x1 + 1))))))))
set_option maxRecDepth 20000 in
theorem t_22_2 (L : Nat) (σ : am_M) : ∀ (n : Nat) (x1 : Int32), q_22_2 n σ x1 → am_r L 22 2 [some (.inr (.inr (12, none))), some (.inl x1)] [] σ = some (some (.inl (l_22_2 n σ x1)), am_sh0 L, σ) := by
  intro n
  induction n with
  | zero => intro x1 h; exact h.elim
  | succ n ih =>
    intro x1 h
    unfold q_22_2 at h
    unfold l_22_2
    refine (e_22_2 _ _ _).trans ?_
    refine am_fkIv (fun hc46 => ?_) (fun hc46 => ?_)
    · refine (if_neg (by decide)).trans ?_
      refine (if_neg ((h hc46).1)).trans ?_
      refine (if_neg (by decide)).trans ?_
      refine (if_neg ((h hc46).2.1)).trans ?_
      refine (e_22_26 _ _ _ _ _).trans ?_
      refine am_fkIv (fun hc47 => ?_) (fun hc47 => ?_)
      · refine (if_neg (by decide)).trans ?_
        refine (if_neg (((h hc46).2.2 hc47).1)).trans ?_
        refine (if_neg (by decide)).trans ?_
        refine (if_neg (((h hc46).2.2 hc47).2.1)).trans ?_
        refine am_fkIv (fun hc48 => ?_) (fun hc48 => ?_)
        · refine (e_22_50 _ _ _).trans ?_
          exact ih (x1 + 1) ((((h hc46).2.2 hc47).2.2 hc48))
        · refine (e_22_48 _ _ _).trans ?_
          rfl
      · refine (e_22_48 _ _ _).trans ?_
        rfl
    · refine (e_22_56 _ _ _).trans ?_
      rfl
def p_22 (σ : am_M) : Prop := q_22_2 14 σ 0
def f_22 (σ : am_M) : Int32 := (l_22_2 14 σ 0)
set_option maxRecDepth 20000 in
theorem sf_22 (L : Nat) (σ : am_M) (h : p_22 σ) : am_r L 22 0 [some (.inr (.inr (12, none))), none] [] σ = some (some (.inl (f_22 σ)), am_sh0 L, σ) := by
  unfold p_22 at h
  unfold f_22
  refine (e_22_0 _ _).trans ?_
  exact t_22_2 L σ 14 0 h
def v_22 (σ : am_M) : Int32 := f_22 σ
theorem s_22 (L : Nat) (σ : am_M) (h : p_22 σ) : am_r L 22 0 [some (.inr (.inr (12, none))), none] [] σ = some (some (.inl (v_22 σ)), am_sh0 L, σ) := sf_22 L σ h
-- 23: X1_firstOverlap
def l_23_4 : Nat → am_M → Int32 → Int32 → Int32
  | 0, _, _, _ => 0
  | n + 1, σ, x1, x2 => (if x2 < (σ.1 12 0) then (if (σ.1 16 x1.toNatClampNeg) < (σ.1 14 x2.toNatClampNeg) then (if (σ.1 16 x2.toNatClampNeg) < (σ.1 14 x1.toNatClampNeg) then (if (σ.1 17 x1.toNatClampNeg) < (σ.1 15 x2.toNatClampNeg) then (if (σ.1 17 x2.toNatClampNeg) < (σ.1 15 x1.toNatClampNeg) then x2 else (l_23_4 n σ x1 (x2 + 1))) else (l_23_4 n σ x1 (x2 + 1))) else (l_23_4 n σ x1 (x2 + 1))) else (l_23_4 n σ x1 (x2 + 1))) else (-1))
def q_23_4 : Nat → am_M → Int32 → Int32 → Prop
  | 0, _, _, _ => False
  | n + 1, σ, x1, x2 => (x2 < (σ.1 12 0)) → ((¬ (x1 < 0 ∨ 13 ≤ x1.toNatClampNeg)) ∧ ((¬ (x2 < 0 ∨ 13 ≤ x2.toNatClampNeg)) ∧ ((((σ.1 16 x1.toNatClampNeg) < (σ.1 14 x2.toNatClampNeg)) → ((¬ (x2 < 0 ∨ 13 ≤ x2.toNatClampNeg)) ∧ ((¬ (x1 < 0 ∨ 13 ≤ x1.toNatClampNeg)) ∧ ((((σ.1 16 x2.toNatClampNeg) < (σ.1 14 x1.toNatClampNeg)) → ((¬ (x1 < 0 ∨ 13 ≤ x1.toNatClampNeg)) ∧ ((¬ (x2 < 0 ∨ 13 ≤ x2.toNatClampNeg)) ∧ ((((σ.1 17 x1.toNatClampNeg) < (σ.1 15 x2.toNatClampNeg)) → ((¬ (x2 < 0 ∨ 13 ≤ x2.toNatClampNeg)) ∧ ((¬ (x1 < 0 ∨ 13 ≤ x1.toNatClampNeg)) ∧ (¬ ((σ.1 17 x2.toNatClampNeg) < (σ.1 15 x1.toNatClampNeg)) → (q_23_4 n σ x1 (x2 + 1)))))) ∧ (¬ ((σ.1 17 x1.toNatClampNeg) < (σ.1 15 x2.toNatClampNeg)) → (q_23_4 n σ x1 (x2 + 1))))))) ∧ (¬ ((σ.1 16 x2.toNatClampNeg) < (σ.1 14 x1.toNatClampNeg)) → (q_23_4 n σ x1 (x2 + 1))))))) ∧ (¬ ((σ.1 16 x1.toNatClampNeg) < (σ.1 14 x2.toNatClampNeg)) → (q_23_4 n σ x1 (x2 + 1))))))
set_option maxRecDepth 20000 in
theorem t_23_4 (L : Nat) (σ : am_M) : ∀ (n : Nat) (x1 : Int32) (x2 : Int32), q_23_4 n σ x1 x2 → am_r L 23 4 [some (.inr (.inr (12, none))), some (.inl x1), some (.inl x2)] [] σ = some (some (.inl (l_23_4 n σ x1 x2)), am_sh0 L, σ) := by
  intro n
  induction n with
  | zero => intro x1 x2 h; exact h.elim
  | succ n ih =>
    intro x1 x2 h
    unfold q_23_4 at h
    unfold l_23_4
    refine (e_23_4 _ _ _ _).trans ?_
    refine am_fkIv (fun hc49 => ?_) (fun hc49 => ?_)
    · refine (if_neg (by decide)).trans ?_
      refine (if_neg ((h hc49).1)).trans ?_
      refine (if_neg (by decide)).trans ?_
      refine (if_neg ((h hc49).2.1)).trans ?_
      refine (e_23_28 _ _ _ _ _ _).trans ?_
      refine am_fkIv (fun hc50 => ?_) (fun hc50 => ?_)
      · refine (if_neg (by decide)).trans ?_
        refine (if_neg (((h hc49).2.2.1 hc50).1)).trans ?_
        refine (if_neg (by decide)).trans ?_
        refine (if_neg (((h hc49).2.2.1 hc50).2.1)).trans ?_
        refine am_fkIv (fun hc51 => ?_) (fun hc51 => ?_)
        · refine (e_23_51 _ _ _ _).trans ?_
          refine (if_neg (by decide)).trans ?_
          refine (if_neg ((((h hc49).2.2.1 hc50).2.2.1 hc51).1)).trans ?_
          refine (if_neg (by decide)).trans ?_
          refine (if_neg ((((h hc49).2.2.1 hc50).2.2.1 hc51).2.1)).trans ?_
          refine am_fkIv (fun hc52 => ?_) (fun hc52 => ?_)
          · refine (e_23_74 _ _ _ _ _).trans ?_
            refine (if_neg (by decide)).trans ?_
            refine (if_neg (((((h hc49).2.2.1 hc50).2.2.1 hc51).2.2.1 hc52).1)).trans ?_
            refine (if_neg (by decide)).trans ?_
            refine (if_neg (((((h hc49).2.2.1 hc50).2.2.1 hc51).2.2.1 hc52).2.1)).trans ?_
            refine am_fkIv (fun hc53 => ?_) (fun hc53 => ?_)
            · rfl
            · refine (e_23_90 _ _ _ _).trans ?_
              exact ih x1 (x2 + 1) ((((((h hc49).2.2.1 hc50).2.2.1 hc51).2.2.1 hc52).2.2 hc53))
          · refine (e_23_90 _ _ _ _).trans ?_
            exact ih x1 (x2 + 1) (((((h hc49).2.2.1 hc50).2.2.1 hc51).2.2.2 hc52))
        · refine (e_23_90 _ _ _ _).trans ?_
          exact ih x1 (x2 + 1) ((((h hc49).2.2.1 hc50).2.2.2 hc51))
      · refine (e_23_90 _ _ _ _).trans ?_
        exact ih x1 (x2 + 1) (((h hc49).2.2.2 hc50))
    · refine (e_23_96 _ _ _ _).trans ?_
      rfl
def p_23 (σ : am_M) (x1 : Int32) : Prop := q_23_4 14 σ x1 (x1 + 1)
def f_23 (σ : am_M) (x1 : Int32) : Int32 := (l_23_4 14 σ x1 (x1 + 1))
set_option maxRecDepth 20000 in
theorem sf_23 (L : Nat) (σ : am_M) (x1 : Int32) (h : p_23 σ x1) : am_r L 23 0 [some (.inr (.inr (12, none))), some (.inl x1), none] [] σ = some (some (.inl (f_23 σ x1)), am_sh0 L, σ) := by
  unfold p_23 at h
  unfold f_23
  refine (e_23_0 _ _ _).trans ?_
  exact t_23_4 L σ 14 x1 (x1 + 1) h
def v_23 (σ : am_M) (x1 : Int32) : Int32 := f_23 σ x1
theorem s_23 (L : Nat) (σ : am_M) (x1 : Int32) (h : p_23 σ x1) : am_r L 23 0 [some (.inr (.inr (12, none))), some (.inl x1), none] [] σ = some (some (.inl (v_23 σ x1)), am_sh0 L, σ) := sf_23 L σ x1 h
