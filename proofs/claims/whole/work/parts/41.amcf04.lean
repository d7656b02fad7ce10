-- 28: X2_allBends
def v_28 (σ : am_M) : Int32 := (if (σ.1 2 0) = 0 then (0 : Int32) else (((1 : Int32) <<< ((σ.1 2 0) &&& (31 : Int32))) - 2))
set_option maxRecDepth 20000 in
theorem s_28 (L : Nat) (σ : am_M) : am_r L 28 0 [some (.inr (.inr (2, none)))] [] σ = some (some (.inl (v_28 σ)), am_sh0 L, σ) := by
  unfold v_28
  refine (e_28_0 _ _).trans ?_
  refine Eq.trans (b := am_r L 28 19 [some (.inr (.inr (2, none)))] [.inl (if (σ.1 2 0) = 0 then (0 : Int32) else (((1 : Int32) <<< ((σ.1 2 0) &&& (31 : Int32))) - 2))] σ) ?_ ?_
  · by_cases hc84 : (σ.1 2 0) = 0
    · refine (if_pos hc84).trans ?_
      refine Eq.trans (b := am_r L 28 19 [some (.inr (.inr (2, none)))] [.inl 0] σ) ?_ ?_
      · rfl
      · first | with_reducible rfl | simp only [if_pos hc84]
    · refine (if_neg hc84).trans ?_
      refine Eq.trans (b := am_r L 28 19 [some (.inr (.inr (2, none)))] [.inl (((1 : Int32) <<< ((σ.1 2 0) &&& (31 : Int32))) - 2)] σ) ?_ ?_
      · refine (e_28_11 _ _).trans ?_
        rfl
      · first | with_reducible rfl | simp only [if_neg hc84]
  refine (e_28_19 _ _ _).trans ?_
  rfl
-- 29: X2_areBends
def v_29 (σ : am_M) (x1 : Int32) : Int32 := (if (x1 &&& ((v_28 σ) ^^^ (-1))) = 0 then (1 : Int32) else 0)
set_option maxRecDepth 20000 in
theorem s_29 (L : Nat) (σ : am_M) (x1 : Int32) : am_r L 29 0 [some (.inr (.inr (2, none))), some (.inl x1)] [] σ = some (some (.inl (v_29 σ x1)), am_sh0 L, σ) := by
  unfold v_29
  refine (e_29_0 _ _ _).trans ?_
  refine (am_bind_i (s_28 L σ)).trans ?_
  refine (e_29_5 _ _ _ _ _).trans ?_
  refine Eq.trans (b := am_r L 29 16 [some (.inr (.inr (2, none))), some (.inl x1)] [.inl (if (x1 &&& ((v_28 σ) ^^^ (-1))) = 0 then (1 : Int32) else 0)] σ) ?_ ?_
  · by_cases hc85 : (x1 &&& ((v_28 σ) ^^^ (-1))) = 0
    · refine (if_pos hc85).trans ?_
      refine Eq.trans (b := am_r L 29 16 [some (.inr (.inr (2, none))), some (.inl x1)] [.inl 1] σ) ?_ ?_
      · rfl
      · first | with_reducible rfl | simp only [if_pos hc85]
    · refine (if_neg hc85).trans ?_
      refine Eq.trans (b := am_r L 29 16 [some (.inr (.inr (2, none))), some (.inl x1)] [.inl 0] σ) ?_ ?_
      · refine (e_29_15 _ _ _).trans ?_
        rfl
      · first | with_reducible rfl | simp only [if_neg hc85]
  refine (e_29_16 _ _ _ _).trans ?_
  refine (if_pos (am_01 (Or.inr rfl) (Or.inl rfl))).trans ?_
  rfl
theorem b_29 (σ : am_M) (x1 : Int32) : v_29 σ x1 = 0 ∨ v_29 σ x1 = 1 := (am_01 (Or.inr rfl) (Or.inl rfl))
-- 58: X4_place
def p_58 (σ : am_M) (x1 : Int32) (x2 : Int32) (x3 : Int32) : Prop := ¬ ((v_26 σ x2) = 0) → (¬ ((v_29 σ x1) = 0) → (¬ ((v_67 σ x3 0 5) = 0) → ((p_1 σ x1) ∧ (((x3 < 3) → ((¬ (x3 < 0 ∨ 3 ≤ x3.toNatClampNeg)) ∧ (¬ (x2 < 0 ∨ 13 ≤ x2.toNatClampNeg)))) ∧ (¬ (x3 < 3) → ((¬ ((x3 - 3) < 0 ∨ 3 ≤ ((x3 - 3)).toNatClampNeg)) ∧ (¬ (x2 < 0 ∨ 13 ≤ x2.toNatClampNeg))))))))
def v_58 (σ : am_M) (x1 : Int32) (x2 : Int32) (x3 : Int32) : Int32 := (if (v_26 σ x2) = 0 then (-1000000) else (if (v_29 σ x1) = 0 then (-1000000) else (if (v_67 σ x3 0 5) = 0 then (-1000000) else (if x3 < 3 then (((w_1 σ x1).1 (29 + x3.toNatClampNeg) x2.toNatClampNeg) : Int32) else ((w_1 σ x1).1 (33 + ((x3 - 3)).toNatClampNeg) x2.toNatClampNeg)))))
def w_58 (σ : am_M) (x1 : Int32) (x2 : Int32) (x3 : Int32) : am_M := (if (v_26 σ x2) = 0 then σ else (if (v_29 σ x1) = 0 then σ else (if (v_67 σ x3 0 5) = 0 then σ else (w_1 σ x1))))
set_option maxRecDepth 20000 in
theorem s_58 (L : Nat) (σ : am_M) (x1 : Int32) (x2 : Int32) (x3 : Int32) (h : p_58 σ x1 x2 x3) : am_r L 58 0 [some (.inr (.inr (1, none))), some (.inl x1), some (.inl x2), some (.inl x3)] [] σ = some (some (.inl (v_58 σ x1 x2 x3)), am_sh0 L, w_58 σ x1 x2 x3) := by
  unfold p_58 at h
  unfold v_58 w_58
  refine (e_58_0 _ _ _ _ _).trans ?_
  refine (am_bind_i (s_26 L σ x2)).trans ?_
  refine (e_58_8 _ _ _ _ _ _).trans ?_
  refine am_fkIvm (fun hc86 => ?_) (fun hc86 => ?_)
  · refine (e_58_31 _ _ _ _ _).trans ?_
    rfl
  · refine (am_bind_i (s_29 L σ x1)).trans ?_
    refine (e_58_19 _ _ _ _ _ _).trans ?_
    refine am_fkIvm (fun hc87 => ?_) (fun hc87 => ?_)
    · refine (e_58_31 _ _ _ _ _).trans ?_
      rfl
    · refine (am_bind_i (s_67 L σ x3 0 5)).trans ?_
      refine (e_58_28 _ _ _ _ _ _).trans ?_
      refine am_fkIvm (fun hc88 => ?_) (fun hc88 => ?_)
      · refine (e_58_31 _ _ _ _ _).trans ?_
        rfl
      · refine (e_58_34 _ _ _ _ _).trans ?_
        refine (am_bind_v (s_1 L σ x1 ((((h hc86) hc87) hc88).1))).trans ?_
        refine (e_58_46 _ _ _ _ _).trans ?_
        refine Eq.trans (b := am_r L 58 78 [some (.inr (.inr (1, none))), some (.inl x1), some (.inl x2), some (.inl x3)] [.inl (if x3 < 3 then (((w_1 σ x1).1 (29 + x3.toNatClampNeg) x2.toNatClampNeg) : Int32) else ((w_1 σ x1).1 (33 + ((x3 - 3)).toNatClampNeg) x2.toNatClampNeg))] (w_1 σ x1)) ?_ ?_
        · by_cases hc89 : x3 < 3
          · refine (if_pos hc89).trans ?_
            refine Eq.trans (b := am_r L 58 78 [some (.inr (.inr (1, none))), some (.inl x1), some (.inl x2), some (.inl x3)] [.inl ((w_1 σ x1).1 (29 + x3.toNatClampNeg) x2.toNatClampNeg)] (w_1 σ x1)) ?_ ?_
            · refine (if_neg (((((h hc86) hc87) hc88).2.1 hc89).1)).trans ?_
              refine (if_neg (((((h hc86) hc87) hc88).2.1 hc89).2)).trans ?_
              rfl
            · first | with_reducible rfl | simp only [if_pos hc89]
          · refine (if_neg hc89).trans ?_
            refine Eq.trans (b := am_r L 58 78 [some (.inr (.inr (1, none))), some (.inl x1), some (.inl x2), some (.inl x3)] [.inl ((w_1 σ x1).1 (33 + ((x3 - 3)).toNatClampNeg) x2.toNatClampNeg)] (w_1 σ x1)) ?_ ?_
            · refine (e_58_65 _ _ _ _ _).trans ?_
              refine (if_neg (((((h hc86) hc87) hc88).2.2 hc89).1)).trans ?_
              refine (if_neg (((((h hc86) hc87) hc88).2.2 hc89).2)).trans ?_
              rfl
            · first | with_reducible rfl | simp only [if_neg hc89]
        refine (e_58_78 _ _ _ _ _ _).trans ?_
        rfl
-- 12: X0_isEntered
def l_12_2 : Nat → am_M → Int32 → Int32 → Int32 → Int32
  | 0, _, _, _, _ => 0
  | n + 1, σ, x1, x2, x3 => (if x3 < 3 then (if (if (σ.1 (29 + x3.toNatClampNeg) x1.toNatClampNeg) = (σ.1 (33 + x3.toNatClampNeg) x1.toNatClampNeg) then ((if (σ.1 (29 + x3.toNatClampNeg) x1.toNatClampNeg) < (σ.1 (29 + x3.toNatClampNeg) x2.toNatClampNeg) then (0 : Int32) else (if (σ.1 (33 + x3.toNatClampNeg) x2.toNatClampNeg) < (σ.1 (29 + x3.toNatClampNeg) x1.toNatClampNeg) then (0 : Int32) else 1)) : Int32) else (if (σ.1 (29 + x3.toNatClampNeg) x2.toNatClampNeg) < (σ.1 (33 + x3.toNatClampNeg) x1.toNatClampNeg) then ((if (σ.1 (29 + x3.toNatClampNeg) x1.toNatClampNeg) < (σ.1 (33 + x3.toNatClampNeg) x2.toNatClampNeg) then (1 : Int32) else 0) : Int32) else 0)) = 0 then 0 else (l_12_2 n σ x1 x2 (x3 + 1))) else 1)
def q_12_2 : Nat → am_M → Int32 → Int32 → Int32 → Prop
  | 0, _, _, _, _ => False
  | n + 1, σ, x1, x2, x3 => (x3 < 3) → ((¬ (x3 < 0 ∨ 3 ≤ x3.toNatClampNeg)) ∧ ((¬ (x1 < 0 ∨ 13 ≤ x1.toNatClampNeg)) ∧ ((¬ (x3 < 0 ∨ 3 ≤ x3.toNatClampNeg)) ∧ ((¬ (x1 < 0 ∨ 13 ≤ x1.toNatClampNeg)) ∧ (((((σ.1 (29 + x3.toNatClampNeg) x1.toNatClampNeg) = (σ.1 (33 + x3.toNatClampNeg) x1.toNatClampNeg)) → ((¬ (x3 < 0 ∨ 3 ≤ x3.toNatClampNeg)) ∧ ((¬ (x2 < 0 ∨ 13 ≤ x2.toNatClampNeg)) ∧ (¬ ((σ.1 (29 + x3.toNatClampNeg) x1.toNatClampNeg) < (σ.1 (29 + x3.toNatClampNeg) x2.toNatClampNeg)) → ((¬ (x3 < 0 ∨ 3 ≤ x3.toNatClampNeg)) ∧ (¬ (x2 < 0 ∨ 13 ≤ x2.toNatClampNeg))))))) ∧ (¬ ((σ.1 (29 + x3.toNatClampNeg) x1.toNatClampNeg) = (σ.1 (33 + x3.toNatClampNeg) x1.toNatClampNeg)) → ((¬ (x3 < 0 ∨ 3 ≤ x3.toNatClampNeg)) ∧ ((¬ (x2 < 0 ∨ 13 ≤ x2.toNatClampNeg)) ∧ (((σ.1 (29 + x3.toNatClampNeg) x2.toNatClampNeg) < (σ.1 (33 + x3.toNatClampNeg) x1.toNatClampNeg)) → ((¬ (x3 < 0 ∨ 3 ≤ x3.toNatClampNeg)) ∧ (¬ (x2 < 0 ∨ 13 ≤ x2.toNatClampNeg)))))))) ∧ (¬ ((if (σ.1 (29 + x3.toNatClampNeg) x1.toNatClampNeg) = (σ.1 (33 + x3.toNatClampNeg) x1.toNatClampNeg) then ((if (σ.1 (29 + x3.toNatClampNeg) x1.toNatClampNeg) < (σ.1 (29 + x3.toNatClampNeg) x2.toNatClampNeg) then (0 : Int32) else (if (σ.1 (33 + x3.toNatClampNeg) x2.toNatClampNeg) < (σ.1 (29 + x3.toNatClampNeg) x1.toNatClampNeg) then (0 : Int32) else 1)) : Int32) else (if (σ.1 (29 + x3.toNatClampNeg) x2.toNatClampNeg) < (σ.1 (33 + x3.toNatClampNeg) x1.toNatClampNeg) then ((if (σ.1 (29 + x3.toNatClampNeg) x1.toNatClampNeg) < (σ.1 (33 + x3.toNatClampNeg) x2.toNatClampNeg) then (1 : Int32) else 0) : Int32) else 0)) = 0) → (q_12_2 n σ x1 x2 (x3 + 1))))))))
set_option maxRecDepth 20000 in
theorem t_12_2 (L : Nat) (σ : am_M) : ∀ (n : Nat) (x1 : Int32) (x2 : Int32) (x3 : Int32) (o4 : Option am_V) (o5 : Option am_V) (o6 : Option am_V), q_12_2 n σ x1 x2 x3 → am_r L 12 2 [some (.inr (.inr (20, none))), some (.inl x1), some (.inl x2), some (.inl x3), o4, o5, o6] [] σ = some (some (.inl (l_12_2 n σ x1 x2 x3)), am_sh0 L, σ) := by
  intro n
  induction n with
  | zero => intro x1 x2 x3 o4 o5 o6 h; exact h.elim
  | succ n ih =>
    intro x1 x2 x3 o4 o5 o6 h
    unfold q_12_2 at h
    unfold l_12_2
    refine (e_12_2 _ _ _ _ _ _ _ _).trans ?_
    refine am_fkIv (fun hc90 => ?_) (fun hc90 => ?_)
    · refine (if_neg ((h hc90).1)).trans ?_
      refine (if_neg ((h hc90).2.1)).trans ?_
      refine (if_neg ((h hc90).2.2.1)).trans ?_
      refine (if_neg ((h hc90).2.2.2.1)).trans ?_
      refine (e_12_25 _ _ _ _ _ _ _ _ _).trans ?_
      refine Eq.trans (b := am_r L 12 99 [some (.inr (.inr (20, none))), some (.inl x1), some (.inl x2), some (.inl x3), some (.inl (σ.1 (29 + x3.toNatClampNeg) x1.toNatClampNeg)), some (.inl (σ.1 (33 + x3.toNatClampNeg) x1.toNatClampNeg)), o6] [.inl (if (σ.1 (29 + x3.toNatClampNeg) x1.toNatClampNeg) = (σ.1 (33 + x3.toNatClampNeg) x1.toNatClampNeg) then ((if (σ.1 (29 + x3.toNatClampNeg) x1.toNatClampNeg) < (σ.1 (29 + x3.toNatClampNeg) x2.toNatClampNeg) then (0 : Int32) else (if (σ.1 (33 + x3.toNatClampNeg) x2.toNatClampNeg) < (σ.1 (29 + x3.toNatClampNeg) x1.toNatClampNeg) then (0 : Int32) else 1)) : Int32) else (if (σ.1 (29 + x3.toNatClampNeg) x2.toNatClampNeg) < (σ.1 (33 + x3.toNatClampNeg) x1.toNatClampNeg) then ((if (σ.1 (29 + x3.toNatClampNeg) x1.toNatClampNeg) < (σ.1 (33 + x3.toNatClampNeg) x2.toNatClampNeg) then (1 : Int32) else 0) : Int32) else 0))] σ) ?_ ?_
      · by_cases hc91 : (σ.1 (29 + x3.toNatClampNeg) x1.toNatClampNeg) = (σ.1 (33 + x3.toNatClampNeg) x1.toNatClampNeg)
        · refine (if_pos hc91).trans ?_
          refine Eq.trans (b := am_r L 12 99 [some (.inr (.inr (20, none))), some (.inl x1), some (.inl x2), some (.inl x3), some (.inl (σ.1 (29 + x3.toNatClampNeg) x1.toNatClampNeg)), some (.inl (σ.1 (33 + x3.toNatClampNeg) x1.toNatClampNeg)), o6] [.inl (if (σ.1 (29 + x3.toNatClampNeg) x1.toNatClampNeg) < (σ.1 (29 + x3.toNatClampNeg) x2.toNatClampNeg) then (0 : Int32) else (if (σ.1 (33 + x3.toNatClampNeg) x2.toNatClampNeg) < (σ.1 (29 + x3.toNatClampNeg) x1.toNatClampNeg) then (0 : Int32) else 1))] σ) ?_ ?_
          · refine (if_neg (((h hc90).2.2.2.2.1.1 hc91).1)).trans ?_
            refine (if_neg (((h hc90).2.2.2.2.1.1 hc91).2.1)).trans ?_
            refine Eq.trans (b := am_r L 12 99 [some (.inr (.inr (20, none))), some (.inl x1), some (.inl x2), some (.inl x3), some (.inl (σ.1 (29 + x3.toNatClampNeg) x1.toNatClampNeg)), some (.inl (σ.1 (33 + x3.toNatClampNeg) x1.toNatClampNeg)), o6] [.inl (if (σ.1 (29 + x3.toNatClampNeg) x1.toNatClampNeg) < (σ.1 (29 + x3.toNatClampNeg) x2.toNatClampNeg) then (0 : Int32) else (if (σ.1 (33 + x3.toNatClampNeg) x2.toNatClampNeg) < (σ.1 (29 + x3.toNatClampNeg) x1.toNatClampNeg) then (0 : Int32) else 1))] σ) ?_ ?_
            · by_cases hc92 : (σ.1 (29 + x3.toNatClampNeg) x1.toNatClampNeg) < (σ.1 (29 + x3.toNatClampNeg) x2.toNatClampNeg)
              · refine (if_pos hc92).trans ?_
                refine Eq.trans (b := am_r L 12 99 [some (.inr (.inr (20, none))), some (.inl x1), some (.inl x2), some (.inl x3), some (.inl (σ.1 (29 + x3.toNatClampNeg) x1.toNatClampNeg)), some (.inl (σ.1 (33 + x3.toNatClampNeg) x1.toNatClampNeg)), o6] [.inl 0] σ) ?_ ?_
                · refine (e_12_64 _ _ _ _ _ _ _ _).trans ?_
                  rfl
                · first | with_reducible rfl | simp only [if_pos hc92]
              · refine (if_neg hc92).trans ?_
                refine Eq.trans (b := am_r L 12 99 [some (.inr (.inr (20, none))), some (.inl x1), some (.inl x2), some (.inl x3), some (.inl (σ.1 (29 + x3.toNatClampNeg) x1.toNatClampNeg)), some (.inl (σ.1 (33 + x3.toNatClampNeg) x1.toNatClampNeg)), o6] [.inl (if (σ.1 (33 + x3.toNatClampNeg) x2.toNatClampNeg) < (σ.1 (29 + x3.toNatClampNeg) x1.toNatClampNeg) then (0 : Int32) else 1)] σ) ?_ ?_
                · refine (if_neg ((((h hc90).2.2.2.2.1.1 hc91).2.2 hc92).1)).trans ?_
                  refine (e_12_56 _ _ _ _ _ _ _ _ _ _ _).trans ?_
                  refine (if_neg ((((h hc90).2.2.2.2.1.1 hc91).2.2 hc92).2)).trans ?_
                  refine Eq.trans (b := am_r L 12 99 [some (.inr (.inr (20, none))), some (.inl x1), some (.inl x2), some (.inl x3), some (.inl (σ.1 (29 + x3.toNatClampNeg) x1.toNatClampNeg)), some (.inl (σ.1 (33 + x3.toNatClampNeg) x1.toNatClampNeg)), o6] [.inl (if (σ.1 (33 + x3.toNatClampNeg) x2.toNatClampNeg) < (σ.1 (29 + x3.toNatClampNeg) x1.toNatClampNeg) then (0 : Int32) else 1)] σ) ?_ ?_
                  · by_cases hc93 : (σ.1 (33 + x3.toNatClampNeg) x2.toNatClampNeg) < (σ.1 (29 + x3.toNatClampNeg) x1.toNatClampNeg)
                    · refine (if_pos hc93).trans ?_
                      refine Eq.trans (b := am_r L 12 99 [some (.inr (.inr (20, none))), some (.inl x1), some (.inl x2), some (.inl x3), some (.inl (σ.1 (29 + x3.toNatClampNeg) x1.toNatClampNeg)), some (.inl (σ.1 (33 + x3.toNatClampNeg) x1.toNatClampNeg)), o6] [.inl 0] σ) ?_ ?_
                      · refine (e_12_64 _ _ _ _ _ _ _ _).trans ?_
                        rfl
                      · first | with_reducible rfl | simp only [if_pos hc93]
                    · refine (if_neg hc93).trans ?_
                      refine Eq.trans (b := am_r L 12 99 [some (.inr (.inr (20, none))), some (.inl x1), some (.inl x2), some (.inl x3), some (.inl (σ.1 (29 + x3.toNatClampNeg) x1.toNatClampNeg)), some (.inl (σ.1 (33 + x3.toNatClampNeg) x1.toNatClampNeg)), o6] [.inl 1] σ) ?_ ?_
                      · rfl
                      · first | with_reducible rfl | simp only [if_neg hc93]
                  rfl
                · first | with_reducible rfl | simp only [if_neg hc92]
            rfl
          · first | with_reducible rfl | simp only [if_pos hc91]
        · refine (if_neg hc91).trans ?_
          refine Eq.trans (b := am_r L 12 99 [some (.inr (.inr (20, none))), some (.inl x1), some (.inl x2), some (.inl x3), some (.inl (σ.1 (29 + x3.toNatClampNeg) x1.toNatClampNeg)), some (.inl (σ.1 (33 + x3.toNatClampNeg) x1.toNatClampNeg)), o6] [.inl (if (σ.1 (29 + x3.toNatClampNeg) x2.toNatClampNeg) < (σ.1 (33 + x3.toNatClampNeg) x1.toNatClampNeg) then ((if (σ.1 (29 + x3.toNatClampNeg) x1.toNatClampNeg) < (σ.1 (33 + x3.toNatClampNeg) x2.toNatClampNeg) then (1 : Int32) else 0) : Int32) else 0)] σ) ?_ ?_
          · refine (e_12_68 _ _ _ _ _ _ _ _).trans ?_
            refine (if_neg (((h hc90).2.2.2.2.1.2 hc91).1)).trans ?_
            refine (if_neg (((h hc90).2.2.2.2.1.2 hc91).2.1)).trans ?_
            refine Eq.trans (b := am_r L 12 99 [some (.inr (.inr (20, none))), some (.inl x1), some (.inl x2), some (.inl x3), some (.inl (σ.1 (29 + x3.toNatClampNeg) x1.toNatClampNeg)), some (.inl (σ.1 (33 + x3.toNatClampNeg) x1.toNatClampNeg)), o6] [.inl (if (σ.1 (29 + x3.toNatClampNeg) x2.toNatClampNeg) < (σ.1 (33 + x3.toNatClampNeg) x1.toNatClampNeg) then ((if (σ.1 (29 + x3.toNatClampNeg) x1.toNatClampNeg) < (σ.1 (33 + x3.toNatClampNeg) x2.toNatClampNeg) then (1 : Int32) else 0) : Int32) else 0)] σ) ?_ ?_
            · by_cases hc94 : (σ.1 (29 + x3.toNatClampNeg) x2.toNatClampNeg) < (σ.1 (33 + x3.toNatClampNeg) x1.toNatClampNeg)
              · refine (if_pos hc94).trans ?_
                refine Eq.trans (b := am_r L 12 99 [some (.inr (.inr (20, none))), some (.inl x1), some (.inl x2), some (.inl x3), some (.inl (σ.1 (29 + x3.toNatClampNeg) x1.toNatClampNeg)), some (.inl (σ.1 (33 + x3.toNatClampNeg) x1.toNatClampNeg)), o6] [.inl (if (σ.1 (29 + x3.toNatClampNeg) x1.toNatClampNeg) < (σ.1 (33 + x3.toNatClampNeg) x2.toNatClampNeg) then (1 : Int32) else 0)] σ) ?_ ?_
                · refine (if_neg ((((h hc90).2.2.2.2.1.2 hc91).2.2 hc94).1)).trans ?_
                  refine (if_neg ((((h hc90).2.2.2.2.1.2 hc91).2.2 hc94).2)).trans ?_
                  refine (e_12_91 _ _ _ _ _ _ _ _ _ _).trans ?_
                  refine Eq.trans (b := am_r L 12 99 [some (.inr (.inr (20, none))), some (.inl x1), some (.inl x2), some (.inl x3), some (.inl (σ.1 (29 + x3.toNatClampNeg) x1.toNatClampNeg)), some (.inl (σ.1 (33 + x3.toNatClampNeg) x1.toNatClampNeg)), o6] [.inl (if (σ.1 (29 + x3.toNatClampNeg) x1.toNatClampNeg) < (σ.1 (33 + x3.toNatClampNeg) x2.toNatClampNeg) then (1 : Int32) else 0)] σ) ?_ ?_
                  · by_cases hc95 : (σ.1 (29 + x3.toNatClampNeg) x1.toNatClampNeg) < (σ.1 (33 + x3.toNatClampNeg) x2.toNatClampNeg)
                    · refine (if_pos hc95).trans ?_
                      refine Eq.trans (b := am_r L 12 99 [some (.inr (.inr (20, none))), some (.inl x1), some (.inl x2), some (.inl x3), some (.inl (σ.1 (29 + x3.toNatClampNeg) x1.toNatClampNeg)), some (.inl (σ.1 (33 + x3.toNatClampNeg) x1.toNatClampNeg)), o6] [.inl 1] σ) ?_ ?_
                      · rfl
                      · first | with_reducible rfl | simp only [if_pos hc95]
                    · refine (if_neg hc95).trans ?_
                      refine Eq.trans (b := am_r L 12 99 [some (.inr (.inr (20, none))), some (.inl x1), some (.inl x2), some (.inl x3), some (.inl (σ.1 (29 + x3.toNatClampNeg) x1.toNatClampNeg)), some (.inl (σ.1 (33 + x3.toNatClampNeg) x1.toNatClampNeg)), o6] [.inl 0] σ) ?_ ?_
                      · refine (e_12_98 _ _ _ _ _ _ _ _).trans ?_
                        rfl
                      · first | with_reducible rfl | simp only [if_neg hc95]
                  rfl
                · first | with_reducible rfl | simp only [if_pos hc94]
              · refine (if_neg hc94).trans ?_
                refine Eq.trans (b := am_r L 12 99 [some (.inr (.inr (20, none))), some (.inl x1), some (.inl x2), some (.inl x3), some (.inl (σ.1 (29 + x3.toNatClampNeg) x1.toNatClampNeg)), some (.inl (σ.1 (33 + x3.toNatClampNeg) x1.toNatClampNeg)), o6] [.inl 0] σ) ?_ ?_
                · refine (e_12_98 _ _ _ _ _ _ _ _).trans ?_
                  rfl
                · first | with_reducible rfl | simp only [if_neg hc94]
            rfl
          · first | with_reducible rfl | simp only [if_neg hc91]
      refine (e_12_99 _ _ _ _ _ _ _ _ _).trans ?_
      refine am_fkIv (fun hc96 => ?_) (fun hc96 => ?_)
      · refine (e_12_107 _ _ _ _ _ _ _ _ _).trans ?_
        rfl
      · refine (e_12_108 _ _ _ _ _ _ _ _).trans ?_
        exact ih x1 x2 (x3 + 1) (some (.inl (σ.1 (29 + x3.toNatClampNeg) x1.toNatClampNeg))) (some (.inl (σ.1 (33 + x3.toNatClampNeg) x1.toNatClampNeg))) (some (.inl (if (σ.1 (29 + x3.toNatClampNeg) x1.toNatClampNeg) = (σ.1 (33 + x3.toNatClampNeg) x1.toNatClampNeg) then ((if (σ.1 (29 + x3.toNatClampNeg) x1.toNatClampNeg) < (σ.1 (29 + x3.toNatClampNeg) x2.toNatClampNeg) then (0 : Int32) else (if (σ.1 (33 + x3.toNatClampNeg) x2.toNatClampNeg) < (σ.1 (29 + x3.toNatClampNeg) x1.toNatClampNeg) then (0 : Int32) else 1)) : Int32) else (if (σ.1 (29 + x3.toNatClampNeg) x2.toNatClampNeg) < (σ.1 (33 + x3.toNatClampNeg) x1.toNatClampNeg) then ((if (σ.1 (29 + x3.toNatClampNeg) x1.toNatClampNeg) < (σ.1 (33 + x3.toNatClampNeg) x2.toNatClampNeg) then (1 : Int32) else 0) : Int32) else 0)))) (((h hc90).2.2.2.2.2 hc96))
    · refine (e_12_114 _ _ _ _ _ _ _ _).trans ?_
      refine (e_12_115 _ _ _ _ _ _ _ _ _).trans ?_
      rfl
def p_12 (σ : am_M) (x1 : Int32) (x2 : Int32) : Prop := q_12_2 14 σ x1 x2 0
def f_12 (σ : am_M) (x1 : Int32) (x2 : Int32) : Int32 := (l_12_2 14 σ x1 x2 0)
set_option maxRecDepth 20000 in
theorem sf_12 (L : Nat) (σ : am_M) (x1 : Int32) (x2 : Int32) (h : p_12 σ x1 x2) : am_r L 12 0 [some (.inr (.inr (20, none))), some (.inl x1), some (.inl x2), none, none, none, none] [] σ = some (some (.inl (f_12 σ x1 x2)), am_sh0 L, σ) := by
  unfold p_12 at h
  unfold f_12
  refine (e_12_0 _ _ _ _).trans ?_
  exact t_12_2 L σ 14 x1 x2 0 none none none h
def v_12 (σ : am_M) (x1 : Int32) (x2 : Int32) : Int32 := f_12 σ x1 x2
theorem s_12 (L : Nat) (σ : am_M) (x1 : Int32) (x2 : Int32) (h : p_12 σ x1 x2) : am_r L 12 0 [some (.inr (.inr (20, none))), some (.inl x1), some (.inl x2), none, none, none, none] [] σ = some (some (.inl (v_12 σ x1 x2)), am_sh0 L, σ) := sf_12 L σ x1 x2 h
-- 59: X4_meets
def l_59_55 (k39 : am_M → Int32 → Int32 → Int32 → Int32 × am_M) : Nat → am_M → Int32 → Int32 → Int32 → Int32 → Int32 × am_M
  | 0, σ, x1, x2, x3, x4 => (0, σ)
  | n + 1, σ, x1, x2, x3, x4 => (if x4 < (σ.1 2 0) then (l_59_55 k39 n σ x1 (if (σ.1 3 x4.toNatClampNeg) = x3 then (x2 : Int32) else (if (v_12 σ x3 x4) = 0 then ((if (v_12 σ x4 x3) = 0 then (x2 : Int32) else (x2 + 1)) : Int32) else (x2 + 1))) x3 (x4 + 1)) else (k39 σ x1 x2 (x3 + 1)))
def q_59_55 (c39 : am_M → Int32 → Int32 → Int32 → Prop) : Nat → am_M → Int32 → Int32 → Int32 → Int32 → Prop
  | 0, _, _, _, _, _ => False
  | n + 1, σ, x1, x2, x3, x4 => ((x4 < (σ.1 2 0)) → ((¬ (x4 < 0 ∨ 13 ≤ x4.toNatClampNeg)) ∧ ((¬ ((σ.1 3 x4.toNatClampNeg) = x3) → ((p_12 σ x3 x4) ∧ (((v_12 σ x3 x4) = 0) → (p_12 σ x4 x3)))) ∧ (q_59_55 c39 n σ x1 (if (σ.1 3 x4.toNatClampNeg) = x3 then (x2 : Int32) else (if (v_12 σ x3 x4) = 0 then ((if (v_12 σ x4 x3) = 0 then (x2 : Int32) else (x2 + 1)) : Int32) else (x2 + 1))) x3 (x4 + 1))))) ∧ (¬ (x4 < (σ.1 2 0)) → (c39 σ x1 x2 (x3 + 1)))
set_option maxRecDepth 20000 in
theorem t_59_55 (L : Nat) (k39 : am_M → Int32 → Int32 → Int32 → Int32 × am_M) (c39 : am_M → Int32 → Int32 → Int32 → Prop) (hk39 : ∀ (σ : am_M) (x1 : Int32) (x2 : Int32) (x3 : Int32) (o4 : Option am_V), c39 σ x1 x2 x3 → am_r L 59 39 [some (.inr (.inr (1, none))), some (.inl x1), some (.inl x2), some (.inl x3), o4] [] σ = some (some (.inl (k39 σ x1 x2 x3).1), am_sh0 L, (k39 σ x1 x2 x3).2)) : ∀ (n : Nat) (σ : am_M) (x1 : Int32) (x2 : Int32) (x3 : Int32) (x4 : Int32), q_59_55 c39 n σ x1 x2 x3 x4 → am_r L 59 55 [some (.inr (.inr (1, none))), some (.inl x1), some (.inl x2), some (.inl x3), some (.inl x4)] [] σ = some (some (.inl (l_59_55 k39 n σ x1 x2 x3 x4).1), am_sh0 L, (l_59_55 k39 n σ x1 x2 x3 x4).2) := by
  intro n
  induction n with
  | zero => intro σ x1 x2 x3 x4 h; exact h.elim
  | succ n ih =>
    intro σ x1 x2 x3 x4 h
    unfold q_59_55 at h
    unfold l_59_55
    refine (e_59_55 _ _ _ _ _ _).trans ?_
    refine am_fkPI (fun hc97 => ?_) (fun hc97 => ?_)
    · refine (if_neg ((h.1 hc97).1)).trans ?_
      refine Eq.trans (b := am_r L 59 110 [some (.inr (.inr (1, none))), some (.inl x1), some (.inl (if (σ.1 3 x4.toNatClampNeg) = x3 then (x2 : Int32) else (if (v_12 σ x3 x4) = 0 then ((if (v_12 σ x4 x3) = 0 then (x2 : Int32) else (x2 + 1)) : Int32) else (x2 + 1)))), some (.inl x3), some (.inl x4)] [] σ) ?_ ?_
      · by_cases hc98 : (σ.1 3 x4.toNatClampNeg) = x3
        · refine (if_pos hc98).trans ?_
          refine Eq.trans (b := am_r L 59 110 [some (.inr (.inr (1, none))), some (.inl x1), some (.inl x2), some (.inl x3), some (.inl x4)] [] σ) ?_ ?_
          · rfl
          · first | with_reducible rfl | simp only [if_pos hc98]
        · refine (if_neg hc98).trans ?_
          refine Eq.trans (b := am_r L 59 110 [some (.inr (.inr (1, none))), some (.inl x1), some (.inl (if (v_12 σ x3 x4) = 0 then ((if (v_12 σ x4 x3) = 0 then (x2 : Int32) else (x2 + 1)) : Int32) else (x2 + 1))), some (.inl x3), some (.inl x4)] [] σ) ?_ ?_
          · refine (am_bind_i (s_12 L σ x3 x4 (((h.1 hc97).2.1 hc98).1))).trans ?_
            refine (e_59_91 _ _ _ _ _ _ _).trans ?_
            refine Eq.trans (b := am_r L 59 110 [some (.inr (.inr (1, none))), some (.inl x1), some (.inl (if (v_12 σ x3 x4) = 0 then ((if (v_12 σ x4 x3) = 0 then (x2 : Int32) else (x2 + 1)) : Int32) else (x2 + 1))), some (.inl x3), some (.inl x4)] [] σ) ?_ ?_
            · by_cases hc99 : (v_12 σ x3 x4) = 0
              · refine (if_pos hc99).trans ?_
                refine Eq.trans (b := am_r L 59 110 [some (.inr (.inr (1, none))), some (.inl x1), some (.inl (if (v_12 σ x4 x3) = 0 then (x2 : Int32) else (x2 + 1))), some (.inl x3), some (.inl x4)] [] σ) ?_ ?_
                · refine (am_bind_i (s_12 L σ x4 x3 ((((h.1 hc97).2.1 hc98).2 hc99)))).trans ?_
                  refine (e_59_104 _ _ _ _ _ _ _).trans ?_
                  refine Eq.trans (b := am_r L 59 110 [some (.inr (.inr (1, none))), some (.inl x1), some (.inl (if (v_12 σ x4 x3) = 0 then (x2 : Int32) else (x2 + 1))), some (.inl x3), some (.inl x4)] [] σ) ?_ ?_
                  · by_cases hc100 : (v_12 σ x4 x3) = 0
                    · refine (if_pos hc100).trans ?_
                      refine Eq.trans (b := am_r L 59 110 [some (.inr (.inr (1, none))), some (.inl x1), some (.inl x2), some (.inl x3), some (.inl x4)] [] σ) ?_ ?_
                      · rfl
                      · first | with_reducible rfl | simp only [if_pos hc100]
                    · refine (if_neg hc100).trans ?_
                      refine Eq.trans (b := am_r L 59 110 [some (.inr (.inr (1, none))), some (.inl x1), some (.inl (x2 + 1)), some (.inl x3), some (.inl x4)] [] σ) ?_ ?_
                      · refine (e_59_107 _ _ _ _ _ _).trans ?_
                        rfl
                      · first | with_reducible rfl | simp only [if_neg hc100]
                  rfl
                · first | with_reducible rfl | simp only [if_pos hc99]
              · refine (if_neg hc99).trans ?_
                refine Eq.trans (b := am_r L 59 110 [some (.inr (.inr (1, none))), some (.inl x1), some (.inl (x2 + 1)), some (.inl x3), some (.inl x4)] [] σ) ?_ ?_
                · refine (e_59_107 _ _ _ _ _ _).trans ?_
                  rfl
                · first | with_reducible rfl | simp only [if_neg hc99]
            rfl
          · first | with_reducible rfl | simp only [if_neg hc98]
      refine (e_59_110 _ _ _ _ _ _).trans ?_
      exact ih σ x1 (if (σ.1 3 x4.toNatClampNeg) = x3 then (x2 : Int32) else (if (v_12 σ x3 x4) = 0 then ((if (v_12 σ x4 x3) = 0 then (x2 : Int32) else (x2 + 1)) : Int32) else (x2 + 1))) x3 (x4 + 1) ((h.1 hc97).2.2)
    · refine (e_59_116 _ _ _ _ _ _).trans ?_
      exact hk39 σ x1 x2 (x3 + 1) (some (.inl x4)) ((h.2 hc97))
def l_59_39 : Nat → am_M → Int32 → Int32 → Int32 → Int32 × am_M
  | 0, σ, x1, x2, x3 => (0, σ)
  | n + 1, σ, x1, x2, x3 => (if x3 < (σ.1 2 0) then (l_59_55 (l_59_39 n) 14 σ x1 x2 x3 (x3 + 1)) else (x2, σ))
def q_59_39 : Nat → am_M → Int32 → Int32 → Int32 → Prop
  | 0, _, _, _, _ => False
  | n + 1, σ, x1, x2, x3 => (x3 < (σ.1 2 0)) → (q_59_55 (q_59_39 n) 14 σ x1 x2 x3 (x3 + 1))
set_option maxRecDepth 20000 in
theorem t_59_39 (L : Nat) : ∀ (n : Nat) (σ : am_M) (x1 : Int32) (x2 : Int32) (x3 : Int32) (o4 : Option am_V), q_59_39 n σ x1 x2 x3 → am_r L 59 39 [some (.inr (.inr (1, none))), some (.inl x1), some (.inl x2), some (.inl x3), o4] [] σ = some (some (.inl (l_59_39 n σ x1 x2 x3).1), am_sh0 L, (l_59_39 n σ x1 x2 x3).2) := by
  intro n
  induction n with
  | zero => intro σ x1 x2 x3 o4 h; exact h.elim
  | succ n ih =>
    intro σ x1 x2 x3 o4 h
    unfold q_59_39 at h
    unfold l_59_39
    refine (e_59_39 _ _ _ _ _ _).trans ?_
    refine am_fkPI (fun hc101 => ?_) (fun hc101 => ?_)
    · exact t_59_55 L (l_59_39 n) (q_59_39 n) ih 14 σ x1 x2 x3 (x3 + 1) ((h hc101))
    · refine (e_59_122 _ _ _ _ _ _).trans ?_
      rfl
def p_59 (σ : am_M) (x1 : Int32) : Prop := ¬ ((σ.1 2 0) = 0) → (¬ ((v_29 σ x1) = 0) → ((p_1 σ x1) ∧ (q_59_39 14 (w_1 σ x1) x1 0 0)))
def f_59 (σ : am_M) (x1 : Int32) : Int32 × am_M := (if (σ.1 2 0) = 0 then ((-1), σ) else (if (v_29 σ x1) = 0 then ((-1), σ) else (l_59_39 14 (w_1 σ x1) x1 0 0)))
set_option maxRecDepth 20000 in
theorem sf_59 (L : Nat) (σ : am_M) (x1 : Int32) (h : p_59 σ x1) : am_r L 59 0 [some (.inr (.inr (1, none))), some (.inl x1), none, none, none] [] σ = some (some (.inl (f_59 σ x1).1), am_sh0 L, (f_59 σ x1).2) := by
  unfold p_59 at h
  unfold f_59
  refine (e_59_0 _ _ _).trans ?_
  refine am_fkPI (fun hc102 => ?_) (fun hc102 => ?_)
  · refine (e_59_21 _ _ _).trans ?_
    rfl
  · refine (am_bind_i (s_29 L σ x1)).trans ?_
    refine (e_59_18 _ _ _ _).trans ?_
    refine am_fkPI (fun hc103 => ?_) (fun hc103 => ?_)
    · refine (e_59_21 _ _ _).trans ?_
      rfl
    · refine (e_59_23 _ _ _).trans ?_
      refine (am_bind_v (s_1 L σ x1 (((h hc102) hc103).1))).trans ?_
      refine (e_59_35 _ _ _).trans ?_
      exact t_59_39 L 14 (w_1 σ x1) x1 0 0 none (((h hc102) hc103).2)
def v_59 (σ : am_M) (x1 : Int32) : Int32 := (f_59 σ x1).1
def w_59 (σ : am_M) (x1 : Int32) : am_M := (f_59 σ x1).2
theorem s_59 (L : Nat) (σ : am_M) (x1 : Int32) (h : p_59 σ x1) : am_r L 59 0 [some (.inr (.inr (1, none))), some (.inl x1), none, none, none] [] σ = some (some (.inl (v_59 σ x1)), am_sh0 L, w_59 σ x1) := sf_59 L σ x1 h
-- 27: X2_hasBend
def v_27 (σ : am_M) (x1 : Int32) : Int32 := (if x1 < 1 then (0 : Int32) else (if x1 < (σ.1 2 0) then (1 : Int32) else 0))
set_option maxRecDepth 20000 in
theorem s_27 (L : Nat) (σ : am_M) (x1 : Int32) : am_r L 27 0 [some (.inr (.inr (2, none))), some (.inl x1)] [] σ = some (some (.inl (v_27 σ x1)), am_sh0 L, σ) := by
  unfold v_27
  refine (e_27_0 _ _ _).trans ?_
  refine Eq.trans (b := am_r L 27 18 [some (.inr (.inr (2, none))), some (.inl x1)] [.inl (if x1 < 1 then (0 : Int32) else (if x1 < (σ.1 2 0) then (1 : Int32) else 0))] σ) ?_ ?_
  · by_cases hc104 : x1 < 1
    · refine (if_pos hc104).trans ?_
      refine Eq.trans (b := am_r L 27 18 [some (.inr (.inr (2, none))), some (.inl x1)] [.inl 0] σ) ?_ ?_
      · refine (e_27_17 _ _ _).trans ?_
        rfl
      · first | with_reducible rfl | simp only [if_pos hc104]
    · refine (if_neg hc104).trans ?_
      refine Eq.trans (b := am_r L 27 18 [some (.inr (.inr (2, none))), some (.inl x1)] [.inl (if x1 < (σ.1 2 0) then (1 : Int32) else 0)] σ) ?_ ?_
      · refine Eq.trans (b := am_r L 27 18 [some (.inr (.inr (2, none))), some (.inl x1)] [.inl (if x1 < (σ.1 2 0) then (1 : Int32) else 0)] σ) ?_ ?_
        · by_cases hc105 : x1 < (σ.1 2 0)
          · refine (if_pos hc105).trans ?_
            refine Eq.trans (b := am_r L 27 18 [some (.inr (.inr (2, none))), some (.inl x1)] [.inl 1] σ) ?_ ?_
            · rfl
            · first | with_reducible rfl | simp only [if_pos hc105]
          · refine (if_neg hc105).trans ?_
            refine Eq.trans (b := am_r L 27 18 [some (.inr (.inr (2, none))), some (.inl x1)] [.inl 0] σ) ?_ ?_
            · refine (e_27_17 _ _ _).trans ?_
              rfl
            · first | with_reducible rfl | simp only [if_neg hc105]
        rfl
      · first | with_reducible rfl | simp only [if_neg hc104]
  refine (e_27_18 _ _ _ _).trans ?_
  refine (if_pos (am_01 (Or.inl rfl) (am_01 (Or.inr rfl) (Or.inl rfl)))).trans ?_
  rfl
theorem b_27 (σ : am_M) (x1 : Int32) : v_27 σ x1 = 0 ∨ v_27 σ x1 = 1 := (am_01 (Or.inl rfl) (am_01 (Or.inr rfl) (Or.inl rfl)))
-- 39: X2_branchOf
def l_39_8 : Nat → am_M → Int32 → Int32 → Int32 → Int32
  | 0, _, _, _, _ => 0
  | n + 1, σ, x1, x2, x3 => (if x3 < (σ.1 2 0) then (l_39_8 n σ x1 (if ((x2 >>> ((σ.1 3 x3.toNatClampNeg) &&& (31 : Int32))) &&& (1 : Int32)) = 1 then ((x2 ||| ((1 : Int32) <<< (x3 &&& (31 : Int32)))) : Int32) else x2) (x3 + 1)) else x2)
def q_39_8 : Nat → am_M → Int32 → Int32 → Int32 → Prop
  | 0, _, _, _, _ => False
  | n + 1, σ, x1, x2, x3 => (x3 < (σ.1 2 0)) → ((¬ (x3 < 0 ∨ 13 ≤ x3.toNatClampNeg)) ∧ (q_39_8 n σ x1 (if ((x2 >>> ((σ.1 3 x3.toNatClampNeg) &&& (31 : Int32))) &&& (1 : Int32)) = 1 then ((x2 ||| ((1 : Int32) <<< (x3 &&& (31 : Int32)))) : Int32) else x2) (x3 + 1)))
set_option maxRecDepth 20000 in
theorem t_39_8 (L : Nat) (σ : am_M) : ∀ (n : Nat) (x1 : Int32) (x2 : Int32) (x3 : Int32), q_39_8 n σ x1 x2 x3 → am_r L 39 8 [some (.inr (.inr (2, none))), some (.inl x1), some (.inl x2), some (.inl x3)] [] σ = some (some (.inl (l_39_8 n σ x1 x2 x3)), am_sh0 L, σ) := by
  intro n
  induction n with
  | zero => intro x1 x2 x3 h; exact h.elim
  | succ n ih =>
    intro x1 x2 x3 h
    unfold q_39_8 at h
    unfold l_39_8
    refine (e_39_8 _ _ _ _ _).trans ?_
    refine am_fkIv (fun hc106 => ?_) (fun hc106 => ?_)
    · refine (if_neg ((h hc106).1)).trans ?_
      refine Eq.trans (b := am_r L 39 36 [some (.inr (.inr (2, none))), some (.inl x1), some (.inl (if ((x2 >>> ((σ.1 3 x3.toNatClampNeg) &&& (31 : Int32))) &&& (1 : Int32)) = 1 then ((x2 ||| ((1 : Int32) <<< (x3 &&& (31 : Int32)))) : Int32) else x2)), some (.inl x3)] [] σ) ?_ ?_
      · by_cases hc107 : ((x2 >>> ((σ.1 3 x3.toNatClampNeg) &&& (31 : Int32))) &&& (1 : Int32)) = 1
        · refine (if_pos hc107).trans ?_
          refine Eq.trans (b := am_r L 39 36 [some (.inr (.inr (2, none))), some (.inl x1), some (.inl (x2 ||| ((1 : Int32) <<< (x3 &&& (31 : Int32))))), some (.inl x3)] [] σ) ?_ ?_
          · rfl
          · first | with_reducible rfl | simp only [if_pos hc107]
        · refine (if_neg hc107).trans ?_
          refine Eq.trans (b := am_r L 39 36 [some (.inr (.inr (2, none))), some (.inl x1), some (.inl x2), some (.inl x3)] [] σ) ?_ ?_
          · rfl
          · first | with_reducible rfl | simp only [if_neg hc107]
      refine (e_39_36 _ _ _ _ _).trans ?_
      exact ih x1 (if ((x2 >>> ((σ.1 3 x3.toNatClampNeg) &&& (31 : Int32))) &&& (1 : Int32)) = 1 then ((x2 ||| ((1 : Int32) <<< (x3 &&& (31 : Int32)))) : Int32) else x2) (x3 + 1) ((h hc106).2)
    · refine (e_39_42 _ _ _ _ _).trans ?_
      rfl
def p_39 (σ : am_M) (x1 : Int32) : Prop := q_39_8 14 σ x1 ((1 : Int32) <<< (x1 &&& (31 : Int32))) (x1 + 1)
def f_39 (σ : am_M) (x1 : Int32) : Int32 := (l_39_8 14 σ x1 ((1 : Int32) <<< (x1 &&& (31 : Int32))) (x1 + 1))
set_option maxRecDepth 20000 in
theorem sf_39 (L : Nat) (σ : am_M) (x1 : Int32) (h : p_39 σ x1) : am_r L 39 0 [some (.inr (.inr (2, none))), some (.inl x1), none, none] [] σ = some (some (.inl (f_39 σ x1)), am_sh0 L, σ) := by
  unfold p_39 at h
  unfold f_39
  refine (e_39_0 _ _ _).trans ?_
  exact t_39_8 L σ 14 x1 ((1 : Int32) <<< (x1 &&& (31 : Int32))) (x1 + 1) h
def v_39 (σ : am_M) (x1 : Int32) : Int32 := f_39 σ x1
theorem s_39 (L : Nat) (σ : am_M) (x1 : Int32) (h : p_39 σ x1) : am_r L 39 0 [some (.inr (.inr (2, none))), some (.inl x1), none, none] [] σ = some (some (.inl (v_39 σ x1)), am_sh0 L, σ) := sf_39 L σ x1 h
-- 119: J6_bitCount_0f7a4
def v_119 (σ : am_M) (x0 : Int32) : Int32 := ((((((((x0 - ((Int32.toUInt32 x0 >>> (Int32.toUInt32 1 &&& Int32.toUInt32 31)).toInt32 &&& (1431655765 : Int32))) &&& (858993459 : Int32)) + ((Int32.toUInt32 (x0 - ((Int32.toUInt32 x0 >>> (Int32.toUInt32 1 &&& Int32.toUInt32 31)).toInt32 &&& (1431655765 : Int32))) >>> (Int32.toUInt32 2 &&& Int32.toUInt32 31)).toInt32 &&& (858993459 : Int32))) + (Int32.toUInt32 (((x0 - ((Int32.toUInt32 x0 >>> (Int32.toUInt32 1 &&& Int32.toUInt32 31)).toInt32 &&& (1431655765 : Int32))) &&& (858993459 : Int32)) + ((Int32.toUInt32 (x0 - ((Int32.toUInt32 x0 >>> (Int32.toUInt32 1 &&& Int32.toUInt32 31)).toInt32 &&& (1431655765 : Int32))) >>> (Int32.toUInt32 2 &&& Int32.toUInt32 31)).toInt32 &&& (858993459 : Int32))) >>> (Int32.toUInt32 4 &&& Int32.toUInt32 31)).toInt32) &&& (252645135 : Int32)) + (Int32.toUInt32 (((((x0 - ((Int32.toUInt32 x0 >>> (Int32.toUInt32 1 &&& Int32.toUInt32 31)).toInt32 &&& (1431655765 : Int32))) &&& (858993459 : Int32)) + ((Int32.toUInt32 (x0 - ((Int32.toUInt32 x0 >>> (Int32.toUInt32 1 &&& Int32.toUInt32 31)).toInt32 &&& (1431655765 : Int32))) >>> (Int32.toUInt32 2 &&& Int32.toUInt32 31)).toInt32 &&& (858993459 : Int32))) + (Int32.toUInt32 (((x0 - ((Int32.toUInt32 x0 >>> (Int32.toUInt32 1 &&& Int32.toUInt32 31)).toInt32 &&& (1431655765 : Int32))) &&& (858993459 : Int32)) + ((Int32.toUInt32 (x0 - ((Int32.toUInt32 x0 >>> (Int32.toUInt32 1 &&& Int32.toUInt32 31)).toInt32 &&& (1431655765 : Int32))) >>> (Int32.toUInt32 2 &&& Int32.toUInt32 31)).toInt32 &&& (858993459 : Int32))) >>> (Int32.toUInt32 4 &&& Int32.toUInt32 31)).toInt32) &&& (252645135 : Int32)) >>> (Int32.toUInt32 8 &&& Int32.toUInt32 31)).toInt32) + (Int32.toUInt32 ((((((x0 - ((Int32.toUInt32 x0 >>> (Int32.toUInt32 1 &&& Int32.toUInt32 31)).toInt32 &&& (1431655765 : Int32))) &&& (858993459 : Int32)) + ((Int32.toUInt32 (x0 - ((Int32.toUInt32 x0 >>> (Int32.toUInt32 1 &&& Int32.toUInt32 31)).toInt32 &&& (1431655765 : Int32))) >>> (Int32.toUInt32 2 &&& Int32.toUInt32 31)).toInt32 &&& (858993459 : Int32))) + (Int32.toUInt32 (((x0 - ((Int32.toUInt32 x0 >>> (Int32.toUInt32 1 &&& Int32.toUInt32 31)).toInt32 &&& (1431655765 : Int32))) &&& (858993459 : Int32)) + ((Int32.toUInt32 (x0 - ((Int32.toUInt32 x0 >>> (Int32.toUInt32 1 &&& Int32.toUInt32 31)).toInt32 &&& (1431655765 : Int32))) >>> (Int32.toUInt32 2 &&& Int32.toUInt32 31)).toInt32 &&& (858993459 : Int32))) >>> (Int32.toUInt32 4 &&& Int32.toUInt32 31)).toInt32) &&& (252645135 : Int32)) + (Int32.toUInt32 (((((x0 - ((Int32.toUInt32 x0 >>> (Int32.toUInt32 1 &&& Int32.toUInt32 31)).toInt32 &&& (1431655765 : Int32))) &&& (858993459 : Int32)) + ((Int32.toUInt32 (x0 - ((Int32.toUInt32 x0 >>> (Int32.toUInt32 1 &&& Int32.toUInt32 31)).toInt32 &&& (1431655765 : Int32))) >>> (Int32.toUInt32 2 &&& Int32.toUInt32 31)).toInt32 &&& (858993459 : Int32))) + (Int32.toUInt32 (((x0 - ((Int32.toUInt32 x0 >>> (Int32.toUInt32 1 &&& Int32.toUInt32 31)).toInt32 &&& (1431655765 : Int32))) &&& (858993459 : Int32)) + ((Int32.toUInt32 (x0 - ((Int32.toUInt32 x0 >>> (Int32.toUInt32 1 &&& Int32.toUInt32 31)).toInt32 &&& (1431655765 : Int32))) >>> (Int32.toUInt32 2 &&& Int32.toUInt32 31)).toInt32 &&& (858993459 : Int32))) >>> (Int32.toUInt32 4 &&& Int32.toUInt32 31)).toInt32) &&& (252645135 : Int32)) >>> (Int32.toUInt32 8 &&& Int32.toUInt32 31)).toInt32) >>> (Int32.toUInt32 16 &&& Int32.toUInt32 31)).toInt32) &&& (63 : Int32))
set_option maxRecDepth 20000 in
theorem s_119 (L : Nat) (σ : am_M) (x0 : Int32) : am_r L 119 0 [some (.inl x0)] [] σ = some (some (.inl (v_119 σ x0)), am_sh0 L, σ) := by
  unfold v_119
  refine (e_119_0 _ _ _).trans ?_
  refine (e_119_35 _ _ _ _).trans ?_
  rfl
-- 40: X2_movingWith
def p_40 (σ : am_M) (x1 : Int32) : Prop := p_39 σ x1
def v_40 (σ : am_M) (x1 : Int32) : Int32 := (if ((σ.1 2 0) - (v_119 σ (v_39 σ x1))) < (v_119 σ (v_39 σ x1)) then (((((1 : Int32) <<< ((σ.1 2 0) &&& (31 : Int32))) - 1) &&& ((v_39 σ x1) ^^^ (-1))) : Int32) else (v_39 σ x1))
set_option maxRecDepth 20000 in
theorem s_40 (L : Nat) (σ : am_M) (x1 : Int32) (h : p_40 σ x1) : am_r L 40 0 [some (.inr (.inr (2, none))), some (.inl x1), none, none] [] σ = some (some (.inl (v_40 σ x1)), am_sh0 L, σ) := by
  unfold p_40 at h
  unfold v_40
  refine (e_40_0 _ _ _).trans ?_
  refine (am_bind_i (s_39 L σ x1 h)).trans ?_
  refine (e_40_5 _ _ _ _).trans ?_
  refine (am_bind_i (s_119 L σ (v_39 σ x1))).trans ?_
  refine (e_40_10 _ _ _ _ _).trans ?_
  refine Eq.trans (b := am_r L 40 37 [some (.inr (.inr (2, none))), some (.inl x1), some (.inl (v_39 σ x1)), some (.inl (v_119 σ (v_39 σ x1)))] [.inl (if ((σ.1 2 0) - (v_119 σ (v_39 σ x1))) < (v_119 σ (v_39 σ x1)) then (((((1 : Int32) <<< ((σ.1 2 0) &&& (31 : Int32))) - 1) &&& ((v_39 σ x1) ^^^ (-1))) : Int32) else (v_39 σ x1))] σ) ?_ ?_
  · by_cases hc108 : ((σ.1 2 0) - (v_119 σ (v_39 σ x1))) < (v_119 σ (v_39 σ x1))
    · refine (if_pos hc108).trans ?_
      refine Eq.trans (b := am_r L 40 37 [some (.inr (.inr (2, none))), some (.inl x1), some (.inl (v_39 σ x1)), some (.inl (v_119 σ (v_39 σ x1)))] [.inl ((((1 : Int32) <<< ((σ.1 2 0) &&& (31 : Int32))) - 1) &&& ((v_39 σ x1) ^^^ (-1)))] σ) ?_ ?_
      · refine (e_40_25 _ _ _ _ _).trans ?_
        rfl
      · first | with_reducible rfl | simp only [if_pos hc108]
    · refine (if_neg hc108).trans ?_
      refine Eq.trans (b := am_r L 40 37 [some (.inr (.inr (2, none))), some (.inl x1), some (.inl (v_39 σ x1)), some (.inl (v_119 σ (v_39 σ x1)))] [.inl (v_39 σ x1)] σ) ?_ ?_
      · rfl
      · first | with_reducible rfl | simp only [if_neg hc108]
  refine (e_40_37 _ _ _ _ _ _).trans ?_
  rfl
-- 60: X4_moves
def p_60 (σ : am_M) (x1 : Int32) : Prop := ¬ ((v_27 σ x1) = 0) → (p_40 σ x1)
def v_60 (σ : am_M) (x1 : Int32) : Int32 := (if (v_27 σ x1) = 0 then ((-1) : Int32) else (v_40 σ x1))
set_option maxRecDepth 20000 in
theorem s_60 (L : Nat) (σ : am_M) (x1 : Int32) (h : p_60 σ x1) : am_r L 60 0 [some (.inr (.inr (1, none))), some (.inl x1)] [] σ = some (some (.inl (v_60 σ x1)), am_sh0 L, σ) := by
  unfold p_60 at h
  unfold v_60
  refine (e_60_0 _ _ _).trans ?_
  refine (am_bind_i (s_27 L σ x1)).trans ?_
  refine (e_60_8 _ _ _ _).trans ?_
  refine Eq.trans (b := am_r L 60 23 [some (.inr (.inr (1, none))), some (.inl x1)] [.inl (if (v_27 σ x1) = 0 then ((-1) : Int32) else (v_40 σ x1))] σ) ?_ ?_
  · by_cases hc109 : (v_27 σ x1) = 0
    · refine (if_pos hc109).trans ?_
      refine Eq.trans (b := am_r L 60 23 [some (.inr (.inr (1, none))), some (.inl x1)] [.inl (-1)] σ) ?_ ?_
      · refine (e_60_22 _ _ _).trans ?_
        rfl
      · first | with_reducible rfl | simp only [if_pos hc109]
    · refine (if_neg hc109).trans ?_
      refine Eq.trans (b := am_r L 60 23 [some (.inr (.inr (1, none))), some (.inl x1)] [.inl (v_40 σ x1)] σ) ?_ ?_
      · refine (am_bind_i (s_40 L σ x1 ((h hc109)))).trans ?_
        refine (e_60_19 _ _ _ _).trans ?_
        rfl
      · first | with_reducible rfl | simp only [if_neg hc109]
  refine (e_60_23 _ _ _ _).trans ?_
  rfl
-- 7: X0_axisOf
def v_7 (σ : am_M) (x0 : Int32) : Int32 := ((if x0 < 0 then ((-x0) : Int32) else x0) - 1)
set_option maxRecDepth 20000 in
theorem s_7 (L : Nat) (σ : am_M) (x0 : Int32) : am_r L 7 0 [some (.inl x0)] [] σ = some (some (.inl (v_7 σ x0)), am_sh0 L, σ) := by
  unfold v_7
  refine (e_7_0 _ _ _).trans ?_
  refine Eq.trans (b := am_r L 7 10 [some (.inl x0)] [.inl (if x0 < 0 then ((-x0) : Int32) else x0)] σ) ?_ ?_
  · by_cases hc110 : x0 < 0
    · refine (if_pos hc110).trans ?_
      refine Eq.trans (b := am_r L 7 10 [some (.inl x0)] [.inl (-x0)] σ) ?_ ?_
      · rfl
      · first | with_reducible rfl | simp only [if_pos hc110]
    · refine (if_neg hc110).trans ?_
      refine Eq.trans (b := am_r L 7 10 [some (.inl x0)] [.inl x0] σ) ?_ ?_
      · refine (e_7_9 _ _ _).trans ?_
        rfl
      · first | with_reducible rfl | simp only [if_neg hc110]
  refine (e_7_10 _ _ _ _).trans ?_
  rfl
-- 9: X0_axisAlong
def p_9 (σ : am_M) (x1 : Int32) (x2 : Int32) : Prop := (((v_70 σ x2) = 0) → (¬ (x1 < 0 ∨ 13 ≤ x1.toNatClampNeg))) ∧ (¬ ((v_70 σ x2) = 0) → (¬ (x1 < 0 ∨ 13 ≤ x1.toNatClampNeg)))
def v_9 (σ : am_M) (x1 : Int32) (x2 : Int32) : Int32 := (v_7 σ (if (v_70 σ x2) = 0 then ((σ.1 21 x1.toNatClampNeg) : Int32) else (σ.1 22 x1.toNatClampNeg)))
set_option maxRecDepth 20000 in
theorem s_9 (L : Nat) (σ : am_M) (x1 : Int32) (x2 : Int32) (h : p_9 σ x1 x2) : am_r L 9 0 [some (.inr (.inr (20, none))), some (.inl x1), some (.inl x2)] [] σ = some (some (.inl (v_9 σ x1 x2)), am_sh0 L, σ) := by
  unfold p_9 at h
  unfold v_9
  refine (e_9_0 _ _ _ _).trans ?_
  refine (am_bind_i (s_70 L σ x2)).trans ?_
  refine (e_9_4 _ _ _ _ _).trans ?_
  refine Eq.trans (b := am_r L 9 22 [some (.inr (.inr (20, none))), some (.inl x1), some (.inl x2)] [.inl (if (v_70 σ x2) = 0 then ((σ.1 21 x1.toNatClampNeg) : Int32) else (σ.1 22 x1.toNatClampNeg))] σ) ?_ ?_
  · by_cases hc111 : (v_70 σ x2) = 0
    · refine (if_pos hc111).trans ?_
      refine Eq.trans (b := am_r L 9 22 [some (.inr (.inr (20, none))), some (.inl x1), some (.inl x2)] [.inl (σ.1 21 x1.toNatClampNeg)] σ) ?_ ?_
      · refine (e_9_16 _ _ _ _).trans ?_
        refine (if_neg ((h.1 hc111))).trans ?_
        rfl
      · first | with_reducible rfl | simp only [if_pos hc111]
    · refine (if_neg hc111).trans ?_
      refine Eq.trans (b := am_r L 9 22 [some (.inr (.inr (20, none))), some (.inl x1), some (.inl x2)] [.inl (σ.1 22 x1.toNatClampNeg)] σ) ?_ ?_
      · refine (if_neg ((h.2 hc111))).trans ?_
        rfl
      · first | with_reducible rfl | simp only [if_neg hc111]
  refine (e_9_22 _ _ _ _ _).trans ?_
  refine (am_bind_i (s_7 L σ (if (v_70 σ x2) = 0 then ((σ.1 21 x1.toNatClampNeg) : Int32) else (σ.1 22 x1.toNatClampNeg)))).trans ?_
  refine (e_9_25 _ _ _ _ _).trans ?_
  rfl
-- 43: X3_setDirections
def w_43_98 (σ : am_M) (x3 : Int32) (x4 : Int32) (x5 : Int32) (x6 : Int32) (s1 : Int32) : am_M := (am_put σ 36 1 s1)
set_option maxRecDepth 20000 in
theorem s_43_98 (L : Nat) (σ : am_M) (x3 : Int32) (x4 : Int32) (x5 : Int32) (x6 : Int32) (s1 : Int32) : am_r L 43 98 [some (.inr (.inr (36, none))), some (.inr (.inr (2, none))), some (.inr (.inr (20, none))), some (.inl x3), some (.inl x4), some (.inl x5), some (.inl x6)] [.inl s1, .inr (.inr (36, none))] σ = some (none, am_sh0 L, w_43_98 σ x3 x4 x5 x6 s1) := by
  unfold w_43_98
  refine (e_43_98 _ _ _ _ _ _ _).trans ?_
  rfl
def p_43 (σ : am_M) (x3 : Int32) : Prop := (¬ (x3 < 0 ∨ 13 ≤ x3.toNatClampNeg)) ∧ ((¬ (x3 < 0 ∨ 13 ≤ x3.toNatClampNeg)) ∧ ((p_8 σ (σ.1 3 x3.toNatClampNeg) (σ.1 4 x3.toNatClampNeg)) ∧ ((¬ (x3 < 0 ∨ 13 ≤ x3.toNatClampNeg)) ∧ (((((σ.1 5 x3.toNatClampNeg) = 0) → (¬ ((σ.1 3 x3.toNatClampNeg) < 0 ∨ 13 ≤ ((σ.1 3 x3.toNatClampNeg)).toNatClampNeg))) ∧ (¬ ((σ.1 5 x3.toNatClampNeg) = 0) → (¬ ((σ.1 3 x3.toNatClampNeg) < 0 ∨ 13 ≤ ((σ.1 3 x3.toNatClampNeg)).toNatClampNeg)))) ∧ ((¬ (x3 < 0 ∨ 13 ≤ x3.toNatClampNeg)) ∧ (p_9 (am_put (am_put (am_put (am_put σ 37 0 (v_8 σ (σ.1 3 x3.toNatClampNeg) (σ.1 4 x3.toNatClampNeg))) 37 1 (if (σ.1 5 x3.toNatClampNeg) = 0 then ((-(σ.1 23 (((σ.1 3 x3.toNatClampNeg)).toNatClampNeg))) : Int32) else (σ.1 23 (((σ.1 3 x3.toNatClampNeg)).toNatClampNeg)))) 37 2 (-(v_8 σ (σ.1 3 x3.toNatClampNeg) (σ.1 4 x3.toNatClampNeg)))) 37 3 (-(if (σ.1 5 x3.toNatClampNeg) = 0 then ((-(σ.1 23 (((σ.1 3 x3.toNatClampNeg)).toNatClampNeg))) : Int32) else (σ.1 23 (((σ.1 3 x3.toNatClampNeg)).toNatClampNeg))))) (σ.1 3 x3.toNatClampNeg) (σ.1 4 x3.toNatClampNeg)))))))
def w_43 (σ : am_M) (x3 : Int32) : am_M := (w_43_98 (am_put (am_put (am_put (am_put σ 37 0 (v_8 σ (σ.1 3 x3.toNatClampNeg) (σ.1 4 x3.toNatClampNeg))) 37 1 (if (σ.1 5 x3.toNatClampNeg) = 0 then ((-(σ.1 23 (((σ.1 3 x3.toNatClampNeg)).toNatClampNeg))) : Int32) else (σ.1 23 (((σ.1 3 x3.toNatClampNeg)).toNatClampNeg)))) 37 2 (-(v_8 σ (σ.1 3 x3.toNatClampNeg) (σ.1 4 x3.toNatClampNeg)))) 37 3 (-(if (σ.1 5 x3.toNatClampNeg) = 0 then ((-(σ.1 23 (((σ.1 3 x3.toNatClampNeg)).toNatClampNeg))) : Int32) else (σ.1 23 (((σ.1 3 x3.toNatClampNeg)).toNatClampNeg))))) x3 (σ.1 3 x3.toNatClampNeg) (v_8 σ (σ.1 3 x3.toNatClampNeg) (σ.1 4 x3.toNatClampNeg)) (if (σ.1 5 x3.toNatClampNeg) = 0 then ((-(σ.1 23 (((σ.1 3 x3.toNatClampNeg)).toNatClampNeg))) : Int32) else (σ.1 23 (((σ.1 3 x3.toNatClampNeg)).toNatClampNeg))) (v_9 (am_put (am_put (am_put (am_put σ 37 0 (v_8 σ (σ.1 3 x3.toNatClampNeg) (σ.1 4 x3.toNatClampNeg))) 37 1 (if (σ.1 5 x3.toNatClampNeg) = 0 then ((-(σ.1 23 (((σ.1 3 x3.toNatClampNeg)).toNatClampNeg))) : Int32) else (σ.1 23 (((σ.1 3 x3.toNatClampNeg)).toNatClampNeg)))) 37 2 (-(v_8 σ (σ.1 3 x3.toNatClampNeg) (σ.1 4 x3.toNatClampNeg)))) 37 3 (-(if (σ.1 5 x3.toNatClampNeg) = 0 then ((-(σ.1 23 (((σ.1 3 x3.toNatClampNeg)).toNatClampNeg))) : Int32) else (σ.1 23 (((σ.1 3 x3.toNatClampNeg)).toNatClampNeg))))) (σ.1 3 x3.toNatClampNeg) (σ.1 4 x3.toNatClampNeg)))
set_option maxRecDepth 20000 in
theorem s_43 (L : Nat) (σ : am_M) (x3 : Int32) (h : p_43 σ x3) : am_r L 43 0 [some (.inr (.inr (36, none))), some (.inr (.inr (2, none))), some (.inr (.inr (20, none))), some (.inl x3), none, none, none] [] σ = some (none, am_sh0 L, w_43 σ x3) := by
  unfold p_43 at h
  unfold w_43
  refine (e_43_0 _ _ _).trans ?_
  refine (if_neg h.1).trans ?_
  refine (if_neg h.2.1).trans ?_
  refine (am_bind_i (s_8 L σ (σ.1 3 x3.toNatClampNeg) (σ.1 4 x3.toNatClampNeg) h.2.2.1)).trans ?_
  refine (e_43_20 _ _ _ _ _).trans ?_
  refine (if_neg h.2.2.2.1).trans ?_
  refine Eq.trans (b := am_r L 43 49 [some (.inr (.inr (36, none))), some (.inr (.inr (2, none))), some (.inr (.inr (20, none))), some (.inl x3), some (.inl (σ.1 3 x3.toNatClampNeg)), some (.inl (v_8 σ (σ.1 3 x3.toNatClampNeg) (σ.1 4 x3.toNatClampNeg))), none] [.inl (if (σ.1 5 x3.toNatClampNeg) = 0 then ((-(σ.1 23 (((σ.1 3 x3.toNatClampNeg)).toNatClampNeg))) : Int32) else (σ.1 23 (((σ.1 3 x3.toNatClampNeg)).toNatClampNeg)))] σ) ?_ ?_
  · by_cases hc112 : (σ.1 5 x3.toNatClampNeg) = 0
    · refine (if_pos hc112).trans ?_
      refine Eq.trans (b := am_r L 43 49 [some (.inr (.inr (36, none))), some (.inr (.inr (2, none))), some (.inr (.inr (20, none))), some (.inl x3), some (.inl (σ.1 3 x3.toNatClampNeg)), some (.inl (v_8 σ (σ.1 3 x3.toNatClampNeg) (σ.1 4 x3.toNatClampNeg))), none] [.inl (-(σ.1 23 (((σ.1 3 x3.toNatClampNeg)).toNatClampNeg)))] σ) ?_ ?_
      · refine (e_43_41 _ _ _ _ _).trans ?_
        refine (if_neg ((h.2.2.2.2.1.1 hc112))).trans ?_
        rfl
      · first | with_reducible rfl | simp only [if_pos hc112]
    · refine (if_neg hc112).trans ?_
      refine Eq.trans (b := am_r L 43 49 [some (.inr (.inr (36, none))), some (.inr (.inr (2, none))), some (.inr (.inr (20, none))), some (.inl x3), some (.inl (σ.1 3 x3.toNatClampNeg)), some (.inl (v_8 σ (σ.1 3 x3.toNatClampNeg) (σ.1 4 x3.toNatClampNeg))), none] [.inl (σ.1 23 (((σ.1 3 x3.toNatClampNeg)).toNatClampNeg))] σ) ?_ ?_
      · refine (if_neg ((h.2.2.2.2.1.2 hc112))).trans ?_
        rfl
      · first | with_reducible rfl | simp only [if_neg hc112]
  refine (e_43_49 _ _ _ _ _ _).trans ?_
  refine (if_neg (by decide)).trans ?_
  refine (if_neg (by decide)).trans ?_
  refine (if_neg (by decide)).trans ?_
  refine (e_43_77 _ _ _ _ _ _).trans ?_
  refine (if_neg (by decide)).trans ?_
  refine (if_neg h.2.2.2.2.2.1).trans ?_
  refine (am_bind_i (s_9 L (am_put (am_put (am_put (am_put σ 37 0 (v_8 σ (σ.1 3 x3.toNatClampNeg) (σ.1 4 x3.toNatClampNeg))) 37 1 (if (σ.1 5 x3.toNatClampNeg) = 0 then ((-(σ.1 23 (((σ.1 3 x3.toNatClampNeg)).toNatClampNeg))) : Int32) else (σ.1 23 (((σ.1 3 x3.toNatClampNeg)).toNatClampNeg)))) 37 2 (-(v_8 σ (σ.1 3 x3.toNatClampNeg) (σ.1 4 x3.toNatClampNeg)))) 37 3 (-(if (σ.1 5 x3.toNatClampNeg) = 0 then ((-(σ.1 23 (((σ.1 3 x3.toNatClampNeg)).toNatClampNeg))) : Int32) else (σ.1 23 (((σ.1 3 x3.toNatClampNeg)).toNatClampNeg))))) (σ.1 3 x3.toNatClampNeg) (σ.1 4 x3.toNatClampNeg) h.2.2.2.2.2.2)).trans ?_
  exact s_43_98 L (am_put (am_put (am_put (am_put σ 37 0 (v_8 σ (σ.1 3 x3.toNatClampNeg) (σ.1 4 x3.toNatClampNeg))) 37 1 (if (σ.1 5 x3.toNatClampNeg) = 0 then ((-(σ.1 23 (((σ.1 3 x3.toNatClampNeg)).toNatClampNeg))) : Int32) else (σ.1 23 (((σ.1 3 x3.toNatClampNeg)).toNatClampNeg)))) 37 2 (-(v_8 σ (σ.1 3 x3.toNatClampNeg) (σ.1 4 x3.toNatClampNeg)))) 37 3 (-(if (σ.1 5 x3.toNatClampNeg) = 0 then ((-(σ.1 23 (((σ.1 3 x3.toNatClampNeg)).toNatClampNeg))) : Int32) else (σ.1 23 (((σ.1 3 x3.toNatClampNeg)).toNatClampNeg))))) x3 (σ.1 3 x3.toNatClampNeg) (v_8 σ (σ.1 3 x3.toNatClampNeg) (σ.1 4 x3.toNatClampNeg)) (if (σ.1 5 x3.toNatClampNeg) = 0 then ((-(σ.1 23 (((σ.1 3 x3.toNatClampNeg)).toNatClampNeg))) : Int32) else (σ.1 23 (((σ.1 3 x3.toNatClampNeg)).toNatClampNeg))) (v_9 (am_put (am_put (am_put (am_put σ 37 0 (v_8 σ (σ.1 3 x3.toNatClampNeg) (σ.1 4 x3.toNatClampNeg))) 37 1 (if (σ.1 5 x3.toNatClampNeg) = 0 then ((-(σ.1 23 (((σ.1 3 x3.toNatClampNeg)).toNatClampNeg))) : Int32) else (σ.1 23 (((σ.1 3 x3.toNatClampNeg)).toNatClampNeg)))) 37 2 (-(v_8 σ (σ.1 3 x3.toNatClampNeg) (σ.1 4 x3.toNatClampNeg)))) 37 3 (-(if (σ.1 5 x3.toNatClampNeg) = 0 then ((-(σ.1 23 (((σ.1 3 x3.toNatClampNeg)).toNatClampNeg))) : Int32) else (σ.1 23 (((σ.1 3 x3.toNatClampNeg)).toNatClampNeg))))) (σ.1 3 x3.toNatClampNeg) (σ.1 4 x3.toNatClampNeg))
-- 10: X0_greatestAlong
def p_10 (σ : am_M) (x1 : Int32) (x2 : Int32) : Prop := ((0 < x2) → ((¬ ((v_7 σ x2) < 0 ∨ 3 ≤ ((v_7 σ x2)).toNatClampNeg)) ∧ (¬ (x1 < 0 ∨ 13 ≤ x1.toNatClampNeg)))) ∧ (¬ (0 < x2) → ((¬ ((v_7 σ x2) < 0 ∨ 3 ≤ ((v_7 σ x2)).toNatClampNeg)) ∧ (¬ (x1 < 0 ∨ 13 ≤ x1.toNatClampNeg))))
def v_10 (σ : am_M) (x1 : Int32) (x2 : Int32) : Int32 := (if 0 < x2 then ((σ.1 (33 + ((v_7 σ x2)).toNatClampNeg) x1.toNatClampNeg) : Int32) else (-(σ.1 (29 + ((v_7 σ x2)).toNatClampNeg) x1.toNatClampNeg)))
set_option maxRecDepth 20000 in
theorem s_10 (L : Nat) (σ : am_M) (x1 : Int32) (x2 : Int32) (h : p_10 σ x1 x2) : am_r L 10 0 [some (.inr (.inr (20, none))), some (.inl x1), some (.inl x2), none] [] σ = some (some (.inl (v_10 σ x1 x2)), am_sh0 L, σ) := by
  unfold p_10 at h
  unfold v_10
  refine (e_10_0 _ _ _ _).trans ?_
  refine (am_bind_i (s_7 L σ x2)).trans ?_
  refine (e_10_4 _ _ _ _ _).trans ?_
  refine Eq.trans (b := am_r L 10 29 [some (.inr (.inr (20, none))), some (.inl x1), some (.inl x2), some (.inl (v_7 σ x2))] [.inl (if 0 < x2 then ((σ.1 (33 + ((v_7 σ x2)).toNatClampNeg) x1.toNatClampNeg) : Int32) else (-(σ.1 (29 + ((v_7 σ x2)).toNatClampNeg) x1.toNatClampNeg)))] σ) ?_ ?_
  · by_cases hc113 : 0 < x2
    · refine (if_pos hc113).trans ?_
      refine Eq.trans (b := am_r L 10 29 [some (.inr (.inr (20, none))), some (.inl x1), some (.inl x2), some (.inl (v_7 σ x2))] [.inl (σ.1 (33 + ((v_7 σ x2)).toNatClampNeg) x1.toNatClampNeg)] σ) ?_ ?_
      · refine (if_neg ((h.1 hc113).1)).trans ?_
        refine (if_neg ((h.1 hc113).2)).trans ?_
        rfl
      · first | with_reducible rfl | simp only [if_pos hc113]
    · refine (if_neg hc113).trans ?_
      refine Eq.trans (b := am_r L 10 29 [some (.inr (.inr (20, none))), some (.inl x1), some (.inl x2), some (.inl (v_7 σ x2))] [.inl (-(σ.1 (29 + ((v_7 σ x2)).toNatClampNeg) x1.toNatClampNeg))] σ) ?_ ?_
      · refine (e_10_20 _ _ _ _ _).trans ?_
        refine (if_neg ((h.2 hc113).1)).trans ?_
        refine (if_neg ((h.2 hc113).2)).trans ?_
        rfl
      · first | with_reducible rfl | simp only [if_neg hc113]
  refine (e_10_29 _ _ _ _ _ _).trans ?_
  rfl
-- 44: X3_setBands
def l_44_109 : Nat → am_M → Int32 → Int32 → Int32 → Int32 → Int32 → am_M
  | 0, σ, x2, x3, x4, x5, x6 => σ
  | n + 1, σ, x2, x3, x4, x5, x6 => (if x6 < 4 then (l_44_109 n (am_put (am_put σ (40 + x6.toNatClampNeg) x3.toNatClampNeg (if (if 0 < (σ.1 38 x6.toNatClampNeg) then ((if (σ.1 38 ((((x6 + 1) &&& (3 : Int32))).toNatClampNeg)) < 0 then (0 : Int32) else 1) : Int32) else 0) = 0 then (0 : Int32) else (((v_120 σ 0 (-(σ.1 38 ((((x6 + 2) &&& (3 : Int32))).toNatClampNeg)))) * (v_120 σ 0 (-(σ.1 38 ((((x6 + 2) &&& (3 : Int32))).toNatClampNeg))))) + ((v_120 σ 0 (-(σ.1 38 ((((x6 + 3) &&& (3 : Int32))).toNatClampNeg)))) * (v_120 σ 0 (-(σ.1 38 ((((x6 + 3) &&& (3 : Int32))).toNatClampNeg)))))))) (45 + x6.toNatClampNeg) x3.toNatClampNeg (if (if 0 < (σ.1 38 x6.toNatClampNeg) then ((if (σ.1 38 ((((x6 + 1) &&& (3 : Int32))).toNatClampNeg)) < 0 then (0 : Int32) else 1) : Int32) else 0) = 0 then (0 : Int32) else (((σ.1 38 x6.toNatClampNeg) * (σ.1 38 x6.toNatClampNeg)) + ((σ.1 38 ((((x6 + 1) &&& (3 : Int32))).toNatClampNeg)) * (σ.1 38 ((((x6 + 1) &&& (3 : Int32))).toNatClampNeg)))))) x2 x3 x4 x5 (x6 + 1)) else σ)
def q_44_109 : Nat → am_M → Int32 → Int32 → Int32 → Int32 → Int32 → Prop
  | 0, _, _, _, _, _, _ => False
  | n + 1, σ, x2, x3, x4, x5, x6 => (x6 < 4) → ((¬ (x6 < 0 ∨ 4 ≤ x6.toNatClampNeg)) ∧ ((¬ (((x6 + 1) &&& (3 : Int32)) < 0 ∨ 4 ≤ (((x6 + 1) &&& (3 : Int32))).toNatClampNeg)) ∧ ((¬ (((x6 + 2) &&& (3 : Int32)) < 0 ∨ 4 ≤ (((x6 + 2) &&& (3 : Int32))).toNatClampNeg)) ∧ ((¬ (((x6 + 3) &&& (3 : Int32)) < 0 ∨ 4 ≤ (((x6 + 3) &&& (3 : Int32))).toNatClampNeg)) ∧ ((¬ (x6 < 0 ∨ 4 ≤ x6.toNatClampNeg)) ∧ ((¬ (x3 < 0 ∨ 13 ≤ x3.toNatClampNeg)) ∧ ((¬ (x6 < 0 ∨ 4 ≤ x6.toNatClampNeg)) ∧ ((¬ (x3 < 0 ∨ 13 ≤ x3.toNatClampNeg)) ∧ (q_44_109 n (am_put (am_put σ (40 + x6.toNatClampNeg) x3.toNatClampNeg (if (if 0 < (σ.1 38 x6.toNatClampNeg) then ((if (σ.1 38 ((((x6 + 1) &&& (3 : Int32))).toNatClampNeg)) < 0 then (0 : Int32) else 1) : Int32) else 0) = 0 then (0 : Int32) else (((v_120 σ 0 (-(σ.1 38 ((((x6 + 2) &&& (3 : Int32))).toNatClampNeg)))) * (v_120 σ 0 (-(σ.1 38 ((((x6 + 2) &&& (3 : Int32))).toNatClampNeg))))) + ((v_120 σ 0 (-(σ.1 38 ((((x6 + 3) &&& (3 : Int32))).toNatClampNeg)))) * (v_120 σ 0 (-(σ.1 38 ((((x6 + 3) &&& (3 : Int32))).toNatClampNeg)))))))) (45 + x6.toNatClampNeg) x3.toNatClampNeg (if (if 0 < (σ.1 38 x6.toNatClampNeg) then ((if (σ.1 38 ((((x6 + 1) &&& (3 : Int32))).toNatClampNeg)) < 0 then (0 : Int32) else 1) : Int32) else 0) = 0 then (0 : Int32) else (((σ.1 38 x6.toNatClampNeg) * (σ.1 38 x6.toNatClampNeg)) + ((σ.1 38 ((((x6 + 1) &&& (3 : Int32))).toNatClampNeg)) * (σ.1 38 ((((x6 + 1) &&& (3 : Int32))).toNatClampNeg)))))) x2 x3 x4 x5 (x6 + 1))))))))))
set_option maxRecDepth 20000 in
theorem t_44_109 (L : Nat) : ∀ (n : Nat) (σ : am_M) (x2 : Int32) (x3 : Int32) (x4 : Int32) (x5 : Int32) (x6 : Int32) (o7 : Option am_V) (o8 : Option am_V) (o9 : Option am_V) (o10 : Option am_V) (o11 : Option am_V), q_44_109 n σ x2 x3 x4 x5 x6 → am_r L 44 109 [some (.inr (.inr (36, none))), some (.inr (.inr (20, none))), some (.inl x2), some (.inl x3), some (.inl x4), some (.inl x5), some (.inl x6), o7, o8, o9, o10, o11] [] σ = some (none, am_sh0 L, (l_44_109 n σ x2 x3 x4 x5 x6)) := by
  intro n
  induction n with
  | zero => intro σ x2 x3 x4 x5 x6 o7 o8 o9 o10 o11 h; exact h.elim
  | succ n ih =>
    intro σ x2 x3 x4 x5 x6 o7 o8 o9 o10 o11 h
    unfold q_44_109 at h
    unfold l_44_109
    refine (e_44_109 _ _ _ _ _ _ _ _ _ _ _ _).trans ?_
    refine am_fkVm (fun hc114 => ?_) (fun hc114 => ?_)
    · refine (if_neg ((h hc114).1)).trans ?_
      refine (if_neg ((h hc114).2.1)).trans ?_
      refine Eq.trans (b := am_r L 44 152 [some (.inr (.inr (36, none))), some (.inr (.inr (20, none))), some (.inl x2), some (.inl x3), some (.inl x4), some (.inl x5), some (.inl x6), some (.inl (σ.1 38 x6.toNatClampNeg)), some (.inl (σ.1 38 ((((x6 + 1) &&& (3 : Int32))).toNatClampNeg))), o9, o10, o11] [.inl (if 0 < (σ.1 38 x6.toNatClampNeg) then ((if (σ.1 38 ((((x6 + 1) &&& (3 : Int32))).toNatClampNeg)) < 0 then (0 : Int32) else 1) : Int32) else 0)] σ) ?_ ?_
      · by_cases hc115 : 0 < (σ.1 38 x6.toNatClampNeg)
        · refine (if_pos hc115).trans ?_
          refine Eq.trans (b := am_r L 44 152 [some (.inr (.inr (36, none))), some (.inr (.inr (20, none))), some (.inl x2), some (.inl x3), some (.inl x4), some (.inl x5), some (.inl x6), some (.inl (σ.1 38 x6.toNatClampNeg)), some (.inl (σ.1 38 ((((x6 + 1) &&& (3 : Int32))).toNatClampNeg))), o9, o10, o11] [.inl (if (σ.1 38 ((((x6 + 1) &&& (3 : Int32))).toNatClampNeg)) < 0 then (0 : Int32) else 1)] σ) ?_ ?_
          · refine Eq.trans (b := am_r L 44 152 [some (.inr (.inr (36, none))), some (.inr (.inr (20, none))), some (.inl x2), some (.inl x3), some (.inl x4), some (.inl x5), some (.inl x6), some (.inl (σ.1 38 x6.toNatClampNeg)), some (.inl (σ.1 38 ((((x6 + 1) &&& (3 : Int32))).toNatClampNeg))), o9, o10, o11] [.inl (if (σ.1 38 ((((x6 + 1) &&& (3 : Int32))).toNatClampNeg)) < 0 then (0 : Int32) else 1)] σ) ?_ ?_
            · by_cases hc116 : (σ.1 38 ((((x6 + 1) &&& (3 : Int32))).toNatClampNeg)) < 0
              · refine (if_pos hc116).trans ?_
                refine Eq.trans (b := am_r L 44 152 [some (.inr (.inr (36, none))), some (.inr (.inr (20, none))), some (.inl x2), some (.inl x3), some (.inl x4), some (.inl x5), some (.inl x6), some (.inl (σ.1 38 x6.toNatClampNeg)), some (.inl (σ.1 38 ((((x6 + 1) &&& (3 : Int32))).toNatClampNeg))), o9, o10, o11] [.inl 0] σ) ?_ ?_
                · refine (e_44_151 _ _ _ _ _ _ _ _ _ _ _ _).trans ?_
                  rfl
                · first | with_reducible rfl | simp only [if_pos hc116]
              · refine (if_neg hc116).trans ?_
                refine Eq.trans (b := am_r L 44 152 [some (.inr (.inr (36, none))), some (.inr (.inr (20, none))), some (.inl x2), some (.inl x3), some (.inl x4), some (.inl x5), some (.inl x6), some (.inl (σ.1 38 x6.toNatClampNeg)), some (.inl (σ.1 38 ((((x6 + 1) &&& (3 : Int32))).toNatClampNeg))), o9, o10, o11] [.inl 1] σ) ?_ ?_
                · refine (e_44_147 _ _ _ _ _ _ _ _ _ _ _ _).trans ?_
                  rfl
                · first | with_reducible rfl | simp only [if_neg hc116]
            rfl
          · first | with_reducible rfl | simp only [if_pos hc115]
        · refine (if_neg hc115).trans ?_
          refine Eq.trans (b := am_r L 44 152 [some (.inr (.inr (36, none))), some (.inr (.inr (20, none))), some (.inl x2), some (.inl x3), some (.inl x4), some (.inl x5), some (.inl x6), some (.inl (σ.1 38 x6.toNatClampNeg)), some (.inl (σ.1 38 ((((x6 + 1) &&& (3 : Int32))).toNatClampNeg))), o9, o10, o11] [.inl 0] σ) ?_ ?_
          · refine (e_44_151 _ _ _ _ _ _ _ _ _ _ _ _).trans ?_
            rfl
          · first | with_reducible rfl | simp only [if_neg hc115]
      refine (e_44_152 _ _ _ _ _ _ _ _ _ _ _ _ _).trans ?_
      refine (if_neg ((h hc114).2.2.1)).trans ?_
      refine (am_bind_i (s_120 L σ 0 (-(σ.1 38 ((((x6 + 2) &&& (3 : Int32))).toNatClampNeg))))).trans ?_
      refine (e_44_170 _ _ _ _ _ _ _ _ _ _ _ _ _).trans ?_
      refine (if_neg ((h hc114).2.2.2.1)).trans ?_
      refine (am_bind_i (s_120 L σ 0 (-(σ.1 38 ((((x6 + 3) &&& (3 : Int32))).toNatClampNeg))))).trans ?_
      refine (e_44_188 _ _ _ _ _ _ _ _ _ _ _ _ _).trans ?_
      refine (if_neg ((h hc114).2.2.2.2.1)).trans ?_
      refine Eq.trans (b := am_r L 44 218 [some (.inr (.inr (36, none))), some (.inr (.inr (20, none))), some (.inl x2), some (.inl x3), some (.inl x4), some (.inl x5), some (.inl x6), some (.inl (σ.1 38 x6.toNatClampNeg)), some (.inl (σ.1 38 ((((x6 + 1) &&& (3 : Int32))).toNatClampNeg))), some (.inl (if 0 < (σ.1 38 x6.toNatClampNeg) then ((if (σ.1 38 ((((x6 + 1) &&& (3 : Int32))).toNatClampNeg)) < 0 then (0 : Int32) else 1) : Int32) else 0)), some (.inl (v_120 σ 0 (-(σ.1 38 ((((x6 + 2) &&& (3 : Int32))).toNatClampNeg))))), some (.inl (v_120 σ 0 (-(σ.1 38 ((((x6 + 3) &&& (3 : Int32))).toNatClampNeg)))))] [.inl (if (if 0 < (σ.1 38 x6.toNatClampNeg) then ((if (σ.1 38 ((((x6 + 1) &&& (3 : Int32))).toNatClampNeg)) < 0 then (0 : Int32) else 1) : Int32) else 0) = 0 then (0 : Int32) else (((v_120 σ 0 (-(σ.1 38 ((((x6 + 2) &&& (3 : Int32))).toNatClampNeg)))) * (v_120 σ 0 (-(σ.1 38 ((((x6 + 2) &&& (3 : Int32))).toNatClampNeg))))) + ((v_120 σ 0 (-(σ.1 38 ((((x6 + 3) &&& (3 : Int32))).toNatClampNeg)))) * (v_120 σ 0 (-(σ.1 38 ((((x6 + 3) &&& (3 : Int32))).toNatClampNeg))))))), .inl x3, .inr (.inr (39, some x6.toNatClampNeg))] σ) ?_ ?_
      · by_cases hc117 : (if 0 < (σ.1 38 x6.toNatClampNeg) then ((if (σ.1 38 ((((x6 + 1) &&& (3 : Int32))).toNatClampNeg)) < 0 then (0 : Int32) else 1) : Int32) else 0) = 0
        · refine (if_pos hc117).trans ?_
          refine Eq.trans (b := am_r L 44 218 [some (.inr (.inr (36, none))), some (.inr (.inr (20, none))), some (.inl x2), some (.inl x3), some (.inl x4), some (.inl x5), some (.inl x6), some (.inl (σ.1 38 x6.toNatClampNeg)), some (.inl (σ.1 38 ((((x6 + 1) &&& (3 : Int32))).toNatClampNeg))), some (.inl (if 0 < (σ.1 38 x6.toNatClampNeg) then ((if (σ.1 38 ((((x6 + 1) &&& (3 : Int32))).toNatClampNeg)) < 0 then (0 : Int32) else 1) : Int32) else 0)), some (.inl (v_120 σ 0 (-(σ.1 38 ((((x6 + 2) &&& (3 : Int32))).toNatClampNeg))))), some (.inl (v_120 σ 0 (-(σ.1 38 ((((x6 + 3) &&& (3 : Int32))).toNatClampNeg)))))] [.inl 0, .inl x3, .inr (.inr (39, some x6.toNatClampNeg))] σ) ?_ ?_
          · refine (e_44_217 _ _ _ _ _ _ _ _ _ _ _ _ _ _).trans ?_
            rfl
          · first | with_reducible rfl | simp only [if_pos hc117]
        · refine (if_neg hc117).trans ?_
          refine Eq.trans (b := am_r L 44 218 [some (.inr (.inr (36, none))), some (.inr (.inr (20, none))), some (.inl x2), some (.inl x3), some (.inl x4), some (.inl x5), some (.inl x6), some (.inl (σ.1 38 x6.toNatClampNeg)), some (.inl (σ.1 38 ((((x6 + 1) &&& (3 : Int32))).toNatClampNeg))), some (.inl (if 0 < (σ.1 38 x6.toNatClampNeg) then ((if (σ.1 38 ((((x6 + 1) &&& (3 : Int32))).toNatClampNeg)) < 0 then (0 : Int32) else 1) : Int32) else 0)), some (.inl (v_120 σ 0 (-(σ.1 38 ((((x6 + 2) &&& (3 : Int32))).toNatClampNeg))))), some (.inl (v_120 σ 0 (-(σ.1 38 ((((x6 + 3) &&& (3 : Int32))).toNatClampNeg)))))] [.inl (((v_120 σ 0 (-(σ.1 38 ((((x6 + 2) &&& (3 : Int32))).toNatClampNeg)))) * (v_120 σ 0 (-(σ.1 38 ((((x6 + 2) &&& (3 : Int32))).toNatClampNeg))))) + ((v_120 σ 0 (-(σ.1 38 ((((x6 + 3) &&& (3 : Int32))).toNatClampNeg)))) * (v_120 σ 0 (-(σ.1 38 ((((x6 + 3) &&& (3 : Int32))).toNatClampNeg)))))), .inl x3, .inr (.inr (39, some x6.toNatClampNeg))] σ) ?_ ?_
          · rfl
          · first | with_reducible rfl | simp only [if_neg hc117]
      refine (e_44_218 _ _ _ _ _ _ _ _ _ _ _ _ _ _ _).trans ?_
      refine (if_neg ((h hc114).2.2.2.2.2.1)).trans ?_
      refine (if_neg ((h hc114).2.2.2.2.2.2.1)).trans ?_
      refine Eq.trans (b := am_r L 44 247 [some (.inr (.inr (36, none))), some (.inr (.inr (20, none))), some (.inl x2), some (.inl x3), some (.inl x4), some (.inl x5), some (.inl x6), some (.inl (σ.1 38 x6.toNatClampNeg)), some (.inl (σ.1 38 ((((x6 + 1) &&& (3 : Int32))).toNatClampNeg))), some (.inl (if 0 < (σ.1 38 x6.toNatClampNeg) then ((if (σ.1 38 ((((x6 + 1) &&& (3 : Int32))).toNatClampNeg)) < 0 then (0 : Int32) else 1) : Int32) else 0)), some (.inl (v_120 σ 0 (-(σ.1 38 ((((x6 + 2) &&& (3 : Int32))).toNatClampNeg))))), some (.inl (v_120 σ 0 (-(σ.1 38 ((((x6 + 3) &&& (3 : Int32))).toNatClampNeg)))))] [.inl (if (if 0 < (σ.1 38 x6.toNatClampNeg) then ((if (σ.1 38 ((((x6 + 1) &&& (3 : Int32))).toNatClampNeg)) < 0 then (0 : Int32) else 1) : Int32) else 0) = 0 then (0 : Int32) else (((σ.1 38 x6.toNatClampNeg) * (σ.1 38 x6.toNatClampNeg)) + ((σ.1 38 ((((x6 + 1) &&& (3 : Int32))).toNatClampNeg)) * (σ.1 38 ((((x6 + 1) &&& (3 : Int32))).toNatClampNeg))))), .inl x3, .inr (.inr (44, some x6.toNatClampNeg))] (am_put σ (40 + x6.toNatClampNeg) x3.toNatClampNeg (if (if 0 < (σ.1 38 x6.toNatClampNeg) then ((if (σ.1 38 ((((x6 + 1) &&& (3 : Int32))).toNatClampNeg)) < 0 then (0 : Int32) else 1) : Int32) else 0) = 0 then (0 : Int32) else (((v_120 σ 0 (-(σ.1 38 ((((x6 + 2) &&& (3 : Int32))).toNatClampNeg)))) * (v_120 σ 0 (-(σ.1 38 ((((x6 + 2) &&& (3 : Int32))).toNatClampNeg))))) + ((v_120 σ 0 (-(σ.1 38 ((((x6 + 3) &&& (3 : Int32))).toNatClampNeg)))) * (v_120 σ 0 (-(σ.1 38 ((((x6 + 3) &&& (3 : Int32))).toNatClampNeg))))))))) ?_ ?_
      · by_cases hc118 : (if 0 < (σ.1 38 x6.toNatClampNeg) then ((if (σ.1 38 ((((x6 + 1) &&& (3 : Int32))).toNatClampNeg)) < 0 then (0 : Int32) else 1) : Int32) else 0) = 0
        · refine (if_pos hc118).trans ?_
          refine Eq.trans (b := am_r L 44 247 [some (.inr (.inr (36, none))), some (.inr (.inr (20, none))), some (.inl x2), some (.inl x3), some (.inl x4), some (.inl x5), some (.inl x6), some (.inl (σ.1 38 x6.toNatClampNeg)), some (.inl (σ.1 38 ((((x6 + 1) &&& (3 : Int32))).toNatClampNeg))), some (.inl (if 0 < (σ.1 38 x6.toNatClampNeg) then ((if (σ.1 38 ((((x6 + 1) &&& (3 : Int32))).toNatClampNeg)) < 0 then (0 : Int32) else 1) : Int32) else 0)), some (.inl (v_120 σ 0 (-(σ.1 38 ((((x6 + 2) &&& (3 : Int32))).toNatClampNeg))))), some (.inl (v_120 σ 0 (-(σ.1 38 ((((x6 + 3) &&& (3 : Int32))).toNatClampNeg)))))] [.inl 0, .inl x3, .inr (.inr (44, some x6.toNatClampNeg))] (am_put σ (40 + x6.toNatClampNeg) x3.toNatClampNeg (if (if 0 < (σ.1 38 x6.toNatClampNeg) then ((if (σ.1 38 ((((x6 + 1) &&& (3 : Int32))).toNatClampNeg)) < 0 then (0 : Int32) else 1) : Int32) else 0) = 0 then (0 : Int32) else (((v_120 σ 0 (-(σ.1 38 ((((x6 + 2) &&& (3 : Int32))).toNatClampNeg)))) * (v_120 σ 0 (-(σ.1 38 ((((x6 + 2) &&& (3 : Int32))).toNatClampNeg))))) + ((v_120 σ 0 (-(σ.1 38 ((((x6 + 3) &&& (3 : Int32))).toNatClampNeg)))) * (v_120 σ 0 (-(σ.1 38 ((((x6 + 3) &&& (3 : Int32))).toNatClampNeg))))))))) ?_ ?_
          · refine (e_44_246 _ _ _ _ _ _ _ _ _ _ _ _ _ _).trans ?_
            rfl
          · first | with_reducible rfl | simp only [if_pos hc118]
        · refine (if_neg hc118).trans ?_
          refine Eq.trans (b := am_r L 44 247 [some (.inr (.inr (36, none))), some (.inr (.inr (20, none))), some (.inl x2), some (.inl x3), some (.inl x4), some (.inl x5), some (.inl x6), some (.inl (σ.1 38 x6.toNatClampNeg)), some (.inl (σ.1 38 ((((x6 + 1) &&& (3 : Int32))).toNatClampNeg))), some (.inl (if 0 < (σ.1 38 x6.toNatClampNeg) then ((if (σ.1 38 ((((x6 + 1) &&& (3 : Int32))).toNatClampNeg)) < 0 then (0 : Int32) else 1) : Int32) else 0)), some (.inl (v_120 σ 0 (-(σ.1 38 ((((x6 + 2) &&& (3 : Int32))).toNatClampNeg))))), some (.inl (v_120 σ 0 (-(σ.1 38 ((((x6 + 3) &&& (3 : Int32))).toNatClampNeg)))))] [.inl (((σ.1 38 x6.toNatClampNeg) * (σ.1 38 x6.toNatClampNeg)) + ((σ.1 38 ((((x6 + 1) &&& (3 : Int32))).toNatClampNeg)) * (σ.1 38 ((((x6 + 1) &&& (3 : Int32))).toNatClampNeg)))), .inl x3, .inr (.inr (44, some x6.toNatClampNeg))] (am_put σ (40 + x6.toNatClampNeg) x3.toNatClampNeg (if (if 0 < (σ.1 38 x6.toNatClampNeg) then ((if (σ.1 38 ((((x6 + 1) &&& (3 : Int32))).toNatClampNeg)) < 0 then (0 : Int32) else 1) : Int32) else 0) = 0 then (0 : Int32) else (((v_120 σ 0 (-(σ.1 38 ((((x6 + 2) &&& (3 : Int32))).toNatClampNeg)))) * (v_120 σ 0 (-(σ.1 38 ((((x6 + 2) &&& (3 : Int32))).toNatClampNeg))))) + ((v_120 σ 0 (-(σ.1 38 ((((x6 + 3) &&& (3 : Int32))).toNatClampNeg)))) * (v_120 σ 0 (-(σ.1 38 ((((x6 + 3) &&& (3 : Int32))).toNatClampNeg))))))))) ?_ ?_
          · rfl
          · first | with_reducible rfl | simp only [if_neg hc118]
      refine (e_44_247 _ _ _ _ _ _ _ _ _ _ _ _ _ _ _).trans ?_
      refine (if_neg ((h hc114).2.2.2.2.2.2.2.1)).trans ?_
      exact ih (am_put (am_put σ (40 + x6.toNatClampNeg) x3.toNatClampNeg (if (if 0 < (σ.1 38 x6.toNatClampNeg) then ((if (σ.1 38 ((((x6 + 1) &&& (3 : Int32))).toNatClampNeg)) < 0 then (0 : Int32) else 1) : Int32) else 0) = 0 then (0 : Int32) else (((v_120 σ 0 (-(σ.1 38 ((((x6 + 2) &&& (3 : Int32))).toNatClampNeg)))) * (v_120 σ 0 (-(σ.1 38 ((((x6 + 2) &&& (3 : Int32))).toNatClampNeg))))) + ((v_120 σ 0 (-(σ.1 38 ((((x6 + 3) &&& (3 : Int32))).toNatClampNeg)))) * (v_120 σ 0 (-(σ.1 38 ((((x6 + 3) &&& (3 : Int32))).toNatClampNeg)))))))) (45 + x6.toNatClampNeg) x3.toNatClampNeg (if (if 0 < (σ.1 38 x6.toNatClampNeg) then ((if (σ.1 38 ((((x6 + 1) &&& (3 : Int32))).toNatClampNeg)) < 0 then (0 : Int32) else 1) : Int32) else 0) = 0 then (0 : Int32) else (((σ.1 38 x6.toNatClampNeg) * (σ.1 38 x6.toNatClampNeg)) + ((σ.1 38 ((((x6 + 1) &&& (3 : Int32))).toNatClampNeg)) * (σ.1 38 ((((x6 + 1) &&& (3 : Int32))).toNatClampNeg)))))) x2 x3 x4 x5 (x6 + 1) (some (.inl (σ.1 38 x6.toNatClampNeg))) (some (.inl (σ.1 38 ((((x6 + 1) &&& (3 : Int32))).toNatClampNeg)))) (some (.inl (if 0 < (σ.1 38 x6.toNatClampNeg) then ((if (σ.1 38 ((((x6 + 1) &&& (3 : Int32))).toNatClampNeg)) < 0 then (0 : Int32) else 1) : Int32) else 0))) (some (.inl (v_120 σ 0 (-(σ.1 38 ((((x6 + 2) &&& (3 : Int32))).toNatClampNeg)))))) (some (.inl (v_120 σ 0 (-(σ.1 38 ((((x6 + 3) &&& (3 : Int32))).toNatClampNeg)))))) ((h hc114).2.2.2.2.2.2.2.2)
    · refine (e_44_254 _ _ _ _ _ _ _ _ _ _ _ _).trans ?_
      rfl
def p_44 (σ : am_M) (x2 : Int32) (x3 : Int32) : Prop := (p_10 σ x2 (σ.1 37 0)) ∧ ((p_10 σ x2 (σ.1 37 1)) ∧ ((p_10 σ x3 (σ.1 37 0)) ∧ ((p_10 (am_put σ 38 0 ((v_10 σ x3 (σ.1 37 0)) - (v_10 σ x2 (σ.1 37 0)))) x3 (σ.1 37 1)) ∧ ((p_10 (am_put (am_put σ 38 0 ((v_10 σ x3 (σ.1 37 0)) - (v_10 σ x2 (σ.1 37 0)))) 38 1 ((v_10 (am_put σ 38 0 ((v_10 σ x3 (σ.1 37 0)) - (v_10 σ x2 (σ.1 37 0)))) x3 (σ.1 37 1)) - (v_10 σ x2 (σ.1 37 1)))) x3 (σ.1 37 2)) ∧ ((p_10 (am_put (am_put (am_put σ 38 0 ((v_10 σ x3 (σ.1 37 0)) - (v_10 σ x2 (σ.1 37 0)))) 38 1 ((v_10 (am_put σ 38 0 ((v_10 σ x3 (σ.1 37 0)) - (v_10 σ x2 (σ.1 37 0)))) x3 (σ.1 37 1)) - (v_10 σ x2 (σ.1 37 1)))) 38 2 ((v_10 (am_put (am_put σ 38 0 ((v_10 σ x3 (σ.1 37 0)) - (v_10 σ x2 (σ.1 37 0)))) 38 1 ((v_10 (am_put σ 38 0 ((v_10 σ x3 (σ.1 37 0)) - (v_10 σ x2 (σ.1 37 0)))) x3 (σ.1 37 1)) - (v_10 σ x2 (σ.1 37 1)))) x3 (σ.1 37 2)) + (v_10 σ x2 (σ.1 37 0)))) x3 (σ.1 37 3)) ∧ (q_44_109 14 (am_put (am_put (am_put (am_put σ 38 0 ((v_10 σ x3 (σ.1 37 0)) - (v_10 σ x2 (σ.1 37 0)))) 38 1 ((v_10 (am_put σ 38 0 ((v_10 σ x3 (σ.1 37 0)) - (v_10 σ x2 (σ.1 37 0)))) x3 (σ.1 37 1)) - (v_10 σ x2 (σ.1 37 1)))) 38 2 ((v_10 (am_put (am_put σ 38 0 ((v_10 σ x3 (σ.1 37 0)) - (v_10 σ x2 (σ.1 37 0)))) 38 1 ((v_10 (am_put σ 38 0 ((v_10 σ x3 (σ.1 37 0)) - (v_10 σ x2 (σ.1 37 0)))) x3 (σ.1 37 1)) - (v_10 σ x2 (σ.1 37 1)))) x3 (σ.1 37 2)) + (v_10 σ x2 (σ.1 37 0)))) 38 3 ((v_10 (am_put (am_put (am_put σ 38 0 ((v_10 σ x3 (σ.1 37 0)) - (v_10 σ x2 (σ.1 37 0)))) 38 1 ((v_10 (am_put σ 38 0 ((v_10 σ x3 (σ.1 37 0)) - (v_10 σ x2 (σ.1 37 0)))) x3 (σ.1 37 1)) - (v_10 σ x2 (σ.1 37 1)))) 38 2 ((v_10 (am_put (am_put σ 38 0 ((v_10 σ x3 (σ.1 37 0)) - (v_10 σ x2 (σ.1 37 0)))) 38 1 ((v_10 (am_put σ 38 0 ((v_10 σ x3 (σ.1 37 0)) - (v_10 σ x2 (σ.1 37 0)))) x3 (σ.1 37 1)) - (v_10 σ x2 (σ.1 37 1)))) x3 (σ.1 37 2)) + (v_10 σ x2 (σ.1 37 0)))) x3 (σ.1 37 3)) + (v_10 σ x2 (σ.1 37 1)))) x2 x3 (v_10 σ x2 (σ.1 37 0)) (v_10 σ x2 (σ.1 37 1)) 0))))))
def f_44 (σ : am_M) (x2 : Int32) (x3 : Int32) : am_M := (l_44_109 14 (am_put (am_put (am_put (am_put σ 38 0 ((v_10 σ x3 (σ.1 37 0)) - (v_10 σ x2 (σ.1 37 0)))) 38 1 ((v_10 (am_put σ 38 0 ((v_10 σ x3 (σ.1 37 0)) - (v_10 σ x2 (σ.1 37 0)))) x3 (σ.1 37 1)) - (v_10 σ x2 (σ.1 37 1)))) 38 2 ((v_10 (am_put (am_put σ 38 0 ((v_10 σ x3 (σ.1 37 0)) - (v_10 σ x2 (σ.1 37 0)))) 38 1 ((v_10 (am_put σ 38 0 ((v_10 σ x3 (σ.1 37 0)) - (v_10 σ x2 (σ.1 37 0)))) x3 (σ.1 37 1)) - (v_10 σ x2 (σ.1 37 1)))) x3 (σ.1 37 2)) + (v_10 σ x2 (σ.1 37 0)))) 38 3 ((v_10 (am_put (am_put (am_put σ 38 0 ((v_10 σ x3 (σ.1 37 0)) - (v_10 σ x2 (σ.1 37 0)))) 38 1 ((v_10 (am_put σ 38 0 ((v_10 σ x3 (σ.1 37 0)) - (v_10 σ x2 (σ.1 37 0)))) x3 (σ.1 37 1)) - (v_10 σ x2 (σ.1 37 1)))) 38 2 ((v_10 (am_put (am_put σ 38 0 ((v_10 σ x3 (σ.1 37 0)) - (v_10 σ x2 (σ.1 37 0)))) 38 1 ((v_10 (am_put σ 38 0 ((v_10 σ x3 (σ.1 37 0)) - (v_10 σ x2 (σ.1 37 0)))) x3 (σ.1 37 1)) - (v_10 σ x2 (σ.1 37 1)))) x3 (σ.1 37 2)) + (v_10 σ x2 (σ.1 37 0)))) x3 (σ.1 37 3)) + (v_10 σ x2 (σ.1 37 1)))) x2 x3 (v_10 σ x2 (σ.1 37 0)) (v_10 σ x2 (σ.1 37 1)) 0)
set_option maxRecDepth 20000 in
theorem sf_44 (L : Nat) (σ : am_M) (x2 : Int32) (x3 : Int32) (h : p_44 σ x2 x3) : am_r L 44 0 [some (.inr (.inr (36, none))), some (.inr (.inr (20, none))), some (.inl x2), some (.inl x3), none, none, none, none, none, none, none, none] [] σ = some (none, am_sh0 L, (f_44 σ x2 x3)) := by
  unfold p_44 at h
  unfold f_44
  refine (e_44_0 _ _ _ _).trans ?_
  refine (if_neg (by decide)).trans ?_
  refine (am_bind_i (s_10 L σ x2 (σ.1 37 0) h.1)).trans ?_
  refine (e_44_11 _ _ _ _ _).trans ?_
  refine (if_neg (by decide)).trans ?_
  refine (am_bind_i (s_10 L σ x2 (σ.1 37 1) h.2.1)).trans ?_
  refine (e_44_24 _ _ _ _ _ _).trans ?_
  refine (if_neg (by decide)).trans ?_
  refine (am_bind_i (s_10 L σ x3 (σ.1 37 0) h.2.2.1)).trans ?_
  refine (e_44_42 _ _ _ _ _ _ _ _).trans ?_
  refine (if_neg (by decide)).trans ?_
  refine (if_neg (by decide)).trans ?_
  refine (am_bind_i (s_10 L (am_put σ 38 0 ((v_10 σ x3 (σ.1 37 0)) - (v_10 σ x2 (σ.1 37 0)))) x3 (σ.1 37 1) h.2.2.2.1)).trans ?_
  refine (e_44_62 _ _ _ _ _ _ _ _).trans ?_
  refine (if_neg (by decide)).trans ?_
  refine (if_neg (by decide)).trans ?_
  refine (am_bind_i (s_10 L (am_put (am_put σ 38 0 ((v_10 σ x3 (σ.1 37 0)) - (v_10 σ x2 (σ.1 37 0)))) 38 1 ((v_10 (am_put σ 38 0 ((v_10 σ x3 (σ.1 37 0)) - (v_10 σ x2 (σ.1 37 0)))) x3 (σ.1 37 1)) - (v_10 σ x2 (σ.1 37 1)))) x3 (σ.1 37 2) h.2.2.2.2.1)).trans ?_
  refine (e_44_82 _ _ _ _ _ _ _ _).trans ?_
  refine (if_neg (by decide)).trans ?_
  refine (if_neg (by decide)).trans ?_
  refine (am_bind_i (s_10 L (am_put (am_put (am_put σ 38 0 ((v_10 σ x3 (σ.1 37 0)) - (v_10 σ x2 (σ.1 37 0)))) 38 1 ((v_10 (am_put σ 38 0 ((v_10 σ x3 (σ.1 37 0)) - (v_10 σ x2 (σ.1 37 0)))) x3 (σ.1 37 1)) - (v_10 σ x2 (σ.1 37 1)))) 38 2 ((v_10 (am_put (am_put σ 38 0 ((v_10 σ x3 (σ.1 37 0)) - (v_10 σ x2 (σ.1 37 0)))) 38 1 ((v_10 (am_put σ 38 0 ((v_10 σ x3 (σ.1 37 0)) - (v_10 σ x2 (σ.1 37 0)))) x3 (σ.1 37 1)) - (v_10 σ x2 (σ.1 37 1)))) x3 (σ.1 37 2)) + (v_10 σ x2 (σ.1 37 0)))) x3 (σ.1 37 3) h.2.2.2.2.2.1)).trans ?_
  refine (e_44_102 _ _ _ _ _ _ _ _).trans ?_
  refine (if_neg (by decide)).trans ?_
  exact t_44_109 L 14 (am_put (am_put (am_put (am_put σ 38 0 ((v_10 σ x3 (σ.1 37 0)) - (v_10 σ x2 (σ.1 37 0)))) 38 1 ((v_10 (am_put σ 38 0 ((v_10 σ x3 (σ.1 37 0)) - (v_10 σ x2 (σ.1 37 0)))) x3 (σ.1 37 1)) - (v_10 σ x2 (σ.1 37 1)))) 38 2 ((v_10 (am_put (am_put σ 38 0 ((v_10 σ x3 (σ.1 37 0)) - (v_10 σ x2 (σ.1 37 0)))) 38 1 ((v_10 (am_put σ 38 0 ((v_10 σ x3 (σ.1 37 0)) - (v_10 σ x2 (σ.1 37 0)))) x3 (σ.1 37 1)) - (v_10 σ x2 (σ.1 37 1)))) x3 (σ.1 37 2)) + (v_10 σ x2 (σ.1 37 0)))) 38 3 ((v_10 (am_put (am_put (am_put σ 38 0 ((v_10 σ x3 (σ.1 37 0)) - (v_10 σ x2 (σ.1 37 0)))) 38 1 ((v_10 (am_put σ 38 0 ((v_10 σ x3 (σ.1 37 0)) - (v_10 σ x2 (σ.1 37 0)))) x3 (σ.1 37 1)) - (v_10 σ x2 (σ.1 37 1)))) 38 2 ((v_10 (am_put (am_put σ 38 0 ((v_10 σ x3 (σ.1 37 0)) - (v_10 σ x2 (σ.1 37 0)))) 38 1 ((v_10 (am_put σ 38 0 ((v_10 σ x3 (σ.1 37 0)) - (v_10 σ x2 (σ.1 37 0)))) x3 (σ.1 37 1)) - (v_10 σ x2 (σ.1 37 1)))) x3 (σ.1 37 2)) + (v_10 σ x2 (σ.1 37 0)))) x3 (σ.1 37 3)) + (v_10 σ x2 (σ.1 37 1)))) x2 x3 (v_10 σ x2 (σ.1 37 0)) (v_10 σ x2 (σ.1 37 1)) 0 none none none none none h.2.2.2.2.2.2
def w_44 (σ : am_M) (x2 : Int32) (x3 : Int32) : am_M := f_44 σ x2 x3
theorem s_44 (L : Nat) (σ : am_M) (x2 : Int32) (x3 : Int32) (h : p_44 σ x2 x3) : am_r L 44 0 [some (.inr (.inr (36, none))), some (.inr (.inr (20, none))), some (.inl x2), some (.inl x3), none, none, none, none, none, none, none, none] [] σ = some (none, am_sh0 L, w_44 σ x2 x3) := sf_44 L σ x2 x3 h
