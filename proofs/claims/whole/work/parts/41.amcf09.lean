-- 90: X5_fold
def l_90_102 (k69 : am_M → Int32 → Int32 → am_M) : Nat → am_M → Int32 → Int32 → Int32 → am_M
  | 0, σ, x1, x2, x3 => σ
  | n + 1, σ, x1, x2, x3 => (if x3 < 3 then (l_90_102 k69 n (am_put (am_put σ 60 ((((6 * x2) + x3)).toNatClampNeg) (if (((σ.1 56 ((((3 * x2) + x3)).toNatClampNeg)) + ((σ.1 54 (((4 * x2)).toNatClampNeg)) * (σ.1 57 ((((3 * x2) + x3)).toNatClampNeg)))) + ((σ.1 54 ((((4 * x2) + 1)).toNatClampNeg)) * (σ.1 58 ((((3 * x2) + x3)).toNatClampNeg)))) < (((σ.1 56 ((((3 * x2) + x3)).toNatClampNeg)) + ((σ.1 54 ((((4 * x2) + 2)).toNatClampNeg)) * (σ.1 57 ((((3 * x2) + x3)).toNatClampNeg)))) + ((σ.1 54 ((((4 * x2) + 3)).toNatClampNeg)) * (σ.1 58 ((((3 * x2) + x3)).toNatClampNeg)))) then ((((σ.1 56 ((((3 * x2) + x3)).toNatClampNeg)) + ((σ.1 54 (((4 * x2)).toNatClampNeg)) * (σ.1 57 ((((3 * x2) + x3)).toNatClampNeg)))) + ((σ.1 54 ((((4 * x2) + 1)).toNatClampNeg)) * (σ.1 58 ((((3 * x2) + x3)).toNatClampNeg)))) : Int32) else (((σ.1 56 ((((3 * x2) + x3)).toNatClampNeg)) + ((σ.1 54 ((((4 * x2) + 2)).toNatClampNeg)) * (σ.1 57 ((((3 * x2) + x3)).toNatClampNeg)))) + ((σ.1 54 ((((4 * x2) + 3)).toNatClampNeg)) * (σ.1 58 ((((3 * x2) + x3)).toNatClampNeg)))))) 60 (((((6 * x2) + 3) + x3)).toNatClampNeg) (if (((σ.1 56 ((((3 * x2) + x3)).toNatClampNeg)) + ((σ.1 54 (((4 * x2)).toNatClampNeg)) * (σ.1 57 ((((3 * x2) + x3)).toNatClampNeg)))) + ((σ.1 54 ((((4 * x2) + 1)).toNatClampNeg)) * (σ.1 58 ((((3 * x2) + x3)).toNatClampNeg)))) < (((σ.1 56 ((((3 * x2) + x3)).toNatClampNeg)) + ((σ.1 54 ((((4 * x2) + 2)).toNatClampNeg)) * (σ.1 57 ((((3 * x2) + x3)).toNatClampNeg)))) + ((σ.1 54 ((((4 * x2) + 3)).toNatClampNeg)) * (σ.1 58 ((((3 * x2) + x3)).toNatClampNeg)))) then ((((σ.1 56 ((((3 * x2) + x3)).toNatClampNeg)) + ((σ.1 54 ((((4 * x2) + 2)).toNatClampNeg)) * (σ.1 57 ((((3 * x2) + x3)).toNatClampNeg)))) + ((σ.1 54 ((((4 * x2) + 3)).toNatClampNeg)) * (σ.1 58 ((((3 * x2) + x3)).toNatClampNeg)))) : Int32) else (((σ.1 56 ((((3 * x2) + x3)).toNatClampNeg)) + ((σ.1 54 (((4 * x2)).toNatClampNeg)) * (σ.1 57 ((((3 * x2) + x3)).toNatClampNeg)))) + ((σ.1 54 ((((4 * x2) + 1)).toNatClampNeg)) * (σ.1 58 ((((3 * x2) + x3)).toNatClampNeg)))))) x1 x2 (x3 + 1)) else (k69 σ x1 (x2 + 1)))
def q_90_102 (c69 : am_M → Int32 → Int32 → Prop) : Nat → am_M → Int32 → Int32 → Int32 → Prop
  | 0, _, _, _, _ => False
  | n + 1, σ, x1, x2, x3 => ((x3 < 3) → ((¬ (((3 * x2) + x3) < 0 ∨ 39 ≤ (((3 * x2) + x3)).toNatClampNeg)) ∧ ((¬ ((4 * x2) < 0 ∨ 52 ≤ ((4 * x2)).toNatClampNeg)) ∧ ((¬ (((3 * x2) + x3) < 0 ∨ 39 ≤ (((3 * x2) + x3)).toNatClampNeg)) ∧ ((¬ (((4 * x2) + 1) < 0 ∨ 52 ≤ (((4 * x2) + 1)).toNatClampNeg)) ∧ ((¬ (((3 * x2) + x3) < 0 ∨ 39 ≤ (((3 * x2) + x3)).toNatClampNeg)) ∧ ((¬ (((3 * x2) + x3) < 0 ∨ 39 ≤ (((3 * x2) + x3)).toNatClampNeg)) ∧ ((¬ (((4 * x2) + 2) < 0 ∨ 52 ≤ (((4 * x2) + 2)).toNatClampNeg)) ∧ ((¬ (((3 * x2) + x3) < 0 ∨ 39 ≤ (((3 * x2) + x3)).toNatClampNeg)) ∧ ((¬ (((4 * x2) + 3) < 0 ∨ 52 ≤ (((4 * x2) + 3)).toNatClampNeg)) ∧ ((¬ (((3 * x2) + x3) < 0 ∨ 39 ≤ (((3 * x2) + x3)).toNatClampNeg)) ∧ ((¬ (((6 * x2) + x3) < 0 ∨ 78 ≤ (((6 * x2) + x3)).toNatClampNeg)) ∧ ((¬ ((((6 * x2) + 3) + x3) < 0 ∨ 78 ≤ ((((6 * x2) + 3) + x3)).toNatClampNeg)) ∧ (q_90_102 c69 n (am_put (am_put σ 60 ((((6 * x2) + x3)).toNatClampNeg) (if (((σ.1 56 ((((3 * x2) + x3)).toNatClampNeg)) + ((σ.1 54 (((4 * x2)).toNatClampNeg)) * (σ.1 57 ((((3 * x2) + x3)).toNatClampNeg)))) + ((σ.1 54 ((((4 * x2) + 1)).toNatClampNeg)) * (σ.1 58 ((((3 * x2) + x3)).toNatClampNeg)))) < (((σ.1 56 ((((3 * x2) + x3)).toNatClampNeg)) + ((σ.1 54 ((((4 * x2) + 2)).toNatClampNeg)) * (σ.1 57 ((((3 * x2) + x3)).toNatClampNeg)))) + ((σ.1 54 ((((4 * x2) + 3)).toNatClampNeg)) * (σ.1 58 ((((3 * x2) + x3)).toNatClampNeg)))) then ((((σ.1 56 ((((3 * x2) + x3)).toNatClampNeg)) + ((σ.1 54 (((4 * x2)).toNatClampNeg)) * (σ.1 57 ((((3 * x2) + x3)).toNatClampNeg)))) + ((σ.1 54 ((((4 * x2) + 1)).toNatClampNeg)) * (σ.1 58 ((((3 * x2) + x3)).toNatClampNeg)))) : Int32) else (((σ.1 56 ((((3 * x2) + x3)).toNatClampNeg)) + ((σ.1 54 ((((4 * x2) + 2)).toNatClampNeg)) * (σ.1 57 ((((3 * x2) + x3)).toNatClampNeg)))) + ((σ.1 54 ((((4 * x2) + 3)).toNatClampNeg)) * (σ.1 58 ((((3 * x2) + x3)).toNatClampNeg)))))) 60 (((((6 * x2) + 3) + x3)).toNatClampNeg) (if (((σ.1 56 ((((3 * x2) + x3)).toNatClampNeg)) + ((σ.1 54 (((4 * x2)).toNatClampNeg)) * (σ.1 57 ((((3 * x2) + x3)).toNatClampNeg)))) + ((σ.1 54 ((((4 * x2) + 1)).toNatClampNeg)) * (σ.1 58 ((((3 * x2) + x3)).toNatClampNeg)))) < (((σ.1 56 ((((3 * x2) + x3)).toNatClampNeg)) + ((σ.1 54 ((((4 * x2) + 2)).toNatClampNeg)) * (σ.1 57 ((((3 * x2) + x3)).toNatClampNeg)))) + ((σ.1 54 ((((4 * x2) + 3)).toNatClampNeg)) * (σ.1 58 ((((3 * x2) + x3)).toNatClampNeg)))) then ((((σ.1 56 ((((3 * x2) + x3)).toNatClampNeg)) + ((σ.1 54 ((((4 * x2) + 2)).toNatClampNeg)) * (σ.1 57 ((((3 * x2) + x3)).toNatClampNeg)))) + ((σ.1 54 ((((4 * x2) + 3)).toNatClampNeg)) * (σ.1 58 ((((3 * x2) + x3)).toNatClampNeg)))) : Int32) else (((σ.1 56 ((((3 * x2) + x3)).toNatClampNeg)) + ((σ.1 54 (((4 * x2)).toNatClampNeg)) * (σ.1 57 ((((3 * x2) + x3)).toNatClampNeg)))) + ((σ.1 54 ((((4 * x2) + 1)).toNatClampNeg)) * (σ.1 58 ((((3 * x2) + x3)).toNatClampNeg)))))) x1 x2 (x3 + 1))))))))))))))) ∧ (¬ (x3 < 3) → (c69 σ x1 (x2 + 1)))
set_option maxRecDepth 20000 in
theorem t_90_102 (L : Nat) (k69 : am_M → Int32 → Int32 → am_M) (c69 : am_M → Int32 → Int32 → Prop) (hk69 : ∀ (σ : am_M) (x1 : Int32) (x2 : Int32) (o3 : Option am_V) (o4 : Option am_V) (o5 : Option am_V), c69 σ x1 x2 → am_r L 90 69 [some (.inr (.inr (50, none))), some (.inl x1), some (.inl x2), o3, o4, o5] [] σ = some (none, am_sh0 L, (k69 σ x1 x2))) : ∀ (n : Nat) (σ : am_M) (x1 : Int32) (x2 : Int32) (x3 : Int32) (o4 : Option am_V) (o5 : Option am_V), q_90_102 c69 n σ x1 x2 x3 → am_r L 90 102 [some (.inr (.inr (50, none))), some (.inl x1), some (.inl x2), some (.inl x3), o4, o5] [] σ = some (none, am_sh0 L, (l_90_102 k69 n σ x1 x2 x3)) := by
  intro n
  induction n with
  | zero => intro σ x1 x2 x3 o4 o5 h; exact h.elim
  | succ n ih =>
    intro σ x1 x2 x3 o4 o5 h
    unfold q_90_102 at h
    unfold l_90_102
    refine (e_90_102 _ _ _ _ _ _ _).trans ?_
    refine am_fkVm (fun hc281 => ?_) (fun hc281 => ?_)
    · refine (if_neg ((h.1 hc281).1)).trans ?_
      refine (if_neg ((h.1 hc281).2.1)).trans ?_
      refine (e_90_131 _ _ _ _ _ _ _ _ _ _ _).trans ?_
      refine (if_neg ((h.1 hc281).2.2.1)).trans ?_
      refine (if_neg ((h.1 hc281).2.2.2.1)).trans ?_
      refine (e_90_156 _ _ _ _ _ _ _ _ _ _).trans ?_
      refine (if_neg ((h.1 hc281).2.2.2.2.1)).trans ?_
      refine (if_neg ((h.1 hc281).2.2.2.2.2.1)).trans ?_
      refine (if_neg ((h.1 hc281).2.2.2.2.2.2.1)).trans ?_
      refine (e_90_181 _ _ _ _ _ _ _ _ _).trans ?_
      refine (if_neg ((h.1 hc281).2.2.2.2.2.2.2.1)).trans ?_
      refine (if_neg ((h.1 hc281).2.2.2.2.2.2.2.2.1)).trans ?_
      refine (e_90_208 _ _ _ _ _ _ _ _ _ _).trans ?_
      refine (if_neg ((h.1 hc281).2.2.2.2.2.2.2.2.2.1)).trans ?_
      refine Eq.trans (b := am_r L 90 241 [some (.inr (.inr (50, none))), some (.inl x1), some (.inl x2), some (.inl x3), some (.inl (((σ.1 56 ((((3 * x2) + x3)).toNatClampNeg)) + ((σ.1 54 (((4 * x2)).toNatClampNeg)) * (σ.1 57 ((((3 * x2) + x3)).toNatClampNeg)))) + ((σ.1 54 ((((4 * x2) + 1)).toNatClampNeg)) * (σ.1 58 ((((3 * x2) + x3)).toNatClampNeg))))), some (.inl (((σ.1 56 ((((3 * x2) + x3)).toNatClampNeg)) + ((σ.1 54 ((((4 * x2) + 2)).toNatClampNeg)) * (σ.1 57 ((((3 * x2) + x3)).toNatClampNeg)))) + ((σ.1 54 ((((4 * x2) + 3)).toNatClampNeg)) * (σ.1 58 ((((3 * x2) + x3)).toNatClampNeg)))))] [.inl (if (((σ.1 56 ((((3 * x2) + x3)).toNatClampNeg)) + ((σ.1 54 (((4 * x2)).toNatClampNeg)) * (σ.1 57 ((((3 * x2) + x3)).toNatClampNeg)))) + ((σ.1 54 ((((4 * x2) + 1)).toNatClampNeg)) * (σ.1 58 ((((3 * x2) + x3)).toNatClampNeg)))) < (((σ.1 56 ((((3 * x2) + x3)).toNatClampNeg)) + ((σ.1 54 ((((4 * x2) + 2)).toNatClampNeg)) * (σ.1 57 ((((3 * x2) + x3)).toNatClampNeg)))) + ((σ.1 54 ((((4 * x2) + 3)).toNatClampNeg)) * (σ.1 58 ((((3 * x2) + x3)).toNatClampNeg)))) then ((((σ.1 56 ((((3 * x2) + x3)).toNatClampNeg)) + ((σ.1 54 (((4 * x2)).toNatClampNeg)) * (σ.1 57 ((((3 * x2) + x3)).toNatClampNeg)))) + ((σ.1 54 ((((4 * x2) + 1)).toNatClampNeg)) * (σ.1 58 ((((3 * x2) + x3)).toNatClampNeg)))) : Int32) else (((σ.1 56 ((((3 * x2) + x3)).toNatClampNeg)) + ((σ.1 54 ((((4 * x2) + 2)).toNatClampNeg)) * (σ.1 57 ((((3 * x2) + x3)).toNatClampNeg)))) + ((σ.1 54 ((((4 * x2) + 3)).toNatClampNeg)) * (σ.1 58 ((((3 * x2) + x3)).toNatClampNeg))))), .inl ((6 * x2) + x3), .inr (.inr (60, none))] σ) ?_ ?_
      · by_cases hc282 : (((σ.1 56 ((((3 * x2) + x3)).toNatClampNeg)) + ((σ.1 54 (((4 * x2)).toNatClampNeg)) * (σ.1 57 ((((3 * x2) + x3)).toNatClampNeg)))) + ((σ.1 54 ((((4 * x2) + 1)).toNatClampNeg)) * (σ.1 58 ((((3 * x2) + x3)).toNatClampNeg)))) < (((σ.1 56 ((((3 * x2) + x3)).toNatClampNeg)) + ((σ.1 54 ((((4 * x2) + 2)).toNatClampNeg)) * (σ.1 57 ((((3 * x2) + x3)).toNatClampNeg)))) + ((σ.1 54 ((((4 * x2) + 3)).toNatClampNeg)) * (σ.1 58 ((((3 * x2) + x3)).toNatClampNeg))))
        · refine (if_pos hc282).trans ?_
          refine Eq.trans (b := am_r L 90 241 [some (.inr (.inr (50, none))), some (.inl x1), some (.inl x2), some (.inl x3), some (.inl (((σ.1 56 ((((3 * x2) + x3)).toNatClampNeg)) + ((σ.1 54 (((4 * x2)).toNatClampNeg)) * (σ.1 57 ((((3 * x2) + x3)).toNatClampNeg)))) + ((σ.1 54 ((((4 * x2) + 1)).toNatClampNeg)) * (σ.1 58 ((((3 * x2) + x3)).toNatClampNeg))))), some (.inl (((σ.1 56 ((((3 * x2) + x3)).toNatClampNeg)) + ((σ.1 54 ((((4 * x2) + 2)).toNatClampNeg)) * (σ.1 57 ((((3 * x2) + x3)).toNatClampNeg)))) + ((σ.1 54 ((((4 * x2) + 3)).toNatClampNeg)) * (σ.1 58 ((((3 * x2) + x3)).toNatClampNeg)))))] [.inl (((σ.1 56 ((((3 * x2) + x3)).toNatClampNeg)) + ((σ.1 54 (((4 * x2)).toNatClampNeg)) * (σ.1 57 ((((3 * x2) + x3)).toNatClampNeg)))) + ((σ.1 54 ((((4 * x2) + 1)).toNatClampNeg)) * (σ.1 58 ((((3 * x2) + x3)).toNatClampNeg)))), .inl ((6 * x2) + x3), .inr (.inr (60, none))] σ) ?_ ?_
          · rfl
          · first | with_reducible rfl | simp only [if_pos hc282]
        · refine (if_neg hc282).trans ?_
          refine Eq.trans (b := am_r L 90 241 [some (.inr (.inr (50, none))), some (.inl x1), some (.inl x2), some (.inl x3), some (.inl (((σ.1 56 ((((3 * x2) + x3)).toNatClampNeg)) + ((σ.1 54 (((4 * x2)).toNatClampNeg)) * (σ.1 57 ((((3 * x2) + x3)).toNatClampNeg)))) + ((σ.1 54 ((((4 * x2) + 1)).toNatClampNeg)) * (σ.1 58 ((((3 * x2) + x3)).toNatClampNeg))))), some (.inl (((σ.1 56 ((((3 * x2) + x3)).toNatClampNeg)) + ((σ.1 54 ((((4 * x2) + 2)).toNatClampNeg)) * (σ.1 57 ((((3 * x2) + x3)).toNatClampNeg)))) + ((σ.1 54 ((((4 * x2) + 3)).toNatClampNeg)) * (σ.1 58 ((((3 * x2) + x3)).toNatClampNeg)))))] [.inl (((σ.1 56 ((((3 * x2) + x3)).toNatClampNeg)) + ((σ.1 54 ((((4 * x2) + 2)).toNatClampNeg)) * (σ.1 57 ((((3 * x2) + x3)).toNatClampNeg)))) + ((σ.1 54 ((((4 * x2) + 3)).toNatClampNeg)) * (σ.1 58 ((((3 * x2) + x3)).toNatClampNeg)))), .inl ((6 * x2) + x3), .inr (.inr (60, none))] σ) ?_ ?_
          · refine (e_90_239 _ _ _ _ _ _ _ _).trans ?_
            rfl
          · first | with_reducible rfl | simp only [if_neg hc282]
      refine (e_90_241 _ _ _ _ _ _ _ _ _).trans ?_
      refine (if_neg ((h.1 hc281).2.2.2.2.2.2.2.2.2.2.1)).trans ?_
      refine Eq.trans (b := am_r L 90 268 [some (.inr (.inr (50, none))), some (.inl x1), some (.inl x2), some (.inl x3), some (.inl (((σ.1 56 ((((3 * x2) + x3)).toNatClampNeg)) + ((σ.1 54 (((4 * x2)).toNatClampNeg)) * (σ.1 57 ((((3 * x2) + x3)).toNatClampNeg)))) + ((σ.1 54 ((((4 * x2) + 1)).toNatClampNeg)) * (σ.1 58 ((((3 * x2) + x3)).toNatClampNeg))))), some (.inl (((σ.1 56 ((((3 * x2) + x3)).toNatClampNeg)) + ((σ.1 54 ((((4 * x2) + 2)).toNatClampNeg)) * (σ.1 57 ((((3 * x2) + x3)).toNatClampNeg)))) + ((σ.1 54 ((((4 * x2) + 3)).toNatClampNeg)) * (σ.1 58 ((((3 * x2) + x3)).toNatClampNeg)))))] [.inl (if (((σ.1 56 ((((3 * x2) + x3)).toNatClampNeg)) + ((σ.1 54 (((4 * x2)).toNatClampNeg)) * (σ.1 57 ((((3 * x2) + x3)).toNatClampNeg)))) + ((σ.1 54 ((((4 * x2) + 1)).toNatClampNeg)) * (σ.1 58 ((((3 * x2) + x3)).toNatClampNeg)))) < (((σ.1 56 ((((3 * x2) + x3)).toNatClampNeg)) + ((σ.1 54 ((((4 * x2) + 2)).toNatClampNeg)) * (σ.1 57 ((((3 * x2) + x3)).toNatClampNeg)))) + ((σ.1 54 ((((4 * x2) + 3)).toNatClampNeg)) * (σ.1 58 ((((3 * x2) + x3)).toNatClampNeg)))) then ((((σ.1 56 ((((3 * x2) + x3)).toNatClampNeg)) + ((σ.1 54 ((((4 * x2) + 2)).toNatClampNeg)) * (σ.1 57 ((((3 * x2) + x3)).toNatClampNeg)))) + ((σ.1 54 ((((4 * x2) + 3)).toNatClampNeg)) * (σ.1 58 ((((3 * x2) + x3)).toNatClampNeg)))) : Int32) else (((σ.1 56 ((((3 * x2) + x3)).toNatClampNeg)) + ((σ.1 54 (((4 * x2)).toNatClampNeg)) * (σ.1 57 ((((3 * x2) + x3)).toNatClampNeg)))) + ((σ.1 54 ((((4 * x2) + 1)).toNatClampNeg)) * (σ.1 58 ((((3 * x2) + x3)).toNatClampNeg))))), .inl (((6 * x2) + 3) + x3), .inr (.inr (60, none))] (am_put σ 60 ((((6 * x2) + x3)).toNatClampNeg) (if (((σ.1 56 ((((3 * x2) + x3)).toNatClampNeg)) + ((σ.1 54 (((4 * x2)).toNatClampNeg)) * (σ.1 57 ((((3 * x2) + x3)).toNatClampNeg)))) + ((σ.1 54 ((((4 * x2) + 1)).toNatClampNeg)) * (σ.1 58 ((((3 * x2) + x3)).toNatClampNeg)))) < (((σ.1 56 ((((3 * x2) + x3)).toNatClampNeg)) + ((σ.1 54 ((((4 * x2) + 2)).toNatClampNeg)) * (σ.1 57 ((((3 * x2) + x3)).toNatClampNeg)))) + ((σ.1 54 ((((4 * x2) + 3)).toNatClampNeg)) * (σ.1 58 ((((3 * x2) + x3)).toNatClampNeg)))) then ((((σ.1 56 ((((3 * x2) + x3)).toNatClampNeg)) + ((σ.1 54 (((4 * x2)).toNatClampNeg)) * (σ.1 57 ((((3 * x2) + x3)).toNatClampNeg)))) + ((σ.1 54 ((((4 * x2) + 1)).toNatClampNeg)) * (σ.1 58 ((((3 * x2) + x3)).toNatClampNeg)))) : Int32) else (((σ.1 56 ((((3 * x2) + x3)).toNatClampNeg)) + ((σ.1 54 ((((4 * x2) + 2)).toNatClampNeg)) * (σ.1 57 ((((3 * x2) + x3)).toNatClampNeg)))) + ((σ.1 54 ((((4 * x2) + 3)).toNatClampNeg)) * (σ.1 58 ((((3 * x2) + x3)).toNatClampNeg))))))) ?_ ?_
      · by_cases hc283 : (((σ.1 56 ((((3 * x2) + x3)).toNatClampNeg)) + ((σ.1 54 (((4 * x2)).toNatClampNeg)) * (σ.1 57 ((((3 * x2) + x3)).toNatClampNeg)))) + ((σ.1 54 ((((4 * x2) + 1)).toNatClampNeg)) * (σ.1 58 ((((3 * x2) + x3)).toNatClampNeg)))) < (((σ.1 56 ((((3 * x2) + x3)).toNatClampNeg)) + ((σ.1 54 ((((4 * x2) + 2)).toNatClampNeg)) * (σ.1 57 ((((3 * x2) + x3)).toNatClampNeg)))) + ((σ.1 54 ((((4 * x2) + 3)).toNatClampNeg)) * (σ.1 58 ((((3 * x2) + x3)).toNatClampNeg))))
        · refine (if_pos hc283).trans ?_
          refine Eq.trans (b := am_r L 90 268 [some (.inr (.inr (50, none))), some (.inl x1), some (.inl x2), some (.inl x3), some (.inl (((σ.1 56 ((((3 * x2) + x3)).toNatClampNeg)) + ((σ.1 54 (((4 * x2)).toNatClampNeg)) * (σ.1 57 ((((3 * x2) + x3)).toNatClampNeg)))) + ((σ.1 54 ((((4 * x2) + 1)).toNatClampNeg)) * (σ.1 58 ((((3 * x2) + x3)).toNatClampNeg))))), some (.inl (((σ.1 56 ((((3 * x2) + x3)).toNatClampNeg)) + ((σ.1 54 ((((4 * x2) + 2)).toNatClampNeg)) * (σ.1 57 ((((3 * x2) + x3)).toNatClampNeg)))) + ((σ.1 54 ((((4 * x2) + 3)).toNatClampNeg)) * (σ.1 58 ((((3 * x2) + x3)).toNatClampNeg)))))] [.inl (((σ.1 56 ((((3 * x2) + x3)).toNatClampNeg)) + ((σ.1 54 ((((4 * x2) + 2)).toNatClampNeg)) * (σ.1 57 ((((3 * x2) + x3)).toNatClampNeg)))) + ((σ.1 54 ((((4 * x2) + 3)).toNatClampNeg)) * (σ.1 58 ((((3 * x2) + x3)).toNatClampNeg)))), .inl (((6 * x2) + 3) + x3), .inr (.inr (60, none))] (am_put σ 60 ((((6 * x2) + x3)).toNatClampNeg) (if (((σ.1 56 ((((3 * x2) + x3)).toNatClampNeg)) + ((σ.1 54 (((4 * x2)).toNatClampNeg)) * (σ.1 57 ((((3 * x2) + x3)).toNatClampNeg)))) + ((σ.1 54 ((((4 * x2) + 1)).toNatClampNeg)) * (σ.1 58 ((((3 * x2) + x3)).toNatClampNeg)))) < (((σ.1 56 ((((3 * x2) + x3)).toNatClampNeg)) + ((σ.1 54 ((((4 * x2) + 2)).toNatClampNeg)) * (σ.1 57 ((((3 * x2) + x3)).toNatClampNeg)))) + ((σ.1 54 ((((4 * x2) + 3)).toNatClampNeg)) * (σ.1 58 ((((3 * x2) + x3)).toNatClampNeg)))) then ((((σ.1 56 ((((3 * x2) + x3)).toNatClampNeg)) + ((σ.1 54 (((4 * x2)).toNatClampNeg)) * (σ.1 57 ((((3 * x2) + x3)).toNatClampNeg)))) + ((σ.1 54 ((((4 * x2) + 1)).toNatClampNeg)) * (σ.1 58 ((((3 * x2) + x3)).toNatClampNeg)))) : Int32) else (((σ.1 56 ((((3 * x2) + x3)).toNatClampNeg)) + ((σ.1 54 ((((4 * x2) + 2)).toNatClampNeg)) * (σ.1 57 ((((3 * x2) + x3)).toNatClampNeg)))) + ((σ.1 54 ((((4 * x2) + 3)).toNatClampNeg)) * (σ.1 58 ((((3 * x2) + x3)).toNatClampNeg))))))) ?_ ?_
          · rfl
          · first | with_reducible rfl | simp only [if_pos hc283]
        · refine (if_neg hc283).trans ?_
          refine Eq.trans (b := am_r L 90 268 [some (.inr (.inr (50, none))), some (.inl x1), some (.inl x2), some (.inl x3), some (.inl (((σ.1 56 ((((3 * x2) + x3)).toNatClampNeg)) + ((σ.1 54 (((4 * x2)).toNatClampNeg)) * (σ.1 57 ((((3 * x2) + x3)).toNatClampNeg)))) + ((σ.1 54 ((((4 * x2) + 1)).toNatClampNeg)) * (σ.1 58 ((((3 * x2) + x3)).toNatClampNeg))))), some (.inl (((σ.1 56 ((((3 * x2) + x3)).toNatClampNeg)) + ((σ.1 54 ((((4 * x2) + 2)).toNatClampNeg)) * (σ.1 57 ((((3 * x2) + x3)).toNatClampNeg)))) + ((σ.1 54 ((((4 * x2) + 3)).toNatClampNeg)) * (σ.1 58 ((((3 * x2) + x3)).toNatClampNeg)))))] [.inl (((σ.1 56 ((((3 * x2) + x3)).toNatClampNeg)) + ((σ.1 54 (((4 * x2)).toNatClampNeg)) * (σ.1 57 ((((3 * x2) + x3)).toNatClampNeg)))) + ((σ.1 54 ((((4 * x2) + 1)).toNatClampNeg)) * (σ.1 58 ((((3 * x2) + x3)).toNatClampNeg)))), .inl (((6 * x2) + 3) + x3), .inr (.inr (60, none))] (am_put σ 60 ((((6 * x2) + x3)).toNatClampNeg) (if (((σ.1 56 ((((3 * x2) + x3)).toNatClampNeg)) + ((σ.1 54 (((4 * x2)).toNatClampNeg)) * (σ.1 57 ((((3 * x2) + x3)).toNatClampNeg)))) + ((σ.1 54 ((((4 * x2) + 1)).toNatClampNeg)) * (σ.1 58 ((((3 * x2) + x3)).toNatClampNeg)))) < (((σ.1 56 ((((3 * x2) + x3)).toNatClampNeg)) + ((σ.1 54 ((((4 * x2) + 2)).toNatClampNeg)) * (σ.1 57 ((((3 * x2) + x3)).toNatClampNeg)))) + ((σ.1 54 ((((4 * x2) + 3)).toNatClampNeg)) * (σ.1 58 ((((3 * x2) + x3)).toNatClampNeg)))) then ((((σ.1 56 ((((3 * x2) + x3)).toNatClampNeg)) + ((σ.1 54 (((4 * x2)).toNatClampNeg)) * (σ.1 57 ((((3 * x2) + x3)).toNatClampNeg)))) + ((σ.1 54 ((((4 * x2) + 1)).toNatClampNeg)) * (σ.1 58 ((((3 * x2) + x3)).toNatClampNeg)))) : Int32) else (((σ.1 56 ((((3 * x2) + x3)).toNatClampNeg)) + ((σ.1 54 ((((4 * x2) + 2)).toNatClampNeg)) * (σ.1 57 ((((3 * x2) + x3)).toNatClampNeg)))) + ((σ.1 54 ((((4 * x2) + 3)).toNatClampNeg)) * (σ.1 58 ((((3 * x2) + x3)).toNatClampNeg))))))) ?_ ?_
          · refine (e_90_266 _ _ _ _ _ _ _ _).trans ?_
            rfl
          · first | with_reducible rfl | simp only [if_neg hc283]
      refine (e_90_268 _ _ _ _ _ _ _ _ _).trans ?_
      refine (if_neg ((h.1 hc281).2.2.2.2.2.2.2.2.2.2.2.1)).trans ?_
      exact ih (am_put (am_put σ 60 ((((6 * x2) + x3)).toNatClampNeg) (if (((σ.1 56 ((((3 * x2) + x3)).toNatClampNeg)) + ((σ.1 54 (((4 * x2)).toNatClampNeg)) * (σ.1 57 ((((3 * x2) + x3)).toNatClampNeg)))) + ((σ.1 54 ((((4 * x2) + 1)).toNatClampNeg)) * (σ.1 58 ((((3 * x2) + x3)).toNatClampNeg)))) < (((σ.1 56 ((((3 * x2) + x3)).toNatClampNeg)) + ((σ.1 54 ((((4 * x2) + 2)).toNatClampNeg)) * (σ.1 57 ((((3 * x2) + x3)).toNatClampNeg)))) + ((σ.1 54 ((((4 * x2) + 3)).toNatClampNeg)) * (σ.1 58 ((((3 * x2) + x3)).toNatClampNeg)))) then ((((σ.1 56 ((((3 * x2) + x3)).toNatClampNeg)) + ((σ.1 54 (((4 * x2)).toNatClampNeg)) * (σ.1 57 ((((3 * x2) + x3)).toNatClampNeg)))) + ((σ.1 54 ((((4 * x2) + 1)).toNatClampNeg)) * (σ.1 58 ((((3 * x2) + x3)).toNatClampNeg)))) : Int32) else (((σ.1 56 ((((3 * x2) + x3)).toNatClampNeg)) + ((σ.1 54 ((((4 * x2) + 2)).toNatClampNeg)) * (σ.1 57 ((((3 * x2) + x3)).toNatClampNeg)))) + ((σ.1 54 ((((4 * x2) + 3)).toNatClampNeg)) * (σ.1 58 ((((3 * x2) + x3)).toNatClampNeg)))))) 60 (((((6 * x2) + 3) + x3)).toNatClampNeg) (if (((σ.1 56 ((((3 * x2) + x3)).toNatClampNeg)) + ((σ.1 54 (((4 * x2)).toNatClampNeg)) * (σ.1 57 ((((3 * x2) + x3)).toNatClampNeg)))) + ((σ.1 54 ((((4 * x2) + 1)).toNatClampNeg)) * (σ.1 58 ((((3 * x2) + x3)).toNatClampNeg)))) < (((σ.1 56 ((((3 * x2) + x3)).toNatClampNeg)) + ((σ.1 54 ((((4 * x2) + 2)).toNatClampNeg)) * (σ.1 57 ((((3 * x2) + x3)).toNatClampNeg)))) + ((σ.1 54 ((((4 * x2) + 3)).toNatClampNeg)) * (σ.1 58 ((((3 * x2) + x3)).toNatClampNeg)))) then ((((σ.1 56 ((((3 * x2) + x3)).toNatClampNeg)) + ((σ.1 54 ((((4 * x2) + 2)).toNatClampNeg)) * (σ.1 57 ((((3 * x2) + x3)).toNatClampNeg)))) + ((σ.1 54 ((((4 * x2) + 3)).toNatClampNeg)) * (σ.1 58 ((((3 * x2) + x3)).toNatClampNeg)))) : Int32) else (((σ.1 56 ((((3 * x2) + x3)).toNatClampNeg)) + ((σ.1 54 (((4 * x2)).toNatClampNeg)) * (σ.1 57 ((((3 * x2) + x3)).toNatClampNeg)))) + ((σ.1 54 ((((4 * x2) + 1)).toNatClampNeg)) * (σ.1 58 ((((3 * x2) + x3)).toNatClampNeg)))))) x1 x2 (x3 + 1) (some (.inl (((σ.1 56 ((((3 * x2) + x3)).toNatClampNeg)) + ((σ.1 54 (((4 * x2)).toNatClampNeg)) * (σ.1 57 ((((3 * x2) + x3)).toNatClampNeg)))) + ((σ.1 54 ((((4 * x2) + 1)).toNatClampNeg)) * (σ.1 58 ((((3 * x2) + x3)).toNatClampNeg)))))) (some (.inl (((σ.1 56 ((((3 * x2) + x3)).toNatClampNeg)) + ((σ.1 54 ((((4 * x2) + 2)).toNatClampNeg)) * (σ.1 57 ((((3 * x2) + x3)).toNatClampNeg)))) + ((σ.1 54 ((((4 * x2) + 3)).toNatClampNeg)) * (σ.1 58 ((((3 * x2) + x3)).toNatClampNeg)))))) ((h.1 hc281).2.2.2.2.2.2.2.2.2.2.2.2)
    · refine (e_90_275 _ _ _ _ _ _ _).trans ?_
      exact hk69 σ x1 (x2 + 1) (some (.inl x3)) o4 o5 ((h.2 hc281))
def l_90_69 : Nat → am_M → Int32 → Int32 → am_M
  | 0, σ, x1, x2 => σ
  | n + 1, σ, x1, x2 => (if x2 < (σ.1 50 1) then (if 0 < x2 then (l_90_102 (l_90_69 n) 14 (w_89 σ x2 (if ((x1 >>> (x2 &&& (31 : Int32))) &&& (1 : Int32)) = 1 then (1 : Int32) else 0)) x1 x2 0) else (l_90_102 (l_90_69 n) 14 σ x1 x2 0)) else σ)
def q_90_69 : Nat → am_M → Int32 → Int32 → Prop
  | 0, _, _, _ => False
  | n + 1, σ, x1, x2 => (x2 < (σ.1 50 1)) → (((0 < x2) → ((p_89 σ x2 (if ((x1 >>> (x2 &&& (31 : Int32))) &&& (1 : Int32)) = 1 then (1 : Int32) else 0)) ∧ (q_90_102 (q_90_69 n) 14 (w_89 σ x2 (if ((x1 >>> (x2 &&& (31 : Int32))) &&& (1 : Int32)) = 1 then (1 : Int32) else 0)) x1 x2 0))) ∧ (¬ (0 < x2) → (q_90_102 (q_90_69 n) 14 σ x1 x2 0)))
set_option maxRecDepth 20000 in
theorem t_90_69 (L : Nat) : ∀ (n : Nat) (σ : am_M) (x1 : Int32) (x2 : Int32) (o3 : Option am_V) (o4 : Option am_V) (o5 : Option am_V), q_90_69 n σ x1 x2 → am_r L 90 69 [some (.inr (.inr (50, none))), some (.inl x1), some (.inl x2), o3, o4, o5] [] σ = some (none, am_sh0 L, (l_90_69 n σ x1 x2)) := by
  intro n
  induction n with
  | zero => intro σ x1 x2 o3 o4 o5 h; exact h.elim
  | succ n ih =>
    intro σ x1 x2 o3 o4 o5 h
    unfold q_90_69 at h
    unfold l_90_69
    refine (e_90_69 _ _ _ _ _ _ _).trans ?_
    refine am_fkVm (fun hc284 => ?_) (fun hc284 => ?_)
    · refine am_fkVm (fun hc285 => ?_) (fun hc285 => ?_)
      · refine Eq.trans (b := am_r L 90 97 [some (.inr (.inr (50, none))), some (.inl x1), some (.inl x2), o3, o4, o5] [.inl (if ((x1 >>> (x2 &&& (31 : Int32))) &&& (1 : Int32)) = 1 then (1 : Int32) else 0), .inl x2, .inr (.inr (50, none))] σ) ?_ ?_
        · by_cases hc286 : ((x1 >>> (x2 &&& (31 : Int32))) &&& (1 : Int32)) = 1
          · refine (if_pos hc286).trans ?_
            refine Eq.trans (b := am_r L 90 97 [some (.inr (.inr (50, none))), some (.inl x1), some (.inl x2), o3, o4, o5] [.inl 1, .inl x2, .inr (.inr (50, none))] σ) ?_ ?_
            · rfl
            · first | with_reducible rfl | simp only [if_pos hc286]
          · refine (if_neg hc286).trans ?_
            refine Eq.trans (b := am_r L 90 97 [some (.inr (.inr (50, none))), some (.inl x1), some (.inl x2), o3, o4, o5] [.inl 0, .inl x2, .inr (.inr (50, none))] σ) ?_ ?_
            · refine (e_90_96 _ _ _ _ _ _ _ _).trans ?_
              rfl
            · first | with_reducible rfl | simp only [if_neg hc286]
        refine (e_90_97 _ _ _ _ _ _ _ _ _).trans ?_
        refine (am_bind_v (s_89 L σ x2 (if ((x1 >>> (x2 &&& (31 : Int32))) &&& (1 : Int32)) = 1 then (1 : Int32) else 0) (((h hc284).1 hc285).1))).trans ?_
        refine (e_90_100 _ _ _ _ _ _ _).trans ?_
        exact t_90_102 L (l_90_69 n) (q_90_69 n) ih 14 (w_89 σ x2 (if ((x1 >>> (x2 &&& (31 : Int32))) &&& (1 : Int32)) = 1 then (1 : Int32) else 0)) x1 x2 0 o4 o5 (((h hc284).1 hc285).2)
      · refine (e_90_100 _ _ _ _ _ _ _).trans ?_
        exact t_90_102 L (l_90_69 n) (q_90_69 n) ih 14 σ x1 x2 0 o4 o5 (((h hc284).2 hc285))
    · refine (e_90_281 _ _ _ _ _ _ _).trans ?_
      rfl
def l_90_2 : Nat → am_M → Int32 → Int32 → am_M
  | 0, σ, x1, x2 => σ
  | n + 1, σ, x1, x2 => (if x2 < 3 then (l_90_2 n (am_put (am_put (am_put (am_put σ 56 x2.toNatClampNeg 0) 57 x2.toNatClampNeg (if x2 = 0 then (1 : Int32) else 0)) 58 x2.toNatClampNeg (if x2 = 1 then (1 : Int32) else 0)) 59 x2.toNatClampNeg (if x2 = 2 then (1 : Int32) else 0)) x1 (x2 + 1)) else (l_90_69 14 σ x1 0))
def q_90_2 : Nat → am_M → Int32 → Int32 → Prop
  | 0, _, _, _ => False
  | n + 1, σ, x1, x2 => ((x2 < 3) → ((¬ (x2 < 0 ∨ 39 ≤ x2.toNatClampNeg)) ∧ ((¬ (x2 < 0 ∨ 39 ≤ x2.toNatClampNeg)) ∧ ((¬ (x2 < 0 ∨ 39 ≤ x2.toNatClampNeg)) ∧ ((¬ (x2 < 0 ∨ 39 ≤ x2.toNatClampNeg)) ∧ (q_90_2 n (am_put (am_put (am_put (am_put σ 56 x2.toNatClampNeg 0) 57 x2.toNatClampNeg (if x2 = 0 then (1 : Int32) else 0)) 58 x2.toNatClampNeg (if x2 = 1 then (1 : Int32) else 0)) 59 x2.toNatClampNeg (if x2 = 2 then (1 : Int32) else 0)) x1 (x2 + 1))))))) ∧ (¬ (x2 < 3) → (q_90_69 14 σ x1 0))
set_option maxRecDepth 20000 in
theorem t_90_2 (L : Nat) : ∀ (n : Nat) (σ : am_M) (x1 : Int32) (x2 : Int32), q_90_2 n σ x1 x2 → am_r L 90 2 [some (.inr (.inr (50, none))), some (.inl x1), some (.inl x2), none, none, none] [] σ = some (none, am_sh0 L, (l_90_2 n σ x1 x2)) := by
  intro n
  induction n with
  | zero => intro σ x1 x2 h; exact h.elim
  | succ n ih =>
    intro σ x1 x2 h
    unfold q_90_2 at h
    unfold l_90_2
    refine (e_90_2 _ _ _ _).trans ?_
    refine am_fkVm (fun hc287 => ?_) (fun hc287 => ?_)
    · refine (if_neg ((h.1 hc287).1)).trans ?_
      refine Eq.trans (b := am_r L 90 28 [some (.inr (.inr (50, none))), some (.inl x1), some (.inl x2), none, none, none] [.inl (if x2 = 0 then (1 : Int32) else 0), .inl x2, .inr (.inr (57, none))] (am_put σ 56 x2.toNatClampNeg 0)) ?_ ?_
      · by_cases hc288 : x2 = 0
        · refine (if_pos hc288).trans ?_
          refine Eq.trans (b := am_r L 90 28 [some (.inr (.inr (50, none))), some (.inl x1), some (.inl x2), none, none, none] [.inl 1, .inl x2, .inr (.inr (57, none))] (am_put σ 56 x2.toNatClampNeg 0)) ?_ ?_
          · rfl
          · first | with_reducible rfl | simp only [if_pos hc288]
        · refine (if_neg hc288).trans ?_
          refine Eq.trans (b := am_r L 90 28 [some (.inr (.inr (50, none))), some (.inl x1), some (.inl x2), none, none, none] [.inl 0, .inl x2, .inr (.inr (57, none))] (am_put σ 56 x2.toNatClampNeg 0)) ?_ ?_
          · refine (e_90_27 _ _ _ _ _).trans ?_
            rfl
          · first | with_reducible rfl | simp only [if_neg hc288]
      refine (e_90_28 _ _ _ _ _ _).trans ?_
      refine (if_neg ((h.1 hc287).2.1)).trans ?_
      refine Eq.trans (b := am_r L 90 44 [some (.inr (.inr (50, none))), some (.inl x1), some (.inl x2), none, none, none] [.inl (if x2 = 1 then (1 : Int32) else 0), .inl x2, .inr (.inr (58, none))] (am_put (am_put σ 56 x2.toNatClampNeg 0) 57 x2.toNatClampNeg (if x2 = 0 then (1 : Int32) else 0))) ?_ ?_
      · by_cases hc289 : x2 = 1
        · refine (if_pos hc289).trans ?_
          refine Eq.trans (b := am_r L 90 44 [some (.inr (.inr (50, none))), some (.inl x1), some (.inl x2), none, none, none] [.inl 1, .inl x2, .inr (.inr (58, none))] (am_put (am_put σ 56 x2.toNatClampNeg 0) 57 x2.toNatClampNeg (if x2 = 0 then (1 : Int32) else 0))) ?_ ?_
          · rfl
          · first | with_reducible rfl | simp only [if_pos hc289]
        · refine (if_neg hc289).trans ?_
          refine Eq.trans (b := am_r L 90 44 [some (.inr (.inr (50, none))), some (.inl x1), some (.inl x2), none, none, none] [.inl 0, .inl x2, .inr (.inr (58, none))] (am_put (am_put σ 56 x2.toNatClampNeg 0) 57 x2.toNatClampNeg (if x2 = 0 then (1 : Int32) else 0))) ?_ ?_
          · refine (e_90_43 _ _ _ _ _).trans ?_
            rfl
          · first | with_reducible rfl | simp only [if_neg hc289]
      refine (e_90_44 _ _ _ _ _ _).trans ?_
      refine (if_neg ((h.1 hc287).2.2.1)).trans ?_
      refine Eq.trans (b := am_r L 90 60 [some (.inr (.inr (50, none))), some (.inl x1), some (.inl x2), none, none, none] [.inl (if x2 = 2 then (1 : Int32) else 0), .inl x2, .inr (.inr (59, none))] (am_put (am_put (am_put σ 56 x2.toNatClampNeg 0) 57 x2.toNatClampNeg (if x2 = 0 then (1 : Int32) else 0)) 58 x2.toNatClampNeg (if x2 = 1 then (1 : Int32) else 0))) ?_ ?_
      · by_cases hc290 : x2 = 2
        · refine (if_pos hc290).trans ?_
          refine Eq.trans (b := am_r L 90 60 [some (.inr (.inr (50, none))), some (.inl x1), some (.inl x2), none, none, none] [.inl 1, .inl x2, .inr (.inr (59, none))] (am_put (am_put (am_put σ 56 x2.toNatClampNeg 0) 57 x2.toNatClampNeg (if x2 = 0 then (1 : Int32) else 0)) 58 x2.toNatClampNeg (if x2 = 1 then (1 : Int32) else 0))) ?_ ?_
          · rfl
          · first | with_reducible rfl | simp only [if_pos hc290]
        · refine (if_neg hc290).trans ?_
          refine Eq.trans (b := am_r L 90 60 [some (.inr (.inr (50, none))), some (.inl x1), some (.inl x2), none, none, none] [.inl 0, .inl x2, .inr (.inr (59, none))] (am_put (am_put (am_put σ 56 x2.toNatClampNeg 0) 57 x2.toNatClampNeg (if x2 = 0 then (1 : Int32) else 0)) 58 x2.toNatClampNeg (if x2 = 1 then (1 : Int32) else 0))) ?_ ?_
          · refine (e_90_59 _ _ _ _ _).trans ?_
            rfl
          · first | with_reducible rfl | simp only [if_neg hc290]
      refine (e_90_60 _ _ _ _ _ _).trans ?_
      refine (if_neg ((h.1 hc287).2.2.2.1)).trans ?_
      exact ih (am_put (am_put (am_put (am_put σ 56 x2.toNatClampNeg 0) 57 x2.toNatClampNeg (if x2 = 0 then (1 : Int32) else 0)) 58 x2.toNatClampNeg (if x2 = 1 then (1 : Int32) else 0)) 59 x2.toNatClampNeg (if x2 = 2 then (1 : Int32) else 0)) x1 (x2 + 1) ((h.1 hc287).2.2.2.2)
    · refine (e_90_67 _ _ _ _).trans ?_
      exact t_90_69 L 14 σ x1 0 none none none ((h.2 hc287))
def p_90 (σ : am_M) (x1 : Int32) : Prop := q_90_2 14 σ x1 0
def f_90 (σ : am_M) (x1 : Int32) : am_M := (l_90_2 14 σ x1 0)
set_option maxRecDepth 20000 in
theorem sf_90 (L : Nat) (σ : am_M) (x1 : Int32) (h : p_90 σ x1) : am_r L 90 0 [some (.inr (.inr (50, none))), some (.inl x1), none, none, none, none] [] σ = some (none, am_sh0 L, (f_90 σ x1)) := by
  unfold p_90 at h
  unfold f_90
  refine (e_90_0 _ _ _).trans ?_
  exact t_90_2 L 14 σ x1 0 h
def w_90 (σ : am_M) (x1 : Int32) : am_M := f_90 σ x1
theorem s_90 (L : Nat) (σ : am_M) (x1 : Int32) (h : p_90 σ x1) : am_r L 90 0 [some (.inr (.inr (50, none))), some (.inl x1), none, none, none, none] [] σ = some (none, am_sh0 L, w_90 σ x1) := sf_90 L σ x1 h
-- 91: X5_place
def p_91 (σ : am_M) (x1 : Int32) (x2 : Int32) (x3 : Int32) : Prop := ¬ ((v_88 (am_put σ 50 0 0) x1) = 0) → (¬ ((v_75 (am_put σ 50 0 0) (Int32.toInt64 x2) ((0 : Int32).toInt64) ((Int32.toInt64 (σ.1 50 1)) - (1 : Int32).toInt64)) = 0) → (¬ ((v_75 (am_put σ 50 0 0) (Int32.toInt64 x3) ((0 : Int32).toInt64) ((5 : Int32).toInt64)) = 0) → ((p_90 (am_put σ 50 0 0) x1) ∧ (¬ (((6 * x2) + x3) < 0 ∨ 78 ≤ (((6 * x2) + x3)).toNatClampNeg)))))
def v_91 (σ : am_M) (x1 : Int32) (x2 : Int32) (x3 : Int32) : Int32 := (if (v_88 (am_put σ 50 0 0) x1) = 0 then (-1000000) else (if (v_75 (am_put σ 50 0 0) (Int32.toInt64 x2) ((0 : Int32).toInt64) ((Int32.toInt64 (σ.1 50 1)) - (1 : Int32).toInt64)) = 0 then (-1000000) else (if (v_75 (am_put σ 50 0 0) (Int32.toInt64 x3) ((0 : Int32).toInt64) ((5 : Int32).toInt64)) = 0 then (-1000000) else ((w_90 (am_put σ 50 0 0) x1).1 60 ((((6 * x2) + x3)).toNatClampNeg)))))
def w_91 (σ : am_M) (x1 : Int32) (x2 : Int32) (x3 : Int32) : am_M := (if (v_88 (am_put σ 50 0 0) x1) = 0 then (am_put σ 50 0 0) else (if (v_75 (am_put σ 50 0 0) (Int32.toInt64 x2) ((0 : Int32).toInt64) ((Int32.toInt64 (σ.1 50 1)) - (1 : Int32).toInt64)) = 0 then (am_put σ 50 0 0) else (if (v_75 (am_put σ 50 0 0) (Int32.toInt64 x3) ((0 : Int32).toInt64) ((5 : Int32).toInt64)) = 0 then (am_put σ 50 0 0) else (w_90 (am_put σ 50 0 0) x1))))
set_option maxRecDepth 20000 in
theorem s_91 (L : Nat) (σ : am_M) (x1 : Int32) (x2 : Int32) (x3 : Int32) (h : p_91 σ x1 x2 x3) : am_r L 91 0 [some (.inr (.inr (50, none))), some (.inl x1), some (.inl x2), some (.inl x3)] [] σ = some (some (.inl (v_91 σ x1 x2 x3)), am_sh0 L, w_91 σ x1 x2 x3) := by
  unfold p_91 at h
  unfold v_91 w_91
  refine (e_91_0 _ _ _ _ _).trans ?_
  refine (am_bind_i (s_88 L (am_put σ 50 0 0) x1)).trans ?_
  refine (e_91_10 _ _ _ _ _ _).trans ?_
  refine am_fkIvm (fun hc291 => ?_) (fun hc291 => ?_)
  · refine (e_91_41 _ _ _ _ _).trans ?_
    rfl
  · refine (am_bind_i (s_75 L (am_put σ 50 0 0) (Int32.toInt64 x2) ((0 : Int32).toInt64) ((Int32.toInt64 (σ.1 50 1)) - (1 : Int32).toInt64))).trans ?_
    refine (e_91_26 _ _ _ _ _ _).trans ?_
    refine am_fkIvm (fun hc292 => ?_) (fun hc292 => ?_)
    · refine (e_91_41 _ _ _ _ _).trans ?_
      rfl
    · refine (am_bind_i (s_75 L (am_put σ 50 0 0) (Int32.toInt64 x3) ((0 : Int32).toInt64) ((5 : Int32).toInt64))).trans ?_
      refine (e_91_38 _ _ _ _ _ _).trans ?_
      refine am_fkIvm (fun hc293 => ?_) (fun hc293 => ?_)
      · refine (e_91_41 _ _ _ _ _).trans ?_
        rfl
      · refine (e_91_44 _ _ _ _ _).trans ?_
        refine (am_bind_v (s_90 L (am_put σ 50 0 0) x1 ((((h hc291) hc292) hc293).1))).trans ?_
        refine (e_91_49 _ _ _ _ _).trans ?_
        refine (if_neg ((((h hc291) hc292) hc293).2)).trans ?_
        rfl
-- 92: X5_isInner
def l_92_5 : Nat → am_M → Int32 → Int32 → Int32 → Int32 → Int32
  | 0, _, _, _, _, _ => 0
  | n + 1, σ, x1, x2, x3, x4 => (if x4 < 3 then (l_92_5 n σ x1 x2 (if x3 = 0 then (0 : Int32) else (if (σ.1 60 ((((6 * x1) + x4)).toNatClampNeg)) = (σ.1 60 (((((6 * x1) + 3) + x4)).toNatClampNeg)) then ((if (σ.1 60 ((((6 * x1) + x4)).toNatClampNeg)) < (σ.1 60 ((((6 * x2) + x4)).toNatClampNeg)) then (0 : Int32) else (if (σ.1 60 (((((6 * x2) + 3) + x4)).toNatClampNeg)) < (σ.1 60 ((((6 * x1) + x4)).toNatClampNeg)) then (0 : Int32) else 1)) : Int32) else (if (σ.1 60 ((((6 * x1) + x4)).toNatClampNeg)) < (σ.1 60 (((((6 * x2) + 3) + x4)).toNatClampNeg)) then ((if (σ.1 60 ((((6 * x2) + x4)).toNatClampNeg)) < (σ.1 60 (((((6 * x1) + 3) + x4)).toNatClampNeg)) then (1 : Int32) else 0) : Int32) else 0))) (x4 + 1)) else x3)
def q_92_5 : Nat → am_M → Int32 → Int32 → Int32 → Int32 → Prop
  | 0, _, _, _, _, _ => False
  | n + 1, σ, x1, x2, x3, x4 => ((x4 < 3) → ((¬ (((6 * x1) + x4) < 0 ∨ 78 ≤ (((6 * x1) + x4)).toNatClampNeg)) ∧ ((¬ ((((6 * x1) + 3) + x4) < 0 ∨ 78 ≤ ((((6 * x1) + 3) + x4)).toNatClampNeg)) ∧ ((¬ (((6 * x2) + x4) < 0 ∨ 78 ≤ (((6 * x2) + x4)).toNatClampNeg)) ∧ ((¬ ((((6 * x2) + 3) + x4) < 0 ∨ 78 ≤ ((((6 * x2) + 3) + x4)).toNatClampNeg)) ∧ (q_92_5 n σ x1 x2 (if x3 = 0 then (0 : Int32) else (if (σ.1 60 ((((6 * x1) + x4)).toNatClampNeg)) = (σ.1 60 (((((6 * x1) + 3) + x4)).toNatClampNeg)) then ((if (σ.1 60 ((((6 * x1) + x4)).toNatClampNeg)) < (σ.1 60 ((((6 * x2) + x4)).toNatClampNeg)) then (0 : Int32) else (if (σ.1 60 (((((6 * x2) + 3) + x4)).toNatClampNeg)) < (σ.1 60 ((((6 * x1) + x4)).toNatClampNeg)) then (0 : Int32) else 1)) : Int32) else (if (σ.1 60 ((((6 * x1) + x4)).toNatClampNeg)) < (σ.1 60 (((((6 * x2) + 3) + x4)).toNatClampNeg)) then ((if (σ.1 60 ((((6 * x2) + x4)).toNatClampNeg)) < (σ.1 60 (((((6 * x1) + 3) + x4)).toNatClampNeg)) then (1 : Int32) else 0) : Int32) else 0))) (x4 + 1))))))) ∧ (¬ (x4 < 3) → ((x3 = 0 ∨ x3 = 1)))
set_option maxRecDepth 20000 in
theorem t_92_5 (L : Nat) (σ : am_M) : ∀ (n : Nat) (x1 : Int32) (x2 : Int32) (x3 : Int32) (x4 : Int32) (o5 : Option am_V) (o6 : Option am_V) (o7 : Option am_V) (o8 : Option am_V), q_92_5 n σ x1 x2 x3 x4 → am_r L 92 5 [some (.inr (.inr (50, none))), some (.inl x1), some (.inl x2), some (.inl x3), some (.inl x4), o5, o6, o7, o8] [] σ = some (some (.inl (l_92_5 n σ x1 x2 x3 x4)), am_sh0 L, σ) := by
  intro n
  induction n with
  | zero => intro x1 x2 x3 x4 o5 o6 o7 o8 h; exact h.elim
  | succ n ih =>
    intro x1 x2 x3 x4 o5 o6 o7 o8 h
    unfold q_92_5 at h
    unfold l_92_5
    refine (e_92_5 _ _ _ _ _ _ _ _ _ _).trans ?_
    refine am_fkIv (fun hc294 => ?_) (fun hc294 => ?_)
    · refine (if_neg ((h.1 hc294).1)).trans ?_
      refine (if_neg ((h.1 hc294).2.1)).trans ?_
      refine (e_92_39 _ _ _ _ _ _ _ _ _ _ _).trans ?_
      refine (if_neg ((h.1 hc294).2.2.1)).trans ?_
      refine (if_neg ((h.1 hc294).2.2.2.1)).trans ?_
      refine (e_92_71 _ _ _ _ _ _ _ _ _ _).trans ?_
      refine Eq.trans (b := am_r L 92 118 [some (.inr (.inr (50, none))), some (.inl x1), some (.inl x2), some (.inl x3), some (.inl x4), some (.inl (σ.1 60 ((((6 * x1) + x4)).toNatClampNeg))), some (.inl (σ.1 60 (((((6 * x1) + 3) + x4)).toNatClampNeg))), some (.inl (σ.1 60 ((((6 * x2) + x4)).toNatClampNeg))), some (.inl (σ.1 60 (((((6 * x2) + 3) + x4)).toNatClampNeg)))] [.inl (if x3 = 0 then (0 : Int32) else (if (σ.1 60 ((((6 * x1) + x4)).toNatClampNeg)) = (σ.1 60 (((((6 * x1) + 3) + x4)).toNatClampNeg)) then ((if (σ.1 60 ((((6 * x1) + x4)).toNatClampNeg)) < (σ.1 60 ((((6 * x2) + x4)).toNatClampNeg)) then (0 : Int32) else (if (σ.1 60 (((((6 * x2) + 3) + x4)).toNatClampNeg)) < (σ.1 60 ((((6 * x1) + x4)).toNatClampNeg)) then (0 : Int32) else 1)) : Int32) else (if (σ.1 60 ((((6 * x1) + x4)).toNatClampNeg)) < (σ.1 60 (((((6 * x2) + 3) + x4)).toNatClampNeg)) then ((if (σ.1 60 ((((6 * x2) + x4)).toNatClampNeg)) < (σ.1 60 (((((6 * x1) + 3) + x4)).toNatClampNeg)) then (1 : Int32) else 0) : Int32) else 0)))] σ) ?_ ?_
      · by_cases hc295 : x3 = 0
        · refine (if_pos hc295).trans ?_
          refine Eq.trans (b := am_r L 92 118 [some (.inr (.inr (50, none))), some (.inl x1), some (.inl x2), some (.inl x3), some (.inl x4), some (.inl (σ.1 60 ((((6 * x1) + x4)).toNatClampNeg))), some (.inl (σ.1 60 (((((6 * x1) + 3) + x4)).toNatClampNeg))), some (.inl (σ.1 60 ((((6 * x2) + x4)).toNatClampNeg))), some (.inl (σ.1 60 (((((6 * x2) + 3) + x4)).toNatClampNeg)))] [.inl 0] σ) ?_ ?_
          · refine (e_92_117 _ _ _ _ _ _ _ _ _ _).trans ?_
            rfl
          · first | with_reducible rfl | simp only [if_pos hc295]
        · refine (if_neg hc295).trans ?_
          refine Eq.trans (b := am_r L 92 118 [some (.inr (.inr (50, none))), some (.inl x1), some (.inl x2), some (.inl x3), some (.inl x4), some (.inl (σ.1 60 ((((6 * x1) + x4)).toNatClampNeg))), some (.inl (σ.1 60 (((((6 * x1) + 3) + x4)).toNatClampNeg))), some (.inl (σ.1 60 ((((6 * x2) + x4)).toNatClampNeg))), some (.inl (σ.1 60 (((((6 * x2) + 3) + x4)).toNatClampNeg)))] [.inl (if (σ.1 60 ((((6 * x1) + x4)).toNatClampNeg)) = (σ.1 60 (((((6 * x1) + 3) + x4)).toNatClampNeg)) then ((if (σ.1 60 ((((6 * x1) + x4)).toNatClampNeg)) < (σ.1 60 ((((6 * x2) + x4)).toNatClampNeg)) then (0 : Int32) else (if (σ.1 60 (((((6 * x2) + 3) + x4)).toNatClampNeg)) < (σ.1 60 ((((6 * x1) + x4)).toNatClampNeg)) then (0 : Int32) else 1)) : Int32) else (if (σ.1 60 ((((6 * x1) + x4)).toNatClampNeg)) < (σ.1 60 (((((6 * x2) + 3) + x4)).toNatClampNeg)) then ((if (σ.1 60 ((((6 * x2) + x4)).toNatClampNeg)) < (σ.1 60 (((((6 * x1) + 3) + x4)).toNatClampNeg)) then (1 : Int32) else 0) : Int32) else 0))] σ) ?_ ?_
          · refine Eq.trans (b := am_r L 92 118 [some (.inr (.inr (50, none))), some (.inl x1), some (.inl x2), some (.inl x3), some (.inl x4), some (.inl (σ.1 60 ((((6 * x1) + x4)).toNatClampNeg))), some (.inl (σ.1 60 (((((6 * x1) + 3) + x4)).toNatClampNeg))), some (.inl (σ.1 60 ((((6 * x2) + x4)).toNatClampNeg))), some (.inl (σ.1 60 (((((6 * x2) + 3) + x4)).toNatClampNeg)))] [.inl (if (σ.1 60 ((((6 * x1) + x4)).toNatClampNeg)) = (σ.1 60 (((((6 * x1) + 3) + x4)).toNatClampNeg)) then ((if (σ.1 60 ((((6 * x1) + x4)).toNatClampNeg)) < (σ.1 60 ((((6 * x2) + x4)).toNatClampNeg)) then (0 : Int32) else (if (σ.1 60 (((((6 * x2) + 3) + x4)).toNatClampNeg)) < (σ.1 60 ((((6 * x1) + x4)).toNatClampNeg)) then (0 : Int32) else 1)) : Int32) else (if (σ.1 60 ((((6 * x1) + x4)).toNatClampNeg)) < (σ.1 60 (((((6 * x2) + 3) + x4)).toNatClampNeg)) then ((if (σ.1 60 ((((6 * x2) + x4)).toNatClampNeg)) < (σ.1 60 (((((6 * x1) + 3) + x4)).toNatClampNeg)) then (1 : Int32) else 0) : Int32) else 0))] σ) ?_ ?_
            · by_cases hc296 : (σ.1 60 ((((6 * x1) + x4)).toNatClampNeg)) = (σ.1 60 (((((6 * x1) + 3) + x4)).toNatClampNeg))
              · refine (if_pos hc296).trans ?_
                refine Eq.trans (b := am_r L 92 118 [some (.inr (.inr (50, none))), some (.inl x1), some (.inl x2), some (.inl x3), some (.inl x4), some (.inl (σ.1 60 ((((6 * x1) + x4)).toNatClampNeg))), some (.inl (σ.1 60 (((((6 * x1) + 3) + x4)).toNatClampNeg))), some (.inl (σ.1 60 ((((6 * x2) + x4)).toNatClampNeg))), some (.inl (σ.1 60 (((((6 * x2) + 3) + x4)).toNatClampNeg)))] [.inl (if (σ.1 60 ((((6 * x1) + x4)).toNatClampNeg)) < (σ.1 60 ((((6 * x2) + x4)).toNatClampNeg)) then (0 : Int32) else (if (σ.1 60 (((((6 * x2) + 3) + x4)).toNatClampNeg)) < (σ.1 60 ((((6 * x1) + x4)).toNatClampNeg)) then (0 : Int32) else 1))] σ) ?_ ?_
                · refine Eq.trans (b := am_r L 92 118 [some (.inr (.inr (50, none))), some (.inl x1), some (.inl x2), some (.inl x3), some (.inl x4), some (.inl (σ.1 60 ((((6 * x1) + x4)).toNatClampNeg))), some (.inl (σ.1 60 (((((6 * x1) + 3) + x4)).toNatClampNeg))), some (.inl (σ.1 60 ((((6 * x2) + x4)).toNatClampNeg))), some (.inl (σ.1 60 (((((6 * x2) + 3) + x4)).toNatClampNeg)))] [.inl (if (σ.1 60 ((((6 * x1) + x4)).toNatClampNeg)) < (σ.1 60 ((((6 * x2) + x4)).toNatClampNeg)) then (0 : Int32) else (if (σ.1 60 (((((6 * x2) + 3) + x4)).toNatClampNeg)) < (σ.1 60 ((((6 * x1) + x4)).toNatClampNeg)) then (0 : Int32) else 1))] σ) ?_ ?_
                  · by_cases hc297 : (σ.1 60 ((((6 * x1) + x4)).toNatClampNeg)) < (σ.1 60 ((((6 * x2) + x4)).toNatClampNeg))
                    · refine (if_pos hc297).trans ?_
                      refine Eq.trans (b := am_r L 92 118 [some (.inr (.inr (50, none))), some (.inl x1), some (.inl x2), some (.inl x3), some (.inl x4), some (.inl (σ.1 60 ((((6 * x1) + x4)).toNatClampNeg))), some (.inl (σ.1 60 (((((6 * x1) + 3) + x4)).toNatClampNeg))), some (.inl (σ.1 60 ((((6 * x2) + x4)).toNatClampNeg))), some (.inl (σ.1 60 (((((6 * x2) + 3) + x4)).toNatClampNeg)))] [.inl 0] σ) ?_ ?_
                      · refine (e_92_117 _ _ _ _ _ _ _ _ _ _).trans ?_
                        rfl
                      · first | with_reducible rfl | simp only [if_pos hc297]
                    · refine (if_neg hc297).trans ?_
                      refine Eq.trans (b := am_r L 92 118 [some (.inr (.inr (50, none))), some (.inl x1), some (.inl x2), some (.inl x3), some (.inl x4), some (.inl (σ.1 60 ((((6 * x1) + x4)).toNatClampNeg))), some (.inl (σ.1 60 (((((6 * x1) + 3) + x4)).toNatClampNeg))), some (.inl (σ.1 60 ((((6 * x2) + x4)).toNatClampNeg))), some (.inl (σ.1 60 (((((6 * x2) + 3) + x4)).toNatClampNeg)))] [.inl (if (σ.1 60 (((((6 * x2) + 3) + x4)).toNatClampNeg)) < (σ.1 60 ((((6 * x1) + x4)).toNatClampNeg)) then (0 : Int32) else 1)] σ) ?_ ?_
                      · refine Eq.trans (b := am_r L 92 118 [some (.inr (.inr (50, none))), some (.inl x1), some (.inl x2), some (.inl x3), some (.inl x4), some (.inl (σ.1 60 ((((6 * x1) + x4)).toNatClampNeg))), some (.inl (σ.1 60 (((((6 * x1) + 3) + x4)).toNatClampNeg))), some (.inl (σ.1 60 ((((6 * x2) + x4)).toNatClampNeg))), some (.inl (σ.1 60 (((((6 * x2) + 3) + x4)).toNatClampNeg)))] [.inl (if (σ.1 60 (((((6 * x2) + 3) + x4)).toNatClampNeg)) < (σ.1 60 ((((6 * x1) + x4)).toNatClampNeg)) then (0 : Int32) else 1)] σ) ?_ ?_
                        · by_cases hc298 : (σ.1 60 (((((6 * x2) + 3) + x4)).toNatClampNeg)) < (σ.1 60 ((((6 * x1) + x4)).toNatClampNeg))
                          · refine (if_pos hc298).trans ?_
                            refine Eq.trans (b := am_r L 92 118 [some (.inr (.inr (50, none))), some (.inl x1), some (.inl x2), some (.inl x3), some (.inl x4), some (.inl (σ.1 60 ((((6 * x1) + x4)).toNatClampNeg))), some (.inl (σ.1 60 (((((6 * x1) + 3) + x4)).toNatClampNeg))), some (.inl (σ.1 60 ((((6 * x2) + x4)).toNatClampNeg))), some (.inl (σ.1 60 (((((6 * x2) + 3) + x4)).toNatClampNeg)))] [.inl 0] σ) ?_ ?_
                            · refine (e_92_117 _ _ _ _ _ _ _ _ _ _).trans ?_
                              rfl
                            · first | with_reducible rfl | simp only [if_pos hc298]
                          · refine (if_neg hc298).trans ?_
                            refine Eq.trans (b := am_r L 92 118 [some (.inr (.inr (50, none))), some (.inl x1), some (.inl x2), some (.inl x3), some (.inl x4), some (.inl (σ.1 60 ((((6 * x1) + x4)).toNatClampNeg))), some (.inl (σ.1 60 (((((6 * x1) + 3) + x4)).toNatClampNeg))), some (.inl (σ.1 60 ((((6 * x2) + x4)).toNatClampNeg))), some (.inl (σ.1 60 (((((6 * x2) + 3) + x4)).toNatClampNeg)))] [.inl 1] σ) ?_ ?_
                            · refine (e_92_113 _ _ _ _ _ _ _ _ _ _).trans ?_
                              rfl
                            · first | with_reducible rfl | simp only [if_neg hc298]
                        rfl
                      · first | with_reducible rfl | simp only [if_neg hc297]
                  rfl
                · first | with_reducible rfl | simp only [if_pos hc296]
              · refine (if_neg hc296).trans ?_
                refine Eq.trans (b := am_r L 92 118 [some (.inr (.inr (50, none))), some (.inl x1), some (.inl x2), some (.inl x3), some (.inl x4), some (.inl (σ.1 60 ((((6 * x1) + x4)).toNatClampNeg))), some (.inl (σ.1 60 (((((6 * x1) + 3) + x4)).toNatClampNeg))), some (.inl (σ.1 60 ((((6 * x2) + x4)).toNatClampNeg))), some (.inl (σ.1 60 (((((6 * x2) + 3) + x4)).toNatClampNeg)))] [.inl (if (σ.1 60 ((((6 * x1) + x4)).toNatClampNeg)) < (σ.1 60 (((((6 * x2) + 3) + x4)).toNatClampNeg)) then ((if (σ.1 60 ((((6 * x2) + x4)).toNatClampNeg)) < (σ.1 60 (((((6 * x1) + 3) + x4)).toNatClampNeg)) then (1 : Int32) else 0) : Int32) else 0)] σ) ?_ ?_
                · refine (e_92_99 _ _ _ _ _ _ _ _ _ _).trans ?_
                  refine Eq.trans (b := am_r L 92 118 [some (.inr (.inr (50, none))), some (.inl x1), some (.inl x2), some (.inl x3), some (.inl x4), some (.inl (σ.1 60 ((((6 * x1) + x4)).toNatClampNeg))), some (.inl (σ.1 60 (((((6 * x1) + 3) + x4)).toNatClampNeg))), some (.inl (σ.1 60 ((((6 * x2) + x4)).toNatClampNeg))), some (.inl (σ.1 60 (((((6 * x2) + 3) + x4)).toNatClampNeg)))] [.inl (if (σ.1 60 ((((6 * x1) + x4)).toNatClampNeg)) < (σ.1 60 (((((6 * x2) + 3) + x4)).toNatClampNeg)) then ((if (σ.1 60 ((((6 * x2) + x4)).toNatClampNeg)) < (σ.1 60 (((((6 * x1) + 3) + x4)).toNatClampNeg)) then (1 : Int32) else 0) : Int32) else 0)] σ) ?_ ?_
                  · by_cases hc299 : (σ.1 60 ((((6 * x1) + x4)).toNatClampNeg)) < (σ.1 60 (((((6 * x2) + 3) + x4)).toNatClampNeg))
                    · refine (if_pos hc299).trans ?_
                      refine Eq.trans (b := am_r L 92 118 [some (.inr (.inr (50, none))), some (.inl x1), some (.inl x2), some (.inl x3), some (.inl x4), some (.inl (σ.1 60 ((((6 * x1) + x4)).toNatClampNeg))), some (.inl (σ.1 60 (((((6 * x1) + 3) + x4)).toNatClampNeg))), some (.inl (σ.1 60 ((((6 * x2) + x4)).toNatClampNeg))), some (.inl (σ.1 60 (((((6 * x2) + 3) + x4)).toNatClampNeg)))] [.inl (if (σ.1 60 ((((6 * x2) + x4)).toNatClampNeg)) < (σ.1 60 (((((6 * x1) + 3) + x4)).toNatClampNeg)) then (1 : Int32) else 0)] σ) ?_ ?_
                      · refine Eq.trans (b := am_r L 92 118 [some (.inr (.inr (50, none))), some (.inl x1), some (.inl x2), some (.inl x3), some (.inl x4), some (.inl (σ.1 60 ((((6 * x1) + x4)).toNatClampNeg))), some (.inl (σ.1 60 (((((6 * x1) + 3) + x4)).toNatClampNeg))), some (.inl (σ.1 60 ((((6 * x2) + x4)).toNatClampNeg))), some (.inl (σ.1 60 (((((6 * x2) + 3) + x4)).toNatClampNeg)))] [.inl (if (σ.1 60 ((((6 * x2) + x4)).toNatClampNeg)) < (σ.1 60 (((((6 * x1) + 3) + x4)).toNatClampNeg)) then (1 : Int32) else 0)] σ) ?_ ?_
                        · by_cases hc300 : (σ.1 60 ((((6 * x2) + x4)).toNatClampNeg)) < (σ.1 60 (((((6 * x1) + 3) + x4)).toNatClampNeg))
                          · refine (if_pos hc300).trans ?_
                            refine Eq.trans (b := am_r L 92 118 [some (.inr (.inr (50, none))), some (.inl x1), some (.inl x2), some (.inl x3), some (.inl x4), some (.inl (σ.1 60 ((((6 * x1) + x4)).toNatClampNeg))), some (.inl (σ.1 60 (((((6 * x1) + 3) + x4)).toNatClampNeg))), some (.inl (σ.1 60 ((((6 * x2) + x4)).toNatClampNeg))), some (.inl (σ.1 60 (((((6 * x2) + 3) + x4)).toNatClampNeg)))] [.inl 1] σ) ?_ ?_
                            · refine (e_92_113 _ _ _ _ _ _ _ _ _ _).trans ?_
                              rfl
                            · first | with_reducible rfl | simp only [if_pos hc300]
                          · refine (if_neg hc300).trans ?_
                            refine Eq.trans (b := am_r L 92 118 [some (.inr (.inr (50, none))), some (.inl x1), some (.inl x2), some (.inl x3), some (.inl x4), some (.inl (σ.1 60 ((((6 * x1) + x4)).toNatClampNeg))), some (.inl (σ.1 60 (((((6 * x1) + 3) + x4)).toNatClampNeg))), some (.inl (σ.1 60 ((((6 * x2) + x4)).toNatClampNeg))), some (.inl (σ.1 60 (((((6 * x2) + 3) + x4)).toNatClampNeg)))] [.inl 0] σ) ?_ ?_
                            · refine (e_92_117 _ _ _ _ _ _ _ _ _ _).trans ?_
                              rfl
                            · first | with_reducible rfl | simp only [if_neg hc300]
                        rfl
                      · first | with_reducible rfl | simp only [if_pos hc299]
                    · refine (if_neg hc299).trans ?_
                      refine Eq.trans (b := am_r L 92 118 [some (.inr (.inr (50, none))), some (.inl x1), some (.inl x2), some (.inl x3), some (.inl x4), some (.inl (σ.1 60 ((((6 * x1) + x4)).toNatClampNeg))), some (.inl (σ.1 60 (((((6 * x1) + 3) + x4)).toNatClampNeg))), some (.inl (σ.1 60 ((((6 * x2) + x4)).toNatClampNeg))), some (.inl (σ.1 60 (((((6 * x2) + 3) + x4)).toNatClampNeg)))] [.inl 0] σ) ?_ ?_
                      · refine (e_92_117 _ _ _ _ _ _ _ _ _ _).trans ?_
                        rfl
                      · first | with_reducible rfl | simp only [if_neg hc299]
                  rfl
                · first | with_reducible rfl | simp only [if_neg hc296]
            rfl
          · first | with_reducible rfl | simp only [if_neg hc295]
      refine (e_92_118 _ _ _ _ _ _ _ _ _ _ _).trans ?_
      exact ih x1 x2 (if x3 = 0 then (0 : Int32) else (if (σ.1 60 ((((6 * x1) + x4)).toNatClampNeg)) = (σ.1 60 (((((6 * x1) + 3) + x4)).toNatClampNeg)) then ((if (σ.1 60 ((((6 * x1) + x4)).toNatClampNeg)) < (σ.1 60 ((((6 * x2) + x4)).toNatClampNeg)) then (0 : Int32) else (if (σ.1 60 (((((6 * x2) + 3) + x4)).toNatClampNeg)) < (σ.1 60 ((((6 * x1) + x4)).toNatClampNeg)) then (0 : Int32) else 1)) : Int32) else (if (σ.1 60 ((((6 * x1) + x4)).toNatClampNeg)) < (σ.1 60 (((((6 * x2) + 3) + x4)).toNatClampNeg)) then ((if (σ.1 60 ((((6 * x2) + x4)).toNatClampNeg)) < (σ.1 60 (((((6 * x1) + 3) + x4)).toNatClampNeg)) then (1 : Int32) else 0) : Int32) else 0))) (x4 + 1) (some (.inl (σ.1 60 ((((6 * x1) + x4)).toNatClampNeg)))) (some (.inl (σ.1 60 (((((6 * x1) + 3) + x4)).toNatClampNeg)))) (some (.inl (σ.1 60 ((((6 * x2) + x4)).toNatClampNeg)))) (some (.inl (σ.1 60 (((((6 * x2) + 3) + x4)).toNatClampNeg)))) ((h.1 hc294).2.2.2.2)
    · refine (e_92_125 _ _ _ _ _ _ _ _ _ _).trans ?_
      refine (e_92_126 _ _ _ _ _ _ _ _ _ _ _).trans ?_
      refine (if_pos ((h.2 hc294))).trans ?_
      rfl
def p_92 (σ : am_M) (x1 : Int32) (x2 : Int32) : Prop := q_92_5 14 σ x1 x2 1 0
def f_92 (σ : am_M) (x1 : Int32) (x2 : Int32) : Int32 := (l_92_5 14 σ x1 x2 1 0)
set_option maxRecDepth 20000 in
theorem sf_92 (L : Nat) (σ : am_M) (x1 : Int32) (x2 : Int32) (h : p_92 σ x1 x2) : am_r L 92 0 [some (.inr (.inr (50, none))), some (.inl x1), some (.inl x2), none, none, none, none, none, none] [] σ = some (some (.inl (f_92 σ x1 x2)), am_sh0 L, σ) := by
  unfold p_92 at h
  unfold f_92
  refine (e_92_0 _ _ _ _).trans ?_
  exact t_92_5 L σ 14 x1 x2 1 0 none none none none h
def v_92 (σ : am_M) (x1 : Int32) (x2 : Int32) : Int32 := f_92 σ x1 x2
theorem s_92 (L : Nat) (σ : am_M) (x1 : Int32) (x2 : Int32) (h : p_92 σ x1 x2) : am_r L 92 0 [some (.inr (.inr (50, none))), some (.inl x1), some (.inl x2), none, none, none, none, none, none] [] σ = some (some (.inl (v_92 σ x1 x2)), am_sh0 L, σ) := sf_92 L σ x1 x2 h
-- 93: X5_meets
def l_93_37 (k24 : am_M → Int32 → Int32 → Int32 → Int32 × am_M) : Nat → am_M → Int32 → Int32 → Int32 → Int32 → Int32 × am_M
  | 0, σ, x1, x2, x3, x4 => (0, σ)
  | n + 1, σ, x1, x2, x3, x4 => (if x4 < (σ.1 50 1) then (l_93_37 k24 n σ x1 (x2 + (if (σ.1 51 x4.toNatClampNeg) = x3 then (0 : Int32) else (if (v_92 σ x3 x4) = 0 then ((if (v_92 σ x4 x3) = 0 then (0 : Int32) else 1) : Int32) else 1))) x3 (x4 + 1)) else (k24 σ x1 x2 (x3 + 1)))
def q_93_37 (c24 : am_M → Int32 → Int32 → Int32 → Prop) : Nat → am_M → Int32 → Int32 → Int32 → Int32 → Prop
  | 0, _, _, _, _, _ => False
  | n + 1, σ, x1, x2, x3, x4 => ((x4 < (σ.1 50 1)) → ((¬ (x4 < 0 ∨ 13 ≤ x4.toNatClampNeg)) ∧ ((¬ ((σ.1 51 x4.toNatClampNeg) = x3) → ((p_92 σ x3 x4) ∧ (((v_92 σ x3 x4) = 0) → (p_92 σ x4 x3)))) ∧ (q_93_37 c24 n σ x1 (x2 + (if (σ.1 51 x4.toNatClampNeg) = x3 then (0 : Int32) else (if (v_92 σ x3 x4) = 0 then ((if (v_92 σ x4 x3) = 0 then (0 : Int32) else 1) : Int32) else 1))) x3 (x4 + 1))))) ∧ (¬ (x4 < (σ.1 50 1)) → (c24 σ x1 x2 (x3 + 1)))
set_option maxRecDepth 20000 in
theorem t_93_37 (L : Nat) (k24 : am_M → Int32 → Int32 → Int32 → Int32 × am_M) (c24 : am_M → Int32 → Int32 → Int32 → Prop) (hk24 : ∀ (σ : am_M) (x1 : Int32) (x2 : Int32) (x3 : Int32) (o4 : Option am_V), c24 σ x1 x2 x3 → am_r L 93 24 [some (.inr (.inr (50, none))), some (.inl x1), some (.inl x2), some (.inl x3), o4] [] σ = some (some (.inl (k24 σ x1 x2 x3).1), am_sh0 L, (k24 σ x1 x2 x3).2)) : ∀ (n : Nat) (σ : am_M) (x1 : Int32) (x2 : Int32) (x3 : Int32) (x4 : Int32), q_93_37 c24 n σ x1 x2 x3 x4 → am_r L 93 37 [some (.inr (.inr (50, none))), some (.inl x1), some (.inl x2), some (.inl x3), some (.inl x4)] [] σ = some (some (.inl (l_93_37 k24 n σ x1 x2 x3 x4).1), am_sh0 L, (l_93_37 k24 n σ x1 x2 x3 x4).2) := by
  intro n
  induction n with
  | zero => intro σ x1 x2 x3 x4 h; exact h.elim
  | succ n ih =>
    intro σ x1 x2 x3 x4 h
    unfold q_93_37 at h
    unfold l_93_37
    refine (e_93_37 _ _ _ _ _ _).trans ?_
    refine am_fkPI (fun hc301 => ?_) (fun hc301 => ?_)
    · refine (if_neg ((h.1 hc301).1)).trans ?_
      refine Eq.trans (b := am_r L 93 83 [some (.inr (.inr (50, none))), some (.inl x1), some (.inl x2), some (.inl x3), some (.inl x4)] [.inl (if (σ.1 51 x4.toNatClampNeg) = x3 then (0 : Int32) else (if (v_92 σ x3 x4) = 0 then ((if (v_92 σ x4 x3) = 0 then (0 : Int32) else 1) : Int32) else 1)), .inl x2] σ) ?_ ?_
      · by_cases hc302 : (σ.1 51 x4.toNatClampNeg) = x3
        · refine (if_pos hc302).trans ?_
          refine Eq.trans (b := am_r L 93 83 [some (.inr (.inr (50, none))), some (.inl x1), some (.inl x2), some (.inl x3), some (.inl x4)] [.inl 0, .inl x2] σ) ?_ ?_
          · refine (e_93_82 _ _ _ _ _ _ _).trans ?_
            rfl
          · first | with_reducible rfl | simp only [if_pos hc302]
        · refine (if_neg hc302).trans ?_
          refine Eq.trans (b := am_r L 93 83 [some (.inr (.inr (50, none))), some (.inl x1), some (.inl x2), some (.inl x3), some (.inl x4)] [.inl (if (v_92 σ x3 x4) = 0 then ((if (v_92 σ x4 x3) = 0 then (0 : Int32) else 1) : Int32) else 1), .inl x2] σ) ?_ ?_
          · refine (am_bind_i (s_92 L σ x3 x4 (((h.1 hc301).2.1 hc302).1))).trans ?_
            refine (e_93_65 _ _ _ _ _ _ _ _).trans ?_
            refine Eq.trans (b := am_r L 93 83 [some (.inr (.inr (50, none))), some (.inl x1), some (.inl x2), some (.inl x3), some (.inl x4)] [.inl (if (v_92 σ x3 x4) = 0 then ((if (v_92 σ x4 x3) = 0 then (0 : Int32) else 1) : Int32) else 1), .inl x2] σ) ?_ ?_
            · by_cases hc303 : (v_92 σ x3 x4) = 0
              · refine (if_pos hc303).trans ?_
                refine Eq.trans (b := am_r L 93 83 [some (.inr (.inr (50, none))), some (.inl x1), some (.inl x2), some (.inl x3), some (.inl x4)] [.inl (if (v_92 σ x4 x3) = 0 then (0 : Int32) else 1), .inl x2] σ) ?_ ?_
                · refine (am_bind_i (s_92 L σ x4 x3 ((((h.1 hc301).2.1 hc302).2 hc303)))).trans ?_
                  refine (e_93_75 _ _ _ _ _ _ _ _).trans ?_
                  refine Eq.trans (b := am_r L 93 83 [some (.inr (.inr (50, none))), some (.inl x1), some (.inl x2), some (.inl x3), some (.inl x4)] [.inl (if (v_92 σ x4 x3) = 0 then (0 : Int32) else 1), .inl x2] σ) ?_ ?_
                  · by_cases hc304 : (v_92 σ x4 x3) = 0
                    · refine (if_pos hc304).trans ?_
                      refine Eq.trans (b := am_r L 93 83 [some (.inr (.inr (50, none))), some (.inl x1), some (.inl x2), some (.inl x3), some (.inl x4)] [.inl 0, .inl x2] σ) ?_ ?_
                      · refine (e_93_82 _ _ _ _ _ _ _).trans ?_
                        rfl
                      · first | with_reducible rfl | simp only [if_pos hc304]
                    · refine (if_neg hc304).trans ?_
                      refine Eq.trans (b := am_r L 93 83 [some (.inr (.inr (50, none))), some (.inl x1), some (.inl x2), some (.inl x3), some (.inl x4)] [.inl 1, .inl x2] σ) ?_ ?_
                      · refine (e_93_78 _ _ _ _ _ _ _).trans ?_
                        rfl
                      · first | with_reducible rfl | simp only [if_neg hc304]
                  rfl
                · first | with_reducible rfl | simp only [if_pos hc303]
              · refine (if_neg hc303).trans ?_
                refine Eq.trans (b := am_r L 93 83 [some (.inr (.inr (50, none))), some (.inl x1), some (.inl x2), some (.inl x3), some (.inl x4)] [.inl 1, .inl x2] σ) ?_ ?_
                · refine (e_93_78 _ _ _ _ _ _ _).trans ?_
                  rfl
                · first | with_reducible rfl | simp only [if_neg hc303]
            rfl
          · first | with_reducible rfl | simp only [if_neg hc302]
      refine (e_93_83 _ _ _ _ _ _ _ _).trans ?_
      exact ih σ x1 (x2 + (if (σ.1 51 x4.toNatClampNeg) = x3 then (0 : Int32) else (if (v_92 σ x3 x4) = 0 then ((if (v_92 σ x4 x3) = 0 then (0 : Int32) else 1) : Int32) else 1))) x3 (x4 + 1) ((h.1 hc301).2.2)
    · refine (e_93_91 _ _ _ _ _ _).trans ?_
      exact hk24 σ x1 x2 (x3 + 1) (some (.inl x4)) ((h.2 hc301))
def l_93_24 : Nat → am_M → Int32 → Int32 → Int32 → Int32 × am_M
  | 0, σ, x1, x2, x3 => (0, σ)
  | n + 1, σ, x1, x2, x3 => (if x3 < (σ.1 50 1) then (l_93_37 (l_93_24 n) 14 σ x1 x2 x3 (x3 + 1)) else (x2, σ))
def q_93_24 : Nat → am_M → Int32 → Int32 → Int32 → Prop
  | 0, _, _, _, _ => False
  | n + 1, σ, x1, x2, x3 => (x3 < (σ.1 50 1)) → (q_93_37 (q_93_24 n) 14 σ x1 x2 x3 (x3 + 1))
set_option maxRecDepth 20000 in
theorem t_93_24 (L : Nat) : ∀ (n : Nat) (σ : am_M) (x1 : Int32) (x2 : Int32) (x3 : Int32) (o4 : Option am_V), q_93_24 n σ x1 x2 x3 → am_r L 93 24 [some (.inr (.inr (50, none))), some (.inl x1), some (.inl x2), some (.inl x3), o4] [] σ = some (some (.inl (l_93_24 n σ x1 x2 x3).1), am_sh0 L, (l_93_24 n σ x1 x2 x3).2) := by
  intro n
  induction n with
  | zero => intro σ x1 x2 x3 o4 h; exact h.elim
  | succ n ih =>
    intro σ x1 x2 x3 o4 h
    unfold q_93_24 at h
    unfold l_93_24
    refine (e_93_24 _ _ _ _ _ _).trans ?_
    refine am_fkPI (fun hc305 => ?_) (fun hc305 => ?_)
    · exact t_93_37 L (l_93_24 n) (q_93_24 n) ih 14 σ x1 x2 x3 (x3 + 1) ((h hc305))
    · refine (e_93_97 _ _ _ _ _ _).trans ?_
      rfl
def p_93 (σ : am_M) (x1 : Int32) : Prop := ¬ ((v_88 (am_put σ 50 0 0) x1) = 0) → ((p_90 (am_put σ 50 0 0) x1) ∧ (q_93_24 14 (w_90 (am_put σ 50 0 0) x1) x1 0 0))
def f_93 (σ : am_M) (x1 : Int32) : Int32 × am_M := (if (v_88 (am_put σ 50 0 0) x1) = 0 then ((-1), (am_put σ 50 0 0)) else (l_93_24 14 (w_90 (am_put σ 50 0 0) x1) x1 0 0))
set_option maxRecDepth 20000 in
theorem sf_93 (L : Nat) (σ : am_M) (x1 : Int32) (h : p_93 σ x1) : am_r L 93 0 [some (.inr (.inr (50, none))), some (.inl x1), none, none, none] [] σ = some (some (.inl (f_93 σ x1).1), am_sh0 L, (f_93 σ x1).2) := by
  unfold p_93 at h
  unfold f_93
  refine (e_93_0 _ _ _).trans ?_
  refine (am_bind_i (s_88 L (am_put σ 50 0 0) x1)).trans ?_
  refine (e_93_10 _ _ _ _).trans ?_
  refine am_fkPI (fun hc306 => ?_) (fun hc306 => ?_)
  · rfl
  · refine (e_93_15 _ _ _).trans ?_
    refine (am_bind_v (s_90 L (am_put σ 50 0 0) x1 ((h hc306).1))).trans ?_
    refine (e_93_20 _ _ _).trans ?_
    exact t_93_24 L 14 (w_90 (am_put σ 50 0 0) x1) x1 0 0 none ((h hc306).2)
def v_93 (σ : am_M) (x1 : Int32) : Int32 := (f_93 σ x1).1
def w_93 (σ : am_M) (x1 : Int32) : am_M := (f_93 σ x1).2
theorem s_93 (L : Nat) (σ : am_M) (x1 : Int32) (h : p_93 σ x1) : am_r L 93 0 [some (.inr (.inr (50, none))), some (.inl x1), none, none, none] [] σ = some (some (.inl (v_93 σ x1)), am_sh0 L, w_93 σ x1) := sf_93 L σ x1 h
