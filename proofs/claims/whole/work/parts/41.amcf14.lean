-- 108: X5_sweeps
def l_108_36 : Nat → am_M → Int32 → Int32 → Int32 → Int32 → Int32 → Int32 → Int32 × am_M
  | 0, σ, x1, x2, x3, x4, x5, x6 => (0, σ)
  | n + 1, σ, x1, x2, x3, x4, x5, x6 => (if x6 < 4 then (l_108_36 n σ x1 x2 x3 x4 (if x5 = 0 then ((if (v_104 σ x6 (4 + x6)) = 0 then ((if (v_104 σ x6 (4 + ((x6 + x4) - (x6 + x4) / 4 * 4))) = 0 then (0 : Int32) else 1) : Int32) else 1) : Int32) else 1) (x6 + 1)) else (x5, σ))
def q_108_36 : Nat → am_M → Int32 → Int32 → Int32 → Int32 → Int32 → Int32 → Prop
  | 0, _, _, _, _, _, _, _ => False
  | n + 1, σ, x1, x2, x3, x4, x5, x6 => ((x6 < 4) → (((x5 = 0) → ((p_104 σ x6 (4 + x6)) ∧ (((v_104 σ x6 (4 + x6)) = 0) → (p_104 σ x6 (4 + ((x6 + x4) - (x6 + x4) / 4 * 4)))))) ∧ (q_108_36 n σ x1 x2 x3 x4 (if x5 = 0 then ((if (v_104 σ x6 (4 + x6)) = 0 then ((if (v_104 σ x6 (4 + ((x6 + x4) - (x6 + x4) / 4 * 4))) = 0 then (0 : Int32) else 1) : Int32) else 1) : Int32) else 1) (x6 + 1)))) ∧ (¬ (x6 < 4) → ((x5 = 0 ∨ x5 = 1)))
set_option maxRecDepth 20000 in
theorem t_108_36 (L : Nat) : ∀ (n : Nat) (σ : am_M) (x1 : Int32) (x2 : Int32) (x3 : Int32) (x4 : Int32) (x5 : Int32) (x6 : Int32), q_108_36 n σ x1 x2 x3 x4 x5 x6 → am_r L 108 36 [some (.inr (.inr (50, none))), some (.inl x1), some (.inl x2), some (.inl x3), some (.inl x4), some (.inl x5), some (.inl x6)] [] σ = some (some (.inl (l_108_36 n σ x1 x2 x3 x4 x5 x6).1), am_sh0 L, (l_108_36 n σ x1 x2 x3 x4 x5 x6).2) := by
  intro n
  induction n with
  | zero => intro σ x1 x2 x3 x4 x5 x6 h; exact h.elim
  | succ n ih =>
    intro σ x1 x2 x3 x4 x5 x6 h
    unfold q_108_36 at h
    unfold l_108_36
    refine (e_108_36 _ _ _ _ _ _ _ _).trans ?_
    refine am_fkPI (fun hc403 => ?_) (fun hc403 => ?_)
    · refine Eq.trans (b := am_r L 108 83 [some (.inr (.inr (50, none))), some (.inl x1), some (.inl x2), some (.inl x3), some (.inl x4), some (.inl x5), some (.inl x6)] [.inl (if x5 = 0 then ((if (v_104 σ x6 (4 + x6)) = 0 then ((if (v_104 σ x6 (4 + ((x6 + x4) - (x6 + x4) / 4 * 4))) = 0 then (0 : Int32) else 1) : Int32) else 1) : Int32) else 1)] σ) ?_ ?_
      · by_cases hc404 : x5 = 0
        · refine (if_pos hc404).trans ?_
          refine Eq.trans (b := am_r L 108 83 [some (.inr (.inr (50, none))), some (.inl x1), some (.inl x2), some (.inl x3), some (.inl x4), some (.inl x5), some (.inl x6)] [.inl (if (v_104 σ x6 (4 + x6)) = 0 then ((if (v_104 σ x6 (4 + ((x6 + x4) - (x6 + x4) / 4 * 4))) = 0 then (0 : Int32) else 1) : Int32) else 1)] σ) ?_ ?_
          · refine (am_bind_i (s_104 L σ x6 (4 + x6) (((h.1 hc403).1 hc404).1))).trans ?_
            refine (e_108_57 _ _ _ _ _ _ _ _ _).trans ?_
            refine Eq.trans (b := am_r L 108 83 [some (.inr (.inr (50, none))), some (.inl x1), some (.inl x2), some (.inl x3), some (.inl x4), some (.inl x5), some (.inl x6)] [.inl (if (v_104 σ x6 (4 + x6)) = 0 then ((if (v_104 σ x6 (4 + ((x6 + x4) - (x6 + x4) / 4 * 4))) = 0 then (0 : Int32) else 1) : Int32) else 1)] σ) ?_ ?_
            · by_cases hc405 : (v_104 σ x6 (4 + x6)) = 0
              · refine (if_pos hc405).trans ?_
                refine Eq.trans (b := am_r L 108 83 [some (.inr (.inr (50, none))), some (.inl x1), some (.inl x2), some (.inl x3), some (.inl x4), some (.inl x5), some (.inl x6)] [.inl (if (v_104 σ x6 (4 + ((x6 + x4) - (x6 + x4) / 4 * 4))) = 0 then (0 : Int32) else 1)] σ) ?_ ?_
                · refine (am_bind_i (s_104 L σ x6 (4 + ((x6 + x4) - (x6 + x4) / 4 * 4)) ((((h.1 hc403).1 hc404).2 hc405)))).trans ?_
                  refine (e_108_75 _ _ _ _ _ _ _ _ _).trans ?_
                  refine Eq.trans (b := am_r L 108 83 [some (.inr (.inr (50, none))), some (.inl x1), some (.inl x2), some (.inl x3), some (.inl x4), some (.inl x5), some (.inl x6)] [.inl (if (v_104 σ x6 (4 + ((x6 + x4) - (x6 + x4) / 4 * 4))) = 0 then (0 : Int32) else 1)] σ) ?_ ?_
                  · by_cases hc406 : (v_104 σ x6 (4 + ((x6 + x4) - (x6 + x4) / 4 * 4))) = 0
                    · refine (if_pos hc406).trans ?_
                      refine Eq.trans (b := am_r L 108 83 [some (.inr (.inr (50, none))), some (.inl x1), some (.inl x2), some (.inl x3), some (.inl x4), some (.inl x5), some (.inl x6)] [.inl 0] σ) ?_ ?_
                      · refine (e_108_82 _ _ _ _ _ _ _ _).trans ?_
                        rfl
                      · first | with_reducible rfl | simp only [if_pos hc406]
                    · refine (if_neg hc406).trans ?_
                      refine Eq.trans (b := am_r L 108 83 [some (.inr (.inr (50, none))), some (.inl x1), some (.inl x2), some (.inl x3), some (.inl x4), some (.inl x5), some (.inl x6)] [.inl 1] σ) ?_ ?_
                      · refine (e_108_78 _ _ _ _ _ _ _ _).trans ?_
                        rfl
                      · first | with_reducible rfl | simp only [if_neg hc406]
                  rfl
                · first | with_reducible rfl | simp only [if_pos hc405]
              · refine (if_neg hc405).trans ?_
                refine Eq.trans (b := am_r L 108 83 [some (.inr (.inr (50, none))), some (.inl x1), some (.inl x2), some (.inl x3), some (.inl x4), some (.inl x5), some (.inl x6)] [.inl 1] σ) ?_ ?_
                · refine (e_108_78 _ _ _ _ _ _ _ _).trans ?_
                  rfl
                · first | with_reducible rfl | simp only [if_neg hc405]
            rfl
          · first | with_reducible rfl | simp only [if_pos hc404]
        · refine (if_neg hc404).trans ?_
          refine Eq.trans (b := am_r L 108 83 [some (.inr (.inr (50, none))), some (.inl x1), some (.inl x2), some (.inl x3), some (.inl x4), some (.inl x5), some (.inl x6)] [.inl 1] σ) ?_ ?_
          · refine (e_108_78 _ _ _ _ _ _ _ _).trans ?_
            rfl
          · first | with_reducible rfl | simp only [if_neg hc404]
      refine (e_108_83 _ _ _ _ _ _ _ _ _).trans ?_
      exact ih σ x1 x2 x3 x4 (if x5 = 0 then ((if (v_104 σ x6 (4 + x6)) = 0 then ((if (v_104 σ x6 (4 + ((x6 + x4) - (x6 + x4) / 4 * 4))) = 0 then (0 : Int32) else 1) : Int32) else 1) : Int32) else 1) (x6 + 1) ((h.1 hc403).2)
    · refine (e_108_91 _ _ _ _ _ _ _ _).trans ?_
      refine (e_108_93 _ _ _ _ _ _ _ _ _).trans ?_
      refine (if_pos ((h.2 hc403))).trans ?_
      rfl
def p_108 (σ : am_M) (x1 : Int32) (x2 : Int32) (x3 : Int32) (x4 : Int32) : Prop := (p_106 σ x1) ∧ ((p_107 σ x2 x3 (v_106 σ x1)) ∧ (¬ ((v_107 σ x2 x3 (v_106 σ x1)) = 0) → ((p_103 σ x1 x2 0) ∧ ((p_103 (w_103 σ x1 x2 0) x1 x3 4) ∧ (q_108_36 14 (w_103 (w_103 σ x1 x2 0) x1 x3 4) x1 x2 x3 x4 0 0)))))
def f_108 (σ : am_M) (x1 : Int32) (x2 : Int32) (x3 : Int32) (x4 : Int32) : Int32 × am_M := (if (v_107 σ x2 x3 (v_106 σ x1)) = 0 then (0, σ) else (l_108_36 14 (w_103 (w_103 σ x1 x2 0) x1 x3 4) x1 x2 x3 x4 0 0))
set_option maxRecDepth 20000 in
theorem sf_108 (L : Nat) (σ : am_M) (x1 : Int32) (x2 : Int32) (x3 : Int32) (x4 : Int32) (h : p_108 σ x1 x2 x3 x4) : am_r L 108 0 [some (.inr (.inr (50, none))), some (.inl x1), some (.inl x2), some (.inl x3), some (.inl x4), none, none] [] σ = some (some (.inl (f_108 σ x1 x2 x3 x4).1), am_sh0 L, (f_108 σ x1 x2 x3 x4).2) := by
  unfold p_108 at h
  unfold f_108
  refine (e_108_0 _ _ _ _ _ _).trans ?_
  refine (am_bind_i (s_106 L σ x1 h.1)).trans ?_
  refine (e_108_8 _ _ _ _ _ _ _ _ _).trans ?_
  refine (am_bind_i (s_107 L σ x2 x3 (v_106 σ x1) h.2.1)).trans ?_
  refine (e_108_11 _ _ _ _ _ _ _).trans ?_
  refine am_fkPI (fun hc407 => ?_) (fun hc407 => ?_)
  · refine (e_108_15 _ _ _ _ _ _ _).trans ?_
    rfl
  · refine (e_108_16 _ _ _ _ _ _).trans ?_
    refine (am_bind_v (s_103 L σ x1 x2 0 ((h.2.2 hc407).1))).trans ?_
    refine (e_108_23 _ _ _ _ _ _).trans ?_
    refine (am_bind_v (s_103 L (w_103 σ x1 x2 0) x1 x3 4 ((h.2.2 hc407).2.1))).trans ?_
    refine (e_108_30 _ _ _ _ _ _).trans ?_
    exact t_108_36 L 14 (w_103 (w_103 σ x1 x2 0) x1 x3 4) x1 x2 x3 x4 0 0 ((h.2.2 hc407).2.2)
def v_108 (σ : am_M) (x1 : Int32) (x2 : Int32) (x3 : Int32) (x4 : Int32) : Int32 := (f_108 σ x1 x2 x3 x4).1
def w_108 (σ : am_M) (x1 : Int32) (x2 : Int32) (x3 : Int32) (x4 : Int32) : am_M := (f_108 σ x1 x2 x3 x4).2
theorem s_108 (L : Nat) (σ : am_M) (x1 : Int32) (x2 : Int32) (x3 : Int32) (x4 : Int32) (h : p_108 σ x1 x2 x3 x4) : am_r L 108 0 [some (.inr (.inr (50, none))), some (.inl x1), some (.inl x2), some (.inl x3), some (.inl x4), none, none] [] σ = some (some (.inl (v_108 σ x1 x2 x3 x4)), am_sh0 L, w_108 σ x1 x2 x3 x4) := sf_108 L σ x1 x2 x3 x4 h
-- 109: X5_isClear
def l_109_36 (k24 : am_M → Int32 → Int32 → Int32 → Int32 → Int32 × am_M) : Nat → am_M → Int32 → Int32 → Int32 → Int32 → Int32 → Int32 × am_M
  | 0, σ, x1, x2, x3, x4, x5 => (0, σ)
  | n + 1, σ, x1, x2, x3, x4, x5 => (if x5 < (σ.1 50 1) then (if (if ((x2 >>> (x4 &&& (31 : Int32))) &&& (1 : Int32)) = 1 then ((if ((x2 >>> (x5 &&& (31 : Int32))) &&& (1 : Int32)) = 0 then (1 : Int32) else 0) : Int32) else 0) = 0 then (l_109_36 k24 n σ x1 x2 x3 x4 (x5 + 1)) else (if (if x4 = x1 then ((if x5 = (σ.1 51 x1.toNatClampNeg) then (1 : Int32) else (if x5 = x1 then ((if x4 = (σ.1 51 x1.toNatClampNeg) then (1 : Int32) else 0) : Int32) else 0)) : Int32) else (if x5 = x1 then ((if x4 = (σ.1 51 x1.toNatClampNeg) then (1 : Int32) else 0) : Int32) else 0)) = 0 then (if (v_108 σ x1 x4 x5 x3) = 0 then (l_109_36 k24 n (w_108 σ x1 x4 x5 x3) x1 x2 x3 x4 (x5 + 1)) else (0, (w_108 σ x1 x4 x5 x3))) else (l_109_36 k24 n σ x1 x2 x3 x4 (x5 + 1)))) else (k24 σ x1 x2 x3 (x4 + 1)))
def q_109_36 (c24 : am_M → Int32 → Int32 → Int32 → Int32 → Prop) : Nat → am_M → Int32 → Int32 → Int32 → Int32 → Int32 → Prop
  | 0, _, _, _, _, _, _ => False
  | n + 1, σ, x1, x2, x3, x4, x5 => ((x5 < (σ.1 50 1)) → ((((x4 = x1) → ((¬ (x1 < 0 ∨ 13 ≤ x1.toNatClampNeg)) ∧ (¬ (x5 = (σ.1 51 x1.toNatClampNeg)) → ((x5 = x1) → (¬ (x1 < 0 ∨ 13 ≤ x1.toNatClampNeg)))))) ∧ (¬ (x4 = x1) → ((x5 = x1) → (¬ (x1 < 0 ∨ 13 ≤ x1.toNatClampNeg))))) ∧ ((((if ((x2 >>> (x4 &&& (31 : Int32))) &&& (1 : Int32)) = 1 then ((if ((x2 >>> (x5 &&& (31 : Int32))) &&& (1 : Int32)) = 0 then (1 : Int32) else 0) : Int32) else 0) = 0) → (q_109_36 c24 n σ x1 x2 x3 x4 (x5 + 1))) ∧ (¬ ((if ((x2 >>> (x4 &&& (31 : Int32))) &&& (1 : Int32)) = 1 then ((if ((x2 >>> (x5 &&& (31 : Int32))) &&& (1 : Int32)) = 0 then (1 : Int32) else 0) : Int32) else 0) = 0) → ((((if x4 = x1 then ((if x5 = (σ.1 51 x1.toNatClampNeg) then (1 : Int32) else (if x5 = x1 then ((if x4 = (σ.1 51 x1.toNatClampNeg) then (1 : Int32) else 0) : Int32) else 0)) : Int32) else (if x5 = x1 then ((if x4 = (σ.1 51 x1.toNatClampNeg) then (1 : Int32) else 0) : Int32) else 0)) = 0) → ((p_108 σ x1 x4 x5 x3) ∧ (((v_108 σ x1 x4 x5 x3) = 0) → (q_109_36 c24 n (w_108 σ x1 x4 x5 x3) x1 x2 x3 x4 (x5 + 1))))) ∧ (¬ ((if x4 = x1 then ((if x5 = (σ.1 51 x1.toNatClampNeg) then (1 : Int32) else (if x5 = x1 then ((if x4 = (σ.1 51 x1.toNatClampNeg) then (1 : Int32) else 0) : Int32) else 0)) : Int32) else (if x5 = x1 then ((if x4 = (σ.1 51 x1.toNatClampNeg) then (1 : Int32) else 0) : Int32) else 0)) = 0) → (q_109_36 c24 n σ x1 x2 x3 x4 (x5 + 1)))))))) ∧ (¬ (x5 < (σ.1 50 1)) → (c24 σ x1 x2 x3 (x4 + 1)))
set_option maxRecDepth 20000 in
theorem t_109_36 (L : Nat) (k24 : am_M → Int32 → Int32 → Int32 → Int32 → Int32 × am_M) (c24 : am_M → Int32 → Int32 → Int32 → Int32 → Prop) (hk24 : ∀ (σ : am_M) (x1 : Int32) (x2 : Int32) (x3 : Int32) (x4 : Int32) (o5 : Option am_V) (o6 : Option am_V) (o7 : Option am_V), c24 σ x1 x2 x3 x4 → am_r L 109 24 [some (.inr (.inr (50, none))), some (.inl x1), some (.inl x2), some (.inl x3), some (.inl x4), o5, o6, o7] [] σ = some (some (.inl (k24 σ x1 x2 x3 x4).1), am_sh0 L, (k24 σ x1 x2 x3 x4).2)) : ∀ (n : Nat) (σ : am_M) (x1 : Int32) (x2 : Int32) (x3 : Int32) (x4 : Int32) (x5 : Int32) (o6 : Option am_V) (o7 : Option am_V), q_109_36 c24 n σ x1 x2 x3 x4 x5 → am_r L 109 36 [some (.inr (.inr (50, none))), some (.inl x1), some (.inl x2), some (.inl x3), some (.inl x4), some (.inl x5), o6, o7] [] σ = some (some (.inl (l_109_36 k24 n σ x1 x2 x3 x4 x5).1), am_sh0 L, (l_109_36 k24 n σ x1 x2 x3 x4 x5).2) := by
  intro n
  induction n with
  | zero => intro σ x1 x2 x3 x4 x5 o6 o7 h; exact h.elim
  | succ n ih =>
    intro σ x1 x2 x3 x4 x5 o6 o7 h
    unfold q_109_36 at h
    unfold l_109_36
    refine (e_109_36 _ _ _ _ _ _ _ _ _).trans ?_
    refine am_fkPI (fun hc408 => ?_) (fun hc408 => ?_)
    · refine Eq.trans (b := am_r L 109 69 [some (.inr (.inr (50, none))), some (.inl x1), some (.inl x2), some (.inl x3), some (.inl x4), some (.inl x5), o6, o7] [.inl (if ((x2 >>> (x4 &&& (31 : Int32))) &&& (1 : Int32)) = 1 then ((if ((x2 >>> (x5 &&& (31 : Int32))) &&& (1 : Int32)) = 0 then (1 : Int32) else 0) : Int32) else 0)] σ) ?_ ?_
      · by_cases hc409 : ((x2 >>> (x4 &&& (31 : Int32))) &&& (1 : Int32)) = 1
        · refine (if_pos hc409).trans ?_
          refine Eq.trans (b := am_r L 109 69 [some (.inr (.inr (50, none))), some (.inl x1), some (.inl x2), some (.inl x3), some (.inl x4), some (.inl x5), o6, o7] [.inl (if ((x2 >>> (x5 &&& (31 : Int32))) &&& (1 : Int32)) = 0 then (1 : Int32) else 0)] σ) ?_ ?_
          · refine Eq.trans (b := am_r L 109 69 [some (.inr (.inr (50, none))), some (.inl x1), some (.inl x2), some (.inl x3), some (.inl x4), some (.inl x5), o6, o7] [.inl (if ((x2 >>> (x5 &&& (31 : Int32))) &&& (1 : Int32)) = 0 then (1 : Int32) else 0)] σ) ?_ ?_
            · by_cases hc410 : ((x2 >>> (x5 &&& (31 : Int32))) &&& (1 : Int32)) = 0
              · refine (if_pos hc410).trans ?_
                refine Eq.trans (b := am_r L 109 69 [some (.inr (.inr (50, none))), some (.inl x1), some (.inl x2), some (.inl x3), some (.inl x4), some (.inl x5), o6, o7] [.inl 1] σ) ?_ ?_
                · rfl
                · first | with_reducible rfl | simp only [if_pos hc410]
              · refine (if_neg hc410).trans ?_
                refine Eq.trans (b := am_r L 109 69 [some (.inr (.inr (50, none))), some (.inl x1), some (.inl x2), some (.inl x3), some (.inl x4), some (.inl x5), o6, o7] [.inl 0] σ) ?_ ?_
                · refine (e_109_68 _ _ _ _ _ _ _ _ _).trans ?_
                  rfl
                · first | with_reducible rfl | simp only [if_neg hc410]
            rfl
          · first | with_reducible rfl | simp only [if_pos hc409]
        · refine (if_neg hc409).trans ?_
          refine Eq.trans (b := am_r L 109 69 [some (.inr (.inr (50, none))), some (.inl x1), some (.inl x2), some (.inl x3), some (.inl x4), some (.inl x5), o6, o7] [.inl 0] σ) ?_ ?_
          · refine (e_109_68 _ _ _ _ _ _ _ _ _).trans ?_
            rfl
          · first | with_reducible rfl | simp only [if_neg hc409]
      refine (e_109_69 _ _ _ _ _ _ _ _ _ _).trans ?_
      refine Eq.trans (b := am_r L 109 110 [some (.inr (.inr (50, none))), some (.inl x1), some (.inl x2), some (.inl x3), some (.inl x4), some (.inl x5), some (.inl (if ((x2 >>> (x4 &&& (31 : Int32))) &&& (1 : Int32)) = 1 then ((if ((x2 >>> (x5 &&& (31 : Int32))) &&& (1 : Int32)) = 0 then (1 : Int32) else 0) : Int32) else 0)), o7] [.inl (if x4 = x1 then ((if x5 = (σ.1 51 x1.toNatClampNeg) then (1 : Int32) else (if x5 = x1 then ((if x4 = (σ.1 51 x1.toNatClampNeg) then (1 : Int32) else 0) : Int32) else 0)) : Int32) else (if x5 = x1 then ((if x4 = (σ.1 51 x1.toNatClampNeg) then (1 : Int32) else 0) : Int32) else 0))] σ) ?_ ?_
      · by_cases hc411 : x4 = x1
        · refine (if_pos hc411).trans ?_
          refine Eq.trans (b := am_r L 109 110 [some (.inr (.inr (50, none))), some (.inl x1), some (.inl x2), some (.inl x3), some (.inl x4), some (.inl x5), some (.inl (if ((x2 >>> (x4 &&& (31 : Int32))) &&& (1 : Int32)) = 1 then ((if ((x2 >>> (x5 &&& (31 : Int32))) &&& (1 : Int32)) = 0 then (1 : Int32) else 0) : Int32) else 0)), o7] [.inl (if x5 = (σ.1 51 x1.toNatClampNeg) then (1 : Int32) else (if x5 = x1 then ((if x4 = (σ.1 51 x1.toNatClampNeg) then (1 : Int32) else 0) : Int32) else 0))] σ) ?_ ?_
          · refine (if_neg (((h.1 hc408).1.1 hc411).1)).trans ?_
            refine Eq.trans (b := am_r L 109 110 [some (.inr (.inr (50, none))), some (.inl x1), some (.inl x2), some (.inl x3), some (.inl x4), some (.inl x5), some (.inl (if ((x2 >>> (x4 &&& (31 : Int32))) &&& (1 : Int32)) = 1 then ((if ((x2 >>> (x5 &&& (31 : Int32))) &&& (1 : Int32)) = 0 then (1 : Int32) else 0) : Int32) else 0)), o7] [.inl (if x5 = (σ.1 51 x1.toNatClampNeg) then (1 : Int32) else (if x5 = x1 then ((if x4 = (σ.1 51 x1.toNatClampNeg) then (1 : Int32) else 0) : Int32) else 0))] σ) ?_ ?_
            · by_cases hc412 : x5 = (σ.1 51 x1.toNatClampNeg)
              · refine (if_pos hc412).trans ?_
                refine Eq.trans (b := am_r L 109 110 [some (.inr (.inr (50, none))), some (.inl x1), some (.inl x2), some (.inl x3), some (.inl x4), some (.inl x5), some (.inl (if ((x2 >>> (x4 &&& (31 : Int32))) &&& (1 : Int32)) = 1 then ((if ((x2 >>> (x5 &&& (31 : Int32))) &&& (1 : Int32)) = 0 then (1 : Int32) else 0) : Int32) else 0)), o7] [.inl 1] σ) ?_ ?_
                · refine (e_109_105 _ _ _ _ _ _ _ _ _).trans ?_
                  rfl
                · first | with_reducible rfl | simp only [if_pos hc412]
              · refine (if_neg hc412).trans ?_
                refine Eq.trans (b := am_r L 109 110 [some (.inr (.inr (50, none))), some (.inl x1), some (.inl x2), some (.inl x3), some (.inl x4), some (.inl x5), some (.inl (if ((x2 >>> (x4 &&& (31 : Int32))) &&& (1 : Int32)) = 1 then ((if ((x2 >>> (x5 &&& (31 : Int32))) &&& (1 : Int32)) = 0 then (1 : Int32) else 0) : Int32) else 0)), o7] [.inl (if x5 = x1 then ((if x4 = (σ.1 51 x1.toNatClampNeg) then (1 : Int32) else 0) : Int32) else 0)] σ) ?_ ?_
                · refine (e_109_88 _ _ _ _ _ _ _ _ _).trans ?_
                  refine Eq.trans (b := am_r L 109 110 [some (.inr (.inr (50, none))), some (.inl x1), some (.inl x2), some (.inl x3), some (.inl x4), some (.inl x5), some (.inl (if ((x2 >>> (x4 &&& (31 : Int32))) &&& (1 : Int32)) = 1 then ((if ((x2 >>> (x5 &&& (31 : Int32))) &&& (1 : Int32)) = 0 then (1 : Int32) else 0) : Int32) else 0)), o7] [.inl (if x5 = x1 then ((if x4 = (σ.1 51 x1.toNatClampNeg) then (1 : Int32) else 0) : Int32) else 0)] σ) ?_ ?_
                  · by_cases hc413 : x5 = x1
                    · refine (if_pos hc413).trans ?_
                      refine Eq.trans (b := am_r L 109 110 [some (.inr (.inr (50, none))), some (.inl x1), some (.inl x2), some (.inl x3), some (.inl x4), some (.inl x5), some (.inl (if ((x2 >>> (x4 &&& (31 : Int32))) &&& (1 : Int32)) = 1 then ((if ((x2 >>> (x5 &&& (31 : Int32))) &&& (1 : Int32)) = 0 then (1 : Int32) else 0) : Int32) else 0)), o7] [.inl (if x4 = (σ.1 51 x1.toNatClampNeg) then (1 : Int32) else 0)] σ) ?_ ?_
                      · refine (if_neg (((((h.1 hc408).1.1 hc411).2 hc412) hc413))).trans ?_
                        refine Eq.trans (b := am_r L 109 110 [some (.inr (.inr (50, none))), some (.inl x1), some (.inl x2), some (.inl x3), some (.inl x4), some (.inl x5), some (.inl (if ((x2 >>> (x4 &&& (31 : Int32))) &&& (1 : Int32)) = 1 then ((if ((x2 >>> (x5 &&& (31 : Int32))) &&& (1 : Int32)) = 0 then (1 : Int32) else 0) : Int32) else 0)), o7] [.inl (if x4 = (σ.1 51 x1.toNatClampNeg) then (1 : Int32) else 0)] σ) ?_ ?_
                        · by_cases hc414 : x4 = (σ.1 51 x1.toNatClampNeg)
                          · refine (if_pos hc414).trans ?_
                            refine Eq.trans (b := am_r L 109 110 [some (.inr (.inr (50, none))), some (.inl x1), some (.inl x2), some (.inl x3), some (.inl x4), some (.inl x5), some (.inl (if ((x2 >>> (x4 &&& (31 : Int32))) &&& (1 : Int32)) = 1 then ((if ((x2 >>> (x5 &&& (31 : Int32))) &&& (1 : Int32)) = 0 then (1 : Int32) else 0) : Int32) else 0)), o7] [.inl 1] σ) ?_ ?_
                            · refine (e_109_105 _ _ _ _ _ _ _ _ _).trans ?_
                              rfl
                            · first | with_reducible rfl | simp only [if_pos hc414]
                          · refine (if_neg hc414).trans ?_
                            refine Eq.trans (b := am_r L 109 110 [some (.inr (.inr (50, none))), some (.inl x1), some (.inl x2), some (.inl x3), some (.inl x4), some (.inl x5), some (.inl (if ((x2 >>> (x4 &&& (31 : Int32))) &&& (1 : Int32)) = 1 then ((if ((x2 >>> (x5 &&& (31 : Int32))) &&& (1 : Int32)) = 0 then (1 : Int32) else 0) : Int32) else 0)), o7] [.inl 0] σ) ?_ ?_
                            · refine (e_109_109 _ _ _ _ _ _ _ _ _).trans ?_
                              rfl
                            · first | with_reducible rfl | simp only [if_neg hc414]
                        rfl
                      · first | with_reducible rfl | simp only [if_pos hc413]
                    · refine (if_neg hc413).trans ?_
                      refine Eq.trans (b := am_r L 109 110 [some (.inr (.inr (50, none))), some (.inl x1), some (.inl x2), some (.inl x3), some (.inl x4), some (.inl x5), some (.inl (if ((x2 >>> (x4 &&& (31 : Int32))) &&& (1 : Int32)) = 1 then ((if ((x2 >>> (x5 &&& (31 : Int32))) &&& (1 : Int32)) = 0 then (1 : Int32) else 0) : Int32) else 0)), o7] [.inl 0] σ) ?_ ?_
                      · refine (e_109_109 _ _ _ _ _ _ _ _ _).trans ?_
                        rfl
                      · first | with_reducible rfl | simp only [if_neg hc413]
                  rfl
                · first | with_reducible rfl | simp only [if_neg hc412]
            rfl
          · first | with_reducible rfl | simp only [if_pos hc411]
        · refine (if_neg hc411).trans ?_
          refine Eq.trans (b := am_r L 109 110 [some (.inr (.inr (50, none))), some (.inl x1), some (.inl x2), some (.inl x3), some (.inl x4), some (.inl x5), some (.inl (if ((x2 >>> (x4 &&& (31 : Int32))) &&& (1 : Int32)) = 1 then ((if ((x2 >>> (x5 &&& (31 : Int32))) &&& (1 : Int32)) = 0 then (1 : Int32) else 0) : Int32) else 0)), o7] [.inl (if x5 = x1 then ((if x4 = (σ.1 51 x1.toNatClampNeg) then (1 : Int32) else 0) : Int32) else 0)] σ) ?_ ?_
          · refine (e_109_88 _ _ _ _ _ _ _ _ _).trans ?_
            refine Eq.trans (b := am_r L 109 110 [some (.inr (.inr (50, none))), some (.inl x1), some (.inl x2), some (.inl x3), some (.inl x4), some (.inl x5), some (.inl (if ((x2 >>> (x4 &&& (31 : Int32))) &&& (1 : Int32)) = 1 then ((if ((x2 >>> (x5 &&& (31 : Int32))) &&& (1 : Int32)) = 0 then (1 : Int32) else 0) : Int32) else 0)), o7] [.inl (if x5 = x1 then ((if x4 = (σ.1 51 x1.toNatClampNeg) then (1 : Int32) else 0) : Int32) else 0)] σ) ?_ ?_
            · by_cases hc415 : x5 = x1
              · refine (if_pos hc415).trans ?_
                refine Eq.trans (b := am_r L 109 110 [some (.inr (.inr (50, none))), some (.inl x1), some (.inl x2), some (.inl x3), some (.inl x4), some (.inl x5), some (.inl (if ((x2 >>> (x4 &&& (31 : Int32))) &&& (1 : Int32)) = 1 then ((if ((x2 >>> (x5 &&& (31 : Int32))) &&& (1 : Int32)) = 0 then (1 : Int32) else 0) : Int32) else 0)), o7] [.inl (if x4 = (σ.1 51 x1.toNatClampNeg) then (1 : Int32) else 0)] σ) ?_ ?_
                · refine (if_neg ((((h.1 hc408).1.2 hc411) hc415))).trans ?_
                  refine Eq.trans (b := am_r L 109 110 [some (.inr (.inr (50, none))), some (.inl x1), some (.inl x2), some (.inl x3), some (.inl x4), some (.inl x5), some (.inl (if ((x2 >>> (x4 &&& (31 : Int32))) &&& (1 : Int32)) = 1 then ((if ((x2 >>> (x5 &&& (31 : Int32))) &&& (1 : Int32)) = 0 then (1 : Int32) else 0) : Int32) else 0)), o7] [.inl (if x4 = (σ.1 51 x1.toNatClampNeg) then (1 : Int32) else 0)] σ) ?_ ?_
                  · by_cases hc416 : x4 = (σ.1 51 x1.toNatClampNeg)
                    · refine (if_pos hc416).trans ?_
                      refine Eq.trans (b := am_r L 109 110 [some (.inr (.inr (50, none))), some (.inl x1), some (.inl x2), some (.inl x3), some (.inl x4), some (.inl x5), some (.inl (if ((x2 >>> (x4 &&& (31 : Int32))) &&& (1 : Int32)) = 1 then ((if ((x2 >>> (x5 &&& (31 : Int32))) &&& (1 : Int32)) = 0 then (1 : Int32) else 0) : Int32) else 0)), o7] [.inl 1] σ) ?_ ?_
                      · refine (e_109_105 _ _ _ _ _ _ _ _ _).trans ?_
                        rfl
                      · first | with_reducible rfl | simp only [if_pos hc416]
                    · refine (if_neg hc416).trans ?_
                      refine Eq.trans (b := am_r L 109 110 [some (.inr (.inr (50, none))), some (.inl x1), some (.inl x2), some (.inl x3), some (.inl x4), some (.inl x5), some (.inl (if ((x2 >>> (x4 &&& (31 : Int32))) &&& (1 : Int32)) = 1 then ((if ((x2 >>> (x5 &&& (31 : Int32))) &&& (1 : Int32)) = 0 then (1 : Int32) else 0) : Int32) else 0)), o7] [.inl 0] σ) ?_ ?_
                      · refine (e_109_109 _ _ _ _ _ _ _ _ _).trans ?_
                        rfl
                      · first | with_reducible rfl | simp only [if_neg hc416]
                  rfl
                · first | with_reducible rfl | simp only [if_pos hc415]
              · refine (if_neg hc415).trans ?_
                refine Eq.trans (b := am_r L 109 110 [some (.inr (.inr (50, none))), some (.inl x1), some (.inl x2), some (.inl x3), some (.inl x4), some (.inl x5), some (.inl (if ((x2 >>> (x4 &&& (31 : Int32))) &&& (1 : Int32)) = 1 then ((if ((x2 >>> (x5 &&& (31 : Int32))) &&& (1 : Int32)) = 0 then (1 : Int32) else 0) : Int32) else 0)), o7] [.inl 0] σ) ?_ ?_
                · refine (e_109_109 _ _ _ _ _ _ _ _ _).trans ?_
                  rfl
                · first | with_reducible rfl | simp only [if_neg hc415]
            rfl
          · first | with_reducible rfl | simp only [if_neg hc411]
      refine (e_109_110 _ _ _ _ _ _ _ _ _ _).trans ?_
      refine am_fkPI (fun hc417 => ?_) (fun hc417 => ?_)
      · refine (e_109_137 _ _ _ _ _ _ _ _ _).trans ?_
        exact ih σ x1 x2 x3 x4 (x5 + 1) (some (.inl (if ((x2 >>> (x4 &&& (31 : Int32))) &&& (1 : Int32)) = 1 then ((if ((x2 >>> (x5 &&& (31 : Int32))) &&& (1 : Int32)) = 0 then (1 : Int32) else 0) : Int32) else 0))) (some (.inl (if x4 = x1 then ((if x5 = (σ.1 51 x1.toNatClampNeg) then (1 : Int32) else (if x5 = x1 then ((if x4 = (σ.1 51 x1.toNatClampNeg) then (1 : Int32) else 0) : Int32) else 0)) : Int32) else (if x5 = x1 then ((if x4 = (σ.1 51 x1.toNatClampNeg) then (1 : Int32) else 0) : Int32) else 0)))) (((h.1 hc408).2.1 hc417))
      · refine am_fkPI (fun hc418 => ?_) (fun hc418 => ?_)
        · refine (am_bind_i (s_108 L σ x1 x4 x5 x3 ((((h.1 hc408).2.2 hc417).1 hc418).1))).trans ?_
          refine (e_109_132 _ _ _ _ _ _ _ _ _ _).trans ?_
          refine am_fkPI (fun hc419 => ?_) (fun hc419 => ?_)
          · refine (e_109_137 _ _ _ _ _ _ _ _ _).trans ?_
            exact ih (w_108 σ x1 x4 x5 x3) x1 x2 x3 x4 (x5 + 1) (some (.inl (if ((x2 >>> (x4 &&& (31 : Int32))) &&& (1 : Int32)) = 1 then ((if ((x2 >>> (x5 &&& (31 : Int32))) &&& (1 : Int32)) = 0 then (1 : Int32) else 0) : Int32) else 0))) (some (.inl (if x4 = x1 then ((if x5 = (σ.1 51 x1.toNatClampNeg) then (1 : Int32) else (if x5 = x1 then ((if x4 = (σ.1 51 x1.toNatClampNeg) then (1 : Int32) else 0) : Int32) else 0)) : Int32) else (if x5 = x1 then ((if x4 = (σ.1 51 x1.toNatClampNeg) then (1 : Int32) else 0) : Int32) else 0)))) (((((h.1 hc408).2.2 hc417).1 hc418).2 hc419))
          · refine (e_109_136 _ _ _ _ _ _ _ _ _ _).trans ?_
            rfl
        · refine (e_109_137 _ _ _ _ _ _ _ _ _).trans ?_
          exact ih σ x1 x2 x3 x4 (x5 + 1) (some (.inl (if ((x2 >>> (x4 &&& (31 : Int32))) &&& (1 : Int32)) = 1 then ((if ((x2 >>> (x5 &&& (31 : Int32))) &&& (1 : Int32)) = 0 then (1 : Int32) else 0) : Int32) else 0))) (some (.inl (if x4 = x1 then ((if x5 = (σ.1 51 x1.toNatClampNeg) then (1 : Int32) else (if x5 = x1 then ((if x4 = (σ.1 51 x1.toNatClampNeg) then (1 : Int32) else 0) : Int32) else 0)) : Int32) else (if x5 = x1 then ((if x4 = (σ.1 51 x1.toNatClampNeg) then (1 : Int32) else 0) : Int32) else 0)))) ((((h.1 hc408).2.2 hc417).2 hc418))
    · refine (e_109_143 _ _ _ _ _ _ _ _ _).trans ?_
      exact hk24 σ x1 x2 x3 (x4 + 1) (some (.inl x5)) o6 o7 ((h.2 hc408))
def l_109_24 : Nat → am_M → Int32 → Int32 → Int32 → Int32 → Int32 × am_M
  | 0, σ, x1, x2, x3, x4 => (0, σ)
  | n + 1, σ, x1, x2, x3, x4 => (if x4 < (σ.1 50 1) then (l_109_36 (l_109_24 n) 14 σ x1 x2 x3 x4 0) else (1, σ))
def q_109_24 : Nat → am_M → Int32 → Int32 → Int32 → Int32 → Prop
  | 0, _, _, _, _, _ => False
  | n + 1, σ, x1, x2, x3, x4 => (x4 < (σ.1 50 1)) → (q_109_36 (q_109_24 n) 14 σ x1 x2 x3 x4 0)
set_option maxRecDepth 20000 in
theorem t_109_24 (L : Nat) : ∀ (n : Nat) (σ : am_M) (x1 : Int32) (x2 : Int32) (x3 : Int32) (x4 : Int32) (o5 : Option am_V) (o6 : Option am_V) (o7 : Option am_V), q_109_24 n σ x1 x2 x3 x4 → am_r L 109 24 [some (.inr (.inr (50, none))), some (.inl x1), some (.inl x2), some (.inl x3), some (.inl x4), o5, o6, o7] [] σ = some (some (.inl (l_109_24 n σ x1 x2 x3 x4).1), am_sh0 L, (l_109_24 n σ x1 x2 x3 x4).2) := by
  intro n
  induction n with
  | zero => intro σ x1 x2 x3 x4 o5 o6 o7 h; exact h.elim
  | succ n ih =>
    intro σ x1 x2 x3 x4 o5 o6 o7 h
    unfold q_109_24 at h
    unfold l_109_24
    refine (e_109_24 _ _ _ _ _ _ _ _ _).trans ?_
    refine am_fkPI (fun hc420 => ?_) (fun hc420 => ?_)
    · exact t_109_36 L (l_109_24 n) (q_109_24 n) ih 14 σ x1 x2 x3 x4 0 o6 o7 ((h hc420))
    · refine (e_109_149 _ _ _ _ _ _ _ _ _).trans ?_
      refine (e_109_150 _ _ _ _ _ _ _ _ _ _).trans ?_
      rfl
def p_109 (σ : am_M) (x1 : Int32) : Prop := (p_97 σ x1) ∧ (q_109_24 14 σ x1 (v_97 σ x1) (if (((v_97 σ x1) >>> (x1 &&& (31 : Int32))) &&& (1 : Int32)) = 1 then (1 : Int32) else 3) 0)
def f_109 (σ : am_M) (x1 : Int32) : Int32 × am_M := (l_109_24 14 σ x1 (v_97 σ x1) (if (((v_97 σ x1) >>> (x1 &&& (31 : Int32))) &&& (1 : Int32)) = 1 then (1 : Int32) else 3) 0)
set_option maxRecDepth 20000 in
theorem sf_109 (L : Nat) (σ : am_M) (x1 : Int32) (h : p_109 σ x1) : am_r L 109 0 [some (.inr (.inr (50, none))), some (.inl x1), none, none, none, none, none, none] [] σ = some (some (.inl (f_109 σ x1).1), am_sh0 L, (f_109 σ x1).2) := by
  unfold p_109 at h
  unfold f_109
  refine (e_109_0 _ _ _).trans ?_
  refine (am_bind_i (s_97 L σ x1 h.1)).trans ?_
  refine (e_109_5 _ _ _ _).trans ?_
  refine Eq.trans (b := am_r L 109 20 [some (.inr (.inr (50, none))), some (.inl x1), some (.inl (v_97 σ x1)), none, none, none, none, none] [.inl (if (((v_97 σ x1) >>> (x1 &&& (31 : Int32))) &&& (1 : Int32)) = 1 then (1 : Int32) else 3)] σ) ?_ ?_
  · by_cases hc421 : (((v_97 σ x1) >>> (x1 &&& (31 : Int32))) &&& (1 : Int32)) = 1
    · refine (if_pos hc421).trans ?_
      refine Eq.trans (b := am_r L 109 20 [some (.inr (.inr (50, none))), some (.inl x1), some (.inl (v_97 σ x1)), none, none, none, none, none] [.inl 1] σ) ?_ ?_
      · rfl
      · first | with_reducible rfl | simp only [if_pos hc421]
    · refine (if_neg hc421).trans ?_
      refine Eq.trans (b := am_r L 109 20 [some (.inr (.inr (50, none))), some (.inl x1), some (.inl (v_97 σ x1)), none, none, none, none, none] [.inl 3] σ) ?_ ?_
      · refine (e_109_19 _ _ _ _).trans ?_
        rfl
      · first | with_reducible rfl | simp only [if_neg hc421]
  refine (e_109_20 _ _ _ _ _).trans ?_
  exact t_109_24 L 14 σ x1 (v_97 σ x1) (if (((v_97 σ x1) >>> (x1 &&& (31 : Int32))) &&& (1 : Int32)) = 1 then (1 : Int32) else 3) 0 none none none h.2
def v_109 (σ : am_M) (x1 : Int32) : Int32 := (f_109 σ x1).1
def w_109 (σ : am_M) (x1 : Int32) : am_M := (f_109 σ x1).2
theorem s_109 (L : Nat) (σ : am_M) (x1 : Int32) (h : p_109 σ x1) : am_r L 109 0 [some (.inr (.inr (50, none))), some (.inl x1), none, none, none, none, none, none] [] σ = some (some (.inl (v_109 σ x1)), am_sh0 L, w_109 σ x1) := sf_109 L σ x1 h
-- 110: X5_mayTurn
def v_110 (σ : am_M) (x1 : Int32) (x2 : Int32) : Int32 := (if (v_88 σ x1) = 0 then (0 : Int32) else (if (v_94 σ x2) = 0 then (0 : Int32) else (if ((x1 >>> (x2 &&& (31 : Int32))) &&& (1 : Int32)) = 0 then (1 : Int32) else 0)))
set_option maxRecDepth 20000 in
theorem s_110 (L : Nat) (σ : am_M) (x1 : Int32) (x2 : Int32) : am_r L 110 0 [some (.inr (.inr (50, none))), some (.inl x1), some (.inl x2)] [] σ = some (some (.inl (v_110 σ x1 x2)), am_sh0 L, σ) := by
  unfold v_110
  refine (e_110_0 _ _ _ _).trans ?_
  refine (am_bind_i (s_88 L σ x1)).trans ?_
  refine (e_110_5 _ _ _ _ _).trans ?_
  refine Eq.trans (b := am_r L 110 29 [some (.inr (.inr (50, none))), some (.inl x1), some (.inl x2)] [.inl (if (v_88 σ x1) = 0 then (0 : Int32) else (if (v_94 σ x2) = 0 then (0 : Int32) else (if ((x1 >>> (x2 &&& (31 : Int32))) &&& (1 : Int32)) = 0 then (1 : Int32) else 0)))] σ) ?_ ?_
  · by_cases hc422 : (v_88 σ x1) = 0
    · refine (if_pos hc422).trans ?_
      refine Eq.trans (b := am_r L 110 29 [some (.inr (.inr (50, none))), some (.inl x1), some (.inl x2)] [.inl 0] σ) ?_ ?_
      · refine (e_110_28 _ _ _ _).trans ?_
        rfl
      · first | with_reducible rfl | simp only [if_pos hc422]
    · refine (if_neg hc422).trans ?_
      refine Eq.trans (b := am_r L 110 29 [some (.inr (.inr (50, none))), some (.inl x1), some (.inl x2)] [.inl (if (v_94 σ x2) = 0 then (0 : Int32) else (if ((x1 >>> (x2 &&& (31 : Int32))) &&& (1 : Int32)) = 0 then (1 : Int32) else 0))] σ) ?_ ?_
      · refine (am_bind_i (s_94 L σ x2)).trans ?_
        refine (e_110_13 _ _ _ _ _).trans ?_
        refine Eq.trans (b := am_r L 110 29 [some (.inr (.inr (50, none))), some (.inl x1), some (.inl x2)] [.inl (if (v_94 σ x2) = 0 then (0 : Int32) else (if ((x1 >>> (x2 &&& (31 : Int32))) &&& (1 : Int32)) = 0 then (1 : Int32) else 0))] σ) ?_ ?_
        · by_cases hc423 : (v_94 σ x2) = 0
          · refine (if_pos hc423).trans ?_
            refine Eq.trans (b := am_r L 110 29 [some (.inr (.inr (50, none))), some (.inl x1), some (.inl x2)] [.inl 0] σ) ?_ ?_
            · refine (e_110_28 _ _ _ _).trans ?_
              rfl
            · first | with_reducible rfl | simp only [if_pos hc423]
          · refine (if_neg hc423).trans ?_
            refine Eq.trans (b := am_r L 110 29 [some (.inr (.inr (50, none))), some (.inl x1), some (.inl x2)] [.inl (if ((x1 >>> (x2 &&& (31 : Int32))) &&& (1 : Int32)) = 0 then (1 : Int32) else 0)] σ) ?_ ?_
            · refine Eq.trans (b := am_r L 110 29 [some (.inr (.inr (50, none))), some (.inl x1), some (.inl x2)] [.inl (if ((x1 >>> (x2 &&& (31 : Int32))) &&& (1 : Int32)) = 0 then (1 : Int32) else 0)] σ) ?_ ?_
              · by_cases hc424 : ((x1 >>> (x2 &&& (31 : Int32))) &&& (1 : Int32)) = 0
                · refine (if_pos hc424).trans ?_
                  refine Eq.trans (b := am_r L 110 29 [some (.inr (.inr (50, none))), some (.inl x1), some (.inl x2)] [.inl 1] σ) ?_ ?_
                  · rfl
                  · first | with_reducible rfl | simp only [if_pos hc424]
                · refine (if_neg hc424).trans ?_
                  refine Eq.trans (b := am_r L 110 29 [some (.inr (.inr (50, none))), some (.inl x1), some (.inl x2)] [.inl 0] σ) ?_ ?_
                  · refine (e_110_28 _ _ _ _).trans ?_
                    rfl
                  · first | with_reducible rfl | simp only [if_neg hc424]
              rfl
            · first | with_reducible rfl | simp only [if_neg hc423]
        rfl
      · first | with_reducible rfl | simp only [if_neg hc422]
  refine (e_110_29 _ _ _ _ _).trans ?_
  refine (if_pos (am_01 (Or.inl rfl) (am_01 (Or.inl rfl) (am_01 (Or.inr rfl) (Or.inl rfl))))).trans ?_
  rfl
theorem b_110 (σ : am_M) (x1 : Int32) (x2 : Int32) : v_110 σ x1 x2 = 0 ∨ v_110 σ x1 x2 = 1 := (am_01 (Or.inl rfl) (am_01 (Or.inl rfl) (am_01 (Or.inr rfl) (Or.inl rfl))))
-- 111: X5_clear
def p_111 (σ : am_M) (x1 : Int32) (x2 : Int32) : Prop := ¬ ((v_110 (am_put σ 50 0 0) x1 x2) = 0) → ((p_90 (am_put σ 50 0 0) x1) ∧ (p_109 (w_90 (am_put σ 50 0 0) x1) x2))
def v_111 (σ : am_M) (x1 : Int32) (x2 : Int32) : Int32 := (if (v_110 (am_put σ 50 0 0) x1 x2) = 0 then (-1) else (if (v_109 (w_90 (am_put σ 50 0 0) x1) x2) = 0 then (0 : Int32) else 1))
def w_111 (σ : am_M) (x1 : Int32) (x2 : Int32) : am_M := (if (v_110 (am_put σ 50 0 0) x1 x2) = 0 then (am_put σ 50 0 0) else (w_109 (w_90 (am_put σ 50 0 0) x1) x2))
set_option maxRecDepth 20000 in
theorem s_111 (L : Nat) (σ : am_M) (x1 : Int32) (x2 : Int32) (h : p_111 σ x1 x2) : am_r L 111 0 [some (.inr (.inr (50, none))), some (.inl x1), some (.inl x2)] [] σ = some (some (.inl (v_111 σ x1 x2)), am_sh0 L, w_111 σ x1 x2) := by
  unfold p_111 at h
  unfold v_111 w_111
  refine (e_111_0 _ _ _ _).trans ?_
  refine (am_bind_i (s_110 L (am_put σ 50 0 0) x1 x2)).trans ?_
  refine (e_111_11 _ _ _ _ _).trans ?_
  refine am_fkIvm (fun hc425 => ?_) (fun hc425 => ?_)
  · rfl
  · refine (e_111_16 _ _ _ _).trans ?_
    refine (am_bind_v (s_90 L (am_put σ 50 0 0) x1 ((h hc425).1))).trans ?_
    refine (e_111_21 _ _ _ _).trans ?_
    refine (am_bind_i (s_109 L (w_90 (am_put σ 50 0 0) x1) x2 ((h hc425).2))).trans ?_
    refine (e_111_26 _ _ _ _ _).trans ?_
    refine Eq.trans (b := am_r L 111 34 [some (.inr (.inr (50, none))), some (.inl x1), some (.inl x2)] [.inl (if (v_109 (w_90 (am_put σ 50 0 0) x1) x2) = 0 then (0 : Int32) else 1)] (w_109 (w_90 (am_put σ 50 0 0) x1) x2)) ?_ ?_
    · by_cases hc426 : (v_109 (w_90 (am_put σ 50 0 0) x1) x2) = 0
      · refine (if_pos hc426).trans ?_
        refine Eq.trans (b := am_r L 111 34 [some (.inr (.inr (50, none))), some (.inl x1), some (.inl x2)] [.inl 0] (w_109 (w_90 (am_put σ 50 0 0) x1) x2)) ?_ ?_
        · refine (e_111_33 _ _ _ _).trans ?_
          rfl
        · first | with_reducible rfl | simp only [if_pos hc426]
      · refine (if_neg hc426).trans ?_
        refine Eq.trans (b := am_r L 111 34 [some (.inr (.inr (50, none))), some (.inl x1), some (.inl x2)] [.inl 1] (w_109 (w_90 (am_put σ 50 0 0) x1) x2)) ?_ ?_
        · rfl
        · first | with_reducible rfl | simp only [if_neg hc426]
    refine (e_111_34 _ _ _ _ _).trans ?_
    rfl
-- 112: X5_edgeOf
def l_112_19 (k8 : Int32 → Int32 → Int32 → Int32) : Nat → am_M → Int32 → Int32 → Int32 → Int32 → Int32
  | 0, _, _, _, _, _ => 0
  | n + 1, σ, x1, x2, x3, x4 => (if x4 < 4 then (if (v_81 σ x3 x4) = 0 then (if (if (if (x4 - x4 / 2 * 2) = 0 then (1 : Int32) else 0) = 0 then (((σ.1 54 ((((4 * x3) + 2)).toNatClampNeg)) - (σ.1 54 (((4 * x3)).toNatClampNeg))) : Int32) else ((σ.1 54 ((((4 * x3) + 3)).toNatClampNeg)) - (σ.1 54 ((((4 * x3) + 1)).toNatClampNeg)))) < (σ.1 50 3) then (l_112_19 k8 n σ x1 x2 x3 (x4 + 1)) else (if (if (if (x4 - x4 / 2 * 2) = 0 then (1 : Int32) else 0) = 0 then ((v_105a57 σ (3 * x3)) : Int32) else (v_105a58 σ (3 * x3))) = x2 then ((4 * x3) + x4) else (l_112_19 k8 n σ x1 x2 x3 (x4 + 1)))) else (l_112_19 k8 n σ x1 x2 x3 (x4 + 1))) else (k8 x1 x2 (x3 + 1)))
def q_112_19 (c8 : Int32 → Int32 → Int32 → Prop) : Nat → am_M → Int32 → Int32 → Int32 → Int32 → Prop
  | 0, _, _, _, _, _ => False
  | n + 1, σ, x1, x2, x3, x4 => ((x4 < 4) → (((((if (x4 - x4 / 2 * 2) = 0 then (1 : Int32) else 0) = 0) → ((¬ (((4 * x3) + 2) < 0 ∨ 52 ≤ (((4 * x3) + 2)).toNatClampNeg)) ∧ (¬ ((4 * x3) < 0 ∨ 52 ≤ ((4 * x3)).toNatClampNeg)))) ∧ (¬ ((if (x4 - x4 / 2 * 2) = 0 then (1 : Int32) else 0) = 0) → ((¬ (((4 * x3) + 3) < 0 ∨ 52 ≤ (((4 * x3) + 3)).toNatClampNeg)) ∧ (¬ (((4 * x3) + 1) < 0 ∨ 52 ≤ (((4 * x3) + 1)).toNatClampNeg))))) ∧ (((((if (x4 - x4 / 2 * 2) = 0 then (1 : Int32) else 0) = 0) → (p_105a57 σ (3 * x3))) ∧ (¬ ((if (x4 - x4 / 2 * 2) = 0 then (1 : Int32) else 0) = 0) → (p_105a58 σ (3 * x3)))) ∧ ((p_81 σ x3 x4) ∧ ((((v_81 σ x3 x4) = 0) → ((((if (if (x4 - x4 / 2 * 2) = 0 then (1 : Int32) else 0) = 0 then (((σ.1 54 ((((4 * x3) + 2)).toNatClampNeg)) - (σ.1 54 (((4 * x3)).toNatClampNeg))) : Int32) else ((σ.1 54 ((((4 * x3) + 3)).toNatClampNeg)) - (σ.1 54 ((((4 * x3) + 1)).toNatClampNeg)))) < (σ.1 50 3)) → (q_112_19 c8 n σ x1 x2 x3 (x4 + 1))) ∧ (¬ ((if (if (x4 - x4 / 2 * 2) = 0 then (1 : Int32) else 0) = 0 then (((σ.1 54 ((((4 * x3) + 2)).toNatClampNeg)) - (σ.1 54 (((4 * x3)).toNatClampNeg))) : Int32) else ((σ.1 54 ((((4 * x3) + 3)).toNatClampNeg)) - (σ.1 54 ((((4 * x3) + 1)).toNatClampNeg)))) < (σ.1 50 3)) → (¬ ((if (if (x4 - x4 / 2 * 2) = 0 then (1 : Int32) else 0) = 0 then ((v_105a57 σ (3 * x3)) : Int32) else (v_105a58 σ (3 * x3))) = x2) → (q_112_19 c8 n σ x1 x2 x3 (x4 + 1)))))) ∧ (¬ ((v_81 σ x3 x4) = 0) → (q_112_19 c8 n σ x1 x2 x3 (x4 + 1)))))))) ∧ (¬ (x4 < 4) → (c8 x1 x2 (x3 + 1)))
set_option maxRecDepth 20000 in
theorem t_112_19 (L : Nat) (σ : am_M) (k8 : Int32 → Int32 → Int32 → Int32) (c8 : Int32 → Int32 → Int32 → Prop) (hk8 : ∀ (x1 : Int32) (x2 : Int32) (x3 : Int32) (o4 : Option am_V) (o5 : Option am_V) (o6 : Option am_V) (o7 : Option am_V), c8 x1 x2 x3 → am_r L 112 8 [some (.inr (.inr (50, none))), some (.inl x1), some (.inl x2), some (.inl x3), o4, o5, o6, o7] [] σ = some (some (.inl (k8 x1 x2 x3)), am_sh0 L, σ)) : ∀ (n : Nat) (x1 : Int32) (x2 : Int32) (x3 : Int32) (x4 : Int32) (o5 : Option am_V) (o6 : Option am_V) (o7 : Option am_V), q_112_19 c8 n σ x1 x2 x3 x4 → am_r L 112 19 [some (.inr (.inr (50, none))), some (.inl x1), some (.inl x2), some (.inl x3), some (.inl x4), o5, o6, o7] [] σ = some (some (.inl (l_112_19 k8 n σ x1 x2 x3 x4)), am_sh0 L, σ) := by
  intro n
  induction n with
  | zero => intro x1 x2 x3 x4 o5 o6 o7 h; exact h.elim
  | succ n ih =>
    intro x1 x2 x3 x4 o5 o6 o7 h
    unfold q_112_19 at h
    unfold l_112_19
    refine (e_112_19 _ _ _ _ _ _ _ _ _).trans ?_
    refine am_fkIv (fun hc427 => ?_) (fun hc427 => ?_)
    · refine Eq.trans (b := am_r L 112 37 [some (.inr (.inr (50, none))), some (.inl x1), some (.inl x2), some (.inl x3), some (.inl x4), o5, o6, o7] [.inl (if (x4 - x4 / 2 * 2) = 0 then (1 : Int32) else 0)] σ) ?_ ?_
      · by_cases hc428 : (x4 - x4 / 2 * 2) = 0
        · refine (if_pos hc428).trans ?_
          refine Eq.trans (b := am_r L 112 37 [some (.inr (.inr (50, none))), some (.inl x1), some (.inl x2), some (.inl x3), some (.inl x4), o5, o6, o7] [.inl 1] σ) ?_ ?_
          · rfl
          · first | with_reducible rfl | simp only [if_pos hc428]
        · refine (if_neg hc428).trans ?_
          refine Eq.trans (b := am_r L 112 37 [some (.inr (.inr (50, none))), some (.inl x1), some (.inl x2), some (.inl x3), some (.inl x4), o5, o6, o7] [.inl 0] σ) ?_ ?_
          · refine (e_112_36 _ _ _ _ _ _ _ _ _).trans ?_
            rfl
          · first | with_reducible rfl | simp only [if_neg hc428]
      refine (e_112_37 _ _ _ _ _ _ _ _ _ _).trans ?_
      refine Eq.trans (b := am_r L 112 87 [some (.inr (.inr (50, none))), some (.inl x1), some (.inl x2), some (.inl x3), some (.inl x4), some (.inl (if (x4 - x4 / 2 * 2) = 0 then (1 : Int32) else 0)), o6, o7] [.inl (if (if (x4 - x4 / 2 * 2) = 0 then (1 : Int32) else 0) = 0 then (((σ.1 54 ((((4 * x3) + 2)).toNatClampNeg)) - (σ.1 54 (((4 * x3)).toNatClampNeg))) : Int32) else ((σ.1 54 ((((4 * x3) + 3)).toNatClampNeg)) - (σ.1 54 ((((4 * x3) + 1)).toNatClampNeg))))] σ) ?_ ?_
      · by_cases hc429 : (if (x4 - x4 / 2 * 2) = 0 then (1 : Int32) else 0) = 0
        · refine (if_pos hc429).trans ?_
          refine Eq.trans (b := am_r L 112 87 [some (.inr (.inr (50, none))), some (.inl x1), some (.inl x2), some (.inl x3), some (.inl x4), some (.inl (if (x4 - x4 / 2 * 2) = 0 then (1 : Int32) else 0)), o6, o7] [.inl ((σ.1 54 ((((4 * x3) + 2)).toNatClampNeg)) - (σ.1 54 (((4 * x3)).toNatClampNeg)))] σ) ?_ ?_
          · refine (e_112_68 _ _ _ _ _ _ _ _ _).trans ?_
            refine (if_neg (((h.1 hc427).1.1 hc429).1)).trans ?_
            refine (if_neg (((h.1 hc427).1.1 hc429).2)).trans ?_
            rfl
          · first | with_reducible rfl | simp only [if_pos hc429]
        · refine (if_neg hc429).trans ?_
          refine Eq.trans (b := am_r L 112 87 [some (.inr (.inr (50, none))), some (.inl x1), some (.inl x2), some (.inl x3), some (.inl x4), some (.inl (if (x4 - x4 / 2 * 2) = 0 then (1 : Int32) else 0)), o6, o7] [.inl ((σ.1 54 ((((4 * x3) + 3)).toNatClampNeg)) - (σ.1 54 ((((4 * x3) + 1)).toNatClampNeg)))] σ) ?_ ?_
          · refine (if_neg (((h.1 hc427).1.2 hc429).1)).trans ?_
            refine (if_neg (((h.1 hc427).1.2 hc429).2)).trans ?_
            rfl
          · first | with_reducible rfl | simp only [if_neg hc429]
      refine (e_112_87 _ _ _ _ _ _ _ _ _ _).trans ?_
      refine Eq.trans (b := am_r L 112 117 [some (.inr (.inr (50, none))), some (.inl x1), some (.inl x2), some (.inl x3), some (.inl x4), some (.inl (if (x4 - x4 / 2 * 2) = 0 then (1 : Int32) else 0)), some (.inl (if (if (x4 - x4 / 2 * 2) = 0 then (1 : Int32) else 0) = 0 then (((σ.1 54 ((((4 * x3) + 2)).toNatClampNeg)) - (σ.1 54 (((4 * x3)).toNatClampNeg))) : Int32) else ((σ.1 54 ((((4 * x3) + 3)).toNatClampNeg)) - (σ.1 54 ((((4 * x3) + 1)).toNatClampNeg))))), o7] [.inl (if (if (x4 - x4 / 2 * 2) = 0 then (1 : Int32) else 0) = 0 then ((v_105a57 σ (3 * x3)) : Int32) else (v_105a58 σ (3 * x3)))] σ) ?_ ?_
      · by_cases hc430 : (if (x4 - x4 / 2 * 2) = 0 then (1 : Int32) else 0) = 0
        · refine (if_pos hc430).trans ?_
          refine Eq.trans (b := am_r L 112 117 [some (.inr (.inr (50, none))), some (.inl x1), some (.inl x2), some (.inl x3), some (.inl x4), some (.inl (if (x4 - x4 / 2 * 2) = 0 then (1 : Int32) else 0)), some (.inl (if (if (x4 - x4 / 2 * 2) = 0 then (1 : Int32) else 0) = 0 then (((σ.1 54 ((((4 * x3) + 2)).toNatClampNeg)) - (σ.1 54 (((4 * x3)).toNatClampNeg))) : Int32) else ((σ.1 54 ((((4 * x3) + 3)).toNatClampNeg)) - (σ.1 54 ((((4 * x3) + 1)).toNatClampNeg))))), o7] [.inl (v_105a57 σ (3 * x3))] σ) ?_ ?_
          · refine (e_112_107 _ _ _ _ _ _ _ _ _).trans ?_
            refine (am_bind_i (s_105a57 L σ (3 * x3) (((h.1 hc427).2.1.1 hc430)))).trans ?_
            rfl
          · first | with_reducible rfl | simp only [if_pos hc430]
        · refine (if_neg hc430).trans ?_
          refine Eq.trans (b := am_r L 112 117 [some (.inr (.inr (50, none))), some (.inl x1), some (.inl x2), some (.inl x3), some (.inl x4), some (.inl (if (x4 - x4 / 2 * 2) = 0 then (1 : Int32) else 0)), some (.inl (if (if (x4 - x4 / 2 * 2) = 0 then (1 : Int32) else 0) = 0 then (((σ.1 54 ((((4 * x3) + 2)).toNatClampNeg)) - (σ.1 54 (((4 * x3)).toNatClampNeg))) : Int32) else ((σ.1 54 ((((4 * x3) + 3)).toNatClampNeg)) - (σ.1 54 ((((4 * x3) + 1)).toNatClampNeg))))), o7] [.inl (v_105a58 σ (3 * x3))] σ) ?_ ?_
          · refine (am_bind_i (s_105a58 L σ (3 * x3) (((h.1 hc427).2.1.2 hc430)))).trans ?_
            refine (e_112_104 _ _ _ _ _ _ _ _ _ _).trans ?_
            rfl
          · first | with_reducible rfl | simp only [if_neg hc430]
      refine (e_112_117 _ _ _ _ _ _ _ _ _ _).trans ?_
      refine (am_bind_i (s_81 L σ x3 x4 ((h.1 hc427).2.2.1))).trans ?_
      refine (e_112_126 _ _ _ _ _ _ _ _ _ _).trans ?_
      refine am_fkIv (fun hc431 => ?_) (fun hc431 => ?_)
      · refine am_fkIv (fun hc432 => ?_) (fun hc432 => ?_)
        · refine (e_112_151 _ _ _ _ _ _ _ _ _).trans ?_
          exact ih x1 x2 x3 (x4 + 1) (some (.inl (if (x4 - x4 / 2 * 2) = 0 then (1 : Int32) else 0))) (some (.inl (if (if (x4 - x4 / 2 * 2) = 0 then (1 : Int32) else 0) = 0 then (((σ.1 54 ((((4 * x3) + 2)).toNatClampNeg)) - (σ.1 54 (((4 * x3)).toNatClampNeg))) : Int32) else ((σ.1 54 ((((4 * x3) + 3)).toNatClampNeg)) - (σ.1 54 ((((4 * x3) + 1)).toNatClampNeg)))))) (some (.inl (if (if (x4 - x4 / 2 * 2) = 0 then (1 : Int32) else 0) = 0 then ((v_105a57 σ (3 * x3)) : Int32) else (v_105a58 σ (3 * x3))))) ((((h.1 hc427).2.2.2.1 hc431).1 hc432))
        · refine am_fkIv (fun hc433 => ?_) (fun hc433 => ?_)
          · rfl
          · refine (e_112_151 _ _ _ _ _ _ _ _ _).trans ?_
            exact ih x1 x2 x3 (x4 + 1) (some (.inl (if (x4 - x4 / 2 * 2) = 0 then (1 : Int32) else 0))) (some (.inl (if (if (x4 - x4 / 2 * 2) = 0 then (1 : Int32) else 0) = 0 then (((σ.1 54 ((((4 * x3) + 2)).toNatClampNeg)) - (σ.1 54 (((4 * x3)).toNatClampNeg))) : Int32) else ((σ.1 54 ((((4 * x3) + 3)).toNatClampNeg)) - (σ.1 54 ((((4 * x3) + 1)).toNatClampNeg)))))) (some (.inl (if (if (x4 - x4 / 2 * 2) = 0 then (1 : Int32) else 0) = 0 then ((v_105a57 σ (3 * x3)) : Int32) else (v_105a58 σ (3 * x3))))) (((((h.1 hc427).2.2.2.1 hc431).2 hc432) hc433))
      · refine (e_112_151 _ _ _ _ _ _ _ _ _).trans ?_
        exact ih x1 x2 x3 (x4 + 1) (some (.inl (if (x4 - x4 / 2 * 2) = 0 then (1 : Int32) else 0))) (some (.inl (if (if (x4 - x4 / 2 * 2) = 0 then (1 : Int32) else 0) = 0 then (((σ.1 54 ((((4 * x3) + 2)).toNatClampNeg)) - (σ.1 54 (((4 * x3)).toNatClampNeg))) : Int32) else ((σ.1 54 ((((4 * x3) + 3)).toNatClampNeg)) - (σ.1 54 ((((4 * x3) + 1)).toNatClampNeg)))))) (some (.inl (if (if (x4 - x4 / 2 * 2) = 0 then (1 : Int32) else 0) = 0 then ((v_105a57 σ (3 * x3)) : Int32) else (v_105a58 σ (3 * x3))))) (((h.1 hc427).2.2.2.2 hc431))
    · refine (e_112_157 _ _ _ _ _ _ _ _ _).trans ?_
      exact hk8 x1 x2 (x3 + 1) (some (.inl x4)) o5 o6 o7 ((h.2 hc427))
def l_112_8 : Nat → am_M → Int32 → Int32 → Int32 → Int32
  | 0, _, _, _, _ => 0
  | n + 1, σ, x1, x2, x3 => (if x3 < (σ.1 50 1) then (l_112_19 (l_112_8 n σ) 14 σ x1 x2 x3 0) else (-1))
def q_112_8 : Nat → am_M → Int32 → Int32 → Int32 → Prop
  | 0, _, _, _, _ => False
  | n + 1, σ, x1, x2, x3 => (x3 < (σ.1 50 1)) → (q_112_19 (q_112_8 n σ) 14 σ x1 x2 x3 0)
set_option maxRecDepth 20000 in
theorem t_112_8 (L : Nat) (σ : am_M) : ∀ (n : Nat) (x1 : Int32) (x2 : Int32) (x3 : Int32) (o4 : Option am_V) (o5 : Option am_V) (o6 : Option am_V) (o7 : Option am_V), q_112_8 n σ x1 x2 x3 → am_r L 112 8 [some (.inr (.inr (50, none))), some (.inl x1), some (.inl x2), some (.inl x3), o4, o5, o6, o7] [] σ = some (some (.inl (l_112_8 n σ x1 x2 x3)), am_sh0 L, σ) := by
  intro n
  induction n with
  | zero => intro x1 x2 x3 o4 o5 o6 o7 h; exact h.elim
  | succ n ih =>
    intro x1 x2 x3 o4 o5 o6 o7 h
    unfold q_112_8 at h
    unfold l_112_8
    refine (e_112_8 _ _ _ _ _ _ _ _ _).trans ?_
    refine am_fkIv (fun hc434 => ?_) (fun hc434 => ?_)
    · exact t_112_19 L σ (l_112_8 n σ) (q_112_8 n σ) ih 14 x1 x2 x3 0 o5 o6 o7 ((h hc434))
    · refine (e_112_163 _ _ _ _ _ _ _ _ _).trans ?_
      rfl
def p_112 (σ : am_M) (x1 : Int32) : Prop := (p_106 σ x1) ∧ (q_112_8 14 σ x1 (v_106 σ x1) 0)
def f_112 (σ : am_M) (x1 : Int32) : Int32 := (l_112_8 14 σ x1 (v_106 σ x1) 0)
set_option maxRecDepth 20000 in
theorem sf_112 (L : Nat) (σ : am_M) (x1 : Int32) (h : p_112 σ x1) : am_r L 112 0 [some (.inr (.inr (50, none))), some (.inl x1), none, none, none, none, none, none] [] σ = some (some (.inl (f_112 σ x1)), am_sh0 L, σ) := by
  unfold p_112 at h
  unfold f_112
  refine (e_112_0 _ _ _).trans ?_
  refine (am_bind_i (s_106 L σ x1 h.1)).trans ?_
  refine (e_112_5 _ _ _ _).trans ?_
  exact t_112_8 L σ 14 x1 (v_106 σ x1) 0 none none none none h.2
def v_112 (σ : am_M) (x1 : Int32) : Int32 := f_112 σ x1
theorem s_112 (L : Nat) (σ : am_M) (x1 : Int32) (h : p_112 σ x1) : am_r L 112 0 [some (.inr (.inr (50, none))), some (.inl x1), none, none, none, none, none, none] [] σ = some (some (.inl (v_112 σ x1)), am_sh0 L, σ) := sf_112 L σ x1 h
-- 113: X5_edge
def p_113 (σ : am_M) (x1 : Int32) (x2 : Int32) : Prop := ¬ ((v_110 (am_put σ 50 0 0) x1 x2) = 0) → ((p_90 (am_put σ 50 0 0) x1) ∧ (p_112 (w_90 (am_put σ 50 0 0) x1) x2))
def v_113 (σ : am_M) (x1 : Int32) (x2 : Int32) : Int32 := (if (v_110 (am_put σ 50 0 0) x1 x2) = 0 then (-1) else (v_112 (w_90 (am_put σ 50 0 0) x1) x2))
def w_113 (σ : am_M) (x1 : Int32) (x2 : Int32) : am_M := (if (v_110 (am_put σ 50 0 0) x1 x2) = 0 then (am_put σ 50 0 0) else (w_90 (am_put σ 50 0 0) x1))
set_option maxRecDepth 20000 in
theorem s_113 (L : Nat) (σ : am_M) (x1 : Int32) (x2 : Int32) (h : p_113 σ x1 x2) : am_r L 113 0 [some (.inr (.inr (50, none))), some (.inl x1), some (.inl x2)] [] σ = some (some (.inl (v_113 σ x1 x2)), am_sh0 L, w_113 σ x1 x2) := by
  unfold p_113 at h
  unfold v_113 w_113
  refine (e_113_0 _ _ _ _).trans ?_
  refine (am_bind_i (s_110 L (am_put σ 50 0 0) x1 x2)).trans ?_
  refine (e_113_11 _ _ _ _ _).trans ?_
  refine am_fkIvm (fun hc435 => ?_) (fun hc435 => ?_)
  · rfl
  · refine (e_113_16 _ _ _ _).trans ?_
    refine (am_bind_v (s_90 L (am_put σ 50 0 0) x1 ((h hc435).1))).trans ?_
    refine (e_113_21 _ _ _ _).trans ?_
    refine (am_bind_i (s_112 L (w_90 (am_put σ 50 0 0) x1) x2 ((h hc435).2))).trans ?_
    refine (e_113_26 _ _ _ _ _).trans ?_
    rfl
-- 114: X5_know
def l_114_56 (k29 : am_M → Int32 → Int32 → am_M) : Nat → am_M → Int32 → Int32 → Int32 → Int32 → am_M
  | 0, σ, x1, x2, x3, x4 => σ
  | n + 1, σ, x1, x2, x3, x4 => (if x4 < (σ.1 50 1) then (if x3 = 0 then (if ((x2 >>> (x4 &&& (31 : Int32))) &&& (1 : Int32)) = 0 then (if (σ.1 61 ((((x2 ||| ((1 : Int32) <<< (x4 &&& (31 : Int32)))) / 2)).toNatClampNeg)) = 0 then (l_114_56 k29 n σ x1 x2 0 (x4 + 1)) else (l_114_56 k29 n (w_109 σ x4) x1 x2 (if (v_109 σ x4) = 0 then (0 : Int32) else (if (v_112 (w_109 σ x4) x4) = (-1) then (0 : Int32) else 1)) (x4 + 1))) else (l_114_56 k29 n σ x1 x2 0 (x4 + 1))) else (k29 (am_put (am_put σ 61 (((x2 / 2)).toNatClampNeg) (vp_nar .boolean x3)) 50 17 ((σ.1 50 17) + (if x3 = 0 then (0 : Int32) else 1))) x1 (x2 + (-2)))) else (k29 (am_put (am_put σ 61 (((x2 / 2)).toNatClampNeg) (vp_nar .boolean x3)) 50 17 ((σ.1 50 17) + (if x3 = 0 then (0 : Int32) else 1))) x1 (x2 + (-2))))
def q_114_56 (c29 : am_M → Int32 → Int32 → Prop) : Nat → am_M → Int32 → Int32 → Int32 → Int32 → Prop
  | 0, _, _, _, _, _ => False
  | n + 1, σ, x1, x2, x3, x4 => ((x4 < (σ.1 50 1)) → (((x3 = 0) → (((((x2 >>> (x4 &&& (31 : Int32))) &&& (1 : Int32)) = 0) → ((¬ (((x2 ||| ((1 : Int32) <<< (x4 &&& (31 : Int32)))) / 2) < 0 ∨ 4096 ≤ (((x2 ||| ((1 : Int32) <<< (x4 &&& (31 : Int32)))) / 2)).toNatClampNeg)) ∧ ((((σ.1 61 ((((x2 ||| ((1 : Int32) <<< (x4 &&& (31 : Int32)))) / 2)).toNatClampNeg)) = 0) → (q_114_56 c29 n σ x1 x2 0 (x4 + 1))) ∧ (¬ ((σ.1 61 ((((x2 ||| ((1 : Int32) <<< (x4 &&& (31 : Int32)))) / 2)).toNatClampNeg)) = 0) → ((p_109 σ x4) ∧ ((¬ ((v_109 σ x4) = 0) → (p_112 (w_109 σ x4) x4)) ∧ (q_114_56 c29 n (w_109 σ x4) x1 x2 (if (v_109 σ x4) = 0 then (0 : Int32) else (if (v_112 (w_109 σ x4) x4) = (-1) then (0 : Int32) else 1)) (x4 + 1)))))))) ∧ (¬ (((x2 >>> (x4 &&& (31 : Int32))) &&& (1 : Int32)) = 0) → (q_114_56 c29 n σ x1 x2 0 (x4 + 1))))) ∧ (¬ (x3 = 0) → ((¬ ((x2 / 2) < 0 ∨ 4096 ≤ ((x2 / 2)).toNatClampNeg)) ∧ (c29 (am_put (am_put σ 61 (((x2 / 2)).toNatClampNeg) (vp_nar .boolean x3)) 50 17 ((σ.1 50 17) + (if x3 = 0 then (0 : Int32) else 1))) x1 (x2 + (-2))))))) ∧ (¬ (x4 < (σ.1 50 1)) → ((¬ ((x2 / 2) < 0 ∨ 4096 ≤ ((x2 / 2)).toNatClampNeg)) ∧ (c29 (am_put (am_put σ 61 (((x2 / 2)).toNatClampNeg) (vp_nar .boolean x3)) 50 17 ((σ.1 50 17) + (if x3 = 0 then (0 : Int32) else 1))) x1 (x2 + (-2)))))
set_option maxRecDepth 20000 in
theorem t_114_56 (L : Nat) (k29 : am_M → Int32 → Int32 → am_M) (c29 : am_M → Int32 → Int32 → Prop) (hk29 : ∀ (σ : am_M) (x1 : Int32) (x2 : Int32) (o3 : Option am_V) (o4 : Option am_V), c29 σ x1 x2 → am_r L 114 29 [some (.inr (.inr (50, none))), some (.inl x1), some (.inl x2), o3, o4] [] σ = some (none, am_sh0 L, (k29 σ x1 x2))) : ∀ (n : Nat) (σ : am_M) (x1 : Int32) (x2 : Int32) (x3 : Int32) (x4 : Int32), q_114_56 c29 n σ x1 x2 x3 x4 → am_r L 114 56 [some (.inr (.inr (50, none))), some (.inl x1), some (.inl x2), some (.inl x3), some (.inl x4)] [] σ = some (none, am_sh0 L, (l_114_56 k29 n σ x1 x2 x3 x4)) := by
  intro n
  induction n with
  | zero => intro σ x1 x2 x3 x4 h; exact h.elim
  | succ n ih =>
    intro σ x1 x2 x3 x4 h
    unfold q_114_56 at h
    unfold l_114_56
    refine (e_114_56 _ _ _ _ _ _).trans ?_
    refine am_fkVm (fun hc436 => ?_) (fun hc436 => ?_)
    · refine am_fkVm (fun hc437 => ?_) (fun hc437 => ?_)
      · refine am_fkVm (fun hc438 => ?_) (fun hc438 => ?_)
        · refine (if_neg ((((h.1 hc436).1 hc437).1 hc438).1)).trans ?_
          refine am_fkVm (fun hc439 => ?_) (fun hc439 => ?_)
          · refine (e_114_117 _ _ _ _ _ _).trans ?_
            refine (e_114_118 _ _ _ _ _ _ _).trans ?_
            exact ih σ x1 x2 0 (x4 + 1) (((((h.1 hc436).1 hc437).1 hc438).2.1 hc439))
          · refine (e_114_95 _ _ _ _ _ _).trans ?_
            refine (am_bind_i (s_109 L σ x4 (((((h.1 hc436).1 hc437).1 hc438).2.2 hc439).1))).trans ?_
            refine (e_114_100 _ _ _ _ _ _ _).trans ?_
            refine Eq.trans (b := am_r L 114 118 [some (.inr (.inr (50, none))), some (.inl x1), some (.inl x2), some (.inl x3), some (.inl x4)] [.inl (if (v_109 σ x4) = 0 then (0 : Int32) else (if (v_112 (w_109 σ x4) x4) = (-1) then (0 : Int32) else 1))] (w_109 σ x4)) ?_ ?_
            · by_cases hc440 : (v_109 σ x4) = 0
              · refine (if_pos hc440).trans ?_
                refine Eq.trans (b := am_r L 114 118 [some (.inr (.inr (50, none))), some (.inl x1), some (.inl x2), some (.inl x3), some (.inl x4)] [.inl 0] (w_109 σ x4)) ?_ ?_
                · refine (e_114_117 _ _ _ _ _ _).trans ?_
                  rfl
                · first | with_reducible rfl | simp only [if_pos hc440]
              · refine (if_neg hc440).trans ?_
                refine Eq.trans (b := am_r L 114 118 [some (.inr (.inr (50, none))), some (.inl x1), some (.inl x2), some (.inl x3), some (.inl x4)] [.inl (if (v_112 (w_109 σ x4) x4) = (-1) then (0 : Int32) else 1)] (w_109 σ x4)) ?_ ?_
                · refine (am_bind_i (s_112 L (w_109 σ x4) x4 ((((((h.1 hc436).1 hc437).1 hc438).2.2 hc439).2.1 hc440)))).trans ?_
                  refine (e_114_109 _ _ _ _ _ _ _).trans ?_
                  refine Eq.trans (b := am_r L 114 118 [some (.inr (.inr (50, none))), some (.inl x1), some (.inl x2), some (.inl x3), some (.inl x4)] [.inl (if (v_112 (w_109 σ x4) x4) = (-1) then (0 : Int32) else 1)] (w_109 σ x4)) ?_ ?_
                  · by_cases hc441 : (v_112 (w_109 σ x4) x4) = (-1)
                    · refine (if_pos hc441).trans ?_
                      refine Eq.trans (b := am_r L 114 118 [some (.inr (.inr (50, none))), some (.inl x1), some (.inl x2), some (.inl x3), some (.inl x4)] [.inl 0] (w_109 σ x4)) ?_ ?_
                      · refine (e_114_117 _ _ _ _ _ _).trans ?_
                        rfl
                      · first | with_reducible rfl | simp only [if_pos hc441]
                    · refine (if_neg hc441).trans ?_
                      refine Eq.trans (b := am_r L 114 118 [some (.inr (.inr (50, none))), some (.inl x1), some (.inl x2), some (.inl x3), some (.inl x4)] [.inl 1] (w_109 σ x4)) ?_ ?_
                      · rfl
                      · first | with_reducible rfl | simp only [if_neg hc441]
                  rfl
                · first | with_reducible rfl | simp only [if_neg hc440]
            refine (e_114_118 _ _ _ _ _ _ _).trans ?_
            exact ih (w_109 σ x4) x1 x2 (if (v_109 σ x4) = 0 then (0 : Int32) else (if (v_112 (w_109 σ x4) x4) = (-1) then (0 : Int32) else 1)) (x4 + 1) (((((h.1 hc436).1 hc437).1 hc438).2.2 hc439).2.2)
        · refine (e_114_117 _ _ _ _ _ _).trans ?_
          refine (e_114_118 _ _ _ _ _ _ _).trans ?_
          exact ih σ x1 x2 0 (x4 + 1) ((((h.1 hc436).1 hc437).2 hc438))
      · refine (e_114_125 _ _ _ _ _ _).trans ?_
        refine (if_neg (((h.1 hc436).2 hc437).1)).trans ?_
        refine Eq.trans (b := am_r L 114 148 [some (.inr (.inr (50, none))), some (.inl x1), some (.inl x2), some (.inl x3), some (.inl x4)] [.inl (if x3 = 0 then (0 : Int32) else 1), .inl (σ.1 50 17), .inr (.inr (50, none))] (am_put σ 61 (((x2 / 2)).toNatClampNeg) (vp_nar .boolean x3))) ?_ ?_
        · by_cases hc442 : x3 = 0
          · refine (if_pos hc442).trans ?_
            refine Eq.trans (b := am_r L 114 148 [some (.inr (.inr (50, none))), some (.inl x1), some (.inl x2), some (.inl x3), some (.inl x4)] [.inl 0, .inl (σ.1 50 17), .inr (.inr (50, none))] (am_put σ 61 (((x2 / 2)).toNatClampNeg) (vp_nar .boolean x3))) ?_ ?_
            · refine (e_114_147 _ _ _ _ _ _ _).trans ?_
              rfl
            · first | with_reducible rfl | simp only [if_pos hc442]
          · refine (if_neg hc442).trans ?_
            refine Eq.trans (b := am_r L 114 148 [some (.inr (.inr (50, none))), some (.inl x1), some (.inl x2), some (.inl x3), some (.inl x4)] [.inl 1, .inl (σ.1 50 17), .inr (.inr (50, none))] (am_put σ 61 (((x2 / 2)).toNatClampNeg) (vp_nar .boolean x3))) ?_ ?_
            · rfl
            · first | with_reducible rfl | simp only [if_neg hc442]
        refine (e_114_148 _ _ _ _ _ _ _ _).trans ?_
        exact hk29 (am_put (am_put σ 61 (((x2 / 2)).toNatClampNeg) (vp_nar .boolean x3)) 50 17 ((σ.1 50 17) + (if x3 = 0 then (0 : Int32) else 1))) x1 (x2 + (-2)) (some (.inl x3)) (some (.inl x4)) (((h.1 hc436).2 hc437).2)
    · refine (e_114_125 _ _ _ _ _ _).trans ?_
      refine (if_neg ((h.2 hc436).1)).trans ?_
      refine Eq.trans (b := am_r L 114 148 [some (.inr (.inr (50, none))), some (.inl x1), some (.inl x2), some (.inl x3), some (.inl x4)] [.inl (if x3 = 0 then (0 : Int32) else 1), .inl (σ.1 50 17), .inr (.inr (50, none))] (am_put σ 61 (((x2 / 2)).toNatClampNeg) (vp_nar .boolean x3))) ?_ ?_
      · by_cases hc443 : x3 = 0
        · refine (if_pos hc443).trans ?_
          refine Eq.trans (b := am_r L 114 148 [some (.inr (.inr (50, none))), some (.inl x1), some (.inl x2), some (.inl x3), some (.inl x4)] [.inl 0, .inl (σ.1 50 17), .inr (.inr (50, none))] (am_put σ 61 (((x2 / 2)).toNatClampNeg) (vp_nar .boolean x3))) ?_ ?_
          · refine (e_114_147 _ _ _ _ _ _ _).trans ?_
            rfl
          · first | with_reducible rfl | simp only [if_pos hc443]
        · refine (if_neg hc443).trans ?_
          refine Eq.trans (b := am_r L 114 148 [some (.inr (.inr (50, none))), some (.inl x1), some (.inl x2), some (.inl x3), some (.inl x4)] [.inl 1, .inl (σ.1 50 17), .inr (.inr (50, none))] (am_put σ 61 (((x2 / 2)).toNatClampNeg) (vp_nar .boolean x3))) ?_ ?_
          · rfl
          · first | with_reducible rfl | simp only [if_neg hc443]
      refine (e_114_148 _ _ _ _ _ _ _ _).trans ?_
      exact hk29 (am_put (am_put σ 61 (((x2 / 2)).toNatClampNeg) (vp_nar .boolean x3)) 50 17 ((σ.1 50 17) + (if x3 = 0 then (0 : Int32) else 1))) x1 (x2 + (-2)) (some (.inl x3)) (some (.inl x4)) ((h.2 hc436).2)
def l_114_29 : Nat → am_M → Int32 → Int32 → am_M
  | 0, σ, x1, x2 => σ
  | n + 1, σ, x1, x2 => (if x2 < 0 then σ else (if (if x2 = x1 then (1 : Int32) else 0) = 0 then (l_114_56 (l_114_29 n) 14 (w_90 σ x2) x1 x2 (if x2 = x1 then (1 : Int32) else 0) 1) else (l_114_56 (l_114_29 n) 14 σ x1 x2 (if x2 = x1 then (1 : Int32) else 0) 1)))
def q_114_29 : Nat → am_M → Int32 → Int32 → Prop
  | 0, _, _, _ => False
  | n + 1, σ, x1, x2 => ¬ (x2 < 0) → ((((if x2 = x1 then (1 : Int32) else 0) = 0) → ((p_90 σ x2) ∧ (q_114_56 (q_114_29 n) 14 (w_90 σ x2) x1 x2 (if x2 = x1 then (1 : Int32) else 0) 1))) ∧ (¬ ((if x2 = x1 then (1 : Int32) else 0) = 0) → (q_114_56 (q_114_29 n) 14 σ x1 x2 (if x2 = x1 then (1 : Int32) else 0) 1)))
set_option maxRecDepth 20000 in
theorem t_114_29 (L : Nat) : ∀ (n : Nat) (σ : am_M) (x1 : Int32) (x2 : Int32) (o3 : Option am_V) (o4 : Option am_V), q_114_29 n σ x1 x2 → am_r L 114 29 [some (.inr (.inr (50, none))), some (.inl x1), some (.inl x2), o3, o4] [] σ = some (none, am_sh0 L, (l_114_29 n σ x1 x2)) := by
  intro n
  induction n with
  | zero => intro σ x1 x2 o3 o4 h; exact h.elim
  | succ n ih =>
    intro σ x1 x2 o3 o4 h
    unfold q_114_29 at h
    unfold l_114_29
    refine (e_114_29 _ _ _ _ _ _).trans ?_
    refine am_fkVm (fun hc444 => ?_) (fun hc444 => ?_)
    · refine (e_114_158 _ _ _ _ _ _).trans ?_
      rfl
    · refine Eq.trans (b := am_r L 114 43 [some (.inr (.inr (50, none))), some (.inl x1), some (.inl x2), o3, o4] [.inl (if x2 = x1 then (1 : Int32) else 0)] σ) ?_ ?_
      · by_cases hc445 : x2 = x1
        · refine (if_pos hc445).trans ?_
          refine Eq.trans (b := am_r L 114 43 [some (.inr (.inr (50, none))), some (.inl x1), some (.inl x2), o3, o4] [.inl 1] σ) ?_ ?_
          · rfl
          · first | with_reducible rfl | simp only [if_pos hc445]
        · refine (if_neg hc445).trans ?_
          refine Eq.trans (b := am_r L 114 43 [some (.inr (.inr (50, none))), some (.inl x1), some (.inl x2), o3, o4] [.inl 0] σ) ?_ ?_
          · refine (e_114_42 _ _ _ _ _ _).trans ?_
            rfl
          · first | with_reducible rfl | simp only [if_neg hc445]
      refine (e_114_43 _ _ _ _ _ _ _).trans ?_
      refine am_fkVm (fun hc446 => ?_) (fun hc446 => ?_)
      · refine (am_bind_v (s_90 L σ x2 (((h hc444).1 hc446).1))).trans ?_
        refine (e_114_53 _ _ _ _ _ _).trans ?_
        exact t_114_56 L (l_114_29 n) (q_114_29 n) ih 14 (w_90 σ x2) x1 x2 (if x2 = x1 then (1 : Int32) else 0) 1 (((h hc444).1 hc446).2)
      · refine (e_114_53 _ _ _ _ _ _).trans ?_
        exact t_114_56 L (l_114_29 n) (q_114_29 n) ih 14 σ x1 x2 (if x2 = x1 then (1 : Int32) else 0) 1 (((h hc444).2 hc446))
def p_114 (σ : am_M) : Prop := ((σ.1 50 16) = 0) → (q_114_29 4097 (am_put (am_put σ 50 16 1) 50 17 0) (((1 : Int32) <<< ((σ.1 50 1) &&& (31 : Int32))) - 2) (((1 : Int32) <<< ((σ.1 50 1) &&& (31 : Int32))) - 2))
def f_114 (σ : am_M) : am_M := (if (σ.1 50 16) = 0 then (l_114_29 4097 (am_put (am_put σ 50 16 1) 50 17 0) (((1 : Int32) <<< ((σ.1 50 1) &&& (31 : Int32))) - 2) (((1 : Int32) <<< ((σ.1 50 1) &&& (31 : Int32))) - 2)) else σ)
set_option maxRecDepth 20000 in
theorem sf_114 (L : Nat) (σ : am_M) (h : p_114 σ) : am_r L 114 0 [some (.inr (.inr (50, none))), none, none, none, none] [] σ = some (none, am_sh0 L, (f_114 σ)) := by
  unfold p_114 at h
  unfold f_114
  refine (e_114_0 _ _).trans ?_
  refine am_fkVm (fun hc447 => ?_) (fun hc447 => ?_)
  · refine (e_114_8 _ _).trans ?_
    exact t_114_29 L 4097 (am_put (am_put σ 50 16 1) 50 17 0) (((1 : Int32) <<< ((σ.1 50 1) &&& (31 : Int32))) - 2) (((1 : Int32) <<< ((σ.1 50 1) &&& (31 : Int32))) - 2) none none ((h hc447))
  · rfl
def w_114 (σ : am_M) : am_M := f_114 σ
theorem s_114 (L : Nat) (σ : am_M) (h : p_114 σ) : am_r L 114 0 [some (.inr (.inr (50, none))), none, none, none, none] [] σ = some (none, am_sh0 L, w_114 σ) := sf_114 L σ h
