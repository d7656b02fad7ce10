theorem v_34_i (σ : am_M) (P : Pl) (hV : VP P) (hC : CP σ P) (x1 x2 : Int32) : p_34 σ x1 x2 ∧ ((v_34 σ x1 x2 = 0) = ¬ ∃ q s, q < P.n ∧ s < 4 ∧ x1 = Int32.ofNat q ∧ x2 = Int32.ofNat s ∧ (q = 0 ∨ s ≠ (P.sd q + 2) % 4)) := by
  have h13 := hV.n13
  unfold p_34 v_34
  simp only [v_26_i σ P hC h13, isWi_i, bi_0, decide_eq_false_iff_not]
  by_cases c1 : 0 ≤ x1 ∧ x1 ≤ Int32.ofNat P.n - 1
  · obtain ⟨q, hq, rfl⟩ := rng' h13 c1
    simp only [c1, and_self, not_true_eq_false, not_false_eq_true, true_implies, if_false]
    by_cases c2 : 0 ≤ x2 ∧ x2 ≤ 3
    · obtain ⟨s, hs, rfl⟩ := rng3 c2
      simp only [c2, and_self, not_true_eq_false, not_false_eq_true, true_implies, if_false]
      refine ⟨fun _ => pi_in (by omega) (by omega), ?_⟩
      have hz := pi_z (show q < 200 by omega)
      by_cases h0 : q = 0
      · subst h0
        have : Int32.ofNat 0 = 0 := rfl
        simp only [this, if_true]
        refine propext ⟨fun h => absurd h (by decide), fun h => absurd ⟨0, s, hq, hs, rfl, rfl, Or.inl rfl⟩ h⟩
      · have hE := (hC.2 q hq).1 (by omega)
        have hsd := (hV.tr q hq (by omega)).2
        rw [if_neg (by rw [hz]; exact h0)]
        simp (disch := omega) only [if_true, if_false, pi_pos, pi_npos, pi_nn, pi_ng, pi_nle, pi_lt, false_or, or_false, not_false_eq_true, true_and, and_true, false_and, and_false, implies_true, not_true, not_true_eq_false, false_implies, true_implies, pi_a1, pi_a2, pi_a3, pi_ab, pi_4, pi_3, pi_6, v_70_i, v_68_i, v_69_i, mod2_i, bi_0, bi_n, vp_bi, enc_flip, flip_s, hE]
        simp (disch := omega) only [pi_inj]
        by_cases h : s = (P.sd q + 2) % 4
        · rw [if_pos h]
          refine propext ⟨fun _ => ?_, fun _ => rfl⟩
          rintro ⟨q', s', hq', hs', e1, e2, e3⟩
          rw [pi_inj (by omega) (by omega)] at e1 e2
          subst e1; subst e2
          rcases e3 with e3 | e3
          · exact h0 e3
          · exact e3 h
        · rw [if_neg h]
          refine propext ⟨fun h => absurd h (by decide), fun h' => absurd ⟨q, s, hq, hs, rfl, rfl, Or.inr h⟩ h'⟩
    · simp only [c2, not_false_eq_true, if_true, not_true_eq_false, false_implies, true_and, implies_true]
      refine propext ⟨fun _ => ?_, fun _ => trivial⟩
      rintro ⟨q', s', hq', hs', e1, e2, e3⟩
      subst e2
      exact c2 (pi_3b hs')
  · simp only [c1, not_false_eq_true, if_true, not_true_eq_false, false_implies, true_and, implies_true]
    refine propext ⟨fun _ => ?_, fun _ => trivial⟩
    rintro ⟨q', s', hq', hs', e1, e2, e3⟩
    subst e1
    exact c1 (pi_mx hq' h13)
theorem pi_l13 {n : Nat} (hn : n ≤ 13) : (Int32.ofNat n < 13) = (n < 13) := by
  have : Int32.ofNat 13 = 13 := rfl
  rw [← this, pi_lt (by omega) (by omega)]
theorem panel_no (σ : am_M) (P : Pl) (hV : VP P) (hC : CP σ P) (x1 x2 x3 x4 x5 x6 : Int32) (hna : ¬ acc P x1 x2 x3 x4 x5 x6) : p_50 σ x1 x2 x3 x4 x5 x6 ∧ v_50 σ x1 x2 x3 x4 x5 x6 = -1 ∧ w_50 σ x1 x2 x3 x4 x5 x6 = σ := by
  have h13 := hV.n13
  have h34 := v_34_i σ P hV hC x1 x2
  unfold p_50 v_50 w_50
  simp only [hC.1, pi_l13 h13, h34.1, isWi_i, bi_0, decide_eq_false_iff_not, true_and]
  by_cases c1 : P.n < 13
  · by_cases c2 : 0 ≤ x6 ∧ x6 ≤ 1
    · by_cases c3 : v_34 σ x1 x2 = 0
      · simp [c1, c2, c3]
      · by_cases c4 : 1 ≤ x4 ∧ x4 ≤ 2000
        · by_cases c5 : 1 ≤ x5 ∧ x5 ≤ 2000
          · simp only [c1, c2, c3, c4, c5, and_self, not_true_eq_false, if_true, if_false, not_false_eq_true, true_implies]
            have c3' := c3
            rw [h34.2] at c3'
            simp only [Classical.not_not] at c3'
            obtain ⟨q, s, hq, hs, rfl, rfl, hqs⟩ := c3'
            have h32 := v_32_i σ P hC h13 hq hs
            rw [h32.1]
            by_cases c6 : 0 ≤ x3 ∧ x3 ≤ plen P q s - x4
            · exact absurd ⟨c1, q, s, hq, hs, rfl, rfl, c2, hqs, c4, c5, c6⟩ hna
            · simp [c6, h32.2]
          · simp [c1, c2, c3, c4, c5]
        · simp [c1, c2, c3, c4]
    · simp [c1, c2]
  · simp [c1]
theorem mod4_i {s : Nat} (h : s < 4) : Int32.ofNat (s + 2) - Int32.ofNat (s + 2) / 4 * 4 = Int32.ofNat ((s + 2) % 4) := by
  match s, h with
  | 0, _ => decide
  | 1, _ => decide
  | 2, _ => decide
  | 3, _ => decide
theorem pi_e13 {n : Nat} (hn : n ≤ 13) : (Int32.ofNat n = 13) = (n = 13) := by
  have : Int32.ofNat 13 = 13 := rfl
  rw [← this, pi_inj (by omega) (by omega)]
/-- the length that the reference measures -/
theorem rlen (σ : am_M) (P : Pl) (hR : RP σ P) (h13 : P.n ≤ 13) {q s : Nat} (hq : q < P.n) (hs : s < 4) : (if (if (Int32.ofNat s - Int32.ofNat s / 2 * 2) = 0 then (1 : Int32) else 0) = 0 then (((σ.1 54 ((((4 * Int32.ofNat q) + 2)).toNatClampNeg)) - (σ.1 54 (((4 * Int32.ofNat q)).toNatClampNeg))) : Int32) else ((σ.1 54 ((((4 * Int32.ofNat q) + 3)).toNatClampNeg)) - (σ.1 54 ((((4 * Int32.ofNat q) + 1)).toNatClampNeg)))) = plen P q s := by
  have hE := hR.2 q hq
  unfold RE at hE
  unfold plen
  simp (disch := omega) only [if_true, if_false, pi_pos, pi_npos, pi_nn, pi_ng, pi_nle, pi_lt, false_or, or_false, not_false_eq_true, true_and, and_true, false_and, and_false, implies_true, not_true, not_true_eq_false, false_implies, true_implies, pi_a1, pi_a2, pi_a3, pi_ab, pi_4, pi_3, pi_6, v_70_i, v_68_i, v_69_i, mod2_i, bi_0, bi_n, vp_bi, enc_flip, flip_s, hE]
  match s, hs with
  | 0, _ => simp
  | 1, _ => simp
  | 2, _ => simp
  | 3, _ => simp
theorem rpanel_no (σ : am_M) (P : Pl) (hV : VP P) (hR : RP σ P) (x1 x2 x3 x4 x5 x6 : Int32) (hna : ¬ acc P x1 x2 x3 x4 x5 x6) : p_77 σ x1 x2 x3 x4 x5 x6 ∧ v_77 σ x1 x2 x3 x4 x5 x6 = -1 ∧ w_77 σ x1 x2 x3 x4 x5 x6 = am_put σ 50 0 0 := by
  have h13 := hV.n13
  unfold p_77 v_77 w_77
  simp only [hR.1, pi_e13 h13, pi_lm1 h13, isIn_i, bi_0, decide_eq_false_iff_not]
  by_cases c1 : 0 ≤ x1 ∧ x1 ≤ Int32.ofNat P.n - 1
  · by_cases c2 : 0 ≤ x2 ∧ x2 ≤ 3
    · by_cases c3 : 0 ≤ x6 ∧ x6 ≤ 1
      · by_cases c4 : P.n = 13
        · simp only [c1, c2, c3, c4, and_self, not_true_eq_false, if_true, if_false, not_false_eq_true, true_implies, false_implies]
          simp
        · obtain ⟨q, hq, rfl⟩ := rng' h13 c1
          obtain ⟨s, hs, rfl⟩ := rng3 c2
          simp only [c1, c2, c3, c4, and_self, not_true_eq_false, if_true, if_false, not_false_eq_true, true_implies, rlen σ P hR h13 hq hs]
          by_cases c5 : 1 ≤ x4 ∧ x4 ≤ 2000
          · by_cases c6 : 1 ≤ x5 ∧ x5 ≤ 2000
            · by_cases c7 : 0 ≤ x3
              · have hx3 : ¬ x3 < 0 := by clear hna; grind
                simp only [c5, c6, hx3, lgsum c7 c5 (pl_b hV hq), and_self, not_true_eq_false, if_true, if_false, not_false_eq_true, true_implies]
                by_cases h0 : 0 < q
                · have hE := (hR.2 q hq).1 h0
                  have hsd := (hV.tr q hq h0).2
                  simp (disch := omega) only [if_true, if_false, pi_pos, pi_npos, pi_nn, pi_ng, pi_nle, pi_lt, false_or, or_false, not_false_eq_true, true_and, and_true, false_and, and_false, implies_true, not_true, not_true_eq_false, false_implies, true_implies, pi_a1, pi_a2, pi_a3, pi_ab, pi_4, pi_3, pi_6, v_70_i, v_68_i, v_69_i, mod2_i, bi_0, bi_n, vp_bi, enc_flip, flip_s, hE, mod4_i, pi_inj]
                  by_cases c8 : s = (P.sd q + 2) % 4
                  · simp [c8]
                  · by_cases c9 : x3 ≤ plen P q s - x4
                    · exact absurd ⟨by omega, q, s, hq, hs, rfl, rfl, c3, Or.inr c8, c5, c6, c7, c9⟩ hna
                    · simp [c8, c9]
                · have hq0 : q = 0 := by omega
                  subst hq0
                  by_cases c9 : x3 ≤ plen P 0 s - x4
                  · exact absurd ⟨by omega, 0, s, hq, hs, rfl, rfl, c3, Or.inl rfl, c5, c6, c7, c9⟩ hna
                  · simp (disch := omega) only [if_true, if_false, pi_pos, pi_npos, pi_nn, pi_ng, pi_nle, pi_lt, false_or, or_false, not_false_eq_true, true_and, and_true, false_and, and_false, implies_true, not_true, not_true_eq_false, false_implies, true_implies, pi_a1, pi_a2, pi_a3, pi_ab, pi_4, pi_3, pi_6, v_70_i, v_68_i, v_69_i, mod2_i, bi_0, bi_n, vp_bi, enc_flip, flip_s]
                    simp [c9]
              · have hx3 : x3 < 0 := by clear hna; grind
                simp (disch := omega) only [c5, c6, hx3, if_true, if_false, pi_pos, pi_npos, pi_nn, pi_ng, pi_nle, pi_lt, false_or, or_false, not_false_eq_true, true_and, and_true, false_and, and_false, implies_true, not_true, not_true_eq_false, false_implies, true_implies, pi_a1, pi_a2, pi_a3, pi_ab, pi_4, pi_3, pi_6, v_70_i, v_68_i, v_69_i, mod2_i, bi_0, bi_n, vp_bi, enc_flip, flip_s, and_self]
                simp
            · simp (disch := omega) only [c5, c6, if_true, if_false, pi_pos, pi_npos, pi_nn, pi_ng, pi_nle, pi_lt, false_or, or_false, not_false_eq_true, true_and, and_true, false_and, and_false, implies_true, not_true, not_true_eq_false, false_implies, true_implies, pi_a1, pi_a2, pi_a3, pi_ab, pi_4, pi_3, pi_6, v_70_i, v_68_i, v_69_i, mod2_i, bi_0, bi_n, vp_bi, enc_flip, flip_s, and_self]
              simp
          · simp (disch := omega) only [c5, if_true, if_false, pi_pos, pi_npos, pi_nn, pi_ng, pi_nle, pi_lt, false_or, or_false, not_false_eq_true, true_and, and_true, false_and, and_false, implies_true, not_true, not_true_eq_false, false_implies, true_implies, pi_a1, pi_a2, pi_a3, pi_ab, pi_4, pi_3, pi_6, v_70_i, v_68_i, v_69_i, mod2_i, bi_0, bi_n, vp_bi, enc_flip, flip_s, and_self]
            simp
      · simp [c1, c2, c3]
    · simp [c1, c2]
  · simp [c1]
