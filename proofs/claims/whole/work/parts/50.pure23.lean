/-- the box of one panel -/
theorem box_c (P : Pl) (b : Int32) (σ : am_M) (hC : CP σ P) (h13 : P.n ≤ 13) {k : Nat} (hk : k < P.n) (h1 : σ.1 21 k = cX P b k) (h2 : σ.1 22 k = cY P b k) (h3 : σ.1 23 k = cZ P b k) (h4 : ∀ i < 3, σ.1 (25 + i) k = cC P b k i) (hA : ∀ p < k, FE σ P b p) :
    p_4 σ (Int32.ofNat k) ∧ CP (w_4 σ (Int32.ofNat k)) P ∧ Fr [29, 30, 31, 33, 34, 35] σ (w_4 σ (Int32.ofNat k)) ∧ ∀ p < k + 1, FE (w_4 σ (Int32.ofNat k)) P b p := by
  obtain ⟨a1, σ', rfl, a3, a4, a5⟩ := w4_c P σ hC h13 hk
  refine ⟨a1, hC.fr a3 (by decide), a3, ?_⟩
  have f25 : ∀ i < 3, (w_4 σ (Int32.ofNat k)).1 (25 + i) = σ.1 (25 + i) := fun i hi => a3.1 _ (by revert i; decide)
  intro p hp
  unfold FE
  rw [a3.1 21 (by decide), a3.1 22 (by decide), a3.1 23 (by decide)]
  by_cases hpk : p = k
  · subst hpk
    refine ⟨h1, h2, h3, fun i hi => by rw [f25 i hi, h4 i hi], fun i hi => ?_⟩
    have := a5 i hi
    unfold cn at this
    rw [h4 i hi, h1, h2] at this
    exact this
  · obtain ⟨b1, b2, b3, b4, b5⟩ := hA p (by omega)
    refine ⟨b1, b2, b3, fun i hi => by rw [f25 i hi, b4 i hi], fun i hi => ?_⟩
    rw [(a4 i hi p hpk).1, (a4 i hi p hpk).2]
    exact b5 i hi
theorem fold_l (P : Pl) (hV : VP P) (b : Int32) : ∀ (f k : Nat) (σ : am_M), P.n < k + f → k ≤ P.n → CP σ P → (k = 0 → σ.1 21 0 = 1 ∧ σ.1 22 0 = 2 ∧ σ.1 23 0 = 3 ∧ ∀ i < 3, σ.1 (25 + i) 0 = 0) → (∀ p < k, FE σ P b p) →
    q_1_45 f σ b (Int32.ofNat k) ∧ FC (l_1_45 f σ b (Int32.ofNat k)) P b ∧ Fr [21, 22, 23, 25, 26, 27, 29, 30, 31, 33, 34, 35] σ (l_1_45 f σ b (Int32.ofNat k)) := by
  intro f
  induction f with
  | zero => intro k σ h1 h2; omega
  | succ f ih =>
    intro k σ h1 h2 hC h0 hA
    have h13 := hV.n13
    unfold q_1_45 l_1_45
    have hlt : (Int32.ofNat k < σ.1 2 0) = (k < P.n) := by rw [hC.1]; exact pi_lt (by omega) (by omega)
    by_cases hk : k < P.n
    · by_cases hk0 : 0 < k
      · have ht := (hV.tr k hk hk0).1
        obtain ⟨a1, σ1, a2, a3, a4, a5, a6, a7⟩ := w2_c P hV b σ hC hk hk0
        have hC1 : CP σ1 P := hC.fr a3 (by decide)
        obtain ⟨b1, σ2, b2, b3, b4, b5⟩ := w3_c P hV σ1 hC1 hk hk0
        have hC2 : CP σ2 P := hC1.fr b3 (by decide)
        obtain ⟨q1, q2, q3, q4, q5⟩ := hA (P.par k) ht
        rw [q1, q2, q3] at a5 a6 a7
        rw [← cX_1 hV b hk hk0] at a5
        rw [← cY_1 hV b hk hk0] at a6
        rw [← cZ_1 hV b hk hk0] at a7
        have hne : P.par k ≠ k := by omega
        obtain ⟨c1, c2, c3, c4⟩ := box_c P b σ2 hC2 h13 hk (by rw [b3.1 21 (by decide), a5]) (by rw [b3.1 22 (by decide), a6]) (by rw [b3.1 23 (by decide), a7]) (by
          intro i hi
          rw [b5 i hi, cC_1 hV b hk hk0, a5, a6, (a4 _ hne).1, (a4 _ hne).2.1, q1, q2, a3.1 (25 + i) (by revert i; decide), q4 i hi]
          unfold nC
          rw [cX_1 hV b hk hk0, cY_1 hV b hk hk0]) (by
          intro p hp
          obtain ⟨d1, d2, d3, d4, d5⟩ := hA p hp
          have hpk : p ≠ k := by omega
          unfold FE
          rw [b3.1 21 (by decide), b3.1 22 (by decide), b3.1 23 (by decide), (a4 p hpk).1, (a4 p hpk).2.1, (a4 p hpk).2.2]
          refine ⟨d1, d2, d3, fun i hi => ?_, fun i hi => ?_⟩
          · rw [b4 i hi p hpk, a3.1 (25 + i) (by revert i; decide), d4 i hi]
          · rw [b3.1 (29 + i) (by revert i; decide), b3.1 (33 + i) (by revert i; decide), a3.1 (29 + i) (by revert i; decide), a3.1 (33 + i) (by revert i; decide)]
            exact d5 i hi)
        obtain ⟨k1, k2, k3⟩ := ih (k + 1) (w_4 σ2 (Int32.ofNat k)) (by omega) (by omega) c2 (by omega) c4
        simp (disch := omega) only [hlt, hk, if_true, if_false, pi_pos, pi_npos, pi_nn, pi_ng, pi_nle, pi_lt, false_or, or_false, not_false_eq_true, true_and, and_true, false_and, and_false, implies_true, not_true, not_true_eq_false, false_implies, true_implies, pi_a1, pi_a2, pi_a3, pi_ab, pi_4, pi_3, pi_6, v_70_i, v_68_i, v_69_i, mod2_i, bi_0, bi_n, vp_bi, enc_flip, flip_s, a1, a2, b1, b2, c1]
        refine ⟨k1, k2, Fr.trans ?_ k3⟩
        exact ((a3.mono (by decide)).trans (b3.mono (by decide))).trans (c3.mono (by decide))
      · have hk1 : k = 0 := by omega
        subst hk1
        obtain ⟨z1, z2, z3, z4⟩ := h0 rfl
        obtain ⟨c1, c2, c3, c4⟩ := box_c P b σ hC h13 hk (by rw [z1, cX_0]) (by rw [z2, cY_0]) (by rw [z3, cZ_0]) (fun i hi => by rw [z4 i hi, cC_0]) (fun p hp => by omega)
        obtain ⟨k1, k2, k3⟩ := ih (0 + 1) (w_4 σ (Int32.ofNat 0)) (by omega) (by omega) c2 (by omega) c4
        simp (disch := omega) only [hlt, hk, if_true, if_false, pi_pos, pi_npos, pi_nn, pi_ng, pi_nle, pi_lt, false_or, or_false, not_false_eq_true, true_and, and_true, false_and, and_false, implies_true, not_true, not_true_eq_false, false_implies, true_implies, pi_a1, pi_a2, pi_a3, pi_ab, pi_4, pi_3, pi_6, v_70_i, v_68_i, v_69_i, mod2_i, bi_0, bi_n, vp_bi, enc_flip, flip_s, c1]
        exact ⟨k1, k2, (c3.mono (by decide)).trans k3⟩
    · simp only [hlt, hk, if_false, false_implies, true_and]
      exact ⟨fun p hp => hA p (by omega), Fr.refl _ _⟩
theorem fold_c (P : Pl) (hV : VP P) (b : Int32) (σ : am_M) (hC : CP σ P) : p_1 σ b ∧ FC (w_1 σ b) P b ∧ Fr [21, 22, 23, 25, 26, 27, 29, 30, 31, 33, 34, 35] σ (w_1 σ b) := by
  unfold p_1 w_1 f_1
  generalize hσ : am_put (am_put (am_put σ 21 0 1) 22 0 2) 23 0 3 = σ0
  have f0 : Fr [21, 22, 23, 25, 26, 27, 29, 30, 31, 33, 34, 35] σ σ0 := by
    rw [← hσ]
    exact (((Fr.refl _ _).put _ _ _ (by decide)).put _ _ _ (by decide)).put _ _ _ (by decide)
  have f1 : Fr [21, 22, 23, 25, 26, 27, 29, 30, 31, 33, 34, 35] σ0 (am_put (am_put (am_put σ0 25 0 0) 26 0 0) 27 0 0) := (((Fr.refl _ _).put _ _ _ (by decide)).put _ _ _ (by decide)).put _ _ _ (by decide)
  have hC0 : CP (am_put (am_put (am_put σ0 25 0 0) 26 0 0) 27 0 0) P := hC.fr (f0.trans f1) (by decide)
  obtain ⟨k1, k2, k3⟩ := fold_l P hV b 14 0 _ (by have := hV.n13; omega) (by omega) hC0 (fun _ => by
    refine ⟨?_, ?_, ?_, ?_⟩
    · simp only [am_rd]; rw [← hσ]; simp [am_rd]
    · simp only [am_rd]; rw [← hσ]; simp [am_rd]
    · simp only [am_rd]; rw [← hσ]; simp [am_rd]
    · refine cas3 ?_ ?_ ?_ <;> simp [am_rd]) (fun p hp => by omega)
  rw [l_0] at k1 k2 k3
  have e1 : l_1_23 14 σ0 b 0 = l_1_45 14 (am_put (am_put (am_put σ0 25 0 0) 26 0 0) 27 0 0) b 0 := by
    rw [l_1_23, if_pos (by decide), l_1_23, if_pos (by decide), l_1_23, if_pos (by decide), l_1_23, if_neg (by decide)]
    rfl
  have e2 : q_1_23 14 σ0 b 0 := by
    rw [q_1_23]
    refine ⟨fun _ => ⟨by decide, ?_⟩, fun h => absurd (by decide) h⟩
    rw [q_1_23]
    refine ⟨fun _ => ⟨by decide, ?_⟩, fun h => absurd (by decide) h⟩
    rw [q_1_23]
    refine ⟨fun _ => ⟨by decide, ?_⟩, fun h => absurd (by decide) h⟩
    rw [q_1_23]
    refine ⟨fun h => absurd h (by decide), fun h => ?_⟩
    exact k1
  rw [e1]
  exact ⟨e2, k2, (f0.trans f1).trans k3⟩
