theorem flip_r {s : Nat} (h : s < 4) : (if (s == 0 || s == 2) = true then 2 - Int32.ofNat s else Int32.ofNat s) = Int32.ofNat (if s = 0 then 2 else if s = 2 then 0 else s) := by
  match s, h with
  | 0, _ => decide
  | 1, _ => decide
  | 2, _ => decide
  | 3, _ => decide
theorem over_r (P : Pl) (hV : VP P) : ∀ (f k : Nat) (σ : am_M), P.n < k + f → k ≤ P.n → σ.1 50 1 = Int32.ofNat P.n → (∀ p < k, RE σ P.flip p) → (∀ p, k ≤ p → p < P.n → RE σ P p) →
    q_80_23 f σ (P.E 0) (Int32.ofNat k) ∧ (l_80_23 f σ (P.E 0) (Int32.ofNat k)).1 = 1 ∧ ∃ τ, (l_80_23 f σ (P.E 0) (Int32.ofNat k)).2 = am_put τ 50 16 0 ∧ RP τ P.flip ∧ Fr [52, 53, 54] σ τ := by
  intro f
  induction f with
  | zero => intro k σ h1 h2; omega
  | succ f ih =>
    intro k σ h1 h2 hn hA hB
    have h13 := hV.n13
    unfold q_80_23 l_80_23
    have hlt : (Int32.ofNat k < σ.1 50 1) = (k < P.n) := by rw [hn]; exact pi_lt (by omega) (by omega)
    by_cases hk : k < P.n
    · have hE := hB k (Nat.le_refl k) hk
      unfold RE at hE
      by_cases h0 : 0 < k
      · have hs := (hV.tr k hk h0).2
        simp (disch := omega) only [hlt, hk, if_true, if_false, pi_pos, pi_npos, pi_nn, pi_ng, pi_nle, pi_lt, false_or, or_false, not_false_eq_true, true_and, and_true, false_and, and_false, implies_true, not_true, not_true_eq_false, false_implies, true_implies, pi_a1, pi_a2, pi_a3, pi_ab, pi_4, pi_3, pi_6, v_70_i, v_68_i, v_69_i, mod2_i, bi_0, bi_n, vp_bi, enc_flip, flip_s, hE, (hE.1 h0), flip_r]
        have := ih (k + 1) (am_put (am_put (am_put (am_put σ 54 (4 * k) (P.E 0 - P.E k)) 54 (4 * k + 2) (P.E 0 - P.W k)) 53 k (bi !P.up k)) 52 k (Int32.ofNat (P.flip.sd k))) (by omega) (by omega) (by simp only [am_rd]; simpa using hn) ?_ ?_
        · refine ⟨this.1, this.2.1, ?_⟩
          obtain ⟨τ, h1, h2, h3⟩ := this.2.2
          exact ⟨τ, h1, h2, Fr.trans (((((Fr.refl _ _).put _ _ _ (by decide)).put _ _ _ (by decide)).put _ _ _ (by decide)).put _ _ _ (by decide)) h3⟩
        · intro p hp
          by_cases hpk : p = k
          · subst hpk
            simp (disch := omega) [RE, am_rd, pi_neq, true_and, and_true, false_and, and_false, if_true, if_false, h0, hE, flip_sd, flip_par, flip_up, flip_W, flip_E, flip_S, flip_N, hE.1 h0]
          · have := hA p (by omega)
            simpa (disch := omega) [RE, am_rd, pi_neq, true_and, and_true, false_and, and_false, if_true, if_false] using this
        · intro p hp hp2
          have := hB p (by omega) hp2
          simpa (disch := omega) [RE, am_rd, pi_neq, true_and, and_true, false_and, and_false, if_true, if_false] using this
      · have hk0 : k = 0 := by omega
        subst hk0
        simp (disch := omega) only [hlt, hk, if_true, if_false, pi_pos, pi_npos, pi_nn, pi_ng, pi_nle, pi_lt, false_or, or_false, not_false_eq_true, true_and, and_true, false_and, and_false, implies_true, not_true, not_true_eq_false, false_implies, true_implies, pi_a1, pi_a2, pi_a3, pi_ab, pi_4, pi_3, pi_6, v_70_i, v_68_i, v_69_i, mod2_i, bi_0, bi_n, vp_bi, enc_flip, flip_s, hE]
        have := ih (0 + 1) (am_put (am_put (am_put (am_put σ 54 (4 * 0) (P.E 0 - P.E 0)) 54 (4 * 0 + 2) (P.E 0 - P.W 0)) 53 0 (vp_nar FieldType.boolean (if σ.1 53 0 = 0 then 1 else 0))) 52 0 (σ.1 52 0)) (by omega) (by omega) (by simp only [am_rd]; simpa using hn) ?_ ?_
        · refine ⟨this.1, this.2.1, ?_⟩
          obtain ⟨τ, h1, h2, h3⟩ := this.2.2
          exact ⟨τ, h1, h2, Fr.trans (((((Fr.refl _ _).put _ _ _ (by decide)).put _ _ _ (by decide)).put _ _ _ (by decide)).put _ _ _ (by decide)) h3⟩
        · intro p hp
          have hpk : p = 0 := by omega
          subst hpk
          simp [RE, am_rd, hE, flip_W, flip_E, flip_S, flip_N]
        · intro p hp hp2
          have := hB p (by omega) hp2
          simpa (disch := omega) [RE, am_rd, pi_neq, true_and, and_true, false_and, and_false, if_true, if_false] using this
    · simp only [hlt, hk, if_false, false_implies, true_and]
      exact ⟨σ, rfl, ⟨hn, fun p hp => hA p (by have : P.flip.n = P.n := rfl; omega)⟩, Fr.refl _ _⟩
