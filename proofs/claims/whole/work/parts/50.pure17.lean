theorem l81_put (σ : am_M) (i : Nat) (v : Int32) : ∀ (f : Nat) (a b c d : Int32), l_81_27 f (am_put σ 55 i v) a b c d = l_81_27 f σ a b c d ∧ q_81_27 f (am_put σ 55 i v) a b c d = q_81_27 f σ a b c d := by
  intro f
  induction f with
  | zero => intro a b c d; exact ⟨rfl, rfl⟩
  | succ f ih =>
    intro a b c d
    unfold l_81_27 q_81_27
    simp only [am_ne _ _ _ _ _ (show (50 : Nat) ≠ 55 by decide), am_ne _ _ _ _ _ (show (51 : Nat) ≠ 55 by decide), am_ne _ _ _ _ _ (show (52 : Nat) ≠ 55 by decide), ih, and_self]
theorem v81_put (σ : am_M) (i : Nat) (v a b : Int32) : v_81 (am_put σ 55 i v) a b = v_81 σ a b := by
  unfold v_81 f_81
  rw [(l81_put σ i v _ _ _ _ _).1, am_ne _ _ _ _ _ (show (52 : Nat) ≠ 55 by decide)]
theorem p81_put (σ : am_M) (i : Nat) (v a b : Int32) : p_81 (am_put σ 55 i v) a b = p_81 σ a b := by
  unfold p_81
  rw [(l81_put σ i v _ _ _ _ _).2, am_ne _ _ _ _ _ (show (52 : Nat) ≠ 55 by decide)]
theorem rlay_l (P : Pl) (hV : VP P) (h0 : 0 < P.n) (D : Int32) : ∀ (f k : Nat) (σ : am_M), P.n < k + f → k ≤ P.n → RP σ P → σ.1 50 2 = D → (∀ p < k, fset P D σ p) →
    q_82_9 f σ (D / 2) (Int32.ofNat k) ∧ (∀ p < P.n, ffin P D (l_82_9 f σ (D / 2) (Int32.ofNat k)) p) ∧ Fr [55] σ (l_82_9 f σ (D / 2) (Int32.ofNat k)) := by
  intro f
  induction f with
  | zero => intro k σ h1 h2; omega
  | succ f ih =>
    intro k σ h1 h2 hR hD hA
    have h13 := hV.n13
    unfold q_82_9 l_82_9
    have hlt : (Int32.ofNat k < σ.1 50 1) = (k < P.n) := by rw [hR.1]; exact pi_lt (by omega) (by omega)
    by_cases hk : k < P.n
    · have hE := hR.2 k hk
      unfold RE at hE
      have b0 := hasB_i σ P hV hR hk (show 0 < 4 by decide)
      have b1 := hasB_i σ P hV hR hk (show 1 < 4 by decide)
      have b2 := hasB_i σ P hV hR hk (show 2 < 4 by decide)
      have b3 := hasB_i σ P hV hR hk (show 3 < 4 by decide)
      simp only [l_0, l_1, l_2, l_3] at b0 b1 b2 b3
      simp (disch := omega) only [v81_put, p81_put, b0, b1, b2, b3, hlt, hk, if_true, if_false, pi_pos, pi_npos, pi_nn, pi_ng, pi_nle, pi_lt, false_or, or_false, not_false_eq_true, true_and, and_true, false_and, and_false, implies_true, not_true, not_true_eq_false, false_implies, true_implies, pi_a1, pi_a2, pi_a3, pi_ab, pi_4, pi_3, pi_6, v_70_i, v_68_i, v_69_i, mod2_i, bi_0, bi_n, vp_bi, enc_flip, flip_s, hE]
      have fr : Fr [55] σ (am_put (am_put (am_put (am_put σ 55 (4 * k) (P.W k + if P.bt k 2 = false then 0 else D / 2)) 55 (4 * k + 1) (P.S k + if P.bt k 3 = false then 0 else D / 2)) 55 (4 * k + 2) (P.E k - if P.bt k 0 = false then 0 else D / 2)) 55 (4 * k + 3) (P.N k - if P.bt k 1 = false then 0 else D / 2)) := ((((Fr.refl _ _).put _ _ _ (by decide)).put _ _ _ (by decide)).put _ _ _ (by decide)).put _ _ _ (by decide)
      obtain ⟨τ, c1, c2, c3, c4, c5, c6, c7, c8⟩ := chain_l P hV D hk (l_82_9 f) (q_82_9 f) (D / 2) 14 k _ (by omega) hk (hR.fr fr (by decide)) (by rw [fr.1 50 (by decide)]; exact hD)
      have fr2 := fr.trans c3
      obtain ⟨i1, i2, i3⟩ := ih (k + 1) τ (by omega) (by omega) (hR.fr fr2 (by decide)) (by rw [fr2.1 50 (by decide)]; exact hD) (by
        intro p hp
        by_cases hpk : p = k
        · subst hpk
          unfold fset rW rS rE rN
          rw [c5, c6, c7, c8]
          simp (disch := omega) only [am_rd, pi_neq, true_and, and_true, false_and, and_false, if_true, if_false]
          refine ⟨?_, ?_, ?_, ?_⟩
          · cases P.bt p 2 <;> simp
          · cases P.bt p 3 <;> simp
          · cases P.bt p 0 <;> simp [Int32.sub_eq_add_neg]
          · cases P.bt p 1 <;> simp [Int32.sub_eq_add_neg]
        · have := hA p (by omega)
          unfold fset at *
          rw [c4 (4 * p) (by omega) (by omega) (by omega) (by omega), c4 (4 * p + 1) (by omega) (by omega) (by omega) (by omega), c4 (4 * p + 2) (by omega) (by omega) (by omega) (by omega), c4 (4 * p + 3) (by omega) (by omega) (by omega) (by omega)]
          simp (disch := omega) only [am_rd, pi_neq, true_and, and_true, false_and, and_false, if_true, if_false]
          exact this)
      rw [c1]
      exact ⟨c2 i1, i2, fr2.trans i3⟩
    · have hkn : k = P.n := by omega
      subst hkn
      simp only [hlt, hk, if_false, false_implies, true_and, not_false_eq_true, true_implies]
      obtain ⟨s1, s2, s3⟩ := rsub_l P hV D (D / 2) 14 0 σ (by omega) (by omega) hR.1 (by intro p hp; omega) (fun p _ hp => hA p hp)
      obtain ⟨m1, m2⟩ := rmin_l P hV h0 D (D / 2) σ hR.1 hA 13 1 (by omega) (by omega) (by omega)
      have z : Int32.ofNat 0 = 0 := rfl
      rw [z] at s1 s2 s3
      have hE := hA 0 h0
      unfold fset at hE
      simp only [Nat.mul_zero, Nat.zero_add] at hE
      have hp0 : (0 : Int32) < σ.1 50 1 := by
        rw [hR.1, pi_pos h0 (by omega)]; trivial
      have key : (q_82_325 13 σ (D / 2) (mn (rW P D) (1 - 1)) (mn (rS P D) (1 - 1)) (Int32.ofNat 1) → q_82_325 14 σ (D / 2) (σ.1 55 0) (σ.1 55 1) 0) ∧ l_82_325 14 σ (D / 2) (σ.1 55 0) (σ.1 55 1) 0 = l_82_325 13 σ (D / 2) (mn (rW P D) (1 - 1)) (mn (rS P D) (1 - 1)) (Int32.ofNat 1) := by
        have e0 : ((4 : Int32) * 0).toNatClampNeg = 0 := by decide
        have e1 : ((4 : Int32) * 0 + 1).toNatClampNeg = 1 := by decide
        have f0 : ((4 : Int32) * 0 < 0) = False := by decide
        have f1 : ((4 : Int32) * 0 + 1 < 0) = False := by decide
        have z1 : (0 : Int32) + 1 = Int32.ofNat 1 := by decide
        have hx : ∀ x : Int32, (x < x) = False := fun x => by simp
        rw [show (14 : Nat) = 13 + 1 from rfl]
        unfold q_82_325 l_82_325
        simp only [e0, e1, f0, f1, z1, hE, hp0, if_true, hx, if_false, false_or, true_implies, not_true_eq_false, false_implies, and_true, Nat.reduceLeDiff, not_false_eq_true, true_and]
        exact ⟨id, rfl⟩
      rw [key.2, m2]
      exact ⟨key.1 (m1 s1), s2, s3⟩
theorem rlay_c (P : Pl) (hV : VP P) (h0 : 0 < P.n) (σ : am_M) (hR : RP σ P) : p_82 σ ∧ (∀ p < P.n, ffin P (σ.1 50 2) (w_82 σ) p) ∧ Fr [55] σ (w_82 σ) := by
  have h13 := hV.n13
  unfold p_82 w_82 f_82
  exact rlay_l P hV h0 (σ.1 50 2) 14 0 σ (by omega) (by omega) hR rfl (by intro p hp; omega)
