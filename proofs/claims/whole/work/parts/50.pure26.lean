theorem box_e (P : Pl) (b : Int32) (p i : Nat) : (((cC P b p i - P.W p * shr (cX P b p) i) - P.S p * shr (cY P b p) i) + P.W p * shr (cX P b p) i) + P.S p * shr (cY P b p) i = cC P b p i ∧ (((cC P b p i - P.W p * shr (cX P b p) i) - P.S p * shr (cY P b p) i) + P.E p * shr (cX P b p) i) + P.N p * shr (cY P b p) i = far P b p i := by
  unfold far
  generalize shr (cX P b p) i = x
  generalize shr (cY P b p) i = y
  constructor <;> grind
theorem lo_r (P : Pl) (b : Int32) (p i : Nat) : (if cC P b p i < far P b p i then cC P b p i else far P b p i) = lo P b p i := by
  unfold lo
  generalize cC P b p i = x
  generalize far P b p i = y
  grind
theorem l102_c (P : Pl) (b : Int32) (k69 : am_M → Int32 → Int32 → am_M) (c69 : am_M → Int32 → Int32 → Prop) (h13 : P.n ≤ 13) {p : Nat} (hp : p < P.n) : ∀ (f i : Nat) (τ : am_M), 3 < i + f → i ≤ 3 → RP τ P → G4 τ P b p →
    ∃ τ', l_90_102 k69 f τ b (Int32.ofNat p) (Int32.ofNat i) = k69 τ' b (Int32.ofNat (p + 1)) ∧ (c69 τ' b (Int32.ofNat (p + 1)) → q_90_102 c69 f τ b (Int32.ofNat p) (Int32.ofNat i)) ∧ Fr [60] τ τ' ∧ (∀ j, (j < 6 * p + i ∨ 6 * p + 6 ≤ j ∨ (6 * p + 3 ≤ j ∧ j < 6 * p + 3 + i)) → τ'.1 60 j = τ.1 60 j) ∧ ∀ c < 3, i ≤ c → τ'.1 60 (6 * p + c) = lo P b p c ∧ τ'.1 60 (6 * p + 3 + c) = hi P b p c := by
  intro f
  induction f with
  | zero => intro i τ h1 h2; omega
  | succ f ih =>
    intro i τ h1 h2 hR hG
    unfold q_90_102 l_90_102
    by_cases h3 : i < 3
    · have hE := hR.2 p hp
      unfold RE at hE
      obtain ⟨g1, g2, g3, g4⟩ := hG i h3
      obtain ⟨e1, e2⟩ := box_e P b p i
      have e3 := lo_r P b p i
      have e4 : (if cC P b p i < far P b p i then far P b p i else cC P b p i) = hi P b p i := rfl
      simp (disch := omega) only [lt3_i, if_true, if_false, pi_pos, pi_npos, pi_nn, pi_ng, pi_nle, pi_lt, false_or, or_false, not_false_eq_true, true_and, and_true, false_and, and_false, implies_true, not_true, not_true_eq_false, false_implies, true_implies, pi_a1, pi_a2, pi_a3, pi_ab, pi_4, pi_3, pi_6, v_70_i, v_68_i, v_69_i, mod2_i, bi_0, bi_n, vp_bi, enc_flip, flip_s, g1, g2, g4, hE.2, e1, e2, e3, e4, and_self]
      generalize hτ : am_put (am_put τ 60 (6 * p + i) (lo P b p i)) 60 (6 * p + 3 + i) (hi P b p i) = τ1
      have hfr : Fr [60] τ τ1 := by
        rw [← hτ]
        exact ((Fr.refl _ _).put _ _ _ (by decide)).put _ _ _ (by decide)
      obtain ⟨τ', k1, k2, k3, k4, k5⟩ := ih (i + 1) τ1 (by omega) (by omega) (hR.fr hfr (by decide)) (by
        intro c hc
        rw [hfr.1 57 (by decide), hfr.1 58 (by decide), hfr.1 59 (by decide), hfr.1 56 (by decide)]
        exact hG c hc)
      refine ⟨τ', k1, k2, hfr.trans k3, ?_, ?_⟩
      · intro j hj
        rw [k4 j (by omega), ← hτ]
        simp (disch := omega) only [am_rd, pi_neq, and_false, if_false]
      · intro c hc hic
        by_cases hci : c = i
        · subst hci
          rw [k4 (6 * p + c) (by omega), k4 (6 * p + 3 + c) (by omega), ← hτ]
          simp (disch := omega) only [am_rd, pi_neq, and_false, if_false, and_self, if_true]

        · exact k5 c hc (by omega)
    · have hi3 : i = 3 := by omega
      subst hi3
      simp only [l_3, lt33, if_false, false_implies, true_and, not_false_eq_true, true_implies, pi_a1]
      exact ⟨τ, rfl, fun h => h, Fr.refl _ _, fun _ _ => rfl, fun a h1 h2 => by omega⟩
theorem rfold_l (P : Pl) (hV : VP P) (b : Int32) : ∀ (f k : Nat) (τ : am_M), P.n < k + f → k ≤ P.n → RP τ P → (k = 0 → G4 τ P b 0) → (∀ p < k, GE τ P b p) →
    q_90_69 f τ b (Int32.ofNat k) ∧ GC (l_90_69 f τ b (Int32.ofNat k)) P b ∧ Fr [56, 57, 58, 59, 60] τ (l_90_69 f τ b (Int32.ofNat k)) := by
  intro f
  induction f with
  | zero => intro k τ h1 h2; omega
  | succ f ih =>
    intro k τ h1 h2 hR h0 hA
    have h13 := hV.n13
    unfold q_90_69 l_90_69
    have hlt : (Int32.ofNat k < τ.1 50 1) = (k < P.n) := by rw [hR.1]; exact pi_lt (by omega) (by omega)
    have ib : (if ((b >>> (Int32.ofNat k &&& (31 : Int32))) &&& (1 : Int32)) = 1 then (1 : Int32) else 0) = bi (isF b k) := by unfold isF bi; simp
    by_cases hk : k < P.n
    · have fin : ∀ τ1 : am_M, RP τ1 P → G4 τ1 P b k → (∀ p < k, GE τ1 P b p) → q_90_102 (q_90_69 f) 14 τ1 b (Int32.ofNat k) 0 ∧ GC (l_90_102 (l_90_69 f) 14 τ1 b (Int32.ofNat k) 0) P b ∧ Fr [56, 57, 58, 59, 60] τ1 (l_90_102 (l_90_69 f) 14 τ1 b (Int32.ofNat k) 0) := by
        intro τ1 hR1 hG1 hA1
        obtain ⟨τ2, c1, c2, c3, c4, c5⟩ := l102_c P b (l_90_69 f) (q_90_69 f) h13 hk 14 0 τ1 (by omega) (by omega) hR1 hG1
        rw [l_0] at c1 c2
        obtain ⟨k1, k2, k3⟩ := ih (k + 1) τ2 (by omega) (by omega) (hR1.fr c3 (by decide)) (by omega) (by
          intro p hp i hi
          rw [c3.1 57 (by decide), c3.1 58 (by decide), c3.1 59 (by decide), c3.1 56 (by decide)]
          by_cases hpk : p = k
          · subst hpk
            obtain ⟨g1, g2, g3, g4⟩ := hG1 i hi
            exact ⟨g1, g2, g3, g4, (c5 i hi (Nat.zero_le i)).1, (c5 i hi (Nat.zero_le i)).2⟩
          · obtain ⟨g1, g2, g3, g4, g5, g6⟩ := hA1 p (by omega) i hi
            refine ⟨g1, g2, g3, g4, ?_, ?_⟩
            · rw [c4 _ (by omega), g5]
            · rw [c4 _ (by omega), g6])
        rw [c1]
        exact ⟨c2 k1, k2, (c3.mono (by decide)).trans k3⟩
      by_cases hk0 : 0 < k
      · have ht := (hV.tr k hk hk0).1
        obtain ⟨a1, τ1, a2, a3, a4, a5⟩ := turn_c P hV b τ hR hk hk0 (by
          intro i hi
          obtain ⟨g1, g2, g3, g4, -, -⟩ := hA (P.par k) ht i hi
          exact ⟨g1, g2, g3, g4⟩)
        obtain ⟨k1, k2, k3⟩ := fin τ1 (hR.fr a3 (by decide)) a5 (by
          intro p hp i hi
          rw [a4 57 _ (by omega), a4 58 _ (by omega), a4 59 _ (by omega), a4 56 _ (by omega), a3.1 60 (by decide)]
          exact hA p hp i hi)
        simp (disch := omega) only [hlt, hk, ib, if_true, if_false, pi_pos, pi_npos, pi_nn, pi_ng, pi_nle, pi_lt, false_or, or_false, not_false_eq_true, true_and, and_true, false_and, and_false, implies_true, not_true, not_true_eq_false, false_implies, true_implies, pi_a1, pi_a2, pi_a3, pi_ab, pi_4, pi_3, pi_6, v_70_i, v_68_i, v_69_i, mod2_i, bi_0, bi_n, vp_bi, enc_flip, flip_s, a1, a2]
        exact ⟨k1, k2, (a3.mono (by decide)).trans k3⟩
      · have hk1 : k = 0 := by omega
        subst hk1
        obtain ⟨k1, k2, k3⟩ := fin τ hR (h0 rfl) (fun p hp => by omega)
        simp (disch := omega) only [hlt, hk, if_true, if_false, pi_pos, pi_npos, pi_nn, pi_ng, pi_nle, pi_lt, false_or, or_false, not_false_eq_true, true_and, and_true, false_and, and_false, implies_true, not_true, not_true_eq_false, false_implies, true_implies, pi_a1, pi_a2, pi_a3, pi_ab, pi_4, pi_3, pi_6, v_70_i, v_68_i, v_69_i, mod2_i, bi_0, bi_n, vp_bi, enc_flip, flip_s]
        exact ⟨k1, k2, k3⟩
    · simp only [hlt, hk, if_false, false_implies, true_and]
      exact ⟨fun p hp => hA p (by omega), Fr.refl _ _⟩
theorem rfold_c (P : Pl) (hV : VP P) (b : Int32) (τ : am_M) (hR : RP τ P) : p_90 τ b ∧ GC (w_90 τ b) P b ∧ Fr [56, 57, 58, 59, 60] τ (w_90 τ b) := by
  unfold p_90 w_90 f_90
  generalize hτ : (am_put (am_put (am_put (am_put (am_put (am_put (am_put (am_put (am_put (am_put (am_put (am_put τ 56 0 0) 57 0 1) 58 0 0) 59 0 0) 56 1 0) 57 1 0) 58 1 1) 59 1 0) 56 2 0) 57 2 0) 58 2 0) 59 2 1) = τ0
  have f0 : Fr [56, 57, 58, 59, 60] τ τ0 := by
    rw [← hτ]
    exact ((((((((((((Fr.refl _ _).put _ _ _ (by decide)).put _ _ _ (by decide)).put _ _ _ (by decide)).put _ _ _ (by decide)).put _ _ _ (by decide)).put _ _ _ (by decide)).put _ _ _ (by decide)).put _ _ _ (by decide)).put _ _ _ (by decide)).put _ _ _ (by decide)).put _ _ _ (by decide)).put _ _ _ (by decide)
  have e1 : l_90_2 14 τ b 0 = l_90_69 14 τ0 b 0 := by
    rw [l_90_2, if_pos (by decide), l_90_2, if_pos (by decide), l_90_2, if_pos (by decide), l_90_2, if_neg (by decide), ← hτ]
    rfl
  by_cases hn : P.n = 0
  · have hz : ¬ (0 : Int32) < τ0.1 50 1 := by
      rw [f0.1 50 (by decide), hR.1, hn]; decide
    have e3 : l_90_69 14 τ0 b 0 = τ0 := by rw [l_90_69, if_neg hz]
    have k1 : q_90_69 14 τ0 b 0 := by rw [q_90_69]; exact fun h => absurd h hz
    refine ⟨?_, ?_⟩
    · rw [q_90_2]
      refine ⟨fun _ => ⟨by decide, by decide, by decide, by decide, ?_⟩, fun h => absurd (by decide) h⟩
      rw [q_90_2]
      refine ⟨fun _ => ⟨by decide, by decide, by decide, by decide, ?_⟩, fun h => absurd (by decide) h⟩
      rw [q_90_2]
      refine ⟨fun _ => ⟨by decide, by decide, by decide, by decide, ?_⟩, fun h => absurd (by decide) h⟩
      rw [q_90_2]
      refine ⟨fun h => absurd h (by decide), fun h => ?_⟩
      rw [← hτ] at k1
      exact k1
    · rw [e1, e3]
      exact ⟨fun p hp => by omega, f0⟩
  · obtain ⟨k1, k2, k3⟩ := rfold_l P hV b 14 0 τ0 (by have := hV.n13; omega) (by omega) (hR.fr f0 (by decide)) (fun _ => by
      have hw := hV.w (by omega)
      intro i hi
      rw [hw.2.2.2.2.1, hw.2.2.2.2.2, cX_0, cY_0, cZ_0, cC_0, ← hτ]
      revert i
      refine cas3 ?_ ?_ ?_ <;> simp [am_rd, shr] <;> decide) (fun p hp => by omega)
    rw [l_0] at k1 k2 k3
    rw [e1]
    refine ⟨?_, k2, f0.trans k3⟩
    rw [q_90_2]
    refine ⟨fun _ => ⟨by decide, by decide, by decide, by decide, ?_⟩, fun h => absurd (by decide) h⟩
    rw [q_90_2]
    refine ⟨fun _ => ⟨by decide, by decide, by decide, by decide, ?_⟩, fun h => absurd (by decide) h⟩
    rw [q_90_2]
    refine ⟨fun _ => ⟨by decide, by decide, by decide, by decide, ?_⟩, fun h => absurd (by decide) h⟩
    rw [q_90_2]
    refine ⟨fun h => absurd h (by decide), fun h => ?_⟩
    rw [← hτ] at k1
    exact k1
