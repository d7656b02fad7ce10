/-- the two patterns agree -/
def flr (n : Nat) (σ τ : am_M) : Prop := σ.1 12 0 = Int32.ofNat n ∧ σ.1 2 0 = Int32.ofNat n ∧ τ.1 50 1 = Int32.ofNat n ∧ ∀ p < n, σ.1 14 p = τ.1 55 (4 * p + 2) ∧ σ.1 15 p = τ.1 55 (4 * p + 3) ∧ σ.1 16 p = τ.1 55 (4 * p) ∧ σ.1 17 p = τ.1 55 (4 * p + 1)
theorem fw_l (n : Nat) (h13 : n ≤ 13) (σ τ : am_M) (hr : flr n σ τ) : ∀ (f k : Nat), n < k + f → k ≤ n →
    q_22_2 f σ (Int32.ofNat k) ∧ ((l_22_2 f σ (Int32.ofNat k) = -1 → q_84_97 14 τ 0) → q_84_30 f τ (Int32.ofNat k)) ∧ l_84_30 f τ (Int32.ofNat k) = (if l_22_2 f σ (Int32.ofNat k) = -1 then l_84_97 14 τ 0 else (1, am_put τ 50 9 (l_22_2 f σ (Int32.ofNat k)))) := by
  intro f
  induction f with
  | zero => intro k h1 h2; omega
  | succ f ih =>
    intro k h1 h2
    unfold q_22_2 q_84_30 l_84_30 l_22_2
    have hlt : (Int32.ofNat k < σ.1 12 0) = (k < n) := by rw [hr.1]; exact pi_lt (by omega) (by omega)
    have hlt' : (Int32.ofNat k < τ.1 50 1) = (k < n) := by rw [hr.2.2.1]; exact pi_lt (by omega) (by omega)
    by_cases hk : k < n
    · have e := hr.2.2.2 k hk
      simp (disch := omega) only [hlt, hlt', hk, if_true, if_false, pi_pos, pi_npos, pi_nn, pi_ng, pi_nle, pi_lt, false_or, or_false, not_false_eq_true, true_and, and_true, false_and, and_false, implies_true, not_true, not_true_eq_false, false_implies, true_implies, pi_a1, pi_a2, pi_a3, pi_ab, pi_4, pi_3, pi_6, v_70_i, v_68_i, v_69_i, mod2_i, bi_0, bi_n, vp_bi, enc_flip, flip_s, e]
      by_cases c1 : τ.1 55 (4 * k) < τ.1 55 (4 * k + 2)
      · by_cases c2 : τ.1 55 (4 * k + 1) < τ.1 55 (4 * k + 3)
        · simp only [c1, c2, if_true, true_implies]
          exact ih (k + 1) (by omega) (by omega)
        · simp (disch := omega) only [c1, c2, if_true, if_false, true_implies, false_implies, implies_true, pi_m1, and_self]
      · simp (disch := omega) only [c1, if_true, if_false, true_implies, false_implies, implies_true, pi_m1, and_self]
    · simp only [hlt, hlt', hk, if_false, if_true, false_implies, true_and, true_implies, not_false_eq_true, and_true, imp_self]
theorem fo_l (n : Nat) (h13 : n ≤ 13) (σ τ : am_M) (hr : flr n σ τ) {a : Nat} (ha : a < n) (k97 : am_M → Int32 → Int32 × am_M) (c97 : am_M → Int32 → Prop) : ∀ (f k : Nat), n < k + f → k ≤ n →
    q_23_4 f σ (Int32.ofNat a) (Int32.ofNat k) ∧ ((l_23_4 f σ (Int32.ofNat a) (Int32.ofNat k) = -1 → c97 τ (Int32.ofNat (a + 1))) → q_84_109 c97 f τ (Int32.ofNat a) (Int32.ofNat k)) ∧ l_84_109 k97 f τ (Int32.ofNat a) (Int32.ofNat k) = (if l_23_4 f σ (Int32.ofNat a) (Int32.ofNat k) = -1 then k97 τ (Int32.ofNat (a + 1)) else (2, am_put (am_put τ 50 9 (Int32.ofNat a)) 50 10 (l_23_4 f σ (Int32.ofNat a) (Int32.ofNat k)))) := by
  intro f
  induction f with
  | zero => intro k h1 h2; omega
  | succ f ih =>
    intro k h1 h2
    unfold q_23_4 q_84_109 l_84_109 l_23_4
    have hlt : (Int32.ofNat k < σ.1 12 0) = (k < n) := by rw [hr.1]; exact pi_lt (by omega) (by omega)
    have hlt' : (Int32.ofNat k < τ.1 50 1) = (k < n) := by rw [hr.2.2.1]; exact pi_lt (by omega) (by omega)
    by_cases hk : k < n
    · have e := hr.2.2.2 k hk
      have e' := hr.2.2.2 a ha
      unfold v_83 p_83
      simp (disch := omega) only [hlt, hlt', hk, if_true, if_false, pi_pos, pi_npos, pi_nn, pi_ng, pi_nle, pi_lt, false_or, or_false, not_false_eq_true, true_and, and_true, false_and, and_false, implies_true, not_true, not_true_eq_false, false_implies, true_implies, pi_a1, pi_a2, pi_a3, pi_ab, pi_4, pi_3, pi_6, v_70_i, v_68_i, v_69_i, mod2_i, bi_0, bi_n, vp_bi, enc_flip, flip_s, e, e']
      have i := ih (k + 1) (by omega) (by omega)
      by_cases c1 : τ.1 55 (4 * a) < τ.1 55 (4 * k + 2)
      · by_cases c2 : τ.1 55 (4 * k) < τ.1 55 (4 * a + 2)
        · by_cases c3 : τ.1 55 (4 * a + 1) < τ.1 55 (4 * k + 3)
          · by_cases c4 : τ.1 55 (4 * k + 1) < τ.1 55 (4 * a + 3)
            · simp (disch := omega) only [c1, c2, c3, c4, if_true, if_false, true_implies, false_implies, implies_true, pi_m1, and_self, i10, not_true_eq_false]
            · simp only [c1, c2, c3, c4, if_true, if_false, true_implies, false_implies, implies_true, and_self, not_true_eq_false, not_false_eq_true, and_true]
              exact i
          · simp only [c1, c2, c3, if_true, if_false, true_implies, false_implies, implies_true, and_self, not_true_eq_false, not_false_eq_true, and_true, true_and]
            exact i
        · simp only [c1, c2, if_true, if_false, true_implies, false_implies, implies_true, and_self, not_true_eq_false, not_false_eq_true, and_true, true_and]
          exact i
      · simp only [c1, if_true, if_false, true_implies, false_implies, implies_true, and_self, not_true_eq_false, not_false_eq_true, and_true, true_and]
        exact i
    · simp only [hlt, hlt', hk, if_false, if_true, false_implies, true_and, true_implies, not_false_eq_true, and_true, imp_self, pi_a1]
theorem fp_l (n : Nat) (h13 : n ≤ 13) (σ τ : am_M) (hr : flr n σ τ) : ∀ (f k : Nat), n < k + f → k ≤ n →
    q_54_55 f σ (Int32.ofNat k) ∧ q_84_97 f τ (Int32.ofNat k) ∧ ((l_54_55 f σ (Int32.ofNat k) = (0, σ) ∧ l_84_97 f τ (Int32.ofNat k) = (0, τ)) ∨ ∃ a b : Int32, l_54_55 f σ (Int32.ofNat k) = (2, am_put (am_put σ 1 6 a) 1 7 b) ∧ l_84_97 f τ (Int32.ofNat k) = (2, am_put (am_put τ 50 9 a) 50 10 b)) := by
  intro f
  induction f with
  | zero => intro k h1 h2; omega
  | succ f ih =>
    intro k h1 h2
    unfold q_54_55 q_84_97 l_54_55 l_84_97
    have hlt : (Int32.ofNat k < σ.1 2 0) = (k < n) := by rw [hr.2.1]; exact pi_lt (by omega) (by omega)
    have hlt' : (Int32.ofNat k < τ.1 50 1) = (k < n) := by rw [hr.2.2.1]; exact pi_lt (by omega) (by omega)
    by_cases hk : k < n
    · obtain ⟨o1, o2, o3⟩ := fo_l n h13 σ τ hr hk (l_84_97 f) (q_84_97 f) 14 (k + 1) (by omega) (by omega)
      unfold p_23 v_23 f_23
      simp only [hlt, hlt', hk, if_true, true_implies, pi_a1, o1, true_and, o3]
      obtain ⟨i1, i2, i3⟩ := ih (k + 1) (by omega) (by omega)
      refine ⟨fun _ => i1, o2 (fun _ => i2), ?_⟩
      by_cases c : l_23_4 14 σ (Int32.ofNat k) (Int32.ofNat (k + 1)) = -1
      · simp only [c, if_true]
        exact i3
      · simp only [c, if_false]
        exact Or.inr ⟨_, _, rfl, rfl⟩
    · simp only [hlt, hlt', hk, if_false, false_implies, true_and, and_self, true_or]
theorem f54_fr : ∀ (f : Nat) (σ : am_M) (x : Int32), Fr [1] σ (l_54_55 f σ x).2 := by
  intro f
  induction f with
  | zero => intro σ x; exact Fr.refl _ _
  | succ f ih =>
    intro σ x
    unfold l_54_55
    split
    · split
      · exact ih _ _
      · exact ((Fr.refl _ _).put _ _ _ (by decide)).put _ _ _ (by decide)
    · exact Fr.refl _ _
theorem put16 (σ : am_M) (v : Int32) : Keep σ (am_put σ 1 6 v) := Keep.put1 _ _ _ _ (by decide)
theorem put17 (σ : am_M) (v : Int32) : Keep σ (am_put σ 1 7 v) := Keep.put1 _ _ _ _ (by decide)
theorem put509 (σ : am_M) (v : Int32) : Keep σ (am_put σ 50 9 v) := Keep.put1 _ _ _ _ (by decide)
theorem put5010 (σ : am_M) (v : Int32) : Keep σ (am_put σ 50 10 v) := Keep.put1 _ _ _ _ (by decide)
theorem c_flat (σ : am_M) (h : Inv σ) : p_54 σ ∧ p_84 (w_54 σ) ∧ v_54 σ = v_84 (w_54 σ) ∧ Inv (w_84 (w_54 σ)) ∧ (w_84 (w_54 σ)).1 0 = σ.1 0 := by
  have hI := h
  obtain ⟨P, hV, hC, hR, hM, hO⟩ := h
  have hP : InvP σ P := ⟨hV, hC, hR, hM, hO⟩
  have h13 := hV.n13
  have hz := pi_z (show P.n < 200 by omega)
  unfold p_54 p_84 v_54 v_84 w_84 f_84 w_54 f_54
  by_cases hn : P.n = 0
  · have hc : σ.1 2 0 = 0 := by rw [hC.1, hn]; rfl
    have hr : σ.1 50 1 = 0 := by rw [hR.1, hn]; rfl
    simp only [hc, hr, if_true, not_true, false_implies, true_and, not_true_eq_false]
    exact inv500 hI 0
  · have hc : σ.1 2 0 ≠ 0 := by rw [hC.1]; simpa [hz] using hn
    have hr : σ.1 50 1 ≠ 0 := by rw [hR.1]; simpa [hz] using hn
    have h0 : 0 < P.n := by omega
    obtain ⟨a1, a2, a3, a4⟩ := lay_c P hV (σ.1 1 4) σ h0 hC
    simp only [hc, if_false, not_false_eq_true, true_implies, a1, true_and]
    generalize hσ1 : w_17 σ (σ.1 1 4) = σ1 at *
    have K1 : Keep σ σ1 := Keep.fr a4 (dj (by decide))
    have key : ∀ σf : am_M, Fr [1] σ1 σf → σf.1 50 1 ≠ 0 ∧ p_82 (am_put σf 50 0 0) ∧ Fr [55] (am_put σf 50 0 0) (w_82 (am_put σf 50 0 0)) ∧ ∀ x y : am_M, Fr [1] σ1 x → Fr [50] (w_82 (am_put σf 50 0 0)) y → y.1 50 1 = σf.1 50 1 → flr P.n x y := by
      intro σf hf
      have f50 : σf.1 50 = σ.1 50 := by rw [hf.1 50 (by decide), a4.1 50 (by decide)]
      have hR1 : RP (am_put σf 50 0 0) P := ((hR.fr a4 (by decide)).fr hf (by decide)).put _ _ _ (by decide) (by decide)
      have hD : (am_put σf 50 0 0).1 50 2 = σ.1 1 4 := by rw [am_rd, if_neg (by decide), f50]; exact hM.1.symm
      obtain ⟨b1, b2, b3⟩ := rlay_c P hV h0 _ hR1
      rw [hD] at b2
      refine ⟨by rw [f50]; exact hr, b1, b3, ?_⟩
      intro x y hx hy hy1
      refine ⟨?_, ?_, ?_, ?_⟩
      · rw [hx.1 12 (by decide)]; exact a3
      · rw [hx.1 2 (by decide), a4.1 2 (by decide)]; exact hC.1
      · rw [hy1, f50]; exact hR.1
      · intro p hp
        have d1 := a2 p hp
        have d2 := b2 p hp
        unfold ffin at d2
        rw [hx.1 14 (by decide), hx.1 15 (by decide), hx.1 16 (by decide), hx.1 17 (by decide), hy.1 55 (by decide), d1.1, d1.2.1, d1.2.2.1, d1.2.2.2, d2.1, d2.2.1, d2.2.2.1, d2.2.2.2]
        exact ⟨rfl, rfl, rfl, rfl⟩
    have fr2 : Fr [1] σ1 (am_put (am_put σ1 1 6 (v_22 σ1)) 1 7 (-1)) := ((Fr.refl _ _).put _ _ _ (by decide)).put _ _ _ (by decide)
    have e0 : Int32.ofNat 0 = 0 := rfl
    -- the reference over what the program left
    have hfin : ∀ σf : am_M, Fr [1] σ1 σf → Fr [50] (w_82 (am_put σf 50 0 0)) (am_put (am_put (w_82 (am_put σf 50 0 0)) 50 9 (-1)) 50 10 (-1)) ∧ (am_put (am_put (w_82 (am_put σf 50 0 0)) 50 9 (-1)) 50 10 (-1)).1 50 1 = σf.1 50 1 := by
      intro σf hf
      obtain ⟨-, -, k3, -⟩ := key σf hf
      refine ⟨((Fr.refl _ _).put _ _ _ (by decide)).put _ _ _ (by decide), ?_⟩
      simp only [am_rd, k3.1 50 (by decide)]
      simp
    by_cases hb : v_22 σ1 = -1
    · simp only [hb, if_true, true_implies]
      rw [hb] at fr2
      generalize hσ2 : am_put (am_put σ1 1 6 (-1)) 1 7 (-1) = σ2 at *
      have hff : Fr [1] σ1 (l_54_55 14 σ2 0).2 := fr2.trans (f54_fr 14 σ2 0)
      obtain ⟨k1, k2, k3, k4⟩ := key _ hff
      obtain ⟨g1, g2⟩ := hfin _ hff
      have hr1 := k4 σ1 _ (Fr.refl _ _) g1 g2
      have hr2 := k4 σ2 _ fr2 g1 g2
      generalize hτ2 : am_put (am_put (w_82 (am_put (l_54_55 14 σ2 0).2 50 0 0)) 50 9 (-1)) 50 10 (-1) = τ2 at *
      obtain ⟨w1, w2, w3⟩ := fw_l P.n h13 σ1 τ2 hr1 14 0 (by omega) (by omega)
      obtain ⟨q1, q2, q3⟩ := fp_l P.n h13 σ2 τ2 hr2 14 0 (by omega) (by omega)
      rw [e0] at w1 w2 w3 q1 q2 q3
      have hb' : l_22_2 14 σ1 0 = -1 := hb
      rw [if_pos hb'] at w3
      simp only [k1, k2, not_false_eq_true, true_implies, if_false, true_and, w3]
      refine ⟨⟨w1, q1⟩, w2 (fun _ => q2), ?_⟩
      rcases q3 with ⟨q3, q4⟩ | ⟨a, b, q3, q4⟩
      · rw [q3] at hτ2 k3 ⊢
        rw [q4]
        simp only at hτ2 k3 ⊢
        have K2 : Keep σ τ2 := by
          rw [← hτ2, ← hσ2] at *
          exact ((((((K1.trans (put16 _ _)).trans (put17 _ _)).trans (p500 _ _)).trans (Keep.fr k3 (dj (by decide)))).trans (put509 _ _)).trans (put5010 _ _))
        refine ⟨trivial, ⟨P, K2.toInv hP ?_ ?_⟩, K2.1 0 (by decide)⟩
        · rw [← hτ2]; simp only [am_rd, k3.1 1 (by decide)]; rw [← hσ2]; simp [am_rd]
        · rw [← hτ2]; simp only [am_rd, k3.1 1 (by decide)]; rw [← hσ2]; simp [am_rd]
      · rw [q3] at hτ2 k3 ⊢
        rw [q4]
        simp only at hτ2 k3 ⊢
        have K2 : Keep σ τ2 := by
          rw [← hτ2, ← hσ2] at *
          exact ((((((((K1.trans (put16 _ _)).trans (put17 _ _)).trans (put16 _ _)).trans (put17 _ _)).trans (p500 _ _)).trans (Keep.fr k3 (dj (by decide)))).trans (put509 _ _)).trans (put5010 _ _))
        have K3 : Keep σ (am_put (am_put τ2 50 9 a) 50 10 b) := (K2.trans (put509 _ _)).trans (put5010 _ _)
        refine ⟨trivial, ⟨P, K3.toInv hP ?_ ?_⟩, K3.1 0 (by decide)⟩
        · rw [← hτ2]; simp only [am_rd, k3.1 1 (by decide)]; simp
        · rw [← hτ2]; simp only [am_rd, k3.1 1 (by decide)]; simp
    · simp only [hb, if_false, false_implies, and_true]
      obtain ⟨k1, k2, k3, k4⟩ := key _ fr2
      obtain ⟨g1, g2⟩ := hfin _ fr2
      have hr1 := k4 σ1 _ (Fr.refl _ _) g1 g2
      obtain ⟨w1, w2, w3⟩ := fw_l P.n h13 σ1 _ hr1 14 0 (by omega) (by omega)
      rw [e0] at w1 w2 w3
      have hb' : ¬ l_22_2 14 σ1 0 = -1 := hb
      rw [if_neg hb'] at w3
      have hv : l_22_2 14 σ1 0 = v_22 σ1 := rfl
      rw [hv] at w3
      simp only [k1, k2, not_false_eq_true, true_implies, if_false, true_and, w3]
      refine ⟨w1, w2 (fun h => absurd h hb'), ?_⟩
      have K2 : Keep σ (am_put (am_put (am_put (w_82 (am_put (am_put (am_put σ1 1 6 (v_22 σ1)) 1 7 (-1)) 50 0 0)) 50 9 (-1)) 50 10 (-1)) 50 9 (v_22 σ1)) := ((((((K1.trans (put16 _ _)).trans (put17 _ _)).trans (p500 _ _)).trans (Keep.fr k3 (dj (by decide)))).trans (put509 _ _)).trans (put5010 _ _)).trans (put509 _ _)
      refine ⟨⟨P, K2.toInv hP ?_ ?_⟩, K2.1 0 (by decide)⟩
      · simp only [am_rd, k3.1 1 (by decide)]; simp
      · simp only [am_rd, k3.1 1 (by decide)]; simp
