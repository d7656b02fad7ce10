theorem pi_m1 {k : Nat} (h : k < 200) : (Int32.ofNat k = -1) = False := by
  refine eq_false fun e => ?_
  have h1 := pi_nn h
  rw [e] at h1
  have h2 : (-1 : Int32).toNatClampNeg = 0 := by decide
  rw [h2] at h1
  subst h1
  exact absurd e (by decide)
/-- what an asking call leaves -/
theorem ask {σ τ : am_M} {P : Pl} (hP : InvP σ P) (hK : Keep σ τ) (h6 : τ.1 1 6 = σ.1 1 6) (h7 : τ.1 1 7 = σ.1 1 7) (h9 : τ.1 50 9 = σ.1 50 9) (h10 : τ.1 50 10 = σ.1 50 10) : Inv τ ∧ τ.1 0 = σ.1 0 := by
  have hM := hP.2.2.2.1
  refine ⟨⟨P, hK.toInv hP ?_ ?_⟩, hK.1 0 (by decide)⟩
  · rw [h6, h9]; exact hM.2.2.1
  · rw [h7, h10]; exact hM.2.2.2
/-- the same: the program's rows, the mark, the reference's rows -/
theorem ask3 {σ τ τ' : am_M} {P : Pl} {A B : List Nat} (hP : InvP σ P) (h1 : Fr A σ τ) (h2 : Fr B (am_put τ 50 0 0) τ') (hA : ([0, 2, 3, 4, 5, 6, 8, 9, 10, 11, 49, 51, 52, 53, 54, 61, 1, 50].all fun x => !A.contains x) = true) (hB : ([0, 2, 3, 4, 5, 6, 8, 9, 10, 11, 49, 51, 52, 53, 54, 61, 1, 50].all fun x => !B.contains x) = true) : Inv τ' ∧ τ'.1 0 = σ.1 0 := by
  have a1 := h1.1 1 (dj hA 1 (by decide))
  have a50 := h1.1 50 (dj hA 50 (by decide))
  have b1 := h2.1 1 (dj hB 1 (by decide))
  have b50 := h2.1 50 (dj hB 50 (by decide))
  refine ask hP (((Keep.fr h1 (dj hA)).trans (p500 τ 0)).trans (Keep.fr h2 (dj hB))) ?_ ?_ ?_ ?_
  · rw [b1, am_ne _ _ _ _ _ (by decide), a1]
  · rw [b1, am_ne _ _ _ _ _ (by decide), a1]
  · rw [b50, am_rd, if_neg (by decide), a50]
  · rw [b50, am_rd, if_neg (by decide), a50]
theorem c_flatOf (σ : am_M) (h : Inv σ) (x1 x2 : Int32) : p_56 σ x1 x2 ∧ p_86 (w_56 σ x1 x2) x1 x2 ∧ v_56 σ x1 x2 = v_86 (w_56 σ x1 x2) x1 x2 ∧ Inv (w_86 (w_56 σ x1 x2) x1 x2) ∧ (w_86 (w_56 σ x1 x2) x1 x2).1 0 = σ.1 0 := by
  have hI := h
  obtain ⟨P, hP⟩ := h
  obtain ⟨hV, hC, hR, hM, hO⟩ := hP
  have h13 := hV.n13
  unfold p_56 p_86 v_56 v_86 w_86 w_56
  simp only [v_26_i σ P hC h13, isWi_i, isIn_i, bi_0, decide_eq_false_iff_not]
  by_cases c1 : 0 ≤ x1 ∧ x1 ≤ Int32.ofNat P.n - 1
  · by_cases c2 : 0 ≤ x2 ∧ x2 ≤ 3
    · obtain ⟨p, hp, rfl⟩ := rng' h13 c1
      obtain ⟨s, hs, rfl⟩ := rng3 c2
      have h0 : 0 < P.n := by omega
      obtain ⟨a1, a2, a3, a4⟩ := lay_c P hV (σ.1 1 4) σ h0 hC
      have hn : (w_17 σ (σ.1 1 4)).1 50 1 = Int32.ofNat P.n := by rw [a4.1 50 (by decide)]; exact hR.1
      have hR1 : RP (am_put (w_17 σ (σ.1 1 4)) 50 0 0) P := (hR.fr a4 (by decide)).put _ _ _ (by decide) (by decide)
      have hD : (am_put (w_17 σ (σ.1 1 4)) 50 0 0).1 50 2 = σ.1 1 4 := by rw [am_rd, if_neg (by decide), a4.1 50 (by decide)]; exact hM.1.symm
      obtain ⟨b1, b2, b3⟩ := rlay_c P hV h0 _ hR1
      rw [hD] at b2
      simp only [c1, c2, hn, pi_lm1 h13, isIn_i, bi_0, decide_eq_false_iff_not, and_self, not_true_eq_false, not_false_eq_true, true_implies, if_false, a1, b1, true_and]
      refine ⟨?_, ?_, ?_, ask3 ⟨hV, hC, hR, hM, hO⟩ a4 b3 (by decide) (by decide)⟩
      · simp (disch := omega) only [if_true, if_false, pi_pos, pi_npos, pi_nn, pi_ng, pi_nle, pi_lt, false_or, or_false, not_false_eq_true, true_and, and_true, false_and, and_false, implies_true, not_true, not_true_eq_false, false_implies, true_implies, pi_a1, pi_a2, pi_a3, pi_ab, pi_4, pi_3, pi_6, v_70_i, v_68_i, v_69_i, mod2_i, bi_0, bi_n, vp_bi, enc_flip, flip_s]
      · simp (disch := omega) only [if_true, if_false, pi_pos, pi_npos, pi_nn, pi_ng, pi_nle, pi_lt, false_or, or_false, not_false_eq_true, true_and, and_true, false_and, and_false, implies_true, not_true, not_true_eq_false, false_implies, true_implies, pi_a1, pi_a2, pi_a3, pi_ab, pi_4, pi_3, pi_6, v_70_i, v_68_i, v_69_i, mod2_i, bi_0, bi_n, vp_bi, enc_flip, flip_s]
      · have d1 := a2 p hp
        have d2 := b2 p hp
        unfold ffin at d2
        simp (disch := omega) only [if_true, if_false, pi_pos, pi_npos, pi_nn, pi_ng, pi_nle, pi_lt, false_or, or_false, not_false_eq_true, true_and, and_true, false_and, and_false, implies_true, not_true, not_true_eq_false, false_implies, true_implies, pi_a1, pi_a2, pi_a3, pi_ab, pi_4, pi_3, pi_6, v_70_i, v_68_i, v_69_i, mod2_i, bi_0, bi_n, vp_bi, enc_flip, flip_s]
        match s, hs with
        | 0, _ => exact d1.2.2.1.trans d2.1.symm
        | 1, _ => exact d1.2.2.2.trans d2.2.1.symm
        | 2, _ => exact d1.1.trans d2.2.2.1.symm
        | 3, _ => exact d1.2.1.trans d2.2.2.2.symm
    · simp only [c1, c2, hR.1, pi_lm1 h13, isIn_i, bi_0, decide_eq_false_iff_not, and_self, not_true_eq_false, not_false_eq_true, true_implies, if_false, if_true, false_implies, true_and]
      exact inv500 hI 0
  · simp only [c1, hR.1, pi_lm1 h13, isIn_i, bi_0, decide_eq_false_iff_not, and_self, not_true_eq_false, not_false_eq_true, true_implies, if_false, if_true, false_implies, true_and]
    exact inv500 hI 0
def mx (g : Nat → Int32) : Nat → Int32
  | 0 => g 0
  | k + 1 => if mx g k < g (k + 1) then g (k + 1) else mx g k
theorem max_l (n : Nat) (h13 : n ≤ 13) (σ τ : am_M) (h12 : σ.1 12 0 = Int32.ofNat n) (h50 : τ.1 50 1 = Int32.ofNat n) {s : Nat} (hs : s < 2) (hr : ∀ p < n, σ.1 (14 + s) p = τ.1 55 (4 * p + 2 + s)) : ∀ (f k : Nat), n < k + f → 0 < k → k ≤ n →
    q_21_11 f σ (Int32.ofNat s) (mx (σ.1 (14 + s)) (k - 1)) (Int32.ofNat k) ∧ q_87_40 f τ (Int32.ofNat s) (mx (σ.1 (14 + s)) (k - 1)) (Int32.ofNat k) ∧ l_21_11 f σ (Int32.ofNat s) (mx (σ.1 (14 + s)) (k - 1)) (Int32.ofNat k) = mx (σ.1 (14 + s)) (n - 1) ∧ l_87_40 f τ (Int32.ofNat s) (mx (σ.1 (14 + s)) (k - 1)) (Int32.ofNat k) = (mx (σ.1 (14 + s)) (n - 1), τ) := by
  intro f
  induction f with
  | zero => intro k h1 h2 h3; omega
  | succ f ih =>
    intro k h1 h2 h3
    unfold q_21_11 q_87_40 l_87_40 l_21_11
    have hlt : (Int32.ofNat k < σ.1 12 0) = (k < n) := by rw [h12]; exact pi_lt (by omega) (by omega)
    have hlt' : (Int32.ofNat k < τ.1 50 1) = (k < n) := by rw [h50]; exact pi_lt (by omega) (by omega)
    by_cases hk : k < n
    · have e := hr k hk
      have e1 : (if mx (σ.1 (14 + s)) (k - 1) < σ.1 (14 + s) k then σ.1 (14 + s) k else mx (σ.1 (14 + s)) (k - 1)) = mx (σ.1 (14 + s)) (k + 1 - 1) := by
        obtain ⟨j, rfl⟩ : ∃ j, k = j + 1 := ⟨k - 1, by omega⟩
        rfl
      simp (disch := omega) only [hlt, hlt', hk, if_true, if_false, pi_pos, pi_npos, pi_nn, pi_ng, pi_nle, pi_lt, false_or, or_false, not_false_eq_true, true_and, and_true, false_and, and_false, implies_true, not_true, not_true_eq_false, false_implies, true_implies, pi_a1, pi_a2, pi_a3, pi_ab, pi_4, pi_3, pi_6, v_70_i, v_68_i, v_69_i, mod2_i, bi_0, bi_n, vp_bi, enc_flip, flip_s, v_120, ← e, e1]
      exact ih (k + 1) (by omega) (by omega) (by omega)
    · have : k = n := by omega
      subst this
      simp only [hlt, hlt', hk, if_false, false_implies, true_and, and_self]
theorem rng1 {x : Int32} (h : 0 ≤ x ∧ x ≤ 1) : ∃ s, s < 2 ∧ x = Int32.ofNat s := by
  refine rng (by decide) h.1 ?_
  have := h.2
  have e : Int32.ofNat 2 = 2 := rfl
  rw [e]; grind
theorem c_size (σ : am_M) (h : Inv σ) (x1 : Int32) : p_57 σ x1 ∧ p_87 (w_57 σ x1) x1 ∧ v_57 σ x1 = v_87 (w_57 σ x1) x1 ∧ Inv (w_87 (w_57 σ x1) x1) ∧ (w_87 (w_57 σ x1) x1).1 0 = σ.1 0 := by
  have hI := h
  obtain ⟨P, hP⟩ := h
  obtain ⟨hV, hC, hR, hM, hO⟩ := hP
  have h13 := hV.n13
  have hz := pi_z (show P.n < 200 by omega)
  unfold p_57 p_87 v_57 v_87 w_87 f_87 w_57
  by_cases hn : P.n = 0
  · have hc : σ.1 2 0 = 0 := by rw [hC.1, hn]; rfl
    have hr : σ.1 50 1 = 0 := by rw [hR.1, hn]; rfl
    simp only [hc, hr, if_true, not_true, false_implies, true_and, not_true_eq_false]
    exact inv500 hI 0
  · have hc : σ.1 2 0 ≠ 0 := by rw [hC.1]; simpa [hz] using hn
    have hr : σ.1 50 1 ≠ 0 := by rw [hR.1]; simpa [hz] using hn
    simp only [hc, if_false, not_false_eq_true, true_implies, isWi_i, isIn_i, bi_0, decide_eq_false_iff_not]
    by_cases c2 : 0 ≤ x1 ∧ x1 ≤ 1
    · have h0 : 0 < P.n := by omega
      obtain ⟨a1, a2, a3, a4⟩ := lay_c P hV (σ.1 1 4) σ h0 hC
      have hn' : (w_17 σ (σ.1 1 4)).1 50 1 ≠ 0 := by rw [a4.1 50 (by decide)]; exact hr
      have hR1 : RP (am_put (w_17 σ (σ.1 1 4)) 50 0 0) P := (hR.fr a4 (by decide)).put _ _ _ (by decide) (by decide)
      have hD : (am_put (w_17 σ (σ.1 1 4)) 50 0 0).1 50 2 = σ.1 1 4 := by rw [am_rd, if_neg (by decide), a4.1 50 (by decide)]; exact hM.1.symm
      obtain ⟨b1, b2, b3⟩ := rlay_c P hV h0 _ hR1
      rw [hD] at b2
      simp only [c2, hn', and_self, not_true_eq_false, not_false_eq_true, true_implies, if_false, a1, b1, true_and]
      have h50 : (w_82 (am_put (w_17 σ (σ.1 1 4)) 50 0 0)).1 50 1 = Int32.ofNat P.n := by rw [b3.1 50 (by decide)]; exact hR1.1
      obtain ⟨s, hs, rfl⟩ := rng1 c2
      have hrel : ∀ p < P.n, (w_17 σ (σ.1 1 4)).1 (14 + s) p = (w_82 (am_put (w_17 σ (σ.1 1 4)) 50 0 0)).1 55 (4 * p + 2 + s) := by
        intro p hp
        have d1 := a2 p hp
        have d2 := b2 p hp
        unfold ffin at d2
        match s, hs with
        | 0, _ => exact d1.1.trans d2.2.2.1.symm
        | 1, _ => exact d1.2.1.trans d2.2.2.2.symm
      have hs' : (if Int32.ofNat s = 0 then (0 : Int32) else 1) = Int32.ofNat s := by
        match s, hs with
        | 0, _ => rfl
        | 1, _ => rfl
      have h2s : (2 : Int32) + Int32.ofNat s = Int32.ofNat (2 + s) := (Int32.ofNat_add 2 s).symm
      have e0 := hrel 0 h0
      have hx : ∀ x : Int32, (x < x) = False := fun x => by simp
      obtain ⟨m1, -, m3, -⟩ := max_l P.n h13 (w_17 σ (σ.1 1 4)) (w_82 (am_put (w_17 σ (σ.1 1 4)) 50 0 0)) a3 h50 hs hrel 14 1 (by omega) (by omega) (by omega)
      obtain ⟨-, n2, -, n4⟩ := max_l P.n h13 (w_17 σ (σ.1 1 4)) (w_82 (am_put (w_17 σ (σ.1 1 4)) 50 0 0)) a3 h50 hs hrel 13 1 (by omega) (by omega) (by omega)
      generalize hσ1 : w_17 σ (σ.1 1 4) = σ1 at *
      generalize hτ1 : w_82 (am_put σ1 50 0 0) = τ1 at *
      have hp0 : ((0 : Int32) < τ1.1 50 1) = True := by
        rw [h50, pi_pos h0 (by omega)]
      have z0 : (4 : Int32) * 0 + 2 + Int32.ofNat s = Int32.ofNat (2 + s) := h2s
      have z1 : (0 : Int32) + 1 = Int32.ofNat 1 := by decide
      have k2 : q_87_40 14 τ1 (Int32.ofNat s) (σ1.1 (14 + s) 0) 0 ∧ l_87_40 14 τ1 (Int32.ofNat s) (σ1.1 (14 + s) 0) 0 = (mx (σ1.1 (14 + s)) (P.n - 1), τ1) := by
        rw [show (14 : Nat) = 13 + 1 from rfl]
        unfold q_87_40 l_87_40
        have e0' : τ1.1 55 (2 + s) = σ1.1 (14 + s) 0 := by rw [e0]
        simp (disch := omega) only [hp0, z0, z1, if_true, if_false, pi_pos, pi_npos, pi_nn, pi_ng, pi_nle, pi_lt, false_or, or_false, not_false_eq_true, true_and, and_true, false_and, and_false, implies_true, not_true, not_true_eq_false, false_implies, true_implies, pi_a1, pi_a2, pi_a3, pi_ab, pi_4, pi_3, pi_6, v_70_i, v_68_i, v_69_i, mod2_i, bi_0, bi_n, vp_bi, enc_flip, flip_s, e0', hx]
        exact ⟨n2, n4⟩
      rw [hs', h2s]
      have e0' : τ1.1 55 (2 + s) = σ1.1 (14 + s) 0 := by rw [e0]
      unfold p_21 v_21 f_21
      simp (disch := omega) only [if_true, if_false, pi_pos, pi_npos, pi_nn, pi_ng, pi_nle, pi_lt, false_or, or_false, not_false_eq_true, true_and, and_true, false_and, and_false, implies_true, not_true, not_true_eq_false, false_implies, true_implies, pi_a1, pi_a2, pi_a3, pi_ab, pi_4, pi_3, pi_6, v_70_i, v_68_i, v_69_i, mod2_i, bi_0, bi_n, vp_bi, enc_flip, flip_s, e0', k2]
      exact ⟨m1, m3, ask3 ⟨hV, hC, hR, hM, hO⟩ a4 b3 (by decide) (by decide)⟩
    · simp only [c2, hr, and_self, not_true_eq_false, not_false_eq_true, true_implies, if_false, if_true, false_implies, true_and]
      exact inv500 hI 0
