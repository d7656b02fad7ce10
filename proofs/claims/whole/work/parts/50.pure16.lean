theorem add3 (a b c : Int32) : a + b + c = a + (c + b) := by grind
theorem dxx_i (P : Pl) (D : Int32) {k : Nat} (hs : P.sd k < 4) : (if Int32.ofNat (P.sd k) = 0 then -D else if Int32.ofNat (P.sd k) = 2 then D else 0) = dxx P D k := by
  unfold dxx
  generalize P.sd k = s at hs
  match s, hs with
  | 0, _ => simp
  | 1, _ => simp
  | 2, _ => simp
  | 3, _ => simp
theorem dyy_i (P : Pl) (D : Int32) {k : Nat} (hs : P.sd k < 4) : (if Int32.ofNat (P.sd k) = 1 then -D else if Int32.ofNat (P.sd k) = 3 then D else 0) = dyy P D k := by
  unfold dyy
  generalize P.sd k = s at hs
  match s, hs with
  | 0, _ => simp
  | 1, _ => simp
  | 2, _ => simp
  | 3, _ => simp
theorem chain_l (P : Pl) (hV : VP P) (D : Int32) {p : Nat} (hp : p < P.n) (k9 : am_M → Int32 → Int32 → am_M) (c9 : am_M → Int32 → Int32 → Prop) (x1 : Int32) : ∀ (f k : Nat) (σ : am_M), k < f → k < P.n → RP σ P → σ.1 50 2 = D →
    ∃ τ, l_82_155 k9 f σ x1 (Int32.ofNat p) (Int32.ofNat k) = k9 τ x1 (Int32.ofNat (p + 1)) ∧ (c9 τ x1 (Int32.ofNat (p + 1)) → q_82_155 c9 f σ x1 (Int32.ofNat p) (Int32.ofNat k)) ∧ Fr [55] σ τ ∧ (∀ j, j ≠ 4 * p → j ≠ 4 * p + 1 → j ≠ 4 * p + 2 → j ≠ 4 * p + 3 → τ.1 55 j = σ.1 55 j) ∧ τ.1 55 (4 * p) = σ.1 55 (4 * p) + shx P (dxx P D) k ∧ τ.1 55 (4 * p + 2) = σ.1 55 (4 * p + 2) + shx P (dxx P D) k ∧ τ.1 55 (4 * p + 1) = σ.1 55 (4 * p + 1) + shx P (dyy P D) k ∧ τ.1 55 (4 * p + 3) = σ.1 55 (4 * p + 3) + shx P (dyy P D) k := by
  intro f
  induction f with
  | zero => intro k σ h1; omega
  | succ f ih =>
    intro k σ h1 h2 hR hD
    have h13 := hV.n13
    unfold q_82_155 l_82_155
    by_cases h0 : 0 < k
    · have hE := (hR.2 k h2).1 h0
      obtain ⟨ht, hs⟩ := hV.tr k h2 h0
      simp (disch := omega) only [if_true, if_false, pi_pos, pi_npos, pi_nn, pi_ng, pi_nle, pi_lt, false_or, or_false, not_false_eq_true, true_and, and_true, false_and, and_false, implies_true, not_true, not_true_eq_false, false_implies, true_implies, pi_a1, pi_a2, pi_a3, pi_ab, pi_4, pi_3, pi_6, v_70_i, v_68_i, v_69_i, mod2_i, bi_0, bi_n, vp_bi, enc_flip, flip_s, hE, hD, dxx_i, dyy_i]
      simp (disch := omega) only [am_rd, pi_neq, true_and, and_true, false_and, and_false, if_true, if_false]
      have fr : Fr [55] σ (am_put (am_put (am_put (am_put σ 55 (4 * p) (σ.1 55 (4 * p) + dxx P D k)) 55 (4 * p + 2) (σ.1 55 (4 * p + 2) + dxx P D k)) 55 (4 * p + 1) (σ.1 55 (4 * p + 1) + dyy P D k)) 55 (4 * p + 3) (σ.1 55 (4 * p + 3) + dyy P D k)) := ((((Fr.refl _ _).put _ _ _ (by decide)).put _ _ _ (by decide)).put _ _ _ (by decide)).put _ _ _ (by decide)
      obtain ⟨τ, i1, i2, i3, i4, i5, i6, i7, i8⟩ := ih (P.par k) _ (by omega) (by omega) (hR.fr fr (by decide)) (by rw [fr.1 50 (by decide)]; exact hD)
      refine ⟨τ, i1, i2, fr.trans i3, ?_, ?_, ?_, ?_, ?_⟩
      · intro j j0 j1 j2 j3
        rw [i4 j j0 j1 j2 j3]
        simp (disch := omega) only [am_rd, pi_neq, true_and, and_true, false_and, and_false, if_true, if_false]
      · rw [i5, shx_s P hV _ h2 h0]
        simp (disch := omega) only [am_rd, pi_neq, true_and, and_true, false_and, and_false, if_true, if_false]
        exact add3 _ _ _
      · rw [i6, shx_s P hV _ h2 h0]
        simp (disch := omega) only [am_rd, pi_neq, true_and, and_true, false_and, and_false, if_true, if_false]
        exact add3 _ _ _
      · rw [i7, shx_s P hV _ h2 h0]
        simp (disch := omega) only [am_rd, pi_neq, true_and, and_true, false_and, and_false, if_true, if_false]
        exact add3 _ _ _
      · rw [i8, shx_s P hV _ h2 h0]
        simp (disch := omega) only [am_rd, pi_neq, true_and, and_true, false_and, and_false, if_true, if_false]
        exact add3 _ _ _
    · have : k = 0 := by omega
      subst this
      simp (disch := omega) only [if_true, if_false, pi_pos, pi_npos, pi_nn, pi_ng, pi_nle, pi_lt, false_or, or_false, not_false_eq_true, true_and, and_true, false_and, and_false, implies_true, not_true, not_true_eq_false, false_implies, true_implies, pi_a1, pi_a2, pi_a3, pi_ab, pi_4, pi_3, pi_6, v_70_i, v_68_i, v_69_i, mod2_i, bi_0, bi_n, vp_bi, enc_flip, flip_s]
      exact ⟨σ, rfl, id, Fr.refl _ _, fun _ _ _ _ _ => rfl, by rw [shx_0]; simp, by rw [shx_0]; simp, by rw [shx_0]; simp, by rw [shx_0]; simp⟩
def fset (P : Pl) (D : Int32) (σ : am_M) (p : Nat) : Prop := σ.1 55 (4 * p) = rW P D p ∧ σ.1 55 (4 * p + 1) = rS P D p ∧ σ.1 55 (4 * p + 2) = rE P D p ∧ σ.1 55 (4 * p + 3) = rN P D p
def ffin (P : Pl) (D : Int32) (σ : am_M) (p : Nat) : Prop := σ.1 55 (4 * p) = rW P D p - mW P D ∧ σ.1 55 (4 * p + 1) = rS P D p - mS P D ∧ σ.1 55 (4 * p + 2) = rE P D p - mW P D ∧ σ.1 55 (4 * p + 3) = rN P D p - mS P D
theorem rsub_l (P : Pl) (hV : VP P) (D x1 : Int32) : ∀ (f k : Nat) (σ : am_M), P.n < k + f → k ≤ P.n → σ.1 50 1 = Int32.ofNat P.n → (∀ p < k, ffin P D σ p) → (∀ p, k ≤ p → p < P.n → fset P D σ p) →
    q_82_401 f σ x1 (mW P D) (mS P D) (Int32.ofNat k) ∧ (∀ p < P.n, ffin P D (l_82_401 f σ x1 (mW P D) (mS P D) (Int32.ofNat k)) p) ∧ Fr [55] σ (l_82_401 f σ x1 (mW P D) (mS P D) (Int32.ofNat k)) := by
  intro f
  induction f with
  | zero => intro k σ h1 h2; omega
  | succ f ih =>
    intro k σ h1 h2 hn hA hB
    have h13 := hV.n13
    unfold q_82_401 l_82_401
    have hlt : (Int32.ofNat k < σ.1 50 1) = (k < P.n) := by rw [hn]; exact pi_lt (by omega) (by omega)
    by_cases hk : k < P.n
    · have hE := hB k (Nat.le_refl k) hk
      unfold fset at hE
      simp (disch := omega) only [hlt, hk, if_true, if_false, pi_pos, pi_npos, pi_nn, pi_ng, pi_nle, pi_lt, false_or, or_false, not_false_eq_true, true_and, and_true, false_and, and_false, implies_true, not_true, not_true_eq_false, false_implies, true_implies, pi_a1, pi_a2, pi_a3, pi_ab, pi_4, pi_3, pi_6, v_70_i, v_68_i, v_69_i, mod2_i, bi_0, bi_n, vp_bi, enc_flip, flip_s]
      simp (disch := omega) only [am_rd, pi_neq, true_and, and_true, false_and, and_false, if_true, if_false, hE]
      have fr : Fr [55] σ (am_put (am_put (am_put (am_put σ 55 (4 * k) (rW P D k - mW P D)) 55 (4 * k + 2) (rE P D k - mW P D)) 55 (4 * k + 1) (rS P D k - mS P D)) 55 (4 * k + 3) (rN P D k - mS P D)) := ((((Fr.refl _ _).put _ _ _ (by decide)).put _ _ _ (by decide)).put _ _ _ (by decide)).put _ _ _ (by decide)
      obtain ⟨i1, i2, i3⟩ := ih (k + 1) _ (by omega) (by omega) (by rw [fr.1 50 (by decide)]; exact hn) (by
        intro p hp
        by_cases hpk : p = k
        · subst hpk
          unfold ffin
          simp (disch := omega) only [am_rd, pi_neq, true_and, and_true, false_and, and_false, if_true, if_false, and_self]
        · have := hA p (by omega)
          unfold ffin at *
          simp (disch := omega) only [am_rd, pi_neq, true_and, and_true, false_and, and_false, if_true, if_false]
          exact this) (by
        intro p hp hp2
        have := hB p (by omega) hp2
        unfold fset at *
        simp (disch := omega) only [am_rd, pi_neq, true_and, and_true, false_and, and_false, if_true, if_false]
        exact this)
      exact ⟨i1, i2, fr.trans i3⟩
    · simp only [hlt, hk, if_false, false_implies, true_and]
      exact ⟨fun p hp => hA p (by omega), Fr.refl _ _⟩
theorem rmin_l (P : Pl) (hV : VP P) (h0 : 0 < P.n) (D x1 : Int32) (σ : am_M) (hn : σ.1 50 1 = Int32.ofNat P.n) (hB : ∀ p < P.n, fset P D σ p) : ∀ (f k : Nat), P.n < k + f → 0 < k → k ≤ P.n →
    (q_82_401 14 σ x1 (mW P D) (mS P D) 0 → q_82_325 f σ x1 (mn (rW P D) (k - 1)) (mn (rS P D) (k - 1)) (Int32.ofNat k)) ∧ l_82_325 f σ x1 (mn (rW P D) (k - 1)) (mn (rS P D) (k - 1)) (Int32.ofNat k) = l_82_401 14 σ x1 (mW P D) (mS P D) 0 := by
  intro f
  induction f with
  | zero => intro k h1 h2 h3; omega
  | succ f ih =>
    intro k h1 h2 h3
    have h13 := hV.n13
    unfold q_82_325 l_82_325
    have hlt : (Int32.ofNat k < σ.1 50 1) = (k < P.n) := by rw [hn]; exact pi_lt (by omega) (by omega)
    by_cases hk : k < P.n
    · have hE := hB k hk
      unfold fset at hE
      have e1 : (if rW P D k < mn (rW P D) (k - 1) then rW P D k else mn (rW P D) (k - 1)) = mn (rW P D) (k + 1 - 1) := by
        obtain ⟨j, rfl⟩ : ∃ j, k = j + 1 := ⟨k - 1, by omega⟩
        rfl
      have e2 : (if rS P D k < mn (rS P D) (k - 1) then rS P D k else mn (rS P D) (k - 1)) = mn (rS P D) (k + 1 - 1) := by
        obtain ⟨j, rfl⟩ : ∃ j, k = j + 1 := ⟨k - 1, by omega⟩
        rfl
      simp (disch := omega) only [hlt, hk, if_true, if_false, pi_pos, pi_npos, pi_nn, pi_ng, pi_nle, pi_lt, false_or, or_false, not_false_eq_true, true_and, and_true, false_and, and_false, implies_true, not_true, not_true_eq_false, false_implies, true_implies, pi_a1, pi_a2, pi_a3, pi_ab, pi_4, pi_3, pi_6, v_70_i, v_68_i, v_69_i, mod2_i, bi_0, bi_n, vp_bi, enc_flip, flip_s, hE, e1, e2]
      obtain ⟨i1, i2⟩ := ih (k + 1) (by omega) (by omega) (by omega)
      refine ⟨fun h => ?_, i2⟩
      have := i1 h
      simpa using this
    · have : k = P.n := by omega
      subst this
      simp only [hlt, hk, if_false, false_implies, true_and, not_false_eq_true, true_implies, mW, mS]
      exact ⟨id, trivial⟩
