theorem mt_l (P : Pl) (hV : VP P) (D : Int32) : ∀ (f k : Nat) (σ : am_M), P.n < k + f → 0 < k → k ≤ P.n → CP σ P → σ.1 12 0 = Int32.ofNat P.n → (∀ p < k, p < P.n → σ.1 18 p = shx P (dxx P D) p ∧ σ.1 19 p = shx P (dyy P D) p) →
    q_18_16 f σ D (Int32.ofNat k) ∧ (∀ p < P.n, (l_18_16 f σ D (Int32.ofNat k)).1 18 p = shx P (dxx P D) p ∧ (l_18_16 f σ D (Int32.ofNat k)).1 19 p = shx P (dyy P D) p) ∧ Fr [18, 19] σ (l_18_16 f σ D (Int32.ofNat k)) := by
  intro f
  induction f with
  | zero => intro k σ h1 h2 h3; omega
  | succ f ih =>
    intro k σ h1 h2 h3 hC h12 hA
    have h13 := hV.n13
    unfold q_18_16 l_18_16
    have hlt : (Int32.ofNat k < σ.1 12 0) = (k < P.n) := by rw [h12]; exact pi_lt (by omega) (by omega)
    by_cases hk : k < P.n
    · have hE := (hC.2 k hk).1 h2
      obtain ⟨ht, hs⟩ := hV.tr k hk h2
      have hq := hA (P.par k) ht (by omega)
      simp (disch := omega) only [hlt, hk, if_true, if_false, pi_pos, pi_npos, pi_nn, pi_ng, pi_nle, pi_lt, false_or, or_false, not_false_eq_true, true_and, and_true, false_and, and_false, implies_true, not_true, not_true_eq_false, false_implies, true_implies, pi_a1, pi_a2, pi_a3, pi_ab, pi_4, pi_3, pi_6, v_70_i, v_68_i, v_69_i, mod2_i, bi_0, bi_n, vp_bi, enc_flip, flip_s, hE, hq]
      have e1 : shx P (dxx P D) (P.par k) + (if (P.sd k == 0 || P.sd k == 2) = false then (0 : Int32) else (if (P.sd k == 0 || P.sd k == 1) = false then D else -D)) = shx P (dxx P D) k := by
        rw [shx_s P hV _ hk h2]
        congr 1
        unfold dxx
        generalize P.sd k = s at hs
        match s, hs with
        | 0, _ => simp
        | 1, _ => simp
        | 2, _ => simp
        | 3, _ => simp
      have e2 : shx P (dyy P D) (P.par k) + (if (P.sd k == 0 || P.sd k == 2) = false then (if (P.sd k == 0 || P.sd k == 1) = false then D else -D) else (0 : Int32)) = shx P (dyy P D) k := by
        rw [shx_s P hV _ hk h2]
        congr 1
        unfold dyy
        generalize P.sd k = s at hs
        match s, hs with
        | 0, _ => simp
        | 1, _ => simp
        | 2, _ => simp
        | 3, _ => simp
      rw [e1, e2]
      have fr : Fr [18, 19] σ (am_put (am_put σ 18 k (shx P (dxx P D) k)) 19 k (shx P (dyy P D) k)) := ((Fr.refl _ _).put _ _ _ (by decide)).put _ _ _ (by decide)
      obtain ⟨i1, i2, i3⟩ := ih (k + 1) (am_put (am_put σ 18 k (shx P (dxx P D) k)) 19 k (shx P (dyy P D) k)) (by omega) (by omega) (by omega) (hC.fr fr (by decide)) (by rw [fr.1 12 (by decide)]; exact h12) (by
        intro p hp hpn
        by_cases hpk : p = k
        · subst hpk; simp [am_rd]
        · have := hA p (by omega) hpn
          simpa [am_rd, hpk] using this)
      exact ⟨i1, i2, fr.trans i3⟩
    · simp only [hlt, hk, if_false, false_implies, true_and]
      exact ⟨fun p hp => hA p (by omega) hp, Fr.refl _ _⟩
theorem mt_c (P : Pl) (hV : VP P) (D : Int32) (σ : am_M) (h0 : 0 < P.n) (hC : CP σ P) (h12 : σ.1 12 0 = Int32.ofNat P.n) :
    p_18 σ D ∧ (∀ p < P.n, (w_18 σ D).1 18 p = shx P (dxx P D) p ∧ (w_18 σ D).1 19 p = shx P (dyy P D) p) ∧ Fr [18, 19] σ (w_18 σ D) := by
  have fr : Fr [18, 19] σ (am_put (am_put σ 18 0 0) 19 0 0) := ((Fr.refl _ _).put _ _ _ (by decide)).put _ _ _ (by decide)
  have h13 := hV.n13
  obtain ⟨i1, i2, i3⟩ := mt_l P hV D 14 1 (am_put (am_put σ 18 0 0) 19 0 0) (by omega) (by omega) (by omega) (hC.fr fr (by decide)) (by rw [fr.1 12 (by decide)]; exact h12) (by
    intro p hp hpn
    have : p = 0 := by omega
    subst this
    simp [am_rd, shx_0])
  unfold p_18 w_18 f_18
  exact ⟨i1, i2, fr.trans i3⟩
/-- takeOff: one panel -/
def rG (P : Pl) (D : Int32) (s p : Nat) : Int32 := if s = 0 then rE P D p else if s = 1 then rN P D p else if s = 2 then rW P D p else rS P D p
theorem v_33_i (σ : am_M) (P : Pl) (hC : CP σ P) (hn : P.n ≤ 13) {p s : Nat} (hp : p < P.n) (hs : s < 4) : v_33 σ (Int32.ofNat p) (Int32.ofNat s) = bi (!P.bt p s) ∧ p_33 σ (Int32.ofNat p) (Int32.ofNat s) := by
  have hE := hC.2 p hp
  unfold CE at hE
  unfold v_33 p_33
  refine ⟨?_, pi_in (by omega) (by omega)⟩
  rw [pi_nn (by omega), hE.2.1, enc_bit _ s hs]
  cases P.bt p s <;> simp [bi]
theorem to_l (P : Pl) (hV : VP P) (D : Int32) {p : Nat} (hp : p < P.n) : ∀ (f k : Nat) (σ : am_M), 4 < k + f → k ≤ 4 → CP σ P → (σ.1 18 p = shx P (dxx P D) p ∧ σ.1 19 p = shx P (dyy P D) p) → (∀ s < k, σ.1 (14 + s) p = rG P D s p) →
    q_19_3 f σ (Int32.ofNat p) (D / 2) (Int32.ofNat k) ∧ (∀ s < 4, (l_19_3 f σ (Int32.ofNat p) (D / 2) (Int32.ofNat k)).1 (14 + s) p = rG P D s p) ∧ (∀ l j, ¬ (14 ≤ l ∧ l ≤ 17 ∧ j = p) → (l_19_3 f σ (Int32.ofNat p) (D / 2) (Int32.ofNat k)).1 l j = σ.1 l j) ∧ Fr [14, 15, 16, 17] σ (l_19_3 f σ (Int32.ofNat p) (D / 2) (Int32.ofNat k)) := by
  intro f
  induction f with
  | zero => intro k σ h1 h2; omega
  | succ f ih =>
    intro k σ h1 h2 hC hsh hA
    have h13 := hV.n13
    unfold q_19_3 l_19_3
    have hlt : (Int32.ofNat k < 4) = (k < 4) := by
      have : Int32.ofNat 4 = 4 := rfl
      rw [← this]; exact pi_lt (by omega) (by omega)
    by_cases hk : k < 4
    · have h33 := v_33_i σ P hC h13 hp hk
      have hE := hC.2 p hp
      unfold CE at hE
      simp (disch := omega) only [hlt, hk, if_true, if_false, pi_pos, pi_npos, pi_nn, pi_ng, pi_nle, pi_lt, false_or, or_false, not_false_eq_true, true_and, and_true, false_and, and_false, implies_true, not_true, not_true_eq_false, false_implies, true_implies, pi_a1, pi_a2, pi_a3, pi_ab, pi_4, pi_3, pi_6, v_70_i, v_68_i, v_69_i, mod2_i, bi_0, bi_n, vp_bi, enc_flip, flip_s, h33.1, h33.2, hsh]
      have e : (σ.1 (8 + k) p + (if (!P.bt p k) = false then (if (k == 0 || k == 1) = false then D / 2 else -(D / 2)) else 0) + (if (k == 0 || k == 2) = false then shx P (dyy P D) p else shx P (dxx P D) p)) = rG P D k p := by
        unfold rG rE rN rW rS
        match k, hk with
        | 0, _ => simp [hE]
        | 1, _ => simp [hE]
        | 2, _ => simp [hE]
        | 3, _ => simp [hE]
      rw [e]
      have hmem : 14 + k ∈ [14, 15, 16, 17] := by
        match k, hk with
        | 0, _ => decide
        | 1, _ => decide
        | 2, _ => decide
        | 3, _ => decide
      have fr : Fr [14, 15, 16, 17] σ (am_put σ (14 + k) p (rG P D k p)) := (Fr.refl _ _).put _ _ _ hmem
      obtain ⟨i1, i2, i3, i4⟩ := ih (k + 1) (am_put σ (14 + k) p (rG P D k p)) (by omega) (by omega) (hC.fr fr (by decide)) (by rw [fr.1 18 (by decide), fr.1 19 (by decide)]; exact hsh) (by
        intro s hs
        rw [am_rd]
        by_cases hsk : s = k
        · subst hsk; simp
        · rw [if_neg (by omega)]; exact hA s (by omega))
      refine ⟨i1, i2, ?_, fr.trans i4⟩
      intro l j hlj
      rw [i3 l j hlj, am_rd, if_neg (by omega)]
    · simp only [hlt, hk, if_false, false_implies, true_and]
      exact ⟨fun s hs => hA s (by omega), fun _ _ _ => trivial, Fr.refl _ _⟩
