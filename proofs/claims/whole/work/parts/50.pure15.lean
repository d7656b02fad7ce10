theorem to_c (P : Pl) (hV : VP P) (D : Int32) {p : Nat} (hp : p < P.n) (σ : am_M) (hC : CP σ P) (hsh : σ.1 18 p = shx P (dxx P D) p ∧ σ.1 19 p = shx P (dyy P D) p) :
    p_19 σ (Int32.ofNat p) (D / 2) ∧ (∀ s < 4, (w_19 σ (Int32.ofNat p) (D / 2)).1 (14 + s) p = rG P D s p) ∧ (∀ l j, ¬ (14 ≤ l ∧ l ≤ 17 ∧ j = p) → (w_19 σ (Int32.ofNat p) (D / 2)).1 l j = σ.1 l j) ∧ Fr [14, 15, 16, 17] σ (w_19 σ (Int32.ofNat p) (D / 2)) := by
  have h13 := hV.n13
  unfold p_19 w_19 f_19
  exact to_l P hV D hp 14 0 σ (by omega) (by omega) hC hsh (by intro s hs; omega)
theorem sub_l (n : Nat) (h13 : n ≤ 13) {a b : Nat} (ha : a < 4) (hb : b < 4) (hab : a ≠ b) (m : Int32) (g h : Nat → Int32) : ∀ (f k : Nat) (σ : am_M), n < k + f → k ≤ n → σ.1 12 0 = Int32.ofNat n → (∀ p < k, σ.1 (14 + a) p = g p - m ∧ σ.1 (14 + b) p = h p - m) → (∀ p, k ≤ p → p < n → σ.1 (14 + a) p = g p ∧ σ.1 (14 + b) p = h p) →
    q_20_44 f σ (Int32.ofNat a) (Int32.ofNat b) m (Int32.ofNat k) ∧ (∀ p < n, (l_20_44 f σ (Int32.ofNat a) (Int32.ofNat b) m (Int32.ofNat k)).1 (14 + a) p = g p - m ∧ (l_20_44 f σ (Int32.ofNat a) (Int32.ofNat b) m (Int32.ofNat k)).1 (14 + b) p = h p - m) ∧ Fr [14 + a, 14 + b] σ (l_20_44 f σ (Int32.ofNat a) (Int32.ofNat b) m (Int32.ofNat k)) := by
  intro f
  induction f with
  | zero => intro k σ h1 h2; omega
  | succ f ih =>
    intro k σ h1 h2 h12 hA hB
    unfold q_20_44 l_20_44
    have hlt : (Int32.ofNat k < σ.1 12 0) = (k < n) := by rw [h12]; exact pi_lt (by omega) (by omega)
    by_cases hk : k < n
    · have hE := hB k (Nat.le_refl k) hk
      have e : (am_put σ (14 + b) k (h k - m)).1 (14 + a) k = g k := by
        rw [am_rd, if_neg (by omega)]; exact hE.1
      simp (disch := omega) only [hlt, hk, if_true, if_false, pi_pos, pi_npos, pi_nn, pi_ng, pi_nle, pi_lt, false_or, or_false, not_false_eq_true, true_and, and_true, false_and, and_false, implies_true, not_true, not_true_eq_false, false_implies, true_implies, pi_a1, pi_a2, pi_a3, pi_ab, pi_4, pi_3, pi_6, v_70_i, v_68_i, v_69_i, mod2_i, bi_0, bi_n, vp_bi, enc_flip, flip_s, hE, e]
      have fr : Fr [14 + a, 14 + b] σ (am_put (am_put σ (14 + b) k (h k - m)) (14 + a) k (g k - m)) := ((Fr.refl _ _).put _ _ _ (by simp)).put _ _ _ (by simp)
      obtain ⟨i1, i2, i3⟩ := ih (k + 1) (am_put (am_put σ (14 + b) k (h k - m)) (14 + a) k (g k - m)) (by omega) (by omega) (by rw [fr.1 12 (by simp; omega)]; exact h12) (by
        intro p hp
        by_cases hpk : p = k
        · subst hpk
          simp (disch := omega) only [am_rd, pi_neq, true_and, and_true, false_and, and_false, if_true, if_false, and_self]
        · have := hA p (by omega)
          simp (disch := omega) only [am_rd, pi_neq, true_and, and_true, false_and, and_false, if_true, if_false]
          exact this) (by
        intro p hp hp2
        have := hB p (by omega) hp2
        simp (disch := omega) only [am_rd, pi_neq, true_and, and_true, false_and, and_false, if_true, if_false]
        exact this)
      exact ⟨i1, i2, fr.trans i3⟩
    · simp only [hlt, hk, if_false, false_implies, true_and]
      exact ⟨fun p hp => hA p (by omega), Fr.refl _ _⟩
theorem min_l (n : Nat) (h13 : n ≤ 13) {a b : Nat} (ha : a < 4) (hb : b < 4) (hab : a ≠ b) (σ : am_M) (h12 : σ.1 12 0 = Int32.ofNat n) : ∀ (f k : Nat), n < k + f → 0 < k → k ≤ n →
    (q_20_44 14 σ (Int32.ofNat a) (Int32.ofNat b) (mn (σ.1 (14 + b)) (n - 1)) 0 → q_20_12 f σ (Int32.ofNat a) (Int32.ofNat b) (mn (σ.1 (14 + b)) (k - 1)) (Int32.ofNat k)) ∧ l_20_12 f σ (Int32.ofNat a) (Int32.ofNat b) (mn (σ.1 (14 + b)) (k - 1)) (Int32.ofNat k) = l_20_44 14 σ (Int32.ofNat a) (Int32.ofNat b) (mn (σ.1 (14 + b)) (n - 1)) 0 := by
  intro f
  induction f with
  | zero => intro k h1 h2 h3; omega
  | succ f ih =>
    intro k h1 h2 h3
    unfold q_20_12 l_20_12
    have hlt : (Int32.ofNat k < σ.1 12 0) = (k < n) := by rw [h12]; exact pi_lt (by omega) (by omega)
    by_cases hk : k < n
    · have e : v_121 σ (mn (σ.1 (14 + b)) (k - 1)) (σ.1 (14 + b) k) = mn (σ.1 (14 + b)) (k + 1 - 1) := by
        obtain ⟨j, rfl⟩ : ∃ j, k = j + 1 := ⟨k - 1, by omega⟩
        rfl
      simp (disch := omega) only [hlt, hk, if_true, if_false, pi_pos, pi_npos, pi_nn, pi_ng, pi_nle, pi_lt, false_or, or_false, not_false_eq_true, true_and, and_true, false_and, and_false, implies_true, not_true, not_true_eq_false, false_implies, true_implies, pi_a1, pi_a2, pi_a3, pi_ab, pi_4, pi_3, pi_6, v_70_i, v_68_i, v_69_i, mod2_i, bi_0, bi_n, vp_bi, enc_flip, flip_s, e]
      exact ih (k + 1) (by omega) (by omega) (by omega)
    · have : k = n := by omega
      subst this
      simp only [hlt, hk, if_false, false_implies, true_and, not_false_eq_true, true_implies, imp_self]
theorem bz_c (n : Nat) (h0 : 0 < n) (h13 : n ≤ 13) {a b : Nat} (ha : a < 4) (hb : b < 4) (hab : a ≠ b) (σ : am_M) (h12 : σ.1 12 0 = Int32.ofNat n) :
    p_20 σ (Int32.ofNat a) (Int32.ofNat b) ∧ (∀ p < n, (w_20 σ (Int32.ofNat a) (Int32.ofNat b)).1 (14 + a) p = σ.1 (14 + a) p - mn (σ.1 (14 + b)) (n - 1) ∧ (w_20 σ (Int32.ofNat a) (Int32.ofNat b)).1 (14 + b) p = σ.1 (14 + b) p - mn (σ.1 (14 + b)) (n - 1)) ∧ Fr [14 + a, 14 + b] σ (w_20 σ (Int32.ofNat a) (Int32.ofNat b)) := by
  obtain ⟨s1, s2, s3⟩ := sub_l n h13 ha hb hab (mn (σ.1 (14 + b)) (n - 1)) (σ.1 (14 + a)) (σ.1 (14 + b)) 14 0 σ (by omega) (by omega) h12 (by intro p hp; omega) (by intro p _ _; exact ⟨rfl, rfl⟩)
  obtain ⟨m1, m2⟩ := min_l n h13 ha hb hab σ h12 14 1 (by omega) (by omega) (by omega)
  have m1' := m1 s1
  have e : σ.1 (14 + (Int32.ofNat b).toNatClampNeg) 0 = mn (σ.1 (14 + b)) (1 - 1) := by rw [pi_nn (by omega)]; rfl
  unfold p_20 w_20 f_20
  rw [e]
  have e1 : (1 : Int32) = Int32.ofNat 1 := rfl
  rw [e1, m2]
  exact ⟨⟨pi_in (by omega) (by omega), m1'⟩, s2, s3⟩
def mW (P : Pl) (D : Int32) : Int32 := mn (rW P D) (P.n - 1)
def mS (P : Pl) (D : Int32) : Int32 := mn (rS P D) (P.n - 1)
theorem mn_congr (g h : Nat → Int32) : ∀ k, (∀ p ≤ k, g p = h p) → mn g k = mn h k := by
  intro k
  induction k with
  | zero => intro hk; exact hk 0 (by omega)
  | succ k ih => intro hk; rw [mn, mn, ih (fun p hp => hk p (by omega)), hk (k + 1) (by omega)]
theorem lay_l (P : Pl) (hV : VP P) (D : Int32) : ∀ (f k : Nat) (σ : am_M), P.n < k + f → 0 < P.n → k ≤ P.n → CP σ P → σ.1 12 0 = Int32.ofNat P.n → (∀ p < P.n, σ.1 18 p = shx P (dxx P D) p ∧ σ.1 19 p = shx P (dyy P D) p) → (∀ p < k, ∀ s < 4, σ.1 (14 + s) p = rG P D s p) →
    q_17_16 f σ D (Int32.ofNat k) ∧ (∀ p < P.n, (l_17_16 f σ D (Int32.ofNat k)).1 14 p = rE P D p - mW P D ∧ (l_17_16 f σ D (Int32.ofNat k)).1 15 p = rN P D p - mS P D ∧ (l_17_16 f σ D (Int32.ofNat k)).1 16 p = rW P D p - mW P D ∧ (l_17_16 f σ D (Int32.ofNat k)).1 17 p = rS P D p - mS P D) ∧ Fr [14, 15, 16, 17] σ (l_17_16 f σ D (Int32.ofNat k)) := by
  intro f
  induction f with
  | zero => intro k σ h1 h2 h3; omega
  | succ f ih =>
    intro k σ h1 h2 h3 hC h12 hsh hA
    have h13 := hV.n13
    unfold q_17_16 l_17_16
    have hlt : (Int32.ofNat k < σ.1 12 0) = (k < P.n) := by rw [h12]; exact pi_lt (by omega) (by omega)
    by_cases hk : k < P.n
    · obtain ⟨t1, t2, t3, t4⟩ := to_c P hV D hk σ hC (hsh k hk)
      simp only [hlt, hk, if_true, true_implies, not_true_eq_false, false_implies, and_true, t1, true_and, pi_a1]
      obtain ⟨i1, i2, i3⟩ := ih (k + 1) (w_19 σ (Int32.ofNat k) (D / 2)) (by omega) (by omega) (by omega) (hC.fr t4 (by decide)) (by rw [t4.1 12 (by decide)]; exact h12) (by rw [t4.1 18 (by decide), t4.1 19 (by decide)]; exact hsh) (by
        intro p hp s hs
        by_cases hpk : p = k
        · subst hpk; exact t2 s hs
        · rw [t3 _ _ (by omega)]; exact hA p (by omega) s hs)
      exact ⟨i1, i2, t4.trans i3⟩
    · simp only [hlt, hk, if_false, false_implies, true_and, not_false_eq_true, true_implies]
      have hkn : k = P.n := by omega
      subst hkn
      obtain ⟨a1, a2, a3⟩ := bz_c P.n h2 h13 (show 0 < 4 by decide) (show 2 < 4 by decide) (by decide) σ h12
      have hl0 : Int32.ofNat 0 = 0 := rfl
      have hl2 : Int32.ofNat 2 = 2 := rfl
      have hl1 : Int32.ofNat 1 = 1 := rfl
      have hl3 : Int32.ofNat 3 = 3 := rfl
      rw [hl0, hl2] at a1 a2 a3
      obtain ⟨b1, b2, b3⟩ := bz_c P.n h2 h13 (show 1 < 4 by decide) (show 3 < 4 by decide) (by decide) (w_20 σ 0 2) (by rw [a3.1 12 (by decide)]; exact h12)
      rw [hl1, hl3] at b1 b2 b3
      have hm1 : mn (σ.1 16) (P.n - 1) = mW P D := mn_congr _ _ _ (fun p hp => hA p (by omega) 2 (by decide))
      have hm2 : mn (σ.1 17) (P.n - 1) = mS P D := mn_congr _ _ _ (fun p hp => hA p (by omega) 3 (by decide))
      refine ⟨⟨a1, b1⟩, ?_, (a3.mono (by decide)).trans (b3.mono (by decide))⟩
      intro p hp
      have c1 := a2 p hp
      have c2 := b2 p hp
      have d0 := hA p hp 0 (by decide)
      have d1 := hA p hp 1 (by decide)
      have d2 := hA p hp 2 (by decide)
      have d3 := hA p hp 3 (by decide)
      simp only [Nat.reduceAdd] at c1 c2 d0 d1 d2 d3 a3 b3
      rw [b3.1 14 (by decide), b3.1 16 (by decide), c1.1, c1.2, c2.1, c2.2, a3.1 15 (by decide), a3.1 17 (by decide), hm1, hm2, d0, d1, d2, d3]
      exact ⟨rfl, rfl, rfl, rfl⟩
theorem lay_c (P : Pl) (hV : VP P) (D : Int32) (σ : am_M) (h0 : 0 < P.n) (hC : CP σ P) :
    p_17 σ D ∧ (∀ p < P.n, (w_17 σ D).1 14 p = rE P D p - mW P D ∧ (w_17 σ D).1 15 p = rN P D p - mS P D ∧ (w_17 σ D).1 16 p = rW P D p - mW P D ∧ (w_17 σ D).1 17 p = rS P D p - mS P D) ∧ (w_17 σ D).1 12 0 = Int32.ofNat P.n ∧ Fr [12, 14, 15, 16, 17, 18, 19] σ (w_17 σ D) := by
  have h13 := hV.n13
  have fr : Fr [12, 14, 15, 16, 17, 18, 19] σ (am_put σ 12 0 (σ.1 2 0)) := (Fr.refl _ _).put _ _ _ (by decide)
  have hC1 := hC.fr fr (by decide)
  have h12 : (am_put σ 12 0 (σ.1 2 0)).1 12 0 = Int32.ofNat P.n := by rw [am_rd, if_pos ⟨rfl, rfl⟩]; exact hC.1
  obtain ⟨a1, a2, a3⟩ := mt_c P hV D _ h0 hC1 h12
  have h12' : (w_18 (am_put σ 12 0 (σ.1 2 0)) D).1 12 0 = Int32.ofNat P.n := by rw [a3.1 12 (by decide)]; exact h12
  obtain ⟨b1, b2, b3⟩ := lay_l P hV D 14 0 (w_18 (am_put σ 12 0 (σ.1 2 0)) D) (by omega) h0 (by omega) (hC1.fr a3 (by decide)) h12' a2 (by intro p hp; omega)
  unfold p_17 w_17 f_17
  refine ⟨⟨a1, b1⟩, b2, ?_, (fr.trans (a3.mono (by decide))).trans (b3.mono (by decide))⟩
  have e : (0 : Int32) = Int32.ofNat 0 := rfl
  rw [e, b3.1 12 (by decide)]; exact h12'
