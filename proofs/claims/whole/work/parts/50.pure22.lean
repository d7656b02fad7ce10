theorem cas3 {Q : Nat → Prop} (h0 : Q 0) (h1 : Q 1) (h2 : Q 2) : ∀ i < 3, Q i := fun i hi => match i, hi with
  | 0, _ => h0
  | 1, _ => h1
  | 2, _ => h2
theorem lt03 : ((0 : Int32) < 3) = True := by decide
theorem lt13 : ((1 : Int32) < 3) = True := by decide
theorem lt23 : ((2 : Int32) < 3) = True := by decide
theorem lt33 : ((3 : Int32) < 3) = False := by decide
theorem ad01 : (0 : Int32) + 1 = 1 := by decide
theorem ad11 : (1 : Int32) + 1 = 2 := by decide
theorem ad21 : (2 : Int32) + 1 = 3 := by decide
theorem v6_0 (σ : am_M) (c : Int32) : v_6 σ c 0 = shr c 0 := rfl
theorem v6_1 (σ : am_M) (c : Int32) : v_6 σ c 1 = shr c 1 := rfl
theorem v6_2 (σ : am_M) (c : Int32) : v_6 σ c 2 = shr c 2 := rfl
theorem lt3_i {i : Nat} (h : i < 3) : (Int32.ofNat i < 3) = True := by
  have : ∀ i < 3, (Int32.ofNat i < 3) = True := by decide
  exact this i h
def cm (σ : am_M) (p q i : Nat) (x y ix iy : Int32) : Int32 := (((σ.1 (25 + i) q + (x - σ.1 10 q) * shr (σ.1 21 q) i) + (y - σ.1 11 q) * shr (σ.1 22 q) i) - ix * shr (σ.1 21 p) i) - iy * shr (σ.1 22 p) i
theorem l3_i {p q : Nat} (hp : p < 13) (hq : q < 13) (hqp : q ≠ p) (x y ix iy : Int32) : ∀ (f i : Nat) (σ : am_M), 3 < i + f → i ≤ 3 →
    q_3_50 f σ (Int32.ofNat p) (Int32.ofNat q) x y ix iy (Int32.ofNat i) ∧ ∃ σ', l_3_50 f σ (Int32.ofNat p) (Int32.ofNat q) x y ix iy (Int32.ofNat i) = σ' ∧ Fr [25, 26, 27] σ σ' ∧ (∀ a < 3, ∀ j, (j ≠ p ∨ a < i) → σ'.1 (25 + a) j = σ.1 (25 + a) j) ∧ ∀ a < 3, i ≤ a → σ'.1 (25 + a) p = cm σ p q a x y ix iy := by
  intro f
  induction f with
  | zero => intro i σ h1 h2; omega
  | succ f ih =>
    intro i σ h1 h2
    unfold q_3_50 l_3_50
    by_cases hi : i < 3
    · have hi25 : 25 + i ∈ [25, 26, 27] := by
        have : ∀ i < 3, 25 + i ∈ [25, 26, 27] := by decide
        exact this i hi
      have e : (((σ.1 (25 + i) q + (x - σ.1 10 q) * shr (σ.1 21 q) i) + (y - σ.1 11 q) * shr (σ.1 22 q) i) - ix * shr (σ.1 21 p) i) - iy * shr (σ.1 22 p) i = cm σ p q i x y ix iy := rfl
      unfold p_5 v_5
      simp (disch := omega) only [lt3_i, if_true, if_false, pi_pos, pi_npos, pi_nn, pi_ng, pi_nle, pi_lt, false_or, or_false, not_false_eq_true, true_and, and_true, false_and, and_false, implies_true, not_true, not_true_eq_false, false_implies, true_implies, pi_a1, pi_a2, pi_a3, pi_ab, pi_4, pi_3, pi_6, v_70_i, v_68_i, v_69_i, mod2_i, bi_0, bi_n, vp_bi, enc_flip, flip_s, v_6_i, e, and_self]
      generalize hv : cm σ p q i x y ix iy = v1
      have hfr : Fr [25, 26, 27] σ (am_put σ (25 + i) p v1) := ((Fr.refl _ _).put _ _ _ hi25)
      obtain ⟨k1, σ', k2, k3, k4, k5⟩ := ih (i + 1) (am_put σ (25 + i) p v1) (by omega) (by omega)
      refine ⟨k1, σ', k2, hfr.trans k3, ?_, ?_⟩
      · intro a ha j hj
        rw [k4 a ha j (by omega)]
        have h1 : ¬ (25 + a = 25 + i ∧ j = p) := by omega
        simp only [am_rd, if_false, h1]
      · intro a ha hia
        by_cases hai : a = i
        · subst hai
          rw [k4 a ha p (by omega)]
          simp only [am_rd, and_self, if_true, hv]
        · rw [k5 a ha (by omega)]
          unfold cm
          simp (disch := omega) only [am_rd, pi_neq, false_and, and_false, if_false]
    · have hi3 : i = 3 := by omega
      subst hi3
      simp only [l_3, lt33, if_false, false_implies, true_and]
      exact ⟨_, rfl, Fr.refl _ _, fun _ _ _ _ => rfl, fun a h1 h2 => by omega⟩
theorem l3_c (σ : am_M) {p q : Nat} (hp : p < 13) (hq : q < 13) (hqp : q ≠ p) (x y ix iy : Int32) :
    q_3_50 14 σ (Int32.ofNat p) (Int32.ofNat q) x y ix iy 0 ∧ ∃ σ', l_3_50 14 σ (Int32.ofNat p) (Int32.ofNat q) x y ix iy 0 = σ' ∧ Fr [25, 26, 27] σ σ' ∧ (∀ i < 3, ∀ j, j ≠ p → σ'.1 (25 + i) j = σ.1 (25 + i) j) ∧ ∀ i < 3, σ'.1 (25 + i) p = (((σ.1 (25 + i) q + (x - σ.1 10 q) * shr (σ.1 21 q) i) + (y - σ.1 11 q) * shr (σ.1 22 q) i) - ix * shr (σ.1 21 p) i) - iy * shr (σ.1 22 p) i := by
  obtain ⟨k1, σ', k2, k3, k4, k5⟩ := l3_i hp hq hqp x y ix iy 14 0 σ (by omega) (by omega)
  exact ⟨k1, σ', k2, k3, fun a ha j hj => k4 a ha j (Or.inl hj), fun a ha => k5 a ha (Nat.zero_le a)⟩
theorem w3_c (P : Pl) (hV : VP P) (σ : am_M) (hC : CP σ P) {p : Nat} (hp : p < P.n) (h0 : 0 < p) :
    p_3 σ (Int32.ofNat p) ∧ ∃ σ', w_3 σ (Int32.ofNat p) = σ' ∧ Fr [25, 26, 27] σ σ' ∧ (∀ i < 3, ∀ j, j ≠ p → σ'.1 (25 + i) j = σ.1 (25 + i) j) ∧ ∀ i < 3, σ'.1 (25 + i) p = (((σ.1 (25 + i) (P.par p) + (bx P p - P.W (P.par p)) * shr (σ.1 21 (P.par p)) i) + (by_ P p - P.S (P.par p)) * shr (σ.1 22 (P.par p)) i) - (bx P p - P.W p) * shr (σ.1 21 p) i) - (by_ P p - P.S p) * shr (σ.1 22 p) i := by
  have h13 := hV.n13
  obtain ⟨hq, hs⟩ := hV.tr p hp h0
  have hE := hC.2 p hp
  have hQ := hC.2 (P.par p) (by omega)
  unfold CE at hE hQ
  obtain ⟨e1, e2, e3⟩ := hE.1 h0
  have hx : v_36 σ (Int32.ofNat p) = bx P p ∧ p_36 σ (Int32.ofNat p) := by
    unfold v_36 p_36 bx
    simp (disch := omega) only [if_true, if_false, pi_pos, pi_npos, pi_nn, pi_ng, pi_nle, pi_lt, false_or, or_false, not_false_eq_true, true_and, and_true, false_and, and_false, implies_true, not_true, not_true_eq_false, false_implies, true_implies, pi_a1, pi_a2, pi_a3, pi_ab, pi_4, pi_3, pi_6, v_70_i, v_68_i, v_69_i, mod2_i, bi_0, bi_n, vp_bi, enc_flip, flip_s, e2]
    match P.sd p, hs with
    | 0, _ => exact ⟨hE.2.2.2.2.1, by decide⟩
    | 1, _ => exact ⟨hE.2.2.2.2.1, by decide⟩
    | 2, _ => exact ⟨hE.2.2.1, by decide⟩
    | 3, _ => exact ⟨hE.2.2.2.2.1, by decide⟩
  have hy : v_37 σ (Int32.ofNat p) = by_ P p ∧ p_37 σ (Int32.ofNat p) := by
    unfold v_37 p_37 by_
    simp (disch := omega) only [if_true, if_false, pi_pos, pi_npos, pi_nn, pi_ng, pi_nle, pi_lt, false_or, or_false, not_false_eq_true, true_and, and_true, false_and, and_false, implies_true, not_true, not_true_eq_false, false_implies, true_implies, pi_a1, pi_a2, pi_a3, pi_ab, pi_4, pi_3, pi_6, v_70_i, v_68_i, v_69_i, mod2_i, bi_0, bi_n, vp_bi, enc_flip, flip_s, e2]
    match P.sd p, hs with
    | 0, _ => exact ⟨hE.2.2.2.2.2, by decide⟩
    | 1, _ => exact ⟨hE.2.2.2.2.2, by decide⟩
    | 2, _ => exact ⟨hE.2.2.2.2.2, by decide⟩
    | 3, _ => exact ⟨hE.2.2.2.1, by decide⟩
  have k := l3_c σ (show p < 13 by omega) (show P.par p < 13 by omega) (by omega) (bx P p) (by_ P p) (bx P p - P.W p) (by_ P p - P.S p)
  unfold p_3 w_3 f_3
  simp (disch := omega) only [if_true, if_false, pi_pos, pi_npos, pi_nn, pi_ng, pi_nle, pi_lt, false_or, or_false, not_false_eq_true, true_and, and_true, false_and, and_false, implies_true, not_true, not_true_eq_false, false_implies, true_implies, pi_a1, pi_a2, pi_a3, pi_ab, pi_4, pi_3, pi_6, v_70_i, v_68_i, v_69_i, mod2_i, bi_0, bi_n, vp_bi, enc_flip, flip_s, e1, hx, hy, hE.2.2.2.2.1, hE.2.2.2.2.2]
  rw [hQ.2.2.2.2.1, hQ.2.2.2.2.2] at k
  exact k
theorem v121_i (σ : am_M) (a c : Int32) : v_121 σ a c = if c < a then c else a := rfl
theorem v120_i (σ : am_M) (a c : Int32) : v_120 σ a c = if a < c then c else a := rfl
def cn (σ : am_M) (p i : Nat) (w h : Int32) : Int32 := (σ.1 (25 + i) p + w * shr (σ.1 21 p) i) + h * shr (σ.1 22 p) i
theorem l4_c {p : Nat} (hp : p < 13) (w h : Int32) : ∀ (f i : Nat) (σ : am_M), 3 < i + f → i ≤ 3 → σ.1 8 p - σ.1 10 p = w → σ.1 9 p - σ.1 11 p = h →
    q_4_2 f σ (Int32.ofNat p) (Int32.ofNat i) ∧ ∃ σ', l_4_2 f σ (Int32.ofNat p) (Int32.ofNat i) = σ' ∧ Fr [29, 30, 31, 33, 34, 35] σ σ' ∧ (∀ a < 3, ∀ j, (j ≠ p ∨ a < i) → σ'.1 (29 + a) j = σ.1 (29 + a) j ∧ σ'.1 (33 + a) j = σ.1 (33 + a) j) ∧ ∀ a < 3, i ≤ a → σ'.1 (29 + a) p = (if cn σ p a w h < σ.1 (25 + a) p then cn σ p a w h else σ.1 (25 + a) p) ∧ σ'.1 (33 + a) p = (if σ.1 (25 + a) p < cn σ p a w h then cn σ p a w h else σ.1 (25 + a) p) := by
  intro f
  induction f with
  | zero => intro i σ h1 h2; omega
  | succ f ih =>
    intro i σ h1 h2 hw hh
    unfold q_4_2 l_4_2
    by_cases hi : i < 3
    · have hi29 : 29 + i ∈ [29, 30, 31, 33, 34, 35] := by
        revert hi; revert i; intro i _ _ hi
        have : ∀ i < 3, 29 + i ∈ [29, 30, 31, 33, 34, 35] := by decide
        exact this i hi
      have hi33 : 33 + i ∈ [29, 30, 31, 33, 34, 35] := by
        have : ∀ i < 3, 33 + i ∈ [29, 30, 31, 33, 34, 35] := by decide
        exact this i hi
      have e : (((σ.1 (25 + i) p) + (w * shr (σ.1 21 p) i)) + (h * shr (σ.1 22 p) i)) = cn σ p i w h := rfl
      unfold p_30 v_30 p_31 v_31
      simp (disch := omega) only [lt3_i, if_true, if_false, pi_pos, pi_npos, pi_nn, pi_ng, pi_nle, pi_lt, false_or, or_false, not_false_eq_true, true_and, and_true, false_and, and_false, implies_true, not_true, not_true_eq_false, false_implies, true_implies, pi_a1, pi_a2, pi_a3, pi_ab, pi_4, pi_3, pi_6, v_70_i, v_68_i, v_69_i, mod2_i, bi_0, bi_n, vp_bi, enc_flip, flip_s, v_6_i, v121_i, v120_i, hw, hh, e, am_rd, pi_neq, and_self]
      generalize hv : (if cn σ p i w h < σ.1 (25 + i) p then cn σ p i w h else σ.1 (25 + i) p) = v1
      generalize hv' : (if σ.1 (25 + i) p < cn σ p i w h then cn σ p i w h else σ.1 (25 + i) p) = v2
      have hfr : Fr [29, 30, 31, 33, 34, 35] σ (am_put (am_put σ (29 + i) p v1) (33 + i) p v2) := ((Fr.refl _ _).put _ _ _ hi29).put _ _ _ hi33
      obtain ⟨k1, σ', k2, k3, k4, k5⟩ := ih (i + 1) (am_put (am_put σ (29 + i) p v1) (33 + i) p v2) (by omega) (by omega) (by simp (disch := omega) only [am_rd, pi_neq, false_and, if_false]; exact hw) (by simp (disch := omega) only [am_rd, pi_neq, false_and, if_false]; exact hh)
      refine ⟨k1, σ', k2, hfr.trans k3, ?_, ?_⟩
      · intro a ha j hj
        rw [(k4 a ha j (by omega)).1, (k4 a ha j (by omega)).2]
        have h1 : ¬ (29 + a = 29 + i ∧ j = p) := by omega
        have h2 : ¬ (33 + a = 33 + i ∧ j = p) := by omega
        simp (disch := omega) only [am_rd, pi_neq, false_and, if_false, h1, h2, and_self]
      · intro a ha hia
        by_cases hai : a = i
        · subst hai
          rw [(k4 a ha p (by omega)).1, (k4 a ha p (by omega)).2]
          simp (disch := omega) only [am_rd, pi_neq, false_and, if_false, and_self, if_true, hv, hv']
        · have := k5 a ha (by omega)
          have c : cn (am_put (am_put σ (29 + i) p v1) (33 + i) p v2) p a w h = cn σ p a w h := by
            unfold cn
            simp (disch := omega) only [am_rd, pi_neq, false_and, if_false]
          rw [c] at this
          simp (disch := omega) only [am_rd, pi_neq, false_and, if_false] at this
          exact this
    · have hi3 : i = 3 := by omega
      subst hi3
      simp only [l_3, lt33, if_false, false_implies, true_and]
      exact ⟨_, rfl, Fr.refl _ _, fun _ _ _ _ => ⟨rfl, rfl⟩, fun a h1 h2 => by omega⟩
theorem w4_c (P : Pl) (σ : am_M) (hC : CP σ P) (h13 : P.n ≤ 13) {p : Nat} (hp : p < P.n) :
    p_4 σ (Int32.ofNat p) ∧ ∃ σ', w_4 σ (Int32.ofNat p) = σ' ∧ Fr [29, 30, 31, 33, 34, 35] σ σ' ∧ (∀ a < 3, ∀ j, j ≠ p → σ'.1 (29 + a) j = σ.1 (29 + a) j ∧ σ'.1 (33 + a) j = σ.1 (33 + a) j) ∧ ∀ a < 3, σ'.1 (29 + a) p = (if cn σ p a (P.E p - P.W p) (P.N p - P.S p) < σ.1 (25 + a) p then cn σ p a (P.E p - P.W p) (P.N p - P.S p) else σ.1 (25 + a) p) ∧ σ'.1 (33 + a) p = (if σ.1 (25 + a) p < cn σ p a (P.E p - P.W p) (P.N p - P.S p) then cn σ p a (P.E p - P.W p) (P.N p - P.S p) else σ.1 (25 + a) p) := by
  have hE := hC.2 p hp
  unfold CE at hE
  obtain ⟨k1, σ', k2, k3, k4, k5⟩ := l4_c (show p < 13 by omega) (P.E p - P.W p) (P.N p - P.S p) 14 0 σ (by omega) (by omega) (by rw [hE.2.2.1, hE.2.2.2.2.1]) (by rw [hE.2.2.2.1, hE.2.2.2.2.2])
  exact ⟨k1, σ', k2, k3, fun a ha j hj => k4 a ha j (Or.inl hj), fun a ha => k5 a ha (Nat.zero_le a)⟩
