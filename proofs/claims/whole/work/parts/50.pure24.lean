theorem neg_sw (c x : Int32) : (-c = x) = (c = -x) := propext ⟨fun h => by rw [← h, Int32.neg_neg], fun h => by rw [h, Int32.neg_neg]⟩
theorem shr_neg (c : Int32) : ∀ i < 3, shr (-c) i = -shr c i := by
  have h : ∀ i < 3, ∀ a e : Int32, a = Int32.ofNat i + 1 → e = -Int32.ofNat i - 1 → -a = e ∧ -e = a ∧ a ≠ e := by
    refine cas3 ?_ ?_ ?_ <;> (rintro a e rfl rfl; decide)
  intro i hi
  obtain ⟨h1, h2, h3⟩ := h i hi _ _ rfl rfl
  unfold shr
  simp only [neg_sw, h1, h2]
  by_cases c1 : c = Int32.ofNat i + 1
  · have : ¬ c = -Int32.ofNat i - 1 := fun h => h3 (c1.symm.trans h)
    simp [c1, h3]
  · by_cases c2 : c = -Int32.ofNat i - 1
    · simp [c2, Ne.symm h3]
    · simp [c1, c2]
def rwas (τ : am_M) (q i : Nat) (isX : Bool) : Int32 := if isX then τ.1 57 (3 * q + i) else τ.1 58 (3 * q + i)
def rnow (τ : am_M) (q i : Nat) (isX fo : Bool) (a t : Int32) : Int32 := if fo then (a * t) * τ.1 59 (3 * q + i) else rwas τ q i isX
theorem bf0 (c : Bool) (a d : Int32) : (if c = false then a else d) = if c then d else a := by cases c <;> rfl
theorem l89_c {p q : Nat} (hp : p < 13) (hqp : q < p) (isX fo : Bool) (a t ln : Int32) : ∀ (f i : Nat) (τ : am_M), 3 < i + f → i ≤ 3 →
    q_89_130 f τ (Int32.ofNat p) (bi fo) (Int32.ofNat (3 * q)) (bi isX) a t ln (Int32.ofNat i) ∧ ∃ τ', l_89_130 f τ (Int32.ofNat p) (bi fo) (Int32.ofNat (3 * q)) (bi isX) a t ln (Int32.ofNat i) = τ' ∧ Fr [56, 57, 58, 59] τ τ' ∧ (∀ l j, (j < 3 * p + i ∨ 3 * p + 3 ≤ j) → τ'.1 l j = τ.1 l j) ∧ ∀ c < 3, i ≤ c → τ'.1 57 (3 * p + c) = (if isX then rnow τ q c isX fo a t else τ.1 57 (3 * q + c)) ∧ τ'.1 58 (3 * p + c) = (if isX then τ.1 58 (3 * q + c) else rnow τ q c isX fo a t) ∧ τ'.1 59 (3 * p + c) = (if fo then ((-a) * t) * rwas τ q c isX else τ.1 59 (3 * q + c)) ∧ τ'.1 56 (3 * p + c) = τ.1 56 (3 * q + c) + ln * (rwas τ q c isX - rnow τ q c isX fo a t) := by
  intro f
  induction f with
  | zero => intro i τ h1 h2; omega
  | succ f ih =>
    intro i τ h1 h2
    unfold q_89_130 l_89_130
    by_cases hi : i < 3
    · have e : (if isX then τ.1 57 (3 * q + i) else τ.1 58 (3 * q + i)) = rwas τ q i isX := rfl
      have e' : (if fo then (a * t) * τ.1 59 (3 * q + i) else rwas τ q i isX) = rnow τ q i isX fo a t := rfl
      simp (disch := omega) only [lt3_i, if_true, if_false, pi_pos, pi_npos, pi_nn, pi_ng, pi_nle, pi_lt, false_or, or_false, not_false_eq_true, true_and, and_true, false_and, and_false, implies_true, not_true, not_true_eq_false, false_implies, true_implies, pi_a1, pi_a2, pi_a3, pi_ab, pi_4, pi_3, pi_6, v_70_i, v_68_i, v_69_i, mod2_i, bi_0, bi_n, vp_bi, enc_flip, flip_s, bf0, e, e', and_self]
      generalize hv1 : (if isX then rnow τ q i isX fo a t else τ.1 57 (3 * q + i)) = v1
      generalize hv2 : (if isX then τ.1 58 (3 * q + i) else rnow τ q i isX fo a t) = v2
      generalize hv3 : (if fo then ((-a) * t) * rwas τ q i isX else τ.1 59 (3 * q + i)) = v3
      generalize hv4 : τ.1 56 (3 * q + i) + ln * (rwas τ q i isX - rnow τ q i isX fo a t) = v4
      generalize hτ : am_put (am_put (am_put (am_put τ 57 (3 * p + i) v1) 58 (3 * p + i) v2) 59 (3 * p + i) v3) 56 (3 * p + i) v4 = τ1
      have hfr : Fr [56, 57, 58, 59] τ τ1 := by
        rw [← hτ]
        exact ((((Fr.refl _ _).put _ _ _ (by decide)).put _ _ _ (by decide)).put _ _ _ (by decide)).put _ _ _ (by decide)
      have hrd : ∀ l j, j ≠ 3 * p + i → τ1.1 l j = τ.1 l j := by
        intro l j hj
        rw [← hτ]
        simp only [am_rd, hj, and_false, if_false]
      obtain ⟨k1, τ', k2, k3, k4, k5⟩ := ih (i + 1) τ1 (by omega) (by omega)
      refine ⟨k1, τ', k2, hfr.trans k3, ?_, ?_⟩
      · intro l j hj
        rw [k4 l j (by omega), hrd l j (by omega)]
      · intro c hc hic
        by_cases hci : c = i
        · subst hci
          rw [k4 57 _ (by omega), k4 58 _ (by omega), k4 59 _ (by omega), k4 56 _ (by omega), hv1, hv2, hv3, hv4, ← hτ]
          simp (disch := omega) only [am_rd, pi_neq, false_and, if_false, and_self, if_true]
        · have := k5 c hc (by omega)
          have w : ∀ l, τ1.1 l (3 * q + c) = τ.1 l (3 * q + c) := fun l => hrd l _ (by omega)
          have r1 : rwas τ1 q c isX = rwas τ q c isX := by unfold rwas; rw [w 57, w 58]
          have r2 : rnow τ1 q c isX fo a t = rnow τ q c isX fo a t := by unfold rnow; rw [r1, w 59]
          rw [r1, r2, w 57, w 58, w 59, w 56] at this
          exact this
    · have hi3 : i = 3 := by omega
      subst hi3
      simp only [l_3, lt33, if_false, false_implies, true_and]
      exact ⟨_, rfl, Fr.refl _ _, fun _ _ _ => rfl, fun a h1 h2 => by omega⟩
def lineP (P : Pl) (p : Nat) : Int32 := if P.sd p = 0 then P.E (P.par p) else if P.sd p = 1 then P.N (P.par p) else if P.sd p = 2 then P.W (P.par p) else P.S (P.par p)
def isx (P : Pl) (p : Nat) : Bool := (P.sd p == 0 || P.sd p == 2)
def awy (P : Pl) (p : Nat) : Int32 := if P.sd p < 2 then 1 else -1
def tow (P : Pl) (p : Nat) : Int32 := if P.up p then 1 else -1
theorem w89_c (P : Pl) (hV : VP P) (b : Int32) (τ : am_M) (hR : RP τ P) {p : Nat} (hp : p < P.n) (h0 : 0 < p) :
    p_89 τ (Int32.ofNat p) (bi (isF b p)) ∧ ∃ τ', w_89 τ (Int32.ofNat p) (bi (isF b p)) = τ' ∧ Fr [56, 57, 58, 59] τ τ' ∧ (∀ l j, (j < 3 * p ∨ 3 * p + 3 ≤ j) → τ'.1 l j = τ.1 l j) ∧ ∀ c < 3, τ'.1 57 (3 * p + c) = (if isx P p then rnow τ (P.par p) c (isx P p) (isF b p) (awy P p) (tow P p) else τ.1 57 (3 * P.par p + c)) ∧ τ'.1 58 (3 * p + c) = (if isx P p then τ.1 58 (3 * P.par p + c) else rnow τ (P.par p) c (isx P p) (isF b p) (awy P p) (tow P p)) ∧ τ'.1 59 (3 * p + c) = (if isF b p then ((-(awy P p)) * tow P p) * rwas τ (P.par p) c (isx P p) else τ.1 59 (3 * P.par p + c)) ∧ τ'.1 56 (3 * p + c) = τ.1 56 (3 * P.par p + c) + lineP P p * (rwas τ (P.par p) c (isx P p) - rnow τ (P.par p) c (isx P p) (isF b p) (awy P p) (tow P p)) := by
  have h13 := hV.n13
  obtain ⟨hq, hs⟩ := hV.tr p hp h0
  have hE := hR.2 p hp
  have hQ := hR.2 (P.par p) (by omega)
  unfold RE at hE hQ
  obtain ⟨e1, e2, e3⟩ := hE.1 h0
  have i1 : ((if Int32.ofNat (P.sd p) - Int32.ofNat (P.sd p) / 2 * 2 = 0 then (1 : Int32) else 0)) = bi (isx P p) := by
    unfold isx
    simp (disch := omega) only [mod2_i, bi]
  have i2 : (if Int32.ofNat (P.sd p) < 2 then (1 : Int32) else (-1)) = awy P p := by
    unfold awy
    match P.sd p, hs with
    | 0, _ => decide
    | 1, _ => decide
    | 2, _ => decide
    | 3, _ => decide
  have i3 : (if bi (P.up p) = 0 then ((-1) : Int32) else 1) = tow P p := by
    unfold tow
    cases P.up p <;> rfl
  have i4 : (if isx P p = false then ((τ.1 54 (((((Int32.ofNat (4 * P.par p)) + (if Int32.ofNat (P.sd p) = 1 then (3 : Int32) else 1))).toNatClampNeg))) : Int32) else (τ.1 54 (((((Int32.ofNat (4 * P.par p)) + (if Int32.ofNat (P.sd p) = 0 then (2 : Int32) else 0))).toNatClampNeg)))) = lineP P p := by
    unfold isx lineP
    match P.sd p, hs with
    | 0, _ => 
      simp (disch := omega) only [show (((0 : Nat) == 0) || ((0 : Nat) == 2)) = true from rfl, show (if Int32.ofNat 0 = 0 then (2 : Int32) else 0) = 2 from rfl, Bool.true_eq_false, if_true, if_false, pi_pos, pi_npos, pi_nn, pi_ng, pi_nle, pi_lt, false_or, or_false, not_false_eq_true, true_and, and_true, false_and, and_false, implies_true, not_true, not_true_eq_false, false_implies, true_implies, pi_a1, pi_a2, pi_a3, pi_ab, pi_4, pi_3, pi_6, v_70_i, v_68_i, v_69_i, mod2_i, bi_0, bi_n, vp_bi, enc_flip, flip_s]
      exact hQ.2.2.2.1
    | 1, _ =>
      simp (disch := omega) only [show (((1 : Nat) == 0) || ((1 : Nat) == 2)) = false from rfl, show (if Int32.ofNat 1 = 1 then (3 : Int32) else 1) = 3 from rfl, Bool.true_eq_false, if_true, if_false, pi_pos, pi_npos, pi_nn, pi_ng, pi_nle, pi_lt, false_or, or_false, not_false_eq_true, true_and, and_true, false_and, and_false, implies_true, not_true, not_true_eq_false, false_implies, true_implies, pi_a1, pi_a2, pi_a3, pi_ab, pi_4, pi_3, pi_6, v_70_i, v_68_i, v_69_i, mod2_i, bi_0, bi_n, vp_bi, enc_flip, flip_s]
      exact hQ.2.2.2.2
    | 2, _ =>
      simp (disch := omega) only [show (((2 : Nat) == 0) || ((2 : Nat) == 2)) = true from rfl, show (if Int32.ofNat 2 = 0 then (2 : Int32) else 0) = 0 from rfl, Bool.true_eq_false, if_true, if_false, pi_pos, pi_npos, pi_nn, pi_ng, pi_nle, pi_lt, false_or, or_false, not_false_eq_true, true_and, and_true, false_and, and_false, implies_true, not_true, not_true_eq_false, false_implies, true_implies, pi_a1, pi_a2, pi_a3, pi_ab, pi_4, pi_3, pi_6, v_70_i, v_68_i, v_69_i, mod2_i, bi_0, bi_n, vp_bi, enc_flip, flip_s, Int32.add_zero]
      exact hQ.2.1
    | 3, _ =>
      simp (disch := omega) only [show (((3 : Nat) == 0) || ((3 : Nat) == 2)) = false from rfl, show (if Int32.ofNat 3 = 1 then (3 : Int32) else 1) = 1 from rfl, Bool.true_eq_false, if_true, if_false, pi_pos, pi_npos, pi_nn, pi_ng, pi_nle, pi_lt, false_or, or_false, not_false_eq_true, true_and, and_true, false_and, and_false, implies_true, not_true, not_true_eq_false, false_implies, true_implies, pi_a1, pi_a2, pi_a3, pi_ab, pi_4, pi_3, pi_6, v_70_i, v_68_i, v_69_i, mod2_i, bi_0, bi_n, vp_bi, enc_flip, flip_s, Nat.reduceEqDiff]
      exact hQ.2.2.1
  have i5 : (isx P p = false → ¬ ((Int32.ofNat (4 * P.par p) + (if Int32.ofNat (P.sd p) = 1 then (3 : Int32) else 1)) < 0 ∨ 52 ≤ (Int32.ofNat (4 * P.par p) + (if Int32.ofNat (P.sd p) = 1 then (3 : Int32) else 1)).toNatClampNeg)) ∧ (¬ isx P p = false → ¬ ((Int32.ofNat (4 * P.par p) + (if Int32.ofNat (P.sd p) = 0 then (2 : Int32) else 0)) < 0 ∨ 52 ≤ (Int32.ofNat (4 * P.par p) + (if Int32.ofNat (P.sd p) = 0 then (2 : Int32) else 0)).toNatClampNeg)) := by
    constructor
    · intro _
      split <;> simp (disch := omega) only [if_true, if_false, pi_pos, pi_npos, pi_nn, pi_ng, pi_nle, pi_lt, false_or, or_false, not_false_eq_true, true_and, and_true, false_and, and_false, implies_true, not_true, not_true_eq_false, false_implies, true_implies, pi_a1, pi_a2, pi_a3, pi_ab, pi_4, pi_3, pi_6, v_70_i, v_68_i, v_69_i, mod2_i, bi_0, bi_n, vp_bi, enc_flip, flip_s]
    · intro _
      split <;> simp (disch := omega) only [if_true, if_false, pi_pos, pi_npos, pi_nn, pi_ng, pi_nle, pi_lt, false_or, or_false, not_false_eq_true, true_and, and_true, false_and, and_false, implies_true, not_true, not_true_eq_false, false_implies, true_implies, pi_a1, pi_a2, pi_a3, pi_ab, pi_4, pi_3, pi_6, v_70_i, v_68_i, v_69_i, mod2_i, bi_0, bi_n, vp_bi, enc_flip, flip_s, Int32.add_zero]
  obtain ⟨k1, τ', k2, k3, k4, k5⟩ := l89_c (show p < 13 by omega) hq (isx P p) (isF b p) (awy P p) (tow P p) (lineP P p) 14 0 τ (by omega) (by omega)
  unfold p_89 w_89 f_89
  simp (disch := omega) only [pi_nn, e1, e2, e3]
  simp only [i1, i2, i3]
  simp only [bi_0, pi_4, pi_3]
  simp only [i4]
  simp (disch := omega) only [pi_ng, pi_nle, false_or, not_false_eq_true, true_and]
  rw [l_0] at k1 k2
  exact ⟨⟨i5, k1⟩, τ', k2, k3, fun l j hj => k4 l j (by omega), fun c hc => k5 c hc (Nat.zero_le c)⟩
