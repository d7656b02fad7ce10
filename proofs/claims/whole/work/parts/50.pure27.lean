def abn (n : Nat) (x : Int32) : Bool := decide ((x &&& ((((1 : Int32) <<< (Int32.ofNat n &&& (31 : Int32))) - 2) ^^^ (-1))) = 0)
theorem v_29_i (σ : am_M) (P : Pl) (hC : CP σ P) (h0 : 0 < P.n) (h13 : P.n ≤ 13) (x : Int32) : v_29 σ x = bi (abn P.n x) := by
  unfold v_29 v_28
  rw [hC.1]
  have hz : ¬ Int32.ofNat P.n = 0 := by rw [pi_z (by omega)]; omega
  simp only [hz, if_false]
  exact bi_d _
theorem v_88_i (τ : am_M) (P : Pl) (hR : RP τ P) (h0 : 0 < P.n) (h13 : P.n ≤ 13) (x : Int32) : v_88 τ x = bi (abn P.n x) := by
  unfold v_88
  rw [hR.1]
  simp (disch := omega) only [pi_pos, if_true]
  exact bi_d _
theorem v_88_0 (τ : am_M) (P : Pl) (hR : RP τ P) (h0 : P.n = 0) (x : Int32) : v_88 τ x = 0 := by
  unfold v_88
  rw [hR.1, h0, if_neg (by decide)]
/-- both folds, one behind the other -/
theorem two_c {σ : am_M} {P : Pl} (hP : InvP σ P) (b : Int32) : p_1 σ b ∧ CP (w_1 σ b) P ∧ FC (w_1 σ b) P b ∧ p_90 (am_put (w_1 σ b) 50 0 0) b ∧ RP (w_90 (am_put (w_1 σ b) 50 0 0) b) P ∧ GC (w_90 (am_put (w_1 σ b) 50 0 0) b) P b ∧ (Inv (w_90 (am_put (w_1 σ b) 50 0 0) b) ∧ (w_90 (am_put (w_1 σ b) 50 0 0) b).1 0 = σ.1 0) := by
  have hP' := hP
  obtain ⟨hV, hC, hR, hM, hO⟩ := hP
  obtain ⟨a1, a2, a3⟩ := fold_c P hV b σ hC
  have hR1 : RP (am_put (w_1 σ b) 50 0 0) P := (hR.fr a3 (by decide)).put _ _ _ (by decide) (by decide)
  obtain ⟨b1, b2, b3⟩ := rfold_c P hV b _ hR1
  exact ⟨a1, hC.fr a3 (by decide), a2, b1, hR1.fr b3 (by decide), b2, ask3 hP' a3 b3 (by decide) (by decide)⟩
theorem rng5 {x : Int32} (h : 0 ≤ x ∧ x ≤ 5) : ∃ s, s < 6 ∧ x = Int32.ofNat s := by
  refine rng (by decide) h.1 ?_
  have := h.2
  have e : Int32.ofNat 6 = 6 := rfl
  rw [e]; grind
theorem c_place (σ : am_M) (h : Inv σ) (x1 x2 x3 : Int32) : p_58 σ x1 x2 x3 ∧ p_91 (w_58 σ x1 x2 x3) x1 x2 x3 ∧ v_58 σ x1 x2 x3 = v_91 (w_58 σ x1 x2 x3) x1 x2 x3 ∧ Inv (w_91 (w_58 σ x1 x2 x3) x1 x2 x3) ∧ (w_91 (w_58 σ x1 x2 x3) x1 x2 x3).1 0 = σ.1 0 := by
  have hI := h
  obtain ⟨P, hP⟩ := h
  have hP' := hP
  obtain ⟨hV, hC, hR, hM, hO⟩ := hP
  have h13 := hV.n13
  unfold p_58 p_91 v_58 v_91 w_91 w_58
  simp only [v_26_i σ P hC h13, isWi_i, isIn_i, bi_0, decide_eq_false_iff_not]
  have hR0 : RP (am_put σ 50 0 0) P := hR.put _ _ _ (by decide) (by decide)
  by_cases c1 : 0 ≤ x2 ∧ x2 ≤ Int32.ofNat P.n - 1
  · obtain ⟨p, hp, rfl⟩ := rng' h13 c1
    have h0 : 0 < P.n := by omega
    simp only [c1, and_self, not_true_eq_false, not_false_eq_true, true_implies, if_false, v_29_i σ P hC h0 h13, bi_0]
    by_cases c2 : abn P.n x1 = false
    · simp only [c2, not_true_eq_false, false_implies, if_true, v_88_i _ P hR0 h0 h13, bi_0, true_and]
      exact inv500 hI 0
    · simp only [c2, Bool.true_eq_false, not_false_eq_true, true_implies, if_false]
      by_cases c3 : 0 ≤ x3 ∧ x3 ≤ 5
      · obtain ⟨s, hs, rfl⟩ := rng5 c3
        obtain ⟨a1, a2, a3, b1, b2, b3, b4⟩ := two_c hP' x1
        have hRm : RP (am_put (w_1 σ x1) 50 0 0) P := ((hR.fr (fold_c P hV x1 σ hC).2.2 (by decide))).put _ _ _ (by decide) (by decide)
        have hn : (w_1 σ x1).1 50 1 = Int32.ofNat P.n := by
          have := hRm.1
          rw [am_rd, if_neg (by decide)] at this
          exact this
        simp only [c3, and_self, not_true_eq_false, not_false_eq_true, true_implies, if_false, v_88_i _ P hRm h0 h13, bi_0, c2, Bool.true_eq_false, hn, pi_lm1 h13, isIn_i, c1, decide_true, decide_eq_false_iff_not, a1, b1, true_and]
        have ha := a3 p hp
        have hb := b3 p hp
        refine ⟨?_, ?_, ?_, b4⟩
        · have h3 : ∀ s < 6, (Int32.ofNat s < 3 → ¬ (Int32.ofNat s < 0 ∨ 3 ≤ (Int32.ofNat s).toNatClampNeg)) ∧ (¬ Int32.ofNat s < 3 → ¬ (Int32.ofNat s - 3 < 0 ∨ 3 ≤ (Int32.ofNat s - 3).toNatClampNeg)) := by decide
          have hin : ¬ (Int32.ofNat p < 0 ∨ 13 ≤ (Int32.ofNat p).toNatClampNeg) := pi_in (by omega) (by omega)
          exact ⟨fun h => ⟨(h3 s hs).1 h, hin⟩, fun h => ⟨(h3 s hs).2 h, hin⟩⟩
        · simp (disch := omega) only [if_true, if_false, pi_pos, pi_npos, pi_nn, pi_ng, pi_nle, pi_lt, false_or, or_false, not_false_eq_true, true_and, and_true, false_and, and_false, implies_true, not_true, not_true_eq_false, false_implies, true_implies, pi_a1, pi_a2, pi_a3, pi_ab, pi_4, pi_3, pi_6, v_70_i, v_68_i, v_69_i, mod2_i, bi_0, bi_n, vp_bi, enc_flip, flip_s]
        · simp (disch := omega) only [if_true, if_false, pi_pos, pi_npos, pi_nn, pi_ng, pi_nle, pi_lt, false_or, or_false, not_false_eq_true, true_and, and_true, false_and, and_false, implies_true, not_true, not_true_eq_false, false_implies, true_implies, pi_a1, pi_a2, pi_a3, pi_ab, pi_4, pi_3, pi_6, v_70_i, v_68_i, v_69_i, mod2_i, bi_0, bi_n, vp_bi, enc_flip, flip_s]
          match s, hs with
          | 0, _ => exact (ha.2.2.2.2 0 (by decide)).1.trans (hb 0 (by decide)).2.2.2.2.1.symm
          | 1, _ => exact (ha.2.2.2.2 1 (by decide)).1.trans (hb 1 (by decide)).2.2.2.2.1.symm
          | 2, _ => exact (ha.2.2.2.2 2 (by decide)).1.trans (hb 2 (by decide)).2.2.2.2.1.symm
          | 3, _ => exact (ha.2.2.2.2 0 (by decide)).2.trans (hb 0 (by decide)).2.2.2.2.2.symm
          | 4, _ => exact (ha.2.2.2.2 1 (by decide)).2.trans (hb 1 (by decide)).2.2.2.2.2.symm
          | 5, _ => exact (ha.2.2.2.2 2 (by decide)).2.trans (hb 2 (by decide)).2.2.2.2.2.symm
      · simp only [c3, not_false_eq_true, not_true_eq_false, false_implies, true_implies, if_true, v_88_i _ P hR0 h0 h13, bi_0, c2, Bool.true_eq_false, if_false, hR.1, pi_lm1 h13, isIn_i, c1, and_self, decide_true, decide_eq_false_iff_not, true_and]
        exact inv500 hI 0
  · simp only [c1, not_false_eq_true, not_true_eq_false, false_implies, if_true, true_and, hR.1, pi_lm1 h13, isIn_i, bi_0, decide_eq_false_iff_not]
    have e : ∀ (a b : Int32), (if v_88 (am_put σ 50 0 0) x1 = 0 then a else a) = a := fun a b => by split <;> rfl
    have e' : ∀ (a : am_M), (if v_88 (am_put σ 50 0 0) x1 = 0 then a else a) = a := fun a => by split <;> rfl
    rw [e _ 0, e']
    exact ⟨fun _ => trivial, rfl, inv500 hI 0⟩
/-- two panels: whether one enters the other -/
def entI (P : Pl) (b : Int32) (p q i : Nat) : Bool := if lo P b p i = hi P b p i then decide (lo P b q i ≤ lo P b p i ∧ lo P b p i ≤ hi P b q i) else decide (lo P b q i < hi P b p i ∧ lo P b p i < hi P b q i)
def ent (P : Pl) (b : Int32) (p q : Nat) : Bool := entI P b p q 0 && entI P b p q 1 && entI P b p q 2
theorem ent_e (a b c d : Int32) : (if a = b then ((if a < c then (0 : Int32) else (if d < a then (0 : Int32) else 1)) : Int32) else (if c < b then ((if a < d then (1 : Int32) else 0) : Int32) else 0)) = bi (if a = b then decide (c ≤ a ∧ a ≤ d) else decide (c < b ∧ a < d)) := by
  unfold bi; grind
theorem ent_e' (a b c d : Int32) : (if a = b then ((if a < c then (0 : Int32) else (if d < a then (0 : Int32) else 1)) : Int32) else (if a < d then ((if c < b then (1 : Int32) else 0) : Int32) else 0)) = bi (if a = b then decide (c ≤ a ∧ a ≤ d) else decide (c < b ∧ a < d)) := by
  unfold bi; grind
theorem v12_c (P : Pl) (b : Int32) (σ : am_M) (hF : FC σ P b) (h13 : P.n ≤ 13) {p q : Nat} (hp : p < P.n) (hq : q < P.n) : p_12 σ (Int32.ofNat p) (Int32.ofNat q) ∧ v_12 σ (Int32.ofNat p) (Int32.ofNat q) = bi (ent P b p q) := by
  have st : ∀ (f i : Nat), i < 3 → (q_12_2 f σ (Int32.ofNat p) (Int32.ofNat q) (Int32.ofNat (i + 1)) → q_12_2 (f + 1) σ (Int32.ofNat p) (Int32.ofNat q) (Int32.ofNat i)) ∧ l_12_2 (f + 1) σ (Int32.ofNat p) (Int32.ofNat q) (Int32.ofNat i) = if entI P b p q i = false then 0 else l_12_2 f σ (Int32.ofNat p) (Int32.ofNat q) (Int32.ofNat (i + 1)) := by
    intro f i hi
    have h1 := (hF p hp).2.2.2.2 i hi
    have h2 := (hF q hq).2.2.2.2 i hi
    rw [q_12_2, l_12_2]
    simp (disch := omega) only [lt3_i, if_true, if_false, pi_pos, pi_npos, pi_nn, pi_ng, pi_nle, pi_lt, false_or, or_false, not_false_eq_true, true_and, and_true, false_and, and_false, implies_true, not_true, not_true_eq_false, false_implies, true_implies, pi_a1, pi_a2, pi_a3, pi_ab, pi_4, pi_3, pi_6, v_70_i, v_68_i, v_69_i, mod2_i, bi_0, bi_n, vp_bi, enc_flip, flip_s, h1, h2, ent_e, and_self]
    exact ⟨fun h _ => h, rfl⟩
  unfold p_12 v_12 f_12
  obtain ⟨a1, a2⟩ := st 13 0 (by decide)
  obtain ⟨b1, b2⟩ := st 12 1 (by decide)
  obtain ⟨c1, c2⟩ := st 11 2 (by decide)
  simp only [l_0, l_1, l_2, l_3, Nat.reduceAdd] at a1 a2 b1 b2 c1 c2
  constructor
  · refine a1 (b1 (c1 ?_))
    rw [q_12_2]
    exact fun h => absurd h (by decide)
  · have z : l_12_2 11 σ (Int32.ofNat p) (Int32.ofNat q) 3 = 1 := by rw [l_12_2, if_neg (by decide)]
    rw [a2, b2, c2, z]
    unfold ent
    cases entI P b p q 0 <;> cases entI P b p q 1 <;> cases entI P b p q 2 <;> rfl
theorem v92_c (P : Pl) (b : Int32) (τ : am_M) (hG : GC τ P b) (h13 : P.n ≤ 13) {p q : Nat} (hp : p < P.n) (hq : q < P.n) : p_92 τ (Int32.ofNat p) (Int32.ofNat q) ∧ v_92 τ (Int32.ofNat p) (Int32.ofNat q) = bi (ent P b p q) := by
  have st : ∀ (f i : Nat) (z : Bool), i < 3 → (q_92_5 f τ (Int32.ofNat p) (Int32.ofNat q) (bi (z && entI P b p q i)) (Int32.ofNat (i + 1)) → q_92_5 (f + 1) τ (Int32.ofNat p) (Int32.ofNat q) (bi z) (Int32.ofNat i)) ∧ l_92_5 (f + 1) τ (Int32.ofNat p) (Int32.ofNat q) (bi z) (Int32.ofNat i) = l_92_5 f τ (Int32.ofNat p) (Int32.ofNat q) (bi (z && entI P b p q i)) (Int32.ofNat (i + 1)) := by
    intro f i z hi
    have h1 := (hG p hp i hi).2.2.2.2
    have h2 := (hG q hq i hi).2.2.2.2
    have hz : (if bi z = 0 then (0 : Int32) else bi (entI P b p q i)) = bi (z && entI P b p q i) := by cases z <;> simp [bi]
    unfold entI at hz ⊢
    rw [q_92_5, l_92_5]
    simp (disch := omega) only [lt3_i, if_true, if_false, pi_pos, pi_npos, pi_nn, pi_ng, pi_nle, pi_lt, false_or, or_false, not_false_eq_true, true_and, and_true, false_and, and_false, implies_true, not_true, not_true_eq_false, false_implies, true_implies, pi_a1, pi_a2, pi_a3, pi_ab, pi_4, pi_3, pi_6, v_70_i, v_68_i, v_69_i, mod2_i, bi_0, bi_n, vp_bi, enc_flip, flip_s, h1, h2, ent_e', and_self]
    simp only [bi_0] at hz
    rw [hz]
    exact ⟨fun h => h, rfl⟩
  unfold p_92 v_92 f_92
  obtain ⟨a1, a2⟩ := st 13 0 true (by decide)
  obtain ⟨b1, b2⟩ := st 12 1 (true && entI P b p q 0) (by decide)
  obtain ⟨c1, c2⟩ := st 11 2 ((true && entI P b p q 0) && entI P b p q 1) (by decide)
  have e1 : (1 : Int32) = bi true := rfl
  constructor
  · rw [e1]
    refine a1 (b1 (c1 ?_))
    unfold q_92_5
    refine ⟨fun h => absurd h (by decide), fun _ => ?_⟩
    cases (((true && entI P b p q 0) && entI P b p q 1) && entI P b p q 2)
    · exact Or.inl rfl
    · exact Or.inr rfl
  · rw [e1]
    refine a2.trans (b2.trans (c2.trans ?_))
    rw [l_92_5, if_neg (by decide)]
    unfold ent
    simp
