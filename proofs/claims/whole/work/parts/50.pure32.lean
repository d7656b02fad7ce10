/-! the check: spans and bends -/
theorem ax_shr {x y z : Int32} (h : frm x y z) : (shr x (ax x) = 1 ∨ shr x (ax x) = -1) ∧ shr y (ax x) = 0 ∧ shr z (ax x) = 0 ∧ shr x (ax y) = 0 ∧ (shr y (ax y) = 1 ∨ shr y (ax y) = -1) ∧ shr z (ax y) = 0 ∧ shr x (ax z) = 0 ∧ shr y (ax z) = 0 ∧ (shr z (ax z) = 1 ∨ shr z (ax z) = -1) := by
  obtain ⟨h1, h2, h3, h4, h5, h6⟩ := h
  have k : ∀ x ∈ [(1 : Int32), -1, 2, -2, 3, -3], ∀ y ∈ [(1 : Int32), -1, 2, -2, 3, -3], (shr x (ax x) = 1 ∨ shr x (ax x) = -1) ∧ (ax x ≠ ax y → shr y (ax x) = 0) := by decide
  have m : ∀ {x}, g1 x → x ∈ [(1 : Int32), -1, 2, -2, 3, -3] := by
    intro x h; unfold g1 at h; simp only [List.mem_cons]; grind
  exact ⟨(k x (m h1) y (m h2)).1, (k x (m h1) y (m h2)).2 h4, (k x (m h1) z (m h3)).2 h5, (k y (m h2) x (m h1)).2 h4.symm, (k y (m h2) x (m h1)).1, (k y (m h2) z (m h3)).2 h6, (k z (m h3) x (m h1)).2 h5.symm, (k z (m h3) y (m h2)).2 h6.symm, (k z (m h3) x (m h1)).1⟩
theorem spn {C w h a : Int32} (h1 : -30000 ≤ C.toInt) (h2 : C.toInt ≤ 30000) (hw : 1 ≤ w.toInt) (hw2 : w.toInt ≤ 2000) (ha : a = 1 ∨ a = -1) (hf : h = C + w * a) : (if C < h then h else C) - (if h < C then h else C) = w := by
  have e1 : (C + w).toInt = C.toInt + w.toInt := tA (by omega)
  have e5 : (C - w).toInt = C.toInt - w.toInt := tS (by omega)
  subst hf
  rcases ha with rfl | rfl
  · have n1 : ¬ C + w < C := by rw [tlt]; omega
    have n2 : C < C + w := by rw [tlt]; omega
    simp only [Int32.mul_one, n1, n2, if_true, if_false]; grind
  · have n1 : C - w < C := by rw [tlt]; omega
    have n2 : ¬ C < C - w := by rw [tlt]; omega
    simp only [xm1, sbn, n1, n2, if_true, if_false]; grind
theorem spans {P : Pl} (hV : VP P) (b : Int32) {p : Nat} (hp : p < P.n) : hi P b p (ax (cX P b p)) - lo P b p (ax (cX P b p)) = P.E p - P.W p ∧ hi P b p (ax (cY P b p)) - lo P b p (ax (cY P b p)) = P.N p - P.S p ∧ hi P b p (ax (cZ P b p)) - lo P b p (ax (cZ P b p)) = 0 := by
  have hf := frm_c hV b p hp
  obtain ⟨s1, s2, s3, s4, s5, s6, s7, s8, s9⟩ := ax_shr hf
  obtain ⟨g1', g2', g3', -⟩ := hf
  obtain ⟨w1, w2⟩ := whb hV hp
  have bnd : ∀ i < 3, -30000 ≤ (cC P b p i).toInt ∧ (cC P b p i).toInt ≤ 30000 := by
    intro i hi3
    obtain ⟨L, H, a1, a2, a3, a4⟩ := hull_b hV b hi3 (by omega)
    obtain ⟨r1, r3, r4, r5, r6⟩ := a4 p hp
    omega
  unfold lo hi
  refine ⟨?_, ?_, ?_⟩
  · have := bnd _ (ax_3 g1')
    exact spn this.1 this.2 w1.1 w1.2 s1 (by unfold far; rw [s2]; simp)
  · have := bnd _ (ax_3 g2')
    exact spn this.1 this.2 w2.1 w2.2 s5 (by unfold far; rw [s4]; simp)
  · have : far P b p (ax (cZ P b p)) = cC P b p (ax (cZ P b p)) := by unfold far; rw [s7, s8]; simp
    rw [this]; simp
theorem v11_c {P : Pl} (hV : VP P) (b : Int32) (σ : am_M) (hF : FC σ P b) {p : Nat} (hp : p < P.n) {c : Int32} (hc : g1 c) : p_11 σ (Int32.ofNat p) c ∧ v_11 σ (Int32.ofNat p) c = hi P b p (ax c) - lo P b p (ax c) := by
  have h13 := hV.n13
  have h3 := ax_3 hc
  have f := (hF p hp).2.2.2.2 (ax c) h3
  unfold p_11 v_11
  simp (disch := omega) only [v7_i _ hc, if_true, if_false, pi_pos, pi_npos, pi_nn, pi_ng, pi_nle, pi_lt, false_or, or_false, not_false_eq_true, true_and, and_true, false_and, and_false, implies_true, not_true, not_true_eq_false, false_implies, true_implies, pi_a1, pi_a2, pi_a3, pi_ab, pi_4, pi_3, pi_6, v_70_i, v_68_i, v_69_i, mod2_i, bi_0, bi_n, vp_bi, enc_flip, flip_s, f, and_self]
theorem v5_c {P : Pl} (hV : VP P) (b : Int32) (σ : am_M) (hC : CP σ P) (hF : FC σ P b) {p : Nat} (hp : p < P.n) (x y : Int32) {i : Nat} (hi3 : i < 3) : p_5 σ (Int32.ofNat p) x y (Int32.ofNat i) ∧ v_5 σ (Int32.ofNat p) x y (Int32.ofNat i) = inS P b p x y i := by
  have h13 := hV.n13
  have f := (hF p hp).2.2.2.1 i hi3
  have f1 := (hF p hp).1
  have f2 := (hF p hp).2.1
  have e := (hC.2 p hp)
  unfold CE at e
  unfold p_5 v_5 inS
  simp (disch := omega) only [v_6_i, if_true, if_false, pi_pos, pi_npos, pi_nn, pi_ng, pi_nle, pi_lt, false_or, or_false, not_false_eq_true, true_and, and_true, false_and, and_false, implies_true, not_true, not_true_eq_false, false_implies, true_implies, pi_a1, pi_a2, pi_a3, pi_ab, pi_4, pi_3, pi_6, v_70_i, v_68_i, v_69_i, mod2_i, bi_0, bi_n, vp_bi, enc_flip, flip_s, f, f1, f2, e.2.2.2.2, and_self]
theorem l15_c {P : Pl} (hV : VP P) (b : Int32) (σ : am_M) (hC : CP σ P) (hF : FC σ P b) {p q : Nat} (hp : p < P.n) (hq : q < P.n) (z x y x' y' : Int32) (h : ∀ i < 3, inS P b p x y i = inS P b q x y i ∧ inS P b p x' y' i = inS P b q x' y' i) : ∀ (f i : Nat), 3 < i + f → i ≤ 3 →
    q_15_75 f σ (Int32.ofNat p) (Int32.ofNat q) z x y x' y' (Int32.ofNat i) ∧ l_15_75 f σ (Int32.ofNat p) (Int32.ofNat q) z x y x' y' (Int32.ofNat i) = 1 := by
  intro f
  induction f with
  | zero => intro i h1 h2; omega
  | succ f ih =>
    intro i h1 h2
    rw [q_15_75, l_15_75]
    by_cases h3 : i < 3
    · obtain ⟨a1, a2⟩ := v5_c hV b σ hC hF hp x y h3
      obtain ⟨a3, a4⟩ := v5_c hV b σ hC hF hq x y h3
      obtain ⟨a5, a6⟩ := v5_c hV b σ hC hF hp x' y' h3
      obtain ⟨a7, a8⟩ := v5_c hV b σ hC hF hq x' y' h3
      obtain ⟨i1, i2⟩ := ih (i + 1) (by omega) (by omega)
      have k := h i h3
      simp (disch := omega) only [lt3_i, a1, a2, a3, a4, a5, a6, a7, a8, k, if_true, true_implies, true_and, pi_a1, i1, i2, and_self]
    · have hi3 : i = 3 := by omega
      subst hi3
      simp only [l_3, lt33, if_false, false_implies, and_self]
theorem v15_c {P : Pl} (hV : VP P) (b : Int32) (σ : am_M) (hC : CP σ P) (hF : FC σ P b) {p : Nat} (hp : p < P.n) (h0 : 0 < p) : p_15 σ (Int32.ofNat p) ∧ v_15 σ (Int32.ofNat p) = 1 := by
  have h13 := hV.n13
  obtain ⟨hq, hs⟩ := hV.tr p hp h0
  have hE := hC.2 p hp
  unfold CE at hE
  obtain ⟨e1, e2, e3⟩ := hE.1 h0
  have hx : v_36 σ (Int32.ofNat p) = bx P p ∧ p_36 σ (Int32.ofNat p) := by
    unfold v_36 p_36 bx
    simp (disch := omega) only [if_true, if_false, pi_pos, pi_npos, pi_nn, pi_ng, pi_nle, pi_lt, false_or, or_false, not_false_eq_true, true_and, and_true, false_and, and_false, implies_true, not_true, not_true_eq_false, false_implies, true_implies, pi_a1, pi_a2, pi_a3, pi_ab, pi_4, pi_3, pi_6, v_70_i, v_68_i, v_69_i, mod2_i, bi_0, bi_n, vp_bi, enc_flip, flip_s, e2]
    match P.sd p, hs with
    | 0, _ => exact ⟨hE.2.2.2.2.1, by decide⟩
    | 1, _ => exact ⟨hE.2.2.2.2.1, by decide⟩
    | 2, _ => exact ⟨hE.2.2.1, by decide⟩
    | 3, _ => exact ⟨hE.2.2.2.2.1, by decide⟩
  have hy : v_37 σ (Int32.ofNat p) = by_ P p ∧ p_37 σ (Int32.ofNat p) := by
    unfold v_37 p_37 by_
    simp (disch := omega) only [if_true, if_false, pi_pos, pi_npos, pi_nn, pi_ng, pi_nle, pi_lt, false_or, or_false, not_false_eq_true, true_and, and_true, false_and, and_false, implies_true, not_true, not_true_eq_false, false_implies, true_implies, pi_a1, pi_a2, pi_a3, pi_ab, pi_4, pi_3, pi_6, v_70_i, v_68_i, v_69_i, mod2_i, bi_0, bi_n, vp_bi, enc_flip, flip_s, e2]
    match P.sd p, hs with
    | 0, _ => exact ⟨hE.2.2.2.2.2, by decide⟩
    | 1, _ => exact ⟨hE.2.2.2.2.2, by decide⟩
    | 2, _ => exact ⟨hE.2.2.2.2.2, by decide⟩
    | 3, _ => exact ⟨hE.2.2.2.1, by decide⟩
  have near := inS_e hV b hp h0
  have far_ : ∀ i < 3, inS P b p (if (P.sd p == 0 || P.sd p == 2) = false then P.E p else bx P p) (if (P.sd p == 0 || P.sd p == 2) = false then by_ P p else P.N p) i = inS P b (P.par p) (if (P.sd p == 0 || P.sd p == 2) = false then P.E p else bx P p) (if (P.sd p == 0 || P.sd p == 2) = false then by_ P p else P.N p) i := by
    intro i hi3
    have n := near i
    unfold inS at n ⊢
    have hX : ¬ (P.sd p == 0 || P.sd p == 2) = false → cY P b p = cY P b (P.par p) := by
      intro h
      rw [cY_1 hV b hp h0]
      unfold nY
      match hsd : P.sd p, hs with
      | 0, _ => simp
      | 1, _ => rw [hsd] at h; exact absurd rfl h
      | 2, _ => simp
      | 3, _ => rw [hsd] at h; exact absurd rfl h
    have hY : (P.sd p == 0 || P.sd p == 2) = false → cX P b p = cX P b (P.par p) := by
      intro h
      rw [cX_1 hV b hp h0]
      unfold nX
      match hsd : P.sd p, hs with
      | 0, _ => rw [hsd] at h; exact absurd h (by decide)
      | 1, _ => simp
      | 2, _ => rw [hsd] at h; exact absurd h (by decide)
      | 3, _ => simp
    by_cases hh : (P.sd p == 0 || P.sd p == 2) = false
    · have e := hY hh
      simp only [hh, if_true]
      rw [e] at n ⊢
      generalize shr (cX P b (P.par p)) i = a1 at *
      generalize shr (cY P b p) i = a2 at *
      generalize shr (cY P b (P.par p)) i = a4 at *
      clear hX hY hE hx hy near
      grind
    · have e := hX hh
      simp only [hh, Bool.true_eq_false, if_false]
      rw [e] at n ⊢
      generalize shr (cX P b (P.par p)) i = a1 at *
      generalize shr (cX P b p) i = a2 at *
      generalize shr (cY P b (P.par p)) i = a4 at *
      clear hX hY hE hx hy near
      grind
  obtain ⟨k1, k2⟩ := l15_c hV b σ hC hF hp (show P.par p < P.n by omega) (bi (P.sd p == 0 || P.sd p == 2)) (bx P p) (by_ P p) _ _ (fun i hi3 => ⟨near i, far_ i hi3⟩) 14 0 (by omega) (by omega)
  rw [l_0] at k1 k2
  unfold p_15 v_15 f_15
  simp (disch := omega) only [if_true, if_false, pi_pos, pi_npos, pi_nn, pi_ng, pi_nle, pi_lt, false_or, or_false, not_false_eq_true, true_and, and_true, false_and, and_false, implies_true, not_true, not_true_eq_false, false_implies, true_implies, pi_a1, pi_a2, pi_a3, pi_ab, pi_4, pi_3, pi_6, v_70_i, v_68_i, v_69_i, mod2_i, bi_0, bi_n, vp_bi, enc_flip, flip_s, e1, e2, hx, hy, hE.2.2.1, hE.2.2.2.1, k1, k2, and_self]
theorem v14_c {P : Pl} (hV : VP P) (b : Int32) (σ : am_M) (hC : CP σ P) (hF : FC σ P b) : p_14 σ ∧ v_14 σ = 1 := by
  have h13 := hV.n13
  have st : ∀ (f k : Nat), P.n < k + f → k ≤ P.n → q_14_2 f σ (Int32.ofNat k) ∧ l_14_2 f σ (Int32.ofNat k) = 1 := by
    intro f
    induction f with
    | zero => intro k h1 h2; omega
    | succ f ih =>
      intro k h1 h2
      rw [q_14_2, l_14_2]
      have hlt : (Int32.ofNat k < σ.1 2 0) = (k < P.n) := by rw [hC.1]; exact pi_lt (by omega) (by omega)
      by_cases hk : k < P.n
      · obtain ⟨i1, i2⟩ := ih (k + 1) (by omega) (by omega)
        obtain ⟨g1', g2', g3', -⟩ := frm_c hV b k hk
        obtain ⟨f1, f2, f3, -⟩ := hF k hk
        obtain ⟨s1, s2, s3⟩ := spans hV b hk
        obtain ⟨a1, a2⟩ := v11_c hV b σ hF hk g1'
        obtain ⟨a3, a4⟩ := v11_c hV b σ hF hk g2'
        obtain ⟨a5, a6⟩ := v11_c hV b σ hF hk g3'
        have hE := hC.2 k hk
        unfold CE at hE
        have e30 : v_30 σ (Int32.ofNat k) = P.E k - P.W k ∧ p_30 σ (Int32.ofNat k) := by
          unfold v_30 p_30
          simp (disch := omega) only [if_true, if_false, pi_pos, pi_npos, pi_nn, pi_ng, pi_nle, pi_lt, false_or, or_false, not_false_eq_true, true_and, and_true, false_and, and_false, implies_true, not_true, not_true_eq_false, false_implies, true_implies, pi_a1, pi_a2, pi_a3, pi_ab, pi_4, pi_3, pi_6, v_70_i, v_68_i, v_69_i, mod2_i, bi_0, bi_n, vp_bi, enc_flip, flip_s, hE.2.2, and_self]
        have e31 : v_31 σ (Int32.ofNat k) = P.N k - P.S k ∧ p_31 σ (Int32.ofNat k) := by
          unfold v_31 p_31
          simp (disch := omega) only [if_true, if_false, pi_pos, pi_npos, pi_nn, pi_ng, pi_nle, pi_lt, false_or, or_false, not_false_eq_true, true_and, and_true, false_and, and_false, implies_true, not_true, not_true_eq_false, false_implies, true_implies, pi_a1, pi_a2, pi_a3, pi_ab, pi_4, pi_3, pi_6, v_70_i, v_68_i, v_69_i, mod2_i, bi_0, bi_n, vp_bi, enc_flip, flip_s, hE.2.2, and_self]
        by_cases h0 : 0 < k
        · obtain ⟨c1, c2⟩ := v15_c hV b σ hC hF hk h0
          simp (disch := omega) only [hlt, hk, if_true, if_false, pi_pos, pi_npos, pi_nn, pi_ng, pi_nle, pi_lt, false_or, or_false, not_false_eq_true, true_and, and_true, false_and, and_false, implies_true, not_true, not_true_eq_false, false_implies, true_implies, pi_a1, pi_a2, pi_a3, pi_ab, pi_4, pi_3, pi_6, v_70_i, v_68_i, v_69_i, mod2_i, bi_0, bi_n, vp_bi, enc_flip, flip_s, f1, f2, f3, a1, a2, a3, a4, a5, a6, s1, s2, s3, e30, e31, c1, c2, i10, i1, i2, and_self]
        · have : k = 0 := by omega
          subst this
          simp (disch := omega) only [hlt, hk, if_true, if_false, pi_pos, pi_npos, pi_nn, pi_ng, pi_nle, pi_lt, false_or, or_false, not_false_eq_true, true_and, and_true, false_and, and_false, implies_true, not_true, not_true_eq_false, false_implies, true_implies, pi_a1, pi_a2, pi_a3, pi_ab, pi_4, pi_3, pi_6, v_70_i, v_68_i, v_69_i, mod2_i, bi_0, bi_n, vp_bi, enc_flip, flip_s, f1, f2, f3, a1, a2, a3, a4, a5, a6, s1, s2, s3, e30, e31, i1, i2, and_self]
      · simp only [hlt, hk, if_false, false_implies, and_self]
  have k := st 14 0 (by omega) (by omega)
  rw [l_0] at k
  exact k
theorem c_check (σ : am_M) (h : Inv σ) : p_66 σ ∧ v_66 σ = v_118 (w_66 σ) ∧ Inv (w_118 (w_66 σ)) ∧ (w_118 (w_66 σ)).1 0 = σ.1 0 := by
  obtain ⟨P, hP⟩ := h
  have hP' := hP
  obtain ⟨hV, hC, hR, hM, hO⟩ := hP
  obtain ⟨a1, a2, a3⟩ := fold_c P hV 0 σ hC
  have hC1 : CP (w_1 σ 0) P := hC.fr a3 (by decide)
  obtain ⟨b1, b2⟩ := v14_c hV 0 _ hC1 a2
  obtain ⟨c1, c2, c3⟩ := fold_c P hV (v_28 (w_1 σ 0)) _ hC1
  have hC2 : CP (w_1 (w_1 σ 0) (v_28 (w_1 σ 0))) P := hC1.fr c3 (by decide)
  obtain ⟨d1, d2⟩ := v14_c hV _ _ hC2 c2
  unfold p_66 v_66 w_118 v_118 w_66
  simp only [a1, b1, b2, c1, d1, d2, i10, if_false, true_and, not_false_eq_true, true_implies, and_self]
  have f := a3.trans c3
  exact ask3 hP' f (Fr.refl [] _) (by decide) (by decide)
