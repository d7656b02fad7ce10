/-! the script stays as it is under the program's calls -/
theorem z_49 (σ : am_M) (x1 x2 : Int32) : (w_49 σ x1 x2).1 0 = σ.1 0 := by
  unfold w_49 w_25
  split
  · rfl
  · split
    · rfl
    · simp (disch := omega) only [am_ne]
theorem z_50 (σ : am_M) (x1 x2 x3 x4 x5 x6 : Int32) : (w_50 σ x1 x2 x3 x4 x5 x6).1 0 = σ.1 0 := by
  unfold w_50
  split
  · split
    · rfl
    · split
      · rfl
      · split
        · rfl
        · split
          · rfl
          · split
            · rfl
            · unfold w_35
              simp (disch := omega) only [am_ne]
  · rfl
theorem z_51 (σ : am_M) (x1 : Int32) : (w_51 σ x1).1 0 = σ.1 0 := by
  unfold w_51
  split
  · rfl
  · split
    · simp (disch := omega) only [am_ne]
    · rfl
theorem z_52 (σ : am_M) (x1 : Int32) : (w_52 σ x1).1 0 = σ.1 0 := by
  unfold w_52
  split
  · rfl
  · simp (disch := omega) only [am_ne]
theorem n0_ {σ : am_M} {P : Pl} (hC : CP σ P) (h : ¬ σ.1 2 0 = 0) : 0 < P.n := by
  by_cases hn : P.n = 0
  · exact absurd (by rw [hC.1, hn]; rfl) h
  · omega
theorem z_53 (σ : am_M) (h : Inv σ) : (w_53 σ).1 0 = σ.1 0 := by
  obtain ⟨P, hV, hC, -⟩ := h
  have h13 := hV.n13
  unfold w_53
  split
  · rfl
  · next hc =>
    have h0 := n0_ hC hc
    have k := over_c P hV 14 0 σ (by omega) (by omega) hC.1 (by intro p hp; omega) (fun p _ hp => hC.2 p hp)
    have hW : w_38 σ = l_38_11 14 σ (P.E 0) (Int32.ofNat 0) := by
      unfold w_38 f_38
      rw [(hC.2 0 h0).2.2.1]; rfl
    rw [am_ne _ _ _ _ _ (by decide), hW]
    exact k.2.2.1 0 (by decide)
theorem z_17 (σ : am_M) {P : Pl} (hP : InvP σ P) (h0 : 0 < P.n) : (w_17 σ (σ.1 1 4)).1 0 = σ.1 0 := by
  obtain ⟨hV, hC, -⟩ := hP
  obtain ⟨a1, a2, a3, a4⟩ := lay_c P hV (σ.1 1 4) σ h0 hC
  exact a4.1 0 (by decide)
theorem z_54 (σ : am_M) (h : Inv σ) : (w_54 σ).1 0 = σ.1 0 := by
  obtain ⟨P, hP⟩ := h
  unfold w_54 f_54
  split
  · rfl
  · next hc =>
    have z := z_17 σ hP (n0_ hP.2.1 hc)
    split
    · rw [(f54_fr _ _ _).1 0 (by decide), am_ne _ _ _ _ _ (by decide), am_ne _ _ _ _ _ (by decide), z]
    · simp only []
      rw [am_ne _ _ _ _ _ (by decide), am_ne _ _ _ _ _ (by decide), z]
theorem z_56 (σ : am_M) (h : Inv σ) (x1 x2 : Int32) : (w_56 σ x1 x2).1 0 = σ.1 0 := by
  obtain ⟨P, hP⟩ := h
  have h13 := hP.1.n13
  unfold w_56
  split
  · rfl
  · next hc =>
    rw [v_26_i σ P hP.2.1 h13, bi_0] at hc
    have hc' : 0 ≤ x1 ∧ x1 ≤ Int32.ofNat P.n - 1 := by simpa using hc
    obtain ⟨q, hq, -⟩ := rng' h13 hc'
    split
    · rfl
    · exact z_17 σ hP (by omega)
theorem z_57 (σ : am_M) (h : Inv σ) (x1 : Int32) : (w_57 σ x1).1 0 = σ.1 0 := by
  obtain ⟨P, hP⟩ := h
  unfold w_57
  split
  · rfl
  · next hc =>
    split
    · rfl
    · exact z_17 σ hP (n0_ hP.2.1 hc)
theorem z_1 (σ : am_M) (h : Inv σ) (b : Int32) : (w_1 σ b).1 0 = σ.1 0 := by
  obtain ⟨P, hV, hC, -⟩ := h
  exact (fold_c P hV b σ hC).2.2.1 0 (by decide)
theorem z_58 (σ : am_M) (h : Inv σ) (x1 x2 x3 : Int32) : (w_58 σ x1 x2 x3).1 0 = σ.1 0 := by
  unfold w_58
  split
  · rfl
  · split
    · rfl
    · split
      · rfl
      · exact z_1 σ h x1
theorem z_59 (σ : am_M) (h : Inv σ) (x1 : Int32) : (w_59 σ x1).1 0 = σ.1 0 := by
  have hI := h
  obtain ⟨P, hP⟩ := h
  have hP' := hP
  obtain ⟨hV, hC, hR, hM, hO⟩ := hP
  have h13 := hV.n13
  unfold w_59 f_59
  split
  · rfl
  · split
    · rfl
    · obtain ⟨a1, a2, a3, b1, b2, b3, b4⟩ := two_c hP' x1
      obtain ⟨N, m1, -⟩ := mt_out P x1 _ _ hV a2 b2 a3 b3 14 0 0 (by omega) (by omega)
      rw [l_0] at m1
      rw [m1]
      exact z_1 σ hI x1
theorem z_61 (σ : am_M) (h : Inv σ) (x1 x2 : Int32) : (w_61 σ x1 x2).1 0 = σ.1 0 := by
  have hI := h
  obtain ⟨P, hV, hC, -⟩ := h
  have h13 := hV.n13
  unfold w_61
  split
  · rfl
  · next hc =>
    by_cases c : 1 ≤ x2 ∧ x2 ≤ Int32.ofNat P.n - 1
    · obtain ⟨k, hk0, hk, rfl⟩ := rngb h13 c
      obtain ⟨a1, a2, a3⟩ := fold_c P hV x1 σ hC
      obtain ⟨b1, b2, b3⟩ := v42_c hV x1 _ (hC.fr a3 (by decide)) a2 hk hk0
      rw [b2.1 0 (by decide)]
      exact z_1 σ hI x1
    · exact absurd (v71_n P σ hC h13 c x1) hc
theorem z_62 (σ : am_M) (h : Inv σ) (x1 x2 : Int32) : (w_62 σ x1 x2).1 0 = σ.1 0 := by
  unfold w_62
  split
  · rfl
  · exact z_1 σ h x1
theorem z_72 (σ : am_M) {P : Pl} (hP : InvP σ P) (hn : 0 < P.n) : (w_72 σ).1 0 = σ.1 0 := by
  obtain ⟨hV, hC, hR, hM, hO⟩ := hP
  by_cases z : σ.1 1 9 = 0
  · obtain ⟨-, σ', b2, b3, -⟩ := w72_c hV σ hC hR hn z
    rw [b2, am_ne _ _ _ _ _ (by decide), b3.1 0 (by decide)]
  · unfold w_72 f_72
    rw [if_neg z]
theorem z_63 (σ : am_M) (h : Inv σ) : (w_63 σ).1 0 = σ.1 0 := by
  obtain ⟨P, hP⟩ := h
  unfold w_63
  split
  · rfl
  · next hc => exact z_72 σ hP (n0_ hP.2.1 hc)
theorem l64_m : ∀ (f : Nat) (σ : am_M) (x1 x2 x3 x4 : Int32), (l_64_45 f σ x1 x2 x3 x4).2 = σ := by
  intro f
  induction f with
  | zero => intros; rfl
  | succ f ih =>
    intro σ x1 x2 x3 x4
    rw [l_64_45]
    split
    · split
      · rfl
      · exact ih _ _ _ _ _
    · rfl
theorem l65_m : ∀ (f : Nat) (σ : am_M) (x1 x2 x3 : Int32), (l_65_45 f σ x1 x2 x3).2 = σ := by
  intro f
  induction f with
  | zero => intros; rfl
  | succ f ih =>
    intro σ x1 x2 x3
    rw [l_65_45]
    split
    · rfl
    · exact ih _ _ _ _
theorem z_64 (σ : am_M) (h : Inv σ) (x1 : Int32) : (w_64 σ x1).1 0 = σ.1 0 := by
  obtain ⟨P, hP⟩ := h
  unfold w_64 f_64
  split
  · rfl
  · next hc =>
    split
    · rfl
    · rw [l64_m]; exact z_72 σ hP (n0_ hP.2.1 hc)
theorem z_65 (σ : am_M) (h : Inv σ) (x1 : Int32) : (w_65 σ x1).1 0 = σ.1 0 := by
  obtain ⟨P, hP⟩ := h
  unfold w_65 f_65
  split
  · rfl
  · split
    · split
      · rfl
      · next hc => rw [l65_m]; exact z_72 σ hP (n0_ hP.2.1 hc)
    · rfl
theorem z_66 (σ : am_M) (h : Inv σ) : (w_66 σ).1 0 = σ.1 0 := by
  have hI := h
  obtain ⟨P, hV, hC, -⟩ := h
  unfold w_66
  split
  · exact z_1 σ hI 0
  · obtain ⟨a1, a2, a3⟩ := fold_c P hV 0 σ hC
    have hC1 : CP (w_1 σ 0) P := hC.fr a3 (by decide)
    obtain ⟨c1, c2, c3⟩ := fold_c P hV (v_28 (w_1 σ 0)) _ hC1
    rw [c3.1 0 (by decide)]
    exact z_1 σ hI 0
