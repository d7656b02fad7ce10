/-! the law's loop: every call answers alike, and keeps the invariant -/
theorem ix_ {L i k : Nat} (hL : L ≤ 3584) (h : i + k < L) : ¬ (Int32.ofNat (i + k) < 0 ∨ L ≤ (Int32.ofNat (i + k)).toNatClampNeg) := by
  rw [ng4 (by omega), nn4 (by omega)]
  simp only [false_or]; omega
theorem ix0 {L i : Nat} (hL : L ≤ 3584) (h : i + 7 ≤ L) : ¬ (Int32.ofNat i < 0 ∨ L ≤ (Int32.ofNat i).toNatClampNeg) := ix_ (k := 0) hL (by omega)
theorem ix1 {L i : Nat} (hL : L ≤ 3584) (h : i + 7 ≤ L) : ¬ (Int32.ofNat i + 1 < 0 ∨ L ≤ (Int32.ofNat i + 1).toNatClampNeg) := by
  have e : Int32.ofNat i + 1 = Int32.ofNat (i + 1) := (Int32.ofNat_add i 1).symm
  rw [e]
  exact ix_ hL (by omega)
theorem ix2 {L i : Nat} (hL : L ≤ 3584) (h : i + 7 ≤ L) : ¬ (Int32.ofNat i + 2 < 0 ∨ L ≤ (Int32.ofNat i + 2).toNatClampNeg) := by
  have e : Int32.ofNat i + 2 = Int32.ofNat (i + 2) := (Int32.ofNat_add i 2).symm
  rw [e]
  exact ix_ hL (by omega)
theorem ix3 {L i : Nat} (hL : L ≤ 3584) (h : i + 7 ≤ L) : ¬ (Int32.ofNat i + 3 < 0 ∨ L ≤ (Int32.ofNat i + 3).toNatClampNeg) := by
  have e : Int32.ofNat i + 3 = Int32.ofNat (i + 3) := (Int32.ofNat_add i 3).symm
  rw [e]
  exact ix_ hL (by omega)
theorem ix4 {L i : Nat} (hL : L ≤ 3584) (h : i + 7 ≤ L) : ¬ (Int32.ofNat i + 4 < 0 ∨ L ≤ (Int32.ofNat i + 4).toNatClampNeg) := by
  have e : Int32.ofNat i + 4 = Int32.ofNat (i + 4) := (Int32.ofNat_add i 4).symm
  rw [e]
  exact ix_ hL (by omega)
theorem ix5 {L i : Nat} (hL : L ≤ 3584) (h : i + 7 ≤ L) : ¬ (Int32.ofNat i + 5 < 0 ∨ L ≤ (Int32.ofNat i + 5).toNatClampNeg) := by
  have e : Int32.ofNat i + 5 = Int32.ofNat (i + 5) := (Int32.ofNat_add i 5).symm
  rw [e]
  exact ix_ hL (by omega)
theorem ix6 {L i : Nat} (hL : L ≤ 3584) (h : i + 7 ≤ L) : ¬ (Int32.ofNat i + 6 < 0 ∨ L ≤ (Int32.ofNat i + 6).toNatClampNeg) := by
  have e : Int32.ofNat i + 6 = Int32.ofNat (i + 6) := (Int32.ofNat_add i 6).symm
  rw [e]
  exact ix_ hL (by omega)
theorem la_0 (L : Nat) (σ : am_M) (i : Nat) (hL : L ≤ 3584) (hi : i + 7 ≤ L) (h : Inv σ) : ∃ σ', am_r L 122 120 [some (.inr (.inr (0, none))), some (.inr (.inr (1, none))), some (.inr (.inr (50, none))), some (.inl (Int32.ofNat i))] [] σ = am_r L 122 606 [some (.inr (.inr (0, none))), some (.inr (.inr (1, none))), some (.inr (.inr (50, none))), some (.inl (Int32.ofNat i))] [] σ' ∧ Inv σ' ∧ σ'.1 0 = σ.1 0 := by
  obtain ⟨hv, hI, h0⟩ := c_base σ h (σ.1 0 ((Int32.ofNat i + 1).toNatClampNeg)) (σ.1 0 ((Int32.ofNat i + 2).toNatClampNeg))
  have z := z_49 σ (σ.1 0 ((Int32.ofNat i + 1).toNatClampNeg)) (σ.1 0 ((Int32.ofNat i + 2).toNatClampNeg))
  refine ⟨_, ?_, hI, h0⟩
  refine (e_122_120 L σ _).trans ?_
  refine (if_neg (ix1 hL hi)).trans ?_
  refine (if_neg (ix2 hL hi)).trans ?_
  refine (am_bind_i (s_49 L σ _ _)).trans ?_
  refine (e_122_134 L _ _ _).trans ?_
  refine (if_neg (ix1 hL hi)).trans ?_
  refine (if_neg (ix2 hL hi)).trans ?_
  rw [z]
  refine (am_bind_i (s_76 L _ _ _)).trans ?_
  refine (e_122_148 L _ _ _ _).trans ?_
  exact if_pos hv
theorem la_1 (L : Nat) (σ : am_M) (i : Nat) (hL : L ≤ 3584) (hi : i + 7 ≤ L) (h : Inv σ) : ∃ σ', am_r L 122 153 [some (.inr (.inr (0, none))), some (.inr (.inr (1, none))), some (.inr (.inr (50, none))), some (.inl (Int32.ofNat i))] [] σ = am_r L 122 606 [some (.inr (.inr (0, none))), some (.inr (.inr (1, none))), some (.inr (.inr (50, none))), some (.inl (Int32.ofNat i))] [] σ' ∧ Inv σ' ∧ σ'.1 0 = σ.1 0 := by
  obtain ⟨p1, p2, hv, hI, h0⟩ := c_panel σ h (σ.1 0 ((Int32.ofNat i + 1).toNatClampNeg)) (σ.1 0 ((Int32.ofNat i + 2).toNatClampNeg)) (σ.1 0 ((Int32.ofNat i + 3).toNatClampNeg)) (σ.1 0 ((Int32.ofNat i + 4).toNatClampNeg)) (σ.1 0 ((Int32.ofNat i + 5).toNatClampNeg)) (σ.1 0 ((Int32.ofNat i + 6).toNatClampNeg))
  have z := z_50 σ (σ.1 0 ((Int32.ofNat i + 1).toNatClampNeg)) (σ.1 0 ((Int32.ofNat i + 2).toNatClampNeg)) (σ.1 0 ((Int32.ofNat i + 3).toNatClampNeg)) (σ.1 0 ((Int32.ofNat i + 4).toNatClampNeg)) (σ.1 0 ((Int32.ofNat i + 5).toNatClampNeg)) (σ.1 0 ((Int32.ofNat i + 6).toNatClampNeg))
  refine ⟨_, ?_, hI, h0⟩
  refine (e_122_153 L σ _).trans ?_
  refine (if_neg (ix1 hL hi)).trans ?_
  refine (if_neg (ix2 hL hi)).trans ?_
  refine (if_neg (ix3 hL hi)).trans ?_
  refine (e_122_171 L σ _ _ _ _ _).trans ?_
  refine (if_neg (ix4 hL hi)).trans ?_
  refine (if_neg (ix5 hL hi)).trans ?_
  refine (if_neg (ix6 hL hi)).trans ?_
  refine (am_bind_i (s_50 L σ _ _ _ _ _ _ p1)).trans ?_
  refine (e_122_188 L _ _ _).trans ?_
  refine (if_neg (ix1 hL hi)).trans ?_
  refine (if_neg (ix2 hL hi)).trans ?_
  refine (if_neg (ix3 hL hi)).trans ?_
  refine (e_122_206 L _ _ _ _ _ _ _).trans ?_
  refine (if_neg (ix4 hL hi)).trans ?_
  refine (if_neg (ix5 hL hi)).trans ?_
  refine (if_neg (ix6 hL hi)).trans ?_
  rw [z]
  refine (am_bind_i (s_77 L _ _ _ _ _ _ _ p2)).trans ?_
  refine (e_122_223 L _ _ _ _).trans ?_
  exact if_pos hv
theorem la_2 (L : Nat) (σ : am_M) (i : Nat) (hL : L ≤ 3584) (hi : i + 7 ≤ L) (h : Inv σ) : ∃ σ', am_r L 122 228 [some (.inr (.inr (0, none))), some (.inr (.inr (1, none))), some (.inr (.inr (50, none))), some (.inl (Int32.ofNat i))] [] σ = am_r L 122 606 [some (.inr (.inr (0, none))), some (.inr (.inr (1, none))), some (.inr (.inr (50, none))), some (.inl (Int32.ofNat i))] [] σ' ∧ Inv σ' ∧ σ'.1 0 = σ.1 0 := by
  obtain ⟨hv, hI, h0⟩ := c_ded σ h (σ.1 0 ((Int32.ofNat i + 1).toNatClampNeg))
  have z := z_51 σ (σ.1 0 ((Int32.ofNat i + 1).toNatClampNeg))
  refine ⟨_, ?_, hI, h0⟩
  refine (e_122_228 L σ _).trans ?_
  refine (if_neg (ix1 hL hi)).trans ?_
  refine (am_bind_i (s_51 L σ _)).trans ?_
  refine (e_122_237 L _ _ _).trans ?_
  refine (if_neg (ix1 hL hi)).trans ?_
  rw [z]
  refine (am_bind_i (s_78 L _ _)).trans ?_
  refine (e_122_246 L _ _ _ _).trans ?_
  exact if_pos hv
theorem la_3 (L : Nat) (σ : am_M) (i : Nat) (hL : L ≤ 3584) (hi : i + 7 ≤ L) (h : Inv σ) : ∃ σ', am_r L 122 251 [some (.inr (.inr (0, none))), some (.inr (.inr (1, none))), some (.inr (.inr (50, none))), some (.inl (Int32.ofNat i))] [] σ = am_r L 122 606 [some (.inr (.inr (0, none))), some (.inr (.inr (1, none))), some (.inr (.inr (50, none))), some (.inl (Int32.ofNat i))] [] σ' ∧ Inv σ' ∧ σ'.1 0 = σ.1 0 := by
  obtain ⟨hv, hI, h0⟩ := c_gauge σ h (σ.1 0 ((Int32.ofNat i + 1).toNatClampNeg))
  have z := z_52 σ (σ.1 0 ((Int32.ofNat i + 1).toNatClampNeg))
  refine ⟨_, ?_, hI, h0⟩
  refine (e_122_251 L σ _).trans ?_
  refine (if_neg (ix1 hL hi)).trans ?_
  refine (am_bind_i (s_52 L σ _)).trans ?_
  refine (e_122_260 L _ _ _).trans ?_
  refine (if_neg (ix1 hL hi)).trans ?_
  rw [z]
  refine (am_bind_i (s_79 L _ _)).trans ?_
  refine (e_122_269 L _ _ _ _).trans ?_
  exact if_pos hv
theorem la_4 (L : Nat) (σ : am_M) (i : Nat) (hL : L ≤ 3584) (hi : i + 7 ≤ L) (h : Inv σ) : ∃ σ', am_r L 122 274 [some (.inr (.inr (0, none))), some (.inr (.inr (1, none))), some (.inr (.inr (50, none))), some (.inl (Int32.ofNat i))] [] σ = am_r L 122 606 [some (.inr (.inr (0, none))), some (.inr (.inr (1, none))), some (.inr (.inr (50, none))), some (.inl (Int32.ofNat i))] [] σ' ∧ Inv σ' ∧ σ'.1 0 = σ.1 0 := by
  obtain ⟨p1, p2, hv, hI, h0⟩ := c_over σ h 
  have z := z_53 σ h 
  refine ⟨_, ?_, hI, h0⟩
  refine (e_122_274 L σ _).trans ?_
  refine (am_bind_i (s_53 L σ p1)).trans ?_
  refine (e_122_278 L _ _ _).trans ?_
  refine (am_bind_i (s_80 L _ p2)).trans ?_
  refine (e_122_282 L _ _ _ _).trans ?_
  exact if_pos hv
theorem la_5 (L : Nat) (σ : am_M) (i : Nat) (hL : L ≤ 3584) (hi : i + 7 ≤ L) (h : Inv σ) : ∃ σ', am_r L 122 287 [some (.inr (.inr (0, none))), some (.inr (.inr (1, none))), some (.inr (.inr (50, none))), some (.inl (Int32.ofNat i))] [] σ = am_r L 122 606 [some (.inr (.inr (0, none))), some (.inr (.inr (1, none))), some (.inr (.inr (50, none))), some (.inl (Int32.ofNat i))] [] σ' ∧ Inv σ' ∧ σ'.1 0 = σ.1 0 := by
  obtain ⟨p1, p2, hv, hI, h0⟩ := c_flat σ h 
  have z := z_54 σ h 
  refine ⟨_, ?_, hI, h0⟩
  refine (e_122_287 L σ _).trans ?_
  refine (am_bind_i (s_54 L σ p1)).trans ?_
  refine (e_122_291 L _ _ _).trans ?_
  refine (am_bind_i (s_84 L _ p2)).trans ?_
  refine (e_122_295 L _ _ _ _).trans ?_
  exact if_pos hv
theorem la_6 (L : Nat) (σ : am_M) (i : Nat) (hL : L ≤ 3584) (hi : i + 7 ≤ L) (h : Inv σ) : ∃ σ', am_r L 122 300 [some (.inr (.inr (0, none))), some (.inr (.inr (1, none))), some (.inr (.inr (50, none))), some (.inl (Int32.ofNat i))] [] σ = am_r L 122 606 [some (.inr (.inr (0, none))), some (.inr (.inr (1, none))), some (.inr (.inr (50, none))), some (.inl (Int32.ofNat i))] [] σ' ∧ Inv σ' ∧ σ'.1 0 = σ.1 0 := by
  obtain ⟨hv, hI, h0⟩ := c_wrong σ h (σ.1 0 ((Int32.ofNat i + 1).toNatClampNeg))
  refine ⟨_, ?_, hI, h0⟩
  refine (e_122_300 L σ _).trans ?_
  refine (if_neg (ix1 hL hi)).trans ?_
  refine (am_bind_i (s_55 L σ _)).trans ?_
  refine (e_122_309 L _ _ _).trans ?_
  refine (if_neg (ix1 hL hi)).trans ?_
  refine (am_bind_i (s_85 L _ _)).trans ?_
  refine (e_122_318 L _ _ _ _).trans ?_
  exact if_pos hv
theorem la_7 (L : Nat) (σ : am_M) (i : Nat) (hL : L ≤ 3584) (hi : i + 7 ≤ L) (h : Inv σ) : ∃ σ', am_r L 122 323 [some (.inr (.inr (0, none))), some (.inr (.inr (1, none))), some (.inr (.inr (50, none))), some (.inl (Int32.ofNat i))] [] σ = am_r L 122 606 [some (.inr (.inr (0, none))), some (.inr (.inr (1, none))), some (.inr (.inr (50, none))), some (.inl (Int32.ofNat i))] [] σ' ∧ Inv σ' ∧ σ'.1 0 = σ.1 0 := by
  obtain ⟨p1, p2, hv, hI, h0⟩ := c_flatOf σ h (σ.1 0 ((Int32.ofNat i + 1).toNatClampNeg)) (σ.1 0 ((Int32.ofNat i + 2).toNatClampNeg))
  have z := z_56 σ h (σ.1 0 ((Int32.ofNat i + 1).toNatClampNeg)) (σ.1 0 ((Int32.ofNat i + 2).toNatClampNeg))
  refine ⟨_, ?_, hI, h0⟩
  refine (e_122_323 L σ _).trans ?_
  refine (if_neg (ix1 hL hi)).trans ?_
  refine (if_neg (ix2 hL hi)).trans ?_
  refine (am_bind_i (s_56 L σ _ _ p1)).trans ?_
  refine (e_122_337 L _ _ _).trans ?_
  refine (if_neg (ix1 hL hi)).trans ?_
  refine (if_neg (ix2 hL hi)).trans ?_
  rw [z]
  refine (am_bind_i (s_86 L _ _ _ p2)).trans ?_
  refine (e_122_351 L _ _ _ _).trans ?_
  exact if_pos hv
theorem la_8 (L : Nat) (σ : am_M) (i : Nat) (hL : L ≤ 3584) (hi : i + 7 ≤ L) (h : Inv σ) : ∃ σ', am_r L 122 356 [some (.inr (.inr (0, none))), some (.inr (.inr (1, none))), some (.inr (.inr (50, none))), some (.inl (Int32.ofNat i))] [] σ = am_r L 122 606 [some (.inr (.inr (0, none))), some (.inr (.inr (1, none))), some (.inr (.inr (50, none))), some (.inl (Int32.ofNat i))] [] σ' ∧ Inv σ' ∧ σ'.1 0 = σ.1 0 := by
  obtain ⟨p1, p2, hv, hI, h0⟩ := c_size σ h (σ.1 0 ((Int32.ofNat i + 1).toNatClampNeg))
  have z := z_57 σ h (σ.1 0 ((Int32.ofNat i + 1).toNatClampNeg))
  refine ⟨_, ?_, hI, h0⟩
  refine (e_122_356 L σ _).trans ?_
  refine (if_neg (ix1 hL hi)).trans ?_
  refine (am_bind_i (s_57 L σ _ p1)).trans ?_
  refine (e_122_365 L _ _ _).trans ?_
  refine (if_neg (ix1 hL hi)).trans ?_
  rw [z]
  refine (am_bind_i (s_87 L _ _ p2)).trans ?_
  refine (e_122_374 L _ _ _ _).trans ?_
  exact if_pos hv
theorem la_9 (L : Nat) (σ : am_M) (i : Nat) (hL : L ≤ 3584) (hi : i + 7 ≤ L) (h : Inv σ) : ∃ σ', am_r L 122 379 [some (.inr (.inr (0, none))), some (.inr (.inr (1, none))), some (.inr (.inr (50, none))), some (.inl (Int32.ofNat i))] [] σ = am_r L 122 606 [some (.inr (.inr (0, none))), some (.inr (.inr (1, none))), some (.inr (.inr (50, none))), some (.inl (Int32.ofNat i))] [] σ' ∧ Inv σ' ∧ σ'.1 0 = σ.1 0 := by
  obtain ⟨p1, p2, hv, hI, h0⟩ := c_place σ h (σ.1 0 ((Int32.ofNat i + 1).toNatClampNeg)) (σ.1 0 ((Int32.ofNat i + 2).toNatClampNeg)) (σ.1 0 ((Int32.ofNat i + 3).toNatClampNeg))
  have z := z_58 σ h (σ.1 0 ((Int32.ofNat i + 1).toNatClampNeg)) (σ.1 0 ((Int32.ofNat i + 2).toNatClampNeg)) (σ.1 0 ((Int32.ofNat i + 3).toNatClampNeg))
  refine ⟨_, ?_, hI, h0⟩
  refine (e_122_379 L σ _).trans ?_
  refine (if_neg (ix1 hL hi)).trans ?_
  refine (if_neg (ix2 hL hi)).trans ?_
  refine (if_neg (ix3 hL hi)).trans ?_
  refine (am_bind_i (s_58 L σ _ _ _ p1)).trans ?_
  refine (e_122_398 L _ _ _).trans ?_
  refine (if_neg (ix1 hL hi)).trans ?_
  refine (if_neg (ix2 hL hi)).trans ?_
  refine (if_neg (ix3 hL hi)).trans ?_
  rw [z]
  refine (am_bind_i (s_91 L _ _ _ _ p2)).trans ?_
  refine (e_122_417 L _ _ _ _).trans ?_
  exact if_pos hv
theorem la_10 (L : Nat) (σ : am_M) (i : Nat) (hL : L ≤ 3584) (hi : i + 7 ≤ L) (h : Inv σ) : ∃ σ', am_r L 122 422 [some (.inr (.inr (0, none))), some (.inr (.inr (1, none))), some (.inr (.inr (50, none))), some (.inl (Int32.ofNat i))] [] σ = am_r L 122 606 [some (.inr (.inr (0, none))), some (.inr (.inr (1, none))), some (.inr (.inr (50, none))), some (.inl (Int32.ofNat i))] [] σ' ∧ Inv σ' ∧ σ'.1 0 = σ.1 0 := by
  obtain ⟨p1, p2, hv, hI, h0⟩ := c_meets σ h (σ.1 0 ((Int32.ofNat i + 1).toNatClampNeg))
  have z := z_59 σ h (σ.1 0 ((Int32.ofNat i + 1).toNatClampNeg))
  refine ⟨_, ?_, hI, h0⟩
  refine (e_122_422 L σ _).trans ?_
  refine (if_neg (ix1 hL hi)).trans ?_
  refine (am_bind_i (s_59 L σ _ p1)).trans ?_
  refine (e_122_431 L _ _ _).trans ?_
  refine (if_neg (ix1 hL hi)).trans ?_
  rw [z]
  refine (am_bind_i (s_93 L _ _ p2)).trans ?_
  refine (e_122_440 L _ _ _ _).trans ?_
  exact if_pos hv
theorem la_11 (L : Nat) (σ : am_M) (i : Nat) (hL : L ≤ 3584) (hi : i + 7 ≤ L) (h : Inv σ) : ∃ σ', am_r L 122 445 [some (.inr (.inr (0, none))), some (.inr (.inr (1, none))), some (.inr (.inr (50, none))), some (.inl (Int32.ofNat i))] [] σ = am_r L 122 606 [some (.inr (.inr (0, none))), some (.inr (.inr (1, none))), some (.inr (.inr (50, none))), some (.inl (Int32.ofNat i))] [] σ' ∧ Inv σ' ∧ σ'.1 0 = σ.1 0 := by
  obtain ⟨p1, p2, hv, hI, h0⟩ := c_moves σ h (σ.1 0 ((Int32.ofNat i + 1).toNatClampNeg))
  refine ⟨_, ?_, hI, h0⟩
  refine (e_122_445 L σ _).trans ?_
  refine (if_neg (ix1 hL hi)).trans ?_
  refine (am_bind_i (s_60 L σ _ p1)).trans ?_
  refine (e_122_454 L _ _ _).trans ?_
  refine (if_neg (ix1 hL hi)).trans ?_
  refine (am_bind_i (s_98 L _ _ p2)).trans ?_
  refine (e_122_463 L _ _ _ _).trans ?_
  exact if_pos hv
theorem la_12 (L : Nat) (σ : am_M) (i : Nat) (hL : L ≤ 3584) (hi : i + 7 ≤ L) (h : Inv σ) : ∃ σ', am_r L 122 468 [some (.inr (.inr (0, none))), some (.inr (.inr (1, none))), some (.inr (.inr (50, none))), some (.inl (Int32.ofNat i))] [] σ = am_r L 122 606 [some (.inr (.inr (0, none))), some (.inr (.inr (1, none))), some (.inr (.inr (50, none))), some (.inl (Int32.ofNat i))] [] σ' ∧ Inv σ' ∧ σ'.1 0 = σ.1 0 := by
  obtain ⟨p1, p2, hv, hI, h0⟩ := c_clear σ h (σ.1 0 ((Int32.ofNat i + 1).toNatClampNeg)) (σ.1 0 ((Int32.ofNat i + 2).toNatClampNeg))
  have z := z_61 σ h (σ.1 0 ((Int32.ofNat i + 1).toNatClampNeg)) (σ.1 0 ((Int32.ofNat i + 2).toNatClampNeg))
  refine ⟨_, ?_, hI, h0⟩
  refine (e_122_468 L σ _).trans ?_
  refine (if_neg (ix1 hL hi)).trans ?_
  refine (if_neg (ix2 hL hi)).trans ?_
  refine (am_bind_i (s_61 L σ _ _ p1)).trans ?_
  refine (e_122_482 L _ _ _).trans ?_
  refine (if_neg (ix1 hL hi)).trans ?_
  refine (if_neg (ix2 hL hi)).trans ?_
  rw [z]
  refine (am_bind_i (s_111 L _ _ _ p2)).trans ?_
  refine (e_122_496 L _ _ _ _).trans ?_
  exact if_pos hv
theorem la_13 (L : Nat) (σ : am_M) (i : Nat) (hL : L ≤ 3584) (hi : i + 7 ≤ L) (h : Inv σ) : ∃ σ', am_r L 122 501 [some (.inr (.inr (0, none))), some (.inr (.inr (1, none))), some (.inr (.inr (50, none))), some (.inl (Int32.ofNat i))] [] σ = am_r L 122 606 [some (.inr (.inr (0, none))), some (.inr (.inr (1, none))), some (.inr (.inr (50, none))), some (.inl (Int32.ofNat i))] [] σ' ∧ Inv σ' ∧ σ'.1 0 = σ.1 0 := by
  obtain ⟨p1, p2, hv, hI, h0⟩ := c_edge σ h (σ.1 0 ((Int32.ofNat i + 1).toNatClampNeg)) (σ.1 0 ((Int32.ofNat i + 2).toNatClampNeg))
  have z := z_62 σ h (σ.1 0 ((Int32.ofNat i + 1).toNatClampNeg)) (σ.1 0 ((Int32.ofNat i + 2).toNatClampNeg))
  refine ⟨_, ?_, hI, h0⟩
  refine (e_122_501 L σ _).trans ?_
  refine (if_neg (ix1 hL hi)).trans ?_
  refine (if_neg (ix2 hL hi)).trans ?_
  refine (am_bind_i (s_62 L σ _ _ p1)).trans ?_
  refine (e_122_515 L _ _ _).trans ?_
  refine (if_neg (ix1 hL hi)).trans ?_
  refine (if_neg (ix2 hL hi)).trans ?_
  rw [z]
  refine (am_bind_i (s_113 L _ _ _ p2)).trans ?_
  refine (e_122_529 L _ _ _ _).trans ?_
  exact if_pos hv
theorem la_14 (L : Nat) (σ : am_M) (i : Nat) (hL : L ≤ 3584) (hi : i + 7 ≤ L) (h : Inv σ) : ∃ σ', am_r L 122 534 [some (.inr (.inr (0, none))), some (.inr (.inr (1, none))), some (.inr (.inr (50, none))), some (.inl (Int32.ofNat i))] [] σ = am_r L 122 606 [some (.inr (.inr (0, none))), some (.inr (.inr (1, none))), some (.inr (.inr (50, none))), some (.inl (Int32.ofNat i))] [] σ' ∧ Inv σ' ∧ σ'.1 0 = σ.1 0 := by
  obtain ⟨p1, p2, hv, hI, h0⟩ := c_order σ h 
  have z := z_63 σ h 
  refine ⟨_, ?_, hI, h0⟩
  refine (e_122_534 L σ _).trans ?_
  refine (am_bind_i (s_63 L σ p1)).trans ?_
  refine (e_122_538 L _ _ _).trans ?_
  refine (am_bind_i (s_115 L _ p2)).trans ?_
  refine (e_122_542 L _ _ _ _).trans ?_
  exact if_pos hv
theorem la_15 (L : Nat) (σ : am_M) (i : Nat) (hL : L ≤ 3584) (hi : i + 7 ≤ L) (h : Inv σ) : ∃ σ', am_r L 122 547 [some (.inr (.inr (0, none))), some (.inr (.inr (1, none))), some (.inr (.inr (50, none))), some (.inl (Int32.ofNat i))] [] σ = am_r L 122 606 [some (.inr (.inr (0, none))), some (.inr (.inr (1, none))), some (.inr (.inr (50, none))), some (.inl (Int32.ofNat i))] [] σ' ∧ Inv σ' ∧ σ'.1 0 = σ.1 0 := by
  obtain ⟨p1, p2, hv, hI, h0⟩ := c_step σ h (σ.1 0 ((Int32.ofNat i + 1).toNatClampNeg))
  have z := z_64 σ h (σ.1 0 ((Int32.ofNat i + 1).toNatClampNeg))
  refine ⟨_, ?_, hI, h0⟩
  refine (e_122_547 L σ _).trans ?_
  refine (if_neg (ix1 hL hi)).trans ?_
  refine (am_bind_i (s_64 L σ _ p1)).trans ?_
  refine (e_122_556 L _ _ _).trans ?_
  refine (if_neg (ix1 hL hi)).trans ?_
  rw [z]
  refine (am_bind_i (s_116 L _ _ p2)).trans ?_
  refine (e_122_565 L _ _ _ _).trans ?_
  exact if_pos hv
theorem la_16 (L : Nat) (σ : am_M) (i : Nat) (hL : L ≤ 3584) (hi : i + 7 ≤ L) (h : Inv σ) : ∃ σ', am_r L 122 570 [some (.inr (.inr (0, none))), some (.inr (.inr (1, none))), some (.inr (.inr (50, none))), some (.inl (Int32.ofNat i))] [] σ = am_r L 122 606 [some (.inr (.inr (0, none))), some (.inr (.inr (1, none))), some (.inr (.inr (50, none))), some (.inl (Int32.ofNat i))] [] σ' ∧ Inv σ' ∧ σ'.1 0 = σ.1 0 := by
  obtain ⟨p1, p2, hv, hI, h0⟩ := c_count σ h (σ.1 0 ((Int32.ofNat i + 1).toNatClampNeg))
  have z := z_65 σ h (σ.1 0 ((Int32.ofNat i + 1).toNatClampNeg))
  refine ⟨_, ?_, hI, h0⟩
  refine (e_122_570 L σ _).trans ?_
  refine (if_neg (ix1 hL hi)).trans ?_
  refine (am_bind_i (s_65 L σ _ p1)).trans ?_
  refine (e_122_579 L _ _ _).trans ?_
  refine (if_neg (ix1 hL hi)).trans ?_
  rw [z]
  refine (am_bind_i (s_117 L _ _ p2)).trans ?_
  refine (e_122_588 L _ _ _ _).trans ?_
  exact if_pos hv
theorem la_17 (L : Nat) (σ : am_M) (i : Nat) (hL : L ≤ 3584) (hi : i + 7 ≤ L) (h : Inv σ) : ∃ σ', am_r L 122 593 [some (.inr (.inr (0, none))), some (.inr (.inr (1, none))), some (.inr (.inr (50, none))), some (.inl (Int32.ofNat i))] [] σ = am_r L 122 606 [some (.inr (.inr (0, none))), some (.inr (.inr (1, none))), some (.inr (.inr (50, none))), some (.inl (Int32.ofNat i))] [] σ' ∧ Inv σ' ∧ σ'.1 0 = σ.1 0 := by
  obtain ⟨p1, hv, hI, h0⟩ := c_check σ h 
  have z := z_66 σ h 
  refine ⟨_, ?_, hI, h0⟩
  refine (e_122_593 L σ _).trans ?_
  refine (am_bind_i (s_66 L σ p1)).trans ?_
  refine (e_122_597 L _ _ _).trans ?_
  refine (am_bind_i (s_118 L _)).trans ?_
  refine (e_122_601 L _ _ _ _).trans ?_
  exact if_pos hv
theorem sw_c (x : Int32) : am_sw 33 573 0 17 #[87, 120, 195, 218, 241, 254, 267, 290, 323, 346, 389, 412, 435, 468, 501, 514, 537, 560] x = 120 ∨ am_sw 33 573 0 17 #[87, 120, 195, 218, 241, 254, 267, 290, 323, 346, 389, 412, 435, 468, 501, 514, 537, 560] x = 153 ∨ am_sw 33 573 0 17 #[87, 120, 195, 218, 241, 254, 267, 290, 323, 346, 389, 412, 435, 468, 501, 514, 537, 560] x = 228 ∨ am_sw 33 573 0 17 #[87, 120, 195, 218, 241, 254, 267, 290, 323, 346, 389, 412, 435, 468, 501, 514, 537, 560] x = 251 ∨ am_sw 33 573 0 17 #[87, 120, 195, 218, 241, 254, 267, 290, 323, 346, 389, 412, 435, 468, 501, 514, 537, 560] x = 274 ∨ am_sw 33 573 0 17 #[87, 120, 195, 218, 241, 254, 267, 290, 323, 346, 389, 412, 435, 468, 501, 514, 537, 560] x = 287 ∨ am_sw 33 573 0 17 #[87, 120, 195, 218, 241, 254, 267, 290, 323, 346, 389, 412, 435, 468, 501, 514, 537, 560] x = 300 ∨ am_sw 33 573 0 17 #[87, 120, 195, 218, 241, 254, 267, 290, 323, 346, 389, 412, 435, 468, 501, 514, 537, 560] x = 323 ∨ am_sw 33 573 0 17 #[87, 120, 195, 218, 241, 254, 267, 290, 323, 346, 389, 412, 435, 468, 501, 514, 537, 560] x = 356 ∨ am_sw 33 573 0 17 #[87, 120, 195, 218, 241, 254, 267, 290, 323, 346, 389, 412, 435, 468, 501, 514, 537, 560] x = 379 ∨ am_sw 33 573 0 17 #[87, 120, 195, 218, 241, 254, 267, 290, 323, 346, 389, 412, 435, 468, 501, 514, 537, 560] x = 422 ∨ am_sw 33 573 0 17 #[87, 120, 195, 218, 241, 254, 267, 290, 323, 346, 389, 412, 435, 468, 501, 514, 537, 560] x = 445 ∨ am_sw 33 573 0 17 #[87, 120, 195, 218, 241, 254, 267, 290, 323, 346, 389, 412, 435, 468, 501, 514, 537, 560] x = 468 ∨ am_sw 33 573 0 17 #[87, 120, 195, 218, 241, 254, 267, 290, 323, 346, 389, 412, 435, 468, 501, 514, 537, 560] x = 501 ∨ am_sw 33 573 0 17 #[87, 120, 195, 218, 241, 254, 267, 290, 323, 346, 389, 412, 435, 468, 501, 514, 537, 560] x = 534 ∨ am_sw 33 573 0 17 #[87, 120, 195, 218, 241, 254, 267, 290, 323, 346, 389, 412, 435, 468, 501, 514, 537, 560] x = 547 ∨ am_sw 33 573 0 17 #[87, 120, 195, 218, 241, 254, 267, 290, 323, 346, 389, 412, 435, 468, 501, 514, 537, 560] x = 570 ∨ am_sw 33 573 0 17 #[87, 120, 195, 218, 241, 254, 267, 290, 323, 346, 389, 412, 435, 468, 501, 514, 537, 560] x = 593 ∨ am_sw 33 573 0 17 #[87, 120, 195, 218, 241, 254, 267, 290, 323, 346, 389, 412, 435, 468, 501, 514, 537, 560] x = 606 := by
  unfold am_sw
  by_cases h : x.toInt < 0 ∨ 17 < x.toInt
  · rw [if_pos h]
    decide
  · rw [if_neg h]
    have k : ∃ n : Nat, n < 18 ∧ x.toInt = n := ⟨x.toInt.toNat, by omega, by omega⟩
    obtain ⟨n, hn, e⟩ := k
    rw [e]
    clear h e
    revert n
    decide
theorem lend {L i : Nat} (hL : L ≤ 3584) (hi : i ≤ 4000) : (Int32.ofNat L - 7 < Int32.ofNat i) = (L < i + 7) := by
  have e1 : (Int32.ofNat L).toInt = L := Int32.toInt_ofNat_of_lt (by omega)
  have e2 : (Int32.ofNat i).toInt = i := Int32.toInt_ofNat_of_lt (by omega)
  have e3 : (7 : Int32).toInt = 7 := rfl
  rw [tlt, tS (by omega), e1, e2, e3]
  exact propext (by omega)
theorem la_loop (L : Nat) (hL : L ≤ 3584) : ∀ (d i : Nat) (σ : am_M), L < i + 7 * d → i ≤ L + 7 → Inv σ → ∃ g, am_r L 122 18 [some (.inr (.inr (0, none))), some (.inr (.inr (1, none))), some (.inr (.inr (50, none))), some (.inl (Int32.ofNat i))] [] σ = some (some (.inl 1), am_sh0 L, g) := by
  intro d
  induction d with
  | zero =>
    intro i σ h1 h2 h
    refine ⟨σ, ?_⟩
    refine (e_122_18 L σ _).trans ?_
    have hc : Int32.ofNat L - 7 < Int32.ofNat i := by rw [lend hL (by omega)]; omega
    refine (if_pos hc).trans ?_
    refine (e_122_612 L σ _).trans ?_
    refine (e_122_613 L σ _ _).trans ?_
    exact if_pos (Or.inr rfl)
  | succ d ih =>
    intro i σ h1 h2 h
    by_cases hc : L < i + 7
    · refine ⟨σ, ?_⟩
      refine (e_122_18 L σ _).trans ?_
      have hc' : Int32.ofNat L - 7 < Int32.ofNat i := by rw [lend hL (by omega)]; exact hc
      refine (if_pos hc').trans ?_
      refine (e_122_612 L σ _).trans ?_
      refine (e_122_613 L σ _ _).trans ?_
      exact if_pos (Or.inr rfl)
    · have hi : i + 7 ≤ L := by omega
      have hc' : ¬ (Int32.ofNat L - 7 < Int32.ofNat i) := by rw [lend hL (by omega)]; exact hc
      have key : ∃ σ', am_r L 122 18 [some (.inr (.inr (0, none))), some (.inr (.inr (1, none))), some (.inr (.inr (50, none))), some (.inl (Int32.ofNat i))] [] σ = am_r L 122 606 [some (.inr (.inr (0, none))), some (.inr (.inr (1, none))), some (.inr (.inr (50, none))), some (.inl (Int32.ofNat i))] [] σ' ∧ Inv σ' := by
        have e := (e_122_18 L σ (Int32.ofNat i)).trans ((if_neg hc').trans (if_neg (ix0 hL hi)))
        rw [e]
        rcases sw_c ((σ.1 0 (Int32.ofNat i).toNatClampNeg) &&& 31) with hs | hs | hs | hs | hs | hs | hs | hs | hs | hs | hs | hs | hs | hs | hs | hs | hs | hs | hs
        · rw [hs]; obtain ⟨σ', k1, k2, -⟩ := la_0 L σ i hL hi h; exact ⟨σ', k1, k2⟩
        · rw [hs]; obtain ⟨σ', k1, k2, -⟩ := la_1 L σ i hL hi h; exact ⟨σ', k1, k2⟩
        · rw [hs]; obtain ⟨σ', k1, k2, -⟩ := la_2 L σ i hL hi h; exact ⟨σ', k1, k2⟩
        · rw [hs]; obtain ⟨σ', k1, k2, -⟩ := la_3 L σ i hL hi h; exact ⟨σ', k1, k2⟩
        · rw [hs]; obtain ⟨σ', k1, k2, -⟩ := la_4 L σ i hL hi h; exact ⟨σ', k1, k2⟩
        · rw [hs]; obtain ⟨σ', k1, k2, -⟩ := la_5 L σ i hL hi h; exact ⟨σ', k1, k2⟩
        · rw [hs]; obtain ⟨σ', k1, k2, -⟩ := la_6 L σ i hL hi h; exact ⟨σ', k1, k2⟩
        · rw [hs]; obtain ⟨σ', k1, k2, -⟩ := la_7 L σ i hL hi h; exact ⟨σ', k1, k2⟩
        · rw [hs]; obtain ⟨σ', k1, k2, -⟩ := la_8 L σ i hL hi h; exact ⟨σ', k1, k2⟩
        · rw [hs]; obtain ⟨σ', k1, k2, -⟩ := la_9 L σ i hL hi h; exact ⟨σ', k1, k2⟩
        · rw [hs]; obtain ⟨σ', k1, k2, -⟩ := la_10 L σ i hL hi h; exact ⟨σ', k1, k2⟩
        · rw [hs]; obtain ⟨σ', k1, k2, -⟩ := la_11 L σ i hL hi h; exact ⟨σ', k1, k2⟩
        · rw [hs]; obtain ⟨σ', k1, k2, -⟩ := la_12 L σ i hL hi h; exact ⟨σ', k1, k2⟩
        · rw [hs]; obtain ⟨σ', k1, k2, -⟩ := la_13 L σ i hL hi h; exact ⟨σ', k1, k2⟩
        · rw [hs]; obtain ⟨σ', k1, k2, -⟩ := la_14 L σ i hL hi h; exact ⟨σ', k1, k2⟩
        · rw [hs]; obtain ⟨σ', k1, k2, -⟩ := la_15 L σ i hL hi h; exact ⟨σ', k1, k2⟩
        · rw [hs]; obtain ⟨σ', k1, k2, -⟩ := la_16 L σ i hL hi h; exact ⟨σ', k1, k2⟩
        · rw [hs]; obtain ⟨σ', k1, k2, -⟩ := la_17 L σ i hL hi h; exact ⟨σ', k1, k2⟩
        · rw [hs]; exact ⟨σ, rfl, h⟩
      obtain ⟨σ', k1, k2⟩ := key
      obtain ⟨g, k3⟩ := ih (i + 7) σ' (by omega) (by omega) k2
      refine ⟨g, ?_⟩
      refine k1.trans ?_
      refine (e_122_606 L σ' _).trans ?_
      have e7 : Int32.ofNat i + 7 = Int32.ofNat (i + 7) := (Int32.ofNat_add i 7).symm
      rw [e7]
      exact k3
def P0 : Pl := Pl.mk 0 (fun _ => 0) (fun _ => 0) (fun _ => false) (fun _ _ => false) (fun _ => 0) (fun _ => 0) (fun _ => 0) (fun _ => 0)
theorem P0_n : P0.n = 0 := rfl
theorem Inv0 (s : am_M) : Inv (am_g0 s) := by
  refine ⟨P0, ⟨by decide, ?_, ?_, ?_, ?_, ?_, ?_⟩, ⟨rfl, ?_⟩, ⟨rfl, ?_⟩, ⟨rfl, rfl, rfl, rfl⟩, Or.inl ⟨rfl, rfl⟩⟩
  · intro p hp; rw [P0_n] at hp; omega
  · intro p hp; rw [P0_n] at hp; omega
  · intro hp; rw [P0_n] at hp; omega
  · intro p hp; rw [P0_n] at hp; omega
  · intro p hp; rw [P0_n] at hp; omega
  · intro p hp; rw [P0_n] at hp; omega
  · intro p hp; rw [P0_n] at hp; omega
  · intro p hp; rw [P0_n] at hp; omega
theorem am_pure_ok : am_pure := by
  intro L xs hL
  obtain ⟨g, hg⟩ := la_loop L hL 513 0 (am_g0 (am_g1 xs)) (by omega) (by omega) (Inv0 _)
  refine ⟨am_sh0 L, g, ?_, ?_, ?_⟩
  · exact (am_begin L (am_g1 xs)).trans hg
  · show (am_sh0 L).length ≤ 600001
    unfold am_sh0
    simp only [List.length_cons, List.length_nil]
    decide
  · unfold am_sl am_sh0
    simp only [List.map_cons, List.map_nil, List.sum_cons, List.sum_nil, am_s1, List.length_cons, List.length_nil]
    omega
