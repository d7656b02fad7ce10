def Pl.one (w h : Int32) : Pl := Pl.mk 1 (fun _ => 0) (fun _ => 0) (fun _ => false) (fun _ _ => false) (fun _ => 0) (fun _ => 0) (fun _ => w) (fun _ => h)
theorem one_V (w h : Int32) (hw : 1 ≤ w ∧ w ≤ 2000) (hh : 1 ≤ h ∧ h ≤ 2000) : VP (Pl.one w h) := by
  have hn : (Pl.one w h).n = 1 := rfl
  refine ⟨by rw [hn]; decide, ?_, ?_, ?_, ?_, ?_, ?_⟩
  · intro p hp h0; rw [hn] at hp; omega
  · intro p hp s hs
    rw [hn] at hp
    have h1 : (Pl.one w h).bt p s = false := rfl
    rw [h1, hn]
    constructor
    · intro h; cases h
    · rintro (⟨h0, -⟩ | ⟨k, hk, hk0, -⟩) <;> omega
  · intro _
    exact ⟨hw.1, hw.2, hh.1, hh.2, rfl, rfl⟩
  · intro p hp
    rw [hn] at hp
    have : p = 0 := by omega
    subst this
    have e1 : (Pl.one w h).W 0 = 0 := rfl
    have e2 : (Pl.one w h).E 0 = w := rfl
    rw [e1, e2]
    have : Int32.ofNat 0 = 0 := by decide
    rw [this]
    clear hh
    refine ⟨?_, ?_, ?_, ?_⟩ <;> grind
  · intro p hp
    rw [hn] at hp
    have : p = 0 := by omega
    subst this
    have e1 : (Pl.one w h).S 0 = 0 := rfl
    have e2 : (Pl.one w h).N 0 = h := rfl
    rw [e1, e2]
    have : Int32.ofNat 0 = 0 := by decide
    rw [this]
    clear hw
    refine ⟨?_, ?_, ?_, ?_⟩ <;> grind
  · intro p hp h0; rw [hn] at hp; omega
theorem p500 (σ : am_M) (v : Int32) : Keep σ (am_put σ 50 0 v) := Keep.put1 _ _ _ _ (Or.inr ⟨rfl, Or.inl rfl⟩)
theorem inv500 {σ : am_M} (h : Inv σ) (v : Int32) : Inv (am_put σ 50 0 v) ∧ (am_put σ 50 0 v).1 0 = σ.1 0 := by
  obtain ⟨P, hP⟩ := h
  refine ⟨⟨P, (p500 σ v).toInv hP ?_ ?_⟩, ?_⟩
  · have := hP.2.2.2.1.2.2.1; simpa [am_rd] using this
  · have := hP.2.2.2.1.2.2.2; simpa [am_rd] using this
  · exact (p500 σ v).1 0 (by decide)
theorem enc_0 : enc (fun _ => false) = 0 := by decide
theorem c_base (σ : am_M) (h : Inv σ) (x1 x2 : Int32) : v_49 σ x1 x2 = v_76 (w_49 σ x1 x2) x1 x2 ∧ Inv (w_76 (w_49 σ x1 x2) x1 x2) ∧ (w_76 (w_49 σ x1 x2) x1 x2).1 0 = σ.1 0 := by
  unfold v_49 v_76 w_76 w_49
  simp only [isIn_i, isWi_i, bi_0, decide_eq_false_iff_not]
  by_cases c1 : 1 ≤ x1 ∧ x1 ≤ 2000
  · by_cases c2 : 1 ≤ x2 ∧ x2 ≤ 2000
    · simp only [c1, c2, not_true, if_false, true_and, and_true, not_true_eq_false]
      refine ⟨⟨Pl.one x1 x2, one_V x1 x2 c1 c2, ⟨?_, ?_⟩, ⟨?_, ?_⟩, ?_, Or.inl ?_⟩, ?_⟩
      · unfold w_25; simp [am_rd]; rfl
      · intro p hp
        have : p = 0 := by have : (Pl.one x1 x2).n = 1 := rfl; omega
        subst this
        unfold w_25
        have h6 : enc ((Pl.one x1 x2).bt 0) = 0 := enc_0
        refine ⟨fun h => absurd h (by decide), ?_, ?_, ?_, ?_, ?_⟩ <;> simp [am_rd, h6] <;> rfl
      · simp [am_rd]; rfl
      · intro p hp
        have : p = 0 := by have : (Pl.one x1 x2).n = 1 := rfl; omega
        subst this
        refine ⟨fun h => absurd h (by decide), ?_, ?_, ?_, ?_⟩ <;> simp [am_rd] <;> rfl
      · obtain ⟨P, hP⟩ := h
        have := hP.2.2.2.1
        unfold Misc w_25 at *
        simpa [am_rd] using this
      · unfold w_25; simp [am_rd]
      · unfold w_25; rfl
    · simp only [c1, c2, not_true, if_false, true_and, and_true, not_false_eq_true, if_true, not_true_eq_false]
      exact inv500 h 0
  · simp only [c1, not_true, if_false, true_and, and_true, not_false_eq_true, if_true]
    exact inv500 h 0
theorem bit1 (d : Int32) (h : 0 ≤ d) (h2 : d ≤ 400) : (d &&& 1 = 0) = (d - d / 2 * 2 = 0) := by
  have key : ∀ k ≤ 400, (Int32.ofNat k &&& 1 = 0) = (Int32.ofNat k - Int32.ofNat k / 2 * 2 = 0) := by decide +kernel
  have e : d = Int32.ofNat d.toNatClampNeg := by
    rw [Int32.ofNat_toNatClampNeg]
    exact h
  have hk : d.toNatClampNeg ≤ 400 := by
    have := Int32.toNatClampNeg_le (a := d) (b := 400) h2
    simpa using this
  rw [e]
  exact key _ hk
