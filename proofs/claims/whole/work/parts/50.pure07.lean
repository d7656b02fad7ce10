theorem CP.ag {σ σ' : am_M} {P : Pl} (hc : CP σ P) (h : ∀ l ∈ [2, 3, 4, 5, 6, 8, 9, 10, 11], σ'.1 l = σ.1 l) : CP σ' P := by
  simp only [List.forall_mem_cons] at h
  obtain ⟨a2, a3, a4, a5, a6, a8, a9, a10, a11, -⟩ := h
  unfold CP CE at hc ⊢
  rw [a2, a3, a4, a5, a6, a8, a9, a10, a11]
  exact hc
theorem RP.ag {σ σ' : am_M} {P : Pl} (hc : RP σ P) (h : ∀ l ∈ [51, 52, 53, 54], σ'.1 l = σ.1 l) (h1 : σ'.1 50 1 = σ.1 50 1) : RP σ' P := by
  simp only [List.forall_mem_cons] at h
  obtain ⟨a51, a52, a53, a54, -⟩ := h
  unfold RP RE at hc ⊢
  rw [a51, a52, a53, a54, h1]
  exact hc
theorem am_ne (s : am_M) (k i : Nat) (v : Int32) (l : Nat) (h : l ≠ k) : (am_put s k i v).1 l = s.1 l := by simp only [am_put, if_neg h]
theorem CP.put {σ : am_M} {P : Pl} (hc : CP σ P) (k i : Nat) (v : Int32) (h : k ∉ [2, 3, 4, 5, 6, 8, 9, 10, 11]) : CP (am_put σ k i v) P :=
  hc.ag fun l hl => am_ne _ _ _ _ _ (fun e => h (e ▸ hl))
theorem RP.put {σ : am_M} {P : Pl} (hc : RP σ P) (k i : Nat) (v : Int32) (h : k ∉ [51, 52, 53, 54]) (h1 : ¬ (k = 50 ∧ i = 1)) : RP (am_put σ k i v) P :=
  hc.ag (fun l hl => am_ne _ _ _ _ _ (fun e => h (e ▸ hl))) (by rw [am_rd]; grind)
theorem dj {A B : List Nat} (h : (A.all fun x => !B.contains x) = true) (l : Nat) (hl : l ∈ A) : l ∉ B := by
  have := List.all_eq_true.1 h l hl
  simpa using this
theorem CP.fr {A : List Nat} {σ σ' : am_M} {P : Pl} (hc : CP σ P) (h : Fr A σ σ') (hA : ([2, 3, 4, 5, 6, 8, 9, 10, 11].all fun x => !A.contains x) = true) : CP σ' P := hc.ag fun l hl => h.1 l (dj hA l hl)
theorem RP.fr {A : List Nat} {σ σ' : am_M} {P : Pl} (hc : RP σ P) (h : Fr A σ σ') (hA : ([50, 51, 52, 53, 54].all fun x => !A.contains x) = true) : RP σ' P := hc.ag (fun l hl => h.1 l (dj hA l (by revert hl; simp only [List.mem_cons]; grind))) (by rw [h.1 50 (dj hA 50 (by decide))])
theorem c_ded (σ : am_M) (h : Inv σ) (x1 : Int32) : v_51 σ x1 = v_78 (w_51 σ x1) x1 ∧ Inv (w_78 (w_51 σ x1) x1) ∧ (w_78 (w_51 σ x1) x1).1 0 = σ.1 0 := by
  unfold v_51 v_78 w_51 w_78
  simp only [isIn_i, isWi_i, bi_0, decide_eq_false_iff_not]
  by_cases c1 : 0 ≤ x1 ∧ x1 ≤ 400
  · simp only [c1, not_true, if_false, true_and, and_true, not_true_eq_false, bit1 x1 c1.1 c1.2]
    by_cases c2 : x1 - x1 / 2 * 2 = 0
    · simp only [c2, if_true, true_and]
      obtain ⟨P, hP⟩ := h
      refine ⟨⟨P, hP.1, ((hP.2.1.put _ _ _ (by decide)).put _ _ _ (by decide)).put _ _ _ (by decide), ((hP.2.2.1.put _ _ _ (by decide) (by decide)).put _ _ _ (by decide) (by decide)).put _ _ _ (by decide) (by decide), ?_, ?_⟩, rfl⟩
      · have := hP.2.2.2.1
        unfold Misc at *
        simpa [am_rd] using this.2
      · have := hP.2.2.2.2
        unfold Od Kn at *
        simp only [am_ne _ _ _ _ _ (show (61 : Nat) ≠ 50 by decide), am_ne _ _ _ _ _ (show (61 : Nat) ≠ 1 by decide), am_ne _ _ _ _ _ (show (49 : Nat) ≠ 50 by decide), am_ne _ _ _ _ _ (show (49 : Nat) ≠ 1 by decide)]
        simpa [am_rd] using this
    · simp only [c2, if_false, true_and]
      exact inv500 h 0
  · simp only [c1, not_true, if_false, true_and, and_true, not_false_eq_true, if_true]
    exact inv500 h 0
theorem c_gauge (σ : am_M) (h : Inv σ) (x1 : Int32) : v_52 σ x1 = v_79 (w_52 σ x1) x1 ∧ Inv (w_79 (w_52 σ x1) x1) ∧ (w_79 (w_52 σ x1) x1).1 0 = σ.1 0 := by
  unfold v_52 v_79 w_52 w_79
  simp only [isIn_i, isWi_i, bi_0, decide_eq_false_iff_not]
  by_cases c1 : 1 ≤ x1 ∧ x1 ≤ 4000
  · simp only [c1, not_true, if_false, true_and, and_true, not_true_eq_false]
    obtain ⟨P, hP⟩ := h
    refine ⟨⟨P, hP.1, ((((hP.2.1.put _ _ _ (by decide)).put _ _ _ (by decide)).put _ _ _ (by decide)).put _ _ _ (by decide)).put _ _ _ (by decide), ((((hP.2.2.1.put _ _ _ (by decide) (by decide)).put _ _ _ (by decide) (by decide)).put _ _ _ (by decide) (by decide)).put _ _ _ (by decide) (by decide)).put _ _ _ (by decide) (by decide), ?_, Or.inl ?_⟩, rfl⟩
    · have := hP.2.2.2.1
      unfold Misc at *
      have e := this.1
      have e2 := this.2.2
      simpa [am_rd, e] using e2
    · simp [am_rd]
  · simp only [c1, not_true, if_false, true_and, and_true, not_false_eq_true, if_true]
    exact inv500 h 0
theorem c_wrong (σ : am_M) (h : Inv σ) (x1 : Int32) : v_55 σ x1 = v_85 σ x1 ∧ Inv (w_85 σ x1) ∧ (w_85 σ x1).1 0 = σ.1 0 := by
  refine ⟨?_, inv500 h 0⟩
  obtain ⟨P, hP⟩ := h
  have := hP.2.2.2.1
  unfold v_55 v_85
  rw [this.2.2.1, this.2.2.2]
theorem pi_z {n : Nat} (h : n < 200) : (Int32.ofNat n = 0) = (n = 0) := by
  have := pi_inj h (by decide : 0 < 200)
  exact this
theorem c_over (σ : am_M) (h : Inv σ) : p_53 σ ∧ p_80 (w_53 σ) ∧ v_53 σ = v_80 (w_53 σ) ∧ Inv (w_80 (w_53 σ)) ∧ (w_80 (w_53 σ)).1 0 = σ.1 0 := by
  have hI := h
  obtain ⟨P, hV, hC, hR, hM, hO⟩ := h
  have h13 := hV.n13
  have hz := pi_z (show P.n < 200 by omega)
  unfold p_53 p_80 v_53 v_80 w_80 f_80 w_53
  by_cases hn : P.n = 0
  · have hc : σ.1 2 0 = 0 := by rw [hC.1, hn]; rfl
    have hr : σ.1 50 1 = 0 := by rw [hR.1, hn]; rfl
    simp only [hc, hr, if_true, not_true, false_implies, true_and, not_true_eq_false]
    exact inv500 hI 0
  · have hc : σ.1 2 0 ≠ 0 := by rw [hC.1]; simpa [hz] using hn
    have hr : σ.1 50 1 ≠ 0 := by rw [hR.1]; simpa [hz] using hn
    have k := over_c P hV 14 0 σ (by omega) (by omega) hC.1 (by intro p hp; omega) (fun p _ hp => hC.2 p hp)
    have hW : w_38 σ = l_38_11 14 σ (P.E 0) (Int32.ofNat 0) := by
      unfold w_38 f_38
      rw [(hC.2 0 (by omega)).2.2.1]; rfl
    have hP38 : p_38 σ := by
      unfold p_38
      rw [(hC.2 0 (by omega)).2.2.1]; exact k.1
    rw [← hW] at k
    generalize w_38 σ = τ at *
    obtain ⟨-, k1, k2⟩ := k
    have hRt : RP τ P := hR.fr k2 (by decide)
    have hr' : (am_put τ 1 9 0).1 50 1 ≠ 0 := by
      rw [am_rd, if_neg (by decide), k2.1 50 (by decide)]; exact hr
    have e2 : (am_put τ 1 9 0).1 54 2 = P.E 0 := by
      rw [am_rd, if_neg (by decide)]; exact (hRt.2 0 (by omega)).2.2.2.1
    simp only [hc, if_false, not_false_eq_true, true_implies, hP38, true_and, hr', e2]
    have hR0 : RP (am_put (am_put τ 1 9 0) 50 0 0) P := (hRt.put _ _ _ (by decide) (by decide)).put _ _ _ (by decide) (by decide)
    have j := over_r P hV 14 0 (am_put (am_put τ 1 9 0) 50 0 0) (by omega) (by omega) hR0.1 (by intro p hp; omega) (fun p _ hp => hR0.2 p hp)
    have z : Int32.ofNat 0 = 0 := rfl
    rw [z] at j
    obtain ⟨j1, j2, τ', j3, j4, j5⟩ := j
    refine ⟨j1, j2.symm, ?_, ?_⟩
    · rw [j3]
      have hC0 : CP (am_put (am_put τ 1 9 0) 50 0 0) P.flip := (k1.put _ _ _ (by decide)).put _ _ _ (by decide)
      have hC1 : CP τ' P.flip := hC0.fr j5 (by decide)
      refine ⟨P.flip, flip_V P (by omega) hV, hC1.put _ _ _ (by decide), j4.put _ _ _ (by decide) (by decide), ?_, Or.inl ?_⟩
      · unfold Misc at *
        simp only [am_rd, j5.1 1 (by decide), j5.1 50 (by decide), k2.1 1 (by decide), k2.1 50 (by decide)]
        simpa using hM
      · simp only [am_rd, j5.1 1 (by decide), j5.1 50 (by decide), k2.1 1 (by decide), k2.1 50 (by decide)]
        simp
    · rw [j3, am_ne _ _ _ _ _ (by decide), j5.1 0 (by decide), am_ne _ _ _ _ _ (by decide), am_ne _ _ _ _ _ (by decide), k2.1 0 (by decide)]
