/-! the table of orders: the program -/
def xb (c : Nat) : Int32 := Int32.ofNat (2 * c) + (-2)
theorem xb_s {m : Nat} : xb (m + 1) = Int32.ofNat (2 * m) := by
  unfold xb
  have e : Int32.ofNat (2 * (m + 1)) = Int32.ofNat (2 * m) + 2 := by
    rw [show 2 * (m + 1) = 2 * m + 2 from by omega, Int32.ofNat_add]; rfl
  rw [e]
  generalize Int32.ofNat (2 * m) = x
  grind
theorem xb_0 : xb 0 < 0 := by decide
theorem xb_n {m : Nat} (h : m < 5000) : (xb (m + 1) < 0) = False := by
  rw [xb_s, ng4 (by omega)]
theorem all_i {n : Nat} (h0 : 0 < n) (h : n ≤ 13) : ((1 : Int32) <<< (Int32.ofNat n &&& (31 : Int32))) - 2 = Int32.ofNat (2 * (2 ^ (n - 1) - 1)) := by
  have : ∀ n ≤ 13, 0 < n → ((1 : Int32) <<< (Int32.ofNat n &&& (31 : Int32))) - 2 = Int32.ofNat (2 * (2 ^ (n - 1) - 1)) := by decide
  exact this n h h0
theorem v28_c {P : Pl} (σ : am_M) (hC : CP σ P) (h0 : 0 < P.n) (h13 : P.n ≤ 13) : v_28 σ = Int32.ofNat (2 * (2 ^ (P.n - 1) - 1)) := by
  unfold v_28
  rw [hC.1, if_neg (by rw [pi_z (by omega)]; omega), all_i h0 h13]
/-- the table from place m on -/
def Tab (nb : Nat → Int32) (P : Pl) (g : Int32) (m : Nat) : Prop := nb (2 ^ (P.n - 1) - 1) = 0 ∧ ∀ b, m ≤ b → b < 2 ^ (P.n - 1) - 1 → KnR nb P g b
theorem cand_c {nb nb' : Nat → Int32} {P : Pl} {g : Int32} {b k : Nat} (h : ∀ c, b < c → nb' c = nb c) (hc : cand nb P g b k) : cand nb' P g b k := by
  obtain ⟨h1, h2, h3, h4, h5⟩ := hc
  refine ⟨h1, h2, h3, ?_, h5⟩
  rw [h _ (or_gt h3)]; exact h4
theorem KnR_c {nb nb' : Nat → Int32} {P : Pl} {g : Int32} {b : Nat} (h : ∀ c, b ≤ c → nb' c = nb c) (hk : KnR nb P g b) : KnR nb' P g b := by
  have h' : ∀ c, b < c → nb' c = nb c := fun c hc => h c (by omega)
  have h'' : ∀ c, b < c → nb c = nb' c := fun c hc => (h c (by omega)).symm
  rcases hk with ⟨a1, a2⟩ | ⟨k, a1, a2, a3⟩
  · exact Or.inl ⟨by rw [h b (Nat.le_refl b)]; exact a1, fun k hc => a2 k (cand_c h'' hc)⟩
  · exact Or.inr ⟨k, by rw [h b (Nat.le_refl b)]; exact a1, cand_c h' a2, fun k' hk' hc => a3 k' hk' (cand_c h'' hc)⟩
def LA : List Nat := [21, 22, 23, 25, 26, 27, 29, 30, 31, 33, 34, 35, 36, 37, 38, 40, 41, 42, 43, 45, 46, 47, 48, 49]
theorem l72_c {P : Pl} (hV : VP P) (τ : am_M) (hR : RP τ P) (g x1 : Int32) (hn : 0 < P.n) : ∀ (f c : Nat) (σ : am_M), c < f → c ≤ 2 ^ (P.n - 1) - 1 → CP σ P → σ.1 1 5 = g → Tab (σ.1 49) P g c →
    q_72_29 f σ x1 (xb c) ∧ ∃ σ', l_72_29 f σ x1 (xb c) = am_put σ' 1 9 1 ∧ Fr LA σ σ' ∧ Tab (σ'.1 49) P g 0 := by
  intro f
  induction f with
  | zero => intro c σ h1; omega
  | succ f ih =>
    intro c σ h1 h2 hC hg hT
    have h13 := hV.n13
    have hp := pw h13 hn
    rw [q_72_29, l_72_29]
    match c with
    | 0 =>
      simp only [xb_0, not_true_eq_false, false_implies, if_true, true_and]
      exact ⟨σ, rfl, Fr.refl _ _, hT⟩
    | m + 1 =>
      have hx := xb_n (show m < 5000 by omega)
      simp only [hx, not_false_eq_true, true_implies, if_false]
      rw [xb_s]
      obtain ⟨k1, k2, k3⟩ := l73_c hV τ hR g (σ.1 49) (show m < 2 ^ (P.n - 1) by omega) hn 14 1 σ false (by omega) (by omega) (by omega) hC hg rfl (fun h => by cases h)
      rw [bf_, l_1] at k1 k2 k3
      have p73 : p_73 σ (Int32.ofNat (2 * m)) := k1
      have v73 : v_73 σ (Int32.ofNat (2 * m)) = (l_73_4 14 σ (Int32.ofNat (2 * m)) 0 1).1 := rfl
      have w73 : w_73 σ (Int32.ofNat (2 * m)) = (l_73_4 14 σ (Int32.ofNat (2 * m)) 0 1).2 := rfl
      rw [← w73] at k2
      rw [← v73] at k3
      have e3 := (sh1 (show m < 4096 by omega)).1
      have e4 := nn4 (show m < 100000 by omega)
      have e5 := in4 (show m < 4096 by omega)
      rw [nn4 (by omega)] at e5
      simp only [p73, e3, e4, eq_true e5, true_and]
      generalize v_73 σ (Int32.ofNat (2 * m)) = v at *
      generalize w_73 σ (Int32.ofNat (2 * m)) = σ1 at *
      have hfr : Fr LA σ (am_put σ1 49 m v) := Fr.put (k2.mono (by decide)) _ _ _ (by decide)
      have h49 : ∀ c, m < c → (am_put σ1 49 m v).1 49 c = σ.1 49 c := by
        intro c hc
        rw [am_rd, if_neg (by omega), k2.1 49 (by decide)]
      have h49m : (am_put σ1 49 m v).1 49 m = v := by rw [am_rd, if_pos ⟨rfl, rfl⟩]
      have h49' : ∀ c, m < c → σ.1 49 c = (am_put σ1 49 m v).1 49 c := fun c hc => (h49 c hc).symm
      obtain ⟨i1, σ', i2, i3, i4⟩ := ih m (am_put σ1 49 m v) (by omega) (by omega) (hC.fr hfr (by decide)) (by rw [hfr.1 1 (by decide)]; exact hg) (by
        refine ⟨by rw [h49 _ (by omega)]; exact hT.1, fun b hb1 hb2 => ?_⟩
        by_cases hbm : b = m
        · subst hbm
          rcases k3 with ⟨z1, z2⟩ | ⟨k', z1, z2, z3, z4⟩
          · refine Or.inl ⟨by rw [h49m]; exact z1, fun k hc => ?_⟩
            exact z2 k hc.1 (cand_c h49' hc)
          · refine Or.inr ⟨k', by rw [h49m]; exact z1, cand_c h49 z3, fun k hk hc => ?_⟩
            exact z4 k hc.1 hk (cand_c h49' hc)
        · exact KnR_c (fun c hc => h49 c (by omega)) (hT.2 b (by omega) hb2))
      exact ⟨i1, σ', i2, hfr.trans i3, i4⟩
/-- what learning leaves -/
theorem w72_c {P : Pl} (hV : VP P) (σ : am_M) (hC : CP σ P) (hR : RP σ P) (hn : 0 < P.n) (hz : σ.1 1 9 = 0) : p_72 σ ∧ ∃ σ', w_72 σ = am_put σ' 1 9 1 ∧ Fr LA σ σ' ∧ Tab (σ'.1 49) P (σ.1 1 5) 0 := by
  have h13 := hV.n13
  have hp := pw h13 hn
  have hM : 0 < 2 ^ (P.n - 1) := Nat.two_pow_pos _
  unfold p_72 w_72 f_72
  rw [v28_c σ hC hn h13]
  have e3 := (sh1 (show 2 ^ (P.n - 1) - 1 < 4096 by omega)).1
  have e4 := nn4 (show 2 ^ (P.n - 1) - 1 < 100000 by omega)
  have e5 := in4 (show 2 ^ (P.n - 1) - 1 < 4096 by omega)
  rw [nn4 (by omega)] at e5
  simp only [e3, e4, eq_true e5, hz, if_true, true_implies, true_and]
  generalize hσ : am_put σ 49 (2 ^ (P.n - 1) - 1) 0 = σ0
  have hfr : Fr LA σ σ0 := by rw [← hσ]; exact (Fr.refl _ _).put _ _ _ (by decide)
  obtain ⟨i1, σ', i2, i3, i4⟩ := l72_c hV σ hR (σ.1 1 5) (Int32.ofNat (2 * (2 ^ (P.n - 1) - 1))) hn 4097 (2 ^ (P.n - 1) - 1) σ0 (by omega) (Nat.le_refl _) (hC.fr hfr (by decide)) (by rw [hfr.1 1 (by decide)]) ⟨by rw [← hσ, am_rd, if_pos ⟨rfl, rfl⟩], fun b h1 h2 => by omega⟩
  have ey : Int32.ofNat (2 * (2 ^ (P.n - 1) - 1)) + (-2) = Int32.ofNat (2 * (2 ^ (P.n - 1) - 1)) - 2 := by
    generalize Int32.ofNat (2 * (2 ^ (P.n - 1) - 1)) = x
    grind
  unfold xb at i1 i2
  rw [ey] at i1 i2
  exact ⟨i1, σ', i2, hfr.trans i3, i4⟩
/-- the sum over the table, from the top -/
theorem l65_c (nb : Nat → Int32) (x1 : Int32) (σ : am_M) (h49 : σ.1 49 = nb) (T : Nat) : ∀ (f c : Nat) (a : Int32), c < f → c ≤ 4096 → a + Int32.ofNat (cnt nb c) = Int32.ofNat T → q_65_45 f σ x1 a (xb c) ∧ l_65_45 f σ x1 a (xb c) = (Int32.ofNat T, σ) := by
  intro f
  induction f with
  | zero => intro c a h1; omega
  | succ f ih =>
    intro c a h1 h2 hs
    rw [q_65_45, l_65_45]
    match c with
    | 0 =>
      simp only [xb_0, not_true_eq_false, false_implies, if_true, true_and]
      have : a = Int32.ofNat T := by rw [← hs]; unfold cnt; rw [l_0, Int32.add_zero]
      rw [this]
    | m + 1 =>
      have hx := xb_n (show m < 5000 by omega)
      simp only [hx, not_false_eq_true, true_implies, if_false]
      rw [xb_s]
      have e3 := (sh1 (show m < 4096 by omega)).1
      have e4 := nn4 (show m < 100000 by omega)
      have e5 := in4 (show m < 4096 by omega)
      rw [nn4 (by omega)] at e5
      simp only [e3, e4, eq_true e5, true_and, h49]
      refine ih m _ (by omega) (by omega) ?_
      rw [← hs, cnt, Int32.ofNat_add]
      by_cases c : nb m = -1
      · simp only [c, if_true, l_0, Int32.add_zero]
      · simp only [c, if_false, l_1]
        generalize Int32.ofNat (cnt nb m) = y
        grind
