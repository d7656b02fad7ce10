/-! sets of bends: bit k - 1 of a place in the table for bend k -/
theorem sh1_d : ∀ a < 16, ∀ c < 256, (Int32.ofNat (2 * (256 * a + c)) >>> ((1 : Int32) &&& (31 : Int32))) = Int32.ofNat (256 * a + c) ∧ Int32.ofNat (2 * (256 * a + c)) / 2 = Int32.ofNat (256 * a + c) := by decide +kernel
theorem sh1 {m : Nat} (h : m < 4096) : (Int32.ofNat (2 * m) >>> ((1 : Int32) &&& (31 : Int32))) = Int32.ofNat m ∧ Int32.ofNat (2 * m) / 2 = Int32.ofNat m := by
  have := sh1_d (m / 256) (by omega) (m % 256) (by omega)
  have e : 256 * (m / 256) + m % 256 = m := by omega
  rw [e] at this
  exact this
theorem nn4 {m : Nat} (h : m < 100000) : (Int32.ofNat m).toNatClampNeg = m := Int32.toNatClampNeg_ofNat_of_lt (by omega)
theorem inj4 {a c : Nat} (ha : a < 100000) (hc : c < 100000) : (Int32.ofNat a = Int32.ofNat c) = (a = c) := by
  refine propext ⟨fun h => ?_, fun h => by rw [h]⟩
  rw [← nn4 ha, ← nn4 hc, h]
theorem ng4 {m : Nat} (h : m < 100000) : (Int32.ofNat m < 0) = False := by
  have := Int32.ofNat_lt_iff_lt (a := m) (b := 0) (by omega) (by omega)
  exact eq_false (fun h2 => by
    have h3 := this.1 h2
    omega)
theorem in4 {m : Nat} (h : m < 4096) : ¬ (Int32.ofNat m < 0 ∨ 4096 ≤ (Int32.ofNat m).toNatClampNeg) := by
  rw [ng4 (by omega), nn4 (by omega)]
  simp only [false_or]; omega
theorem or2 (m j : Nat) : (2 * m ||| 2 ^ (j + 1)) = 2 * (m ||| 2 ^ j) := by
  have e1 : 2 * m = m <<< 1 := by rw [Nat.shiftLeft_eq]; omega
  have e2 : 2 ^ (j + 1) = (2 ^ j) <<< 1 := by rw [Nat.shiftLeft_eq, Nat.pow_succ]
  have e3 : 2 * (m ||| 2 ^ j) = (m ||| 2 ^ j) <<< 1 := by rw [Nat.shiftLeft_eq]; omega
  rw [e1, e2, e3, Nat.shiftLeft_or_distrib]
theorem tb2 (m j : Nat) : (2 * m).testBit (j + 1) = m.testBit j := by
  rw [Nat.testBit_succ]
  congr 1
  omega
theorem or_same {m j : Nat} : (m ||| 2 ^ j) = m ↔ m.testBit j = true := by
  constructor
  · intro h
    rw [← h, Nat.testBit_or, Nat.testBit_two_pow_self]; simp
  · intro h
    apply Nat.eq_of_testBit_eq
    intro i
    rw [Nat.testBit_or, Nat.testBit_two_pow]
    by_cases hi : j = i
    · subst hi; simp [h]
    · simp [hi]
theorem or_gt {m j : Nat} (h : m.testBit j = false) : m < (m ||| 2 ^ j) := by
  have h1 : m ≤ (m ||| 2 ^ j) := Nat.left_le_or
  have h2 : (m ||| 2 ^ j) ≠ m := fun e => by
    rw [or_same.1 e] at h; cases h
  omega
theorem or_lt {m j n : Nat} (hm : m < 2 ^ n) (hj : j < n) : (m ||| 2 ^ j) < 2 ^ n := Nat.or_lt_two_pow hm (Nat.pow_lt_pow_right (by decide) hj)
theorem pw {n : Nat} (h : n ≤ 13) (h0 : 0 < n) : 2 ^ (n - 1) ≤ 4096 := by
  have : 2 ^ (n - 1) ≤ 2 ^ 12 := Nat.pow_le_pow_right (by decide) (by omega)
  exact this
theorem setbit {m j : Nat} (hj : j < 12) : (Int32.ofNat (2 * m) ||| ((1 : Int32) <<< (Int32.ofNat (j + 1) &&& (31 : Int32)))) = Int32.ofNat (2 * (m ||| 2 ^ j)) := by
  rw [sl (by omega), or_i, or2]
theorem isF2 (m : Nat) {j : Nat} (hj : j < 12) : isF (Int32.ofNat (2 * m)) (j + 1) = m.testBit j := by
  rw [isF_b _ (by omega), tb _ (by omega), tb2]
def okQ (P : Pl) (g b : Int32) (k : Nat) : Prop := free P b k ∧ edg P b g k ≠ -1
theorem ok_i {P : Pl} (hV : VP P) (τ : am_M) (hR : RP τ P) (g b : Int32) {k : Nat} (hk : k < P.n) (h0 : 0 < k) : okP P g b (Int32.ofNat k) ↔ okQ P g b k := by
  constructor
  · rintro ⟨τ', h1, h2, h3, h4⟩
    obtain ⟨a1, a2, a3⟩ := rfold_c P hV b τ' h1
    have hR' : RP (w_90 τ' b) P := h1.fr a3 (by decide)
    obtain ⟨-, -, b3⟩ := v109_c hV b _ hR' a2 hk h0
    obtain ⟨-, c2⟩ := v112_c P hV b _ hR' a2 hk h0
    rw [a3.1 50 (by decide), h2] at c2
    rw [c2] at h4
    rcases b3 with ⟨b4, b5⟩ | ⟨b4, b5⟩
    · exact ⟨b5, h4⟩
    · exact absurd b4 h3
  · rintro ⟨h1, h2⟩
    have hR0 : RP (am_put τ 50 3 g) P := hR.put _ _ _ (by decide) (by decide)
    obtain ⟨a1, a2, a3⟩ := rfold_c P hV b _ hR0
    have hR' : RP (w_90 (am_put τ 50 3 g) b) P := hR0.fr a3 (by decide)
    obtain ⟨-, -, b3⟩ := v109_c hV b _ hR' a2 hk h0
    obtain ⟨-, c2⟩ := v112_c P hV b _ hR' a2 hk h0
    have hg : (am_put τ 50 3 g).1 50 3 = g := by simp [am_rd]
    rw [a3.1 50 (by decide), hg] at c2
    refine ⟨_, hR0, hg, ?_, by rw [c2]; exact h2⟩
    rcases b3 with ⟨b4, b5⟩ | ⟨b4, b5⟩
    · rw [b4]; decide
    · exact absurd h1 b5
theorem cand_i {P : Pl} (hV : VP P) (τ : am_M) (hR : RP τ P) (nb : Nat → Int32) (g : Int32) (m j : Nat) : cand nb P g m (j + 1) ↔ (j + 1 < P.n ∧ m.testBit j = false ∧ nb (m ||| 2 ^ j) ≠ -1 ∧ okQ P g (Int32.ofNat (2 * m)) (j + 1)) := by
  unfold cand
  rw [Nat.add_sub_cancel]
  constructor
  · rintro ⟨-, h2, h3, h4, h5⟩
    exact ⟨h2, h3, h4, (ok_i hV τ hR g _ h2 (by omega)).1 h5⟩
  · rintro ⟨h2, h3, h4, h5⟩
    exact ⟨by omega, h2, h3, h4, (ok_i hV τ hR g _ h2 (by omega)).2 h5⟩
theorem l73_c {P : Pl} (hV : VP P) (τ : am_M) (hR : RP τ P) (g : Int32) (nb : Nat → Int32) {m : Nat} (hm : m < 2 ^ (P.n - 1)) (hn : 0 < P.n) : ∀ (f k : Nat) (σ : am_M) (fl : Bool), P.n < k + f → k ≤ P.n → 0 < k → CP σ P → σ.1 1 5 = g → σ.1 49 = nb → (fl = true → FC σ P (Int32.ofNat (2 * m))) →
    q_73_4 f σ (Int32.ofNat (2 * m)) (bi fl) (Int32.ofNat k) ∧ Fr [21, 22, 23, 25, 26, 27, 29, 30, 31, 33, 34, 35, 36, 37, 38, 40, 41, 42, 43, 45, 46, 47, 48] σ (l_73_4 f σ (Int32.ofNat (2 * m)) (bi fl) (Int32.ofNat k)).2 ∧ (((l_73_4 f σ (Int32.ofNat (2 * m)) (bi fl) (Int32.ofNat k)).1 = -1 ∧ ∀ k', k ≤ k' → ¬ cand nb P g m k') ∨ ∃ k', (l_73_4 f σ (Int32.ofNat (2 * m)) (bi fl) (Int32.ofNat k)).1 = Int32.ofNat k' ∧ k ≤ k' ∧ cand nb P g m k' ∧ ∀ k'', k ≤ k'' → k'' < k' → ¬ cand nb P g m k'') := by
  intro f
  induction f with
  | zero => intro k σ fl h1 h2; omega
  | succ f ih =>
    intro k σ fl h1 h2 h0 hC hg hnb hfl
    have h13 := hV.n13
    have hp := pw h13 hn
    rw [q_73_4, l_73_4]
    have hlt : (Int32.ofNat k < σ.1 2 0) = (k < P.n) := by rw [hC.1]; exact pi_lt (by omega) (by omega)
    by_cases hk : k < P.n
    · obtain ⟨j, rfl⟩ : ∃ j, k = j + 1 := ⟨k - 1, by omega⟩
      have hor : (m ||| 2 ^ j) < 2 ^ (P.n - 1) := or_lt hm (by omega)
      have e1 := setbit (m := m) (show j < 12 by omega)
      have e2 : (Int32.ofNat (2 * (m ||| 2 ^ j)) = Int32.ofNat (2 * m)) = (m.testBit j = true) := by
        rw [inj4 (by omega) (by omega)]
        refine propext ⟨fun h => or_same.1 (by omega), fun h => by rw [or_same.2 h]⟩
      have e3 := (sh1 (show (m ||| 2 ^ j) < 4096 by omega)).1
      have e4 := nn4 (show (m ||| 2 ^ j) < 100000 by omega)
      have e5 := in4 (show (m ||| 2 ^ j) < 4096 by omega)
      rw [nn4 (by omega)] at e5
      simp only [e1, e2, e3, e4, hlt, hk, if_true, true_implies, hnb, pi_a1, eq_true e5, true_and]
      have ci := cand_i hV τ hR nb g m j
      -- going on without this bend
      have go : ∀ (σ' : am_M) (fl' : Bool), Fr [21, 22, 23, 25, 26, 27, 29, 30, 31, 33, 34, 35, 36, 37, 38, 40, 41, 42, 43, 45, 46, 47, 48] σ σ' → (fl' = true → FC σ' P (Int32.ofNat (2 * m))) → ¬ cand nb P g m (j + 1) →
          q_73_4 f σ' (Int32.ofNat (2 * m)) (bi fl') (Int32.ofNat (j + 1 + 1)) ∧ Fr [21, 22, 23, 25, 26, 27, 29, 30, 31, 33, 34, 35, 36, 37, 38, 40, 41, 42, 43, 45, 46, 47, 48] σ (l_73_4 f σ' (Int32.ofNat (2 * m)) (bi fl') (Int32.ofNat (j + 1 + 1))).2 ∧ (((l_73_4 f σ' (Int32.ofNat (2 * m)) (bi fl') (Int32.ofNat (j + 1 + 1))).1 = -1 ∧ ∀ k', j + 1 ≤ k' → ¬ cand nb P g m k') ∨ ∃ k', (l_73_4 f σ' (Int32.ofNat (2 * m)) (bi fl') (Int32.ofNat (j + 1 + 1))).1 = Int32.ofNat k' ∧ j + 1 ≤ k' ∧ cand nb P g m k' ∧ ∀ k'', j + 1 ≤ k'' → k'' < k' → ¬ cand nb P g m k'') := by
        intro σ' fl' hfr hfl' hnc
        obtain ⟨i1, i2, i3⟩ := ih (j + 1 + 1) σ' fl' (by omega) (by omega) (by omega) (hC.fr hfr (by decide)) (by rw [hfr.1 1 (by decide)]; exact hg) (by rw [hfr.1 49 (by decide)]; exact hnb) hfl'
        refine ⟨i1, hfr.trans i2, ?_⟩
        rcases i3 with ⟨z1, z2⟩ | ⟨k', z1, z2, z3, z4⟩
        · refine Or.inl ⟨z1, fun k' h => ?_⟩
          by_cases hkk : k' = j + 1
          · rw [hkk]; exact hnc
          · exact z2 k' (by omega)
        · refine Or.inr ⟨k', z1, by omega, z3, fun k'' h h' => ?_⟩
          by_cases hkk : k'' = j + 1
          · rw [hkk]; exact hnc
          · exact z4 k'' (by omega) h'
      by_cases c1 : m.testBit j = true
      · have g0 := go σ fl (Fr.refl _ _) hfl (fun h => by
          have := (ci.1 h).2.1
          rw [c1] at this; cases this)
        simp only [c1, if_true, true_implies, not_true_eq_false, false_implies, and_true]
        exact g0
      · have c1' : m.testBit j = false := by simpa using c1
        simp only [c1', Bool.false_eq_true, if_false, false_implies, not_false_eq_true, true_implies, true_and]
        by_cases c2 : nb (m ||| 2 ^ j) = -1
        · have g0 := go σ fl (Fr.refl _ _) hfl (fun h => (ci.1 h).2.2.1 c2)
          simp only [c2, if_true, true_implies, not_true_eq_false, false_implies, and_true]
          exact g0
        · simp only [c2, if_false, false_implies, not_false_eq_true, true_implies, true_and]
          -- the two ways to come to a fold
          have main : ∀ (σ1 : am_M), Fr [21, 22, 23, 25, 26, 27, 29, 30, 31, 33, 34, 35, 36, 37, 38, 40, 41, 42, 43, 45, 46, 47, 48] σ σ1 → FC σ1 P (Int32.ofNat (2 * m)) →
              ((p_13 σ1 (Int32.ofNat (j + 1)) (σ1.1 1 5)) ∧ ((((v_13 σ1 (Int32.ofNat (j + 1)) (σ1.1 1 5)) = (-1)) → (q_73_4 f σ1 (Int32.ofNat (2 * m)) 1 (Int32.ofNat (j + 1 + 1)))) ∧ (¬ ((v_13 σ1 (Int32.ofNat (j + 1)) (σ1.1 1 5)) = (-1)) → ((p_42 σ1 (Int32.ofNat (j + 1))) ∧ (((v_42 σ1 (Int32.ofNat (j + 1))) = 0) → (q_73_4 f (w_42 σ1 (Int32.ofNat (j + 1))) (Int32.ofNat (2 * m)) 1 (Int32.ofNat (j + 1 + 1)))))))) ∧
              ∀ r : Int32 × am_M, r = (if (v_13 σ1 (Int32.ofNat (j + 1)) (σ1.1 1 5)) = (-1) then (l_73_4 f σ1 (Int32.ofNat (2 * m)) 1 (Int32.ofNat (j + 1 + 1))) else (if (v_42 σ1 (Int32.ofNat (j + 1))) = 0 then (l_73_4 f (w_42 σ1 (Int32.ofNat (j + 1))) (Int32.ofNat (2 * m)) 1 (Int32.ofNat (j + 1 + 1))) else (Int32.ofNat (j + 1), (w_42 σ1 (Int32.ofNat (j + 1)))))) →
                Fr [21, 22, 23, 25, 26, 27, 29, 30, 31, 33, 34, 35, 36, 37, 38, 40, 41, 42, 43, 45, 46, 47, 48] σ r.2 ∧ ((r.1 = -1 ∧ ∀ k', j + 1 ≤ k' → ¬ cand nb P g m k') ∨ ∃ k', r.1 = Int32.ofNat k' ∧ j + 1 ≤ k' ∧ cand nb P g m k' ∧ ∀ k'', j + 1 ≤ k'' → k'' < k' → ¬ cand nb P g m k'') := by
            intro σ1 hfr hF
            have hC1 : CP σ1 P := hC.fr hfr (by decide)
            have hg1 : σ1.1 1 5 = g := by rw [hfr.1 1 (by decide)]; exact hg
            obtain ⟨a1, a2⟩ := v13_c P hV (Int32.ofNat (2 * m)) g σ1 hC1 hF hk (by omega)
            obtain ⟨b1, b2, b3⟩ := v42_c hV (Int32.ofNat (2 * m)) σ1 hC1 hF hk (by omega)
            have hfr2 := hfr.trans (b2.mono (B := [21, 22, 23, 25, 26, 27, 29, 30, 31, 33, 34, 35, 36, 37, 38, 40, 41, 42, 43, 45, 46, 47, 48]) (by decide))
            have hF2 : FC (w_42 σ1 (Int32.ofNat (j + 1))) P (Int32.ofNat (2 * m)) := hF.fr b2 (by decide)
            rw [hg1, a2]
            by_cases c3 : edg P (Int32.ofNat (2 * m)) g (j + 1) = -1
            · have g0 := go σ1 true hfr (fun _ => hF) (fun h => (ci.1 h).2.2.2.2 c3)
              rw [bt_] at g0
              refine ⟨⟨a1, fun _ => g0.1, fun h => absurd c3 h⟩, fun r hr => ?_⟩
              rw [if_pos c3] at hr
              rw [hr]
              exact g0.2
            · rcases b3 with ⟨b4, b5⟩ | ⟨b4, b5⟩
              · refine ⟨⟨a1, fun h => absurd h c3, fun _ => ⟨b1, fun h => absurd h (by rw [b4]; decide)⟩⟩, fun r hr => ?_⟩
                rw [if_neg c3, if_neg (by rw [b4]; decide)] at hr
                rw [hr]
                exact ⟨hfr2, Or.inr ⟨j + 1, rfl, Nat.le_refl _, ci.2 ⟨hk, c1', c2, b5, c3⟩, fun k'' h h' => by omega⟩⟩
              · have g0 := go _ true hfr2 (fun _ => hF2) (fun h => b5 (ci.1 h).2.2.2.1)
                rw [bt_] at g0
                refine ⟨⟨a1, fun h => absurd h c3, fun _ => ⟨b1, fun _ => g0.1⟩⟩, fun r hr => ?_⟩
                rw [if_neg c3, if_pos b4] at hr
                rw [hr]
                exact g0.2
          cases fl with
          | false =>
            obtain ⟨a1, a2, a3⟩ := fold_c P hV (Int32.ofNat (2 * m)) σ hC
            obtain ⟨m1, m2⟩ := main (w_1 σ (Int32.ofNat (2 * m))) (a3.mono (by decide)) a2
            simp only [bf_, if_true, true_implies, not_true_eq_false, false_implies, and_true, a1, true_and]
            exact ⟨m1, m2 _ rfl⟩
          | true =>
            obtain ⟨m1, m2⟩ := main σ (Fr.refl _ _) (hfl rfl)
            simp only [bt_, i10, if_false, false_implies, true_and, not_false_eq_true, true_implies]
            exact ⟨m1, m2 _ rfl⟩
    · simp only [hlt, hk, if_false, false_implies, true_and]
      refine ⟨Fr.refl _ _, Or.inl (fun k' h hc => ?_)⟩
      have := hc.2.1
      omega
