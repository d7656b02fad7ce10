theorem join_n (P : Pl) (q s : Nat) (o w d : Int32) (u : Bool) : (P.join q s o w d u).n = P.n + 1 := rfl
theorem join_par (P : Pl) (q s : Nat) (o w d : Int32) (u : Bool) (p : Nat) : (P.join q s o w d u).par p = if p = P.n then q else P.par p := rfl
theorem join_sd (P : Pl) (q s : Nat) (o w d : Int32) (u : Bool) (p : Nat) : (P.join q s o w d u).sd p = if p = P.n then s else P.sd p := rfl
theorem join_bt (P : Pl) (q s : Nat) (o w d : Int32) (u : Bool) (p t : Nat) : (P.join q s o w d u).bt p t = if p = P.n then t == (s + 2) % 4 else if p = q then (if t = s then true else P.bt p t) else P.bt p t := rfl
theorem join_W (P : Pl) (q s : Nat) (o w d : Int32) (u : Bool) (p : Nat) : (P.join q s o w d u).W p = if p = P.n then (if s = 0 then P.E q else if s = 2 then P.W q - d else P.W q + o) else P.W p := rfl
theorem join_S (P : Pl) (q s : Nat) (o w d : Int32) (u : Bool) (p : Nat) : (P.join q s o w d u).S p = if p = P.n then (if s = 1 then P.N q else if s = 3 then P.S q - d else P.S q + o) else P.S p := rfl
theorem join_E (P : Pl) (q s : Nat) (o w d : Int32) (u : Bool) (p : Nat) : (P.join q s o w d u).E p = if p = P.n then (if s = 0 then P.E q + d else if s = 2 then P.W q else P.W q + o + w) else P.E p := rfl
theorem join_N (P : Pl) (q s : Nat) (o w d : Int32) (u : Bool) (p : Nat) : (P.join q s o w d u).N p = if p = P.n then (if s = 1 then P.N q + d else if s = 3 then P.S q else P.S q + o + w) else P.N p := rfl
theorem jx {a b e o w d i j a0 b0 : Int32} (hi : 0 ≤ j) (hj : j + 1 ≤ i) (hi2 : i ≤ 12) (h1 : -(2000 * j) ≤ a) (h2 : a < b) (h3 : b ≤ a + 2000) (h4 : b ≤ e + 2000 * j) (he : 1 ≤ e) (he2 : e ≤ 2000) (hw : 1 ≤ w) (hw2 : w ≤ 2000) (hd : 1 ≤ d) (hd2 : d ≤ 2000)
    (hlr : (a0 = b ∧ b0 = b + d) ∨ (a0 = a - d ∧ b0 = a) ∨ (a0 = a + o ∧ b0 = a + o + w ∧ 0 ≤ o ∧ o ≤ b - a - w)) : -(2000 * i) ≤ a0 ∧ a0 < b0 ∧ b0 ≤ a0 + 2000 ∧ b0 ≤ e + 2000 * i := by
  rcases hlr with ⟨rfl, rfl⟩ | ⟨rfl, rfl⟩ | ⟨rfl, rfl, ho, ho2⟩ <;> refine ⟨?_, ?_, ?_, ?_⟩ <;> grind
theorem jo {a b o w : Int32} (h2 : a < b) (h3 : b ≤ a + 2000) (ha : -24000 ≤ a) (hb : b ≤ 26000) (hw : 1 ≤ w) (hw2 : w ≤ 2000) (ho : 0 ≤ o) (ho2 : o ≤ b - a - w) : a ≤ a + o ∧ a + o + w ≤ b := by
  refine ⟨?_, ?_⟩ <;> grind
theorem join_V (P : Pl) (hV : VP P) {q s : Nat} (hn : P.n < 13) (hq : q < P.n) (hs : s < 4) (o w d : Int32) (u : Bool) (hqs : q = 0 ∨ s ≠ (P.sd q + 2) % 4) (h4 : 1 ≤ w ∧ w ≤ 2000) (h5 : 1 ≤ d ∧ d ≤ 2000) (h3 : 0 ≤ o ∧ o ≤ plen P q s - w) : VP (P.join q s o w d u) := by
  have hw := hV.w (by omega)
  have hE0 : (P.join q s o w d u).E 0 = P.E 0 := by rw [join_E, if_neg (by omega)]
  have hN0 : (P.join q s o w d u).N 0 = P.N 0 := by rw [join_N, if_neg (by omega)]
  have hjq := pi_b (show q < 13 by omega)
  have hst := pi_st hq hn
  have hin := (pi_b hn).2
  refine ⟨by rw [join_n]; omega, ?_, ?_, ?_, ?_, ?_, ?_⟩
  · intro p hp h0
    rw [join_n] at hp
    rw [join_par, join_sd]
    by_cases h : p = P.n
    · rw [if_pos h, if_pos h]; omega
    · rw [if_neg h, if_neg h]; exact hV.tr p (by omega) h0
  · intro p hp t ht
    rw [join_n] at hp
    rw [join_bt, join_n]
    by_cases h : p = P.n
    · subst h
      rw [if_pos rfl]
      constructor
      · intro h; left
        refine ⟨by omega, ?_⟩
        rw [join_sd, if_pos rfl]; simpa using h
      · rintro (⟨-, h⟩ | ⟨k, hk, hk0, hkp, -⟩)
        · rw [join_sd, if_pos rfl] at h; simpa using h
        · exfalso
          rw [join_par] at hkp
          by_cases hkn : k = P.n
          · rw [if_pos hkn] at hkp; omega
          · rw [if_neg hkn] at hkp
            have := (hV.tr k (by omega) hk0).1
            omega
    · rw [if_neg h]
      have hb := hV.bt p (by omega) t ht
      have hex : (∃ k, k < P.n + 1 ∧ 0 < k ∧ (P.join q s o w d u).par k = p ∧ (P.join q s o w d u).sd k = t) ↔ ((p = q ∧ t = s) ∨ ∃ k, k < P.n ∧ 0 < k ∧ P.par k = p ∧ P.sd k = t) := by
        constructor
        · rintro ⟨k, hk, hk0, e1, e2⟩
          rw [join_par] at e1
          rw [join_sd] at e2
          by_cases hkn : k = P.n
          · rw [if_pos hkn] at e1 e2; left; exact ⟨e1.symm, e2.symm⟩
          · rw [if_neg hkn] at e1 e2; right; exact ⟨k, by omega, hk0, e1, e2⟩
        · rintro (⟨e1, e2⟩ | ⟨k, hk, hk0, e1, e2⟩)
          · refine ⟨P.n, by omega, by omega, ?_, ?_⟩
            · rw [join_par, if_pos rfl, e1]
            · rw [join_sd, if_pos rfl, e2]
          · refine ⟨k, by omega, hk0, ?_, ?_⟩
            · rw [join_par, if_neg (by omega), e1]
            · rw [join_sd, if_neg (by omega), e2]
      rw [join_sd, if_neg h, hex]
      by_cases hpq : p = q
      · rw [if_pos hpq]
        by_cases hts : t = s
        · rw [if_pos hts]
          exact ⟨fun _ => Or.inr (Or.inl ⟨hpq, hts⟩), fun _ => rfl⟩
        · rw [if_neg hts, hb]
          simp only [hpq, hts, and_false, false_or]
      · rw [if_neg hpq, hb]
        simp only [hpq, false_and, false_or]
  · intro _
    rw [hE0, hN0, join_W, join_S, if_neg (by omega), if_neg (by omega)]
    exact hw
  · intro p hp
    rw [join_n] at hp
    rw [hE0, join_W, join_E]
    by_cases h : p = P.n
    · subst h
      simp only [if_true]
      have hx := hV.x q hq
      refine jx hjq.1 hst hin hx.1 hx.2.1 hx.2.2.1 hx.2.2.2 hw.1 hw.2.1 h4.1 h4.2 h5.1 h5.2 (o := o) ?_
      unfold plen at h3
      match s, hs with
      | 0, _ => left; exact ⟨rfl, rfl⟩
      | 1, _ => right; right; exact ⟨rfl, rfl, h3.1, h3.2⟩
      | 2, _ => right; left; exact ⟨rfl, rfl⟩
      | 3, _ => right; right; exact ⟨rfl, rfl, h3.1, h3.2⟩
    · rw [if_neg h, if_neg h]; exact hV.x p (by omega)
  · intro p hp
    rw [join_n] at hp
    rw [hN0, join_S, join_N]
    by_cases h : p = P.n
    · subst h
      simp only [if_true]
      have hx := hV.y q hq
      refine jx hjq.1 hst hin hx.1 hx.2.1 hx.2.2.1 hx.2.2.2 hw.2.2.1 hw.2.2.2.1 h4.1 h4.2 h5.1 h5.2 (o := o) ?_
      unfold plen at h3
      match s, hs with
      | 1, _ => left; exact ⟨rfl, rfl⟩
      | 0, _ => right; right; exact ⟨rfl, rfl, h3.1, h3.2⟩
      | 3, _ => right; left; exact ⟨rfl, rfl⟩
      | 2, _ => right; right; exact ⟨rfl, rfl, h3.1, h3.2⟩
    · rw [if_neg h, if_neg h]; exact hV.y p (by omega)
  · intro p hp h0
    rw [join_n] at hp
    by_cases h : p = P.n
    · subst h
      have hqn : q ≠ P.n := by omega
      have bx := hV.xb hq
      have by' := hV.yb hq
      unfold plen at h3
      simp only [join_W, join_S, join_E, join_N, join_par, join_sd, if_true, if_neg hqn]
      match s, hs with
      | 0, _ =>
        have := jo by'.2.1 by'.2.2.2 by'.1 by'.2.2.1 h4.1 h4.2 h3.1 h3.2
        simp [this]
      | 1, _ =>
        have := jo bx.2.1 bx.2.2.2 bx.1 bx.2.2.1 h4.1 h4.2 h3.1 h3.2
        simp [this]
      | 2, _ =>
        have := jo by'.2.1 by'.2.2.2 by'.1 by'.2.2.1 h4.1 h4.2 h3.1 h3.2
        simp [this]
      | 3, _ =>
        have := jo bx.2.1 bx.2.2.2 bx.1 bx.2.2.1 h4.1 h4.2 h3.1 h3.2
        simp [this]
    · have hq' : P.par p ≠ P.n := by have := (hV.tr p (by omega) h0).1; omega
      simp only [join_W, join_S, join_E, join_N, join_par, join_sd, if_neg h, if_neg hq']
      exact hV.j p (by omega) h0
theorem join_cS (σ : am_M) (P : Pl) (hC : CP σ P) {q s : Nat} (hn : P.n < 13) (hq : q < P.n) (hs : s < 4) (o w d : Int32) (u : Bool) :
    p_35 σ (Int32.ofNat q) (Int32.ofNat s) o w d (bi u) ∧ CP (w_35 σ (Int32.ofNat q) (Int32.ofNat s) o w d (bi u)) (P.join q s o w d u) ∧ Fr [2, 3, 4, 5, 6, 8, 9, 10, 11] σ (w_35 σ (Int32.ofNat q) (Int32.ofNat s) o w d (bi u)) := by
  match s, hs with
  | 0, _ => exact join_c0 σ P hC hn hq o w d u
  | 1, _ => exact join_c1 σ P hC hn hq o w d u
  | 2, _ => exact join_c2 σ P hC hn hq o w d u
  | 3, _ => exact join_c3 σ P hC hn hq o w d u
theorem join_rS (σ : am_M) (P : Pl) (hV : VP P) (hR : RP σ P) {q s : Nat} (hn : P.n < 13) (hq : q < P.n) (hs : s < 4) (o w d x6 : Int32) (h6 : 0 ≤ x6 ∧ x6 ≤ 1) (hqs : q = 0 ∨ s ≠ (P.sd q + 2) % 4) (h4 : 1 ≤ w ∧ w ≤ 2000) (h5 : 1 ≤ d ∧ d ≤ 2000) (h3 : 0 ≤ o ∧ o ≤ plen P q s - w) :
    p_77 σ (Int32.ofNat q) (Int32.ofNat s) o w d x6 ∧ v_77 σ (Int32.ofNat q) (Int32.ofNat s) o w d x6 = Int32.ofNat P.n ∧ RP (w_77 σ (Int32.ofNat q) (Int32.ofNat s) o w d x6) (P.join q s o w d (x6 == 1)) ∧ Fr [50, 51, 52, 53, 54] σ (w_77 σ (Int32.ofNat q) (Int32.ofNat s) o w d x6) ∧ (w_77 σ (Int32.ofNat q) (Int32.ofNat s) o w d x6).1 50 16 = 0 ∧ (∀ i, i ≠ 0 → i ≠ 1 → i ≠ 16 → (w_77 σ (Int32.ofNat q) (Int32.ofNat s) o w d x6).1 50 i = σ.1 50 i) := by
  match s, hs with
  | 0, _ => exact join_r0 σ P hV hR hn hq o w d x6 h6 hqs h4 h5 h3
  | 1, _ => exact join_r1 σ P hV hR hn hq o w d x6 h6 hqs h4 h5 h3
  | 2, _ => exact join_r2 σ P hV hR hn hq o w d x6 h6 hqs h4 h5 h3
  | 3, _ => exact join_r3 σ P hV hR hn hq o w d x6 h6 hqs h4 h5 h3
theorem c_panel (σ : am_M) (h : Inv σ) (x1 x2 x3 x4 x5 x6 : Int32) : p_50 σ x1 x2 x3 x4 x5 x6 ∧ p_77 (w_50 σ x1 x2 x3 x4 x5 x6) x1 x2 x3 x4 x5 x6 ∧ v_50 σ x1 x2 x3 x4 x5 x6 = v_77 (w_50 σ x1 x2 x3 x4 x5 x6) x1 x2 x3 x4 x5 x6 ∧ Inv (w_77 (w_50 σ x1 x2 x3 x4 x5 x6) x1 x2 x3 x4 x5 x6) ∧ (w_77 (w_50 σ x1 x2 x3 x4 x5 x6) x1 x2 x3 x4 x5 x6).1 0 = σ.1 0 := by
  have hI := h
  obtain ⟨P, hV, hC, hR, hM, hO⟩ := h
  by_cases ha : acc P x1 x2 x3 x4 x5 x6
  · obtain ⟨hn, q, s, hq, hs, rfl, rfl, h6, hqs, h4, h5, h3⟩ := ha
    have h34 := v_34_i σ P hV hC (Int32.ofNat q) (Int32.ofNat s)
    have h34' : v_34 σ (Int32.ofNat q) (Int32.ofNat s) ≠ 0 := by
      intro e
      rw [h34.2] at e
      exact e ⟨q, s, hq, hs, rfl, rfl, hqs⟩
    have h32 := v_32_i σ P hC hV.n13 hq hs
    have hC0 : CP (am_put σ 1 9 0) P := hC.put _ _ _ (by decide)
    have jc := join_cS (am_put σ 1 9 0) P hC0 hn hq hs x3 x4 x5 (x6 == 1)
    rw [← up_i h6] at jc
    have e50 : v_50 σ (Int32.ofNat q) (Int32.ofNat s) x3 x4 x5 x6 = Int32.ofNat P.n ∧ w_50 σ (Int32.ofNat q) (Int32.ofNat s) x3 x4 x5 x6 = w_35 (am_put σ 1 9 0) (Int32.ofNat q) (Int32.ofNat s) x3 x4 x5 (if x6 = 1 then (1 : Int32) else 0) ∧ p_50 σ (Int32.ofNat q) (Int32.ofNat s) x3 x4 x5 x6 := by
      unfold v_50 w_50 p_50
      simp only [hC.1, pi_l13 hV.n13, hn, isWi_i, bi_0, decide_eq_false_iff_not, h6, h34', h34.1, h4, h5, h32.1, h32.2, h3, and_self, not_true_eq_false, not_false_eq_true, true_implies, if_true, if_false, true_and, jc.1, and_true]
      unfold v_35
      rw [am_rd, if_neg (by decide), hC.1]
    rw [e50.1, e50.2.1]
    generalize hτ : w_35 (am_put σ 1 9 0) (Int32.ofNat q) (Int32.ofNat s) x3 x4 x5 (if x6 = 1 then (1 : Int32) else 0) = τ at *
    obtain ⟨-, jC, jF⟩ := jc
    have hR1 : RP τ P := (hR.put 1 9 0 (by decide) (by decide)).fr jF (by decide)
    obtain ⟨r1, r2, r3, r4, r5, r6⟩ := join_rS τ P hV hR1 hn hq hs x3 x4 x5 x6 h6 hqs h4 h5 h3
    refine ⟨e50.2.2, r1, r2.symm, ⟨P.join q s x3 x4 x5 (x6 == 1), join_V P hV hn hq hs _ _ _ _ hqs h4 h5 h3, jC.fr r4 (by decide), r3, ?_, Or.inl ?_⟩, ?_⟩
    · unfold Misc at *
      rw [r4.1 1 (by decide), jF.1 1 (by decide), r6 2 (by decide) (by decide) (by decide), r6 3 (by decide) (by decide) (by decide), r6 9 (by decide) (by decide) (by decide), r6 10 (by decide) (by decide) (by decide), jF.1 50 (by decide)]
      simpa [am_rd] using hM
    · rw [r5, r4.1 1 (by decide), jF.1 1 (by decide)]
      simp [am_rd]
    · rw [r4.1 0 (by decide), jF.1 0 (by decide)]
      rfl
  · have n1 := panel_no σ P hV hC x1 x2 x3 x4 x5 x6 ha
    have n2 := rpanel_no σ P hV hR x1 x2 x3 x4 x5 x6 ha
    rw [n1.2.1, n1.2.2, n2.2.1, n2.2.2]
    exact ⟨n1.1, n2.1, rfl, inv500 hI 0⟩
