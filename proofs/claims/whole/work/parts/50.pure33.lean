/-! the turn of a bend: ways, reaches, bands -/
def uD (P : Pl) (b : Int32) (k : Nat) : Int32 := aw (P.sd k) (cX P b (P.par k)) (cY P b (P.par k))
def vD (P : Pl) (b : Int32) (k : Nat) : Int32 := sg (P.up k) (cZ P b (P.par k))
theorem g1_uD {P : Pl} (hV : VP P) (b : Int32) {k : Nat} (hk : k < P.n) (h0 : 0 < k) : g1 (uD P b k) := by
  obtain ⟨hq, hs⟩ := hV.tr k hk h0
  obtain ⟨r1, r2, r3, -⟩ := frm_c hV b (P.par k) (by omega)
  unfold uD aw
  split
  · exact r1
  · split
    · exact r2
    · split
      · exact g1_neg r1
      · exact g1_neg r2
theorem g1_vD {P : Pl} (hV : VP P) (b : Int32) {k : Nat} (hk : k < P.n) (h0 : 0 < k) : g1 (vD P b k) := by
  obtain ⟨hq, hs⟩ := hV.tr k hk h0
  obtain ⟨r1, r2, r3, -⟩ := frm_c hV b (P.par k) (by omega)
  exact g1_sg r3 _
/-- how far a panel goes in a direction -/
def gA (P : Pl) (b : Int32) (p : Nat) (c : Int32) : Int32 := if 0 < c then hi P b p (ax c) else -(lo P b p (ax c))
def rch (P : Pl) (b : Int32) (k p j : Nat) : Int32 := if j = 0 then gA P b p (uD P b k) - gA P b (P.par k) (uD P b k) else if j = 1 then gA P b p (vD P b k) - gA P b (P.par k) (vD P b k) else if j = 2 then gA P b p (-(uD P b k)) + gA P b (P.par k) (uD P b k) else gA P b p (-(vD P b k)) + gA P b (P.par k) (vD P b k)
def m0 (x : Int32) : Int32 := if 0 < x then x else 0
def tB (r : Nat → Int32) (j : Nat) : Bool := decide (0 < r j) && !decide (r ((j + 1) % 4) < 0)
def iB (r : Nat → Int32) (j : Nat) : Int32 := m0 (-(r ((j + 2) % 4))) * m0 (-(r ((j + 2) % 4))) + m0 (-(r ((j + 3) % 4))) * m0 (-(r ((j + 3) % 4)))
def oB (r : Nat → Int32) (j : Nat) : Int32 := r j * r j + r ((j + 1) % 4) * r ((j + 1) % 4)
def st_ (r s : Nat → Int32) (j j' : Nat) : Bool := tB r j && tB s j' && decide ((if iB r j < iB s j' then iB s j' else iB r j) < (if oB s j' < oB r j then oB s j' else oB r j))
def swJ (r s : Nat → Int32) (o j : Nat) : Bool := st_ r s j j || st_ r s j ((j + o) % 4)
def swB (r s : Nat → Int32) (o : Nat) : Bool := swJ r s o 0 || swJ r s o 1 || swJ r s o 2 || swJ r s o 3
/-- whether the ranges along the bend have more than their ends in common -/
def bsd (P : Pl) (b : Int32) (w a f : Nat) : Bool := if lo P b a w = hi P b a w ∧ lo P b f w = hi P b f w then decide (lo P b a w = lo P b f w) else decide (lo P b a w < hi P b f w) && decide (lo P b f w < hi P b a w)
theorem v10_c {P : Pl} (hV : VP P) (b : Int32) (σ : am_M) (hF : FC σ P b) {p : Nat} (hp : p < P.n) {c : Int32} (hc : g1 c) : p_10 σ (Int32.ofNat p) c ∧ v_10 σ (Int32.ofNat p) c = gA P b p c := by
  have h13 := hV.n13
  have h3 := ax_3 hc
  have f := (hF p hp).2.2.2.2 (ax c) h3
  unfold p_10 v_10 gA
  simp (disch := omega) only [v7_i _ hc, if_true, if_false, pi_pos, pi_npos, pi_nn, pi_ng, pi_nle, pi_lt, false_or, or_false, not_false_eq_true, true_and, and_true, false_and, and_false, implies_true, not_true, not_true_eq_false, false_implies, true_implies, pi_a1, pi_a2, pi_a3, pi_ab, pi_4, pi_3, pi_6, v_70_i, v_68_i, v_69_i, mod2_i, bi_0, bi_n, vp_bi, enc_flip, flip_s, f, and_self]
theorem v10_p (σ : am_M) (j : Nat) (x y : Int32) {c : Int32} (hc : g1 c) : v_10 (am_put σ 38 j x) y c = v_10 σ y c := by
  have h3 := ax_3 hc
  unfold v_10
  simp (disch := omega) only [v7_i _ hc, pi_nn, am_rd, pi_neq, false_and, if_false]
theorem p10_p (σ τ : am_M) (y c : Int32) : p_10 τ y c = p_10 σ y c := rfl
theorem an3 {i : Nat} (h : i < 4) : (((Int32.ofNat i + 1) &&& (3 : Int32)) = Int32.ofNat ((i + 1) % 4)) ∧ (((Int32.ofNat i + 2) &&& (3 : Int32)) = Int32.ofNat ((i + 2) % 4)) ∧ (((Int32.ofNat i + 3) &&& (3 : Int32)) = Int32.ofNat ((i + 3) % 4)) := by
  have : ∀ i < 4, (((Int32.ofNat i + 1) &&& (3 : Int32)) = Int32.ofNat ((i + 1) % 4)) ∧ (((Int32.ofNat i + 2) &&& (3 : Int32)) = Int32.ofNat ((i + 2) % 4)) ∧ (((Int32.ofNat i + 3) &&& (3 : Int32)) = Int32.ofNat ((i + 3) % 4)) := by decide
  exact this i h
theorem isT (a c : Int32) : (if 0 < a then ((if c < 0 then (0 : Int32) else 1) : Int32) else 0) = bi (decide (0 < a) && !decide (c < 0)) := by
  by_cases h1 : 0 < a <;> by_cases h2 : c < 0 <;> simp [h1, h2, bi]
theorem mx0 (σ : am_M) (x : Int32) : v_120 σ 0 x = m0 x := rfl
theorem l44_c {p : Nat} (hp : p < 13) (r : Nat → Int32) (x2 x4 x5 : Int32) : ∀ (f i : Nat) (σ : am_M), 4 < i + f → i ≤ 4 → (∀ j < 4, σ.1 38 j = r j) →
    q_44_109 f σ x2 (Int32.ofNat p) x4 x5 (Int32.ofNat i) ∧ ∃ σ', l_44_109 f σ x2 (Int32.ofNat p) x4 x5 (Int32.ofNat i) = σ' ∧ Fr [40, 41, 42, 43, 45, 46, 47, 48] σ σ' ∧ (∀ a < 4, ∀ j, (j ≠ p ∨ a < i) → σ'.1 (40 + a) j = σ.1 (40 + a) j ∧ σ'.1 (45 + a) j = σ.1 (45 + a) j) ∧ ∀ a < 4, i ≤ a → σ'.1 (40 + a) p = (if tB r a then iB r a else 0) ∧ σ'.1 (45 + a) p = (if tB r a then oB r a else 0) := by
  intro f
  induction f with
  | zero => intro i σ h1 h2; omega
  | succ f ih =>
    intro i σ h1 h2 hr
    rw [q_44_109, l_44_109]
    by_cases hi : i < 4
    · have i40 : 40 + i ∈ [40, 41, 42, 43, 45, 46, 47, 48] := by
        have : ∀ i < 4, 40 + i ∈ [40, 41, 42, 43, 45, 46, 47, 48] := by decide
        exact this i hi
      have i45 : 45 + i ∈ [40, 41, 42, 43, 45, 46, 47, 48] := by
        have : ∀ i < 4, 45 + i ∈ [40, 41, 42, 43, 45, 46, 47, 48] := by decide
        exact this i hi
      obtain ⟨n1, n2, n3⟩ := an3 hi
      rw [pi_a1] at n1
      have r0 := hr i hi
      have r1 := hr ((i + 1) % 4) (by omega)
      have r2 := hr ((i + 2) % 4) (by omega)
      have r3 := hr ((i + 3) % 4) (by omega)
      have e1 : (if tB r i = false then (0 : Int32) else m0 (-(r ((i + 2) % 4))) * m0 (-(r ((i + 2) % 4))) + m0 (-(r ((i + 3) % 4))) * m0 (-(r ((i + 3) % 4)))) = (if tB r i then iB r i else 0) := by unfold iB; cases tB r i <;> rfl
      have e2 : (if tB r i = false then (0 : Int32) else r i * r i + r ((i + 1) % 4) * r ((i + 1) % 4)) = (if tB r i then oB r i else 0) := by unfold oB; cases tB r i <;> rfl
      have e3 : (decide (0 < r i) && !decide (r ((i + 1) % 4) < 0)) = tB r i := rfl
      simp (disch := omega) only [lt4_i, hi, if_true, true_implies, n1, n2, n3, pi_nn, pi_ng, pi_nle, false_or, not_false_eq_true, true_and, r0, r1, r2, r3, isT, e3, bi_0, mx0, e1, e2, pi_a1]
      generalize hv1 : (if tB r i then iB r i else 0) = v1
      generalize hv2 : (if tB r i then oB r i else 0) = v2
      have hfr : Fr [40, 41, 42, 43, 45, 46, 47, 48] σ (am_put (am_put σ (40 + i) p v1) (45 + i) p v2) := ((Fr.refl _ _).put _ _ _ i40).put _ _ _ i45
      obtain ⟨k1, σ', k2, k3, k4, k5⟩ := ih (i + 1) (am_put (am_put σ (40 + i) p v1) (45 + i) p v2) (by omega) (by omega) (by intro j hj; rw [hfr.1 38 (by decide)]; exact hr j hj)
      refine ⟨k1, σ', k2, hfr.trans k3, ?_, ?_⟩
      · intro a ha j hj
        rw [(k4 a ha j (by omega)).1, (k4 a ha j (by omega)).2]
        have h1 : ¬ (40 + a = 40 + i ∧ j = p) := by omega
        have h2 : ¬ (45 + a = 45 + i ∧ j = p) := by omega
        simp (disch := omega) only [am_rd, pi_neq, false_and, if_false, h1, h2, and_self]
      · intro a ha hia
        by_cases hai : a = i
        · subst hai
          rw [(k4 a ha p (by omega)).1, (k4 a ha p (by omega)).2]
          simp (disch := omega) only [am_rd, pi_neq, false_and, if_false, and_self, if_true, hv1, hv2]
        · exact k5 a ha (by omega)
    · have hi4 : i = 4 := by omega
      subst hi4
      have : ¬ (Int32.ofNat 4 < 4) := by decide
      simp only [this, if_false, false_implies, true_and]
      exact ⟨_, rfl, Fr.refl _ _, fun _ _ _ _ => ⟨rfl, rfl⟩, fun a h1 h2 => by omega⟩
/-- the directions stand -/
def DR (σ : am_M) (P : Pl) (b : Int32) (k : Nat) : Prop := σ.1 37 0 = uD P b k ∧ σ.1 37 1 = vD P b k ∧ σ.1 37 2 = -(uD P b k) ∧ σ.1 37 3 = -(vD P b k) ∧ σ.1 36 1 = Int32.ofNat (axs P b (P.par k) (P.sd k))
/-- the bands of panel p stand -/
def BE (σ : am_M) (P : Pl) (b : Int32) (k p : Nat) : Prop := ∀ a < 4, σ.1 (40 + a) p = (if tB (rch P b k p) a then iB (rch P b k p) a else 0) ∧ σ.1 (45 + a) p = (if tB (rch P b k p) a then oB (rch P b k p) a else 0)
theorem FC.fr {A : List Nat} {σ σ' : am_M} {P : Pl} {b : Int32} (hF : FC σ P b) (h : Fr A σ σ') (hA : ([21, 22, 23, 25, 26, 27, 29, 30, 31, 33, 34, 35].all fun x => !A.contains x) = true) : FC σ' P b := by
  intro p hp
  obtain ⟨a1, a2, a3, a4, a5⟩ := hF p hp
  refine ⟨?_, ?_, ?_, ?_, ?_⟩
  · rw [h.1 21 (dj hA 21 (by decide))]; exact a1
  · rw [h.1 22 (dj hA 22 (by decide))]; exact a2
  · rw [h.1 23 (dj hA 23 (by decide))]; exact a3
  · intro i hi
    rw [h.1 (25 + i) (dj hA _ (by revert i; decide))]; exact a4 i hi
  · intro i hi
    rw [h.1 (29 + i) (dj hA _ (by revert i; decide)), h.1 (33 + i) (dj hA _ (by revert i; decide))]; exact a5 i hi
theorem w44_c {P : Pl} (hV : VP P) (b : Int32) (σ : am_M) (hF : FC σ P b) {k : Nat} (hk : k < P.n) (h0 : 0 < k) (hD : DR σ P b k) {p : Nat} (hp : p < P.n) :
    p_44 σ (Int32.ofNat (P.par k)) (Int32.ofNat p) ∧ ∃ σ', w_44 σ (Int32.ofNat (P.par k)) (Int32.ofNat p) = σ' ∧ Fr [38, 40, 41, 42, 43, 45, 46, 47, 48] σ σ' ∧ BE σ' P b k p ∧ ∀ p', p' ≠ p → BE σ P b k p' → BE σ' P b k p' := by
  have h13 := hV.n13
  obtain ⟨hq, hs⟩ := hV.tr k hk h0
  have gu := g1_uD hV b hk h0
  have gv := g1_vD hV b hk h0
  have gu' := g1_neg gu
  have gv' := g1_neg gv
  obtain ⟨d0, d1, d2, d3, -⟩ := hD
  have hqn : P.par k < P.n := by omega
  obtain ⟨a1, a2⟩ := v10_c hV b σ hF hqn gu
  obtain ⟨a3, a4⟩ := v10_c hV b σ hF hqn gv
  obtain ⟨b1, b2⟩ := v10_c hV b σ hF hp gu
  obtain ⟨b3, b4⟩ := v10_c hV b σ hF hp gv
  obtain ⟨b5, b6⟩ := v10_c hV b σ hF hp gu'
  obtain ⟨b7, b8⟩ := v10_c hV b σ hF hp gv'
  unfold p_44 w_44 f_44
  rw [d0, d1, d2, d3]
  simp only [v10_p _ _ _ _ gu, v10_p _ _ _ _ gv, v10_p _ _ _ _ gu', v10_p _ _ _ _ gv', a2, a4, b2, b4, b6, b8]
  simp only [p10_p σ (am_put _ _ _ _)]
  generalize hσ : am_put (am_put (am_put (am_put σ 38 0 (gA P b p (uD P b k) - gA P b (P.par k) (uD P b k))) 38 1 (gA P b p (vD P b k) - gA P b (P.par k) (vD P b k))) 38 2 (gA P b p (-(uD P b k)) + gA P b (P.par k) (uD P b k))) 38 3 (gA P b p (-(vD P b k)) + gA P b (P.par k) (vD P b k)) = σ0
  have f0 : Fr [38, 40, 41, 42, 43, 45, 46, 47, 48] σ σ0 := by
    rw [← hσ]
    exact ((((Fr.refl _ _).put _ _ _ (by decide)).put _ _ _ (by decide)).put _ _ _ (by decide)).put _ _ _ (by decide)
  have f40 : ∀ a < 4, σ0.1 (40 + a) = σ.1 (40 + a) ∧ σ0.1 (45 + a) = σ.1 (45 + a) := by
    intro a ha
    rw [← hσ]
    simp (disch := omega) only [am_ne, and_self]
  obtain ⟨k1, σ', k2, k3, k4, k5⟩ := l44_c (show p < 13 by omega) (rch P b k p) (Int32.ofNat (P.par k)) (gA P b (P.par k) (uD P b k)) (gA P b (P.par k) (vD P b k)) 14 0 σ0 (by omega) (by omega) (by
    intro j hj
    rw [← hσ]
    match j, hj with
    | 0, _ => simp [am_rd, rch]
    | 1, _ => simp [am_rd, rch]
    | 2, _ => simp [am_rd, rch]
    | 3, _ => simp [am_rd, rch])
  rw [l_0] at k1 k2
  refine ⟨⟨a1, a3, b1, b3, b5, b7, k1⟩, σ', k2, f0.trans (k3.mono (by decide)), fun a ha => k5 a ha (Nat.zero_le a), ?_⟩
  intro p' hp' hB a ha
  rw [(k4 a ha p' (Or.inl hp')).1, (k4 a ha p' (Or.inl hp')).2, (f40 a ha).1, (f40 a ha).2]
  exact hB a ha
theorem w43_c {P : Pl} (hV : VP P) (b : Int32) (σ : am_M) (hC : CP σ P) (hF : FC σ P b) {k : Nat} (hk : k < P.n) (h0 : 0 < k) : p_43 σ (Int32.ofNat k) ∧ DR (w_43 σ (Int32.ofNat k)) P b k ∧ Fr [36, 37] σ (w_43 σ (Int32.ofNat k)) := by
  have h13 := hV.n13
  obtain ⟨hq, hs⟩ := hV.tr k hk h0
  obtain ⟨e1, e2, e3⟩ := (hC.2 k hk).1 h0
  obtain ⟨f1, f2, f3, -, -⟩ := hF (P.par k) (by omega)
  have h8 : p_8 σ (Int32.ofNat (P.par k)) (Int32.ofNat (P.sd k)) ∧ v_8 σ (Int32.ofNat (P.par k)) (Int32.ofNat (P.sd k)) = uD P b k := by
    unfold p_8 v_8 uD aw
    simp (disch := omega) only [if_true, if_false, pi_pos, pi_npos, pi_nn, pi_ng, pi_nle, pi_lt, false_or, or_false, not_false_eq_true, true_and, and_true, false_and, and_false, implies_true, not_true, not_true_eq_false, false_implies, true_implies, pi_a1, pi_a2, pi_a3, pi_ab, pi_4, pi_3, pi_6, v_70_i, v_68_i, v_69_i, mod2_i, bi_0, bi_n, vp_bi, enc_flip, flip_s, f1, f2, and_self, true_and]
    match P.sd k, hs with
    | 0, _ => rfl
    | 1, _ => rfl
    | 2, _ => rfl
    | 3, _ => rfl
  have hv : (if bi (P.up k) = 0 then -(cZ P b (P.par k)) else cZ P b (P.par k)) = vD P b k := by
    unfold vD sg
    cases P.up k <;> rfl
  unfold p_43 w_43 w_43_98
  simp (disch := omega) only [pi_nn, e1, e2, e3, f3, hv, h8.2]
  generalize hσ : am_put (am_put (am_put (am_put σ 37 0 (uD P b k)) 37 1 (vD P b k)) 37 2 (-(uD P b k))) 37 3 (-(vD P b k)) = σ0
  have f0 : Fr [36, 37] σ σ0 := by
    rw [← hσ]
    exact ((((Fr.refl _ _).put _ _ _ (by decide)).put _ _ _ (by decide)).put _ _ _ (by decide)).put _ _ _ (by decide)
  obtain ⟨a1, a2⟩ := v9_c P hV b σ0 (hF.fr f0 (by decide)) (show P.par k < P.n by omega) hs
  rw [a2]
  refine ⟨?_, ?_, f0.put _ _ _ (by decide)⟩
  · simp (disch := omega) only [pi_ng, pi_nle, false_or, not_false_eq_true, implies_true, true_and, h8.1, a1, and_self]
  · unfold DR
    rw [← hσ]
    simp [am_rd]
