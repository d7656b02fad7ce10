theorem m1_ (x : Int32) : (-1 : Int32) * x = -x := by grind
theorem turn_x (P : Pl) (hV : VP P) (b : Int32) {p : Nat} (hp : p < P.n) (h0 : 0 < p) (i : Nat) (hi : i < 3) :
    (if isx P p then (if isF b p then (awy P p * tow P p) * shr (cZ P b (P.par p)) i else shr (cX P b (P.par p)) i) else shr (cX P b (P.par p)) i) = shr (cX P b p) i := by
  have hs := (hV.tr p hp h0).2
  rw [cX_1 hV b hp h0]
  generalize cX P b (P.par p) = x
  generalize cY P b (P.par p) = y
  generalize cZ P b (P.par p) = z
  have hz := shr_neg z i hi
  have hz2 := shr_neg (-z) i hi
  unfold nX isx awy tow sg
  generalize isF b p = fo
  generalize P.up p = u
  match P.sd p, hs with
  | 0, _ => cases fo <;> cases u <;> simp [hz, m1_]
  | 1, _ => cases fo <;> cases u <;> simp [hz, m1_]
  | 2, _ => cases fo <;> cases u <;> simp [hz, m1_]
  | 3, _ => cases fo <;> cases u <;> simp [hz, m1_]
theorem turn_y (P : Pl) (hV : VP P) (b : Int32) {p : Nat} (hp : p < P.n) (h0 : 0 < p) (i : Nat) (hi : i < 3) :
    (if isx P p then shr (cY P b (P.par p)) i else (if isF b p then (awy P p * tow P p) * shr (cZ P b (P.par p)) i else shr (cY P b (P.par p)) i)) = shr (cY P b p) i := by
  have hs := (hV.tr p hp h0).2
  rw [cY_1 hV b hp h0]
  generalize cX P b (P.par p) = x
  generalize cY P b (P.par p) = y
  generalize cZ P b (P.par p) = z
  have hz := shr_neg z i hi
  unfold nY isx awy tow sg
  generalize isF b p = fo
  generalize P.up p = u
  match P.sd p, hs with
  | 0, _ => cases fo <;> cases u <;> simp [hz, m1_]
  | 1, _ => cases fo <;> cases u <;> simp [hz, m1_]
  | 2, _ => cases fo <;> cases u <;> simp [hz, m1_]
  | 3, _ => cases fo <;> cases u <;> simp [hz, m1_]
theorem turn_z (P : Pl) (hV : VP P) (b : Int32) {p : Nat} (hp : p < P.n) (h0 : 0 < p) (i : Nat) (hi : i < 3) :
    (if isF b p then ((-(awy P p)) * tow P p) * (if isx P p then shr (cX P b (P.par p)) i else shr (cY P b (P.par p)) i) else shr (cZ P b (P.par p)) i) = shr (cZ P b p) i := by
  have hs := (hV.tr p hp h0).2
  rw [cZ_1 hV b hp h0]
  generalize cX P b (P.par p) = x
  generalize cY P b (P.par p) = y
  generalize cZ P b (P.par p) = z
  have hx := shr_neg x i hi
  have hy := shr_neg y i hi
  unfold nZ isx awy tow aw
  generalize isF b p = fo
  generalize P.up p = u
  match P.sd p, hs with
  | 0, _ => cases fo <;> cases u <;> simp [hx, hy, m1_]
  | 1, _ => cases fo <;> cases u <;> simp [hx, hy, m1_]
  | 2, _ => cases fo <;> cases u <;> simp [hx, hy, m1_]
  | 3, _ => cases fo <;> cases u <;> simp [hx, hy, m1_]
theorem rng_x (c wq sq wp sp e y x x' yy : Int32) : ((c - wq * x) - sq * yy) + e * (x - x') = ((((c + (e - wq) * x) + (sp - sq) * yy) - (e - wp) * x' - (sp - sp) * yy) - wp * x') - sp * yy := by grind
theorem rng_y (c wq sq wp sp e y x x' yy : Int32) : ((c - wq * yy) - sq * x) + e * (x - x') = ((((c + (wp - wq) * yy) + (e - sq) * x) - (wp - wp) * yy - (e - sp) * x') - wp * yy) - sp * x' := by grind
theorem turn_o (P : Pl) (hV : VP P) (b : Int32) {p : Nat} (hp : p < P.n) (h0 : 0 < p) (i : Nat) (hi : i < 3) :
    ((cC P b (P.par p) i - P.W (P.par p) * shr (cX P b (P.par p)) i) - P.S (P.par p) * shr (cY P b (P.par p)) i) + lineP P p * ((if isx P p then shr (cX P b (P.par p)) i else shr (cY P b (P.par p)) i) - (if isF b p then (awy P p * tow P p) * shr (cZ P b (P.par p)) i else (if isx P p then shr (cX P b (P.par p)) i else shr (cY P b (P.par p)) i))) = (cC P b p i - P.W p * shr (cX P b p) i) - P.S p * shr (cY P b p) i := by
  have hs := (hV.tr p hp h0).2
  have hx := turn_x P hV b hp h0 i hi
  have hy := turn_y P hV b hp h0 i hi
  rw [cC_1 hV b hp h0]
  unfold nC
  rw [← cX_1 hV b hp h0, ← cY_1 hV b hp h0]
  have hj := hV.j p hp h0
  unfold isx at *
  unfold lineP bx by_
  match hsd : P.sd p, hs with
  | 0, _ =>
    simp only [hsd, show (((0 : Nat) == 0) || ((0 : Nat) == 2)) = true from rfl, if_true] at hx hy ⊢
    rw [← hx, ← hy, ← hj.1 hsd]
    exact rng_x _ _ _ _ _ _ 0 _ _ _
  | 1, _ =>
    simp only [hsd, show (((1 : Nat) == 0) || ((1 : Nat) == 2)) = false from rfl, Bool.false_eq_true, if_false, if_true, Nat.reduceEqDiff] at hx hy ⊢
    rw [← hx, ← hy, ← hj.2.1 hsd]
    exact rng_y _ _ _ _ _ _ 0 _ _ _
  | 2, _ =>
    simp only [hsd, show (((2 : Nat) == 0) || ((2 : Nat) == 2)) = true from rfl, if_true, if_false, Nat.reduceEqDiff] at hx hy ⊢
    rw [← hx, ← hy, ← hj.2.2.1 hsd]
    exact rng_x _ _ _ _ _ _ 0 _ _ _
  | 3, _ =>
    simp only [hsd, show (((3 : Nat) == 0) || ((3 : Nat) == 2)) = false from rfl, Bool.false_eq_true, if_false, if_true, Nat.reduceEqDiff] at hx hy ⊢
    rw [← hx, ← hy, ← hj.2.2.2.1 hsd]
    exact rng_y _ _ _ _ _ _ 0 _ _ _
/-- what turn leaves of panel p -/
def G4 (τ : am_M) (P : Pl) (b : Int32) (p : Nat) : Prop := ∀ i < 3, τ.1 57 (3 * p + i) = shr (cX P b p) i ∧ τ.1 58 (3 * p + i) = shr (cY P b p) i ∧ τ.1 59 (3 * p + i) = shr (cZ P b p) i ∧ τ.1 56 (3 * p + i) = (cC P b p i - P.W p * shr (cX P b p) i) - P.S p * shr (cY P b p) i
theorem turn_c (P : Pl) (hV : VP P) (b : Int32) (τ : am_M) (hR : RP τ P) {p : Nat} (hp : p < P.n) (h0 : 0 < p) (hg : G4 τ P b (P.par p)) :
    p_89 τ (Int32.ofNat p) (bi (isF b p)) ∧ ∃ τ', w_89 τ (Int32.ofNat p) (bi (isF b p)) = τ' ∧ Fr [56, 57, 58, 59] τ τ' ∧ (∀ l j, (j < 3 * p ∨ 3 * p + 3 ≤ j) → τ'.1 l j = τ.1 l j) ∧ G4 τ' P b p := by
  obtain ⟨k1, τ', k2, k3, k4, k5⟩ := w89_c P hV b τ hR hp h0
  refine ⟨k1, τ', k2, k3, k4, ?_⟩
  intro i hi
  obtain ⟨a1, a2, a3, a4⟩ := k5 i hi
  obtain ⟨g1, g2, g3, g4⟩ := hg i hi
  unfold rnow rwas at a1 a2 a4
  unfold rwas at a3
  rw [g1, g2, g3] at a1 a2 a4
  rw [g1, g2, g3] at a3
  rw [g4] at a4
  have hx := turn_x P hV b hp h0 i hi
  have hy := turn_y P hV b hp h0 i hi
  have hz := turn_z P hV b hp h0 i hi
  have ho := turn_o P hV b hp h0 i hi
  refine ⟨?_, ?_, a3.trans hz, a4.trans ho⟩
  · rw [a1, ← hx]
    cases isx P p <;> rfl
  · rw [a2, ← hy]
    cases isx P p <;> rfl
