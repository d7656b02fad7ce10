/-! the fold: codes of directions, corners, boxes, as functions of the plan and the set of folded bends -/
def shr (c : Int32) (i : Nat) : Int32 := if c = Int32.ofNat i + 1 then 1 else if c = -Int32.ofNat i - 1 then -1 else 0
theorem v_6_i (σ : am_M) (c : Int32) (i : Nat) : v_6 σ c (Int32.ofNat i) = shr c i := rfl
def FS : Type := Int32 × Int32 × Int32 × (Nat → Int32)
def isF (b : Int32) (p : Nat) : Bool := decide (((b >>> (Int32.ofNat p &&& (31 : Int32))) &&& (1 : Int32)) = 1)
/-- the way from the parent over its side, and the way in which the panel stands up or down -/
def aw (s : Nat) (x y : Int32) : Int32 := if s = 0 then x else if s = 1 then y else if s = 2 then -x else -y
def sg (u : Bool) (z : Int32) : Int32 := if u then z else -z
def bx (P : Pl) (p : Nat) : Int32 := if P.sd p = 2 then P.E p else P.W p
def by_ (P : Pl) (p : Nat) : Int32 := if P.sd p = 3 then P.N p else P.S p
def nX (P : Pl) (b : Int32) (p : Nat) (x y z : Int32) : Int32 := if isF b p then (if P.sd p = 0 then sg (P.up p) z else if P.sd p = 2 then -(sg (P.up p) z) else x) else x
def nY (P : Pl) (b : Int32) (p : Nat) (x y z : Int32) : Int32 := if isF b p then (if P.sd p = 1 then sg (P.up p) z else if P.sd p = 3 then -(sg (P.up p) z) else y) else y
def nZ (P : Pl) (b : Int32) (p : Nat) (x y z : Int32) : Int32 := if isF b p then (if P.up p then -(aw (P.sd p) x y) else aw (P.sd p) x y) else z
def nC (P : Pl) (b : Int32) (p : Nat) (x y z : Int32) (c : Nat → Int32) (i : Nat) : Int32 := (((c i + (bx P p - P.W (P.par p)) * shr x i) + (by_ P p - P.S (P.par p)) * shr y i) - (bx P p - P.W p) * shr (nX P b p x y z) i) - (by_ P p - P.S p) * shr (nY P b p x y z) i
def fF (P : Pl) (b : Int32) : Nat → Nat → FS
  | 0, _ => (1, 2, 3, fun _ => 0)
  | k + 1, p => if p = 0 then (1, 2, 3, fun _ => 0) else (nX P b p (fF P b k (P.par p)).1 (fF P b k (P.par p)).2.1 (fF P b k (P.par p)).2.2.1, nY P b p (fF P b k (P.par p)).1 (fF P b k (P.par p)).2.1 (fF P b k (P.par p)).2.2.1, nZ P b p (fF P b k (P.par p)).1 (fF P b k (P.par p)).2.1 (fF P b k (P.par p)).2.2.1, nC P b p (fF P b k (P.par p)).1 (fF P b k (P.par p)).2.1 (fF P b k (P.par p)).2.2.1 (fF P b k (P.par p)).2.2.2)
theorem fF_st {P : Pl} (hV : VP P) (b : Int32) : ∀ (k p : Nat), p ≤ k → p < P.n → fF P b k p = fF P b p p := by
  intro k
  induction k using Nat.strongRecOn with
  | ind k ih =>
    intro p hp hn
    match k, p, hp with
    | 0, 0, _ => rfl
    | k + 1, 0, _ => rfl
    | k + 1, p + 1, hp =>
      have ht := (hV.tr (p + 1) hn (by omega)).1
      by_cases e : p = k
      · rw [e]
      · have h1 := ih k (by omega) (P.par (p + 1)) (by omega) (by omega)
        have h2 := ih p (by omega) (P.par (p + 1)) (by omega) (by omega)
        unfold fF
        rw [h1, h2]
def cX (P : Pl) (b : Int32) (p : Nat) : Int32 := (fF P b p p).1
def cY (P : Pl) (b : Int32) (p : Nat) : Int32 := (fF P b p p).2.1
def cZ (P : Pl) (b : Int32) (p : Nat) : Int32 := (fF P b p p).2.2.1
def cC (P : Pl) (b : Int32) (p i : Nat) : Int32 := (fF P b p p).2.2.2 i
theorem cX_0 (P : Pl) (b : Int32) : cX P b 0 = 1 := rfl
theorem cY_0 (P : Pl) (b : Int32) : cY P b 0 = 2 := rfl
theorem cZ_0 (P : Pl) (b : Int32) : cZ P b 0 = 3 := rfl
theorem cC_0 (P : Pl) (b : Int32) (i : Nat) : cC P b 0 i = 0 := rfl
theorem fF_1 {P : Pl} (hV : VP P) (b : Int32) {p : Nat} (hp : p < P.n) (h0 : 0 < p) : fF P b p p = (nX P b p (cX P b (P.par p)) (cY P b (P.par p)) (cZ P b (P.par p)), nY P b p (cX P b (P.par p)) (cY P b (P.par p)) (cZ P b (P.par p)), nZ P b p (cX P b (P.par p)) (cY P b (P.par p)) (cZ P b (P.par p)), nC P b p (cX P b (P.par p)) (cY P b (P.par p)) (cZ P b (P.par p)) (cC P b (P.par p))) := by
  match p, h0 with
  | p + 1, _ =>
    have ht := (hV.tr (p + 1) hp (by omega)).1
    have h1 := fF_st hV b p (P.par (p + 1)) (by omega) (by omega)
    conv => lhs; unfold fF
    rw [h1]; rfl
theorem cX_1 {P : Pl} (hV : VP P) (b : Int32) {p : Nat} (hp : p < P.n) (h0 : 0 < p) : cX P b p = nX P b p (cX P b (P.par p)) (cY P b (P.par p)) (cZ P b (P.par p)) := by
  rw [cX, fF_1 hV b hp h0]
theorem cY_1 {P : Pl} (hV : VP P) (b : Int32) {p : Nat} (hp : p < P.n) (h0 : 0 < p) : cY P b p = nY P b p (cX P b (P.par p)) (cY P b (P.par p)) (cZ P b (P.par p)) := by
  rw [cY, fF_1 hV b hp h0]
theorem cZ_1 {P : Pl} (hV : VP P) (b : Int32) {p : Nat} (hp : p < P.n) (h0 : 0 < p) : cZ P b p = nZ P b p (cX P b (P.par p)) (cY P b (P.par p)) (cZ P b (P.par p)) := by
  rw [cZ, fF_1 hV b hp h0]
theorem cC_1 {P : Pl} (hV : VP P) (b : Int32) {p : Nat} (hp : p < P.n) (h0 : 0 < p) (i : Nat) : cC P b p i = nC P b p (cX P b (P.par p)) (cY P b (P.par p)) (cZ P b (P.par p)) (cC P b (P.par p)) i := by
  rw [cC, fF_1 hV b hp h0]
def far (P : Pl) (b : Int32) (p i : Nat) : Int32 := (cC P b p i + (P.E p - P.W p) * shr (cX P b p) i) + (P.N p - P.S p) * shr (cY P b p) i
def lo (P : Pl) (b : Int32) (p i : Nat) : Int32 := if far P b p i < cC P b p i then far P b p i else cC P b p i
def hi (P : Pl) (b : Int32) (p i : Nat) : Int32 := if cC P b p i < far P b p i then far P b p i else cC P b p i
/-- panel p stands in the program's fold -/
def FE (σ : am_M) (P : Pl) (b : Int32) (p : Nat) : Prop := σ.1 21 p = cX P b p ∧ σ.1 22 p = cY P b p ∧ σ.1 23 p = cZ P b p ∧ (∀ i < 3, σ.1 (25 + i) p = cC P b p i) ∧ ∀ i < 3, σ.1 (29 + i) p = lo P b p i ∧ σ.1 (33 + i) p = hi P b p i
def FC (σ : am_M) (P : Pl) (b : Int32) : Prop := ∀ p < P.n, FE σ P b p
/-- panel p stands in the reference's fold -/
def GE (τ : am_M) (P : Pl) (b : Int32) (p : Nat) : Prop := ∀ i < 3, τ.1 57 (3 * p + i) = shr (cX P b p) i ∧ τ.1 58 (3 * p + i) = shr (cY P b p) i ∧ τ.1 59 (3 * p + i) = shr (cZ P b p) i ∧ τ.1 56 (3 * p + i) = (cC P b p i - P.W p * shr (cX P b p) i) - P.S p * shr (cY P b p) i ∧ τ.1 60 (6 * p + i) = lo P b p i ∧ τ.1 60 (6 * p + 3 + i) = hi P b p i
def GC (τ : am_M) (P : Pl) (b : Int32) : Prop := ∀ p < P.n, GE τ P b p
