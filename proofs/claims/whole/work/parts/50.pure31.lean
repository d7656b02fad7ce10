/-! all panels of a fold lie within 26000 of one another, on every axis -/
def ac (a c : Int32) : Prop := (a = 0 ∧ c = 0) ∨ (a = 1 ∧ c = 0) ∨ (a = -1 ∧ c = 0) ∨ (a = 0 ∧ c = 1) ∨ (a = 0 ∧ c = -1)
theorem ac_f {x y z : Int32} (h : frm x y z) : ∀ i < 3, ac (shr x i) (shr y i) := by
  obtain ⟨h1, h2, -, h3, -, -⟩ := h
  have k : ∀ x ∈ [(1 : Int32), -1, 2, -2, 3, -3], ∀ y ∈ [(1 : Int32), -1, 2, -2, 3, -3], ax x ≠ ax y → ∀ i < 3, (shr x i = 0 ∧ shr y i = 0) ∨ (shr x i = 1 ∧ shr y i = 0) ∨ (shr x i = -1 ∧ shr y i = 0) ∨ (shr x i = 0 ∧ shr y i = 1) ∨ (shr x i = 0 ∧ shr y i = -1) := by decide
  refine k x ?_ y ?_ h3
  · unfold g1 at h1; simp only [List.mem_cons]; grind
  · unfold g1 at h2; simp only [List.mem_cons]; grind
theorem bm {x : Int} (h : -2147483648 ≤ x ∧ x < 2147483648) : Int.bmod x (2 ^ 32) = x := Int.bmod_eq_of_le (by omega) (by omega)
theorem tA {x y : Int32} (h : -2147483648 ≤ x.toInt + y.toInt ∧ x.toInt + y.toInt < 2147483648) : (x + y).toInt = x.toInt + y.toInt := by
  rw [Int32.toInt_add]; exact bm h
theorem tS {x y : Int32} (h : -2147483648 ≤ x.toInt - y.toInt ∧ x.toInt - y.toInt < 2147483648) : (x - y).toInt = x.toInt - y.toInt := by
  rw [Int32.toInt_sub]; exact bm h
theorem tN {x : Int32} (h : -2147483648 < x.toInt) : (-x).toInt = -x.toInt := by
  have := Int32.toInt_lt x
  rw [Int32.toInt_neg]; exact bm (by omega)
theorem tle {x y : Int32} : x ≤ y ↔ x.toInt ≤ y.toInt := Int32.le_iff_toInt_le
theorem tlt {x y : Int32} : x < y ↔ x.toInt < y.toInt := Int32.lt_iff_toInt_lt
theorem xm1 (x : Int32) : x * (-1 : Int32) = -x := by grind
theorem sbn (x y : Int32) : x + -y = x - y := by grind
theorem boxA {C w h a c dx dy : Int32} (hac : ac a c) (h1 : -30000 ≤ C.toInt) (h2 : C.toInt ≤ 30000) (hw : 1 ≤ w.toInt) (hw2 : w.toInt ≤ 2000) (hh : 1 ≤ h.toInt) (hh2 : h.toInt ≤ 2000) (d1 : 0 ≤ dx.toInt) (d2 : dx.toInt ≤ w.toInt) (d3 : 0 ≤ dy.toInt) (d4 : dy.toInt ≤ h.toInt) :
    (if C + w * a + h * c < C then C + w * a + h * c else C).toInt ≤ (C + dx * a + dy * c).toInt ∧ (C + dx * a + dy * c).toInt ≤ (if C < C + w * a + h * c then C + w * a + h * c else C).toInt ∧ (if C < C + w * a + h * c then C + w * a + h * c else C).toInt ≤ (if C + w * a + h * c < C then C + w * a + h * c else C).toInt + 2000 ∧ (if C + w * a + h * c < C then C + w * a + h * c else C).toInt ≤ C.toInt ∧ C.toInt ≤ (if C < C + w * a + h * c then C + w * a + h * c else C).toInt := by
  have e1 : (C + w).toInt = C.toInt + w.toInt := tA (by omega)
  have e2 : (C + dx).toInt = C.toInt + dx.toInt := tA (by omega)
  have e3 : (C + h).toInt = C.toInt + h.toInt := tA (by omega)
  have e4 : (C + dy).toInt = C.toInt + dy.toInt := tA (by omega)
  have e5 : (C - w).toInt = C.toInt - w.toInt := tS (by omega)
  have e6 : (C - dx).toInt = C.toInt - dx.toInt := tS (by omega)
  have e7 : (C - h).toInt = C.toInt - h.toInt := tS (by omega)
  have e8 : (C - dy).toInt = C.toInt - dy.toInt := tS (by omega)
  rcases hac with ⟨rfl, rfl⟩ | ⟨rfl, rfl⟩ | ⟨rfl, rfl⟩ | ⟨rfl, rfl⟩ | ⟨rfl, rfl⟩
  · simp only [Int32.mul_zero, Int32.add_zero, ite_self]; omega
  · have n1 : ¬ C + w < C := by rw [tlt]; omega
    have n2 : C < C + w := by rw [tlt]; omega
    simp only [Int32.mul_zero, Int32.add_zero, Int32.mul_one, n1, n2, if_true, if_false]; omega
  · have n1 : C - w < C := by rw [tlt]; omega
    have n2 : ¬ C < C - w := by rw [tlt]; omega
    simp only [Int32.mul_zero, Int32.add_zero, xm1, sbn, n1, n2, if_true, if_false]; omega
  · have n1 : ¬ C + h < C := by rw [tlt]; omega
    have n2 : C < C + h := by rw [tlt]; omega
    simp only [Int32.mul_zero, Int32.add_zero, Int32.mul_one, n1, n2, if_true, if_false]; omega
  · have n1 : C - h < C := by rw [tlt]; omega
    have n2 : ¬ C < C - h := by rw [tlt]; omega
    simp only [Int32.mul_zero, Int32.add_zero, xm1, sbn, n1, n2, if_true, if_false]; omega
theorem solveA {C d pt : Int32} (e : C + d = pt) (h1 : -26000 ≤ pt.toInt) (h2 : pt.toInt ≤ 26000) (d1 : 0 ≤ d.toInt) (d2 : d.toInt ≤ 2000) : -28000 ≤ C.toInt ∧ C.toInt ≤ 28000 := by
  have : C = pt - d := by rw [← e]; grind
  rw [this, tS (by omega)]; omega
theorem solveS {C d pt : Int32} (e : C - d = pt) (h1 : -26000 ≤ pt.toInt) (h2 : pt.toInt ≤ 26000) (d1 : 0 ≤ d.toInt) (d2 : d.toInt ≤ 2000) : -28000 ≤ C.toInt ∧ C.toInt ≤ 28000 := by
  have : C = pt + d := by rw [← e]; grind
  rw [this, tA (by omega)]; omega
theorem ptC {C pt a c dx dy : Int32} (hac : ac a c) (h1 : -26000 ≤ pt.toInt) (h2 : pt.toInt ≤ 26000) (d1 : 0 ≤ dx.toInt) (d2 : dx.toInt ≤ 2000) (d3 : 0 ≤ dy.toInt) (d4 : dy.toInt ≤ 2000) (e : C + dx * a + dy * c = pt) : -28000 ≤ C.toInt ∧ C.toInt ≤ 28000 := by
  rcases hac with ⟨rfl, rfl⟩ | ⟨rfl, rfl⟩ | ⟨rfl, rfl⟩ | ⟨rfl, rfl⟩ | ⟨rfl, rfl⟩
  · simp only [Int32.mul_zero, Int32.add_zero] at e; subst e; omega
  · simp only [Int32.mul_zero, Int32.add_zero, Int32.mul_one] at e; exact solveA e h1 h2 d1 d2
  · simp only [Int32.mul_zero, Int32.add_zero, xm1, sbn] at e; exact solveS e h1 h2 d1 d2
  · simp only [Int32.mul_zero, Int32.add_zero, Int32.mul_one] at e; exact solveA e h1 h2 d3 d4
  · simp only [Int32.mul_zero, Int32.add_zero, xm1, sbn] at e; exact solveS e h1 h2 d3 d4
def inS (P : Pl) (b : Int32) (q : Nat) (x y : Int32) (i : Nat) : Int32 := (cC P b q i + (x - P.W q) * shr (cX P b q) i) + (y - P.S q) * shr (cY P b q) i
theorem inS_e {P : Pl} (hV : VP P) (b : Int32) {p : Nat} (hp : p < P.n) (h0 : 0 < p) (i : Nat) : inS P b p (bx P p) (by_ P p) i = inS P b (P.par p) (bx P p) (by_ P p) i := by
  unfold inS
  rw [cC_1 hV b hp h0]
  unfold nC
  rw [← cX_1 hV b hp h0, ← cY_1 hV b hp h0]
  generalize shr (cX P b p) i = a1
  generalize shr (cY P b p) i = a2
  generalize shr (cX P b (P.par p)) i = a3
  generalize shr (cY P b (P.par p)) i = a4
  generalize bx P p = x
  generalize by_ P p = y
  grind
theorem dlt {a b c : Int32} (h1 : -24000 ≤ a) (h2 : b ≤ 26000) (h3 : a ≤ c) (h4 : c ≤ b) : 0 ≤ (c - a).toInt ∧ (c - a).toInt ≤ (b - a).toInt := by
  rw [tle] at h1 h2 h3 h4
  have z1 : (-24000 : Int32).toInt = -24000 := rfl
  have z2 : (26000 : Int32).toInt = 26000 := rfl
  rw [tS (by omega), tS (by omega)]; omega
theorem bnd_j {P : Pl} (hV : VP P) {p : Nat} (hp : p < P.n) (h0 : 0 < p) : (0 ≤ (bx P p - P.W (P.par p)).toInt ∧ (bx P p - P.W (P.par p)).toInt ≤ (P.E (P.par p) - P.W (P.par p)).toInt) ∧ (0 ≤ (by_ P p - P.S (P.par p)).toInt ∧ (by_ P p - P.S (P.par p)).toInt ≤ (P.N (P.par p) - P.S (P.par p)).toInt) ∧ (0 ≤ (bx P p - P.W p).toInt ∧ (bx P p - P.W p).toInt ≤ (P.E p - P.W p).toInt) ∧ (0 ≤ (by_ P p - P.S p).toInt ∧ (by_ P p - P.S p).toInt ≤ (P.N p - P.S p).toInt) := by
  obtain ⟨hq, hs⟩ := hV.tr p hp h0
  have hqn : P.par p < P.n := by omega
  have x1 := hV.xb hp
  have y1 := hV.yb hp
  have x2 := hV.xb hqn
  have y2 := hV.yb hqn
  obtain ⟨j1, j2, j3, j4, j5, j6⟩ := hV.j p hp h0
  have le_ : ∀ {a b : Int32}, a < b → a ≤ b := fun h => Int32.le_of_lt h
  have rf : ∀ a : Int32, a ≤ a := fun a => Int32.le_refl a
  have tr : ∀ {a b c : Int32}, a ≤ b → b ≤ c → a ≤ c := fun h k => Int32.le_trans h k
  have A : (P.W (P.par p) ≤ bx P p ∧ bx P p ≤ P.E (P.par p)) ∧ (P.S (P.par p) ≤ by_ P p ∧ by_ P p ≤ P.N (P.par p)) ∧ (P.W p ≤ bx P p ∧ bx P p ≤ P.E p) ∧ (P.S p ≤ by_ P p ∧ by_ P p ≤ P.N p) := by
    unfold bx by_
    match hsd : P.sd p, hs with
    | 0, _ =>
      simp only [if_false, Nat.reduceEqDiff]
      have e := j1 hsd
      have k := j5 (Or.inl hsd)
      refine ⟨⟨?_, ?_⟩, ⟨k.1, tr (le_ y1.2.1) k.2⟩, ⟨rf _, le_ x1.2.1⟩, ⟨rf _, le_ y1.2.1⟩⟩
      · rw [e]; exact le_ x2.2.1
      · rw [e]; exact rf _
    | 1, _ =>
      simp only [if_false, Nat.reduceEqDiff]
      have e := j2 hsd
      have k := j6 (Or.inl hsd)
      refine ⟨⟨k.1, tr (le_ x1.2.1) k.2⟩, ⟨?_, ?_⟩, ⟨rf _, le_ x1.2.1⟩, ⟨rf _, le_ y1.2.1⟩⟩
      · rw [e]; exact le_ y2.2.1
      · rw [e]; exact rf _
    | 2, _ =>
      simp only [if_false, if_true, Nat.reduceEqDiff]
      have e := j3 hsd
      have k := j5 (Or.inr hsd)
      refine ⟨⟨?_, ?_⟩, ⟨k.1, tr (le_ y1.2.1) k.2⟩, ⟨le_ x1.2.1, rf _⟩, ⟨rf _, le_ y1.2.1⟩⟩
      · rw [e]; exact rf _
      · rw [e]; exact le_ x2.2.1
    | 3, _ =>
      simp only [if_false, if_true, Nat.reduceEqDiff]
      have e := j4 hsd
      have k := j6 (Or.inr hsd)
      refine ⟨⟨k.1, tr (le_ x1.2.1) k.2⟩, ⟨?_, ?_⟩, ⟨rf _, le_ x1.2.1⟩, ⟨le_ y1.2.1, rf _⟩⟩
      · rw [e]; exact rf _
      · rw [e]; exact le_ y2.2.1
  obtain ⟨⟨a1, a2⟩, ⟨a3, a4⟩, ⟨a5, a6⟩, ⟨a7, a8⟩⟩ := A
  exact ⟨dlt x2.1 x2.2.2.1 a1 a2, dlt y2.1 y2.2.2.1 a3 a4, dlt x1.1 x1.2.2.1 a5 a6, dlt y1.1 y1.2.2.1 a7 a8⟩
theorem wh_ {a b : Int32} (h : -24000 ≤ a ∧ a < b ∧ b ≤ 26000 ∧ b ≤ a + 2000) : 1 ≤ (b - a).toInt ∧ (b - a).toInt ≤ 2000 := by
  obtain ⟨h1, h2, h3, h4⟩ := h
  have z1 : (-24000 : Int32).toInt = -24000 := rfl
  have z2 : (26000 : Int32).toInt = 26000 := rfl
  have z3 : (2000 : Int32).toInt = 2000 := rfl
  rw [tle] at h1 h3 h4
  rw [tlt] at h2
  rw [tA (by omega)] at h4
  rw [tS (by omega)]; omega
theorem whb {P : Pl} (hV : VP P) {p : Nat} (hp : p < P.n) : (1 ≤ (P.E p - P.W p).toInt ∧ (P.E p - P.W p).toInt ≤ 2000) ∧ (1 ≤ (P.N p - P.S p).toInt ∧ (P.N p - P.S p).toInt ≤ 2000) := ⟨wh_ (hV.xb hp), wh_ (hV.yb hp)⟩
/-- one panel's box, once its corner is within bounds -/
theorem boxB {P : Pl} (hV : VP P) (b : Int32) {p : Nat} (hp : p < P.n) {i : Nat} (hi3 : i < 3) (h1 : -30000 ≤ (cC P b p i).toInt) (h2 : (cC P b p i).toInt ≤ 30000) {dx dy : Int32} (d1 : 0 ≤ dx.toInt ∧ dx.toInt ≤ (P.E p - P.W p).toInt) (d2 : 0 ≤ dy.toInt ∧ dy.toInt ≤ (P.N p - P.S p).toInt) :
    (lo P b p i).toInt ≤ (cC P b p i + dx * shr (cX P b p) i + dy * shr (cY P b p) i).toInt ∧ (cC P b p i + dx * shr (cX P b p) i + dy * shr (cY P b p) i).toInt ≤ (hi P b p i).toInt ∧ (hi P b p i).toInt ≤ (lo P b p i).toInt + 2000 ∧ (lo P b p i).toInt ≤ (cC P b p i).toInt ∧ (cC P b p i).toInt ≤ (hi P b p i).toInt := by
  obtain ⟨w1, w2⟩ := whb hV hp
  exact boxA (ac_f (frm_c hV b p hp) i hi3) h1 h2 w1.1 w1.2 w2.1 w2.2 d1.1 d1.2 d2.1 d2.2
def HB (P : Pl) (b : Int32) (i : Nat) (L H : Int) (p : Nat) : Prop := L ≤ (lo P b p i).toInt ∧ (hi P b p i).toInt ≤ H ∧ (hi P b p i).toInt ≤ (lo P b p i).toInt + 2000 ∧ (lo P b p i).toInt ≤ (cC P b p i).toInt ∧ (cC P b p i).toInt ≤ (hi P b p i).toInt
theorem z0_ : (0 : Int32).toInt = 0 := rfl
theorem lo0 {P : Pl} (hV : VP P) (b : Int32) (h0 : 0 < P.n) {i : Nat} (hi3 : i < 3) : HB P b i 0 2000 0 := by
  have bb := boxB hV b h0 hi3 (by rw [cC_0, z0_]; decide) (by rw [cC_0, z0_]; decide) (dx := 0) (dy := 0) (by rw [z0_]; have := whb hV h0; omega) (by rw [z0_]; have := whb hV h0; omega)
  obtain ⟨w1, w2⟩ := whb hV h0
  have hl : 0 ≤ (lo P b 0 i).toInt := by
    unfold lo far
    rw [cC_0, cX_0, cY_0]
    have s : ∀ i < 3, (shr 1 i = 1 ∧ shr 2 i = 0) ∨ (shr 1 i = 0 ∧ shr 2 i = 1) ∨ (shr 1 i = 0 ∧ shr 2 i = 0) := by decide
    generalize P.E 0 - P.W 0 = w at *
    generalize P.N 0 - P.S 0 = h at *
    rcases s i hi3 with ⟨s1, s2⟩ | ⟨s1, s2⟩ | ⟨s1, s2⟩
    · have n : ¬ w < 0 := by rw [tlt, z0_]; omega
      simp only [s1, s2, Int32.mul_one, Int32.mul_zero, Int32.add_zero, Int32.zero_add, n, if_false, z0_]; decide
    · have n : ¬ h < 0 := by rw [tlt, z0_]; omega
      simp only [s1, s2, Int32.mul_one, Int32.mul_zero, Int32.add_zero, Int32.zero_add, n, if_false, z0_]; decide
    · simp only [s1, s2, Int32.mul_zero, Int32.add_zero, ite_self, z0_]; decide
  have hh : (hi P b 0 i).toInt ≤ 2000 := by
    have h1 := bb.2.2.1
    have h2 := bb.2.2.2.1
    rw [cC_0, z0_] at h2
    omega
  exact ⟨hl, hh, bb.2.2.1, bb.2.2.2.1, bb.2.2.2.2⟩
theorem hull {P : Pl} (hV : VP P) (b : Int32) {i : Nat} (hi3 : i < 3) : ∀ k, 0 < k → k ≤ P.n → ∃ L H : Int, L ≤ 0 ∧ 0 ≤ H ∧ H ≤ L + 2000 * k ∧ ∀ p < k, HB P b i L H p := by
  intro k
  induction k with
  | zero => intro h; omega
  | succ k ih =>
    intro _ hk
    by_cases hk0 : k = 0
    · subst hk0
      refine ⟨0, 2000, by decide, by decide, by decide, ?_⟩
      intro p hp
      have : p = 0 := by omega
      subst this
      exact lo0 hV b (by omega) hi3
    · obtain ⟨L, H, a1, a2, a3, a6⟩ := ih (by omega) (by omega)
      have h13 := hV.n13
      have hkn : k < P.n := by omega
      have ht := (hV.tr k hkn (by omega)).1
      obtain ⟨q1, q3, q4, q5, q6⟩ := a6 (P.par k) ht
      obtain ⟨d1, d2, d3, d4⟩ := bnd_j hV hkn (by omega)
      have bq := boxB hV b (show P.par k < P.n by omega) hi3 (by omega) (by omega) d1 d2
      have he := inS_e hV b hkn (by omega) i
      unfold inS at he
      rw [← he] at bq
      obtain ⟨w1, w2⟩ := whb hV hkn
      have hC := ptC (C := cC P b k i) (ac_f (frm_c hV b k hkn) i hi3) (by omega) (by omega) d3.1 (by omega) d4.1 (by omega) rfl
      have bp := boxB hV b hkn hi3 (by omega) (by omega) d3 d4
      refine ⟨if (lo P b k i).toInt < L then (lo P b k i).toInt else L, if H < (hi P b k i).toInt then (hi P b k i).toInt else H, ?_, ?_, ?_, ?_⟩
      · split <;> omega
      · split <;> omega
      · split <;> split <;> omega
      · intro p hp
        by_cases hpk : p = k
        · subst hpk
          refine ⟨?_, ?_, bp.2.2.1, bp.2.2.2.1, bp.2.2.2.2⟩
          · split <;> omega
          · split <;> omega
        · obtain ⟨r1, r3, r4, r5, r6⟩ := a6 p (by omega)
          refine ⟨?_, ?_, r4, r5, r6⟩
          · split <;> omega
          · split <;> omega
/-- the bounds as they are used -/
theorem hull_b {P : Pl} (hV : VP P) (b : Int32) {i : Nat} (hi3 : i < 3) (h0 : 0 < P.n) : ∃ L H : Int, -26000 ≤ L ∧ H ≤ 26000 ∧ H ≤ L + 26000 ∧ ∀ p < P.n, HB P b i L H p := by
  obtain ⟨L, H, a1, a2, a3, a6⟩ := hull hV b hi3 P.n h0 (Nat.le_refl _)
  have h13 := hV.n13
  exact ⟨L, H, by omega, by omega, by omega, a6⟩
