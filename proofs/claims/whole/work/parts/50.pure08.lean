def Pl.join (P : Pl) (q s : Nat) (o w d : Int32) (u : Bool) : Pl := Pl.mk (P.n + 1)
  (fun p => if p = P.n then q else P.par p) (fun p => if p = P.n then s else P.sd p) (fun p => if p = P.n then u else P.up p)
  (fun p t => if p = P.n then t == (s + 2) % 4 else if p = q then (if t = s then true else P.bt p t) else P.bt p t)
  (fun p => if p = P.n then (if s = 0 then P.E q else if s = 2 then P.W q - d else P.W q + o) else P.W p)
  (fun p => if p = P.n then (if s = 1 then P.N q else if s = 3 then P.S q - d else P.S q + o) else P.S p)
  (fun p => if p = P.n then (if s = 0 then P.E q + d else if s = 2 then P.W q else P.W q + o + w) else P.E p)
  (fun p => if p = P.n then (if s = 1 then P.N q + d else if s = 3 then P.S q else P.S q + o + w) else P.N p)
def plen (P : Pl) (q s : Nat) : Int32 := if s = 0 ∨ s = 2 then P.N q - P.S q else P.E q - P.W q
def acc (P : Pl) (x1 x2 x3 x4 x5 x6 : Int32) : Prop := P.n < 13 ∧ ∃ q s, q < P.n ∧ s < 4 ∧ x1 = Int32.ofNat q ∧ x2 = Int32.ofNat s ∧ (0 ≤ x6 ∧ x6 ≤ 1) ∧ (q = 0 ∨ s ≠ (P.sd q + 2) % 4) ∧ (1 ≤ x4 ∧ x4 ≤ 2000) ∧ (1 ≤ x5 ∧ x5 ≤ 2000) ∧ (0 ≤ x3 ∧ x3 ≤ plen P q s - x4)
theorem rng {x : Int32} {n : Nat} (hn : n < 200) (h0 : 0 ≤ x) (h1 : x < Int32.ofNat n) : ∃ q, q < n ∧ x = Int32.ofNat q := by
  have e : x = Int32.ofNat x.toNatClampNeg := (Int32.ofNat_toNatClampNeg x h0).symm
  have h2 : x.toNatClampNeg < 200 := by
    have : x.toNatClampNeg ≤ (Int32.ofNat n).toNatClampNeg := Int32.toNatClampNeg_le (by exact Int32.le_of_lt h1)
    rw [pi_nn hn] at this
    omega
  refine ⟨x.toNatClampNeg, ?_, e⟩
  rw [e, pi_lt h2 hn] at h1
  exact h1
theorem rng' {x : Int32} {n : Nat} (hn : n ≤ 13) (h : 0 ≤ x ∧ x ≤ Int32.ofNat n - 1) : ∃ q, q < n ∧ x = Int32.ofNat q := by
  refine rng (by omega) h.1 ?_
  have hb : 0 ≤ Int32.ofNat n ∧ Int32.ofNat n ≤ 13 := by
    have : ∀ n ≤ 13, 0 ≤ Int32.ofNat n ∧ Int32.ofNat n ≤ 13 := by decide
    exact this n hn
  obtain ⟨h1, h2⟩ := h
  clear hn
  generalize Int32.ofNat n = y at *
  grind
theorem pi_mx {q n : Nat} (hq : q < n) (hn : n ≤ 13) : 0 ≤ Int32.ofNat q ∧ Int32.ofNat q ≤ Int32.ofNat n - 1 := by
  have : ∀ n ≤ 13, ∀ q < n, 0 ≤ Int32.ofNat q ∧ Int32.ofNat q ≤ Int32.ofNat n - 1 := by decide
  exact this n hn q hq
theorem pi_3b {s : Nat} (hs : s < 4) : 0 ≤ Int32.ofNat s ∧ Int32.ofNat s ≤ 3 := by
  have : ∀ s < 4, 0 ≤ Int32.ofNat s ∧ Int32.ofNat s ≤ 3 := by decide
  exact this s hs
theorem rng3 {x : Int32} (h : 0 ≤ x ∧ x ≤ 3) : ∃ s, s < 4 ∧ x = Int32.ofNat s := by
  refine rng (by decide) h.1 ?_
  have := h.2
  have e : Int32.ofNat 4 = 4 := rfl
  rw [e]; grind
theorem v_26_i (σ : am_M) (P : Pl) (hC : CP σ P) (hn : P.n ≤ 13) (x : Int32) : v_26 σ x = bi (decide (0 ≤ x ∧ x ≤ Int32.ofNat P.n - 1)) := by
  unfold v_26 bi
  rw [hC.1]
  have hb : 0 ≤ Int32.ofNat P.n ∧ Int32.ofNat P.n ≤ 13 := by
    have : ∀ n ≤ 13, 0 ≤ Int32.ofNat n ∧ Int32.ofNat n ≤ 13 := by decide
    exact this _ hn
  generalize Int32.ofNat P.n = y at *
  clear hC
  grind
theorem v_32_i (σ : am_M) (P : Pl) (hC : CP σ P) (hn : P.n ≤ 13) {q s : Nat} (hq : q < P.n) (hs : s < 4) : v_32 σ (Int32.ofNat q) (Int32.ofNat s) = plen P q s ∧ p_32 σ (Int32.ofNat q) (Int32.ofNat s) := by
  have hE := hC.2 q hq
  unfold v_32 p_32 v_30 v_31 p_30 p_31 plen
  simp (disch := omega) only [if_true, if_false, pi_pos, pi_npos, pi_nn, pi_ng, pi_nle, pi_lt, false_or, or_false, not_false_eq_true, true_and, and_true, false_and, and_false, implies_true, not_true, not_true_eq_false, false_implies, true_implies, pi_a1, pi_a2, pi_a3, pi_ab, pi_4, pi_3, pi_6, v_70_i, v_68_i, v_69_i, mod2_i, bi_0, bi_n, vp_bi, enc_flip, flip_s]
  unfold CE at hE
  simp only [hE]
  match s, hs with
  | 0, _ => simp
  | 1, _ => simp
  | 2, _ => simp
  | 3, _ => simp
theorem pl_b {P : Pl} (hV : VP P) {q s : Nat} (hq : q < P.n) : 1 ≤ plen P q s ∧ plen P q s ≤ 2000 := by
  have h1 := hV.xb hq
  have h2 := hV.yb hq
  unfold plen
  clear hV
  split
  · clear h1; grind
  · clear h2; grind
theorem lgsum {a b c : Int32} (h1 : 0 ≤ a) (h2 : 1 ≤ b ∧ b ≤ 2000) (h3 : 1 ≤ c ∧ c ≤ 2000) : (0 < lg_cmp (a.toInt64 + b.toInt64) c.toInt64) = ¬ (a ≤ c - b) := by
  have ha : 0 ≤ a.toInt := by simpa [Int32.le_iff_toInt_le] using h1
  have ha2 := Int32.toInt_lt a
  have hb : 1 ≤ b.toInt ∧ b.toInt ≤ 2000 := by
    have h := h2.1; have h' := h2.2
    rw [Int32.le_iff_toInt_le] at h h'
    exact ⟨h, h'⟩
  have hc : 1 ≤ c.toInt ∧ c.toInt ≤ 2000 := by
    have h := h3.1; have h' := h3.2
    rw [Int32.le_iff_toInt_le] at h h'
    exact ⟨h, h'⟩
  have e1 : (a.toInt64 + b.toInt64).toInt = a.toInt + b.toInt := by
    rw [Int64.toInt_add, Int32.toInt_toInt64, Int32.toInt_toInt64]
    exact Int.bmod_eq_of_le (by omega) (by omega)
  have e2 : (c - b).toInt = c.toInt - b.toInt := by
    rw [Int32.toInt_sub]
    exact Int.bmod_eq_of_le (by omega) (by omega)
  have e3 : (a.toInt64 + b.toInt64 > c.toInt64) = (c.toInt < a.toInt + b.toInt) := by
    rw [gt_iff_lt, Int64.lt_iff_toInt_lt, e1, Int32.toInt_toInt64]
  have e4 : (a ≤ c - b) = (a.toInt + b.toInt ≤ c.toInt) := by
    rw [Int32.le_iff_toInt_le, e2]
    exact propext (by omega)
  unfold lg_cmp
  rw [e4]
  by_cases h : c.toInt < a.toInt + b.toInt
  · have : ¬ (a.toInt + b.toInt ≤ c.toInt) := by omega
    simp only [e3, h, if_true, this, not_false_eq_true]
    decide
  · have : a.toInt + b.toInt ≤ c.toInt := by omega
    simp only [e3, h, if_false, this, not_true]
    split <;> decide
