theorem rch_c {P : Pl} (hV : VP P) (b : Int32) {p q : Nat} (hp : p < P.n) (hq : q < P.n) {c : Int32} (hc : g1 c) : (-26000 ≤ (gA P b p c - gA P b q c).toInt ∧ (gA P b p c - gA P b q c).toInt ≤ 26000) ∧ (-26000 ≤ (gA P b p (-c) + gA P b q c).toInt ∧ (gA P b p (-c) + gA P b q c).toInt ≤ 26000) := by
  have h3 := ax_3 hc
  obtain ⟨L, H, a1, a2, a3, a4⟩ := hull_b hV b h3 (by omega)
  obtain ⟨r1, r3, r4, r5, r6⟩ := a4 p hp
  obtain ⟨t1, t3, t4, t5, t6⟩ := a4 q hq
  have gp := gAn (P := P) b p hc
  have gq := gAn (P := P) b q hc
  have hz : ∀ c ∈ [(1 : Int32), -1, 2, -2, 3, -3], (shr c (ax c) = 1 ∨ shr c (ax c) = -1) := by decide
  have hm : c ∈ [(1 : Int32), -1, 2, -2, 3, -3] := by unfold g1 at hc; simp only [List.mem_cons]; grind
  rcases hz c hm with h | h
  · rw [(gp.1 h).1, (gp.1 h).2, (gq.1 h).1]
    have n1 : (-(lo P b p (ax c))).toInt = -(lo P b p (ax c)).toInt := tN (by omega)
    rw [tS (by omega), tA (by omega), n1]
    omega
  · rw [(gp.2 h).1, (gp.2 h).2, (gq.2 h).1]
    have n1 : (-(lo P b p (ax c))).toInt = -(lo P b p (ax c)).toInt := tN (by omega)
    have n2 : (-(lo P b q (ax c))).toInt = -(lo P b q (ax c)).toInt := tN (by omega)
    rw [tS (by omega), tA (by omega), n1, n2]
    omega
def Rb (r : Nat → Int32) : Prop := ∀ j, -26000 ≤ (r j).toInt ∧ (r j).toInt ≤ 26000
theorem rch_b {P : Pl} (hV : VP P) (b : Int32) {k p : Nat} (hk : k < P.n) (h0 : 0 < k) (hp : p < P.n) : Rb (rch P b k p) := by
  obtain ⟨hq, hs⟩ := hV.tr k hk h0
  have u := rch_c hV b hp (show P.par k < P.n by omega) (g1_uD hV b hk h0)
  have v := rch_c hV b hp (show P.par k < P.n by omega) (g1_vD hV b hk h0)
  intro j
  unfold rch
  split
  · exact u.1
  · split
    · exact v.1
    · split
      · exact u.2
      · exact v.2
theorem sq_b {a : Int} (h : -26000 ≤ a ∧ a ≤ 26000) : 0 ≤ a * a ∧ a * a ≤ 676000000 := by
  have e : ((a.natAbs * a.natAbs : Nat) : Int) = a * a := by rw [Int.natCast_mul]; exact Int.natAbs_mul_self' a
  have n : a.natAbs * a.natAbs ≤ 26000 * 26000 := Nat.mul_le_mul (by omega) (by omega)
  rw [← e]
  generalize a.natAbs * a.natAbs = z at *
  omega
theorem sq32 {x : Int32} (h : -26000 ≤ x.toInt ∧ x.toInt ≤ 26000) : (x * x).toInt = x.toInt * x.toInt := by
  have := sq_b h
  rw [Int32.toInt_mul]
  exact bm (by omega)
theorem sq1 {x : Int32} (h : -26000 ≤ x.toInt ∧ x.toInt ≤ 26000) : sq x.toInt64 = (x * x).toInt64 := by
  have := sq_b h
  apply Int64.toInt_inj.1
  unfold sq
  rw [Int64.toInt_mul, Int32.toInt_toInt64, Int32.toInt_toInt64, sq32 h]
  exact Int.bmod_eq_of_le (by omega) (by omega)
theorem add64 {x y : Int32} (h1 : 0 ≤ x.toInt ∧ x.toInt ≤ 676000000) (h2 : 0 ≤ y.toInt ∧ y.toInt ≤ 676000000) : x.toInt64 + y.toInt64 = (x + y).toInt64 := by
  apply Int64.toInt_inj.1
  rw [Int64.toInt_add, Int32.toInt_toInt64, Int32.toInt_toInt64, Int32.toInt_toInt64, tA (by omega)]
  exact Int.bmod_eq_of_le (by omega) (by omega)
theorem m0_b {x : Int32} (h : -26000 ≤ x.toInt ∧ x.toInt ≤ 26000) : -26000 ≤ (m0 x).toInt ∧ (m0 x).toInt ≤ 26000 := by
  unfold m0; split
  · exact h
  · rw [z0_]; decide
theorem neg_b {x : Int32} (h : -26000 ≤ x.toInt ∧ x.toInt ≤ 26000) : -26000 ≤ (-x).toInt ∧ (-x).toInt ≤ 26000 := by
  rw [tN (by omega)]; omega
theorem sqp {x : Int32} (h : -26000 ≤ x.toInt ∧ x.toInt ≤ 26000) : sq (pos x) = (m0 x * m0 x).toInt64 := by
  have e : pos x = (m0 x).toInt64 := by unfold pos m0; split <;> rfl
  rw [e, sq1 (m0_b h)]
theorem sqn {x : Int32} (h : -26000 ≤ x.toInt ∧ x.toInt ≤ 26000) : sq (neg_ x) = (m0 (-x) * m0 (-x)).toInt64 := by
  unfold neg_ m0
  have e : (x < 0) = (0 < -x) := by
    rw [tlt, tlt, tN (by omega), z0_]
    exact propext (by omega)
  by_cases c : 0 < -x
  · have c' : x < 0 := by rw [e]; exact c
    rw [if_pos c, if_pos c', sq1 h]
    have : -x * -x = x * x := by grind
    rw [this]
  · have c' : ¬ x < 0 := by rw [e]; exact c
    rw [if_neg c, if_neg c']
    rfl
theorem sqm {x : Int32} (h : -26000 ≤ x.toInt ∧ x.toInt ≤ 26000) : sq (-x).toInt64 = (x * x).toInt64 := by
  rw [sq1 (neg_b h)]
  have : -x * -x = x * x := by grind
  rw [this]
theorem sqb {x : Int32} (h : -26000 ≤ x.toInt ∧ x.toInt ≤ 26000) : 0 ≤ (x * x).toInt ∧ (x * x).toInt ≤ 676000000 := by
  rw [sq32 h]; exact sq_b h
theorem ac_ (x y : Int32) : x + y = y + x := by grind
def BF (τ : am_M) (t : Nat) (r : Nat → Int32) : Prop := ∀ j < 4, τ.1 64 (t + j) = bi (tB r j) ∧ τ.2 62 (t + j) = (iB r j).toInt64 ∧ τ.2 63 (t + j) = (oB r j).toInt64
theorem lt_n {x : Int32} (h : -26000 ≤ x.toInt ∧ x.toInt ≤ 26000) : ((-x < 0) = (0 < x)) ∧ ((0 < -x) = (x < 0)) := by
  rw [tlt, tlt, tlt, tlt, tN (by omega), z0_]
  exact ⟨propext (by omega), propext (by omega)⟩
theorem hs0 (a c : Int32) : vp_nar .boolean (if 0 < a then ((if c < 0 then (0 : Int32) else 1) : Int32) else 0) = bi (decide (0 < a) && !decide (c < 0)) := by
  by_cases h1 : 0 < a <;> by_cases h2 : c < 0 <;> simp only [h1, h2, if_true, if_false] <;> decide
theorem hs1 (a c : Int32) : vp_nar .boolean (if c < 0 then (0 : Int32) else (if 0 < a then (1 : Int32) else 0)) = bi (decide (0 < a) && !decide (c < 0)) := by
  by_cases h1 : 0 < a <;> by_cases h2 : c < 0 <;> simp only [h1, h2, if_true, if_false] <;> decide
theorem bnds_c (σ : am_M) {t : Nat} (r : Nat → Int32) (hr : Rb r) (h19 : σ.1 50 19 = -(r 2)) (h20 : σ.1 50 20 = r 0) (h21 : σ.1 50 21 = -(r 3)) (h22 : σ.1 50 22 = r 1) : BF (bnds σ t) t r ∧ Kr σ (bnds σ t) ∧ ∀ j, (j < t ∨ t + 4 ≤ j) → (bnds σ t).1 64 j = σ.1 64 j ∧ (bnds σ t).2 62 j = σ.2 62 j ∧ (bnds σ t).2 63 j = σ.2 63 j := by
  have b0 := hr 0
  have b1 := hr 1
  have b2 := hr 2
  have b3 := hr 3
  have n0 := lt_n b0
  have n1 := lt_n b1
  have n2 := lt_n b2
  have n3 := lt_n b3
  have q0 := sqb b0
  have q1 := sqb b1
  have q2 := sqb b2
  have q3 := sqb b3
  have p0 := sqb (m0_b (neg_b b0))
  have p1 := sqb (m0_b (neg_b b1))
  have p2 := sqb (m0_b (neg_b b2))
  have p3 := sqb (m0_b (neg_b b3))
  refine ⟨?_, ?_, ?_⟩
  · intro j hj
    unfold bnds
    rw [h19, h20, h21, h22]
    simp only [sqp (neg_b b2), sqp (neg_b b3), sqn b0, sqn b1, sqm b2, sqm b3, sq1 b0, sq1 b1]
    rw [add64 p2 p3, add64 q0 q1, add64 p0 p3, add64 q2 q1, add64 p0 p1, add64 q2 q3, add64 p2 p1, add64 q0 q3]
    simp only [n2.1, n2.2, n3.1, n3.2]
    match j, hj with
    | 0, _ =>
      simp (disch := omega) only [am_rL, am_rL1, am_rdL, am_rd, pi_neq, and_false, false_and, if_false, and_self, if_true, Nat.add_zero, Nat.reduceEqDiff, true_and]
      refine ⟨hs0 _ _, ?_, ?_⟩ <;> rfl
    | 1, _ =>
      simp (disch := omega) only [am_rL, am_rL1, am_rdL, am_rd, pi_neq, and_false, false_and, if_false, and_self, if_true, Nat.add_zero, Nat.reduceEqDiff, true_and]
      have e := hs1 (r 1) (r 2)
      refine ⟨?_, ?_, ?_⟩
      · rw [← n2.2] at *; exact e
      · unfold iB; rw [ac_]
      · unfold oB; rw [ac_]
    | 2, _ =>
      simp (disch := omega) only [am_rL, am_rL1, am_rdL, am_rd, pi_neq, and_false, false_and, if_false, and_self, if_true, Nat.add_zero, Nat.reduceEqDiff, true_and]
      refine ⟨hs0 (r 2) (r 3), ?_, ?_⟩ <;> rfl
    | 3, _ =>
      simp (disch := omega) only [am_rL, am_rL1, am_rdL, am_rd, pi_neq, and_false, false_and, if_false, and_self, if_true, Nat.add_zero, Nat.reduceEqDiff, true_and]
      refine ⟨hs1 (r 3) (r 0), ?_, ?_⟩
      · unfold iB; rw [ac_]
      · unfold oB; rw [ac_]
  · unfold bnds
    exact (((((((((((((Kr.refl _).p64 _ _).pL _ _ _).pL _ _ _).p64 _ _).pL _ _ _).pL _ _ _).p64 _ _).pL _ _ _).pL _ _ _).p64 _ _).pL _ _ _).pL _ _ _)
  · intro j hj
    unfold bnds
    simp (disch := omega) only [am_rL, am_rL1, am_rdL, am_rd, pi_neq, and_false, false_and, if_false, and_self, Nat.reduceEqDiff]
