/-! the reference's turn: distances from the line of the bend -/
theorem bxv {P : Pl} (hV : VP P) (b : Int32) {q i : Nat} (hq : q < P.n) (hi3 : i < 3) : (shr (cX P b q) i = 1 → shr (cY P b q) i = 0 → lo P b q i = cC P b q i ∧ hi P b q i = cC P b q i + (P.E q - P.W q)) ∧ (shr (cX P b q) i = -1 → shr (cY P b q) i = 0 → lo P b q i = cC P b q i - (P.E q - P.W q) ∧ hi P b q i = cC P b q i) ∧ (shr (cX P b q) i = 0 → shr (cY P b q) i = 1 → lo P b q i = cC P b q i ∧ hi P b q i = cC P b q i + (P.N q - P.S q)) ∧ (shr (cX P b q) i = 0 → shr (cY P b q) i = -1 → lo P b q i = cC P b q i - (P.N q - P.S q) ∧ hi P b q i = cC P b q i) ∧ (shr (cX P b q) i = 0 → shr (cY P b q) i = 0 → lo P b q i = cC P b q i ∧ hi P b q i = cC P b q i) := by
  obtain ⟨w1, w2⟩ := whb hV hq
  obtain ⟨L, H, a1, a2, a3, a4⟩ := hull_b hV b hi3 (by omega)
  obtain ⟨r1, r3, r4, r5, r6⟩ := a4 q hq
  clear r1 r3 r4
  have c1 : -26000 ≤ (cC P b q i).toInt ∧ (cC P b q i).toInt ≤ 26000 := by
    obtain ⟨r1, r3, r4, -, -⟩ := a4 q hq
    omega
  clear r5 r6
  unfold lo hi far
  generalize cC P b q i = C at *
  generalize P.E q - P.W q = w at *
  generalize P.N q - P.S q = h at *
  have e1 : (C + w).toInt = C.toInt + w.toInt := tA (by omega)
  have e3 : (C + h).toInt = C.toInt + h.toInt := tA (by omega)
  have e5 : (C - w).toInt = C.toInt - w.toInt := tS (by omega)
  have e7 : (C - h).toInt = C.toInt - h.toInt := tS (by omega)
  refine ⟨fun g1 g2 => ?_, fun g1 g2 => ?_, fun g1 g2 => ?_, fun g1 g2 => ?_, fun g1 g2 => ?_⟩
  · have n1 : ¬ C + w < C := by rw [tlt]; omega
    have n2 : C < C + w := by rw [tlt]; omega
    simp only [g1, g2, Int32.mul_zero, Int32.add_zero, Int32.mul_one, n1, n2, if_true, if_false, and_self]
  · have n1 : C - w < C := by rw [tlt]; omega
    have n2 : ¬ C < C - w := by rw [tlt]; omega
    simp only [g1, g2, Int32.mul_zero, Int32.add_zero, xm1, sbn, n1, n2, if_true, if_false, and_self]
  · have n1 : ¬ C + h < C := by rw [tlt]; omega
    have n2 : C < C + h := by rw [tlt]; omega
    simp only [g1, g2, Int32.mul_zero, Int32.add_zero, Int32.mul_one, n1, n2, if_true, if_false, and_self]
  · have n1 : C - h < C := by rw [tlt]; omega
    have n2 : ¬ C < C - h := by rw [tlt]; omega
    simp only [g1, g2, Int32.mul_zero, Int32.add_zero, xm1, sbn, n1, n2, if_true, if_false, and_self]
  · simp only [g1, g2, Int32.mul_zero, Int32.add_zero, ite_self, and_self]
theorem lohi {P : Pl} (hV : VP P) (b : Int32) {p i : Nat} (hp : p < P.n) (hi3 : i < 3) : -26000 ≤ (lo P b p i).toInt ∧ (lo P b p i).toInt ≤ (hi P b p i).toInt ∧ (hi P b p i).toInt ≤ 26000 := by
  obtain ⟨L, H, a1, a2, a3, a4⟩ := hull_b hV b hi3 (by omega)
  obtain ⟨r1, r3, r4, r5, r6⟩ := a4 p hp
  omega
theorem mm {x y : Int32} (h1 : -26000 ≤ x.toInt) (h2 : x.toInt ≤ y.toInt) (h3 : y.toInt ≤ 26000) : (if 1 * x < 1 * y then 1 * x else 1 * y) = x ∧ (if 1 * x < 1 * y then 1 * y else 1 * x) = y ∧ (if (-1) * x < (-1) * y then (-1) * x else (-1) * y) = -y ∧ (if (-1) * x < (-1) * y then (-1) * y else (-1) * x) = -x := by
  have e : ¬ x < y → x = y := fun h => by
    rw [tlt] at h
    exact Int32.toInt_inj.1 (by omega)
  have n : ¬ -x < -y := by rw [tlt, tN (by omega), tN (by omega)]; omega
  simp only [Int32.one_mul, m1_, n, if_false, and_self, and_true]
  by_cases c : x < y
  · simp [c]
  · simp [e c]
theorem gAn {P : Pl} (b : Int32) (p : Nat) {c : Int32} (hc : g1 c) : (shr c (ax c) = 1 → gA P b p c = hi P b p (ax c) ∧ gA P b p (-c) = -(lo P b p (ax c))) ∧ (shr c (ax c) = -1 → gA P b p c = -(lo P b p (ax c)) ∧ gA P b p (-c) = hi P b p (ax c)) := by
  unfold gA
  rw [ax_neg hc]
  unfold g1 at hc
  rcases hc with rfl | rfl | rfl | rfl | rfl | rfl
  · exact ⟨fun _ => ⟨if_pos (by decide), if_neg (by decide)⟩, fun h => absurd h (by decide)⟩
  · exact ⟨fun h => absurd h (by decide), fun _ => ⟨if_neg (by decide), if_pos (by decide)⟩⟩
  · exact ⟨fun _ => ⟨if_pos (by decide), if_neg (by decide)⟩, fun h => absurd h (by decide)⟩
  · exact ⟨fun h => absurd h (by decide), fun _ => ⟨if_neg (by decide), if_pos (by decide)⟩⟩
  · exact ⟨fun _ => ⟨if_pos (by decide), if_neg (by decide)⟩, fun h => absurd h (by decide)⟩
  · exact ⟨fun h => absurd h (by decide), fun _ => ⟨if_neg (by decide), if_pos (by decide)⟩⟩
theorem nn_ (x : Int32) : - -x = x := Int32.neg_neg
def nl (P : Pl) (b : Int32) (p : Nat) (c : Int32) (i : Nat) (x : Int32) : Int32 := if shr c i = 0 then x else (if shr c i * lo P b p i < shr c i * hi P b p i then shr c i * lo P b p i else shr c i * hi P b p i)
def nm (P : Pl) (b : Int32) (p : Nat) (c : Int32) (i : Nat) (x : Int32) : Int32 := if shr c i = 0 then x else (if shr c i * lo P b p i < shr c i * hi P b p i then shr c i * hi P b p i else shr c i * lo P b p i)
theorem nlm {P : Pl} (hV : VP P) (b : Int32) {p : Nat} (hp : p < P.n) {c : Int32} (hc : g1 c) : nl P b p c 2 (nl P b p c 1 (nl P b p c 0 0)) = -(gA P b p (-c)) ∧ nm P b p c 2 (nm P b p c 1 (nm P b p c 0 0)) = gA P b p c := by
  have k := gAn (P := P) b p hc
  have h3 := ax_3 hc
  have l := lohi hV b hp h3
  obtain ⟨m1, m2, m3, m4⟩ := mm l.1 l.2.1 l.2.2
  have key : ∀ a, a < 3 → ax c = a → (∀ i < 3, i ≠ a → shr c i = 0) → (shr c a = 1 ∨ shr c a = -1) → nl P b p c 2 (nl P b p c 1 (nl P b p c 0 0)) = nl P b p c a 0 ∧ nm P b p c 2 (nm P b p c 1 (nm P b p c 0 0)) = nm P b p c a 0 := by
    intro a ha _ hz hs
    have z : ∀ i < 3, i ≠ a → ∀ x, nl P b p c i x = x ∧ nm P b p c i x = x := by
      intro i hi hia x
      unfold nl nm
      rw [if_pos (hz i hi hia), if_pos (hz i hi hia)]
      exact ⟨rfl, rfl⟩
    have nz : ¬ shr c a = 0 := by rcases hs with h | h <;> rw [h] <;> decide
    have any : ∀ x, nl P b p c a x = nl P b p c a 0 ∧ nm P b p c a x = nm P b p c a 0 := by
      intro x
      unfold nl nm
      rw [if_neg nz, if_neg nz, if_neg nz, if_neg nz]
      exact ⟨rfl, rfl⟩
    match a, ha with
    | 0, _ => rw [(z 2 (by decide) (by decide) _).1, (z 1 (by decide) (by decide) _).1, (z 2 (by decide) (by decide) _).2, (z 1 (by decide) (by decide) _).2]; exact ⟨rfl, rfl⟩
    | 1, _ => rw [(z 2 (by decide) (by decide) _).1, (z 0 (by decide) (by decide) _).1, (z 2 (by decide) (by decide) _).2, (z 0 (by decide) (by decide) _).2]; exact ⟨rfl, rfl⟩
    | 2, _ => rw [(any _).1, (any _).2]; exact ⟨rfl, rfl⟩
  have hz : ∀ c ∈ [(1 : Int32), -1, 2, -2, 3, -3], (∀ i < 3, i ≠ ax c → shr c i = 0) ∧ (shr c (ax c) = 1 ∨ shr c (ax c) = -1) := by decide
  have hm : c ∈ [(1 : Int32), -1, 2, -2, 3, -3] := by unfold g1 at hc; simp only [List.mem_cons]; grind
  obtain ⟨z1, z2⟩ := hz c hm
  obtain ⟨y1, y2⟩ := key (ax c) h3 rfl z1 z2
  rw [y1, y2]
  unfold nl nm
  rcases z2 with h | h
  · rw [h, if_neg (show ¬ (1 : Int32) = 0 by decide), if_neg (show ¬ (1 : Int32) = 0 by decide), m1, m2, (k.1 h).1, (k.1 h).2, nn_]
    exact ⟨rfl, rfl⟩
  · rw [h, if_neg (show ¬ (-1 : Int32) = 0 by decide), if_neg (show ¬ (-1 : Int32) = 0 by decide), m3, m4, (k.2 h).1, (k.2 h).2]
    exact ⟨rfl, rfl⟩
theorem sum3 {c : Int32} (hc : g1 c) (V : Nat → Int32) : ((0 + shr c 0 * V 0) + shr c 1 * V 1) + shr c 2 * V 2 = shr c (ax c) * V (ax c) := by
  unfold g1 at hc
  have h0 : ∀ x : Int32, 0 * x = 0 := fun x => Int32.zero_mul
  rcases hc with rfl | rfl | rfl | rfl | rfl | rfl
  · rw [show shr 1 0 = 1 from rfl, show shr 1 1 = 0 from rfl, show shr 1 2 = 0 from rfl, show ax 1 = 0 from rfl, show shr 1 0 = 1 from rfl]; simp [h0]
  · rw [show shr (-1) 0 = -1 from rfl, show shr (-1) 1 = 0 from rfl, show shr (-1) 2 = 0 from rfl, show ax (-1) = 0 from rfl, show shr (-1) 0 = -1 from rfl]; simp [h0]
  · rw [show shr 2 0 = 0 from rfl, show shr 2 1 = 1 from rfl, show shr 2 2 = 0 from rfl, show ax 2 = 1 from rfl, show shr 2 1 = 1 from rfl]; simp [h0]
  · rw [show shr (-2) 0 = 0 from rfl, show shr (-2) 1 = -1 from rfl, show shr (-2) 2 = 0 from rfl, show ax (-2) = 1 from rfl, show shr (-2) 1 = -1 from rfl]; simp [h0]
  · rw [show shr 3 0 = 0 from rfl, show shr 3 1 = 0 from rfl, show shr 3 2 = 1 from rfl, show ax 3 = 2 from rfl, show shr 3 2 = 1 from rfl]; simp [h0]
  · rw [show shr (-3) 0 = 0 from rfl, show shr (-3) 1 = 0 from rfl, show shr (-3) 2 = -1 from rfl, show ax (-3) = 2 from rfl, show shr (-3) 2 = -1 from rfl]; simp [h0]
def lx (P : Pl) (k : Nat) : Int32 := if isx P k then lineP P k else 0
def ly (P : Pl) (k : Nat) : Int32 := if isx P k then 0 else lineP P k
def lV (P : Pl) (b : Int32) (k i : Nat) : Int32 := (((cC P b (P.par k) i - P.W (P.par k) * shr (cX P b (P.par k)) i) - P.S (P.par k) * shr (cY P b (P.par k)) i) + lx P k * shr (cX P b (P.par k)) i) + ly P k * shr (cY P b (P.par k)) i
theorem lineX (C W S E D : Int32) : D * ((((C - W * D) - S * 0) + E * D) + 0 * 0) = D * C + (E - W) * (D * D) := by grind
theorem lineY (C W S N D : Int32) : D * ((((C - W * 0) - S * D) + 0 * 0) + N * D) = D * C + (N - S) * (D * D) := by grind
theorem line0 (C W S x y D : Int32) : D * ((((C - W * 0) - S * 0) + x * 0) + y * 0) = D * C := by grind
theorem lineXn (C W S D : Int32) : (-D) * ((((C - W * D) - S * 0) + W * D) + 0 * 0) = (-D) * C := by grind
theorem lineYn (C W S D : Int32) : (-D) * ((((C - W * 0) - S * D) + 0 * 0) + S * D) = (-D) * C := by grind
/-- the line of the bend is the farthest of its parent -/
theorem line_u {P : Pl} (hV : VP P) (b : Int32) {k : Nat} (hk : k < P.n) (h0 : 0 < k) : shr (uD P b k) (ax (uD P b k)) * lV P b k (ax (uD P b k)) = gA P b (P.par k) (uD P b k) := by
  obtain ⟨hq, hs⟩ := hV.tr k hk h0
  have hqn : P.par k < P.n := by omega
  have hf := frm_c hV b (P.par k) hqn
  obtain ⟨s1, s2, s3, s4, s5, s6, s7, s8, s9⟩ := ax_shr hf
  obtain ⟨r1, r2, r3, -⟩ := hf
  have gx := gAn (P := P) b (P.par k) r1
  have gy := gAn (P := P) b (P.par k) r2
  have bX := bxv hV b hqn (ax_3 r1)
  have bY := bxv hV b hqn (ax_3 r2)
  have one : ((1 : Int32) * 1 = 1) ∧ ((-1 : Int32) * (-1) = 1) ∧ (- (-1 : Int32) = 1) := by decide
  unfold uD aw lV lx ly lineP isx
  match hsd : P.sd k, hs with
  | 0, _ =>
    simp only [if_true, show (((0 : Nat) == 0) || ((0 : Nat) == 2)) = true from rfl, s2, lineX]
    rcases s1 with h | h
    · rw [(gx.1 h).1, (bX.1 h s2).2, h]; simp [one]
    · rw [(gx.2 h).1, (bX.2.1 h s2).1, h]; simp [one]; grind
  | 1, _ =>
    simp only [if_true, if_false, Nat.reduceEqDiff, show (((1 : Nat) == 0) || ((1 : Nat) == 2)) = false from rfl, Bool.false_eq_true, s4, lineY]
    rcases s5 with h | h
    · rw [(gy.1 h).1, (bY.2.2.1 s4 h).2, h]; simp [one]
    · rw [(gy.2 h).1, (bY.2.2.2.1 s4 h).1, h]; simp [one]; grind
  | 2, _ =>
    simp only [if_true, if_false, Nat.reduceEqDiff, show (((2 : Nat) == 0) || ((2 : Nat) == 2)) = true from rfl, ax_neg r1, shr_neg _ _ (ax_3 r1), s2, lineXn]
    rcases s1 with h | h
    · rw [(gx.1 h).2, (bX.1 h s2).1, h]; simp [m1_]
    · rw [(gx.2 h).2, (bX.2.1 h s2).2, h]; simp [one]
  | 3, _ =>
    simp only [if_true, if_false, Nat.reduceEqDiff, show (((3 : Nat) == 0) || ((3 : Nat) == 2)) = false from rfl, Bool.false_eq_true, ax_neg r2, shr_neg _ _ (ax_3 r2), s4, lineYn]
    rcases s5 with h | h
    · rw [(gy.1 h).2, (bY.2.2.1 s4 h).1, h]; simp [m1_]
    · rw [(gy.2 h).2, (bY.2.2.2.1 s4 h).2, h]; simp [one]
theorem line_v {P : Pl} (hV : VP P) (b : Int32) {k : Nat} (hk : k < P.n) (h0 : 0 < k) : shr (vD P b k) (ax (vD P b k)) * lV P b k (ax (vD P b k)) = gA P b (P.par k) (vD P b k) := by
  obtain ⟨hq, hs⟩ := hV.tr k hk h0
  have hqn : P.par k < P.n := by omega
  have hf := frm_c hV b (P.par k) hqn
  obtain ⟨s1, s2, s3, s4, s5, s6, s7, s8, s9⟩ := ax_shr hf
  obtain ⟨r1, r2, r3, -⟩ := hf
  have gv := g1_vD hV b hk h0
  have av : ax (vD P b k) = ax (cZ P b (P.par k)) := ax_sg r3 _
  have bZ := (bxv hV b hqn (ax_3 r3)).2.2.2.2 s7 s8
  have g := gAn (P := P) b (P.par k) gv
  have hv : shr (vD P b k) (ax (vD P b k)) = 1 ∨ shr (vD P b k) (ax (vD P b k)) = -1 := by
    rw [av]
    unfold vD sg
    cases P.up k
    · simp only [Bool.false_eq_true, if_false, shr_neg _ _ (ax_3 r3)]
      rcases s9 with h | h <;> rw [h] <;> decide
    · exact s9
  unfold lV
  rcases hv with h | h
  · rw [(g.1 h).1, h, av, s7, s8, line0, bZ.2]; simp
  · rw [(g.2 h).1, h, av, s7, s8, line0, bZ.1, m1_]
theorem lin_p (τ : am_M) (P : Pl) (hV : VP P) (hR : RP τ P) {k : Nat} (hk : k < P.n) (h0 : 0 < k) :
    ((if Int32.ofNat (P.sd k) - Int32.ofNat (P.sd k) / 2 * 2 = 0 then (1 : Int32) else 0) = bi (isx P k)) ∧ ((if isx P k = false then (0 : Int32) else (τ.1 54 (((((Int32.ofNat (4 * P.par k)) + (if Int32.ofNat (P.sd k) = 0 then (2 : Int32) else 0))).toNatClampNeg)))) = lx P k ∧ (if isx P k = false then ((τ.1 54 (((((Int32.ofNat (4 * P.par k)) + (if Int32.ofNat (P.sd k) = 1 then (3 : Int32) else 1))).toNatClampNeg))) : Int32) else 0) = ly P k) ∧ ((¬ isx P k = false → ¬ ((Int32.ofNat (4 * P.par k) + (if Int32.ofNat (P.sd k) = 0 then (2 : Int32) else 0)) < 0 ∨ 52 ≤ (Int32.ofNat (4 * P.par k) + (if Int32.ofNat (P.sd k) = 0 then (2 : Int32) else 0)).toNatClampNeg)) ∧ (isx P k = false → ¬ ((Int32.ofNat (4 * P.par k) + (if Int32.ofNat (P.sd k) = 1 then (3 : Int32) else 1)) < 0 ∨ 52 ≤ (Int32.ofNat (4 * P.par k) + (if Int32.ofNat (P.sd k) = 1 then (3 : Int32) else 1)).toNatClampNeg))) := by
  have h13 := hV.n13
  obtain ⟨hq, hs⟩ := hV.tr k hk h0
  have hQ := hR.2 (P.par k) (by omega)
  unfold RE at hQ
  refine ⟨?_, ⟨?_, ?_⟩, ?_, ?_⟩
  · unfold isx
    simp (disch := omega) only [mod2_i, bi]
  · unfold lx isx lineP
    match P.sd k, hs with
    | 0, _ =>
      simp (disch := omega) only [show (((0 : Nat) == 0) || ((0 : Nat) == 2)) = true from rfl, show (if Int32.ofNat 0 = 0 then (2 : Int32) else 0) = 2 from rfl, Bool.true_eq_false, if_true, if_false, pi_pos, pi_npos, pi_nn, pi_ng, pi_nle, pi_lt, false_or, or_false, not_false_eq_true, true_and, and_true, false_and, and_false, implies_true, not_true, not_true_eq_false, false_implies, true_implies, pi_a1, pi_a2, pi_a3, pi_ab, pi_4, pi_3, pi_6, v_70_i, v_68_i, v_69_i, mod2_i, bi_0, bi_n, vp_bi, enc_flip, flip_s]
      exact hQ.2.2.2.1
    | 1, _ => rfl
    | 2, _ =>
      simp (disch := omega) only [show (((2 : Nat) == 0) || ((2 : Nat) == 2)) = true from rfl, show (if Int32.ofNat 2 = 0 then (2 : Int32) else 0) = 0 from rfl, Bool.true_eq_false, if_true, if_false, pi_pos, pi_npos, pi_nn, pi_ng, pi_nle, pi_lt, false_or, or_false, not_false_eq_true, true_and, and_true, false_and, and_false, implies_true, not_true, not_true_eq_false, false_implies, true_implies, pi_a1, pi_a2, pi_a3, pi_ab, pi_4, pi_3, pi_6, v_70_i, v_68_i, v_69_i, mod2_i, bi_0, bi_n, vp_bi, enc_flip, flip_s, Int32.add_zero]
      exact hQ.2.1
    | 3, _ => rfl
  · unfold ly isx lineP
    match P.sd k, hs with
    | 0, _ => rfl
    | 1, _ =>
      simp (disch := omega) only [show (((1 : Nat) == 0) || ((1 : Nat) == 2)) = false from rfl, show (if Int32.ofNat 1 = 1 then (3 : Int32) else 1) = 3 from rfl, Bool.false_eq_true, if_true, if_false, pi_pos, pi_npos, pi_nn, pi_ng, pi_nle, pi_lt, false_or, or_false, not_false_eq_true, true_and, and_true, false_and, and_false, implies_true, not_true, not_true_eq_false, false_implies, true_implies, pi_a1, pi_a2, pi_a3, pi_ab, pi_4, pi_3, pi_6, v_70_i, v_68_i, v_69_i, mod2_i, bi_0, bi_n, vp_bi, enc_flip, flip_s]
      exact hQ.2.2.2.2
    | 2, _ => rfl
    | 3, _ =>
      simp (disch := omega) only [show (((3 : Nat) == 0) || ((3 : Nat) == 2)) = false from rfl, show (if Int32.ofNat 3 = 1 then (3 : Int32) else 1) = 1 from rfl, Bool.false_eq_true, if_true, if_false, pi_pos, pi_npos, pi_nn, pi_ng, pi_nle, pi_lt, false_or, or_false, not_false_eq_true, true_and, and_true, false_and, and_false, implies_true, not_true, not_true_eq_false, false_implies, true_implies, pi_a1, pi_a2, pi_a3, pi_ab, pi_4, pi_3, pi_6, v_70_i, v_68_i, v_69_i, mod2_i, bi_0, bi_n, vp_bi, enc_flip, flip_s, Nat.reduceEqDiff]
      exact hQ.2.2.1
  · intro _
    split <;> simp (disch := omega) only [if_true, if_false, pi_pos, pi_npos, pi_nn, pi_ng, pi_nle, pi_lt, false_or, or_false, not_false_eq_true, true_and, and_true, false_and, and_false, implies_true, not_true, not_true_eq_false, false_implies, true_implies, pi_a1, pi_a2, pi_a3, pi_ab, pi_4, pi_3, pi_6, v_70_i, v_68_i, v_69_i, mod2_i, bi_0, bi_n, vp_bi, enc_flip, flip_s, Int32.add_zero]
  · intro _
    split <;> simp (disch := omega) only [if_true, if_false, pi_pos, pi_npos, pi_nn, pi_ng, pi_nle, pi_lt, false_or, or_false, not_false_eq_true, true_and, and_true, false_and, and_false, implies_true, not_true, not_true_eq_false, false_implies, true_implies, pi_a1, pi_a2, pi_a3, pi_ab, pi_4, pi_3, pi_6, v_70_i, v_68_i, v_69_i, mod2_i, bi_0, bi_n, vp_bi, enc_flip, flip_s]
theorem al57 {P : Pl} (hV : VP P) (b : Int32) (τ : am_M) (hG : GC τ P b) {p q : Nat} (hp : p < P.n) (hq : q < 13) {c : Int32} (hc : g1 c) (s : Int32) (hD : ∀ i < 3, s * τ.1 57 (3 * q + i) = shr c i) (g : Bool) (fr : Int32) :
    p_100a57 τ (Int32.ofNat p) (Int32.ofNat (3 * q)) s (bi g) fr ∧ v_100a57 τ (Int32.ofNat p) (Int32.ofNat (3 * q)) s (bi g) fr = (if g then gA P b p c else -(gA P b p (-c))) - fr := by
  have h13 := hV.n13
  have st : ∀ (f i : Nat) (x7 x8 : Int32), i < 3 → (q_100a57_9 f τ (Int32.ofNat p) (Int32.ofNat (3 * q)) s (bi g) fr (nl P b p c i x7) (nm P b p c i x8) (Int32.ofNat (i + 1)) → q_100a57_9 (f + 1) τ (Int32.ofNat p) (Int32.ofNat (3 * q)) s (bi g) fr x7 x8 (Int32.ofNat i)) ∧ l_100a57_9 (f + 1) τ (Int32.ofNat p) (Int32.ofNat (3 * q)) s (bi g) fr x7 x8 (Int32.ofNat i) = l_100a57_9 f τ (Int32.ofNat p) (Int32.ofNat (3 * q)) s (bi g) fr (nl P b p c i x7) (nm P b p c i x8) (Int32.ofNat (i + 1)) := by
    intro f i x7 x8 hi3
    have h1 := (hG p hp i hi3).2.2.2.2
    have hd := hD i hi3
    rw [q_100a57_9, l_100a57_9]
    simp (disch := omega) only [lt3_i, pi_6, pi_3, pi_a3, pi_ab, pi_nn, pi_ng, pi_nle, if_true, true_implies, false_or, not_false_eq_true, implies_true, true_and, hd, h1, pi_a1]
    exact ⟨fun h => h, rfl⟩
  obtain ⟨a1, a2⟩ := st 13 0 0 0 (by decide)
  obtain ⟨b1, b2⟩ := st 12 1 (nl P b p c 0 0) (nm P b p c 0 0) (by decide)
  obtain ⟨c1, c2⟩ := st 11 2 (nl P b p c 1 (nl P b p c 0 0)) (nm P b p c 1 (nm P b p c 0 0)) (by decide)
  obtain ⟨n1, n2⟩ := nlm hV b hp hc
  simp only [l_0, l_1, l_2, l_3, Nat.reduceAdd] at a1 a2 b1 b2 c1 c2
  unfold p_100a57 v_100a57 f_100a57
  constructor
  · refine a1 (b1 (c1 ?_))
    rw [q_100a57_9]
    exact fun h => absurd h (by decide)
  · rw [a2, b2, c2, l_100a57_9, if_neg (by decide), n1, n2]
    cases g <;> rfl
theorem li57 {P : Pl} (hV : VP P) (b : Int32) (τ : am_M) (hR : RP τ P) (hG : GC τ P b) {k : Nat} (hk : k < P.n) (h0 : 0 < k) {c : Int32} (hc : g1 c) (s : Int32) (hD : ∀ i < 3, s * τ.1 57 (3 * P.par k + i) = shr c i) (hl : shr c (ax c) * lV P b k (ax c) = gA P b (P.par k) c) :
    p_101a57 τ (Int32.ofNat k) (Int32.ofNat (3 * P.par k)) s ∧ v_101a57 τ (Int32.ofNat k) (Int32.ofNat (3 * P.par k)) s = gA P b (P.par k) c := by
  have h13 := hV.n13
  obtain ⟨hq, hs⟩ := hV.tr k hk h0
  obtain ⟨e1, e2, e3⟩ := (hR.2 k hk).1 h0
  have hQ := hR.2 (P.par k) (by omega)
  unfold RE at hQ
  have st : ∀ (f i : Nat) (z x9 : Int32), i < 3 → (q_101a57_103 f τ (Int32.ofNat k) (Int32.ofNat (3 * P.par k)) s (Int32.ofNat (P.par k)) z (lx P k) (ly P k) (x9 + shr c i * lV P b k i) (Int32.ofNat (i + 1)) → q_101a57_103 (f + 1) τ (Int32.ofNat k) (Int32.ofNat (3 * P.par k)) s (Int32.ofNat (P.par k)) z (lx P k) (ly P k) x9 (Int32.ofNat i)) ∧ l_101a57_103 (f + 1) τ (Int32.ofNat k) (Int32.ofNat (3 * P.par k)) s (Int32.ofNat (P.par k)) z (lx P k) (ly P k) x9 (Int32.ofNat i) = l_101a57_103 f τ (Int32.ofNat k) (Int32.ofNat (3 * P.par k)) s (Int32.ofNat (P.par k)) z (lx P k) (ly P k) (x9 + shr c i * lV P b k i) (Int32.ofNat (i + 1)) := by
    intro f i z x9 hi3
    have h1 := hG (P.par k) (by omega) i hi3
    have hd := hD i hi3
    rw [h1.1] at hd
    have ev : (((cC P b (P.par k) i - P.W (P.par k) * shr (cX P b (P.par k)) i) - P.S (P.par k) * shr (cY P b (P.par k)) i) + lx P k * shr (cX P b (P.par k)) i) + ly P k * shr (cY P b (P.par k)) i = lV P b k i := rfl
    rw [q_101a57_103, l_101a57_103]
    simp (disch := omega) only [lt3_i, pi_3, pi_ab, pi_nn, pi_ng, pi_nle, if_true, true_implies, false_or, not_false_eq_true, implies_true, true_and, hd, h1, ev, pi_a1]
    exact ⟨fun h => h, trivial⟩
  have fin : ∀ z : Int32, q_101a57_103 14 τ (Int32.ofNat k) (Int32.ofNat (3 * P.par k)) s (Int32.ofNat (P.par k)) z (lx P k) (ly P k) 0 0 ∧ l_101a57_103 14 τ (Int32.ofNat k) (Int32.ofNat (3 * P.par k)) s (Int32.ofNat (P.par k)) z (lx P k) (ly P k) 0 0 = gA P b (P.par k) c := by
    intro z
    obtain ⟨a1, a2⟩ := st 13 0 z 0 (by decide)
    obtain ⟨b1, b2⟩ := st 12 1 z (0 + shr c 0 * lV P b k 0) (by decide)
    obtain ⟨c1, c2⟩ := st 11 2 z ((0 + shr c 0 * lV P b k 0) + shr c 1 * lV P b k 1) (by decide)
    simp only [l_0, l_1, l_2, l_3, Nat.reduceAdd] at a1 a2 b1 b2 c1 c2
    constructor
    · refine a1 (b1 (c1 ?_))
      rw [q_101a57_103]
      exact fun h => absurd h (by decide)
    · rw [a2, b2, c2, l_101a57_103, if_neg (by decide), sum3 hc, hl]
  obtain ⟨i1, i2, i3⟩ := lin_p τ P hV hR hk h0
  unfold p_101a57 v_101a57 f_101a57
  simp (disch := omega) only [pi_nn, e1, e2]
  simp only [i1]
  simp only [bi_0, pi_4]
  simp only [i2.1, i2.2]
  simp (disch := omega) only [pi_ng, pi_nle, false_or, not_false_eq_true, true_and, fin, and_true]
  exact i3
theorem al58 {P : Pl} (hV : VP P) (b : Int32) (τ : am_M) (hG : GC τ P b) {p q : Nat} (hp : p < P.n) (hq : q < 13) {c : Int32} (hc : g1 c) (s : Int32) (hD : ∀ i < 3, s * τ.1 58 (3 * q + i) = shr c i) (g : Bool) (fr : Int32) :
    p_100a58 τ (Int32.ofNat p) (Int32.ofNat (3 * q)) s (bi g) fr ∧ v_100a58 τ (Int32.ofNat p) (Int32.ofNat (3 * q)) s (bi g) fr = (if g then gA P b p c else -(gA P b p (-c))) - fr := by
  have h13 := hV.n13
  have st : ∀ (f i : Nat) (x7 x8 : Int32), i < 3 → (q_100a58_9 f τ (Int32.ofNat p) (Int32.ofNat (3 * q)) s (bi g) fr (nl P b p c i x7) (nm P b p c i x8) (Int32.ofNat (i + 1)) → q_100a58_9 (f + 1) τ (Int32.ofNat p) (Int32.ofNat (3 * q)) s (bi g) fr x7 x8 (Int32.ofNat i)) ∧ l_100a58_9 (f + 1) τ (Int32.ofNat p) (Int32.ofNat (3 * q)) s (bi g) fr x7 x8 (Int32.ofNat i) = l_100a58_9 f τ (Int32.ofNat p) (Int32.ofNat (3 * q)) s (bi g) fr (nl P b p c i x7) (nm P b p c i x8) (Int32.ofNat (i + 1)) := by
    intro f i x7 x8 hi3
    have h1 := (hG p hp i hi3).2.2.2.2
    have hd := hD i hi3
    rw [q_100a58_9, l_100a58_9]
    simp (disch := omega) only [lt3_i, pi_6, pi_3, pi_a3, pi_ab, pi_nn, pi_ng, pi_nle, if_true, true_implies, false_or, not_false_eq_true, implies_true, true_and, hd, h1, pi_a1]
    exact ⟨fun h => h, rfl⟩
  obtain ⟨a1, a2⟩ := st 13 0 0 0 (by decide)
  obtain ⟨b1, b2⟩ := st 12 1 (nl P b p c 0 0) (nm P b p c 0 0) (by decide)
  obtain ⟨c1, c2⟩ := st 11 2 (nl P b p c 1 (nl P b p c 0 0)) (nm P b p c 1 (nm P b p c 0 0)) (by decide)
  obtain ⟨n1, n2⟩ := nlm hV b hp hc
  simp only [l_0, l_1, l_2, l_3, Nat.reduceAdd] at a1 a2 b1 b2 c1 c2
  unfold p_100a58 v_100a58 f_100a58
  constructor
  · refine a1 (b1 (c1 ?_))
    rw [q_100a58_9]
    exact fun h => absurd h (by decide)
  · rw [a2, b2, c2, l_100a58_9, if_neg (by decide), n1, n2]
    cases g <;> rfl
theorem li58 {P : Pl} (hV : VP P) (b : Int32) (τ : am_M) (hR : RP τ P) (hG : GC τ P b) {k : Nat} (hk : k < P.n) (h0 : 0 < k) {c : Int32} (hc : g1 c) (s : Int32) (hD : ∀ i < 3, s * τ.1 58 (3 * P.par k + i) = shr c i) (hl : shr c (ax c) * lV P b k (ax c) = gA P b (P.par k) c) :
    p_101a58 τ (Int32.ofNat k) (Int32.ofNat (3 * P.par k)) s ∧ v_101a58 τ (Int32.ofNat k) (Int32.ofNat (3 * P.par k)) s = gA P b (P.par k) c := by
  have h13 := hV.n13
  obtain ⟨hq, hs⟩ := hV.tr k hk h0
  obtain ⟨e1, e2, e3⟩ := (hR.2 k hk).1 h0
  have hQ := hR.2 (P.par k) (by omega)
  unfold RE at hQ
  have st : ∀ (f i : Nat) (z x9 : Int32), i < 3 → (q_101a58_103 f τ (Int32.ofNat k) (Int32.ofNat (3 * P.par k)) s (Int32.ofNat (P.par k)) z (lx P k) (ly P k) (x9 + shr c i * lV P b k i) (Int32.ofNat (i + 1)) → q_101a58_103 (f + 1) τ (Int32.ofNat k) (Int32.ofNat (3 * P.par k)) s (Int32.ofNat (P.par k)) z (lx P k) (ly P k) x9 (Int32.ofNat i)) ∧ l_101a58_103 (f + 1) τ (Int32.ofNat k) (Int32.ofNat (3 * P.par k)) s (Int32.ofNat (P.par k)) z (lx P k) (ly P k) x9 (Int32.ofNat i) = l_101a58_103 f τ (Int32.ofNat k) (Int32.ofNat (3 * P.par k)) s (Int32.ofNat (P.par k)) z (lx P k) (ly P k) (x9 + shr c i * lV P b k i) (Int32.ofNat (i + 1)) := by
    intro f i z x9 hi3
    have h1 := hG (P.par k) (by omega) i hi3
    have hd := hD i hi3
    rw [h1.2.1] at hd
    have ev : (((cC P b (P.par k) i - P.W (P.par k) * shr (cX P b (P.par k)) i) - P.S (P.par k) * shr (cY P b (P.par k)) i) + lx P k * shr (cX P b (P.par k)) i) + ly P k * shr (cY P b (P.par k)) i = lV P b k i := rfl
    rw [q_101a58_103, l_101a58_103]
    simp (disch := omega) only [lt3_i, pi_3, pi_ab, pi_nn, pi_ng, pi_nle, if_true, true_implies, false_or, not_false_eq_true, implies_true, true_and, hd, h1, ev, pi_a1]
    exact ⟨fun h => h, trivial⟩
  have fin : ∀ z : Int32, q_101a58_103 14 τ (Int32.ofNat k) (Int32.ofNat (3 * P.par k)) s (Int32.ofNat (P.par k)) z (lx P k) (ly P k) 0 0 ∧ l_101a58_103 14 τ (Int32.ofNat k) (Int32.ofNat (3 * P.par k)) s (Int32.ofNat (P.par k)) z (lx P k) (ly P k) 0 0 = gA P b (P.par k) c := by
    intro z
    obtain ⟨a1, a2⟩ := st 13 0 z 0 (by decide)
    obtain ⟨b1, b2⟩ := st 12 1 z (0 + shr c 0 * lV P b k 0) (by decide)
    obtain ⟨c1, c2⟩ := st 11 2 z ((0 + shr c 0 * lV P b k 0) + shr c 1 * lV P b k 1) (by decide)
    simp only [l_0, l_1, l_2, l_3, Nat.reduceAdd] at a1 a2 b1 b2 c1 c2
    constructor
    · refine a1 (b1 (c1 ?_))
      rw [q_101a58_103]
      exact fun h => absurd h (by decide)
    · rw [a2, b2, c2, l_101a58_103, if_neg (by decide), sum3 hc, hl]
  obtain ⟨i1, i2, i3⟩ := lin_p τ P hV hR hk h0
  unfold p_101a58 v_101a58 f_101a58
  simp (disch := omega) only [pi_nn, e1, e2]
  simp only [i1]
  simp only [bi_0, pi_4]
  simp only [i2.1, i2.2]
  simp (disch := omega) only [pi_ng, pi_nle, false_or, not_false_eq_true, true_and, fin, and_true]
  exact i3
theorem al59 {P : Pl} (hV : VP P) (b : Int32) (τ : am_M) (hG : GC τ P b) {p q : Nat} (hp : p < P.n) (hq : q < 13) {c : Int32} (hc : g1 c) (s : Int32) (hD : ∀ i < 3, s * τ.1 59 (3 * q + i) = shr c i) (g : Bool) (fr : Int32) :
    p_100a59 τ (Int32.ofNat p) (Int32.ofNat (3 * q)) s (bi g) fr ∧ v_100a59 τ (Int32.ofNat p) (Int32.ofNat (3 * q)) s (bi g) fr = (if g then gA P b p c else -(gA P b p (-c))) - fr := by
  have h13 := hV.n13
  have st : ∀ (f i : Nat) (x7 x8 : Int32), i < 3 → (q_100a59_9 f τ (Int32.ofNat p) (Int32.ofNat (3 * q)) s (bi g) fr (nl P b p c i x7) (nm P b p c i x8) (Int32.ofNat (i + 1)) → q_100a59_9 (f + 1) τ (Int32.ofNat p) (Int32.ofNat (3 * q)) s (bi g) fr x7 x8 (Int32.ofNat i)) ∧ l_100a59_9 (f + 1) τ (Int32.ofNat p) (Int32.ofNat (3 * q)) s (bi g) fr x7 x8 (Int32.ofNat i) = l_100a59_9 f τ (Int32.ofNat p) (Int32.ofNat (3 * q)) s (bi g) fr (nl P b p c i x7) (nm P b p c i x8) (Int32.ofNat (i + 1)) := by
    intro f i x7 x8 hi3
    have h1 := (hG p hp i hi3).2.2.2.2
    have hd := hD i hi3
    rw [q_100a59_9, l_100a59_9]
    simp (disch := omega) only [lt3_i, pi_6, pi_3, pi_a3, pi_ab, pi_nn, pi_ng, pi_nle, if_true, true_implies, false_or, not_false_eq_true, implies_true, true_and, hd, h1, pi_a1]
    exact ⟨fun h => h, rfl⟩
  obtain ⟨a1, a2⟩ := st 13 0 0 0 (by decide)
  obtain ⟨b1, b2⟩ := st 12 1 (nl P b p c 0 0) (nm P b p c 0 0) (by decide)
  obtain ⟨c1, c2⟩ := st 11 2 (nl P b p c 1 (nl P b p c 0 0)) (nm P b p c 1 (nm P b p c 0 0)) (by decide)
  obtain ⟨n1, n2⟩ := nlm hV b hp hc
  simp only [l_0, l_1, l_2, l_3, Nat.reduceAdd] at a1 a2 b1 b2 c1 c2
  unfold p_100a59 v_100a59 f_100a59
  constructor
  · refine a1 (b1 (c1 ?_))
    rw [q_100a59_9]
    exact fun h => absurd h (by decide)
  · rw [a2, b2, c2, l_100a59_9, if_neg (by decide), n1, n2]
    cases g <;> rfl
theorem li59 {P : Pl} (hV : VP P) (b : Int32) (τ : am_M) (hR : RP τ P) (hG : GC τ P b) {k : Nat} (hk : k < P.n) (h0 : 0 < k) {c : Int32} (hc : g1 c) (s : Int32) (hD : ∀ i < 3, s * τ.1 59 (3 * P.par k + i) = shr c i) (hl : shr c (ax c) * lV P b k (ax c) = gA P b (P.par k) c) :
    p_101a59 τ (Int32.ofNat k) (Int32.ofNat (3 * P.par k)) s ∧ v_101a59 τ (Int32.ofNat k) (Int32.ofNat (3 * P.par k)) s = gA P b (P.par k) c := by
  have h13 := hV.n13
  obtain ⟨hq, hs⟩ := hV.tr k hk h0
  obtain ⟨e1, e2, e3⟩ := (hR.2 k hk).1 h0
  have hQ := hR.2 (P.par k) (by omega)
  unfold RE at hQ
  have st : ∀ (f i : Nat) (z x9 : Int32), i < 3 → (q_101a59_103 f τ (Int32.ofNat k) (Int32.ofNat (3 * P.par k)) s (Int32.ofNat (P.par k)) z (lx P k) (ly P k) (x9 + shr c i * lV P b k i) (Int32.ofNat (i + 1)) → q_101a59_103 (f + 1) τ (Int32.ofNat k) (Int32.ofNat (3 * P.par k)) s (Int32.ofNat (P.par k)) z (lx P k) (ly P k) x9 (Int32.ofNat i)) ∧ l_101a59_103 (f + 1) τ (Int32.ofNat k) (Int32.ofNat (3 * P.par k)) s (Int32.ofNat (P.par k)) z (lx P k) (ly P k) x9 (Int32.ofNat i) = l_101a59_103 f τ (Int32.ofNat k) (Int32.ofNat (3 * P.par k)) s (Int32.ofNat (P.par k)) z (lx P k) (ly P k) (x9 + shr c i * lV P b k i) (Int32.ofNat (i + 1)) := by
    intro f i z x9 hi3
    have h1 := hG (P.par k) (by omega) i hi3
    have hd := hD i hi3
    rw [h1.2.2.1] at hd
    have ev : (((cC P b (P.par k) i - P.W (P.par k) * shr (cX P b (P.par k)) i) - P.S (P.par k) * shr (cY P b (P.par k)) i) + lx P k * shr (cX P b (P.par k)) i) + ly P k * shr (cY P b (P.par k)) i = lV P b k i := rfl
    rw [q_101a59_103, l_101a59_103]
    simp (disch := omega) only [lt3_i, pi_3, pi_ab, pi_nn, pi_ng, pi_nle, if_true, true_implies, false_or, not_false_eq_true, implies_true, true_and, hd, h1, ev, pi_a1]
    exact ⟨fun h => h, trivial⟩
  have fin : ∀ z : Int32, q_101a59_103 14 τ (Int32.ofNat k) (Int32.ofNat (3 * P.par k)) s (Int32.ofNat (P.par k)) z (lx P k) (ly P k) 0 0 ∧ l_101a59_103 14 τ (Int32.ofNat k) (Int32.ofNat (3 * P.par k)) s (Int32.ofNat (P.par k)) z (lx P k) (ly P k) 0 0 = gA P b (P.par k) c := by
    intro z
    obtain ⟨a1, a2⟩ := st 13 0 z 0 (by decide)
    obtain ⟨b1, b2⟩ := st 12 1 z (0 + shr c 0 * lV P b k 0) (by decide)
    obtain ⟨c1, c2⟩ := st 11 2 z ((0 + shr c 0 * lV P b k 0) + shr c 1 * lV P b k 1) (by decide)
    simp only [l_0, l_1, l_2, l_3, Nat.reduceAdd] at a1 a2 b1 b2 c1 c2
    constructor
    · refine a1 (b1 (c1 ?_))
      rw [q_101a59_103]
      exact fun h => absurd h (by decide)
    · rw [a2, b2, c2, l_101a59_103, if_neg (by decide), sum3 hc, hl]
  obtain ⟨i1, i2, i3⟩ := lin_p τ P hV hR hk h0
  unfold p_101a59 v_101a59 f_101a59
  simp (disch := omega) only [pi_nn, e1, e2]
  simp only [i1]
  simp only [bi_0, pi_4]
  simp only [i2.1, i2.2]
  simp (disch := omega) only [pi_ng, pi_nle, false_or, not_false_eq_true, true_and, fin, and_true]
  exact i3
