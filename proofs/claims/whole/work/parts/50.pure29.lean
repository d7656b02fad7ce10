theorem v96_m (σ τ : am_M) (x : Int32) : v_96 σ x = v_96 τ x := by unfold v_96 f_96; exact l96_m _ _ _ _ _ _
theorem v119_m (σ τ : am_M) (x : Int32) : v_119 σ x = v_119 τ x := by unfold v_119; rfl
theorem bc_i (σ τ : am_M) {m : Nat} (h : m < 8192) : v_119 σ (Int32.ofNat m) = v_96 τ (Int32.ofNat m) := by
  have h1 := bc_d (m / 512) (by omega) (m % 512) (by omega)
  have e : 512 * (m / 512) + m % 512 = m := by omega
  rw [e] at h1
  have h2 : v_96 τ (Int32.ofNat m) = v_96 s0 (Int32.ofNat m) := v96_m _ _ _
  rw [h2, ← h1]
  exact v119_m _ _ _
theorem p96_i (τ : am_M) (x : Int32) : p_96 τ x := by
  have st : ∀ (f i : Nat) (a : Int32), 13 < i + f → i ≤ 13 → q_96_4 f τ x a (Int32.ofNat i) := by
    intro f
    induction f with
    | zero => intro i a h1 h2; omega
    | succ f ih =>
      intro i a h1 h2
      rw [q_96_4]
      intro h
      rw [pi_a1]
      have : i < 13 := by
        have e := pi_lt (show i < 200 by omega) (show 13 < 200 by decide)
        rw [← e]; exact h
      exact ih (i + 1) _ (by omega) (by omega)
  have k := st 14 0 0 (by omega) (by omega)
  rw [l_0] at k
  exact k
theorem gb (x : Int32) {j : Nat} (h : j < 13) : ((x >>> (Int32.ofNat j &&& (31 : Int32))) &&& (1 : Int32)) = bi (x.toBitVec.getLsbD j) := by
  have e : ∀ j < 13, ((Int32.ofNat j &&& (31 : Int32)).toBitVec.smod 32).toNat = j := by decide
  have e' := e j h
  apply Int32.toBitVec_inj.1
  rw [Int32.toBitVec_and, Int32.toBitVec_shiftRight, BitVec.sshiftRight', e']
  have o : (1 : Int32).toBitVec = 1#32 := rfl
  rw [o, BitVec.and_one_eq_setWidth_ofBool_getLsbD]
  have g : (x.toBitVec.sshiftRight j).getLsbD 0 = x.toBitVec.getLsbD j := by
    rw [BitVec.getLsbD_sshiftRight]
    simp; omega
  rw [g]
  cases x.toBitVec.getLsbD j <;> decide
theorem isF_b (x : Int32) {j : Nat} (h : j < 13) : isF x j = x.toBitVec.getLsbD j := by
  unfold isF
  rw [gb x h]
  cases x.toBitVec.getLsbD j <;> decide
theorem tb (m : Nat) {j : Nat} (h : j < 13) : (Int32.ofNat m).toBitVec.getLsbD j = m.testBit j := by
  rw [Int32.toBitVec_ofNat', BitVec.getLsbD_ofNat]
  simp; omega
theorem sl {j : Nat} (h : j < 13) : ((1 : Int32) <<< (Int32.ofNat j &&& (31 : Int32))) = Int32.ofNat (2 ^ j) := by
  have e : ∀ j < 13, ((1 : Int32) <<< (Int32.ofNat j &&& (31 : Int32))) = Int32.ofNat (2 ^ j) := by decide
  exact e j h
theorem sl0 {j : Nat} (h : j < 13) : ((0 : Int32) <<< (Int32.ofNat j &&& (31 : Int32))) = 0 := by
  have e : ∀ j < 13, ((0 : Int32) <<< (Int32.ofNat j &&& (31 : Int32))) = 0 := by decide
  exact e j h
theorem or_i (a c : Nat) : (Int32.ofNat a ||| Int32.ofNat c) = Int32.ofNat (a ||| c) := by
  apply Int32.toBitVec_inj.1
  rw [Int32.toBitVec_or, Int32.toBitVec_ofNat', Int32.toBitVec_ofNat', Int32.toBitVec_ofNat', BitVec.ofNat_or]
/-- the panels behind a bend, as a set of bits -/
def brn (P : Pl) : Nat → Nat → Nat → Nat
  | 0, m, _ => m
  | f + 1, m, p => if p < P.n then brn P f (if m.testBit (P.par p) then m ||| 2 ^ p else m) (p + 1) else m
theorem brn_lt (P : Pl) (h13 : P.n ≤ 13) : ∀ (f m p : Nat), m < 8192 → brn P f m p < 8192 := by
  intro f
  induction f with
  | zero => intro m p h; exact h
  | succ f ih =>
    intro m p h
    rw [brn]
    split
    · refine ih _ _ ?_
      split
      · exact Nat.or_lt_two_pow (n := 13) h (Nat.pow_lt_pow_right (by decide) (by omega))
      · exact h
    · exact h
theorem l39_c (P : Pl) (hV : VP P) (σ : am_M) (hC : CP σ P) (x : Int32) : ∀ (f k m : Nat), 0 < k → P.n < k + f → k ≤ P.n → q_39_8 f σ x (Int32.ofNat m) (Int32.ofNat k) ∧ l_39_8 f σ x (Int32.ofNat m) (Int32.ofNat k) = Int32.ofNat (brn P f m k) := by
  intro f
  induction f with
  | zero => intro k m h0 h1 h2; omega
  | succ f ih =>
    intro k m h0 h1 h2
    have h13 := hV.n13
    rw [q_39_8, l_39_8, brn]
    have hlt : (Int32.ofNat k < σ.1 2 0) = (k < P.n) := by rw [hC.1]; exact pi_lt (by omega) (by omega)
    by_cases hk : k < P.n
    · have hq := (hV.tr k hk h0).1
      have e := ((hC.2 k hk).1 h0).1
      simp (disch := omega) only [hlt, hk, if_true, if_false, pi_pos, pi_npos, pi_nn, pi_ng, pi_nle, pi_lt, false_or, or_false, not_false_eq_true, true_and, and_true, false_and, and_false, implies_true, not_true, not_true_eq_false, false_implies, true_implies, pi_a1, pi_a2, pi_a3, pi_ab, pi_4, pi_3, pi_6, v_70_i, v_68_i, v_69_i, mod2_i, bi_0, bi_n, vp_bi, enc_flip, flip_s, e, gb, tb, sl, or_i, bi_1]
      have i := ih (k + 1) (if m.testBit (P.par k) = true then m ||| 2 ^ k else m) (by omega) (by omega) (by omega)
      have e2 : (if m.testBit (P.par k) = true then Int32.ofNat (m ||| 2 ^ k) else Int32.ofNat m) = Int32.ofNat (if m.testBit (P.par k) = true then m ||| 2 ^ k else m) := by split <;> rfl
      rw [e2]
      exact i
    · simp only [hlt, hk, if_false, false_implies, true_and]
theorem l95_c (P : Pl) (hV : VP P) (τ : am_M) (hR : RP τ P) (x : Int32) : ∀ (f k m : Nat), 0 < k → P.n < k + f → k ≤ P.n → q_95_8 f τ x (Int32.ofNat m) (Int32.ofNat k) ∧ l_95_8 f τ x (Int32.ofNat m) (Int32.ofNat k) = Int32.ofNat (brn P f m k) := by
  intro f
  induction f with
  | zero => intro k m h0 h1 h2; omega
  | succ f ih =>
    intro k m h0 h1 h2
    have h13 := hV.n13
    rw [q_95_8, l_95_8, brn]
    have hlt : (Int32.ofNat k < τ.1 50 1) = (k < P.n) := by rw [hR.1]; exact pi_lt (by omega) (by omega)
    by_cases hk : k < P.n
    · have hq := (hV.tr k hk h0).1
      have e := ((hR.2 k hk).1 h0).1
      have z : (Int32.ofNat m ||| (bi (m.testBit (P.par k)) <<< (Int32.ofNat k &&& (31 : Int32)))) = Int32.ofNat (if m.testBit (P.par k) = true then m ||| 2 ^ k else m) := by
        cases m.testBit (P.par k)
        · have : bi false = 0 := rfl
          rw [this, sl0 (by omega)]
          simp
        · have : bi true = 1 := rfl
          rw [this, sl (by omega), or_i]
          rfl
      simp (disch := omega) only [hlt, hk, if_true, if_false, pi_pos, pi_npos, pi_nn, pi_ng, pi_nle, pi_lt, false_or, or_false, not_false_eq_true, true_and, and_true, false_and, and_false, implies_true, not_true, not_true_eq_false, false_implies, true_implies, pi_a1, pi_a2, pi_a3, pi_ab, pi_4, pi_3, pi_6, v_70_i, v_68_i, v_69_i, mod2_i, bi_0, bi_n, vp_bi, enc_flip, flip_s, e, gb, tb, z]
      exact ih (k + 1) (if m.testBit (P.par k) = true then m ||| 2 ^ k else m) (by omega) (by omega) (by omega)
    · simp only [hlt, hk, if_false, false_implies, true_and]
def brI (P : Pl) (k : Nat) : Int32 := Int32.ofNat (brn P 14 (2 ^ k) (k + 1))
/-- the panels that move -/
def mvg (P : Pl) (k : Nat) : Int32 := if Int32.ofNat P.n - v_96 s0 (brI P k) < v_96 s0 (brI P k) then (((1 : Int32) <<< (Int32.ofNat P.n &&& (31 : Int32))) - 1) &&& (brI P k ^^^ (-1)) else brI P k
theorem v40_c (P : Pl) (hV : VP P) (σ : am_M) (hC : CP σ P) {k : Nat} (hk : k < P.n) : p_40 σ (Int32.ofNat k) ∧ v_40 σ (Int32.ofNat k) = mvg P k := by
  have h13 := hV.n13
  obtain ⟨a1, a2⟩ := l39_c P hV σ hC (Int32.ofNat k) 14 (k + 1) (2 ^ k) (by omega) (by omega) (by omega)
  have h39 : v_39 σ (Int32.ofNat k) = brI P k := by
    unfold v_39 f_39
    rw [sl (by omega), pi_a1, a2]; rfl
  have hlt : brn P 14 (2 ^ k) (k + 1) < 8192 := brn_lt P h13 _ _ _ (Nat.pow_lt_pow_right (a := 2) (m := k) (n := 13) (by decide) (by omega))
  have hb : v_119 σ (brI P k) = v_96 s0 (brI P k) := bc_i _ _ hlt
  constructor
  · unfold p_40 p_39
    rw [sl (by omega), pi_a1]; exact a1
  · unfold v_40 mvg
    simp only [h39, hb, hC.1]
theorem v97_c (P : Pl) (hV : VP P) (τ : am_M) (hR : RP τ P) {k : Nat} (hk : k < P.n) : p_97 τ (Int32.ofNat k) ∧ v_97 τ (Int32.ofNat k) = mvg P k := by
  have h13 := hV.n13
  obtain ⟨a1, a2⟩ := l95_c P hV τ hR (Int32.ofNat k) 14 (k + 1) (2 ^ k) (by omega) (by omega) (by omega)
  have h39 : v_95 τ (Int32.ofNat k) = brI P k := by
    unfold v_95 f_95
    rw [sl (by omega), pi_a1, a2]; rfl
  have hb : v_96 τ (brI P k) = v_96 s0 (brI P k) := v96_m _ _ _
  constructor
  · unfold p_97
    refine ⟨?_, p96_i _ _, p96_i _ _⟩
    unfold p_95
    rw [sl (by omega), pi_a1]; exact a1
  · unfold v_97 mvg
    simp only [h39, hb, hR.1]
theorem v_27_i (σ : am_M) (P : Pl) (hC : CP σ P) (h13 : P.n ≤ 13) (x : Int32) : v_27 σ x = bi (decide (1 ≤ x ∧ x ≤ Int32.ofNat P.n - 1)) := by
  unfold v_27 bi
  rw [hC.1]
  have hb : 0 ≤ Int32.ofNat P.n ∧ Int32.ofNat P.n ≤ 13 := by
    have : ∀ n ≤ 13, 0 ≤ Int32.ofNat n ∧ Int32.ofNat n ≤ 13 := by decide
    exact this _ h13
  generalize Int32.ofNat P.n = y at *
  clear hC
  grind
theorem v_94_i (τ : am_M) (P : Pl) (hR : RP τ P) (h13 : P.n ≤ 13) (x : Int32) : v_94 τ x = bi (decide (1 ≤ x ∧ x ≤ Int32.ofNat P.n - 1)) := by
  unfold v_94
  rw [hR.1, pi_lm1 h13, isIn_i]
theorem rngb {x : Int32} {n : Nat} (hn : n ≤ 13) (h : 1 ≤ x ∧ x ≤ Int32.ofNat n - 1) : ∃ q, 0 < q ∧ q < n ∧ x = Int32.ofNat q := by
  obtain ⟨q, hq, rfl⟩ := rng' hn ⟨by have := h.1; grind, h.2⟩
  refine ⟨q, ?_, hq, rfl⟩
  have h1 := h.1
  have : q ≠ 0 := fun e => by subst e; exact absurd h1 (by decide)
  omega
theorem c_moves (σ : am_M) (h : Inv σ) (x1 : Int32) : p_60 σ x1 ∧ p_98 σ x1 ∧ v_60 σ x1 = v_98 σ x1 ∧ Inv (w_98 σ x1) ∧ (w_98 σ x1).1 0 = σ.1 0 := by
  have hI := h
  obtain ⟨P, hV, hC, hR, hM, hO⟩ := h
  have h13 := hV.n13
  have hR0 : RP (am_put σ 50 0 0) P := hR.put _ _ _ (by decide) (by decide)
  unfold p_60 p_98 v_60 v_98 w_98
  simp only [v_27_i σ P hC h13, v_94_i _ P hR0 h13, bi_0, decide_eq_false_iff_not]
  by_cases c : 1 ≤ x1 ∧ x1 ≤ Int32.ofNat P.n - 1
  · obtain ⟨k, hk0, hk, rfl⟩ := rngb h13 c
    obtain ⟨a1, a2⟩ := v40_c P hV σ hC hk
    obtain ⟨b1, b2⟩ := v97_c P hV _ hR0 hk
    simp only [c, and_self, not_true_eq_false, not_false_eq_true, true_implies, if_false, a1, a2, b1, b2, true_and]
    exact inv500 hI 0
  · simp only [c, not_false_eq_true, not_true_eq_false, false_implies, if_true, true_and]
    exact inv500 hI 0
theorem mt_in (P : Pl) (b : Int32) (σ τ : am_M) (hV : VP P) (hC : CP σ P) (hR : RP τ P) (hF : FC σ P b) (hG : GC τ P b) {p : Nat} (hp : p < P.n) (k39 k24 : am_M → Int32 → Int32 → Int32 → Int32 × am_M) (c39 c24 : am_M → Int32 → Int32 → Int32 → Prop) : ∀ (f k : Nat) (a : Int32), P.n < k + f → k ≤ P.n → 0 < k →
    ∃ N, l_59_55 k39 f σ b a (Int32.ofNat p) (Int32.ofNat k) = k39 σ b N (Int32.ofNat (p + 1)) ∧ l_93_37 k24 f τ b a (Int32.ofNat p) (Int32.ofNat k) = k24 τ b N (Int32.ofNat (p + 1)) ∧ (c39 σ b N (Int32.ofNat (p + 1)) → q_59_55 c39 f σ b a (Int32.ofNat p) (Int32.ofNat k)) ∧ (c24 τ b N (Int32.ofNat (p + 1)) → q_93_37 c24 f τ b a (Int32.ofNat p) (Int32.ofNat k)) := by
  intro f
  induction f with
  | zero => intro k a h1 h2; omega
  | succ f ih =>
    intro k a h1 h2 h0
    have h13 := hV.n13
    rw [q_59_55, q_93_37, l_59_55, l_93_37]
    have hlt : (Int32.ofNat k < σ.1 2 0) = (k < P.n) := by rw [hC.1]; exact pi_lt (by omega) (by omega)
    have hlt' : (Int32.ofNat k < τ.1 50 1) = (k < P.n) := by rw [hR.1]; exact pi_lt (by omega) (by omega)
    by_cases hk : k < P.n
    · have hq := (hV.tr k hk h0).1
      have e := ((hC.2 k hk).1 h0).1
      have e' := ((hR.2 k hk).1 h0).1
      obtain ⟨a1, a2⟩ := v12_c P b σ hF h13 hp hk
      obtain ⟨a3, a4⟩ := v12_c P b σ hF h13 hk hp
      obtain ⟨b1, b2⟩ := v92_c P b τ hG h13 hp hk
      obtain ⟨b3, b4⟩ := v92_c P b τ hG h13 hk hp
      simp (disch := omega) only [hlt, hlt', hk, if_true, if_false, pi_pos, pi_npos, pi_nn, pi_ng, pi_nle, pi_lt, false_or, or_false, not_false_eq_true, true_and, and_true, false_and, and_false, implies_true, not_true, not_true_eq_false, false_implies, true_implies, pi_a1, pi_a2, pi_a3, pi_ab, pi_4, pi_3, pi_6, v_70_i, v_68_i, v_69_i, mod2_i, bi_0, bi_n, vp_bi, enc_flip, flip_s, e, e', a1, a2, a3, a4, b1, b2, b3, b4, and_self]
      have z1 : (if Int32.ofNat (P.par k) = Int32.ofNat p then a else (if ent P b p k = false then (if ent P b k p = false then a else a + 1) else a + 1)) = a + (if Int32.ofNat (P.par k) = Int32.ofNat p then (0 : Int32) else (if ent P b p k = false then (if ent P b k p = false then (0 : Int32) else 1) else 1)) := by
        split
        · simp
        · split
          · split <;> simp
          · rfl
      rw [z1]
      exact ih (k + 1) _ (by omega) (by omega) (by omega)
    · simp only [hlt, hlt', hk, if_false, false_implies, true_and, not_false_eq_true, true_implies, pi_a1]
      exact ⟨a, rfl, rfl, fun h => h, fun h => h⟩
theorem mt_out (P : Pl) (b : Int32) (σ τ : am_M) (hV : VP P) (hC : CP σ P) (hR : RP τ P) (hF : FC σ P b) (hG : GC τ P b) : ∀ (f k : Nat) (a : Int32), P.n < k + f → k ≤ P.n →
    ∃ N, l_59_39 f σ b a (Int32.ofNat k) = (N, σ) ∧ l_93_24 f τ b a (Int32.ofNat k) = (N, τ) ∧ q_59_39 f σ b a (Int32.ofNat k) ∧ q_93_24 f τ b a (Int32.ofNat k) := by
  intro f
  induction f with
  | zero => intro k a h1 h2; omega
  | succ f ih =>
    intro k a h1 h2
    have h13 := hV.n13
    rw [q_59_39, q_93_24, l_59_39, l_93_24]
    have hlt : (Int32.ofNat k < σ.1 2 0) = (k < P.n) := by rw [hC.1]; exact pi_lt (by omega) (by omega)
    have hlt' : (Int32.ofNat k < τ.1 50 1) = (k < P.n) := by rw [hR.1]; exact pi_lt (by omega) (by omega)
    by_cases hk : k < P.n
    · obtain ⟨N, a1, a2, a3, a4⟩ := mt_in P b σ τ hV hC hR hF hG hk (l_59_39 f) (l_93_24 f) (q_59_39 f) (q_93_24 f) 14 (k + 1) a (by omega) (by omega) (by omega)
      obtain ⟨M, i1, i2, i3, i4⟩ := ih (k + 1) N (by omega) (by omega)
      simp only [hlt, hlt', hk, if_true, true_implies, pi_a1, a1, a2]
      exact ⟨M, i1, i2, a3 i3, a4 i4⟩
    · simp only [hlt, hlt', hk, if_false, false_implies]
      exact ⟨a, rfl, rfl, trivial, trivial⟩
theorem c_meets (σ : am_M) (h : Inv σ) (x1 : Int32) : p_59 σ x1 ∧ p_93 (w_59 σ x1) x1 ∧ v_59 σ x1 = v_93 (w_59 σ x1) x1 ∧ Inv (w_93 (w_59 σ x1) x1) ∧ (w_93 (w_59 σ x1) x1).1 0 = σ.1 0 := by
  have hI := h
  obtain ⟨P, hP⟩ := h
  have hP' := hP
  obtain ⟨hV, hC, hR, hM, hO⟩ := hP
  have h13 := hV.n13
  have hR0 : RP (am_put σ 50 0 0) P := hR.put _ _ _ (by decide) (by decide)
  unfold p_59 p_93 v_59 v_93 w_93 f_93 w_59 f_59
  by_cases hn : P.n = 0
  · have hc : σ.1 2 0 = 0 := by rw [hC.1, hn]; rfl
    simp only [hc, not_true_eq_false, false_implies, if_true, v_88_0 _ P hR0 hn, true_and]
    exact inv500 hI 0
  · have h0 : 0 < P.n := by omega
    have hc : ¬ σ.1 2 0 = 0 := by rw [hC.1, pi_z (by omega)]; exact hn
    simp only [hc, not_false_eq_true, true_implies, if_false, v_29_i σ P hC h0 h13, bi_0]
    by_cases c2 : abn P.n x1 = false
    · simp only [c2, not_true_eq_false, false_implies, if_true, v_88_i _ P hR0 h0 h13, bi_0, true_and]
      exact inv500 hI 0
    · obtain ⟨a1, a2, a3, b1, b2, b3, b4⟩ := two_c hP' x1
      have hRm : RP (am_put (w_1 σ x1) 50 0 0) P := ((hR.fr (fold_c P hV x1 σ hC).2.2 (by decide))).put _ _ _ (by decide) (by decide)
      obtain ⟨N, m1, m2, m3, m4⟩ := mt_out P x1 _ _ hV a2 b2 a3 b3 14 0 0 (by omega) (by omega)
      rw [l_0] at m1 m2 m3 m4
      simp only [c2, Bool.true_eq_false, not_false_eq_true, true_implies, if_false, m1, v_88_i _ P hRm h0 h13, bi_0, m2, a1, m3, b1, m4, true_and]
      exact b4
