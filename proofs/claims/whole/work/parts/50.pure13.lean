theorem bi_01 (b : Bool) : bi b = 0 ∨ bi b = 1 := by cases b <;> decide
theorem bi_ne (b : Bool) (X Y : Int32) : (if bi b = 0 then X else Y) = if b = true then Y else X := by cases b <;> simp [bi]
theorem hasB_l (σ : am_M) (P : Pl) (hV : VP P) (hR : RP σ P) {p s : Nat} (hp : p < P.n) (hs : s < 4) : ∀ (f k : Nat) (b : Bool), P.n < k + f → 0 < k → k ≤ P.n →
    q_81_27 f σ (Int32.ofNat p) (Int32.ofNat s) (bi b) (Int32.ofNat k) ∧ ∃ c : Bool, l_81_27 f σ (Int32.ofNat p) (Int32.ofNat s) (bi b) (Int32.ofNat k) = bi c ∧ (c = true ↔ b = true ∨ ∃ j, k ≤ j ∧ j < P.n ∧ P.par j = p ∧ P.sd j = s) := by
  intro f
  induction f with
  | zero => intro k b h1 h2 h3; omega
  | succ f ih =>
    intro k b h1 h2 h3
    have h13 := hV.n13
    unfold q_81_27 l_81_27
    have hlt : (Int32.ofNat k < σ.1 50 1) = (k < P.n) := by rw [hR.1]; exact pi_lt (by omega) (by omega)
    by_cases hk : k < P.n
    · have hE := (hR.2 k hk).1 h2
      have ht := hV.tr k hk h2
      have e : (if bi b = 0 then ((if σ.1 51 (Int32.ofNat k).toNatClampNeg = Int32.ofNat p then ((if σ.1 52 (Int32.ofNat k).toNatClampNeg = Int32.ofNat s then (1 : Int32) else 0) : Int32) else 0) : Int32) else 1) = bi (b || (P.par k == p && P.sd k == s)) := by
        simp (disch := omega) only [pi_nn, hE.1, hE.2.1, pi_inj]
        cases b <;> by_cases c1 : P.par k = p <;> by_cases c2 : P.sd k = s <;> simp [c1, c2, bi]
      rw [e]
      simp (disch := omega) only [hlt, hk, if_true, if_false, pi_pos, pi_npos, pi_nn, pi_ng, pi_nle, pi_lt, false_or, or_false, not_false_eq_true, true_and, and_true, false_and, and_false, implies_true, not_true, not_true_eq_false, false_implies, true_implies, pi_a1, pi_a2, pi_a3, pi_ab, pi_4, pi_3, pi_6, v_70_i, v_68_i, v_69_i, mod2_i, bi_0, bi_n, vp_bi, enc_flip, flip_s]
      obtain ⟨i1, c, i2, i3⟩ := ih (k + 1) (b || (P.par k == p && P.sd k == s)) (by omega) (by omega) (by omega)
      refine ⟨i1, c, i2, i3.trans ?_⟩
      constructor
      · rintro (h | ⟨j, hj, h⟩)
        · simp only [Bool.or_eq_true, Bool.and_eq_true, beq_iff_eq] at h
          rcases h with h | h
          · exact Or.inl h
          · exact Or.inr ⟨k, Nat.le_refl k, hk, h.1, h.2⟩
        · exact Or.inr ⟨j, by omega, h⟩
      · rintro (h | ⟨j, hj, h⟩)
        · left; simp [h]
        · by_cases hjk : j = k
          · subst hjk; left; simp [h]
          · exact Or.inr ⟨j, by omega, h⟩
    · simp only [hlt, hk, if_false, false_implies, true_and, not_false_eq_true, true_implies]
      refine ⟨bi_01 b, b, rfl, ?_⟩
      constructor
      · exact Or.inl
      · rintro (h | ⟨j, hj, h, -⟩)
        · exact h
        · omega
theorem hasB_i (σ : am_M) (P : Pl) (hV : VP P) (hR : RP σ P) {p s : Nat} (hp : p < P.n) (hs : s < 4) : p_81 σ (Int32.ofNat p) (Int32.ofNat s) ∧ v_81 σ (Int32.ofNat p) (Int32.ofNat s) = bi (P.bt p s) := by
  have h13 := hV.n13
  have hb := hV.bt p hp s hs
  have hst : (if 0 < Int32.ofNat p then ((if Int32.ofNat s = (((σ.1 52 (Int32.ofNat p).toNatClampNeg) + 2) - ((σ.1 52 (Int32.ofNat p).toNatClampNeg) + 2) / 4 * 4) then (1 : Int32) else 0) : Int32) else 0) = bi (decide (0 < p ∧ s = (P.sd p + 2) % 4)) := by
    by_cases h0 : 0 < p
    · have hE := (hR.2 p hp).1 h0
      have ht := hV.tr p hp h0
      have ht2 := ht.2
      simp (disch := omega) only [pi_pos, if_true, pi_nn, hE.2.1, pi_a2, mod4_i, pi_inj]
      by_cases h : s = (P.sd p + 2) % 4 <;> simp [h, h0, bi]
    · have : p = 0 := by omega
      subst this
      simp [bi]
  obtain ⟨i1, c, i2, i3⟩ := hasB_l σ P hV hR hp hs 14 1 (decide (0 < p ∧ s = (P.sd p + 2) % 4)) (by omega) (by omega) (by omega)
  unfold p_81 v_81 f_81
  rw [hst]
  refine ⟨⟨fun _ => pi_in (by omega) (by omega), i1⟩, ?_⟩
  have e1 : (1 : Int32) = Int32.ofNat 1 := rfl
  rw [e1, i2]
  congr 1
  have : (c = true) ↔ (P.bt p s = true) := by
    rw [i3, hb, decide_eq_true_iff]
    refine or_congr Iff.rfl ?_
    constructor
    · rintro ⟨j, h1, h2, h3⟩; exact ⟨j, h2, by omega, h3⟩
    · rintro ⟨j, h1, h2, h3⟩; exact ⟨j, by omega, h1, h3⟩
  cases c <;> cases h : P.bt p s <;> simp_all
/-- the flat pattern, for both -/
def dxx (P : Pl) (D : Int32) (p : Nat) : Int32 := if P.sd p = 0 then -D else if P.sd p = 2 then D else 0
def dyy (P : Pl) (D : Int32) (p : Nat) : Int32 := if P.sd p = 1 then -D else if P.sd p = 3 then D else 0
def csum (P : Pl) (g : Nat → Int32) : Nat → Nat → Int32
  | 0, _ => 0
  | f + 1, p => if p = 0 then 0 else csum P g f (P.par p) + g p
theorem csum_st (P : Pl) (hV : VP P) (g : Nat → Int32) : ∀ (f p : Nat), p < P.n → p ≤ f → csum P g (f + 1) p = csum P g f p := by
  intro f
  induction f with
  | zero => intro p hp h; have : p = 0 := by omega
            subst this; rfl
  | succ f ih =>
    intro p hp h
    by_cases h0 : p = 0
    · subst h0; rfl
    · have ht := hV.tr p hp (by omega)
      have e : ∀ f, csum P g (f + 1) p = csum P g f (P.par p) + g p := fun f => by rw [csum, if_neg h0]
      rw [e, e, ih (P.par p) (by omega) (by omega)]
def shx (P : Pl) (g : Nat → Int32) (p : Nat) : Int32 := csum P g 14 p
theorem shx_0 (P : Pl) (g : Nat → Int32) : shx P g 0 = 0 := rfl
theorem shx_s (P : Pl) (hV : VP P) (g : Nat → Int32) {p : Nat} (hp : p < P.n) (h0 : 0 < p) : shx P g p = shx P g (P.par p) + g p := by
  have ht := hV.tr p hp h0
  have h13 := hV.n13
  unfold shx
  rw [show (14 : Nat) = 13 + 1 from rfl, csum, if_neg (by omega), csum_st P hV g 13 (P.par p) (by omega) (by omega)]
def rE (P : Pl) (D : Int32) (p : Nat) : Int32 := P.E p + (if P.bt p 0 then -(D / 2) else 0) + shx P (dxx P D) p
def rN (P : Pl) (D : Int32) (p : Nat) : Int32 := P.N p + (if P.bt p 1 then -(D / 2) else 0) + shx P (dyy P D) p
def rW (P : Pl) (D : Int32) (p : Nat) : Int32 := P.W p + (if P.bt p 2 then D / 2 else 0) + shx P (dxx P D) p
def rS (P : Pl) (D : Int32) (p : Nat) : Int32 := P.S p + (if P.bt p 3 then D / 2 else 0) + shx P (dyy P D) p
def mn (g : Nat → Int32) : Nat → Int32
  | 0 => g 0
  | k + 1 => if g (k + 1) < mn g k then g (k + 1) else mn g k
