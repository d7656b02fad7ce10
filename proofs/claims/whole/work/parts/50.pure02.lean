def Pl.flip (P : Pl) : Pl := Pl.mk P.n P.par (fun p => if P.sd p = 0 then 2 else if P.sd p = 2 then 0 else P.sd p) (fun p => !P.up p) (fun p s => P.bt p (if s = 0 then 2 else if s = 2 then 0 else s)) (fun p => P.E 0 - P.E p) P.S (fun p => P.E 0 - P.W p) P.N
theorem flip_n (P : Pl) : P.flip.n = P.n := rfl
theorem flip_par (P : Pl) : P.flip.par = P.par := rfl
theorem flip_sd (P : Pl) (p : Nat) : P.flip.sd p = if P.sd p = 0 then 2 else if P.sd p = 2 then 0 else P.sd p := rfl
theorem flip_up (P : Pl) (p : Nat) : P.flip.up p = !P.up p := rfl
theorem flip_bt (P : Pl) (p s : Nat) : P.flip.bt p s = P.bt p (if s = 0 then 2 else if s = 2 then 0 else s) := rfl
theorem flip_W (P : Pl) (p : Nat) : P.flip.W p = P.E 0 - P.E p := rfl
theorem flip_E (P : Pl) (p : Nat) : P.flip.E p = P.E 0 - P.W p := rfl
theorem flip_S (P : Pl) : P.flip.S = P.S := rfl
theorem flip_N (P : Pl) : P.flip.N = P.N := rfl
theorem enc_flip (f : Nat → Bool) : (((enc f &&& (10 : Int32)) ||| (((enc f >>> ((2 : Int32) &&& (31 : Int32))) &&& (1 : Int32)) <<< ((0 : Int32) &&& (31 : Int32)))) ||| (((enc f >>> ((0 : Int32) &&& (31 : Int32))) &&& (1 : Int32)) <<< ((2 : Int32) &&& (31 : Int32)))) = enc (fun s => f (if s = 0 then 2 else if s = 2 then 0 else s)) := by
  unfold enc
  simp only [if_true, if_neg (by decide : ¬ (1 : Nat) = 0), if_neg (by decide : ¬ (1 : Nat) = 2), if_neg (by decide : ¬ (2 : Nat) = 0), if_neg (by decide : ¬ (3 : Nat) = 0), if_neg (by decide : ¬ (3 : Nat) = 2)]
  cases f 0 <;> cases f 1 <;> cases f 2 <;> cases f 3 <;> decide
theorem flip_s {s : Nat} (h : s < 4) : (if (s == 0 || s == 2) = false then Int32.ofNat s else Int32.ofNat ((s + 2) % 4)) = Int32.ofNat (if s = 0 then 2 else if s = 2 then 0 else s) := by
  match s, h with
  | 0, _ => decide
  | 1, _ => decide
  | 2, _ => decide
  | 3, _ => decide
theorem over_c (P : Pl) (hV : VP P) : ∀ (f k : Nat) (σ : am_M), P.n < k + f → k ≤ P.n → σ.1 2 0 = Int32.ofNat P.n → (∀ p < k, CE σ P.flip p) → (∀ p, k ≤ p → p < P.n → CE σ P p) →
    q_38_11 f σ (P.E 0) (Int32.ofNat k) ∧ CP (l_38_11 f σ (P.E 0) (Int32.ofNat k)) P.flip ∧ Fr [4, 5, 6, 8, 10] σ (l_38_11 f σ (P.E 0) (Int32.ofNat k)) := by
  intro f
  induction f with
  | zero => intro k σ h1 h2; omega
  | succ f ih =>
    intro k σ h1 h2 hn hA hB
    have h13 := hV.n13
    unfold q_38_11 l_38_11
    have hlt : (Int32.ofNat k < σ.1 2 0) = (k < P.n) := by rw [hn]; exact pi_lt (by omega) (by omega)
    by_cases hk : k < P.n
    · have hE := hB k (Nat.le_refl k) hk
      unfold CE at hE
      by_cases h0 : 0 < k
      · have hs := (hV.tr k hk h0).2
        simp (disch := omega) only [hlt, hk, if_true, pi_pos, pi_nn, pi_ng, pi_nle, false_or, not_false_eq_true, true_and, and_true, implies_true, not_true, false_implies, true_implies, pi_a1, hE, (hE.1 h0), v_70_i, v_68_i, enc_flip, bi_0, bi_n, vp_bi, flip_s]
        have := ih (k + 1) (am_put (am_put (am_put (am_put (am_put σ 8 k (P.E 0 - P.W k)) 10 k (P.E 0 - P.E k)) 6 k (enc (P.flip.bt k))) 4 k (Int32.ofNat (P.flip.sd k))) 5 k (bi (!P.up k))) (by omega) (by omega) (by simp only [am_rd]; simpa using hn) ?_ ?_
        · refine ⟨this.1, this.2.1, Fr.trans ?_ this.2.2⟩
          exact (((((Fr.refl _ _).put _ _ _ (by decide)).put _ _ _ (by decide)).put _ _ _ (by decide)).put _ _ _ (by decide)).put _ _ _ (by decide)
        · intro p hp
          by_cases hpk : p = k
          · subst hpk
            simp [CE, am_rd, h0, hE, flip_sd, flip_par, flip_up, flip_W, flip_E, flip_S, flip_N, hE.1 h0]
          · have := hA p (by omega)
            simpa [CE, am_rd, hpk] using this
        · intro p hp hp2
          have := hB p (by omega) hp2
          have hpk : p ≠ k := by omega
          simpa [CE, am_rd, hpk] using this
      · have hk0 : k = 0 := by omega
        subst hk0
        simp (disch := omega) only [hlt, hk, if_true, pi_npos, if_false, pi_nn, pi_ng, pi_nle, false_or, not_false_eq_true, true_and, and_true, implies_true, not_true, false_implies, true_implies, pi_a1, hE, enc_flip]
        have := ih (0 + 1) (am_put (am_put (am_put σ 8 0 (P.E 0 - P.W 0)) 10 0 (P.E 0 - P.E 0)) 6 0 (enc (P.flip.bt 0))) (by omega) (by omega) (by simp only [am_rd]; simpa using hn) ?_ ?_
        · refine ⟨this.1, this.2.1, Fr.trans ?_ this.2.2⟩
          exact (((Fr.refl _ _).put _ _ _ (by decide)).put _ _ _ (by decide)).put _ _ _ (by decide)
        · intro p hp
          have hpk : p = 0 := by omega
          subst hpk
          simp [CE, am_rd, hE, flip_W, flip_E, flip_S, flip_N]
        · intro p hp hp2
          have := hB p (by omega) hp2
          have hpk : p ≠ 0 := by omega
          simpa [CE, am_rd, hpk] using this
    · simp only [hlt, hk, if_false, false_implies, true_and]
      exact ⟨⟨hn, fun p hp => hA p (by have : P.flip.n = P.n := rfl; omega)⟩, Fr.refl _ _⟩
