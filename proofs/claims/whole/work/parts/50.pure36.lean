/-- what the reference's questions about a turn leave as it was -/
def Kr (τ τ' : am_M) : Prop := (∀ l, l ∉ [50, 62, 63, 64] → τ'.1 l = τ.1 l) ∧ ∀ j, j ∉ [19, 20, 21, 22] → τ'.1 50 j = τ.1 50 j
theorem Kr.refl (τ : am_M) : Kr τ τ := ⟨fun _ _ => rfl, fun _ _ => rfl⟩
theorem Kr.trans {τ τ' τ'' : am_M} (h : Kr τ τ') (h' : Kr τ' τ'') : Kr τ τ'' := ⟨fun l hl => (h'.1 l hl).trans (h.1 l hl), fun j hj => (h'.2 j hj).trans (h.2 j hj)⟩
theorem Kr.put {τ τ' : am_M} (h : Kr τ τ') (i : Nat) (v : Int32) (hi : i ∈ [19, 20, 21, 22]) : Kr τ (am_put τ' 50 i v) := by
  refine h.trans ⟨fun l hl => am_ne _ _ _ _ _ (fun e => hl (by rw [e]; decide)), fun j hj => ?_⟩
  rw [am_rd, if_neg (fun e => hj (by rw [e.2]; exact hi))]
theorem Kr.p64 {τ τ' : am_M} (h : Kr τ τ') (i : Nat) (v : Int32) : Kr τ (am_put τ' 64 i v) := by
  refine h.trans ⟨fun l hl => am_ne _ _ _ _ _ (fun e => hl (by rw [e]; decide)), fun j hj => ?_⟩
  rw [am_rd, if_neg (fun e => absurd e.1 (by decide))]
theorem Kr.pL {τ τ' : am_M} (h : Kr τ τ') (k i : Nat) (v : Int64) : Kr τ (am_putL τ' k i v) := h
theorem RP.kr {τ τ' : am_M} {P : Pl} (hR : RP τ P) (h : Kr τ τ') : RP τ' P := hR.ag (fun l hl => h.1 l (by revert hl; revert l; decide)) (h.2 1 (by decide))
theorem GC.kr {τ τ' : am_M} {P : Pl} {b : Int32} (hG : GC τ P b) (h : Kr τ τ') : GC τ' P b := by
  intro p hp i hi3
  rw [h.1 57 (by decide), h.1 58 (by decide), h.1 59 (by decide), h.1 56 (by decide), h.1 60 (by decide)]
  exact hG p hp i hi3
theorem nsub (x y : Int32) : -x - y = -(x + y) := by grind
theorem bf_ : bi false = 0 := rfl
theorem bt_ : bi true = 1 := rfl
theorem rch1 (P : Pl) (b : Int32) (k p : Nat) : (if true = true then gA P b p (vD P b k) else -(gA P b p (-(vD P b k)))) - gA P b (P.par k) (vD P b k) = rch P b k p 1 := by unfold rch; simp
theorem rch0 (P : Pl) (b : Int32) (k p : Nat) : (if true = true then gA P b p (uD P b k) else -(gA P b p (-(uD P b k)))) - gA P b (P.par k) (uD P b k) = rch P b k p 0 := by unfold rch; simp
theorem rch3 (P : Pl) (b : Int32) (k p : Nat) : (if false = true then gA P b p (vD P b k) else -(gA P b p (-(vD P b k)))) - gA P b (P.par k) (vD P b k) = -(rch P b k p 3) := by unfold rch; simp [nsub]
theorem rch2 (P : Pl) (b : Int32) (k p : Nat) : (if false = true then gA P b p (uD P b k) else -(gA P b p (-(uD P b k)))) - gA P b (P.par k) (uD P b k) = -(rch P b k p 2) := by unfold rch; simp [nsub]
theorem dirs {P : Pl} (hV : VP P) (b : Int32) {k : Nat} (hk : k < P.n) (h0 : 0 < k) (i : Nat) (hi3 : i < 3) : (isx P k = true → awy P k * shr (cX P b (P.par k)) i = shr (uD P b k) i) ∧ (isx P k = false → awy P k * shr (cY P b (P.par k)) i = shr (uD P b k) i) ∧ tow P k * shr (cZ P b (P.par k)) i = shr (vD P b k) i := by
  have hs := (hV.tr k hk h0).2
  have hx := shr_neg (cX P b (P.par k)) i hi3
  have hy := shr_neg (cY P b (P.par k)) i hi3
  have hz := shr_neg (cZ P b (P.par k)) i hi3
  unfold isx awy tow uD vD aw sg
  refine ⟨?_, ?_, ?_⟩
  · match P.sd k, hs with
    | 0, _ => intro _; simp
    | 1, _ => intro h; exact absurd h (by decide)
    | 2, _ => intro _; simp [hx, m1_]
    | 3, _ => intro h; exact absurd h (by decide)
  · match P.sd k, hs with
    | 0, _ => intro h; exact absurd h (by decide)
    | 1, _ => intro _; simp
    | 2, _ => intro h; exact absurd h (by decide)
    | 3, _ => intro _; simp [hy, m1_]
  · cases P.up k
    · simp [hz, m1_]
    · simp
def plc (P : Pl) (b : Int32) (k p : Nat) (τ : am_M) : am_M := am_put (am_put (am_put (am_put τ 50 19 (-(rch P b k p 2))) 50 20 (rch P b k p 0)) 50 21 (-(rch P b k p 3))) 50 22 (rch P b k p 1)
theorem w160_c {P : Pl} (hV : VP P) (b : Int32) (τ : am_M) (hR : RP τ P) (hG : GC τ P b) {k p : Nat} (hk : k < P.n) (h0 : 0 < k) (hp : p < P.n) (x4 x6 : Int32) : p_102_160 τ (Int32.ofNat k) (Int32.ofNat p) (Int32.ofNat (3 * P.par k)) x4 (tow P k) x6 ∧ w_102_160 τ (Int32.ofNat k) (Int32.ofNat p) (Int32.ofNat (3 * P.par k)) x4 (tow P k) x6 = am_put (am_put τ 50 21 (-(rch P b k p 3))) 50 22 (rch P b k p 1) := by
  have h13 := hV.n13
  obtain ⟨hq, hs⟩ := hV.tr k hk h0
  have gv := g1_vD hV b hk h0
  have hD : ∀ i < 3, tow P k * τ.1 59 (3 * P.par k + i) = shr (vD P b k) i := by
    intro i hi3
    rw [(hG (P.par k) (by omega) i hi3).2.2.1]
    exact (dirs hV b hk h0 i hi3).2.2
  obtain ⟨l1, l2⟩ := li59 hV b τ hR hG hk h0 gv (tow P k) hD (line_v hV b hk h0)
  obtain ⟨a1, a2⟩ := al59 hV b τ hG hp (show P.par k < 13 by omega) gv (tow P k) hD false (gA P b (P.par k) (vD P b k))
  have a1' : p_100a59 τ (Int32.ofNat p) (Int32.ofNat (3 * P.par k)) (tow P k) 0 (gA P b (P.par k) (vD P b k)) := by rw [bf_] at a1; exact a1
  have a2' : v_100a59 τ (Int32.ofNat p) (Int32.ofNat (3 * P.par k)) (tow P k) 0 (gA P b (P.par k) (vD P b k)) = -(rch P b k p 3) := by rw [bf_, rch3] at a2; exact a2
  have K : Kr τ (am_put τ 50 21 (-(rch P b k p 3))) := (Kr.refl _).put _ _ (by decide)
  obtain ⟨c1, c2⟩ := al59 hV b _ (hG.kr K) hp (show P.par k < 13 by omega) gv (tow P k) (by intro i hi3; rw [K.1 59 (by decide)]; exact hD i hi3) true (gA P b (P.par k) (vD P b k))
  have c1' : p_100a59 (am_put τ 50 21 (-(rch P b k p 3))) (Int32.ofNat p) (Int32.ofNat (3 * P.par k)) (tow P k) 1 (gA P b (P.par k) (vD P b k)) := by rw [bt_] at c1; exact c1
  have c2' : v_100a59 (am_put τ 50 21 (-(rch P b k p 3))) (Int32.ofNat p) (Int32.ofNat (3 * P.par k)) (tow P k) 1 (gA P b (P.par k) (vD P b k)) = rch P b k p 1 := by rw [bt_, rch1] at c2; exact c2
  unfold p_102_160 w_102_160
  rw [l2, a2', c2']
  exact ⟨⟨l1, a1', c1'⟩, rfl⟩
theorem w102_c {P : Pl} (hV : VP P) (b : Int32) (τ : am_M) (hR : RP τ P) (hG : GC τ P b) {k p : Nat} (hk : k < P.n) (h0 : 0 < k) (hp : p < P.n) : p_102 τ (Int32.ofNat k) (Int32.ofNat p) ∧ w_102 τ (Int32.ofNat k) (Int32.ofNat p) = plc P b k p τ := by
  have h13 := hV.n13
  obtain ⟨hq, hs⟩ := hV.tr k hk h0
  obtain ⟨e1, e2, e3⟩ := (hR.2 k hk).1 h0
  have gu := g1_uD hV b hk h0
  have i2 : (if Int32.ofNat (P.sd k) < 2 then (1 : Int32) else (-1)) = awy P k := by
    unfold awy
    match P.sd k, hs with
    | 0, _ => decide
    | 1, _ => decide
    | 2, _ => decide
    | 3, _ => decide
  have i3 : (if bi (P.up k) = 0 then ((-1) : Int32) else 1) = tow P k := by
    unfold tow
    cases P.up k <;> rfl
  have i1 : (Int32.ofNat (P.sd k) - Int32.ofNat (P.sd k) / 2 * 2 = 0) = (isx P k = true) := by
    unfold isx
    rw [mod2_i hs]
  have K : Kr τ (am_put τ 50 19 (-(rch P b k p 2))) := (Kr.refl _).put _ _ (by decide)
  have K2 : Kr τ (am_put (am_put τ 50 19 (-(rch P b k p 2))) 50 20 (rch P b k p 0)) := K.put _ _ (by decide)
  obtain ⟨w1, w2⟩ := w160_c hV b _ (hR.kr K2) (hG.kr K2) hk h0 hp (awy P k) (gA P b (P.par k) (uD P b k))
  unfold p_102 w_102
  simp (disch := omega) only [pi_nn, e1, e2, e3]
  simp only [i1, i2, i3, pi_3]
  by_cases hx : isx P k = true
  · have hD : ∀ i < 3, awy P k * τ.1 57 (3 * P.par k + i) = shr (uD P b k) i := by
      intro i hi3
      rw [(hG (P.par k) (by omega) i hi3).1]
      exact (dirs hV b hk h0 i hi3).1 hx
    obtain ⟨l1, l2⟩ := li57 hV b τ hR hG hk h0 gu (awy P k) hD (line_u hV b hk h0)
    obtain ⟨a1, a2⟩ := al57 hV b τ hG hp (show P.par k < 13 by omega) gu (awy P k) hD false (gA P b (P.par k) (uD P b k))
    have a1' : p_100a57 τ (Int32.ofNat p) (Int32.ofNat (3 * P.par k)) (awy P k) 0 (gA P b (P.par k) (uD P b k)) := by rw [bf_] at a1; exact a1
    have a2' : v_100a57 τ (Int32.ofNat p) (Int32.ofNat (3 * P.par k)) (awy P k) 0 (gA P b (P.par k) (uD P b k)) = -(rch P b k p 2) := by rw [bf_, rch2] at a2; exact a2
    obtain ⟨c1, c2⟩ := al57 hV b _ (hG.kr K) hp (show P.par k < 13 by omega) gu (awy P k) (by intro i hi3; rw [K.1 57 (by decide)]; exact hD i hi3) true (gA P b (P.par k) (uD P b k))
    have c1' : p_100a57 (am_put τ 50 19 (-(rch P b k p 2))) (Int32.ofNat p) (Int32.ofNat (3 * P.par k)) (awy P k) 1 (gA P b (P.par k) (uD P b k)) := by rw [bt_] at c1; exact c1
    have c2' : v_100a57 (am_put τ 50 19 (-(rch P b k p 2))) (Int32.ofNat p) (Int32.ofNat (3 * P.par k)) (awy P k) 1 (gA P b (P.par k) (uD P b k)) = rch P b k p 0 := by rw [bt_, rch0] at c2; exact c2
    simp (disch := omega) only [hx, if_true, true_implies, not_true_eq_false, false_implies, and_true, l1, l2, a1', a2', c1', c2', w1, w2, pi_ng, pi_nle, false_or, not_false_eq_true, true_and, and_self]
    rfl
  · have hx' : isx P k = false := by simpa using hx
    have hD : ∀ i < 3, awy P k * τ.1 58 (3 * P.par k + i) = shr (uD P b k) i := by
      intro i hi3
      rw [(hG (P.par k) (by omega) i hi3).2.1]
      exact (dirs hV b hk h0 i hi3).2.1 hx'
    obtain ⟨l1, l2⟩ := li58 hV b τ hR hG hk h0 gu (awy P k) hD (line_u hV b hk h0)
    obtain ⟨a1, a2⟩ := al58 hV b τ hG hp (show P.par k < 13 by omega) gu (awy P k) hD false (gA P b (P.par k) (uD P b k))
    have a1' : p_100a58 τ (Int32.ofNat p) (Int32.ofNat (3 * P.par k)) (awy P k) 0 (gA P b (P.par k) (uD P b k)) := by rw [bf_] at a1; exact a1
    have a2' : v_100a58 τ (Int32.ofNat p) (Int32.ofNat (3 * P.par k)) (awy P k) 0 (gA P b (P.par k) (uD P b k)) = -(rch P b k p 2) := by rw [bf_, rch2] at a2; exact a2
    obtain ⟨c1, c2⟩ := al58 hV b _ (hG.kr K) hp (show P.par k < 13 by omega) gu (awy P k) (by intro i hi3; rw [K.1 58 (by decide)]; exact hD i hi3) true (gA P b (P.par k) (uD P b k))
    have c1' : p_100a58 (am_put τ 50 19 (-(rch P b k p 2))) (Int32.ofNat p) (Int32.ofNat (3 * P.par k)) (awy P k) 1 (gA P b (P.par k) (uD P b k)) := by rw [bt_] at c1; exact c1
    have c2' : v_100a58 (am_put τ 50 19 (-(rch P b k p 2))) (Int32.ofNat p) (Int32.ofNat (3 * P.par k)) (awy P k) 1 (gA P b (P.par k) (uD P b k)) = rch P b k p 0 := by rw [bt_, rch0] at c2; exact c2
    simp (disch := omega) only [hx', Bool.false_eq_true, if_false, false_implies, not_false_eq_true, true_implies, l1, l2, a1', a2', c1', c2', w1, w2, pi_ng, pi_nle, false_or, true_and, and_self]
    rfl
/-- the eight bands, as they are written -/
def sq (x : Int64) : Int64 := x * x
def pos (x : Int32) : Int64 := if 0 < x then Int32.toInt64 x else (0 : Int32).toInt64
def neg_ (x : Int32) : Int64 := if x < 0 then Int32.toInt64 x else (0 : Int32).toInt64
def bnds (σ : am_M) (t : Nat) : am_M :=
  am_putL (am_putL (am_put (am_putL (am_putL (am_put (am_putL (am_putL (am_put (am_putL (am_putL (am_put σ
    64 t (vp_nar .boolean (if 0 < σ.1 50 20 then ((if σ.1 50 22 < 0 then (0 : Int32) else 1) : Int32) else 0)))
    62 t (sq (pos (σ.1 50 19)) + sq (pos (σ.1 50 21))))
    63 t (sq (Int32.toInt64 (σ.1 50 20)) + sq (Int32.toInt64 (σ.1 50 22))))
    64 (t + 1) (vp_nar .boolean (if 0 < σ.1 50 19 then (0 : Int32) else (if 0 < σ.1 50 22 then (1 : Int32) else 0))))
    62 (t + 1) (sq (neg_ (σ.1 50 20)) + sq (pos (σ.1 50 21))))
    63 (t + 1) (sq (Int32.toInt64 (σ.1 50 19)) + sq (Int32.toInt64 (σ.1 50 22))))
    64 (t + 2) (vp_nar .boolean (if σ.1 50 19 < 0 then ((if 0 < σ.1 50 21 then (0 : Int32) else 1) : Int32) else 0)))
    62 (t + 2) (sq (neg_ (σ.1 50 20)) + sq (neg_ (σ.1 50 22))))
    63 (t + 2) (sq (Int32.toInt64 (σ.1 50 19)) + sq (Int32.toInt64 (σ.1 50 21))))
    64 (t + 3) (vp_nar .boolean (if σ.1 50 20 < 0 then (0 : Int32) else (if σ.1 50 21 < 0 then (1 : Int32) else 0))))
    62 (t + 3) (sq (pos (σ.1 50 19)) + sq (neg_ (σ.1 50 22))))
    63 (t + 3) (sq (Int32.toInt64 (σ.1 50 20)) + sq (Int32.toInt64 (σ.1 50 21)))
theorem r64 (σ : am_M) (i j : Nat) (v : Int32) : (am_put σ 64 i v).1 50 j = σ.1 50 j := rfl
theorem rLL (σ : am_M) (k i : Nat) (v : Int64) : (am_putL σ k i v).1 = σ.1 := rfl
theorem w103_0 (τ : am_M) (x1 x2 : Int32) : w_103 τ x1 x2 0 = bnds (w_102 τ x1 x2) 0 := by
  unfold w_103
  generalize w_102 τ x1 x2 = σ
  unfold w_103_89 w_103_188 w_103_287 w_103_386 bnds v_99
  simp only [rLL, r64]
  rfl
theorem w103_4 (τ : am_M) (x1 x2 : Int32) : w_103 τ x1 x2 4 = bnds (w_102 τ x1 x2) 4 := by
  unfold w_103
  generalize w_102 τ x1 x2 = σ
  unfold w_103_89 w_103_188 w_103_287 w_103_386 bnds v_99
  simp only [rLL, r64]
  rfl
theorem p103_0 (τ : am_M) (x1 x2 : Int32) (h : p_102 τ x1 x2) : p_103 τ x1 x2 0 := by
  unfold p_103 p_103_89 p_103_188 p_103_287 p_103_386
  exact ⟨h, by decide, by decide, by decide, by decide, by decide, by decide, by decide, by decide, by decide, by decide, by decide, by decide⟩
theorem p103_4 (τ : am_M) (x1 x2 : Int32) (h : p_102 τ x1 x2) : p_103 τ x1 x2 4 := by
  unfold p_103 p_103_89 p_103_188 p_103_287 p_103_386
  exact ⟨h, by decide, by decide, by decide, by decide, by decide, by decide, by decide, by decide, by decide, by decide, by decide, by decide⟩
