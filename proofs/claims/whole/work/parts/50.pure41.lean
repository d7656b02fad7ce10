/-! the table of orders: the reference -/
def Kq (τ τ' : am_M) : Prop := (∀ l, l ∉ [50, 56, 57, 58, 59, 60, 61, 62, 63, 64] → τ'.1 l = τ.1 l) ∧ ∀ j, j ∉ [17, 19, 20, 21, 22] → τ'.1 50 j = τ.1 50 j
theorem Kq.refl (τ : am_M) : Kq τ τ := ⟨fun _ _ => rfl, fun _ _ => rfl⟩
theorem Kq.trans {τ τ' τ'' : am_M} (h : Kq τ τ') (h' : Kq τ' τ'') : Kq τ τ'' := ⟨fun l hl => (h'.1 l hl).trans (h.1 l hl), fun j hj => (h'.2 j hj).trans (h.2 j hj)⟩
theorem Kr.kq {τ τ' : am_M} (h : Kr τ τ') : Kq τ τ' := ⟨fun l hl => h.1 l (fun h2 => hl ((show ∀ x ∈ [50, 62, 63, 64], x ∈ [50, 56, 57, 58, 59, 60, 61, 62, 63, 64] by decide) l h2)), fun j hj => h.2 j (fun h2 => hj ((show ∀ x ∈ [19, 20, 21, 22], x ∈ [17, 19, 20, 21, 22] by decide) j h2))⟩
theorem Kq.fr {τ τ' : am_M} (h : Fr [56, 57, 58, 59, 60] τ τ') : Kq τ τ' := ⟨fun l hl => h.1 l (fun h2 => hl ((show ∀ x ∈ [56, 57, 58, 59, 60], x ∈ [50, 56, 57, 58, 59, 60, 61, 62, 63, 64] by decide) l h2)), fun j _ => by rw [h.1 50 (by decide)]⟩
theorem Kq.p61 (τ : am_M) (m : Nat) (v w : Int32) : Kq τ (am_put (am_put τ 61 m v) 50 17 w) := by
  refine ⟨fun l hl => ?_, fun j hj => ?_⟩
  · rw [am_ne _ _ _ _ _ (fun e => hl (by rw [e]; decide)), am_ne _ _ _ _ _ (fun e => hl (by rw [e]; decide))]
  · rw [am_rd, if_neg (fun e => hj (by rw [e.2]; decide)), am_rd, if_neg (fun e => absurd e.1 (by decide))]
theorem RP.kq {τ τ' : am_M} {P : Pl} (hR : RP τ P) (h : Kq τ τ') : RP τ' P := hR.ag (fun l hl => h.1 l (by revert hl; revert l; decide)) (h.2 1 (by decide))
/-- once it goes on, the bends are left -/
theorem l114_1 (k29 : am_M → Int32 → Int32 → am_M) (c29 : am_M → Int32 → Int32 → Prop) (f : Nat) (τ : am_M) (x1 x4 : Int32) {m : Nat} (hm : m < 4096) : l_114_56 k29 (f + 1) τ x1 (Int32.ofNat (2 * m)) 1 x4 = k29 (am_put (am_put τ 61 m 1) 50 17 (τ.1 50 17 + 1)) x1 (xb m) ∧ (c29 (am_put (am_put τ 61 m 1) 50 17 (τ.1 50 17 + 1)) x1 (xb m) → q_114_56 c29 (f + 1) τ x1 (Int32.ofNat (2 * m)) 1 x4) := by
  rw [l_114_56, q_114_56]
  have e3 := (sh1 hm).2
  have e4 := nn4 (show m < 100000 by omega)
  have e5 := in4 hm
  rw [nn4 (by omega)] at e5
  have ex : Int32.ofNat (2 * m) + (-2) = xb m := rfl
  simp only [i10, if_false, vp_b1, e3, e4, ex, eq_true e5, true_and, ite_self, false_implies, not_false_eq_true, true_implies]
  exact fun h => ⟨fun _ => h, fun _ => h⟩
theorem l114_in {P : Pl} (hV : VP P) (g x1 : Int32) (nb : Nat → Int32) {m : Nat} (hm : m < 2 ^ (P.n - 1)) (hn : 0 < P.n) (k29 : am_M → Int32 → Int32 → am_M) (c29 : am_M → Int32 → Int32 → Prop) : ∀ (f k : Nat) (τ : am_M), P.n < k + f → k ≤ P.n → 0 < k → RP τ P → GC τ P (Int32.ofNat (2 * m)) → τ.1 50 3 = g → (∀ c, m < c → c < 2 ^ (P.n - 1) → τ.1 61 c = bi (!decide (nb c = -1))) →
    ∃ (τ' : am_M) (G : Bool), Kr τ τ' ∧ l_114_56 k29 f τ x1 (Int32.ofNat (2 * m)) 0 (Int32.ofNat k) = k29 (am_put (am_put τ' 61 m (bi G)) 50 17 (τ'.1 50 17 + bi G)) x1 (xb m) ∧ (c29 (am_put (am_put τ' 61 m (bi G)) 50 17 (τ'.1 50 17 + bi G)) x1 (xb m) → q_114_56 c29 f τ x1 (Int32.ofNat (2 * m)) 0 (Int32.ofNat k)) ∧ (G = true ↔ ∃ k', k ≤ k' ∧ cand nb P g m k') := by
  intro f
  induction f with
  | zero => intro k τ h1 h2; omega
  | succ f ih =>
    intro k τ h1 h2 h0 hR hG hg h61
    have h13 := hV.n13
    have hp := pw h13 hn
    have hlt : (Int32.ofNat k < τ.1 50 1) = (k < P.n) := by rw [hR.1]; exact pi_lt (by omega) (by omega)
    by_cases hk : k < P.n
    · obtain ⟨j, rfl⟩ : ∃ j, k = j + 1 := ⟨k - 1, by omega⟩
      have hor : (m ||| 2 ^ j) < 2 ^ (P.n - 1) := or_lt hm (by omega)
      have e1 := setbit (m := m) (show j < 12 by omega)
      have e3 := (sh1 (show (m ||| 2 ^ j) < 4096 by omega)).2
      have e4 := nn4 (show (m ||| 2 ^ j) < 100000 by omega)
      have e5 := in4 (show (m ||| 2 ^ j) < 4096 by omega)
      rw [nn4 (by omega)] at e5
      have e6 := isF_0 (Int32.ofNat (2 * m)) (show j + 1 < 13 by omega)
      rw [isF2 m (by omega)] at e6
      have ci := cand_i hV τ hR nb g m j
      rw [l_114_56, q_114_56]
      simp only [hlt, hk, if_true, true_implies, e1, e3, e4, e6, eq_true e5, true_and, pi_a1, not_true_eq_false, false_implies, and_true]
      have go : ∀ τ1 : am_M, Kr τ τ1 → ¬ cand nb P g m (j + 1) → ∃ (τ' : am_M) (G : Bool), Kr τ τ' ∧ l_114_56 k29 f τ1 x1 (Int32.ofNat (2 * m)) 0 (Int32.ofNat (j + 1 + 1)) = k29 (am_put (am_put τ' 61 m (bi G)) 50 17 (τ'.1 50 17 + bi G)) x1 (xb m) ∧ (c29 (am_put (am_put τ' 61 m (bi G)) 50 17 (τ'.1 50 17 + bi G)) x1 (xb m) → q_114_56 c29 f τ1 x1 (Int32.ofNat (2 * m)) 0 (Int32.ofNat (j + 1 + 1))) ∧ (G = true ↔ ∃ k', j + 1 ≤ k' ∧ cand nb P g m k') := by
        intro τ1 hK hnc
        obtain ⟨τ', G, i1, i2, i3, i4⟩ := ih (j + 1 + 1) τ1 (by omega) (by omega) (by omega) (hR.kr hK) (hG.kr hK) (by rw [hK.2 3 (by decide)]; exact hg) (by intro c h1 h2; rw [hK.1 61 (by decide)]; exact h61 c h1 h2)
        refine ⟨τ', G, hK.trans i1, i2, i3, i4.trans ⟨?_, ?_⟩⟩
        · rintro ⟨k', h1, h2⟩; exact ⟨k', by omega, h2⟩
        · rintro ⟨k', h1, h2⟩
          by_cases hkk : k' = j + 1
          · rw [hkk] at h2; exact absurd h2 hnc
          · exact ⟨k', by omega, h2⟩
      by_cases c1 : m.testBit j = false
      · have h61' := h61 (m ||| 2 ^ j) (or_gt c1) hor
        simp only [c1, if_true, true_implies, not_true_eq_false, false_implies, and_true, h61', bi_0]
        by_cases c2 : nb (m ||| 2 ^ j) = -1
        · have c2' : (!decide (nb (m ||| 2 ^ j) = -1)) = false := by simp [c2]
          simp only [c2', if_true, true_implies, not_true_eq_false, false_implies, and_true]
          exact go τ (Kr.refl _) (fun h => (ci.1 h).2.2.1 c2)
        · have c2' : (!decide (nb (m ||| 2 ^ j) = -1)) = true := by simp [c2]
          simp only [c2', Bool.true_eq_false, if_false, false_implies, not_false_eq_true, true_implies, true_and]
          obtain ⟨b1, b2, b3⟩ := v109_c hV (Int32.ofNat (2 * m)) τ hR hG hk (by omega)
          obtain ⟨d1, d2⟩ := v112_c P hV (Int32.ofNat (2 * m)) _ (hR.kr b2) (hG.kr b2) hk (by omega)
          rw [b2.2 3 (by decide), hg] at d2
          simp only [b1, d1, d2, implies_true, true_and]
          rcases b3 with ⟨b4, b5⟩ | ⟨b4, b5⟩
          · by_cases c3 : edg P (Int32.ofNat (2 * m)) g (j + 1) = -1
            · simp only [b4, i10, if_false, c3, if_true]
              exact go _ b2 (fun h => (ci.1 h).2.2.2.2 c3)
            · simp only [b4, i10, if_false, c3]
              obtain ⟨f', rfl⟩ : ∃ f', f = f' + 1 := ⟨f - 1, by omega⟩
              obtain ⟨z1, z2⟩ := l114_1 k29 c29 f' (w_109 τ (Int32.ofNat (j + 1))) x1 (Int32.ofNat (j + 1 + 1)) (show m < 4096 by omega)
              refine ⟨w_109 τ (Int32.ofNat (j + 1)), true, b2, z1, z2, ?_⟩
              exact ⟨fun _ => ⟨j + 1, Nat.le_refl _, ci.2 ⟨hk, c1, c2, b5, c3⟩⟩, fun _ => rfl⟩
          · simp only [b4, if_true]
            exact go _ b2 (fun h => b5 (ci.1 h).2.2.2.1)
      · have c1' : m.testBit j = true := by simpa using c1
        simp only [c1', Bool.true_eq_false, if_false, false_implies, not_false_eq_true, true_implies, true_and]
        exact go τ (Kr.refl _) (fun h => by
          have := (ci.1 h).2.1
          rw [c1'] at this; cases this)
    · have e3 := (sh1 (show m < 4096 by omega)).2
      have e4 := nn4 (show m < 100000 by omega)
      have e5 := in4 (show m < 4096 by omega)
      rw [nn4 (by omega)] at e5
      have ex : Int32.ofNat (2 * m) + (-2) = xb m := rfl
      rw [l_114_56, q_114_56]
      simp only [hlt, hk, if_false, false_implies, true_and, not_false_eq_true, true_implies, e3, e4, eq_true e5, ex, vp_b0, if_true]
      refine ⟨τ, false, Kr.refl _, rfl, fun h => h, ⟨fun h => (by cases h), ?_⟩⟩
      rintro ⟨k', h1, h2⟩
      have := h2.2.1
      omega
theorem l114_out {P : Pl} (hV : VP P) (g : Int32) (nb : Nat → Int32) (hn : 0 < P.n) (hT : Tab nb P g 0) : ∀ (f c : Nat) (τ : am_M), c < f → c ≤ 2 ^ (P.n - 1) → RP τ P → τ.1 50 3 = g → (∀ b, c ≤ b → b < 2 ^ (P.n - 1) → τ.1 61 b = bi (!decide (nb b = -1))) → τ.1 50 17 + Int32.ofNat (cnt nb c) = Int32.ofNat (cnt nb (2 ^ (P.n - 1))) →
    q_114_29 f τ (Int32.ofNat (2 * (2 ^ (P.n - 1) - 1))) (xb c) ∧ ∃ τ', l_114_29 f τ (Int32.ofNat (2 * (2 ^ (P.n - 1) - 1))) (xb c) = τ' ∧ Kq τ τ' ∧ (∀ b < 2 ^ (P.n - 1), τ'.1 61 b = bi (!decide (nb b = -1))) ∧ τ'.1 50 17 = Int32.ofNat (cnt nb (2 ^ (P.n - 1))) := by
  intro f
  induction f with
  | zero => intro c τ h1; omega
  | succ f ih =>
    intro c τ h1 h2 hR hg h61 hw
    have h13 := hV.n13
    have hp := pw h13 hn
    have hM : 0 < 2 ^ (P.n - 1) := Nat.two_pow_pos _
    rw [q_114_29, l_114_29]
    match c with
    | 0 =>
      simp only [xb_0, not_true_eq_false, false_implies, if_true, true_and]
      refine ⟨τ, rfl, Kq.refl _, fun b hb => h61 b (Nat.zero_le b) hb, ?_⟩
      rw [← hw]; unfold cnt; rw [l_0, Int32.add_zero]
    | m + 1 =>
      have hx := xb_n (show m < 5000 by omega)
      simp only [hx, not_false_eq_true, true_implies, if_false]
      rw [xb_s]
      -- one more place is known
      have fin : ∀ (τ' : am_M) (G : Bool), Kq τ τ' → (∀ b, m + 1 ≤ b → b < 2 ^ (P.n - 1) → τ'.1 61 b = τ.1 61 b) → τ'.1 50 17 = τ.1 50 17 → (G = !decide (nb m = -1)) →
          q_114_29 f (am_put (am_put τ' 61 m (bi G)) 50 17 (τ'.1 50 17 + bi G)) (Int32.ofNat (2 * (2 ^ (P.n - 1) - 1))) (xb m) ∧ ∃ τ'', l_114_29 f (am_put (am_put τ' 61 m (bi G)) 50 17 (τ'.1 50 17 + bi G)) (Int32.ofNat (2 * (2 ^ (P.n - 1) - 1))) (xb m) = τ'' ∧ Kq τ τ'' ∧ (∀ b < 2 ^ (P.n - 1), τ''.1 61 b = bi (!decide (nb b = -1))) ∧ τ''.1 50 17 = Int32.ofNat (cnt nb (2 ^ (P.n - 1))) := by
        intro τ' G hK ha hb hGe
        have K2 : Kq τ (am_put (am_put τ' 61 m (bi G)) 50 17 (τ'.1 50 17 + bi G)) := hK.trans (Kq.p61 _ _ _ _)
        obtain ⟨i1, τ'', i2, i3, i4⟩ := ih m _ (by omega) (by omega) (hR.kq K2) (by rw [K2.2 3 (by decide)]; exact hg) (by
          intro b hb1 hb2
          rw [am_ne _ _ _ _ _ (by decide), am_rd]
          by_cases hbm : b = m
          · rw [if_pos ⟨rfl, hbm⟩, hbm, hGe]
          · rw [if_neg (fun h => hbm h.2), ha b (by omega) hb2, h61 b (by omega) hb2]) (by
          rw [am_rd, if_pos ⟨rfl, rfl⟩, hb, ← hw, cnt, Int32.ofNat_add, hGe]
          by_cases c : nb m = -1
          · simp only [c, decide_true, Bool.not_true, bf_, if_true, l_0, Int32.add_zero]
          · simp only [c, decide_false, Bool.not_false, bt_, if_false, l_1]
            generalize Int32.ofNat (cnt nb m) = y
            grind)
        exact ⟨i1, τ'', i2, K2.trans i3, i4⟩
      by_cases hmM : m = 2 ^ (P.n - 1) - 1
      · have ee : (if Int32.ofNat (2 * m) = Int32.ofNat (2 * (2 ^ (P.n - 1) - 1)) then (1 : Int32) else 0) = 1 := by rw [hmM, if_pos rfl]
        rw [ee]
        simp only [i10, if_false, false_implies, true_and, not_false_eq_true, true_implies]
        obtain ⟨z1, z2⟩ := l114_1 (l_114_29 f) (q_114_29 f) 13 τ (Int32.ofNat (2 * (2 ^ (P.n - 1) - 1))) 1 (show m < 4096 by omega)
        obtain ⟨f1, f2⟩ := fin τ true (Kq.refl _) (fun _ _ _ => rfl) rfl (by rw [hmM, hT.1]; rfl)
        rw [bt_] at f1 f2
        rw [z1]
        exact ⟨z2 f1, f2⟩
      · have ee : (if Int32.ofNat (2 * m) = Int32.ofNat (2 * (2 ^ (P.n - 1) - 1)) then (1 : Int32) else 0) = 0 := by
          rw [if_neg]
          rw [inj4 (by omega) (by omega)]
          omega
        rw [ee]
        simp only [if_true, true_implies, not_true_eq_false, false_implies, and_true]
        obtain ⟨a1, a2, a3⟩ := rfold_c P hV (Int32.ofNat (2 * m)) τ hR
        obtain ⟨τ', G, k1, k2, k3, k4⟩ := l114_in hV g (Int32.ofNat (2 * (2 ^ (P.n - 1) - 1))) nb (show m < 2 ^ (P.n - 1) by omega) hn (l_114_29 f) (q_114_29 f) 14 1 (w_90 τ (Int32.ofNat (2 * m))) (by omega) (by omega) (by omega) (hR.fr a3 (by decide)) a2 (by rw [a3.1 50 (by decide)]; exact hg) (by
          intro c h1 h2
          rw [a3.1 61 (by decide)]; exact h61 c (by omega) h2)
        rw [l_1] at k2 k3
        have hGe : G = !decide (nb m = -1) := by
          rcases hT.2 m (Nat.zero_le m) (by omega) with ⟨z1, z2⟩ | ⟨k, z1, z2, z3⟩
          · have : ¬ G = true := fun h => by
              obtain ⟨k', -, hc⟩ := k4.1 h
              exact z2 k' hc
            simp [z1, this]
          · have : G = true := k4.2 ⟨k, z2.1, z2⟩
            have hk := z2.2.1
            rw [this, z1]
            simp (disch := omega) only [pi_m1, decide_false, Bool.not_false]
        obtain ⟨f1, f2⟩ := fin τ' G ((Kq.fr a3).trans k1.kq) (fun b _ _ => by rw [k1.1 61 (by decide), a3.1 61 (by decide)]) (by rw [k1.2 17 (by decide), a3.1 50 (by decide)]) hGe
        rw [k2]
        exact ⟨⟨a1, k3 f1⟩, f2⟩
theorem w114_c {P : Pl} (hV : VP P) (g : Int32) (nb : Nat → Int32) (hn : 0 < P.n) (hT : Tab nb P g 0) (τ : am_M) (hR : RP τ P) (hg : τ.1 50 3 = g) (hz : τ.1 50 16 = 0) : p_114 τ ∧ Kq (am_put τ 50 16 1) (w_114 τ) ∧ (∀ b < 2 ^ (P.n - 1), (w_114 τ).1 61 b = bi (!decide (nb b = -1))) ∧ (w_114 τ).1 50 17 = Int32.ofNat (cnt nb (2 ^ (P.n - 1))) := by
  have h13 := hV.n13
  have hp := pw h13 hn
  have hM : 0 < 2 ^ (P.n - 1) := Nat.two_pow_pos _
  unfold p_114 w_114 f_114
  rw [hR.1, all_i hn h13, hz]
  simp only [if_true, true_implies]
  have K : Kq (am_put τ 50 16 1) (am_put (am_put τ 50 16 1) 50 17 0) := by
    refine ⟨fun l hl => am_ne _ _ _ _ _ (fun e => hl (by rw [e]; decide)), fun j hj => ?_⟩
    rw [am_rd, if_neg (fun e => hj (by rw [e.2]; decide))]
  have hR1 : RP (am_put (am_put τ 50 16 1) 50 17 0) P := (hR.put _ _ _ (by decide) (by decide)).put _ _ _ (by decide) (by decide)
  obtain ⟨i1, τ', i2, i3, i4, i5⟩ := l114_out hV g nb hn hT 4097 (2 ^ (P.n - 1)) _ (by omega) (Nat.le_refl _) hR1 (by simp only [am_rd]; simpa using hg) (by intro b h1 h2; omega) (by rw [am_rd, if_pos ⟨rfl, rfl⟩, Int32.zero_add])
  have ey : xb (2 ^ (P.n - 1)) = Int32.ofNat (2 * (2 ^ (P.n - 1) - 1)) := by
    have : 2 ^ (P.n - 1) = (2 ^ (P.n - 1) - 1) + 1 := by omega
    rw [this, xb_s, ← this]
  rw [ey] at i1 i2
  rw [i2]
  exact ⟨i1, K.trans i3, i4, i5⟩
