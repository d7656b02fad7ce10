theorem pi_b {k : Nat} (h : k < 13) : 0 ≤ Int32.ofNat k ∧ Int32.ofNat k ≤ 12 := by
  have : ∀ k < 13, 0 ≤ Int32.ofNat k ∧ Int32.ofNat k ≤ 12 := by decide
  exact this k h
theorem pi_st {q p : Nat} (h : q < p) (hp : p < 13) : Int32.ofNat q + 1 ≤ Int32.ofNat p := by
  have : ∀ p < 13, ∀ q < p, Int32.ofNat q + 1 ≤ Int32.ofNat p := by decide
  exact this p hp q h
theorem sw_sw {s : Nat} : (if (if s = 0 then 2 else if s = 2 then 0 else s) = 0 then 2 else if (if s = 0 then 2 else if s = 2 then 0 else s) = 2 then 0 else (if s = 0 then 2 else if s = 2 then 0 else s)) = s := by grind
theorem VP.xb {P : Pl} (hV : VP P) {p : Nat} (hp : p < P.n) : -24000 ≤ P.W p ∧ P.W p < P.E p ∧ P.E p ≤ 26000 ∧ P.E p ≤ P.W p + 2000 := by
  have h1 := hV.x p hp
  have h2 := (hV.w (by omega)).2.1
  have hb := pi_b (show p < 13 by have := hV.n13; omega)
  generalize Int32.ofNat p = i at *
  generalize P.W p = a at *
  generalize P.E p = b at *
  generalize P.E 0 = c at *
  clear hV hp
  grind
theorem VP.yb {P : Pl} (hV : VP P) {p : Nat} (hp : p < P.n) : -24000 ≤ P.S p ∧ P.S p < P.N p ∧ P.N p ≤ 26000 ∧ P.N p ≤ P.S p + 2000 := by
  have h1 := hV.y p hp
  have h2 := (hV.w (by omega)).2.2.2.1
  have hb := pi_b (show p < 13 by have := hV.n13; omega)
  generalize Int32.ofNat p = i at *
  generalize P.S p = a at *
  generalize P.N p = b at *
  generalize P.N 0 = c at *
  clear hV hp
  grind
theorem sub_le {e a b : Int32} (h1 : 0 ≤ e) (h2 : e ≤ 2000) (ha : -30000 ≤ a) (ha' : a ≤ 30000) (hb : -30000 ≤ b) (hb' : b ≤ 30000) (h : b ≤ a) : e - a ≤ e - b := by grind
theorem flip_V (P : Pl) (h0 : 0 < P.n) (hV : VP P) : VP P.flip := by
  refine ⟨hV.n13, ?_, ?_, ?_, ?_, ?_, ?_⟩
  · intro p hp h0
    have := hV.tr p hp h0
    refine ⟨this.1, ?_⟩
    rw [flip_sd]
    grind
  · intro p hp s hs
    have := hV.bt p hp (if s = 0 then 2 else if s = 2 then 0 else s) (by grind)
    rw [flip_bt, this]
    have hE : ∀ k, (P.sd k = if s = 0 then 2 else if s = 2 then 0 else s) ↔ P.flip.sd k = s := by
      intro k
      rw [flip_sd]
      grind
    refine or_congr (and_congr_right fun h0 => ?_) ?_
    · have := (hV.tr p hp h0).2
      rw [flip_sd]
      grind
    · simp only [hE]
      rfl
  · intro _
    have := hV.w h0
    rw [flip_E, flip_W]
    refine ⟨?_, ?_, this.2.2.1, this.2.2.2.1, ?_, this.2.2.2.2.2⟩ <;> grind
  · intro p hp
    have := hV.x p hp
    have h0' := hV.w h0
    have hx0 := hV.x 0 h0
    have hb := pi_b (show p < 13 by have := hV.n13; have : P.flip.n = P.n := rfl; omega)
    simp only [flip_W, flip_E]
    refine ⟨?_, ?_, ?_, ?_⟩ <;> grind
  · intro p hp
    exact hV.y p hp
  · intro p hp h0
    have hj := hV.j p hp h0
    have ht := hV.tr p hp h0
    have hpn : P.par p < P.n := by have : P.flip.n = P.n := rfl; omega
    have hx := hV.x p hp
    have hxq := hV.x (P.par p) hpn
    have hw := hV.w (by have : P.flip.n = P.n := rfl; omega)
    have hb := pi_b (show p < 13 by have := hV.n13; have : P.flip.n = P.n := rfl; omega)
    have hbq := pi_b (show P.par p < 13 by have := hV.n13; have : P.flip.n = P.n := rfl; omega)
    simp only [flip_W, flip_E, flip_sd, flip_par, flip_S, flip_N]
    refine ⟨?_, ?_, ?_, ?_, ?_, ?_⟩
    · intro h; have : P.sd p = 2 := by grind
      grind
    · intro h; have : P.sd p = 1 := by grind
      exact hj.2.1 this
    · intro h; have : P.sd p = 0 := by grind
      grind
    · intro h; have : P.sd p = 3 := by grind
      exact hj.2.2.2.1 this
    · intro h; have : P.sd p = 0 ∨ P.sd p = 2 := by grind
      exact hj.2.2.2.2.1 this
    · intro h; have h1 : P.sd p = 1 ∨ P.sd p = 3 := by grind
      have := hj.2.2.2.2.2 h1
      have b1 := hV.xb hp
      have b2 := hV.xb hpn
      have e1 : (0 : Int32) ≤ P.E 0 := by have := hw.1; clear hx hxq hb hbq b1 b2; grind
      exact ⟨sub_le e1 hw.2.1 (by clear hx hxq hb hbq b1; grind) (by clear hx hxq hb hbq b1; grind) (by clear hx hxq hb hbq b2; grind) (by clear hx hxq hb hbq b2; grind) this.2, sub_le e1 hw.2.1 (by clear hx hxq hb hbq b2; grind) (by clear hx hxq hb hbq b2; grind) (by clear hx hxq hb hbq b1; grind) (by clear hx hxq hb hbq b1; grind) this.1⟩
