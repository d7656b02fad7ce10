/-! the codes of a panel: three axes, each with a sign -/
def ax (c : Int32) : Nat := if c = 1 ∨ c = -1 then 0 else if c = 2 ∨ c = -2 then 1 else 2
def g1 (c : Int32) : Prop := c = 1 ∨ c = -1 ∨ c = 2 ∨ c = -2 ∨ c = 3 ∨ c = -3
def frm (x y z : Int32) : Prop := g1 x ∧ g1 y ∧ g1 z ∧ ax x ≠ ax y ∧ ax x ≠ ax z ∧ ax y ≠ ax z
theorem g1_neg {c : Int32} (h : g1 c) : g1 (-c) := by
  unfold g1 at *
  rcases h with rfl | rfl | rfl | rfl | rfl | rfl <;> decide
theorem ax_neg {c : Int32} (h : g1 c) : ax (-c) = ax c := by
  unfold g1 at *
  rcases h with rfl | rfl | rfl | rfl | rfl | rfl <;> decide
theorem g1_sg {c : Int32} (h : g1 c) (u : Bool) : g1 (sg u c) := by cases u; exact g1_neg h; exact h
theorem ax_sg {c : Int32} (h : g1 c) (u : Bool) : ax (sg u c) = ax c := by cases u; exact ax_neg h; rfl
theorem ax_3 {c : Int32} (h : g1 c) : ax c < 3 := by
  unfold g1 at *
  rcases h with rfl | rfl | rfl | rfl | rfl | rfl <;> decide
theorem g1_sgn {c : Int32} (h : g1 c) (u : Bool) : g1 (if u then -c else c) ∧ ax (if u then -c else c) = ax c := by
  cases u
  · exact ⟨h, rfl⟩
  · exact ⟨g1_neg h, ax_neg h⟩
theorem frm_c {P : Pl} (hV : VP P) (b : Int32) : ∀ (p : Nat), p < P.n → frm (cX P b p) (cY P b p) (cZ P b p) := by
  intro p
  induction p using Nat.strongRecOn with
  | ind p ih =>
    intro hp
    by_cases h0 : 0 < p
    · obtain ⟨hq, hs⟩ := hV.tr p hp h0
      have i := ih (P.par p) hq (by omega)
      rw [cX_1 hV b hp h0, cY_1 hV b hp h0, cZ_1 hV b hp h0]
      generalize cX P b (P.par p) = x at *
      generalize cY P b (P.par p) = y at *
      generalize cZ P b (P.par p) = z at *
      obtain ⟨a1, a2, a3, a4, a5, a6⟩ := i
      have z1 := g1_sg a3 (P.up p)
      have z2 := ax_sg a3 (P.up p)
      have z3 := g1_neg z1
      have z4 := ax_neg z1
      have x1 := g1_sgn a1 (P.up p)
      have y1 := g1_sgn a2 (P.up p)
      have x2 := g1_sgn (g1_neg a1) (P.up p)
      have y2 := g1_sgn (g1_neg a2) (P.up p)
      have x3 := ax_neg a1
      have y3 := ax_neg a2
      unfold nX nY nZ aw
      cases isF b p
      · exact ⟨a1, a2, a3, a4, a5, a6⟩
      · match P.sd p, hs with
        | 0, _ =>
          simp only [if_true, if_false, Nat.reduceEqDiff]
          refine ⟨z1, a2, x1.1, ?_, ?_, ?_⟩ <;> omega
        | 1, _ =>
          simp only [if_true, if_false, Nat.reduceEqDiff]
          refine ⟨a1, z1, y1.1, ?_, ?_, ?_⟩ <;> omega
        | 2, _ =>
          simp only [if_true, if_false, Nat.reduceEqDiff]
          refine ⟨z3, a2, x2.1, ?_, ?_, ?_⟩ <;> omega
        | 3, _ =>
          simp only [if_true, if_false, Nat.reduceEqDiff]
          refine ⟨a1, z3, y2.1, ?_, ?_, ?_⟩ <;> omega
    · have : p = 0 := by omega
      subst this
      unfold frm g1
      rw [cX_0, cY_0, cZ_0]
      decide
theorem v7_i (σ : am_M) {c : Int32} (h : g1 c) : v_7 σ c = Int32.ofNat (ax c) := by
  unfold g1 at h
  rcases h with rfl | rfl | rfl | rfl | rfl | rfl <;> rfl
theorem shr_ax {c : Int32} (h : g1 c) : (shr c 0 = 0 ↔ ax c ≠ 0) ∧ (shr c 1 = 0 ↔ ax c ≠ 1) ∧ (shr c 2 = 0 ↔ ax c ≠ 2) := by
  unfold g1 at h
  rcases h with rfl | rfl | rfl | rfl | rfl | rfl <;> decide
theorem axi {c : Int32} (h : g1 c) : (if shr c 0 = 0 then ((if shr c 1 = 0 then (2 : Int32) else 1) : Int32) else 0) = Int32.ofNat (ax c) := by
  unfold g1 at h
  rcases h with rfl | rfl | rfl | rfl | rfl | rfl <;> decide
def axs (P : Pl) (b : Int32) (p s : Nat) : Nat := if s = 0 ∨ s = 2 then ax (cY P b p) else ax (cX P b p)
theorem v9_c (P : Pl) (hV : VP P) (b : Int32) (σ : am_M) (hF : FC σ P b) {p s : Nat} (hp : p < P.n) (hs : s < 4) : p_9 σ (Int32.ofNat p) (Int32.ofNat s) ∧ v_9 σ (Int32.ofNat p) (Int32.ofNat s) = Int32.ofNat (axs P b p s) := by
  have h13 := hV.n13
  obtain ⟨f1, f2, f3, -, -⟩ := hF p hp
  obtain ⟨r1, r2, r3, -⟩ := frm_c hV b p hp
  unfold p_9 v_9 axs
  simp (disch := omega) only [if_true, if_false, pi_pos, pi_npos, pi_nn, pi_ng, pi_nle, pi_lt, false_or, or_false, not_false_eq_true, true_and, and_true, false_and, and_false, implies_true, not_true, not_true_eq_false, false_implies, true_implies, pi_a1, pi_a2, pi_a3, pi_ab, pi_4, pi_3, pi_6, v_70_i, v_68_i, v_69_i, mod2_i, bi_0, bi_n, vp_bi, enc_flip, flip_s, f1, f2]
  match s, hs with
  | 0, _ => simp [v7_i _ r2]
  | 1, _ => simp [v7_i _ r1]
  | 2, _ => simp [v7_i _ r2]
  | 3, _ => simp [v7_i _ r1]
theorem v105_c (P : Pl) (hV : VP P) (b : Int32) (τ : am_M) (hG : GC τ P b) {p : Nat} (hp : p < P.n) : (p_105a57 τ (Int32.ofNat (3 * p)) ∧ v_105a57 τ (Int32.ofNat (3 * p)) = Int32.ofNat (ax (cX P b p))) ∧ (p_105a58 τ (Int32.ofNat (3 * p)) ∧ v_105a58 τ (Int32.ofNat (3 * p)) = Int32.ofNat (ax (cY P b p))) := by
  have h13 := hV.n13
  have g0 := hG p hp 0 (by decide)
  have g1' := hG p hp 1 (by decide)
  obtain ⟨r1, r2, r3, -⟩ := frm_c hV b p hp
  have e57 : τ.1 57 (3 * p) = shr (cX P b p) 0 := g0.1
  have e58 : τ.1 58 (3 * p) = shr (cY P b p) 0 := g0.2.1
  unfold p_105a57 v_105a57 p_105a58 v_105a58
  simp (disch := omega) only [if_true, if_false, pi_pos, pi_npos, pi_nn, pi_ng, pi_nle, pi_lt, false_or, or_false, not_false_eq_true, true_and, and_true, false_and, and_false, implies_true, not_true, not_true_eq_false, false_implies, true_implies, pi_a1, pi_a2, pi_a3, pi_ab, pi_4, pi_3, pi_6, v_70_i, v_68_i, v_69_i, mod2_i, bi_0, bi_n, vp_bi, enc_flip, flip_s, e57, e58, g1'.1, g1'.2.1, axi r1, axi r2, and_self]
theorem v106_c (P : Pl) (hV : VP P) (b : Int32) (τ : am_M) (hR : RP τ P) (hG : GC τ P b) {k : Nat} (hk : k < P.n) (h0 : 0 < k) : p_106 τ (Int32.ofNat k) ∧ v_106 τ (Int32.ofNat k) = Int32.ofNat (axs P b (P.par k) (P.sd k)) := by
  have h13 := hV.n13
  obtain ⟨hq, hs⟩ := hV.tr k hk h0
  obtain ⟨e1, e2, e3⟩ := (hR.2 k hk).1 h0
  obtain ⟨⟨a1, a2⟩, a3, a4⟩ := v105_c P hV b τ hG (show P.par k < P.n by omega)
  unfold p_106 v_106 axs
  simp (disch := omega) only [if_true, if_false, pi_pos, pi_npos, pi_nn, pi_ng, pi_nle, pi_lt, false_or, or_false, not_false_eq_true, true_and, and_true, false_and, and_false, implies_true, not_true, not_true_eq_false, false_implies, true_implies, pi_a1, pi_a2, pi_a3, pi_ab, pi_4, pi_3, pi_6, v_70_i, v_68_i, v_69_i, mod2_i, bi_0, bi_n, vp_bi, enc_flip, flip_s, e1, e2, a1, a2, a3, a4, and_self]
  match P.sd k, hs with
  | 0, _ => rfl
  | 1, _ => rfl
  | 2, _ => rfl
  | 3, _ => rfl
/-- the gauge's edge -/
def egS (P : Pl) (b g : Int32) (a p : Nat) (K : Int32) : Nat → Nat → Int32
  | 0, _ => 0
  | f + 1, s => if s < 4 then (if P.bt p s = false ∧ ¬ plen P p s < g ∧ axs P b p s = a then Int32.ofNat (4 * p + s) else egS P b g a p K f (s + 1)) else K
def egP (P : Pl) (b g : Int32) (a : Nat) : Nat → Nat → Int32
  | 0, _ => 0
  | f + 1, p => if p < P.n then egS P b g a p (egP P b g a f (p + 1)) 14 0 else -1
def edg (P : Pl) (b g : Int32) (k : Nat) : Int32 := egP P b g (axs P b (P.par k) (P.sd k)) 14 0
theorem lt4_i {i : Nat} (h : i < 200) : (Int32.ofNat i < 4) = (i < 4) := pi_lt h (by decide)
theorem axs_3 {P : Pl} (hV : VP P) (b : Int32) {p : Nat} (hp : p < P.n) (s : Nat) : axs P b p s < 3 := by
  obtain ⟨r1, r2, r3, -⟩ := frm_c hV b p hp
  have := ax_3 r1
  have := ax_3 r2
  unfold axs; split <;> assumption
theorem l13_s (P : Pl) (hV : VP P) (b g x : Int32) (σ : am_M) (hC : CP σ P) (hF : FC σ P b) {p a : Nat} (hp : p < P.n) (ha : a < 3) (k21 : Int32 → Int32 → Int32 → Int32 → Int32) (c21 : Int32 → Int32 → Int32 → Int32 → Prop) (hc : c21 x g (Int32.ofNat a) (Int32.ofNat (p + 1))) : ∀ (f s : Nat), 4 < s + f → s ≤ 4 →
    q_13_33 c21 f σ x g (Int32.ofNat a) (Int32.ofNat p) (Int32.ofNat s) ∧ l_13_33 k21 f σ x g (Int32.ofNat a) (Int32.ofNat p) (Int32.ofNat s) = egS P b g a p (k21 x g (Int32.ofNat a) (Int32.ofNat (p + 1))) f s := by
  intro f
  induction f with
  | zero => intro s h1 h2; omega
  | succ f ih =>
    intro s h1 h2
    have h13 := hV.n13
    rw [q_13_33, l_13_33, egS]
    by_cases hs : s < 4
    · obtain ⟨a1, a2⟩ := v9_c P hV b σ hF hp hs
      obtain ⟨b1, b2⟩ := v_32_i σ P hC h13 hp hs
      have i := ih (s + 1) (by omega) (by omega)
      have hE := (hC.2 p hp).2.1
      have h3 := axs_3 hV b hp s
      have e33 : v_33 σ (Int32.ofNat p) (Int32.ofNat s) = bi (!P.bt p s) := by
        unfold v_33
        simp (disch := omega) only [if_true, if_false, pi_pos, pi_npos, pi_nn, pi_ng, pi_nle, pi_lt, false_or, or_false, not_false_eq_true, true_and, and_true, false_and, and_false, implies_true, not_true, not_true_eq_false, false_implies, true_implies, pi_a1, pi_a2, pi_a3, pi_ab, pi_4, pi_3, pi_6, v_70_i, v_68_i, v_69_i, mod2_i, bi_0, bi_n, vp_bi, enc_flip, flip_s, hE]
        rw [enc_bit _ s hs]
        cases P.bt p s <;> rfl
      have p33 : p_33 σ (Int32.ofNat p) (Int32.ofNat s) := pi_in (by omega) (by omega)
      simp (disch := omega) only [lt4_i, hs, if_true, true_implies, e33, p33, a1, a2, b1, b2, pi_a1, pi_inj, pi_4, pi_ab, bi_0, true_and, not_true_eq_false, false_implies, and_true]
      obtain ⟨i1, i2⟩ := i
      by_cases c1 : P.bt p s
      · simp only [c1, Bool.not_true, true_implies, if_true, not_true_eq_false, false_implies, and_true, Bool.true_eq_false, false_and, if_false]
        exact ⟨i1, i2⟩
      · have c1' : P.bt p s = false := by simpa using c1
        simp only [c1', Bool.not_false, Bool.true_eq_false, false_implies, true_and, not_false_eq_true, true_implies, if_false]
        by_cases c2 : plen P p s < g
        · simp only [c2, true_implies, not_true_eq_false, false_implies, and_true, if_true, false_and, if_false]
          exact ⟨i1, i2⟩
        · by_cases c3 : axs P b p s = a
          · simp only [c2, c3, false_implies, not_false_eq_true, true_implies, true_and, not_true_eq_false, if_false, if_true, and_self]
          · simp only [c2, c3, false_implies, not_false_eq_true, true_implies, true_and, not_true_eq_false, if_false, if_true, and_false]
            exact ⟨i1, i2⟩
    · simp (disch := omega) only [lt4_i, hs, if_false, false_implies, true_and, not_false_eq_true, true_implies, pi_a1, and_true]
      exact hc
theorem l13_p (P : Pl) (hV : VP P) (b g x : Int32) (σ : am_M) (hC : CP σ P) (hF : FC σ P b) {a : Nat} (ha : a < 3) : ∀ (f p : Nat), P.n < p + f → p ≤ P.n →
    q_13_21 f σ x g (Int32.ofNat a) (Int32.ofNat p) ∧ l_13_21 f σ x g (Int32.ofNat a) (Int32.ofNat p) = egP P b g a f p := by
  intro f
  induction f with
  | zero => intro p h1 h2; omega
  | succ f ih =>
    intro p h1 h2
    have h13 := hV.n13
    rw [q_13_21, l_13_21, egP]
    have hlt : (Int32.ofNat p < σ.1 2 0) = (p < P.n) := by rw [hC.1]; exact pi_lt (by omega) (by omega)
    by_cases hp : p < P.n
    · obtain ⟨i1, i2⟩ := ih (p + 1) (by omega) (by omega)
      obtain ⟨k1, k2⟩ := l13_s P hV b g x σ hC hF hp ha (l_13_21 f σ) (q_13_21 f σ) i1 14 0 (by omega) (by omega)
      rw [l_0] at k1 k2
      simp only [hlt, hp, if_true, true_implies, k1, k2, i2, and_self]
    · simp only [hlt, hp, if_false, false_implies, and_self]
theorem v13_c (P : Pl) (hV : VP P) (b g : Int32) (σ : am_M) (hC : CP σ P) (hF : FC σ P b) {k : Nat} (hk : k < P.n) (h0 : 0 < k) : p_13 σ (Int32.ofNat k) g ∧ v_13 σ (Int32.ofNat k) g = edg P b g k := by
  have h13 := hV.n13
  obtain ⟨hq, hs⟩ := hV.tr k hk h0
  obtain ⟨e1, e2, e3⟩ := (hC.2 k hk).1 h0
  obtain ⟨a1, a2⟩ := v9_c P hV b σ hF (show P.par k < P.n by omega) hs
  obtain ⟨k1, k2⟩ := l13_p P hV b g (Int32.ofNat k) σ hC hF (axs_3 hV b (show P.par k < P.n by omega) (P.sd k)) 14 0 (by omega) (by omega)
  rw [l_0] at k1 k2
  unfold p_13 v_13 f_13 edg
  simp (disch := omega) only [if_true, if_false, pi_pos, pi_npos, pi_nn, pi_ng, pi_nle, pi_lt, false_or, or_false, not_false_eq_true, true_and, and_true, false_and, and_false, implies_true, not_true, not_true_eq_false, false_implies, true_implies, pi_a1, pi_a2, pi_a3, pi_ab, pi_4, pi_3, pi_6, v_70_i, v_68_i, v_69_i, mod2_i, bi_0, bi_n, vp_bi, enc_flip, flip_s, e1, e2, a1, a2, k1, k2, and_self]
theorem m2_i {s : Nat} (hs : s < 4) : ((if Int32.ofNat s - Int32.ofNat s / 2 * 2 = 0 then (1 : Int32) else 0) = 0) = (¬ (s = 0 ∨ s = 2)) := by
  match s, hs with
  | 0, _ => decide
  | 1, _ => decide
  | 2, _ => decide
  | 3, _ => decide
theorem el_i (P : Pl) (p s : Nat) : (if ¬ (s = 0 ∨ s = 2) then P.E p - P.W p else P.N p - P.S p) = plen P p s := by
  unfold plen
  by_cases h : s = 0 ∨ s = 2
  · rw [if_pos h, if_neg (fun h2 => h2 h)]
  · rw [if_neg h, if_pos h]
theorem ea_i (P : Pl) (b : Int32) (p s : Nat) : (if ¬ (s = 0 ∨ s = 2) then Int32.ofNat (ax (cX P b p)) else Int32.ofNat (ax (cY P b p))) = Int32.ofNat (axs P b p s) := by
  unfold axs
  by_cases h : s = 0 ∨ s = 2
  · rw [if_pos h, if_neg (fun h2 => h2 h)]
  · rw [if_neg h, if_pos h]
theorem l112_s (P : Pl) (hV : VP P) (b x : Int32) (τ : am_M) (hR : RP τ P) (hG : GC τ P b) {p a : Nat} (hp : p < P.n) (ha : a < 3) (k8 : Int32 → Int32 → Int32 → Int32) (c8 : Int32 → Int32 → Int32 → Prop) (hc : c8 x (Int32.ofNat a) (Int32.ofNat (p + 1))) : ∀ (f s : Nat), 4 < s + f → s ≤ 4 →
    q_112_19 c8 f τ x (Int32.ofNat a) (Int32.ofNat p) (Int32.ofNat s) ∧ l_112_19 k8 f τ x (Int32.ofNat a) (Int32.ofNat p) (Int32.ofNat s) = egS P b (τ.1 50 3) a p (k8 x (Int32.ofNat a) (Int32.ofNat (p + 1))) f s := by
  intro f
  induction f with
  | zero => intro s h1 h2; omega
  | succ f ih =>
    intro s h1 h2
    have h13 := hV.n13
    rw [q_112_19, l_112_19, egS]
    by_cases hs : s < 4
    · obtain ⟨⟨a1, a2⟩, a3, a4⟩ := v105_c P hV b τ hG hp
      obtain ⟨b1, b2⟩ := hasB_i τ P hV hR hp hs
      have i := ih (s + 1) (by omega) (by omega)
      have hE := (hR.2 p hp).2
      have h3 := axs_3 hV b hp s
      have m2 := m2_i hs
      have el := el_i P p s
      have ea := ea_i P b p s
      simp (disch := omega) only [lt4_i, hs, if_true, true_implies, m2, pi_a1, pi_a2, pi_a3, pi_3, pi_4, pi_nn, pi_ng, pi_nle, hE, a1, a2, a3, a4, b1, b2, el, ea, pi_inj, pi_ab, bi_0, true_and, not_true_eq_false, false_implies, and_true, false_or, not_false_eq_true, implies_true]
      obtain ⟨i1, i2⟩ := i
      by_cases c1 : P.bt p s
      · simp only [c1, Bool.true_eq_false, false_implies, true_and, not_false_eq_true, true_implies, if_false, false_and]
        exact ⟨i1, i2⟩
      · have c1' : P.bt p s = false := by simpa using c1
        simp only [c1', true_implies, if_true, not_true_eq_false, false_implies, and_true, true_and]
        by_cases c2 : plen P p s < τ.1 50 3
        · simp only [c2, true_implies, not_true_eq_false, false_implies, and_true, if_true, false_and, if_false]
          exact ⟨i1, i2⟩
        · by_cases c3 : axs P b p s = a
          · simp only [c2, c3, false_implies, not_false_eq_true, true_implies, true_and, not_true_eq_false, if_false, if_true, and_self]
          · simp only [c2, c3, false_implies, not_false_eq_true, true_implies, true_and, not_true_eq_false, if_false, if_true, and_false]
            exact ⟨i1, i2⟩
    · simp (disch := omega) only [lt4_i, hs, if_false, false_implies, true_and, not_false_eq_true, true_implies, pi_a1, and_true]
      exact hc
theorem l112_p (P : Pl) (hV : VP P) (b x : Int32) (τ : am_M) (hR : RP τ P) (hG : GC τ P b) {a : Nat} (ha : a < 3) : ∀ (f p : Nat), P.n < p + f → p ≤ P.n →
    q_112_8 f τ x (Int32.ofNat a) (Int32.ofNat p) ∧ l_112_8 f τ x (Int32.ofNat a) (Int32.ofNat p) = egP P b (τ.1 50 3) a f p := by
  intro f
  induction f with
  | zero => intro p h1 h2; omega
  | succ f ih =>
    intro p h1 h2
    have h13 := hV.n13
    rw [q_112_8, l_112_8, egP]
    have hlt : (Int32.ofNat p < τ.1 50 1) = (p < P.n) := by rw [hR.1]; exact pi_lt (by omega) (by omega)
    by_cases hp : p < P.n
    · obtain ⟨i1, i2⟩ := ih (p + 1) (by omega) (by omega)
      obtain ⟨k1, k2⟩ := l112_s P hV b x τ hR hG hp ha (l_112_8 f τ) (q_112_8 f τ) i1 14 0 (by omega) (by omega)
      rw [l_0] at k1 k2
      simp only [hlt, hp, if_true, true_implies, k1, k2, i2, and_self]
    · simp only [hlt, hp, if_false, false_implies, and_self]
theorem v112_c (P : Pl) (hV : VP P) (b : Int32) (τ : am_M) (hR : RP τ P) (hG : GC τ P b) {k : Nat} (hk : k < P.n) (h0 : 0 < k) : p_112 τ (Int32.ofNat k) ∧ v_112 τ (Int32.ofNat k) = edg P b (τ.1 50 3) k := by
  have h13 := hV.n13
  obtain ⟨hq, hs⟩ := hV.tr k hk h0
  obtain ⟨a1, a2⟩ := v106_c P hV b τ hR hG hk h0
  obtain ⟨k1, k2⟩ := l112_p P hV b (Int32.ofNat k) τ hR hG (axs_3 hV b (show P.par k < P.n by omega) (P.sd k)) 14 0 (by omega) (by omega)
  rw [l_0] at k1 k2
  unfold p_112 v_112 f_112 edg
  simp only [a1, a2, k1, k2, and_self]
/-- whether a bend may be asked for -/
def ask_ (P : Pl) (x : Int32) (k : Nat) : Bool := abn P.n x && !isF x k
theorem isF_0 (x : Int32) {k : Nat} (hk : k < 13) : (((x >>> (Int32.ofNat k &&& (31 : Int32))) &&& (1 : Int32)) = 0) = (isF x k = false) := by
  rw [gb x hk, isF_b x hk, bi_0]
theorem v71_c (P : Pl) (σ : am_M) (hC : CP σ P) (h13 : P.n ≤ 13) {k : Nat} (hk : k < P.n) (h0 : 0 < k) (x : Int32) : v_71 σ x (Int32.ofNat k) = bi (ask_ P x k) := by
  have c : 1 ≤ Int32.ofNat k ∧ Int32.ofNat k ≤ Int32.ofNat P.n - 1 := by
    refine ⟨?_, (pi_mx hk h13).2⟩
    have : ∀ k < 13, 0 < k → 1 ≤ Int32.ofNat k := by decide
    exact this k (by omega) h0
  unfold v_71 ask_
  simp (disch := omega) only [v_27_i σ P hC h13, v_29_i σ P hC (by omega) h13, c, and_self, decide_true, bi_0, Bool.true_eq_false, if_false, isF_0]
  cases abn P.n x <;> cases isF x k <;> rfl
theorem v110_c (P : Pl) (τ : am_M) (hR : RP τ P) (h13 : P.n ≤ 13) {k : Nat} (hk : k < P.n) (h0 : 0 < k) (x : Int32) : v_110 τ x (Int32.ofNat k) = bi (ask_ P x k) := by
  have c : 1 ≤ Int32.ofNat k ∧ Int32.ofNat k ≤ Int32.ofNat P.n - 1 := by
    refine ⟨?_, (pi_mx hk h13).2⟩
    have : ∀ k < 13, 0 < k → 1 ≤ Int32.ofNat k := by decide
    exact this k (by omega) h0
  unfold v_110 ask_
  simp (disch := omega) only [v_94_i τ P hR h13, v_88_i τ P hR (by omega) h13, c, and_self, decide_true, bi_0, Bool.true_eq_false, if_false, isF_0]
  cases abn P.n x <;> cases isF x k <;> rfl
theorem v71_n (P : Pl) (σ : am_M) (hC : CP σ P) (h13 : P.n ≤ 13) {y : Int32} (c : ¬ (1 ≤ y ∧ y ≤ Int32.ofNat P.n - 1)) (x : Int32) : v_71 σ x y = 0 := by
  unfold v_71
  simp only [v_27_i σ P hC h13, c, decide_false, bi_0, if_true]
theorem v110_n (P : Pl) (τ : am_M) (hR : RP τ P) (h13 : P.n ≤ 13) {y : Int32} (c : ¬ (1 ≤ y ∧ y ≤ Int32.ofNat P.n - 1)) (x : Int32) : v_110 τ x y = 0 := by
  unfold v_110
  simp only [v_94_i τ P hR h13, c, decide_false, bi_0, if_true]
  split <;> rfl
theorem c_edge (σ : am_M) (h : Inv σ) (x1 x2 : Int32) : p_62 σ x1 x2 ∧ p_113 (w_62 σ x1 x2) x1 x2 ∧ v_62 σ x1 x2 = v_113 (w_62 σ x1 x2) x1 x2 ∧ Inv (w_113 (w_62 σ x1 x2) x1 x2) ∧ (w_113 (w_62 σ x1 x2) x1 x2).1 0 = σ.1 0 := by
  have hI := h
  obtain ⟨P, hP⟩ := h
  have hP' := hP
  obtain ⟨hV, hC, hR, hM, hO⟩ := hP
  have h13 := hV.n13
  have hR0 : RP (am_put σ 50 0 0) P := hR.put _ _ _ (by decide) (by decide)
  unfold p_62 p_113 v_62 v_113 w_113 w_62
  by_cases c : 1 ≤ x2 ∧ x2 ≤ Int32.ofNat P.n - 1
  · obtain ⟨k, hk0, hk, rfl⟩ := rngb h13 c
    simp only [v71_c P σ hC h13 hk hk0, bi_0]
    by_cases c2 : ask_ P x1 k = false
    · simp only [c2, not_true_eq_false, false_implies, if_true, v110_c P _ hR0 h13 hk hk0, bi_0, true_and]
      exact inv500 hI 0
    · obtain ⟨a1, a2, a3, b1, b2, b3, b4⟩ := two_c hP' x1
      have f1 := (fold_c P hV x1 σ hC).2.2
      have hRm : RP (am_put (w_1 σ x1) 50 0 0) P := (hR.fr f1 (by decide)).put _ _ _ (by decide) (by decide)
      have f2 := (rfold_c P hV x1 _ hRm).2.2
      have hg : (w_90 (am_put (w_1 σ x1) 50 0 0) x1).1 50 3 = (w_1 σ x1).1 1 5 := by
        rw [f2.1 50 (by decide), am_rd, if_neg (by decide), f1.1 50 (by decide), f1.1 1 (by decide)]
        exact hM.2.1.symm
      obtain ⟨d1, d2⟩ := v13_c P hV x1 ((w_1 σ x1).1 1 5) _ a2 a3 hk hk0
      obtain ⟨e1, e2⟩ := v112_c P hV x1 _ b2 b3 hk hk0
      rw [hg] at e2
      simp only [c2, Bool.true_eq_false, not_false_eq_true, true_implies, if_false, v110_c P _ hRm h13 hk hk0, bi_0, a1, b1, d1, d2, e1, e2, true_and]
      exact b4
  · simp only [v71_n P σ hC h13 c, not_true_eq_false, false_implies, if_true, v110_n P _ hR0 h13 c, true_and]
    exact inv500 hI 0
