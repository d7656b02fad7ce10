/-! the pure layer: places, panels, the plan -/
abbrev pi_ (k : Nat) : Int32 := Int32.ofNat k
theorem pi_add1 (k : Nat) : Int32.ofNat k + 1 = Int32.ofNat (k + 1) := by simp [Int32.ofNat_add]
theorem pi_nn {k : Nat} (h : k < 200) : (Int32.ofNat k).toNatClampNeg = k := Int32.toNatClampNeg_ofNat_of_lt (by omega)
theorem pi_lt {a b : Nat} (ha : a < 200) (hb : b < 200) : (Int32.ofNat a < Int32.ofNat b) = (a < b) := by
  rw [Int32.ofNat_lt_iff_lt (by omega) (by omega)]
theorem pi_inj {a b : Nat} (ha : a < 200) (hb : b < 200) : (Int32.ofNat a = Int32.ofNat b) = (a = b) := by
  have h1 := pi_nn ha
  have h2 := pi_nn hb
  refine propext ⟨fun h => ?_, fun h => by rw [h]⟩
  rw [← h1, ← h2, h]
theorem pi_ng {a : Nat} (ha : a < 200) : (Int32.ofNat a < 0) = False := by
  have := pi_lt ha (by decide : 0 < 200)
  simpa using this
/-- a place is within -/
theorem pi_in {a n : Nat} (ha : a < 200) (h : a < n) : ¬ (Int32.ofNat a < 0 ∨ n ≤ (Int32.ofNat a).toNatClampNeg) := by
  rw [pi_ng ha, pi_nn ha]; simp only [false_or]; omega
theorem pi_4 (k : Nat) : (4 : Int32) * Int32.ofNat k = Int32.ofNat (4 * k) := (Int32.ofNat_mul 4 k).symm
theorem pi_3 (k : Nat) : (3 : Int32) * Int32.ofNat k = Int32.ofNat (3 * k) := (Int32.ofNat_mul 3 k).symm
theorem pi_6 (k : Nat) : (6 : Int32) * Int32.ofNat k = Int32.ofNat (6 * k) := (Int32.ofNat_mul 6 k).symm
theorem pi_a1 (k : Nat) : Int32.ofNat k + 1 = Int32.ofNat (k + 1) := (Int32.ofNat_add k 1).symm
theorem pi_a2 (k : Nat) : Int32.ofNat k + 2 = Int32.ofNat (k + 2) := (Int32.ofNat_add k 2).symm
theorem pi_a3 (k : Nat) : Int32.ofNat k + 3 = Int32.ofNat (k + 3) := (Int32.ofNat_add k 3).symm
theorem pi_ab (k i : Nat) : Int32.ofNat k + Int32.ofNat i = Int32.ofNat (k + i) := (Int32.ofNat_add k i).symm
theorem am_rd (s : am_M) (k i : Nat) (v : Int32) (k' j : Nat) : (am_put s k i v).1 k' j = if k' = k ∧ j = i then v else s.1 k' j := by
  unfold am_put upd; simp only; split <;> simp_all
theorem am_rdL (s : am_M) (k i : Nat) (v : Int32) : (am_put s k i v).2 = s.2 := rfl
theorem am_rL (s : am_M) (k i : Nat) (v : Int64) (k' j : Nat) : (am_putL s k i v).2 k' j = if k' = k ∧ j = i then v else s.2 k' j := by
  unfold am_putL vp_updL; simp only; split <;> simp_all
theorem am_rL1 (s : am_M) (k i : Nat) (v : Int64) : (am_putL s k i v).1 = s.1 := rfl
theorem vp_b0 : vp_nar .boolean 0 = 0 := by decide
theorem vp_b1 : vp_nar .boolean 1 = 1 := by decide
/-- the plan, once for both: number of panels, parent, side, up, sides that have a bend, west, south, east, north -/
def Pl : Type := Nat × (Nat → Nat) × (Nat → Nat) × (Nat → Bool) × (Nat → Nat → Bool) × (Nat → Int32) × (Nat → Int32) × (Nat → Int32) × (Nat → Int32)
def Pl.mk (n : Nat) (par sd : Nat → Nat) (up : Nat → Bool) (bt : Nat → Nat → Bool) (W S E N : Nat → Int32) : Pl := (n, par, sd, up, bt, W, S, E, N)
def Pl.n (P : Pl) : Nat := P.1
def Pl.par (P : Pl) : Nat → Nat := P.2.1
def Pl.sd (P : Pl) : Nat → Nat := P.2.2.1
def Pl.up (P : Pl) : Nat → Bool := P.2.2.2.1
def Pl.bt (P : Pl) : Nat → Nat → Bool := P.2.2.2.2.1
def Pl.W (P : Pl) : Nat → Int32 := P.2.2.2.2.2.1
def Pl.S (P : Pl) : Nat → Int32 := P.2.2.2.2.2.2.1
def Pl.E (P : Pl) : Nat → Int32 := P.2.2.2.2.2.2.2.1
def Pl.N (P : Pl) : Nat → Int32 := P.2.2.2.2.2.2.2.2
section
variable (n : Nat) (par sd : Nat → Nat) (up : Nat → Bool) (bt : Nat → Nat → Bool) (W S E N : Nat → Int32)
theorem Pl.mk_n : (Pl.mk n par sd up bt W S E N).n = n := rfl
theorem Pl.mk_par : (Pl.mk n par sd up bt W S E N).par = par := rfl
theorem Pl.mk_sd : (Pl.mk n par sd up bt W S E N).sd = sd := rfl
theorem Pl.mk_up : (Pl.mk n par sd up bt W S E N).up = up := rfl
theorem Pl.mk_bt : (Pl.mk n par sd up bt W S E N).bt = bt := rfl
theorem Pl.mk_W : (Pl.mk n par sd up bt W S E N).W = W := rfl
theorem Pl.mk_S : (Pl.mk n par sd up bt W S E N).S = S := rfl
theorem Pl.mk_E : (Pl.mk n par sd up bt W S E N).E = E := rfl
theorem Pl.mk_N : (Pl.mk n par sd up bt W S E N).N = N := rfl
end
def bi (b : Bool) : Int32 := if b then 1 else 0
def enc (f : Nat → Bool) : Int32 := Int32.ofNat ((if f 0 then 1 else 0) + (if f 1 then 2 else 0) + (if f 2 then 4 else 0) + (if f 3 then 8 else 0))
theorem enc_bit (f : Nat → Bool) : ∀ s < 4, ((enc f >>> (Int32.ofNat s &&& (31 : Int32))) &&& (1 : Int32)) = bi (f s) := by
  unfold enc bi
  intro s hs
  match s, hs with
  | 0, _ => cases f 0 <;> cases f 1 <;> cases f 2 <;> cases f 3 <;> decide
  | 1, _ => cases f 0 <;> cases f 1 <;> cases f 2 <;> cases f 3 <;> decide
  | 2, _ => cases f 0 <;> cases f 1 <;> cases f 2 <;> cases f 3 <;> decide
  | 3, _ => cases f 0 <;> cases f 1 <;> cases f 2 <;> cases f 3 <;> decide
/-- panel p in the program -/
def CE (σ : am_M) (P : Pl) (p : Nat) : Prop :=
  (0 < p → σ.1 3 p = Int32.ofNat (P.par p) ∧ σ.1 4 p = Int32.ofNat (P.sd p) ∧ σ.1 5 p = bi (P.up p)) ∧ σ.1 6 p = enc (P.bt p) ∧ σ.1 8 p = P.E p ∧ σ.1 9 p = P.N p ∧ σ.1 10 p = P.W p ∧ σ.1 11 p = P.S p
def CP (σ : am_M) (P : Pl) : Prop := σ.1 2 0 = Int32.ofNat P.n ∧ ∀ p < P.n, CE σ P p
/-- panel p in the reference -/
def RE (σ : am_M) (P : Pl) (p : Nat) : Prop :=
  (0 < p → σ.1 51 p = Int32.ofNat (P.par p) ∧ σ.1 52 p = Int32.ofNat (P.sd p) ∧ σ.1 53 p = bi (P.up p)) ∧ σ.1 54 (4 * p) = P.W p ∧ σ.1 54 (4 * p + 1) = P.S p ∧ σ.1 54 (4 * p + 2) = P.E p ∧ σ.1 54 (4 * p + 3) = P.N p
def RP (σ : am_M) (P : Pl) : Prop := σ.1 50 1 = Int32.ofNat P.n ∧ ∀ p < P.n, RE σ P p
/-- what holds of every plan -/
def VPt (P : Pl) : Prop := ∀ p < P.n, 0 < p → P.par p < p ∧ P.sd p < 4
def VPb (P : Pl) : Prop := ∀ p < P.n, ∀ s < 4, P.bt p s = true ↔ ((0 < p ∧ s = (P.sd p + 2) % 4) ∨ ∃ k < P.n, 0 < k ∧ P.par k = p ∧ P.sd k = s)
def VPw (P : Pl) : Prop := 0 < P.n → 1 ≤ P.E 0 ∧ P.E 0 ≤ 2000 ∧ 1 ≤ P.N 0 ∧ P.N 0 ≤ 2000 ∧ P.W 0 = 0 ∧ P.S 0 = 0
def VPx (P : Pl) : Prop := ∀ p < P.n, -(2000 * Int32.ofNat p) ≤ P.W p ∧ P.W p < P.E p ∧ P.E p ≤ P.W p + 2000 ∧ P.E p ≤ P.E 0 + 2000 * Int32.ofNat p
def VPy (P : Pl) : Prop := ∀ p < P.n, -(2000 * Int32.ofNat p) ≤ P.S p ∧ P.S p < P.N p ∧ P.N p ≤ P.S p + 2000 ∧ P.N p ≤ P.N 0 + 2000 * Int32.ofNat p
def VPj (P : Pl) : Prop := ∀ p < P.n, 0 < p → (P.sd p = 0 → P.W p = P.E (P.par p)) ∧ (P.sd p = 1 → P.S p = P.N (P.par p)) ∧ (P.sd p = 2 → P.E p = P.W (P.par p)) ∧ (P.sd p = 3 → P.N p = P.S (P.par p)) ∧ ((P.sd p = 0 ∨ P.sd p = 2) → P.S (P.par p) ≤ P.S p ∧ P.N p ≤ P.N (P.par p)) ∧ ((P.sd p = 1 ∨ P.sd p = 3) → P.W (P.par p) ≤ P.W p ∧ P.E p ≤ P.E (P.par p))
def VP (P : Pl) : Prop := P.n ≤ 13 ∧ VPt P ∧ VPb P ∧ VPw P ∧ VPx P ∧ VPy P ∧ VPj P
theorem VP.n13 {P : Pl} (h : VP P) : P.n ≤ 13 := h.1
theorem VP.tr {P : Pl} (h : VP P) : VPt P := h.2.1
theorem VP.bt {P : Pl} (h : VP P) : VPb P := h.2.2.1
theorem VP.w {P : Pl} (h : VP P) : VPw P := h.2.2.2.1
theorem VP.x {P : Pl} (h : VP P) : VPx P := h.2.2.2.2.1
theorem VP.y {P : Pl} (h : VP P) : VPy P := h.2.2.2.2.2.1
theorem VP.j {P : Pl} (h : VP P) : VPj P := h.2.2.2.2.2.2
theorem pi_nle {a b : Nat} (h : a < b) : (b ≤ a) = False := eq_false (by omega)
theorem pi_pos {k : Nat} (h : 0 < k) (h2 : k < 200) : (0 < Int32.ofNat k) = True := by
  have := pi_lt (by decide : 0 < 200) h2
  rw [eq_true h] at this
  exact this
theorem pi_npos : (0 < Int32.ofNat 0) = False := by decide
theorem bi_0 (b : Bool) : (bi b = 0) = (b = false) := by cases b <;> decide
theorem bi_1 (b : Bool) : (bi b = 1) = (b = true) := by cases b <;> decide
theorem bi_n (b : Bool) : (if b = false then (1 : Int32) else 0) = bi (!b) := by cases b <;> decide
theorem bi_d (c : Prop) [Decidable c] : (if c then (1 : Int32) else 0) = bi (decide c) := by by_cases h : c <;> simp [h, bi]
theorem vp_bi (b : Bool) : vp_nar .boolean (bi b) = bi b := by cases b <;> decide
theorem v_70_i (σ : am_M) {s : Nat} (h : s < 4) : v_70 σ (Int32.ofNat s) = bi (s == 0 || s == 2) := by
  match s, h with
  | 0, _ => unfold v_70; decide
  | 1, _ => unfold v_70; decide
  | 2, _ => unfold v_70; decide
  | 3, _ => unfold v_70; decide
theorem v_68_i (σ : am_M) {s : Nat} (h : s < 4) : v_68 σ (Int32.ofNat s) = Int32.ofNat ((s + 2) % 4) := by
  match s, h with
  | 0, _ => unfold v_68; decide
  | 1, _ => unfold v_68; decide
  | 2, _ => unfold v_68; decide
  | 3, _ => unfold v_68; decide
theorem v_69_i (σ : am_M) {s : Nat} (h : s < 4) : v_69 σ (Int32.ofNat s) = bi (s == 0 || s == 1) := by
  match s, h with
  | 0, _ => unfold v_69; decide
  | 1, _ => unfold v_69; decide
  | 2, _ => unfold v_69; decide
  | 3, _ => unfold v_69; decide
/-- what a run of writes leaves alone -/
def Fr (A : List Nat) (σ σ' : am_M) : Prop := (∀ l, l ∉ A → σ'.1 l = σ.1 l) ∧ σ'.2 = σ.2
theorem Fr.refl (A : List Nat) (σ : am_M) : Fr A σ σ := ⟨fun _ _ => rfl, rfl⟩
theorem Fr.trans {A : List Nat} {σ σ' σ'' : am_M} (h : Fr A σ σ') (h' : Fr A σ' σ'') : Fr A σ σ'' := ⟨fun l hl => (h'.1 l hl).trans (h.1 l hl), h'.2.trans h.2⟩
theorem Fr.mono {A B : List Nat} {σ σ' : am_M} (h : Fr A σ σ') (hs : ∀ x ∈ A, x ∈ B) : Fr B σ σ' := ⟨fun l hl => h.1 l (fun h' => hl (hs l h')), h.2⟩
theorem Fr.put {A : List Nat} {σ σ' : am_M} (h : Fr A σ σ') (k i : Nat) (v : Int32) (hk : k ∈ A) : Fr A σ (am_put σ' k i v) :=
  ⟨fun l hl => by
    have : l ≠ k := fun e => hl (e ▸ hk)
    rw [← h.1 l hl]; simp only [am_put, if_neg this], h.2⟩
theorem Fr.rd {A : List Nat} {σ σ' : am_M} (h : Fr A σ σ') (l j : Nat) (hl : l ∉ A) : σ'.1 l j = σ.1 l j := by rw [h.1 l hl]
theorem pi_neq {a b : Nat} (h : a ≠ b) : (a = b) = False := eq_false h
theorem mod2_i {s : Nat} (h : s < 4) : (Int32.ofNat s - Int32.ofNat s / 2 * 2 = 0) = ((s == 0 || s == 2) = true) := by
  match s, h with
  | 0, _ => decide
  | 1, _ => decide
  | 2, _ => decide
  | 3, _ => decide
