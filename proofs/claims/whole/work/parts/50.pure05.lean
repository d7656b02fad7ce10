def okP (P : Pl) (g b k : Int32) : Prop := ∃ τ : am_M, RP τ P ∧ τ.1 50 3 = g ∧ v_109 (w_90 τ b) k ≠ 0 ∧ v_112 (w_90 τ b) k ≠ -1
def cand (nb : Nat → Int32) (P : Pl) (g : Int32) (b k : Nat) : Prop := 1 ≤ k ∧ k < P.n ∧ b.testBit (k - 1) = false ∧ nb (b ||| 2 ^ (k - 1)) ≠ -1 ∧ okP P g (Int32.ofNat (2 * b)) (Int32.ofNat k)
def cnt (nb : Nat → Int32) : Nat → Nat
  | 0 => 0
  | m + 1 => cnt nb m + if nb m = -1 then 0 else 1
/-- one row of the table of orders -/
def KnR (nb : Nat → Int32) (P : Pl) (g : Int32) (b : Nat) : Prop := (nb b = -1 ∧ ∀ k, ¬ cand nb P g b k) ∨ ∃ k, nb b = Int32.ofNat k ∧ cand nb P g b k ∧ ∀ k' < k, ¬ cand nb P g b k'
def Kn (σ : am_M) (P : Pl) : Prop := (∀ b < 2 ^ (P.n - 1), σ.1 61 b = bi (!decide (σ.1 49 b = -1))) ∧ σ.1 49 (2 ^ (P.n - 1) - 1) = 0 ∧ (∀ b < 2 ^ (P.n - 1) - 1, KnR (σ.1 49) P (σ.1 1 5) b) ∧ σ.1 50 17 = Int32.ofNat (cnt (σ.1 49) (2 ^ (P.n - 1)))
def Misc (σ : am_M) : Prop := σ.1 1 4 = σ.1 50 2 ∧ σ.1 1 5 = σ.1 50 3 ∧ σ.1 1 6 = σ.1 50 9 ∧ σ.1 1 7 = σ.1 50 10
def Od (σ : am_M) (P : Pl) : Prop := (σ.1 1 9 = 0 ∧ σ.1 50 16 = 0) ∨ (σ.1 1 9 = 1 ∧ σ.1 50 16 = 1 ∧ 0 < P.n ∧ Kn σ P)
def InvP (σ : am_M) (P : Pl) : Prop := VP P ∧ CP σ P ∧ RP σ P ∧ Misc σ ∧ Od σ P
def Inv (σ : am_M) : Prop := ∃ P, InvP σ P
/-- what the calls that only ask leave as it was -/
def Keep (σ σ' : am_M) : Prop := (∀ l ∈ [0, 2, 3, 4, 5, 6, 8, 9, 10, 11, 49, 51, 52, 53, 54, 61], σ'.1 l = σ.1 l) ∧ σ'.1 1 4 = σ.1 1 4 ∧ σ'.1 1 5 = σ.1 1 5 ∧ σ'.1 1 9 = σ.1 1 9 ∧ σ'.1 50 1 = σ.1 50 1 ∧ σ'.1 50 2 = σ.1 50 2 ∧ σ'.1 50 3 = σ.1 50 3 ∧ σ'.1 50 16 = σ.1 50 16 ∧ σ'.1 50 17 = σ.1 50 17
theorem Keep.toCP {σ σ' : am_M} {P : Pl} (h : Keep σ σ') (hc : CP σ P) : CP σ' P := by
  have a := h.1
  simp only [List.forall_mem_cons] at a
  obtain ⟨-, a2, a3, a4, a5, a6, a8, a9, a10, a11, -⟩ := a
  unfold CP CE at hc ⊢
  rw [a2, a3, a4, a5, a6, a8, a9, a10, a11]
  exact hc
theorem Keep.toRP {σ σ' : am_M} {P : Pl} (h : Keep σ σ') (hc : RP σ P) : RP σ' P := by
  have a := h.1
  simp only [List.forall_mem_cons] at a
  obtain ⟨-, -, -, -, -, -, -, -, -, -, -, a51, a52, a53, a54, -⟩ := a
  unfold RP RE at hc ⊢
  rw [a51, a52, a53, a54, h.2.2.2.2.1]
  exact hc
theorem Keep.toOd {σ σ' : am_M} {P : Pl} (h : Keep σ σ') (hc : Od σ P) : Od σ' P := by
  have a := h.1
  simp only [List.forall_mem_cons] at a
  obtain ⟨-, -, -, -, -, -, -, -, -, -, a49, -, -, -, -, a61, -⟩ := a
  unfold Od Kn at hc ⊢
  rw [a49, a61, h.2.2.1, h.2.2.2.1, h.2.2.2.2.2.2.2.1, h.2.2.2.2.2.2.2.2]
  exact hc
theorem Keep.toInv {σ σ' : am_M} {P : Pl} (h : Keep σ σ') (hi : InvP σ P) (h6 : σ'.1 1 6 = σ'.1 50 9) (h7 : σ'.1 1 7 = σ'.1 50 10) : InvP σ' P := by
  obtain ⟨a, b, c, d, e⟩ := hi
  refine ⟨a, h.toCP b, h.toRP c, ⟨?_, ?_, h6, h7⟩, h.toOd e⟩
  · rw [h.2.1, h.2.2.2.2.2.1]; exact d.1
  · rw [h.2.2.1, h.2.2.2.2.2.2.1]; exact d.2.1
theorem Keep.trans {σ σ' σ'' : am_M} (h : Keep σ σ') (h' : Keep σ' σ'') : Keep σ σ'' := by
  refine ⟨fun l hl => (h'.1 l hl).trans (h.1 l hl), ?_, ?_, ?_, ?_, ?_, ?_, ?_, ?_⟩
  · exact h'.2.1.trans h.2.1
  · exact h'.2.2.1.trans h.2.2.1
  · exact h'.2.2.2.1.trans h.2.2.2.1
  · exact h'.2.2.2.2.1.trans h.2.2.2.2.1
  · exact h'.2.2.2.2.2.1.trans h.2.2.2.2.2.1
  · exact h'.2.2.2.2.2.2.1.trans h.2.2.2.2.2.2.1
  · exact h'.2.2.2.2.2.2.2.1.trans h.2.2.2.2.2.2.2.1
  · exact h'.2.2.2.2.2.2.2.2.trans h.2.2.2.2.2.2.2.2
theorem Keep.refl (σ : am_M) : Keep σ σ := ⟨fun _ _ => rfl, rfl, rfl, rfl, rfl, rfl, rfl, rfl, rfl⟩
/-- a run of writes to rooms that nobody keeps -/
theorem Keep.fr {A : List Nat} {σ σ' : am_M} (h : Fr A σ σ') (hA : ∀ l ∈ [0, 2, 3, 4, 5, 6, 8, 9, 10, 11, 49, 51, 52, 53, 54, 61, 1, 50], l ∉ A) : Keep σ σ' := by
  have h1 := h.1 1 (hA 1 (by decide))
  have h50 := h.1 50 (hA 50 (by decide))
  refine ⟨fun l hl => h.1 l (hA l (by simp only [List.mem_cons] at hl ⊢; grind)), ?_, ?_, ?_, ?_, ?_, ?_, ?_, ?_⟩ <;> simp only [h1, h50]
/-- a write to a field that nobody keeps -/
theorem Keep.put1 (σ : am_M) (k i : Nat) (v : Int32) (hk : (k = 1 ∧ (i = 6 ∨ i = 7)) ∨ (k = 50 ∧ (i = 0 ∨ i = 9 ∨ i = 10 ∨ i = 19 ∨ i = 20 ∨ i = 21 ∨ i = 22))) : Keep σ (am_put σ k i v) := by
  refine ⟨fun l hl => ?_, ?_, ?_, ?_, ?_, ?_, ?_, ?_, ?_⟩
  · have hlk : l ≠ k := by
      intro e
      subst e
      rcases hk with ⟨rfl, _⟩ | ⟨rfl, _⟩ <;> revert hl <;> decide
    funext j
    rw [am_rd, if_neg (fun h => hlk h.1)]
  all_goals (rw [am_rd]; grind)
theorem to64_inj (x a : Int32) : (x.toInt64 = a.toInt64) = (x = a) := propext ⟨fun h => Int32.toInt_inj.1 (by rw [← Int32.toInt_toInt64, h, Int32.toInt_toInt64]), fun h => by rw [h]⟩
theorem isIn_i (σ : am_M) (x a b : Int32) : v_75 σ x.toInt64 a.toInt64 b.toInt64 = bi (decide (a ≤ x ∧ x ≤ b)) := by
  unfold v_75 lg_cmp bi
  have h1 : (x.toInt64 > a.toInt64) = (a < x) := by simp [Int32.toInt64_lt]
  have h2 : (x.toInt64 > b.toInt64) = (b < x) := by simp [Int32.toInt64_lt]
  have h3 : (x.toInt64 = a.toInt64) = (x = a) := to64_inj x a
  have h4 : (x.toInt64 = b.toInt64) = (x = b) := to64_inj x b
  simp only [h1, h2, h3, h4]
  have e1 : ((1 : Int32) < 0) = False := by decide
  have e2 : ((-1 : Int32) < 0) = True := by decide
  have e3 : ((0 : Int32) < 0) = False := by decide
  have e4 : ((0 : Int32) < 1) = True := by decide
  have e5 : ((0 : Int32) < -1) = False := by decide
  by_cases c1 : a < x <;> by_cases c2 : x = a <;> by_cases c3 : b < x <;> by_cases c4 : x = b <;> simp only [c1, c2, c3, c4, if_true, if_false, e1, e2, e3, e4, e5] <;> grind
theorem isWi_i (σ : am_M) (x a b : Int32) : v_67 σ x a b = bi (decide (a ≤ x ∧ x ≤ b)) := by
  unfold v_67 bi; grind
theorem pi_lm1 {n : Nat} (h : n ≤ 13) : (Int32.ofNat n).toInt64 - (1 : Int32).toInt64 = (Int32.ofNat n - 1).toInt64 := by
  have : ∀ n ≤ 13, (Int32.ofNat n).toInt64 - (1 : Int32).toInt64 = (Int32.ofNat n - 1).toInt64 := by decide
  exact this n h
theorem pi_lm2 {n : Nat} (h : n ≤ 13) : (Int32.ofNat n).toInt64 - (2 : Int32).toInt64 = (Int32.ofNat n - 2).toInt64 := by
  have : ∀ n ≤ 13, (Int32.ofNat n).toInt64 - (2 : Int32).toInt64 = (Int32.ofNat n - 2).toInt64 := by decide
  exact this n h
