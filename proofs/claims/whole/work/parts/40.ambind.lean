/-! calls by their closed forms -/
theorem am_bind_i {X : Option am_R} {L m t : Nat} {ls : am_Ls} {st : List am_V} {s : am_M} {r : Int32} (h : X = some (some (.inl r), am_sh0 L, s)) : X.bind (am_k m t ls st) = am_r L m t ls (.inl r :: st) s := by rw [h]; rfl
theorem am_bind_j {X : Option am_R} {L m t : Nat} {ls : am_Ls} {st : List am_V} {s : am_M} {r : Int64} (h : X = some (some (.inr (.inl r)), am_sh0 L, s)) : X.bind (am_k m t ls st) = am_r L m t ls (.inr (.inl r) :: st) s := by rw [h]; rfl
theorem am_bind_v {X : Option am_R} {L m t : Nat} {ls : am_Ls} {st : List am_V} {s : am_M} (h : X = some (none, am_sh0 L, s)) : X.bind (am_k m t ls st) = am_r L m t ls st s := by rw [h]; rfl
theorem am_01 {c : Prop} [Decidable c] {a b : Int32} (ha : a = 0 ∨ a = 1) (hb : b = 0 ∨ b = 1) : (if c then a else b) = 0 ∨ (if c then a else b) = 1 := by
  split
  · exact ha
  · exact hb
