/-! the number of bits: both counts agree on thirteen bits (one by one) -/
theorem l96_m : ∀ (f : Nat) (σ τ : am_M) (x a i : Int32), l_96_4 f σ x a i = l_96_4 f τ x a i := by
  intro f
  induction f with
  | zero => intros; rfl
  | succ f ih => intro σ τ x a i; rw [l_96_4, l_96_4]; split; exact ih _ _ _ _ _; rfl
def s0 : am_M := (fun _ _ => 0, fun _ _ => 0)
theorem bc_d : ∀ a < 16, ∀ k < 512, v_119 s0 (Int32.ofNat (512 * a + k)) = v_96 s0 (Int32.ofNat (512 * a + k)) := by decide +kernel
