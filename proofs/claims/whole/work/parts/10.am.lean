/-! AN ABSTRACT MACHINE for this system's kind of code. Values: ints, longs, references by label, rows of a grid by the grid's label.
    Label 0 is the script; label k + 1 is the k-th cell that the law has made. Ints and longs live in a memory (label, place);
    classes, lengths and references live in the shapes. -/
abbrev am_V : Type := Int32 ⊕ (Int64 ⊕ (Nat × Option Nat))
abbrev am_Ls : Type := List (Option am_V)
/-- an array (component, length, and of a grid how long its rows are), or an object (class, fields: none an int, some none null, some (some k) a reference) -/
abbrev am_Sh : Type := (FieldType × Nat × Option Nat) ⊕ (Nat × List (Option (Option Nat)))
abbrev am_M : Type := (Nat → Nat → Int32) × (Nat → Nat → Int64)
/-- pc, instruction, length, three numbers and an int of its own -/
abbrev am_I : Type := Nat × Instr × Nat × Nat × Nat × Nat × Int32
abbrev am_R : Type := Option am_V × List am_Sh × am_M
abbrev am_J : Type := Nat → Nat → List am_I
/-- method, code from here on, locals, operands, shapes, memory -/
abbrev am_C : Type := Nat × List am_I × am_Ls × List am_V × List am_Sh × am_M
/-- what comes next: a fork (on the left a jump, on the right further on); further on if a place is within; further on; a jump; an end; a call (who, and the caller behind it) -/
abbrev am_O : Type := Option ((Jvm.ClassFile.Cond × Int32 × Int32 × am_C × am_C) ⊕ ((Int32 × Nat × am_C) ⊕ (am_C ⊕ (am_C ⊕ (am_R ⊕ (am_C × (Nat × List am_I × am_Ls × List am_V)))))))
def am_put (s : am_M) (k i : Nat) (v : Int32) : am_M := (fun k' => if k' = k then upd (s.1 k') i v else s.1 k', s.2)
def am_putL (s : am_M) (k i : Nat) (v : Int64) : am_M := (s.1, fun k' => if k' = k then vp_updL (s.2 k') i v else s.2 k')
def am_zero (s : am_M) (k : Nat) : am_M := (fun k' => if k ≤ k' then (fun _ => 0) else s.1 k', fun k' => if k ≤ k' then (fun _ => 0) else s.2 k')
def am_on (q : am_C) : am_O := some (.inr (.inr (.inl q)))
def am_jp (q : am_C) : am_O := some (.inr (.inr (.inr (.inl q))))
def am_rt (q : am_R) : am_O := some (.inr (.inr (.inr (.inr (.inl q)))))
def am_ca (q : am_C) (r : Nat × List am_I × am_Ls × List am_V) : am_O := some (.inr (.inr (.inr (.inr (.inr (q, r))))))
def am_fk (o : Jvm.ClassFile.Cond) (x y : Int32) (q r : am_C) : am_O := some (.inl (o, x, y, q, r))
def am_in (i : Int32) (n : Nat) (q : am_C) : am_O := some (.inr (.inl (i, n, q)))
def am_if {α : Type} (o : Jvm.ClassFile.Cond) (x y : Int32) (a b : α) : α := match o with
  | .eq => if x = y then a else b
  | .ne => if x = y then b else a
  | .lt => if x < y then a else b
  | .ge => if x < y then b else a
  | .gt => if y < x then a else b
  | .le => if y < x then b else a
def am_i1 (st : List am_V) (k : Int32 → List am_V → am_O) : am_O := match st with
  | .inl x :: r => k x r
  | _ => none
def am_i2 (st : List am_V) (k : Int32 → Int32 → List am_V → am_O) : am_O := match st with
  | .inl y :: .inl x :: r => k x y r
  | _ => none
def am_l2 (st : List am_V) (k : Int64 → Int64 → List am_V → am_O) : am_O := match st with
  | .inr (.inl y) :: .inr (.inl x) :: r => k x y r
  | _ => none
/-- the locals at a call: a long takes two -/
def am_args : List am_V → am_Ls
  | [] => []
  | .inr (.inl x) :: r => some (.inr (.inl x)) :: none :: am_args r
  | v :: r => some v :: am_args r
def am_loc (n : Nat) (as : List am_V) : am_Ls := am_args as ++ List.replicate (n - (am_args as).length) none
/-- the array that a reference names: label, length, of the component ty; a row of a grid of ints too -/
def am_arr (sh : List am_Sh) (ty : FieldType) (k : Nat) (j : Option Nat) : Option (Nat × Nat) := match j with
  | none => match sh[k]? with
    | some (.inl (t, n, none)) => if t = ty then some (k, n) else none
    | _ => none
  | some i => match sh[k]? with
    | some (.inl (t, _, some n)) => if t = ty then some (k + 1 + i, n) else none
    | _ => none
def am_sw (pc : Nat) (d lo hi : Int) (offs : Array Int) (x : Int32) : Nat := if x.toInt < lo ∨ hi < x.toInt then ((pc : Int) + d).toNat else match offs[(x.toInt - lo).toNat]? with
  | some o => ((pc : Int) + o).toNat
  | none => 0
def am_fld (q : Option am_Sh) (ci k : Nat) : Option (Option (Option Nat)) := match q with
  | some (.inr (c, fs)) => if c = ci then fs[k]? else none
  | _ => none
def am_setf (sh : List am_Sh) (a k : Nat) (x : Option (Option Nat)) : List am_Sh := match sh[a]? with
  | some (.inr (c, fs)) => sh.set a (.inr (c, fs.set k x))
  | _ => sh
def am_wt : List am_V → Nat
  | [] => 0
  | .inr (.inl _) :: r => am_wt r + 2
  | _ :: r => am_wt r + 1
def am_nol : List am_V → Bool
  | [] => true
  | .inr (.inl _) :: _ => false
  | _ :: r => am_nol r
/-- may a method of so many locals, with or without longs, be called with the n operands on top? -/
def am_mayc (m : Nat × Bool) (n : Nat) (st : List am_V) : Bool := Nat.ble (am_args (st.take n).reverse).length m.1 && (Nat.ble (am_wt (st.drop n)) 8 && (Nat.ble n st.length && (m.2 || am_nol (st.take n))))
def am_isref : List am_V → Option Nat
  | .inr (.inr (k, none)) :: _ => some k
  | _ => none
def am_iscls (sh : List am_Sh) (k ci : Nat) : Bool := match sh[k]? with
  | some (.inr (c, _)) => Nat.beq c ci
  | _ => false
/-- a long isn't just ahead of place i -/
def am_free (ls : am_Ls) (i : Nat) : Bool := match i with
  | 0 => true
  | j + 1 => match ls[j]? with
    | some (some (.inr (.inl _))) => false
    | _ => true
section AM1
variable (J : am_J) (ml : Nat → Nat × Bool) (df : Nat → List (Option (Option Nat)))
/-- one instruction -/
def am_one : am_C → am_O
  | (_, [], _, _, _, _) => none
  | (mi, (pc, ins, len, a, b, c, v) :: cs, ls, st, sh, s) => match ins with
    | .iconst _ => am_on (mi, cs, ls, .inl v :: st, sh, s)
    | .bipush _ => am_on (mi, cs, ls, .inl v :: st, sh, s)
    | .sipush _ => am_on (mi, cs, ls, .inl v :: st, sh, s)
    | .ldc _ => am_on (mi, cs, ls, .inl v :: st, sh, s)
    | .ldc_w _ => am_on (mi, cs, ls, .inl v :: st, sh, s)
    | .lconst _ => am_on (mi, cs, ls, .inr (.inl v.toInt64) :: st, sh, s)
    | .ldc2_w _ => am_on (mi, cs, ls, .inr (.inl v.toInt64) :: st, sh, s)
    | .iload i => match ls[i]? with
      | some (some (.inl x)) => am_on (mi, cs, ls, .inl x :: st, sh, s)
      | _ => none
    | .iload_n i => match ls[i.val]? with
      | some (some (.inl x)) => am_on (mi, cs, ls, .inl x :: st, sh, s)
      | _ => none
    | .lload i => match ls[i]? with
      | some (some (.inr (.inl x))) => am_on (mi, cs, ls, .inr (.inl x) :: st, sh, s)
      | _ => none
    | .lload_n i => match ls[i.val]? with
      | some (some (.inr (.inl x))) => am_on (mi, cs, ls, .inr (.inl x) :: st, sh, s)
      | _ => none
    | .aload_n i => match ls[i.val]? with
      | some (some (.inr (.inr (x, none)))) => am_on (mi, cs, ls, .inr (.inr (x, none)) :: st, sh, s)
      | _ => none
    | .istore i => am_i1 st fun x r => am_on (mi, cs, ls.set i (some (.inl x)), r, sh, s)
    | .istore_n i => am_i1 st fun x r => am_on (mi, cs, ls.set i.val (some (.inl x)), r, sh, s)
    | .lstore i => match st with
      | .inr (.inl x) :: r => match am_free ls i with
        | true => am_on (mi, cs, (ls.set i (some (.inr (.inl x)))).set (i + 1) none, r, sh, s)
        | false => none
      | _ => none
    | .lstore_n i => match st with
      | .inr (.inl x) :: r => match am_free ls i.val with
        | true => am_on (mi, cs, (ls.set i.val (some (.inr (.inl x)))).set (i.val + 1) none, r, sh, s)
        | false => none
      | _ => none
    | .astore_n i => match st with
      | .inr (.inr (x, none)) :: r => am_on (mi, cs, ls.set i.val (some (.inr (.inr (x, none)))), r, sh, s)
      | _ => none
    | .iinc i _ => match ls[i]? with
      | some (some (.inl x)) => am_on (mi, cs, ls.set i (some (.inl (x + v))), st, sh, s)
      | _ => none
    | .iadd => am_i2 st fun x y r => am_on (mi, cs, ls, .inl (x + y) :: r, sh, s)
    | .isub => am_i2 st fun x y r => am_on (mi, cs, ls, .inl (x - y) :: r, sh, s)
    | .imul => am_i2 st fun x y r => am_on (mi, cs, ls, .inl (x * y) :: r, sh, s)
    | .iand => am_i2 st fun x y r => am_on (mi, cs, ls, .inl (x &&& y) :: r, sh, s)
    | .ior => am_i2 st fun x y r => am_on (mi, cs, ls, .inl (x ||| y) :: r, sh, s)
    | .ixor => am_i2 st fun x y r => am_on (mi, cs, ls, .inl (x ^^^ y) :: r, sh, s)
    | .ishl => am_i2 st fun x y r => am_on (mi, cs, ls, .inl (x <<< (y &&& 31)) :: r, sh, s)
    | .ishr => am_i2 st fun x y r => am_on (mi, cs, ls, .inl (x >>> (y &&& 31)) :: r, sh, s)
    | .iushr => am_i2 st fun x y r => am_on (mi, cs, ls, .inl (x.toUInt32 >>> (y.toUInt32 &&& Int32.toUInt32 31)).toInt32 :: r, sh, s)
    | .idiv => am_i2 st fun x y r => if y = 0 then none else am_on (mi, cs, ls, .inl (x / y) :: r, sh, s)
    | .irem => am_i2 st fun x y r => if y = 0 then none else am_on (mi, cs, ls, .inl (x - x / y * y) :: r, sh, s)
    | .ineg => am_i1 st fun x r => am_on (mi, cs, ls, .inl (-x) :: r, sh, s)
    | .i2l => am_i1 st fun x r => am_on (mi, cs, ls, .inr (.inl x.toInt64) :: r, sh, s)
    | .ladd => am_l2 st fun x y r => am_on (mi, cs, ls, .inr (.inl (x + y)) :: r, sh, s)
    | .lsub => am_l2 st fun x y r => am_on (mi, cs, ls, .inr (.inl (x - y)) :: r, sh, s)
    | .lmul => am_l2 st fun x y r => am_on (mi, cs, ls, .inr (.inl (x * y)) :: r, sh, s)
    | .lcmp => am_l2 st fun x y r => am_on (mi, cs, ls, .inl (lg_cmp x y) :: r, sh, s)
    | .dup => match st with
      | .inl x :: r => am_on (mi, cs, ls, .inl x :: .inl x :: r, sh, s)
      | .inr (.inr x) :: r => am_on (mi, cs, ls, .inr (.inr x) :: .inr (.inr x) :: r, sh, s)
      | _ => none
    | .dup2 => match st with
      | .inl y :: .inr (.inr x) :: r => am_on (mi, cs, ls, .inl y :: .inr (.inr x) :: .inl y :: .inr (.inr x) :: r, sh, s)
      | _ => none
    | .ifCond o _ => am_i1 st fun x r => am_fk o x 0 (mi, J mi a, ls, r, sh, s) (mi, cs, ls, r, sh, s)
    | .if_icmp o _ => am_i2 st fun x y r => am_fk o x y (mi, J mi a, ls, r, sh, s) (mi, cs, ls, r, sh, s)
    | .goto _ => am_jp (mi, J mi a, ls, st, sh, s)
    | .nop => am_jp (mi, J mi pc, ls, st, sh, s)
    | .tableswitch d lo hi offs => am_i1 st fun x r => am_jp (mi, J mi (am_sw pc d lo hi offs x), ls, r, sh, s)
    | .getfield _ => match st with
      | .inr (.inr (k, none)) :: r => match am_fld sh[k]? a b with
        | some none => am_on (mi, cs, ls, .inl (s.1 k b) :: r, sh, s)
        | some (some (some k')) => am_on (mi, cs, ls, .inr (.inr (k', none)) :: r, sh, s)
        | _ => none
      | _ => none
    | .putfield _ => match st with
      | .inl x :: .inr (.inr (k, none)) :: r => match am_fld sh[k]? a b with
        | some none => if v = 2 then none else if v = 1 then (if x = 0 ∨ x = 1 then am_on (mi, cs, ls, r, sh, am_put s k b x) else none) else am_on (mi, cs, ls, r, sh, am_put s k b x)
        | _ => none
      | .inr (.inr (k', none)) :: .inr (.inr (k, none)) :: r => match am_fld sh[k]? a b with
        | some (some _) => if v = 2 then am_on (mi, cs, ls, r, am_setf sh k b (some (some k')), s) else none
        | _ => none
      | _ => none
    | .iaload => match st with
      | .inl i :: .inr (.inr (k, j)) :: r => match am_arr sh .int k j with
        | some (q, n) => am_in i n (mi, cs, ls, .inl (s.1 q i.toNatClampNeg) :: r, sh, s)
        | _ => none
      | _ => none
    | .baload => match st with
      | .inl i :: .inr (.inr (k, none)) :: r => match am_arr sh .boolean k none with
        | some (q, n) => am_in i n (mi, cs, ls, .inl (s.1 q i.toNatClampNeg) :: r, sh, s)
        | _ => none
      | _ => none
    | .laload => match st with
      | .inl i :: .inr (.inr (k, none)) :: r => match am_arr sh .long k none with
        | some (q, n) => am_in i n (mi, cs, ls, .inr (.inl (s.2 q i.toNatClampNeg)) :: r, sh, s)
        | _ => none
      | _ => none
    | .aaload => match st with
      | .inl i :: .inr (.inr (k, none)) :: r => match sh[k]? with
        | some (.inl (.int, n, some _)) => am_in i n (mi, cs, ls, .inr (.inr (k, some i.toNatClampNeg)) :: r, sh, s)
        | _ => none
      | _ => none
    | .iastore => match st with
      | .inl x :: .inl i :: .inr (.inr (k + 1, j)) :: r => match am_arr sh .int (k + 1) j with
        | some (q, n) => am_in i n (mi, cs, ls, r, sh, am_put s q i.toNatClampNeg x)
        | _ => none
      | _ => none
    | .bastore => match st with
      | .inl x :: .inl i :: .inr (.inr (k + 1, none)) :: r => match am_arr sh .boolean (k + 1) none with
        | some (q, n) => am_in i n (mi, cs, ls, r, sh, am_put s q i.toNatClampNeg (vp_nar .boolean x))
        | _ => none
      | _ => none
    | .lastore => match st with
      | .inr (.inl x) :: .inl i :: .inr (.inr (k + 1, none)) :: r => match am_arr sh .long (k + 1) none with
        | some (q, n) => am_in i n (mi, cs, ls, r, sh, am_putL s q i.toNatClampNeg x)
        | _ => none
      | _ => none
    | .arraylength => match st with
      | .inr (.inr (0, none)) :: r => match am_arr sh .int 0 none with
        | some (_, n) => am_on (mi, cs, ls, .inl (Int32.ofNat n) :: r, sh, s)
        | _ => none
      | _ => none
    | .new _ => am_on (mi, cs, ls, .inr (.inr (sh.length, none)) :: st, sh ++ [.inr (a, df a)], am_zero s sh.length)
    | .newarray t => am_i1 st fun x r => if x < 0 ∨ 65536 < x.toNatClampNeg then none else am_on (mi, cs, ls, .inr (.inr (sh.length, none)) :: r, sh ++ [.inl (newarray.typeOf t, x.toNatClampNeg, none)], am_zero s sh.length)
    | .multianewarray _ _ => am_i2 st fun x y r => if x < 0 ∨ y < 0 ∨ 65536 < x.toNatClampNeg ∨ 65536 < y.toNatClampNeg then none else am_on (mi, cs, ls, .inr (.inr (sh.length, none)) :: r, sh ++ (.inl (.int, x.toNatClampNeg, some y.toNatClampNeg) :: List.replicate x.toNatClampNeg (.inl (.int, y.toNatClampNeg, none))), am_zero s sh.length)
    | .invokespecial _ => match b with
      | 0 => match st with
        | .inr (.inr (_, none)) :: r => match Nat.ble (am_wt r) 8 with
          | true => am_on (mi, cs, ls, r, sh, s)
          | false => none
        | _ => none
      | b + 1 => match am_isref (st.drop b) with
        | some _ => match am_mayc (ml a) (b + 1) st with
          | true => am_ca (a, J a 0, am_loc (ml a).1 (st.take (b + 1)).reverse, [], sh, s) (mi, cs, ls, st.drop (b + 1))
          | false => none
        | none => none
    | .invokevirtual _ => match am_isref (st.drop (b % 16 - 1)) with
      | some k => match am_iscls sh k (b / 16) && am_mayc (ml a) (b % 16) st with
        | true => am_ca (a, J a 0, am_loc (ml a).1 (st.take (b % 16)).reverse, [], sh, s) (mi, cs, ls, st.drop (b % 16))
        | false => none
      | none => none
    | .invokestatic _ => match am_mayc (ml a) b st with
      | true => am_ca (a, J a 0, am_loc (ml a).1 (st.take b).reverse, [], sh, s) (mi, cs, ls, st.drop b)
      | false => none
    | .ireturn => match st with
      | [.inl x] => match a with
        | 0 => am_rt (some (.inl x), sh, s)
        | _ => if x = 0 ∨ x = 1 then am_rt (some (.inl x), sh, s) else none
      | _ => none
    | .lreturn => match st with
      | [.inr (.inl x)] => am_rt (some (.inr (.inl x)), sh, s)
      | _ => none
    | .return_ => match st with
      | [] => am_rt (none, sh, s)
      | _ => none
    | _ => none
end AM1
/-- what is done with it: f further on, g at a jump or an end's other road, h for a call -/
def am_do (f g h : am_C → Option am_R) : am_O → Option am_R
  | none => none
  | some (.inl (o, x, y, q, r)) => am_if o x y (g q) (f r)
  | some (.inr (.inl (i, n, q))) => if i < 0 ∨ n ≤ i.toNatClampNeg then none else f q
  | some (.inr (.inr (.inl q))) => f q
  | some (.inr (.inr (.inr (.inl q)))) => g q
  | some (.inr (.inr (.inr (.inr (.inl r))))) => some r
  | some (.inr (.inr (.inr (.inr (.inr (q, (mi, cs, ls, st))))))) => (h q).bind fun u => f (mi, cs, ls, u.1.toList ++ st, u.2.1, u.2.2)
def am_ex (J : am_J) (ml : Nat → Nat × Bool) (df : Nat → List (Option (Option Nat))) : Nat → am_C → Option am_R
  | 0, _ => none
  | n + 1, q => am_do (am_ex J ml df n) (am_ex J ml df n) (am_ex J ml df n) (am_one J ml df q)
theorem am_do_mono {f f' g g' h h' : am_C → Option am_R} (hf : ∀ q r, f q = some r → f' q = some r) (hg : ∀ q r, g q = some r → g' q = some r) (hh : ∀ q r, h q = some r → h' q = some r) (o : am_O) (r : am_R) (e : am_do f g h o = some r) : am_do f' g' h' o = some r := by
  rcases o with _ | ⟨⟨o, x, y, q, q'⟩⟩ | ⟨⟨i, n, q⟩⟩ | q | q | r' | ⟨q, mi, cs, ls, st⟩
  · cases e
  · cases o <;> (simp only [am_do, am_if] at e ⊢; split <;> rename_i hc <;> (first | rw [if_pos hc] at e | rw [if_neg hc] at e) <;> first | exact hg _ _ e | exact hf _ _ e)
  · simp only [am_do] at e ⊢
    split
    · rename_i hc; rw [if_pos hc] at e; cases e
    · rename_i hc; rw [if_neg hc] at e; exact hf _ _ e
  · exact hf _ _ e
  · exact hg _ _ e
  · exact e
  · simp only [am_do] at e ⊢
    obtain ⟨u, h1, h2⟩ := Option.bind_eq_some_iff.mp e
    rw [hh _ _ h1]
    exact hf _ _ h2
theorem am_ex_succ (J : am_J) (ml : Nat → Nat × Bool) (df : Nat → List (Option (Option Nat))) : ∀ (n : Nat) (q : am_C) (r : am_R), am_ex J ml df n q = some r → am_ex J ml df (n + 1) q = some r
  | 0, _, _, e => by cases e
  | n + 1, q, r, e => am_do_mono (am_ex_succ J ml df n) (am_ex_succ J ml df n) (am_ex_succ J ml df n) _ _ e
theorem am_ex_le (J : am_J) (ml : Nat → Nat × Bool) (df : Nat → List (Option (Option Nat))) {n m : Nat} (h : n ≤ m) {q : am_C} {r : am_R} (e : am_ex J ml df n q = some r) : am_ex J ml df m q = some r := by
  induction h with
  | refl => exact e
  | step _ ih => exact am_ex_succ J ml df _ _ _ ih
/-- what a run comes to -/
noncomputable def am_run (J : am_J) (ml : Nat → Nat × Bool) (df : Nat → List (Option (Option Nat))) (q : am_C) : Option am_R := @dite (Option am_R) (∃ r : am_R, ∃ n : Nat, am_ex J ml df n q = some r) (Classical.propDecidable _) (fun h => some (Classical.choose h)) (fun _ => none)
section AM2
variable {J : am_J} {ml : Nat → Nat × Bool} {df : Nat → List (Option (Option Nat))}
theorem am_run_of {q : am_C} {r : am_R} (h : ∃ n, am_ex J ml df n q = some r) : am_run J ml df q = some r := by
  have hx : ∃ r : am_R, ∃ n : Nat, am_ex J ml df n q = some r := ⟨r, h⟩
  unfold am_run
  rw [dif_pos hx]
  obtain ⟨n, e1⟩ := h
  obtain ⟨m, e2⟩ := Classical.choose_spec hx
  rcases Nat.le_total n m with g | g
  · exact (am_ex_le J ml df g e1).symm.trans e2 ▸ rfl
  · have := e1.symm.trans (am_ex_le J ml df g e2)
    exact this.symm ▸ rfl
theorem am_run_to {q : am_C} {r : am_R} (h : am_run J ml df q = some r) : ∃ n, am_ex J ml df n q = some r := by
  unfold am_run at h
  split at h
  · rename_i hx
    cases h
    exact Classical.choose_spec hx
  · cases h
theorem am_do_run (o : am_O) (r : am_R) (h : am_do (am_run J ml df) (am_run J ml df) (am_run J ml df) o = some r) : ∃ n, am_do (am_ex J ml df n) (am_ex J ml df n) (am_ex J ml df n) o = some r := by
  rcases o with _ | ⟨⟨o, x, y, q, q'⟩⟩ | ⟨⟨i, n, q⟩⟩ | q | q | r' | ⟨q, mi, cs, ls, st⟩
  · cases h
  · cases o <;> (simp only [am_do, am_if] at h ⊢; split at h <;> rename_i hc <;> obtain ⟨n, e⟩ := am_run_to h <;> exact ⟨n, by (first | rw [if_pos hc] | rw [if_neg hc]); exact e⟩)
  · simp only [am_do] at h ⊢
    split at h
    · cases h
    · rename_i hc
      obtain ⟨n, e⟩ := am_run_to h
      exact ⟨n, by rw [if_neg hc]; exact e⟩
  · exact am_run_to h
  · exact am_run_to h
  · exact ⟨0, h⟩
  · simp only [am_do] at h ⊢
    obtain ⟨u, h1, h2⟩ := Option.bind_eq_some_iff.mp h
    obtain ⟨n, e1⟩ := am_run_to h1
    obtain ⟨m, e2⟩ := am_run_to h2
    refine ⟨n + m, ?_⟩
    rw [am_ex_le J ml df (Nat.le_add_right n m) e1]
    exact am_ex_le J ml df (Nat.le_add_left m n) e2
theorem am_run_eq (q : am_C) : am_run J ml df q = am_do (am_run J ml df) (am_run J ml df) (am_run J ml df) (am_one J ml df q) := by
  have h1 : ∀ r, am_run J ml df q = some r → am_do (am_run J ml df) (am_run J ml df) (am_run J ml df) (am_one J ml df q) = some r := by
    intro r h
    obtain ⟨n, e⟩ := am_run_to h
    cases n with
    | zero => cases e
    | succ n => exact am_do_mono (fun q r h => am_run_of ⟨n, h⟩) (fun q r h => am_run_of ⟨n, h⟩) (fun q r h => am_run_of ⟨n, h⟩) _ _ e
  have h2 : ∀ r, am_do (am_run J ml df) (am_run J ml df) (am_run J ml df) (am_one J ml df q) = some r → am_run J ml df q = some r := by
    intro r h
    obtain ⟨n, e⟩ := am_do_run _ _ h
    exact am_run_of ⟨n + 1, e⟩
  cases ha : am_run J ml df q with
  | some r => exact (h1 r ha).symm
  | none =>
    cases hb : am_do (am_run J ml df) (am_run J ml df) (am_run J ml df) (am_one J ml df q) with
    | none => rfl
    | some r => rw [h2 r hb] at ha; cases ha
end AM2
/-- at most n instructions further on, up to the next jump -/
noncomputable def am_go (J : am_J) (ml : Nat → Nat × Bool) (df : Nat → List (Option (Option Nat))) : Nat → am_C → Option am_R
  | 0, q => am_run J ml df q
  | n + 1, q => am_do (am_go J ml df n) (am_run J ml df) (am_run J ml df) (am_one J ml df q)
theorem am_go_eq {J : am_J} {ml : Nat → Nat × Bool} {df : Nat → List (Option (Option Nat))} (n : Nat) (q : am_C) : am_run J ml df q = am_go J ml df n q := by
  have h : ∀ n, am_go J ml df n = am_run J ml df := by
    intro n
    induction n with
    | zero => rfl
    | succ n ih => funext q; show am_do (am_go J ml df n) _ _ _ = _; rw [ih]; exact (am_run_eq q).symm
  rw [h n]
/-! what is made stays: the shapes grow -/
def am_s1 : am_Sh → Nat
  | .inl (_, n, _) => n
  | .inr (_, fs) => fs.length
def am_sl (sh : List am_Sh) : Nat := (sh.map am_s1).sum
def am_le (sh sh' : List am_Sh) : Prop := sh.length ≤ sh'.length ∧ am_sl sh ≤ am_sl sh' ∧ ∀ (k : Nat) (x : FieldType × Nat × Option Nat), sh[k]? = some (.inl x) → sh'[k]? = some (.inl x)
theorem am_le.rf (sh : List am_Sh) : am_le sh sh := ⟨Nat.le_refl _, Nat.le_refl _, fun _ _ h => h⟩
theorem am_le.tr {a b c : List am_Sh} (h : am_le a b) (g : am_le b c) : am_le a c := ⟨Nat.le_trans h.1 g.1, Nat.le_trans h.2.1 g.2.1, fun k x e => g.2.2 k x (h.2.2 k x e)⟩
theorem am_sl_app (a b : List am_Sh) : am_sl (a ++ b) = am_sl a + am_sl b := by
  unfold am_sl
  rw [List.map_append, List.sum_append]
theorem am_le_app (a b : List am_Sh) : am_le a (a ++ b) := ⟨by rw [List.length_append]; omega, by rw [am_sl_app]; omega, fun k x h => by rw [List.getElem?_append_left (List.getElem?_eq_some_iff.mp h).1]; exact h⟩
theorem am_sl_set (sh : List am_Sh) (a : Nat) (q : am_Sh) (h : ∀ p, sh[a]? = some p → am_s1 q = am_s1 p) : am_sl (sh.set a q) = am_sl sh := by
  induction sh generalizing a with
  | nil => rfl
  | cons x r ih =>
    cases a with
    | zero =>
      have := h x rfl
      simp only [List.set_cons_zero, am_sl, List.map_cons, List.sum_cons, this]
    | succ a =>
      have := ih a (fun p hp => h p (by simpa using hp))
      simp only [am_sl] at this
      simp only [List.set_cons_succ, am_sl, List.map_cons, List.sum_cons, this]
theorem am_setf_eq (sh : List am_Sh) (a k : Nat) (x : Option (Option Nat)) : (am_setf sh a k x).length = sh.length ∧ am_sl (am_setf sh a k x) = am_sl sh := by
  unfold am_setf
  split
  · rename_i c fs hq
    refine ⟨List.length_set, am_sl_set _ _ _ fun p hp => ?_⟩
    cases hq.symm.trans hp
    simp [am_s1]
  · exact ⟨rfl, rfl⟩
theorem am_setf_in (sh : List am_Sh) (a k : Nat) (x : Option (Option Nat)) (i : Nat) (q : FieldType × Nat × Option Nat) (h : sh[i]? = some (.inl q)) : (am_setf sh a k x)[i]? = some (.inl q) := by
  unfold am_setf
  split
  · rename_i c fs hq
    rw [List.getElem?_set_ne (fun e => by subst e; rw [hq] at h; cases h)]
    exact h
  · exact h
theorem am_le_setf (sh : List am_Sh) (a k : Nat) (x : Option (Option Nat)) : am_le sh (am_setf sh a k x) := ⟨by rw [(am_setf_eq sh a k x).1]; exact Nat.le_refl _, by rw [(am_setf_eq sh a k x).2]; exact Nat.le_refl _, am_setf_in sh a k x⟩
/-- each state that comes next holds P, each end Q -/
def am_all (P : am_C → Prop) (Q : am_R → Prop) : am_O → Prop
  | none => True
  | some (.inl (_, _, _, q, r)) => P q ∧ P r
  | some (.inr (.inl (_, _, q))) => P q
  | some (.inr (.inr (.inl q))) => P q
  | some (.inr (.inr (.inr (.inl q)))) => P q
  | some (.inr (.inr (.inr (.inr (.inl r))))) => Q r
  | some (.inr (.inr (.inr (.inr (.inr (q, _)))))) => P q
theorem am_all_i1 {P : am_C → Prop} {Q : am_R → Prop} {st : List am_V} {k : Int32 → List am_V → am_O} (h : ∀ x r, am_all P Q (k x r)) : am_all P Q (am_i1 st k) := by
  unfold am_i1
  split
  · exact h _ _
  · trivial
theorem am_all_i2 {P : am_C → Prop} {Q : am_R → Prop} {st : List am_V} {k : Int32 → Int32 → List am_V → am_O} (h : ∀ x y r, am_all P Q (k x y r)) : am_all P Q (am_i2 st k) := by
  unfold am_i2
  split
  · exact h _ _ _
  · trivial
theorem am_all_l2 {P : am_C → Prop} {Q : am_R → Prop} {st : List am_V} {k : Int64 → Int64 → List am_V → am_O} (h : ∀ x y r, am_all P Q (k x y r)) : am_all P Q (am_l2 st k) := by
  unfold am_l2
  split
  · exact h _ _ _
  · trivial
theorem am_one_grow (J : am_J) (ml : Nat → Nat × Bool) (df : Nat → List (Option (Option Nat))) (q : am_C) : am_all (fun q' => am_le q.2.2.2.2.1 q'.2.2.2.2.1) (fun r => am_le q.2.2.2.2.1 r.2.1) (am_one J ml df q) := by
  obtain ⟨mi, cs, ls, st, sh, s⟩ := q
  have rf := am_le.rf sh
  cases cs with
  | nil => trivial
  | cons i cs =>
    obtain ⟨pc, ins, len, a, b, c, v⟩ := i
    unfold am_one
    dsimp only
    repeat' first
      | exact rf
      | exact ⟨rf, rf⟩
      | exact am_le_app _ _
      | exact am_le_setf _ _ _ _
      | trivial
      | (refine am_all_i1 fun _ _ => ?_)
      | (refine am_all_i2 fun _ _ _ => ?_)
      | (refine am_all_l2 fun _ _ _ => ?_)
      | split
theorem am_ex_grow (J : am_J) (ml : Nat → Nat × Bool) (df : Nat → List (Option (Option Nat))) : ∀ (n : Nat) (q : am_C) (r : am_R), am_ex J ml df n q = some r → am_le q.2.2.2.2.1 r.2.1
  | 0, _, _, h => by cases h
  | n + 1, q, r, h => by
    have ih := am_ex_grow J ml df n
    have g := am_one_grow J ml df q
    change am_do _ _ _ (am_one J ml df q) = some r at h
    generalize am_one J ml df q = o at g h
    rcases o with _ | ⟨⟨o, x, y, q1, q2⟩⟩ | ⟨⟨i, n, q1⟩⟩ | q1 | q1 | r1 | ⟨q1, mi, cs, ls, st⟩
    · cases h
    · cases o <;> (simp only [am_do, am_if] at h; split at h <;> first | exact g.1.tr (ih _ _ h) | exact g.2.tr (ih _ _ h))
    · simp only [am_do] at h
      split at h
      · cases h
      · exact am_le.tr g (ih _ _ h)
    · exact am_le.tr g (ih _ _ h)
    · exact am_le.tr g (ih _ _ h)
    · cases h
      exact g
    · simp only [am_do] at h
      obtain ⟨u, h1, h2⟩ := Option.bind_eq_some_iff.mp h
      exact am_le.tr g (am_le.tr (ih _ _ h1) (ih _ _ h2))
/-- an answer is no row -/
theorem am_one_rv (J : am_J) (ml : Nat → Nat × Bool) (df : Nat → List (Option (Option Nat))) (q : am_C) : am_all (fun _ => True) (fun r => ∀ k j, r.1 ≠ some (.inr (.inr (k, some j)))) (am_one J ml df q) := by
  obtain ⟨mi, cs, ls, st, sh, s⟩ := q
  cases cs with
  | nil => trivial
  | cons i cs =>
    obtain ⟨pc, ins, len, a, b, c, v⟩ := i
    unfold am_one
    dsimp only
    repeat' first
      | trivial
      | exact ⟨trivial, trivial⟩
      | exact fun _ _ e => by cases e
      | (refine am_all_i1 fun _ _ => ?_)
      | (refine am_all_i2 fun _ _ _ => ?_)
      | (refine am_all_l2 fun _ _ _ => ?_)
      | split
theorem am_ex_rv (J : am_J) (ml : Nat → Nat × Bool) (df : Nat → List (Option (Option Nat))) : ∀ (n : Nat) (q : am_C) (r : am_R), am_ex J ml df n q = some r → ∀ k j, r.1 ≠ some (.inr (.inr (k, some j)))
  | 0, _, _, h => by cases h
  | n + 1, q, r, h => by
    have ih := am_ex_rv J ml df n
    have g := am_one_rv J ml df q
    change am_do _ _ _ (am_one J ml df q) = some r at h
    generalize am_one J ml df q = o at g h
    rcases o with _ | ⟨⟨o, x, y, q1, q2⟩⟩ | ⟨⟨i, n, q1⟩⟩ | q1 | q1 | r1 | ⟨q1, mi, cs, ls, st⟩
    · cases h
    · cases o <;> (simp only [am_do, am_if] at h; split at h <;> exact ih _ _ h)
    · simp only [am_do] at h
      split at h
      · cases h
      · exact ih _ _ h
    · exact ih _ _ h
    · exact ih _ _ h
    · cases h
      exact g
    · simp only [am_do] at h
      obtain ⟨u, h1, h2⟩ := Option.bind_eq_some_iff.mp h
      exact ih _ _ h2
