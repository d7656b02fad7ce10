/-! The tables beside the code: methods, fields, calls, constants, classes; and what is looked at in an instruction. -/
/-- a method: name, code, (locals, class, parameters, frames, words for frames), result, has it long locals -/
abbrev am_Me : Type := MethodName × ByteArray × (Nat × Nat × Nat × Nat × Nat) × Option FieldType × Bool
/-- methods; fields (class, entry, class of the object, field, by the nest); calls (class, entry, callee, kind); constants (class, entry, value, long); classes (class, entry, class) -/
abbrev am_T : Type := List am_Me × List (Nat × Nat × Nat × Nat × Bool) × List (Nat × Nat × Nat × Nat) × List (Nat × Nat × Int32 × Bool) × List (Nat × Nat × Nat)
abbrev am_y (M : am_Me) : MethodName := M.1
abbrev am_by (M : am_Me) : ByteArray := M.2.1
abbrev am_mx (M : am_Me) : Nat := M.2.2.1.1
abbrev am_ow (M : am_Me) : Nat := M.2.2.1.2.1
abbrev am_np (M : am_Me) : Nat := M.2.2.1.2.2.1
abbrev am_fr (M : am_Me) : Nat := M.2.2.1.2.2.2.1
abbrev am_lo (M : am_Me) : Nat := M.2.2.1.2.2.2.2
abbrev am_re (M : am_Me) : Option FieldType := M.2.2.2.1
abbrev am_lg (M : am_Me) : Bool := M.2.2.2.2
def am_cn (o : Nat) : String := [RX0, RX1, RX2, RX3, RX4, RX5, RJ6, RJ9, RL].getD o ""
def am_tyf (ci k : Nat) : FieldType := [tyX0, tyX1, tyX2, tyX3, tyX4, tyX5].getD ci (fun _ => .int) k
def am_tbf (ci : Nat) : u_T := [TX0, TX1, TX2, TX3, TX4, TX5].getD ci TX0
def am_nf (ci : Nat) : Nat := [6, 4, 6, 5, 10, 26].getD ci 0
def am_dfs (ci : Nat) : List (Option (Option Nat)) := (List.range (am_nf ci)).map (fun k => match am_tyf ci k with
  | .object _ => some none
  | .array _ => some none
  | _ => none)
def lw_good : List Cond := lw_tbl.filter goodWord
def am_callok (T : am_T) (M : am_Me) (a n : Nat) : Bool := match T.1[a]? with
  | some M' => Nat.ble (am_fr M' + 1) (am_fr M) && (Nat.ble (8 + (am_mx M' + 11) + am_lo M') (am_lo M) && (Nat.beq (am_np M') n && Nat.ble (a + 2) T.1.length))
  | none => false
def am_isint : FieldType → Int32 → Bool
  | .int, v => v == 0
  | .boolean, v => v == 1
  | _, _ => false
def am_isrf : FieldType → Bool
  | .object _ => true
  | .array _ => true
  | _ => false
def am_lk (T : am_T) (M : am_Me) : am_I → Bool
  | (pc, ins, len, a, b, c, v) => match ins with
    | .iconst n => len == 1 && Int32.ofInt n == v
    | .bipush n => len == 2 && (Int8.ofInt n).toInt32 == v
    | .sipush n => len == 3 && (Int16.ofInt n).toInt32 == v
    | .ldc x => len == 2 && T.2.2.2.1[c]? == some (am_ow M, x, v, false)
    | .ldc_w x => len == 3 && T.2.2.2.1[c]? == some (am_ow M, x, v, false)
    | .ldc2_w x => len == 3 && T.2.2.2.1[c]? == some (am_ow M, x, v, true)
    | .lconst n => len == 1 && Int64.ofNat n.val == v.toInt64
    | .iload _ => len == 2
    | .iload_n _ => len == 1
    | .lload _ => len == 2
    | .lload_n _ => len == 1
    | .aload_n _ => len == 1
    | .istore i => len == 2 && (!am_lg M && Nat.blt i (am_mx M))
    | .istore_n i => len == 1 && (!am_lg M && Nat.blt i.val (am_mx M))
    | .lstore i => len == 2 && (am_lg M && Nat.blt (i + 1) (am_mx M))
    | .lstore_n i => len == 1 && (am_lg M && Nat.blt (i.val + 1) (am_mx M))
    | .astore_n i => len == 1 && (!am_lg M && Nat.blt i.val (am_mx M))
    | .iinc i n => len == 3 && (!am_lg M && (Nat.blt i (am_mx M) && Int32.ofInt n == v))
    | .iadd => len == 1
    | .isub => len == 1
    | .imul => len == 1
    | .iand => len == 1
    | .ior => len == 1
    | .ixor => len == 1
    | .ishl => len == 1
    | .ishr => len == 1
    | .iushr => len == 1
    | .idiv => len == 1
    | .irem => len == 1
    | .ineg => len == 1
    | .i2l => len == 1
    | .ladd => len == 1
    | .lsub => len == 1
    | .lmul => len == 1
    | .lcmp => len == 1
    | .dup => len == 1
    | .dup2 => len == 1
    | .ifCond _ o => len == 3 && (pc : Int) + o == (a : Int)
    | .if_icmp _ o => len == 3 && (pc : Int) + o == (a : Int)
    | .goto o => len == 3 && (pc : Int) + o == (a : Int)
    | .tableswitch d lo hi offs => decide (0 ≤ (pc : Int) + d) && (offs.toList.all (fun o => decide (0 ≤ (pc : Int) + o)) && decide (hi - lo < offs.toList.length))
    | .getfield x => len == 3 && (T.2.1[c]? == some (am_ow M, x, a, b, false) || T.2.1[c]? == some (am_ow M, x, a, b, true))
    | .putfield x => len == 3 && ((T.2.1[c]? == some (am_ow M, x, a, b, false) && (!(am_tbf a b).2.2.2 || ((am_y M).name == "<init>" && (am_tbf a b).1 == (am_y M).cls)) || (T.2.1[c]? == some (am_ow M, x, a, b, true) && !(am_tbf a b).2.2.2)) && (am_isint (am_tyf a b) v || (am_isrf (am_tyf a b) && v == 2)))
    | .iaload => len == 1
    | .baload => len == 1
    | .laload => len == 1
    | .aaload => len == 1
    | .iastore => len == 1
    | .bastore => len == 1
    | .lastore => len == 1
    | .arraylength => len == 1
    | .new x => len == 3 && (Nat.blt a 6 && T.2.2.2.2[c]? == some (am_ow M, x, a))
    | .newarray t => len == 2 && (decide (t = .int) || (decide (t = .boolean) || decide (t = .long)))
    | .multianewarray x d => len == 4 && (d == 2 && T.2.2.2.2[c]? == some (am_ow M, x, 99))
    | .invokevirtual x => len == 3 && ((T.2.2.1[c]? == some (am_ow M, x, a, 0) || T.2.2.1[c]? == some (am_ow M, x, a, 1)) && (am_callok T M a (b % 16 - 1) && (Nat.blt 0 (b % 16) && (match T.1[a]? with | some M' => Nat.beq (am_ow M') (b / 16) | none => false))))
    | .invokestatic x => len == 3 && ((T.2.2.1[c]? == some (am_ow M, x, a, 2) || T.2.2.1[c]? == some (am_ow M, x, a, 3)) && am_callok T M a b)
    | .invokespecial x => len == 3 && (match b with
      | 0 => Nat.ble 1 (am_fr M) && (Nat.ble 20 (am_lo M) && T.2.2.1[c]? == some (am_ow M, x, 0, 6))
      | b + 1 => (T.2.2.1[c]? == some (am_ow M, x, a, 4) || T.2.2.1[c]? == some (am_ow M, x, a, 5)) && am_callok T M a b)
    | .ireturn => len == 1 && (am_re M == some .int && a == 0 || am_re M == some .boolean && a == 1)
    | .lreturn => len == 1 && am_re M == some .long
    | .return_ => len == 1 && am_re M == none
    | _ => false
/-- the code from a pc on is what the method's bytes say -/
def am_cok (T : am_T) (M : am_Me) : List am_I → Nat → Prop
  | [], _ => True
  | (q, ins, len, r) :: cs, pc => q = pc ∧ ((ins = .nop ∧ len = 0) ∨ (decode (am_by M) q = .ok (ins, len) ∧ am_lk T M (q, ins, len, r) = true)) ∧ am_cok T M cs (pc + len)
/-- a method's own words -/
def am_wsM (M : am_Me) : List Cond := .code (am_y M) (am_by M) (am_mx M) (am_re M) :: lw_good
def am_host : String := RX4
/-- what the tables' rows stand for -/
def am_okT (T : am_T) : Prop :=
  (∀ i M, T.1[i]? = some M → (am_y M).cls = am_cn (am_ow M) ∧ (i + 2 ≤ T.1.length → Cond.code (am_y M) (am_by M) (am_mx M) (am_re M) ∈ lw_good ∧ plainFor (am_y M) = true ∧ Cond.initialized (am_y M).cls ∈ lw_good ∧ ((am_y M).cls ≠ "java/lang/invoke/MethodHandle" ∧ (am_y M).cls ≠ "java/lang/invoke/VarHandle") ∧ (parseMethodDescriptor (am_y M).desc).map (fun d => d.parameters.length) = some (am_np M))) ∧
  (∀ f ∈ T.2.1, f.2.2.1 < 6 ∧ f.2.2.2.1 < am_nf f.2.2.1 ∧ (if f.2.2.2.2 = true then Cond.fieldLinkNest (am_cn f.1) f.2.1 (am_cn f.2.2.1) (am_tbf f.2.2.1 f.2.2.2.1).2.1 (am_tbf f.2.2.1 f.2.2.2.1).2.2.1 am_host ∈ lw_tbl else Cond.fieldLink (am_cn f.1) f.2.1 (am_cn f.2.2.1) (am_tbf f.2.2.1 f.2.2.2.1).2.1 (am_tbf f.2.2.1 f.2.2.2.1).2.2.1 ∈ lw_good)) ∧
  (∀ q ∈ T.2.2.1, if q.2.2.2 = 6 then Cond.methodLink (am_cn q.1) q.2.1 objectInit ∈ lw_good else ∃ M, T.1[q.2.2.1]? = some M ∧ (if q.2.2.2 % 2 = 1 then Cond.methodLinkNest (am_cn q.1) q.2.1 (am_y M) am_host ∈ lw_tbl else Cond.methodLink (am_cn q.1) q.2.1 (am_y M) ∈ lw_good) ∧
    (if q.2.2.2 = 0 ∨ q.2.2.2 = 1 then Cond.instanceMethod (am_y M) ∈ lw_good ∧ Cond.selects (am_y M).cls (am_y M) (am_y M) ∈ lw_good ∧ am_ow M < 6 else if q.2.2.2 = 2 ∨ q.2.2.2 = 3 then Cond.static (am_y M) ∈ lw_good else (am_y M).name = "<init>" ∧ Cond.instanceMethod (am_y M) ∈ lw_good ∧ am_re M = none)) ∧
  (∀ k ∈ T.2.2.2.1, if k.2.2.2 = true then Cond.constantLong (am_cn k.1) k.2.1 k.2.2.1.toInt64 ∈ lw_good else Cond.constant (am_cn k.1) k.2.1 k.2.2.1 ∈ lw_good) ∧
  (∀ k ∈ T.2.2.2.2, if k.2.2 = 99 then Cond.classLink (am_cn k.1) k.2.1 "[[I" ∈ lw_good else k.2.2 < 6 ∧ Cond.classLink (am_cn k.1) k.2.1 (am_cn k.2.2) ∈ lw_good)
/-- what the classes' rows stand for -/
def am_okC : Prop := (∀ ci, ci < 6 → (∀ w ∈ u_ws (am_cn ci) (am_tbf ci) (am_nf ci), w ∈ lw_good) ∧ (∀ k, k < am_nf ci → parseFieldDescriptor (am_tbf ci k).2.2.1 = some (am_tyf ci k)) ∧ (∀ a, a < am_nf ci → ∀ b, b < am_nf ci → a ≠ b → (am_tbf ci a).2.1 ≠ (am_tbf ci b).2.1) ∧ (∀ k, k < am_nf ci → (am_tbf ci k).1 = am_cn ci) ∧ Cond.instantiable (am_cn ci) (am_nf ci) ∈ lw_good ∧ Cond.initialized (am_cn ci) ∈ lw_good) ∧
  Cond.instanceMethod objectInit ∈ lw_good ∧ Cond.code objectInit ⟨#[0xb1]⟩ 1 none ∈ lw_good ∧ Cond.arrayClass .int ∈ lw_good ∧ Cond.arrayClass .boolean ∈ lw_good ∧ Cond.arrayClass .long ∈ lw_good ∧ ∀ ci, ci < 6 → ∀ k, k < am_nf ci → defaultValue (am_tyf ci k) = (match am_tyf ci k with
      | .object _ => .null
      | .array _ => .null
      | _ => .int 0)
theorem am_cls_at {ci : Nat} (h : ci < 6) : am_cls[ci]? = some (am_cn ci, am_tbf ci, am_nf ci) := by
  rcases (show ci = 0 ∨ ci = 1 ∨ ci = 2 ∨ ci = 3 ∨ ci = 4 ∨ ci = 5 by omega) with rfl | rfl | rfl | rfl | rfl | rfl <;> rfl
