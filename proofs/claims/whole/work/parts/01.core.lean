/-! A SMALL MACHINE (mv_): the same bytecode, run by a function over a list of cells; addresses are places in that list. What it answers the real machine answers (part 03 ..): the rest of the proof speaks of this function alone.
cells 0 .. 3 are old ones: 0 the script, 1 .. 3 the String constants; the others are new, the a-th at base + (a - 4). -/
abbrev mv_A : Type := (Nat → Int32) ⊕ (Nat → Int64) ⊕ (Nat → Option Nat)
/-- an array (number of its type, length, contents) or an object (number of its class, fields) -/
abbrev mv_E : Type := (Nat × Nat × mv_A) ⊕ (Nat × List Value)
abbrev mv_H : Type := List mv_E
abbrev mv_L : Type := List (Option Value)
abbrev mv_R : Type := Option Value × mv_H
def mv_get (l : mv_L) (i : Nat) : Option Value := match l[i]? with
  | some (some v) => some v
  | _ => none
def mv_clr (l : mv_L) (i : Nat) : mv_L := match i with
  | 0 => l
  | k + 1 => match mv_get l k with
    | some v => if v.category = 2 then l.set k none else l
    | none => l
def mv_st1 (l : mv_L) (i : Nat) (v : Value) : mv_L := (mv_clr l i).set i (some v)
def mv_st2 (l : mv_L) (i : Nat) (v : Value) : mv_L := ((mv_clr l i).set (i + 1) none).set i (some v)
def mv_fit (ty : FieldType) (v : Value) : Bool := match ty, v with
  | .int, .int _ => true
  | .long, .long _ => true
  | .boolean, .int x => x == 0 || x == 1
  | .object _, .ref _ => true
  | .object _, .null => true
  | .array _, .ref _ => true
  | .array _, .null => true
  | _, _ => false
/-- the types of arrays, by number -/
def mv_ty : Nat → FieldType
  | 0 => .int
  | 1 => .long
  | 2 => .byte
  | 3 => .boolean
  | 4 => .object "StraitHouse$Convention"
  | _ => .object "StraitHouse$Ship"
def mv_tgt (pc : Nat) (off : Int) : Option Nat := match (pc : Int) + off with
  | .ofNat t => some t
  | .negSucc _ => none
def mv_intL (l : mv_L) (i : Nat) : Option Value := match mv_get l i with
  | some (.int v) => some (.int v)
  | _ => none
def mv_longL (l : mv_L) (i : Nat) : Option Value := match mv_get l i with
  | some (.long v) => some (.long v)
  | _ => none
def mv_refL (l : mv_L) (i : Nat) : Option Value := match mv_get l i with
  | some (.ref v) => some (.ref v)
  | _ => none
/-- x: what a constant's number was resolved to; from 2 ^ 40 on a String constant -/
def mv_psh (ins : ClassFile.Instr) (x : Nat) (l : mv_L) : Option Value := match ins with
  | .iconst n => some (.int (Int32.ofInt n))
  | .bipush n => some (.int (Int8.ofInt n).toInt32)
  | .sipush n => some (.int (Int16.ofInt n).toInt32)
  | .lconst n => some (.long (Int64.ofNat (n : Nat)))
  | .ldc _ => if x < 1099511627776 then some (.int (Int32.ofNat x)) else some (.ref (x - 1099511627776))
  | .ldc_w _ => some (.int (Int32.ofNat x))
  | .ldc2_w _ => some (.long (Int64.ofNat x))
  | .iload_n k => mv_intL l k
  | .iload i => mv_intL l i
  | .lload_n k => mv_longL l k
  | .lload i => mv_longL l i
  | .aload_n k => mv_refL l k
  | .aload i => mv_refL l i
  | _ => none
def mv_stI (l : mv_L) (i : Nat) (st : List Value) : Option (mv_L × List Value) := match st with
  | .int v :: st => if i < l.length then some (mv_st1 l i (.int v), st) else none
  | _ => none
def mv_stL (l : mv_L) (i : Nat) (st : List Value) : Option (mv_L × List Value) := match st with
  | .long v :: st => if i + 1 < l.length then some (mv_st2 l i (.long v), st) else none
  | _ => none
def mv_stA (l : mv_L) (i : Nat) (st : List Value) : Option (mv_L × List Value) := match st with
  | .ref v :: st => if i < l.length then some (mv_st1 l i (.ref v), st) else none
  | _ => none
def mv_sto (ins : ClassFile.Instr) (l : mv_L) (st : List Value) : Option (mv_L × List Value) := match ins with
  | .istore_n k => mv_stI l k st
  | .istore i => mv_stI l i st
  | .lstore_n k => mv_stL l k st
  | .lstore i => mv_stL l i st
  | .astore_n k => mv_stA l k st
  | .astore i => mv_stA l i st
  | .iinc i n => match mv_get l i with
    | some (.int v) => some (mv_st1 l i (.int (v + Int32.ofInt n)), st)
    | _ => none
  | _ => none
def mv_bin (ins : ClassFile.Instr) (x y : Int32) : Option Int32 := match ins with
  | .iadd => some (x + y)
  | .isub => some (x - y)
  | .imul => some (x * y)
  | .iand => some (x &&& y)
  | .ior => some (x ||| y)
  | .ixor => some (x ^^^ y)
  | .ishl => some (x <<< (y &&& 31))
  | .ishr => some (x >>> (y &&& 31))
  | .iushr => some (x.toUInt32 >>> (y.toUInt32 &&& Int32.toUInt32 31)).toInt32
  | .idiv => if y = 0 then none else some (x / y)
  | .irem => if y = 0 then none else some (x - x / y * y)
  | _ => none
def mv_lbin (ins : ClassFile.Instr) (x y : Int64) : Option Value := match ins with
  | .ladd => some (.long (x + y))
  | .lmul => some (.long (x * y))
  | .lor => some (.long (x ||| y))
  | .lcmp => some (.int (lg_cmp x y))
  | _ => none
/-- what works on the stack alone -/
def mv_stk (ins : ClassFile.Instr) (st : List Value) : Option (List Value) := match ins with
  | .dup => match st with
    | v :: st => if v.category = 1 then some (v :: v :: st) else none
    | _ => none
  | .dup2 => match st with
    | v :: w :: st => if v.category = 1 ∧ w.category = 1 then some (v :: w :: v :: w :: st) else none
    | _ => none
  | .pop => match st with
    | v :: st => if v.category = 1 then some st else none
    | _ => none
  | .ineg => match st with
    | .int x :: st => some (.int (-x) :: st)
    | _ => none
  | .i2l => match st with
    | .int x :: st => some (.long x.toInt64 :: st)
    | _ => none
  | .l2i => match st with
    | .long x :: st => some (.int x.toInt32 :: st)
    | _ => none
  | .i2b => match st with
    | .int x :: st => some (.int x.toInt8.toInt32 :: st)
    | _ => none
  | .i2c => match st with
    | .int x :: st => some (.int (x.toUInt32 % 65536).toInt32 :: st)
    | _ => none
  | .lshl => match st with
    | .int y :: .long x :: st => some (.long (x <<< (y.toInt64 &&& 63)) :: st)
    | _ => none
  | ins => match st with
    | .int y :: .int x :: st => match mv_bin ins x y with
      | some z => some (.int z :: st)
      | none => none
    | .long y :: .long x :: st => match mv_lbin ins x y with
      | some z => some (z :: st)
      | none => none
    | _ => none
def mv_cond (c : ClassFile.Cond) (x y : Int32) : Bool := match c with
  | .eq => decide (x = y)
  | .ne => decide (x ≠ y)
  | .lt => decide (x < y)
  | .ge => decide (x ≥ y)
  | .gt => decide (x > y)
  | .le => decide (x ≤ y)
/-- a branch: whether it is taken, to where, the stack behind it -/
def mv_br (ins : ClassFile.Instr) (pc : Nat) (st : List Value) : Option (Bool × Nat × List Value) := match ins with
  | .ifCond c off => match st with
    | .int x :: st => match mv_tgt pc off with
      | some t => some (mv_cond c x 0, t, st)
      | none => none
    | _ => none
  | .if_icmp c off => match st with
    | .int y :: .int x :: st => match mv_tgt pc off with
      | some t => some (mv_cond c x y, t, st)
      | none => none
    | _ => none
  | _ => none
def mv_off (ins : ClassFile.Instr) (st : List Value) : Option (Int × List Value) := match ins with
  | .goto off => some (off, st)
  | .tableswitch dflt lo hi offs => match st with
    | .int x :: st => if x.toInt < lo ∨ hi < x.toInt then some (dflt, st) else match offs[(x.toInt - lo).toNat]? with
      | some off => some (off, st)
      | none => none
    | _ => none
  | .lookupswitch dflt ps => match st with
    | .int x :: st => if (ps.toList.zip (ps.toList.drop 1)).all (fun (a, next) => a.1 < next.1) = true then some (Op.lookupswitch.offset ps.toList dflt x.toInt, st) else none
    | _ => none
  | _ => none
def mv_jmp (ins : ClassFile.Instr) (pc : Nat) (st : List Value) : Option (Nat × List Value) := match mv_off ins st with
  | some (off, st) => match mv_tgt pc off with
    | some t => some (t, st)
    | none => none
  | none => none
/-- an index within -/
abbrev mv_in (i : Int32) (n : Nat) : Prop := ¬ (i < 0 ∨ n ≤ i.toNatClampNeg)
def mv_up {α : Type} (f : Nat → α) (k : Nat) (v : α) : Nat → α := fun j => if j = k then v else f j
def mv_val (r : Option Nat) : Value := match r with
  | none => .null
  | some a => .ref a
