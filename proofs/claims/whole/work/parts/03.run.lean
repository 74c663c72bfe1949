/-! the small machine's heap, calls and run, over the tables of part 02 -/
def mv_atT : ClassFile.ArrayType → Nat
  | .int => 0
  | .long => 1
  | .byte => 2
  | .boolean => 3
  | _ => 99
def mv_zero (t : Nat) : mv_A := if t = 1 then .inr (.inl (fun _ => 0)) else if t < 4 then .inl (fun _ => 0) else .inr (.inr (fun _ => none))
def mv_dflt (ty : FieldType) : Value := match ty with
  | .int => .int 0
  | .boolean => .int 0
  | .long => .long 0
  | _ => .null
def mv_nf (ci : Nat) : List (FieldType × Bool) := (mv_fs[ci]?).getD []
def mv_gf (n : Nat) (a : Nat) (h : mv_H) : Option Value := match h[a]? with
  | some (.inr (ci, fs)) => if ci = n / 256 ∧ 4 ≤ a ∧ n % 256 < (mv_nf ci).length then fs[n % 256]? else none
  | _ => none
def mv_pf (n : Nat) (v : Value) (a : Nat) (h : mv_H) : Option mv_H := match h[a]? with
  | some (.inr (ci, fs)) => match (mv_nf ci)[n % 256]? with
    | some (ty, _) => if ci = n / 256 ∧ 4 ≤ a ∧ n % 256 < fs.length ∧ mv_fit ty v = true then some (h.set a (.inr (ci, fs.set (n % 256) v))) else none
    | none => none
  | _ => none
def mv_ial (i : Int32) (a : Nat) (h : mv_H) : Option Value := match h[a]? with
  | some (.inl (t, n, .inl f)) => if t = 0 ∧ (a = 0 ∨ 4 ≤ a) ∧ mv_in i n then some (.int (f i.toNatClampNeg)) else none
  | _ => none
def mv_bal (i : Int32) (a : Nat) (h : mv_H) : Option Value := match h[a]? with
  | some (.inl (t, n, .inl f)) => if (t = 2 ∨ t = 3) ∧ 4 ≤ a ∧ mv_in i n then some (.int (f i.toNatClampNeg)) else none
  | _ => none
def mv_lal (i : Int32) (a : Nat) (h : mv_H) : Option Value := match h[a]? with
  | some (.inl (t, n, .inr (.inl f))) => if t = 1 ∧ 4 ≤ a ∧ mv_in i n then some (.long (f i.toNatClampNeg)) else none
  | _ => none
def mv_aal (i : Int32) (a : Nat) (h : mv_H) : Option Value := match h[a]? with
  | some (.inl (t, n, .inr (.inr f))) => if (t = 4 ∨ t = 5) ∧ 4 ≤ a ∧ mv_in i n then some (mv_val (f i.toNatClampNeg)) else none
  | _ => none
def mv_len (a : Nat) (h : mv_H) : Option Value := match h[a]? with
  | some (.inl (t, n, _)) => if t < 6 ∧ (a = 0 ∨ 4 ≤ a) then some (.int (Int32.ofNat n)) else none
  | _ => none
def mv_ias (x i : Int32) (a : Nat) (h : mv_H) : Option mv_H := match h[a]? with
  | some (.inl (t, n, .inl f)) => if t = 0 ∧ 4 ≤ a ∧ mv_in i n then some (h.set a (.inl (t, n, .inl (mv_up f i.toNatClampNeg x)))) else none
  | _ => none
def mv_bas (x i : Int32) (a : Nat) (h : mv_H) : Option mv_H := match h[a]? with
  | some (.inl (t, n, .inl f)) => if (t = 2 ∨ t = 3) ∧ 4 ≤ a ∧ mv_in i n then some (h.set a (.inl (t, n, .inl (mv_up f i.toNatClampNeg (vp_nar (mv_ty t) x))))) else none
  | _ => none
def mv_las (x : Int64) (i : Int32) (a : Nat) (h : mv_H) : Option mv_H := match h[a]? with
  | some (.inl (t, n, .inr (.inl f))) => if t = 1 ∧ 4 ≤ a ∧ mv_in i n then some (h.set a (.inl (t, n, .inr (.inl (mv_up f i.toNatClampNeg x))))) else none
  | _ => none
/-- the class whose objects an array of references holds -/
def mv_el : Nat → Nat
  | 4 => 0
  | _ => 8
def mv_aas (v : Nat) (i : Int32) (a : Nat) (h : mv_H) : Option mv_H := match h[a]? with
  | some (.inl (t, n, .inr (.inr f))) => match h[v]? with
    | some (.inr (ci, _)) => if (t = 4 ∨ t = 5) ∧ 4 ≤ a ∧ 4 ≤ v ∧ ci = mv_el t ∧ mv_in i n then some (h.set a (.inl (t, n, .inr (.inr (mv_up f i.toNatClampNeg (some v)))))) else none
    | _ => none
  | _ => none
def mv_newA (t : Nat) (n : Int32) (st : List Value) (h : mv_H) : Option (List Value × mv_H) :=
  if t < 6 ∧ ¬ n < 0 ∧ n.toNatClampNeg ≤ 60000000 then some (.ref h.length :: st, h ++ [.inl (t, n.toNatClampNeg, mv_zero t)]) else none
def mv_psh1 (r : Option Value) (st : List Value) (h : mv_H) : Option (List Value × mv_H) := match r with
  | some v => some (v :: st, h)
  | none => none
def mv_put1 (r : Option mv_H) (st : List Value) : Option (List Value × mv_H) := match r with
  | some h => some (st, h)
  | none => none
def mv_heap (ins : ClassFile.Instr) (x : Nat) (st : List Value) (h : mv_H) : Option (List Value × mv_H) := match ins with
  | .getfield _ => match st with
    | .ref a :: st => mv_psh1 (mv_gf x a h) st h
    | _ => none
  | .putfield _ => match st with
    | v :: .ref a :: st => mv_put1 (mv_pf x v a h) st
    | _ => none
  | .iaload => match st with
    | .int i :: .ref a :: st => mv_psh1 (mv_ial i a h) st h
    | _ => none
  | .baload => match st with
    | .int i :: .ref a :: st => mv_psh1 (mv_bal i a h) st h
    | _ => none
  | .laload => match st with
    | .int i :: .ref a :: st => mv_psh1 (mv_lal i a h) st h
    | _ => none
  | .aaload => match st with
    | .int i :: .ref a :: st => mv_psh1 (mv_aal i a h) st h
    | _ => none
  | .arraylength => match st with
    | .ref a :: st => mv_psh1 (mv_len a h) st h
    | _ => none
  | .iastore => match st with
    | .int y :: .int i :: .ref a :: st => mv_put1 (mv_ias y i a h) st
    | _ => none
  | .bastore => match st with
    | .int y :: .int i :: .ref a :: st => mv_put1 (mv_bas y i a h) st
    | _ => none
  | .lastore => match st with
    | .long y :: .int i :: .ref a :: st => mv_put1 (mv_las y i a h) st
    | _ => none
  | .aastore => match st with
    | .ref v :: .int i :: .ref a :: st => mv_put1 (mv_aas v i a h) st
    | _ => none
  | .newarray ty => match st with
    | .int n :: st => if mv_atT ty < 4 then mv_newA (mv_atT ty) n st h else none
    | _ => none
  | .anewarray _ => match st with
    | .int n :: st => if x = 4 ∨ x = 5 then mv_newA x n st h else none
    | _ => none
  | .new _ => if x < mv_fs.length then some (.ref h.length :: st, h ++ [.inr (x, (mv_nf x).map fun q => mv_dflt q.1)]) else none
  | _ => none
def mv_ret (ins : ClassFile.Instr) (rt : Option FieldType) (st : List Value) : Option (Option Value) := match ins with
  | .ireturn => match st, rt with
    | [.int v], some ty => if (ty = .int ∨ ty = .boolean) ∧ mv_fit ty (.int v) = true then some (some (.int v)) else none
    | _, _ => none
  | .lreturn => match st, rt with
    | [.long v], some .long => some (some (.long v))
    | _, _ => none
  | .return_ => match st, rt with
    | [], none => some none
    | _, _ => none
  | _ => none
def mv_inv (ins : ClassFile.Instr) : Option Nat := match ins with
  | .invokestatic _ => some 0
  | .invokevirtual _ => some 1
  | .invokespecial _ => some 2
  | _ => none
/-- the receiver of a virtual method is an object of its class -/
def mv_recv (ci : Nat) (as : List Value) (h : mv_H) : Bool := match as with
  | .ref a :: _ => match h[a]? with
    | some (.inr (c, _)) => decide (c = ci ∧ 4 ≤ a)
    | _ => false
  | _ => false
abbrev mv_Call : Type := Nat → List Value → mv_H → Option mv_R
/-- indexOf on what is left of a text, from place k on -/
def mv_ixf (c : Int32) : List Int32 → Nat → Int32
  | [], _ => -1
  | b :: l, k => if b = c then Int32.ofNat k else mv_ixf c l (k + 1)
def mv_tx (a : Nat) : List Int32 := (mv_txt[a - 1]?).getD []
/-- the three methods of String, on a constant -/
def mv_nat (j : Nat) (st : List Value) : Option (List Value) :=
  if j = 1000 then match st with
    | .ref a :: st => if 1 ≤ a ∧ a ≤ 3 then some (.int (Int32.ofNat (mv_tx a).length) :: st) else none
    | _ => none
  else if j = 1001 then match st with
    | .int i :: .ref a :: st => if 1 ≤ a ∧ a ≤ 3 ∧ mv_in i (mv_tx a).length then some (.int ((mv_tx a).getD i.toNatClampNeg 0) :: st) else none
    | _ => none
  else if j = 1002 then match st with
    | .int c :: .ref a :: st => if 1 ≤ a ∧ a ≤ 3 then some (.int (mv_ixf c (mv_tx a) 0) :: st) else none
    | _ => none
  else none
/-- abs, max, min of Math -/
def mv_mth (j : Nat) (st : List Value) : Option (List Value) :=
  if j = 1003 then match st with
    | .int x :: st => some (.int (if 0 ≤ x then x else 0 - x) :: st)
    | _ => none
  else if j = 1004 then match st with
    | .int y :: .int x :: st => some (.int (if x < y then y else x) :: st)
    | _ => none
  else if j = 1005 then match st with
    | .int y :: .int x :: st => some (.int (if y < x then y else x) :: st)
    | _ => none
  else none
/-- a call of a method of the tables: its number, its arguments, the rest of the stack -/
def mv_arg (kd j : Nat) (st : List Value) (h : mv_H) : Option (List Value × List Value) := match mv_mc[j]? with
  | some ((_, _, _, _, ci, na, k2), _) =>
    if kd = k2 ∧ na ≤ st.length ∧ ((st.drop na).map fun v => v.category).sum ≤ 8 ∧ (kd = 0 ∨ mv_recv ci (st.take na).reverse h = true) then some ((st.take na).reverse, st.drop na) else none
  | none => none
/-- how a call comes back: the rest of the stack with the answer on it, the heap -/
def mv_cll (call : mv_Call) (kd x : Nat) (st : List Value) (h : mv_H) : Option (List Value × mv_H) := match x with
  | 0 => if kd = 2 then match st with
      | .ref _ :: st => if (st.map fun v => v.category).sum ≤ 8 then some (st, h) else none
      | _ => none
    else none
  | j + 1 => if 1000 ≤ j then (if (st.map fun v => v.category).sum ≤ 8 then match (if kd = 1 then mv_nat j st else if kd = 0 then mv_mth j st else none) with
      | some st => some (st, h)
      | none => none else none)
    else match mv_arg kd j st h with
    | some (as, rest) => match call j as h with
      | some (r, h1) => some (r.toList ++ rest, h1)
      | none => none
    | none => none
def mv_find (pc : Nat) : List (Nat × ClassFile.Instr × Nat × Nat) → Option (ClassFile.Instr × Nat × Nat)
  | [] => none
  | q :: l => if q.1 = pc then some q.2 else mv_find pc l
/-- n steps at most of a frame -/
def mv_run (call : mv_Call) (code : mv_Cd) (rt : Option FieldType) : Nat → Nat → mv_L → List Value → mv_H → Option mv_R
  | 0, _, _, _, _ => none
  | n + 1, pc, l, st, h => match mv_find pc code with
    | none => none
    | some (ins, len, x) => match mv_psh ins x l with
      | some v => mv_run call code rt n (pc + len) l (v :: st) h
      | none => match mv_sto ins l st with
        | some (l1, st1) => mv_run call code rt n (pc + len) l1 st1 h
        | none => match mv_stk ins st with
          | some st1 => mv_run call code rt n (pc + len) l st1 h
          | none => match mv_heap ins x st h with
            | some (st1, h1) => mv_run call code rt n (pc + len) l st1 h1
            | none => match mv_br ins pc st with
              | some (b, t, st1) => if b = true then mv_run call code rt n t l st1 h else mv_run call code rt n (pc + 3) l st1 h
              | none => match mv_jmp ins pc st with
                | some (t, st1) => mv_run call code rt n t l st1 h
                | none => match mv_ret ins rt st with
                  | some r => some (r, h)
                  | none => match mv_inv ins with
                    | some kd => match mv_cll call kd x st h with
                      | some (st1, h1) => mv_run call code rt n (pc + 3) l st1 h1
                      | none => none
                    | none => none
/-- the locals at a method's entry -/
def mv_ent : List Value → Nat → mv_L
  | [], n => List.replicate n none
  | v :: vs, n => if v.category = 2 then some v :: none :: mv_ent vs (n - 2) else some v :: mv_ent vs (n - 1)
/-- how many slots arguments take -/
def mv_wd (vs : List Value) : Nat := (vs.map fun v => v.category).sum
/-- method j by depth d, with N steps at most a frame -/
def mv_ex (N : Nat) : Nat → mv_Call
  | 0 => fun _ _ _ => none
  | d + 1 => fun j as h => match mv_mc[j]? with
    | some ((_, _, nl, rt, _, na, _), code) => if as.length = na ∧ mv_wd as ≤ nl then mv_run (mv_ex N d) code rt N 0 (mv_ent as nl) [] h else none
    | none => none
-- how long an instruction is
def mv_il (ins : ClassFile.Instr) : Nat := match ins with
  | .bipush _ => 2
  | .ldc _ => 2
  | .iload _ => 2
  | .lload _ => 2
  | .aload _ => 2
  | .istore _ => 2
  | .lstore _ => 2
  | .astore _ => 2
  | .newarray _ => 2
  | .sipush _ => 3
  | .ldc_w _ => 3
  | .ldc2_w _ => 3
  | .iinc _ _ => 3
  | .getfield _ => 3
  | .putfield _ => 3
  | .ifCond _ _ => 3
  | .if_icmp _ _ => 3
  | .goto _ => 3
  | .invokevirtual _ => 3
  | .invokespecial _ => 3
  | .invokestatic _ => 3
  | .new _ => 3
  | .anewarray _ => 3
  | _ => 1
