/-! A PURE MACHINE: numbers for objects, a list for the locals; what it does the machine does (parts 11 ..) -/
abbrev qE : Type := (Nat × Nat × (Nat → Value)) ⊕ (Nat × List Value)
abbrev qH : Type := (Nat → Option qE) × Nat × Nat
abbrev qL : Type := List (Nat × Value)
def q_get (env : qL) (i : Nat) : Option Value := (env.find? (fun q => q.1 == i)).map (fun q => q.2)
def q_set (env : qL) (i : Nat) (v : Value) : qL := (i, v) :: env.filter (fun q => !(q.1 == i) && !(q.1 + 1 == i && q.2.category == 2))
def q_set2 (env : qL) (i : Nat) (v : Value) : qL := (i, v) :: env.filter (fun q => !(q.1 == i) && (!(q.1 == i + 1) && !(q.1 + 1 == i && q.2.category == 2)))
/-- what touches the operand stack alone -/
def q_ii (f : Int32 → Int32 → Int32) : List Value → Option (List Value)
  | .int y :: .int x :: r => some (.int (f x y) :: r)
  | _ => none
def q_ll (f : Int64 → Int64 → Int64) : List Value → Option (List Value)
  | .long y :: .long x :: r => some (.long (f x y) :: r)
  | _ => none
def q_li (f : Int64 → Int32 → Int64) : List Value → Option (List Value)
  | .int y :: .long x :: r => some (.long (f x y) :: r)
  | _ => none
def q_div (f : Int32 → Int32 → Int32) : List Value → Option (List Value)
  | .int y :: .int x :: r => if y = 0 then none else some (.int (f x y) :: r)
  | _ => none
def q_op (i : Instr) (st : List Value) : Option (List Value) := match i with
  | .iconst k => some (.int (Int32.ofInt k) :: st)
  | .bipush k => some (.int (Int8.ofInt k).toInt32 :: st)
  | .sipush k => some (.int (Int16.ofInt k).toInt32 :: st)
  | .lconst k => some (.long (Int64.ofNat (k : Nat)) :: st)
  | .iadd => q_ii (fun x y => x + y) st
  | .isub => q_ii (fun x y => x - y) st
  | .imul => q_ii (fun x y => x * y) st
  | .iand => q_ii (fun x y => x &&& y) st
  | .ior => q_ii (fun x y => x ||| y) st
  | .ixor => q_ii (fun x y => x ^^^ y) st
  | .ishl => q_ii (fun x y => x <<< (y &&& 31)) st
  | .ishr => q_ii (fun x y => x >>> (y &&& 31)) st
  | .iushr => q_ii (fun x y => (x.toUInt32 >>> (y.toUInt32 &&& Int32.toUInt32 31)).toInt32) st
  | .idiv => q_div (fun x y => x / y) st
  | .irem => q_div (fun x y => x - x / y * y) st
  | .land => q_ll (fun x y => x &&& y) st
  | .lor => q_ll (fun x y => x ||| y) st
  | .lxor => q_ll (fun x y => x ^^^ y) st
  | .lshl => q_li (fun x y => x <<< (y.toInt64 &&& 63)) st
  | .lshr => q_li (fun x y => x >>> (y.toInt64 &&& 63)) st
  | .lcmp => match st with
    | .long y :: .long x :: r => some (.int (lg_cmp x y) :: r)
    | _ => none
  | .i2l => match st with
    | .int x :: r => some (.long x.toInt64 :: r)
    | _ => none
  | .i2b => match st with
    | .int x :: r => some (.int x.toInt8.toInt32 :: r)
    | _ => none
  | .dup => match st with
    | .int x :: r => some (.int x :: .int x :: r)
    | .ref x :: r => some (.ref x :: .ref x :: r)
    | _ => none
  | .pop => match st with
    | .int _ :: r => some r
    | .ref _ :: r => some r
    | _ => none
  | .dup2 => match st with
    | .int x :: .ref y :: r => some (.int x :: .ref y :: .int x :: .ref y :: r)
    | .int x :: .int y :: r => some (.int x :: .int y :: .int x :: .int y :: r)
    | _ => none
  | _ => none
def q_ld (env : qL) (i : Nat) (st : List Value) : Option (qL × List Value) := match q_get env i with
  | some v => some (env, v :: st)
  | none => none
def q_isI : Value → Bool
  | .int _ => true
  | _ => false
def q_isL : Value → Bool
  | .long _ => true
  | _ => false
def q_isA : Value → Bool
  | .ref _ => true
  | _ => false
def q_ldk (ok : Value → Bool) (env : qL) (i : Nat) (st : List Value) : Option (qL × List Value) := match q_get env i with
  | some v => if ok v = true then some (env, v :: st) else none
  | none => none
def q_st1 (ok : Value → Bool) (nL : Nat) (env : qL) (i : Nat) (st : List Value) : Option (qL × List Value) := match st with
  | v :: r => if ok v = true ∧ i < nL then some (q_set env i v, r) else none
  | [] => none
def q_st2 (nL : Nat) (env : qL) (i : Nat) (st : List Value) : Option (qL × List Value) := match st with
  | v :: r => if q_isL v = true ∧ i + 1 < nL then some (q_set2 env i v, r) else none
  | [] => none
/-- loads and stores of locals -/
def q_loc (nL : Nat) (i : Instr) (len : Nat) (env : qL) (st : List Value) : Option (qL × List Value) := match i with
  | .iload_n k => q_ldk q_isI env (k : Nat) st
  | .iload k => q_ldk q_isI env k st
  | .lload_n k => q_ldk q_isL env (k : Nat) st
  | .lload k => q_ldk q_isL env k st
  | .aload_n k => q_ldk q_isA env (k : Nat) st
  | .aload k => q_ldk q_isA env k st
  | .istore_n k => q_st1 q_isI nL env (k : Nat) st
  | .istore k => q_st1 q_isI nL env k st
  | .astore_n k => q_st1 q_isA nL env (k : Nat) st
  | .astore k => q_st1 q_isA nL env k st
  | .lstore_n k => q_st2 nL env (k : Nat) st
  | .lstore k => q_st2 nL env k st
  | .iinc k n => match q_get env k with
    | some (.int x) => if k < nL ∧ len = 3 then some (q_set env k (.int (x + Int32.ofInt n)), st) else none
    | _ => none
  | _ => none
def q_tgt (pc : Nat) (off : Int) : Option Nat := if 0 ≤ (pc : Int) + off then some ((pc : Int) + off).toNat else none
def q_cmp (k : ClassFile.Cond) (x y : Int32) : Bool := match k with
  | .eq => decide (x = y)
  | .ne => decide (¬ x = y)
  | .lt => decide (x < y)
  | .ge => decide (y ≤ x)
  | .gt => decide (y < x)
  | .le => decide (x ≤ y)
def q_br (c : Bool) (pc : Nat) (off : Int) (r : List Value) : Option (Nat × List Value) := match q_tgt pc off with
  | some t => some (if c = true then t else pc + 3, r)
  | none => none
/-- branches -/
def q_jmp (i : Instr) (pc : Nat) (st : List Value) : Option (Nat × List Value) := match i with
  | .goto off => match q_tgt pc off with
    | some t => some (t, st)
    | none => none
  | .if_icmp k off => match st with
    | .int y :: .int x :: r => q_br (q_cmp k x y) pc off r
    | _ => none
  | .ifCond k off => match st with
    | .int x :: r => q_br (q_cmp k x 0) pc off r
    | _ => none
  | .ifnonnull off => match st with
    | .ref _ :: r => q_br true pc off r
    | .null :: r => q_br false pc off r
    | _ => none
  | .tableswitch dflt lo hi offs => match st with
    | .int x :: r => if x.toInt < lo ∨ hi < x.toInt then (q_tgt pc dflt).map (fun t => (t, r)) else match offs[(x.toInt - lo).toNat]? with
      | some off => (q_tgt pc off).map (fun t => (t, r))
      | none => none
    | _ => none
  | .lookupswitch dflt ps => match st with
    | .int x :: r => if (ps.toList.zip (ps.toList.drop 1)).all (fun (a, next) => a.1 < next.1) = true then (q_tgt pc (Op.lookupswitch.offset ps.toList dflt x.toInt)).map (fun t => (t, r)) else none
    | _ => none
  | _ => none
