/-! THE MINI MACHINE: the law's program run over typed memory (ints, longs, references by role and place). Its soundness stands in a later part. -/
/-- memory: ints, longs, references; roles made, cells made, slots made -/
abbrev mj_M : Type := (Nat → Nat → Int32) × (Nat → Nat → Int64) × (Nat → Nat → Option Nat) × Nat × Nat × Nat
abbrev mj_M.I (M : mj_M) : Nat → Nat → Int32 := M.1
abbrev mj_M.L (M : mj_M) : Nat → Nat → Int64 := M.2.1
abbrev mj_M.F (M : mj_M) : Nat → Nat → Option Nat := M.2.2.1
abbrev mj_M.nr (M : mj_M) : Nat := M.2.2.2.1
abbrev mj_M.nc (M : mj_M) : Nat := M.2.2.2.2.1
abbrev mj_M.ns (M : mj_M) : Nat := M.2.2.2.2.2
def mj_up {α : Type} (f : Nat → Nat → α) (r i : Nat) (v : α) : Nat → Nat → α := fun r' i' => if r' = r then (if i' = i then v else f r' i') else f r' i'
abbrev mj_L : Type := List (Nat × Value)
/-- pc, locals, stack, memory -/
abbrev mj_C : Type := Nat × mj_L × List Value × mj_M
abbrev mj_R : Type := Option Value ⊕ Nat
def mj_get (lv : mj_L) (i : Nat) : Option Value := (lv.find? (fun q => Nat.beq q.1 i)).map (fun q => q.2)
def mj_s1 (lv : mj_L) (i : Nat) (v : Value) : mj_L := (i, v) :: lv.filter (fun q => !(q.1 == i) && !(q.1 + 1 == i && q.2.category == 2))
def mj_s2 (lv : mj_L) (i : Nat) (v : Value) : mj_L := (i, v) :: lv.filter (fun q => !(q.1 == i) && (!(q.1 == i + 1) && !(q.1 + 1 == i && q.2.category == 2)))
def mj_isRef : Value → Bool
  | .ref _ => true
  | .null => true
  | _ => false
/-- a test with its two ways -/
def mj_if (c : Jvm.ClassFile.Cond) (x y : Int32) (A B : Option mj_C) : Option mj_C := match c with
  | .eq => if x = y then A else B
  | .ne => if x = y then B else A
  | .lt => if x < y then A else B
  | .ge => if x < y then B else A
  | .gt => if y < x then A else B
  | .le => if y < x then B else A
def mj_sw (x : Int32) (d : Nat) : List (Int32 × Nat) → Nat
  | [] => d
  | q :: t => if x = q.1 then q.2 else mj_sw x d t
/-- an array's place is there -/
def mj_in (i : Int32) (n : Nat) : Bool := !(decide (i < 0)) && Nat.blt i.toNatClampNeg n
/-- the field of role r at place k, of this type -/
def mj_rd (M : mj_M) (r k : Nat) (ty : FieldType) : Value := match ty with
  | .long => .long (M.L r k)
  | .object _ => (match M.F r k with | some q => .ref q | none => .null)
  | .array _ => (match M.F r k with | some q => .ref q | none => .null)
  | _ => .int (M.I r k)
def mj_wr (M : mj_M) (r k : Nat) (ty : FieldType) (v : Value) : Option mj_M := match ty, v with
  | .long, .long x => some (M.I, mj_up M.L r k x, M.F, M.nr, M.nc, M.ns)
  | .int, .int x => some (mj_up M.I r k x, M.L, M.F, M.nr, M.nc, M.ns)
  | .boolean, .int x => if x = 0 ∨ x = 1 then some (mj_up M.I r k x, M.L, M.F, M.nr, M.nc, M.ns) else none
  | .object _, .ref q => bif Nat.blt q M.nr then some (M.I, M.L, mj_up M.F r k (some q), M.nr, M.nc, M.ns) else none
  | .array _, .ref q => bif Nat.blt q M.nr then some (M.I, M.L, mj_up M.F r k (some q), M.nr, M.nc, M.ns) else none
  | _, _ => none
/-- an array's place read: t: its element type -/
def mj_ald (M : mj_M) (t r : Nat) (i : Int32) : Option Value :=
  bif Nat.blt r M.nr then (if mj_sh r = (1, t, (mj_sh r).2.2) ∧ mj_in i (mj_sh r).2.2 = true then some (bif Nat.beq t 1 then .long (M.L r i.toNatClampNeg) else .int (M.I r i.toNatClampNeg)) else none)
  else if r = 3000 ∧ t = 0 ∧ mj_in i (M.I 3001 0).toNatClampNeg = true then some (.int (M.I 3000 i.toNatClampNeg)) else none
def mj_asti (M : mj_M) (t r : Nat) (i x : Int32) : Option mj_M :=
  bif Nat.blt r M.nr then (if mj_sh r = (1, t, (mj_sh r).2.2) ∧ mj_in i (mj_sh r).2.2 = true then some (mj_up M.I r i.toNatClampNeg x, M.L, M.F, M.nr, M.nc, M.ns) else none) else none
def mj_astl (M : mj_M) (r : Nat) (i : Int32) (x : Int64) : Option mj_M :=
  bif Nat.blt r M.nr then (if mj_sh r = (1, 1, (mj_sh r).2.2) ∧ mj_in i (mj_sh r).2.2 = true then some (M.I, mj_up M.L r i.toNatClampNeg x, M.F, M.nr, M.nc, M.ns) else none) else none
/-- a fresh cell's contents -/
def mj_new (M : mj_M) (n : Nat) : mj_M := (fun r i => if r = M.nr then 0 else M.I r i, fun r i => if r = M.nr then 0 else M.L r i, fun r i => if r = M.nr then none else M.F r i, M.nr + 1, M.nc + 1, M.ns + n)
/-- no reference to a role that isn't there yet -/
def mj_fr (n : Nat) (v : Value) : Bool := match v with
  | .ref r => Nat.blt r n || (Nat.ble 2000 r && Nat.blt r 1000000)
  | _ => true
def mj_fresh (n : Nat) (lv : mj_L) (st : List Value) : Bool := lv.all (fun q => mj_fr n q.2) && st.all (mj_fr n)
/-- one instruction that is no call, no return, no throw -/
def mj_step (e : mj_E) (x : mj_C) : Option mj_C :=
  match e.1, x.2.2.1 with
  | .iconst _, st => some (x.1 + e.2.1, x.2.1, e.2.2.2.2.1 :: st, x.2.2.2)
  | .bipush _, st => some (x.1 + e.2.1, x.2.1, e.2.2.2.2.1 :: st, x.2.2.2)
  | .sipush _, st => some (x.1 + e.2.1, x.2.1, e.2.2.2.2.1 :: st, x.2.2.2)
  | .lconst _, st => some (x.1 + e.2.1, x.2.1, e.2.2.2.2.1 :: st, x.2.2.2)
  | .ldc2_w _, st => some (x.1 + e.2.1, x.2.1, e.2.2.2.2.1 :: st, x.2.2.2)
  | .ldc _, st => some (x.1 + e.2.1, x.2.1, e.2.2.2.2.1 :: st, x.2.2.2)
  | .iload_n i, st => (match mj_get x.2.1 i with | some (.int v) => some (x.1 + e.2.1, x.2.1, .int v :: st, x.2.2.2) | _ => none)
  | .iload i, st => (match mj_get x.2.1 i with | some (.int v) => some (x.1 + e.2.1, x.2.1, .int v :: st, x.2.2.2) | _ => none)
  | .lload_n i, st => (match mj_get x.2.1 i with | some (.long v) => some (x.1 + e.2.1, x.2.1, .long v :: st, x.2.2.2) | _ => none)
  | .lload i, st => (match mj_get x.2.1 i with | some (.long v) => some (x.1 + e.2.1, x.2.1, .long v :: st, x.2.2.2) | _ => none)
  | .aload_n i, st => (match mj_get x.2.1 i with | some (.ref v) => some (x.1 + e.2.1, x.2.1, .ref v :: st, x.2.2.2) | _ => none)
  | .aload i, st => (match mj_get x.2.1 i with | some (.ref v) => some (x.1 + e.2.1, x.2.1, .ref v :: st, x.2.2.2) | _ => none)
  | .istore_n i, .int v :: st => some (x.1 + e.2.1, mj_s1 x.2.1 i (.int v), st, x.2.2.2)
  | .istore i, .int v :: st => some (x.1 + e.2.1, mj_s1 x.2.1 i (.int v), st, x.2.2.2)
  | .lstore_n i, .long v :: st => some (x.1 + e.2.1, mj_s2 x.2.1 i (.long v), st, x.2.2.2)
  | .lstore i, .long v :: st => some (x.1 + e.2.1, mj_s2 x.2.1 i (.long v), st, x.2.2.2)
  | .astore_n i, .ref v :: st => some (x.1 + e.2.1, mj_s1 x.2.1 i (.ref v), st, x.2.2.2)
  | .astore i, .ref v :: st => some (x.1 + e.2.1, mj_s1 x.2.1 i (.ref v), st, x.2.2.2)
  | .iinc i n, st => (match mj_get x.2.1 i with | some (.int v) => some (x.1 + e.2.1, mj_s1 x.2.1 i (.int (v + Int32.ofInt n)), st, x.2.2.2) | _ => none)
  | .dup, .ref v :: st => some (x.1 + e.2.1, x.2.1, .ref v :: .ref v :: st, x.2.2.2)
  | .dup, .int v :: st => some (x.1 + e.2.1, x.2.1, .int v :: .int v :: st, x.2.2.2)
  | .pop, .int _ :: st => some (x.1 + e.2.1, x.2.1, st, x.2.2.2)
  | .iadd, .int b :: .int a :: st => some (x.1 + e.2.1, x.2.1, .int (a + b) :: st, x.2.2.2)
  | .isub, .int b :: .int a :: st => some (x.1 + e.2.1, x.2.1, .int (a - b) :: st, x.2.2.2)
  | .imul, .int b :: .int a :: st => some (x.1 + e.2.1, x.2.1, .int (a * b) :: st, x.2.2.2)
  | .iand, .int b :: .int a :: st => some (x.1 + e.2.1, x.2.1, .int (a &&& b) :: st, x.2.2.2)
  | .ior, .int b :: .int a :: st => some (x.1 + e.2.1, x.2.1, .int (a ||| b) :: st, x.2.2.2)
  | .ishl, .int b :: .int a :: st => some (x.1 + e.2.1, x.2.1, .int (a <<< (b &&& 31)) :: st, x.2.2.2)
  | .ishr, .int b :: .int a :: st => some (x.1 + e.2.1, x.2.1, .int (a >>> (b &&& 31)) :: st, x.2.2.2)
  | .idiv, .int b :: .int a :: st => if b = 0 then none else some (x.1 + e.2.1, x.2.1, .int (a / b) :: st, x.2.2.2)
  | .irem, .int b :: .int a :: st => if b = 0 then none else some (x.1 + e.2.1, x.2.1, .int (a - a / b * b) :: st, x.2.2.2)
  | .ladd, .long b :: .long a :: st => some (x.1 + e.2.1, x.2.1, .long (a + b) :: st, x.2.2.2)
  | .lsub, .long b :: .long a :: st => some (x.1 + e.2.1, x.2.1, .long (a - b) :: st, x.2.2.2)
  | .lmul, .long b :: .long a :: st => some (x.1 + e.2.1, x.2.1, .long (a * b) :: st, x.2.2.2)
  | .land, .long b :: .long a :: st => some (x.1 + e.2.1, x.2.1, .long (a &&& b) :: st, x.2.2.2)
  | .lor, .long b :: .long a :: st => some (x.1 + e.2.1, x.2.1, .long (a ||| b) :: st, x.2.2.2)
  | .ldiv, .long b :: .long a :: st => if b = 0 then none else some (x.1 + e.2.1, x.2.1, .long (a / b) :: st, x.2.2.2)
  | .lshl, .int b :: .long a :: st => some (x.1 + e.2.1, x.2.1, .long (a <<< (b.toInt64 &&& 63)) :: st, x.2.2.2)
  | .lshr, .int b :: .long a :: st => some (x.1 + e.2.1, x.2.1, .long (a >>> (b.toInt64 &&& 63)) :: st, x.2.2.2)
  | .lushr, .int b :: .long a :: st => some (x.1 + e.2.1, x.2.1, .long ((a.toUInt64 >>> (b.toInt64.toUInt64 &&& Int64.toUInt64 63)).toInt64) :: st, x.2.2.2)
  | .lcmp, .long b :: .long a :: st => some (x.1 + e.2.1, x.2.1, .int (lg_cmp a b) :: st, x.2.2.2)
  | .i2l, .int a :: st => some (x.1 + e.2.1, x.2.1, .long a.toInt64 :: st, x.2.2.2)
  | .l2i, .long a :: st => some (x.1 + e.2.1, x.2.1, .int a.toInt32 :: st, x.2.2.2)
  | .i2b, .int a :: st => some (x.1 + e.2.1, x.2.1, .int a.toInt8.toInt32 :: st, x.2.2.2)
  | .i2c, .int a :: st => some (x.1 + e.2.1, x.2.1, .int (a.toUInt32 % 65536).toInt32 :: st, x.2.2.2)
  | .ifCond c _, .int a :: st => mj_if c a 0 (some (e.2.2.1, x.2.1, st, x.2.2.2)) (some (x.1 + e.2.1, x.2.1, st, x.2.2.2))
  | .if_icmp c _, .int b :: .int a :: st => mj_if c a b (some (e.2.2.1, x.2.1, st, x.2.2.2)) (some (x.1 + e.2.1, x.2.1, st, x.2.2.2))
  | .goto _, st => some (e.2.2.1, x.2.1, st, x.2.2.2)
  | .tableswitch _ _ _ _, .int a :: st => some (mj_sw a e.2.2.1 e.2.2.2.2.2, x.2.1, st, x.2.2.2)
  | .lookupswitch _ _, .int a :: st => some (mj_sw a e.2.2.1 e.2.2.2.2.2, x.2.1, st, x.2.2.2)
  | .getfield _, .ref r :: st => bif Nat.blt r x.2.2.2.nr && (Nat.beq (mj_sh r).1 0 && Nat.beq (mj_sh r).2.1 e.2.2.1) then some (x.1 + e.2.1, x.2.1, mj_rd x.2.2.2 r e.2.2.2.1 (mj_ft e.2.2.1 e.2.2.2.1) :: st, x.2.2.2) else none
  | .putfield _, v :: .ref r :: st => bif Nat.blt r x.2.2.2.nr && (Nat.beq (mj_sh r).1 0 && Nat.beq (mj_sh r).2.1 e.2.2.1) then (match mj_wr x.2.2.2 r e.2.2.2.1 (mj_ft e.2.2.1 e.2.2.2.1) v with | some M => some (x.1 + e.2.1, x.2.1, st, M) | none => none) else none
  | .iaload, .int i :: .ref r :: st => (match mj_ald x.2.2.2 0 r i with | some v => some (x.1 + e.2.1, x.2.1, v :: st, x.2.2.2) | none => none)
  | .laload, .int i :: .ref r :: st => (match mj_ald x.2.2.2 1 r i with | some v => some (x.1 + e.2.1, x.2.1, v :: st, x.2.2.2) | none => none)
  | .baload, .int i :: .ref r :: st => (match mj_ald x.2.2.2 2 r i with | some v => some (x.1 + e.2.1, x.2.1, v :: st, x.2.2.2) | none => none)
  | .caload, .int i :: .ref r :: st => (match mj_ald x.2.2.2 3 r i with | some v => some (x.1 + e.2.1, x.2.1, v :: st, x.2.2.2) | none => none)
  | .iastore, .int v :: .int i :: .ref r :: st => (match mj_asti x.2.2.2 0 r i v with | some M => some (x.1 + e.2.1, x.2.1, st, M) | none => none)
  | .bastore, .int v :: .int i :: .ref r :: st => (match mj_asti x.2.2.2 2 r i (vp_nar .byte v) with | some M => some (x.1 + e.2.1, x.2.1, st, M) | none => none)
  | .castore, .int v :: .int i :: .ref r :: st => (match mj_asti x.2.2.2 3 r i (vp_nar .char v) with | some M => some (x.1 + e.2.1, x.2.1, st, M) | none => none)
  | .lastore, .long v :: .int i :: .ref r :: st => (match mj_astl x.2.2.2 r i v with | some M => some (x.1 + e.2.1, x.2.1, st, M) | none => none)
  | .arraylength, .ref r :: st => bif Nat.beq r 3000 then some (x.1 + e.2.1, x.2.1, .int (x.2.2.2.I 3001 0) :: st, x.2.2.2) else bif Nat.blt r x.2.2.2.nr && Nat.beq (mj_sh r).1 1 then some (x.1 + e.2.1, x.2.1, .int (nI (mj_sh r).2.2) :: st, x.2.2.2) else none
  | .new _, st => if mj_sh x.2.2.2.nr = (0, e.2.2.1, e.2.2.2.1) ∧ mj_fresh x.2.2.2.nr x.2.1 st = true then some (x.1 + e.2.1, x.2.1, .ref x.2.2.2.nr :: st, mj_new x.2.2.2 e.2.2.2.1) else none
  | .newarray _, .int n :: st => if mj_sh x.2.2.2.nr = (1, e.2.2.1, n.toNatClampNeg) ∧ ¬ n < 0 ∧ mj_fresh x.2.2.2.nr x.2.1 st = true then some (x.1 + e.2.1, x.2.1, .ref x.2.2.2.nr :: st, mj_new x.2.2.2 n.toNatClampNeg) else none
  | _, _ => none
/-- what a method may return, by its type -/
def mj_rty (k : Nat) : Option (Option FieldType) := (mj_mt k).map (fun q => q.2.2.2.1)
def mj_ret (k : Nat) (v : Option Value) : Bool := match mj_rty k, v with
  | some none, none => true
  | some (some .int), some (.int _) => true
  | some (some .long), some (.long _) => true
  | some (some .boolean), some (.int x) => decide (x = 0 ∨ x = 1)
  | _, _ => false
/-- the handler for an exception of this kind -/
def mj_hdl (pc e : Nat) : List (Nat × Nat × Nat × Nat) → Option Nat
  | [] => none
  | q :: t => bif Nat.ble q.1 pc && (Nat.blt pc q.2.1 && Nat.beq q.2.2.2 e) then some q.2.2.1 else mj_hdl pc e t
/-- calls of the JDK's own -/
def mj_lib (e : mj_E) (x : mj_C) : Option mj_C :=
  match e.2.2.1, x.2.2.1 with
  | 1000, .ref _ :: st => some (x.1 + 3, x.2.1, st, x.2.2.2)
  | 1001, .int b :: .int a :: st => some (x.1 + 3, x.2.1, .int (if a < b then b else a) :: st, x.2.2.2)
  | 1002, .long b :: .long a :: st => some (x.1 + 3, x.2.1, .long (if b < a then b else a) :: st, x.2.2.2)
  | 1003, .ref r :: st => (match mj_sc[r - 2000]? with | some s => bif Nat.ble 2000 r then some (x.1 + 3, x.2.1, .int (nI s.length) :: st, x.2.2.2) else none | none => none)
  | 1004, .int i :: .ref r :: st => (match mj_sc[r - 2000]? with | some s => bif Nat.ble 2000 r && mj_in i s.length then some (x.1 + 3, x.2.1, .int (nI (s.getD i.toNatClampNeg 0)) :: st, x.2.2.2) else none | none => none)
  | _, _ => none
/-- the arguments of a call (receiver first) and the stack's rest -/
def mj_args (n : Nat) (st : List Value) : List Value × List Value := ((st.take n).reverse, st.drop n)
/-- a method's locals -/
def mj_ml (k : Nat) : Nat := ((mj_mt k).map (fun q => q.2.2.1)).getD 0
/-- THE RUN: fuel, depth, method, where it stands -/
def mj_run : Nat → Nat → Nat → mj_C → Option (mj_R × mj_M)
  | 0, _, _, _ => none
  | n + 1, d, k, x =>
    match mj_at k x.1 with
    | none => none
    | some e =>
      match e.1, x.2.2.1 with
      | .return_, [] => bif mj_ret k none then some (.inl none, x.2.2.2) else none
      | .ireturn, [.int v] => bif mj_ret k (some (.int v)) then some (.inl (some (.int v)), x.2.2.2) else none
      | .lreturn, [.long v] => bif mj_ret k (some (.long v)) then some (.inl (some (.long v)), x.2.2.2) else none
      | .new _, st => bif Nat.blt e.2.2.1 100 then (match mj_step e x with | some y => mj_run n d k y | none => none) else
          (bif (mj_hd k).isEmpty && Nat.blt ((st.map fun v => v.category).sum) 9 && Nat.blt 5 d then some (.inr (e.2.2.1 - 100), (x.2.2.2.I, x.2.2.2.L, x.2.2.2.F, x.2.2.2.nr, x.2.2.2.nc + 1, x.2.2.2.ns + 6)) else none)
      | .invokestatic _, st => bif Nat.blt e.2.2.1 1000 then
          (match d with
          | 0 => none
          | d + 1 =>
            bif Nat.blt (((mj_args e.2.2.2.1 st).2.map fun v => v.category).sum) 9 && (Nat.beq (mj_args e.2.2.2.1 st).1.length e.2.2.2.1 && Nat.ble (lg_sl (mj_args e.2.2.2.1 st).1).length (mj_ml e.2.2.1)) then
              (match mj_run n d e.2.2.1 (0, lv_args 0 (mj_args e.2.2.2.1 st).1, [], x.2.2.2) with
              | some (.inl v, M) => bif mj_fresh x.2.2.2.nr x.2.1 (mj_args e.2.2.2.1 st).2 then mj_run n (d + 1) k (x.1 + 3, x.2.1, v.toList ++ (mj_args e.2.2.2.1 st).2, M) else none
              | _ => none) else none)
          else (bif Nat.blt 5 d && Nat.blt ((st.map fun v => v.category).sum) 9 then (match mj_lib e x with | some y => mj_run n d k y | none => none) else none)
      | .invokespecial _, st => bif Nat.blt e.2.2.1 1000 then
          (match d with
          | 0 => none
          | d + 1 =>
            bif Nat.blt (((mj_args (e.2.2.2.1 + 1) st).2.map fun v => v.category).sum) 9 && (Nat.beq (mj_args (e.2.2.2.1 + 1) st).1.length (e.2.2.2.1 + 1) && Nat.ble (lg_sl (mj_args (e.2.2.2.1 + 1) st).1).length (mj_ml e.2.2.1)) then
              (match (mj_args (e.2.2.2.1 + 1) st).1 with
              | .ref r :: _ => bif Nat.blt r x.2.2.2.nr && (Nat.beq (mj_sh r).1 0 && Nat.beq (mj_sh r).2.1 (((mj_mt e.2.2.1).map fun q => q.2.2.2.2.1).getD 99)) then
                  (match mj_run n d e.2.2.1 (0, lv_args 0 (mj_args (e.2.2.2.1 + 1) st).1, [], x.2.2.2) with
                  | some (.inl v, M) => bif mj_fresh x.2.2.2.nr x.2.1 (mj_args (e.2.2.2.1 + 1) st).2 then mj_run n (d + 1) k (x.1 + 3, x.2.1, v.toList ++ (mj_args (e.2.2.2.1 + 1) st).2, M) else none
                  | _ => none) else none
              | _ => none) else none)
          else (bif Nat.blt 5 d && Nat.blt ((st.map fun v => v.category).sum) 9 then (match mj_lib e x with | some y => mj_run n d k y | none => none) else none)
      | .invokevirtual _, st => bif Nat.blt e.2.2.1 1000 then
          (match d with
          | 0 => none
          | d + 1 =>
            bif Nat.blt (((mj_args (e.2.2.2.1 + 1) st).2.map fun v => v.category).sum) 9 && (Nat.beq (mj_args (e.2.2.2.1 + 1) st).1.length (e.2.2.2.1 + 1) && Nat.ble (lg_sl (mj_args (e.2.2.2.1 + 1) st).1).length (mj_ml e.2.2.1)) then
              (match (mj_args (e.2.2.2.1 + 1) st).1 with
              | .ref r :: _ => bif Nat.blt r x.2.2.2.nr && (Nat.beq (mj_sh r).1 0 && Nat.beq (mj_sh r).2.1 (((mj_mt e.2.2.1).map fun q => q.2.2.2.2.1).getD 99)) then
                  (match mj_run n d e.2.2.1 (0, lv_args 0 (mj_args (e.2.2.2.1 + 1) st).1, [], x.2.2.2) with
                  | some (.inl v, M) => bif mj_fresh x.2.2.2.nr x.2.1 (mj_args (e.2.2.2.1 + 1) st).2 then mj_run n (d + 1) k (x.1 + 3, x.2.1, v.toList ++ (mj_args (e.2.2.2.1 + 1) st).2, M) else none
                  | some (.inr q, M) => bif Nat.beq x.2.2.2.nr M.nr && mj_fresh x.2.2.2.nr x.2.1 [] then (match mj_hdl x.1 q (mj_hd k) with
                    | some h => mj_run n (d + 1) k (h, x.2.1.filter (fun z => match z.2 with | .ref r => Nat.blt r 1000000 | _ => true), [.ref 1000000], M)
                    | none => bif (mj_hd k).isEmpty then some (.inr q, M) else none) else none
                  | none => none) else none
              | _ => none) else none)
          else (bif Nat.blt 5 d && Nat.blt ((st.map fun v => v.category).sum) 9 then (match mj_lib e x with | some y => mj_run n d k y | none => none) else none)
      | _, _ => (match mj_step e x with | some y => mj_run n d k y | none => none)
