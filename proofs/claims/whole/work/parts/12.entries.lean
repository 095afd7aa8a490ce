def mj_fkin (oi idx a b : Nat) : Bool := mj_fk.any (fun q => Nat.beq q.1 oi && (Nat.beq q.2.1 idx && (Nat.beq q.2.2.1 a && Nat.beq q.2.2.2.1 b)))
def mj_mkin (oi idx a b : Nat) : Bool := mj_mk.any (fun q => Nat.beq q.1 oi && (Nat.beq q.2.1 idx && (Nat.beq q.2.2.1 a && Nat.beq q.2.2.2.1 b)))
def mj_ckin (oi idx a : Nat) : Bool := mj_ck.any (fun q => Nat.beq q.1 oi && (Nat.beq q.2.1 idx && Nat.beq q.2.2.1 a))
/-- an entry beside what its instruction says -/
def mj_ok2 (X : mj_X) (pc : Nat) (e : mj_E) : Bool := match e.1 with
  | .iconst n => decide (e.2.2.2.2.1 = .int (Int32.ofInt n)) && Nat.beq e.2.1 1
  | .bipush n => decide (e.2.2.2.2.1 = .int (Int8.ofInt n).toInt32) && Nat.beq e.2.1 2
  | .sipush n => decide (e.2.2.2.2.1 = .int (Int16.ofInt n).toInt32) && Nat.beq e.2.1 3
  | .lconst n => decide (e.2.2.2.2.1 = .long (Int64.ofNat n)) && Nat.beq e.2.1 1
  | .ldc2_w i => (match e.2.2.2.2.1 with | .long x => decide (tables_1[e.2.2.1]? = some (.constantLong (mj_cn X.2.2.2.2.1) i x)) | _ => false) && Nat.beq e.2.1 3
  | .ldc i => (match e.2.2.2.2.1 with | .ref r => (match mj_str[r - 2000]? with | some q => Nat.beq q.1 X.2.2.2.2.1 && (Nat.beq q.2.1 i && Nat.ble 2000 r) | none => false) | _ => false) && Nat.beq e.2.1 2
  | .iload_n _ => Nat.beq e.2.1 1
  | .lload_n _ => Nat.beq e.2.1 1
  | .aload_n _ => Nat.beq e.2.1 1
  | .iload _ => Nat.beq e.2.1 2
  | .lload _ => Nat.beq e.2.1 2
  | .aload _ => Nat.beq e.2.1 2
  | .istore_n i => Nat.blt i X.2.2.1 && Nat.beq e.2.1 1
  | .istore i => Nat.blt i X.2.2.1 && Nat.beq e.2.1 2
  | .lstore_n i => Nat.blt (i + 1) X.2.2.1 && Nat.beq e.2.1 1
  | .lstore i => Nat.blt (i + 1) X.2.2.1 && Nat.beq e.2.1 2
  | .astore_n i => Nat.blt i X.2.2.1 && Nat.beq e.2.1 1
  | .astore i => Nat.blt i X.2.2.1 && Nat.beq e.2.1 2
  | .iinc i _ => Nat.blt i X.2.2.1 && Nat.beq e.2.1 3
  | .ifCond _ f => decide ((pc : Int) + f = (e.2.2.1 : Int)) && Nat.beq e.2.1 3
  | .if_icmp _ f => decide ((pc : Int) + f = (e.2.2.1 : Int)) && Nat.beq e.2.1 3
  | .goto f => decide ((pc : Int) + f = (e.2.2.1 : Int)) && Nat.beq e.2.1 3
  | .tableswitch d lo hi offs => decide ((pc : Int) + d = (e.2.2.1 : Int)) && (decide (hi = lo + offs.size - 1) && (decide (-2147483648 ≤ lo ∧ hi ≤ 2147483647) && (decide (e.2.2.2.2.2.map (fun q => ((q.2 : Nat) : Int)) = offs.toList.map (fun f => (pc : Int) + f)) && decide (e.2.2.2.2.2.map (fun q => q.1.toInt) = (List.range offs.size).map (fun i => lo + ((i : Nat) : Int))))))
  | .lookupswitch d ps => decide ((pc : Int) + d = (e.2.2.1 : Int)) && ((ps.toList.zip (ps.toList.drop 1)).all (fun (a, next) => a.1 < next.1) && decide (e.2.2.2.2.2.map (fun q => (q.1.toInt, ((q.2 : Nat) : Int))) = ps.toList.map (fun q => (q.1, (pc : Int) + q.2))))
  | .getfield i => mj_fkin X.2.2.2.2.1 i e.2.2.1 e.2.2.2.1 && Nat.beq e.2.1 3
  | .putfield i => mj_fkin X.2.2.2.2.1 i e.2.2.1 e.2.2.2.1 && (Nat.beq e.2.1 3 && (match (mj_fl e.2.2.1)[e.2.2.2.1]? with | some f => !f.2.2.1 || (decide (X.1.name = "<init>") && Nat.beq e.2.2.1 X.2.2.2.2.1) | none => false))
  | .new i => Nat.beq e.2.1 3 && (Nat.ble 100 e.2.2.1 || (mj_ckin X.2.2.2.2.1 i e.2.2.1 && Nat.beq e.2.2.2.1 (mj_fl e.2.2.1).length))
  | .newarray t => decide (newarray.typeOf t = mj_aty e.2.2.1) && (Nat.blt e.2.2.1 4 && Nat.beq e.2.1 2)
  | .invokestatic i => Nat.beq e.2.1 3 && (Nat.ble 1000 e.2.2.1 || (mj_mkin X.2.2.2.2.1 i e.2.2.1 e.2.2.2.1 && Nat.beq (mj_mw e.2.2.1).1 0))
  | .invokevirtual i => Nat.beq e.2.1 3 && (Nat.ble 1000 e.2.2.1 || (mj_mkin X.2.2.2.2.1 i e.2.2.1 e.2.2.2.1 && Nat.beq (mj_mw e.2.2.1).1 1))
  | .invokespecial i => Nat.beq e.2.1 3 && (Nat.ble 1000 e.2.2.1 || (mj_mkin X.2.2.2.2.1 i e.2.2.1 e.2.2.2.1 && Nat.beq (mj_mw e.2.2.1).1 2))
  | .dup => Nat.beq e.2.1 1
  | .pop => Nat.beq e.2.1 1
  | .iadd => Nat.beq e.2.1 1
  | .isub => Nat.beq e.2.1 1
  | .imul => Nat.beq e.2.1 1
  | .iand => Nat.beq e.2.1 1
  | .ior => Nat.beq e.2.1 1
  | .ishl => Nat.beq e.2.1 1
  | .ishr => Nat.beq e.2.1 1
  | .idiv => Nat.beq e.2.1 1
  | .irem => Nat.beq e.2.1 1
  | .ladd => Nat.beq e.2.1 1
  | .lsub => Nat.beq e.2.1 1
  | .lmul => Nat.beq e.2.1 1
  | .land => Nat.beq e.2.1 1
  | .lor => Nat.beq e.2.1 1
  | .ldiv => Nat.beq e.2.1 1
  | .lshl => Nat.beq e.2.1 1
  | .lshr => Nat.beq e.2.1 1
  | .lushr => Nat.beq e.2.1 1
  | .lcmp => Nat.beq e.2.1 1
  | .i2l => Nat.beq e.2.1 1
  | .l2i => Nat.beq e.2.1 1
  | .i2b => Nat.beq e.2.1 1
  | .i2c => Nat.beq e.2.1 1
  | .iaload => Nat.beq e.2.1 1
  | .laload => Nat.beq e.2.1 1
  | .baload => Nat.beq e.2.1 1
  | .caload => Nat.beq e.2.1 1
  | .iastore => Nat.beq e.2.1 1
  | .lastore => Nat.beq e.2.1 1
  | .bastore => Nat.beq e.2.1 1
  | .castore => Nat.beq e.2.1 1
  | .arraylength => Nat.beq e.2.1 1
  | .return_ => Nat.beq e.2.1 1
  | .ireturn => Nat.beq e.2.1 1
  | .lreturn => Nat.beq e.2.1 1
  | _ => true
def mj_ok (X : mj_X) (pc : Nat) (e : mj_E) : Bool := decide (decode X.2.1 pc = .ok (e.1, e.2.1)) && mj_ok2 X pc e
def mj_chk (X : mj_X) (l : List (List (Nat × mj_E))) : Bool := l.all (fun c => c.all (fun q => mj_ok X q.1 q.2))
def mj_QC (k : Nat) (X : mj_X) : Prop := mj_chk X (mj_code k) = true
