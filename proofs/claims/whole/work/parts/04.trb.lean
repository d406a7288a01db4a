def mKd : List Nat := [2, 2, 2, 2, 2, 1, 2, 2, 2, 0, 2, 2, 1, 1, 1, 1, 1, 1, 1, 1, 0, 1, 1, 1, 1, 1, 1, 1, 1, 1, 1, 1, 1, 1, 1, 1, 1, 0, 0, 1, 0, 1, 1, 0, 1, 1, 0, 1, 1, 1, 1, 1, 1, 1, 1, 1, 1, 1, 1, 1, 1, 1, 1, 1, 1, 1, 1, 1, 1, 1, 1, 1, 0, 1, 1, 1, 0, 1, 0, 0, 1, 1, 1, 1, 1, 1, 1, 0, 0, 1, 1, 1, 1, 1, 1, 1, 1, 1, 0, 0, 0, 1, 1, 1, 1, 1, 1, 1, 1, 1, 1, 1, 1, 1, 1, 1, 0, 0, 1, 1, 1, 1, 1, 1, 1, 1, 1, 1, 1, 1, 1, 1, 1, 1, 1, 1, 1, 1, 1, 1, 1, 1, 1, 1, 1, 1, 1, 1, 2, 1, 0, 1, 1, 1, 1, 0, 1, 1, 1, 1, 1, 1, 1, 1, 1, 0, 0, 1, 1, 1, 1, 1, 1, 1, 0, 1, 1, 1, 1, 1, 1, 1, 1, 1, 1, 1, 1, 1, 1, 1, 0, 1, 0, 1, 1, 0, 1, 1, 1, 1, 1, 1, 1, 1, 1, 1, 1, 1, 1, 0, 0, 0, 1, 1, 1, 1, 1, 1, 1, 1, 1, 1, 1, 1, 1, 1, 1, 1, 1, 1, 1, 1, 1, 1, 1, 1, 1, 1, 1, 1, 1, 1, 1, 1, 1, 1, 1]
/-- how a real instruction is spelt in the small machine; own: the class, ini: a constructor, ret: the answer's type -/
def trb (own : Nat) (ini : Bool) (ret : Option FieldType) (pc : Nat) (i : Instr) (len : Nat) (mi : Instr) : Bool := match i with
  | .iconst n => Nat.beq len 1 && decide (mi = .iconst n)
  | .bipush n => match mi with
    | .iconst v => Nat.beq len 2 && decide ((Int8.ofInt n).toInt32 = Int32.ofInt v)
    | _ => false
  | .sipush n => match mi with
    | .iconst v => Nat.beq len 3 && decide ((Int16.ofInt n).toInt32 = Int32.ofInt v)
    | _ => false
  | .ldc j => match mi with
    | .iconst v => Nat.beq len 2 && decide ((own, j, v) ∈ mKI)
    | _ => false
  | .ldc_w j => match mi with
    | .iconst v => Nat.beq len 3 && decide ((own, j, v) ∈ mKI)
    | _ => false
  | .lconst n => match mi with
    | .sipush v => Nat.beq len 1 && decide (v = (n.val : Int))
    | _ => false
  | .ldc2_w j => match mi with
    | .sipush v => Nat.beq len 3 && decide ((own, j, v) ∈ mKL)
    | _ => false
  | .iload_n n => Nat.beq len 1 && decide (mi = .iload n.val)
  | .lload_n n => Nat.beq len 1 && decide (mi = .lload n.val)
  | .aload_n n => Nat.beq len 1 && decide (mi = .aload n.val)
  | .istore_n n => Nat.beq len 1 && decide (mi = .istore n.val)
  | .lstore_n n => Nat.beq len 1 && decide (mi = .lstore n.val)
  | .astore_n n => Nat.beq len 1 && decide (mi = .astore n.val)
  | .iload n => Nat.beq len 2 && decide (mi = .iload n)
  | .lload n => Nat.beq len 2 && decide (mi = .lload n)
  | .aload n => Nat.beq len 2 && decide (mi = .aload n)
  | .istore n => Nat.beq len 2 && decide (mi = .istore n)
  | .lstore n => Nat.beq len 2 && decide (mi = .lstore n)
  | .astore n => Nat.beq len 2 && decide (mi = .astore n)
  | .iinc n d => Nat.beq len 3 && decide (mi = .iinc n d)
  | .iadd => Nat.beq len 1 && decide (mi = .iadd)
  | .isub => Nat.beq len 1 && decide (mi = .isub)
  | .imul => Nat.beq len 1 && decide (mi = .imul)
  | .ineg => Nat.beq len 1 && decide (mi = .ineg)
  | .idiv => Nat.beq len 1 && decide (mi = .idiv)
  | .irem => Nat.beq len 1 && decide (mi = .irem)
  | .iand => Nat.beq len 1 && decide (mi = .iand)
  | .ior => Nat.beq len 1 && decide (mi = .ior)
  | .ixor => Nat.beq len 1 && decide (mi = .ixor)
  | .ishl => Nat.beq len 1 && decide (mi = .ishl)
  | .ishr => Nat.beq len 1 && decide (mi = .ishr)
  | .iushr => Nat.beq len 1 && decide (mi = .iushr)
  | .ladd => Nat.beq len 1 && decide (mi = .ladd)
  | .lsub => Nat.beq len 1 && decide (mi = .lsub)
  | .lmul => Nat.beq len 1 && decide (mi = .lmul)
  | .lneg => Nat.beq len 1 && decide (mi = .lneg)
  | .ldiv => Nat.beq len 1 && decide (mi = .ldiv)
  | .lrem => Nat.beq len 1 && decide (mi = .lrem)
  | .i2l => Nat.beq len 1 && decide (mi = .i2l)
  | .l2i => Nat.beq len 1 && decide (mi = .l2i)
  | .lcmp => Nat.beq len 1 && decide (mi = .lcmp)
  | .if_icmp c off => match mi with
    | .if_icmp c2 t => Nat.beq len 3 && decide (c = c2) && decide (0 ≤ t) && decide ((pc : Int) + off = t)
    | _ => false
  | .ifCond c off => match mi with
    | .ifCond c2 t => Nat.beq len 3 && decide (c = c2) && decide (0 ≤ t) && decide ((pc : Int) + off = t)
    | _ => false
  | .if_acmp .ne off => match mi with
    | .if_acmp _ t => Nat.beq len 3 && decide (0 ≤ t) && decide ((pc : Int) + off = t)
    | _ => false
  | .goto off => match mi with
    | .goto t => Nat.beq len 3 && decide (0 ≤ t) && decide ((pc : Int) + off = t)
    | _ => false
  | .dup => Nat.beq len 1 && decide (mi = .dup)
  | .dup2 => Nat.beq len 1 && decide (mi = .dup2)
  | .pop => Nat.beq len 1 && decide (mi = .pop)
  | .getfield j => match mi with
    | .multianewarray c f => Nat.beq len 3 && decide ((own, j, c, f) ∈ mFL)
    | _ => false
  | .putfield j => match mi with
    | .invokeinterface c f => Nat.beq len 3 && decide ((own, j, c, f) ∈ mFL) && (match mCl[c]? with
      | some q => !(q.2.1 f).2.2.2 || (ini && Nat.beq own c)
      | none => false)
    | _ => false
  | .iaload => Nat.beq len 1 && decide (mi = if own = 12 then .caload else .iaload)
  | .laload => Nat.beq len 1 && decide (mi = .laload)
  | .baload => Nat.beq len 1 && decide (mi = .baload)
  | .aaload => Nat.beq len 1 && decide (mi = .aaload)
  | .iastore => Nat.beq len 1 && decide (mi = .iastore)
  | .lastore => Nat.beq len 1 && decide (mi = .lastore)
  | .bastore => Nat.beq len 1 && decide (mi = .bastore)
  | .aastore => Nat.beq len 1 && decide (mi = .aastore)
  | .arraylength => Nat.beq len 1 && decide (mi = if own = 12 then .saload else .arraylength)
  | .new j => match mi with
    | .new c => Nat.beq len 3 && decide ((own, j, c) ∈ mCK) && decide (c < 11)
    | _ => false
  | .newarray t => Nat.beq len 2 && decide (mi = .newarray t) && decide (t = .int ∨ t = .long ∨ t = .boolean)
  | .anewarray j => match mi with
    | .anewarray t => Nat.beq len 3 && ((decide (t = 4) && decide ((own, j, 3) ∈ mCK)) || (decide (t = 5) && decide ((own, j, 0) ∈ mCK)))
    | _ => false
  | .invokespecial j => match mi with
    | .nop => Nat.beq len 3 && decide ((own, j) ∈ mOL)
    | .invokespecial y => Nat.beq len 3 && (decide ((own, j, y) ∈ mML) || decide ((own, j, y) ∈ mNL)) && decide (mKd[y]? = some 2)
    | _ => false
  | .invokevirtual j => match mi with
    | .invokevirtual y => Nat.beq len 3 && decide ((own, j, y) ∈ mML) && decide (mKd[y]? = some 1)
    | _ => false
  | .invokestatic j => match mi with
    | .invokestatic y => Nat.beq len 3 && decide ((own, j, y) ∈ mML) && decide (mKd[y]? = some 0)
    | _ => false
  | .ireturn => Nat.beq len 1 && (match mi with
    | .ireturn => decide (ret = some .int)
    | .freturn => decide (ret = some .boolean)
    | .dreturn => Nat.beq own 12
    | _ => false)
  | .lreturn => Nat.beq len 1 && decide (mi = .lreturn) && decide (ret = some .long)
  | .areturn => Nat.beq len 1 && decide (mi = .areturn) && (match ret with
    | some (.object _) => true
    | _ => false)
  | .return_ => Nat.beq len 1 && decide (mi = .return_) && decide (ret = none)
  | .tableswitch d lo hi os => match mi with
    | .tableswitch d2 lo2 hi2 os2 => decide (lo = lo2) && decide (hi = hi2) && decide ((pc : Int) + d = d2) && decide (0 ≤ d2) && decide (os2 = os.map ((pc : Int) + ·)) && os2.all (fun t => decide (0 ≤ t)) && decide ((os.size : Int) = hi - lo + 1)
    | _ => false
  | _ => false
def mchk (own : Nat) (ini : Bool) (ret : Option FieldType) (b : ByteArray) (q : mQ) : Bool := q.all fun e => match decode b e.1 with
  | .ok (i, len) => trb own ini ret e.1 i len e.2.1 && Nat.beq e.2.2 (e.1 + len)
  | .error _ => false
