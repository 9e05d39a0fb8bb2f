/-! the run: calls as deep as d, fuel n -/
def mFetch (m pc : Nat) : Option (Instr × Nat) := match mCodes[m]? with
  | some c => c.lookup pc
  | none => none
def mMax (m : Nat) : Nat := mMaxs.getD m 0
def mRet (m : Nat) : Option FieldType := mRets.getD m none
def mSt (m : Nat) (i : Instr) (nx : Nat) (L : mLoc) (st : List Value) (h : mHeap) : Option mRes := mStep mTy mNf (fun q => q % 16) (mRet m) i nx L st h
def mExec (d n : Nat) (m pc : Nat) (L : mLoc) (st : List Value) (h : mHeap) : Option (Option Value × mHeap) := match n with
  | 0 => none
  | n + 1 => match mFetch m pc with
    | none => none
    | some (i, nx) => match mSt m i nx L st h with
      | none => none
      | some (.inl (pc1, L1, st1, h1)) => mExec d n m pc1 L1 st1 h1
      | some (.inr (.inl v)) => some (v, h)
      | some (.inr (.inr (q, as, rest))) => match d with
        | 0 => none
        | d1 + 1 => match mExec d1 n (q / 16) 0 (mPad (mMax (q / 16)) (mEnt as)) [] h with
          | none => none
          | some (v, h1) => mExec (d1 + 1) n m nx L (v.toList ++ rest) h1
/-! the tables agree with the bytes -/
def mPl (o idx : Nat) : Option Instr := match mPool.find? (fun q => q.1 == o && q.2.1 == idx) with
  | some q => some q.2.2.1
  | none => none
def mPs (o idx : Nat) : Option Instr := match mStp.find? (fun q => q.1 == o && q.2.1 == idx) with
  | some q => some q.2.2.1
  | none => none
def mAs (c : Nat) (i : Instr) : Bool := match i with
  | .getfield q => decide (q = c)
  | _ => false
/-- instructions that stand in the tables as they are -/
def mPlain (i : Instr) : Bool := match i with
  | .aconst_null => true
  | .iinc _ _ => true
  | .iadd => true
  | .isub => true
  | .imul => true
  | .iand => true
  | .ior => true
  | .ixor => true
  | .idiv => true
  | .irem => true
  | .ineg => true
  | .ishl => true
  | .ishr => true
  | .iushr => true
  | .ladd => true
  | .lsub => true
  | .lmul => true
  | .land => true
  | .lor => true
  | .lxor => true
  | .ldiv => true
  | .lrem => true
  | .lneg => true
  | .lshl => true
  | .lushr => true
  | .lcmp => true
  | .i2l => true
  | .l2i => true
  | .i2b => true
  | .i2c => true
  | .dup => true
  | .dup2 => true
  | .pop => true
  | .iaload => true
  | .baload => true
  | .laload => true
  | .aaload => true
  | .iastore => true
  | .bastore => true
  | .lastore => true
  | .aastore => true
  | .arraylength => true
  | .newarray _ => true
  | .ireturn => true
  | .lreturn => true
  | .areturn => true
  | .return_ => true
  | _ => false
/-- a decoded instruction (of length len, at pc, of a class o) and the table's -/
def mRel (o pc len : Nat) (raw i : Instr) : Bool := match raw with
  | .iconst n => decide (i = .iconst n ∧ len = 1)
  | .bipush n => decide (i = .iconst n ∧ len = 2 ∧ (Int8.ofInt n).toInt32 = Int32.ofInt n)
  | .sipush n => decide (i = .iconst n ∧ len = 3 ∧ (Int16.ofInt n).toInt32 = Int32.ofInt n)
  | .lconst n => decide (i = .jsr_w (n : Nat) ∧ len = 1)
  | .ldc k => decide (mPl o k = some i ∧ len = 2)
  | .ldc_w k => decide (mPl o k = some i ∧ len = 3)
  | .ldc2_w k => decide (mPl o k = some i ∧ len = 3)
  | .iload_n k => decide (i = .iload k ∧ len = 1)
  | .lload_n k => decide (i = .lload k ∧ len = 1)
  | .aload_n k => decide (i = .aload k ∧ len = 1)
  | .istore_n k => decide (i = .istore k ∧ len = 1)
  | .lstore_n k => decide (i = .lstore k ∧ len = 1)
  | .astore_n k => decide (i = .astore k ∧ len = 1)
  | .iload k => decide (i = .iload k ∧ len = 2)
  | .lload k => decide (i = .lload k ∧ len = 2)
  | .aload k => decide (i = .aload k ∧ len = 2)
  | .istore k => decide (i = .istore k ∧ len = 2)
  | .lstore k => decide (i = .lstore k ∧ len = 2)
  | .astore k => decide (i = .astore k ∧ len = 2)
  | .goto t => decide (i = .goto (pc + t) ∧ len = 3 ∧ 0 ≤ pc + t)
  | .ifCond c t => decide (i = .ifCond c (pc + t) ∧ len = 3 ∧ 0 ≤ pc + t)
  | .if_icmp c t => decide (i = .if_icmp c (pc + t) ∧ len = 3 ∧ 0 ≤ pc + t)
  | .ifnull t => decide (i = .ifnull (pc + t) ∧ len = 3 ∧ 0 ≤ pc + t)
  | .ifnonnull t => decide (i = .ifnonnull (pc + t) ∧ len = 3 ∧ 0 ≤ pc + t)
  | .tableswitch d lo hi os => decide (i = .tableswitch (pc + d) lo hi (os.map (fun t => (pc : Int) + t)) ∧ 0 ≤ pc + d ∧ os.all (fun t => decide (0 ≤ (pc : Int) + t)) = true)
  | .lookupswitch d ps => decide (i = .lookupswitch (pc + d) (ps.map (fun q => (q.1, (pc : Int) + q.2))) ∧ 0 ≤ pc + d ∧ ps.all (fun q => decide (0 ≤ (pc : Int) + q.2)) = true ∧ (ps.toList.zip (ps.toList.drop 1)).all (fun (a, next) => a.1 < next.1) = true)
  | .getfield k => decide (mPl o k = some i ∧ len = 3) && (match i with | .getfield _ => true | _ => false)
  | .putfield k => decide (len = 3) && (match i with | .putfield q => decide (mPl o k = some (.getfield q)) | _ => false)
  | .getstatic k => decide (mPs o k = some i ∧ len = 3)
  | .new k => decide (mPl o k = some i ∧ len = 3) && (match i with | .new _ => true | _ => false)
  | .anewarray k => decide (len = 3) && (match i with | .anewarray c => decide (mPl o k = some (.new c)) | _ => false)
  | .checkcast k => decide (mPl o k = some i ∧ len = 3) && (match i with | .checkcast _ => true | _ => false)
  | .invokevirtual k => decide (mPl o k = some i ∧ len = 3) && (match i with | .invokevirtual _ => true | .invokedynamic 1 => true | _ => false)
  | .invokespecial k => decide (mPl o k = some i ∧ len = 3) && (match i with | .invokespecial _ => true | .invokedynamic 0 => true | _ => false)
  | .invokestatic k => decide (mPl o k = some i ∧ len = 3) && (match i with | .invokestatic _ => true | .invokedynamic 2 => true | _ => false)
  | raw => mPlain raw && decide (i = raw)
def mChk (o : Nat) (cc : ByteArray) (q : mEnty) : Bool := match decode cc q.1 with
  | .ok (raw, len) => decide (q.2.2 = q.1 + len) && mRel o q.1 len raw q.2.1
  | .error _ => false
