/-! the tables agree with the bytes -/
def mPl (o idx : Nat) : Option Instr := match mPool.find? (fun q => q.1 == o && q.2.1 == idx) with
  | some q => some q.2.2.1
  | none => none
def mPs (o idx : Nat) : Option Instr := match mStp.find? (fun q => q.1 == o && q.2.1 == idx) with
  | some q => some q.2.2.1
  | none => none
def mGf (i : Instr) : Option Nat := match i with
  | .getfield k => some k
  | _ => none
theorem mGf_ok {i : Instr} {k : Nat} (h : mGf i = some k) : i = .getfield k := by
  cases i <;> simp [mGf] at h
  subst h
  rfl
def mPf (i : Instr) : Option Nat := match i with
  | .putfield k => some k
  | _ => none
theorem mPf_ok {i : Instr} {k : Nat} (h : mPf i = some k) : i = .putfield k := by
  cases i <;> simp [mPf] at h
  subst h
  rfl
def mGs (i : Instr) : Option Nat := match i with
  | .getstatic k => some k
  | _ => none
theorem mGs_ok {i : Instr} {k : Nat} (h : mGs i = some k) : i = .getstatic k := by
  cases i <;> simp [mGs] at h
  subst h
  rfl
def mNw (i : Instr) : Option Nat := match i with
  | .new k => some k
  | _ => none
theorem mNw_ok {i : Instr} {k : Nat} (h : mNw i = some k) : i = .new k := by
  cases i <;> simp [mNw] at h
  subst h
  rfl
def mAn (i : Instr) : Option Nat := match i with
  | .anewarray k => some k
  | _ => none
theorem mAn_ok {i : Instr} {k : Nat} (h : mAn i = some k) : i = .anewarray k := by
  cases i <;> simp [mAn] at h
  subst h
  rfl
def mCc (i : Instr) : Option Nat := match i with
  | .checkcast k => some k
  | _ => none
theorem mCc_ok {i : Instr} {k : Nat} (h : mCc i = some k) : i = .checkcast k := by
  cases i <;> simp [mCc] at h
  subst h
  rfl
def mIv (i : Instr) : Option Nat := match i with
  | .invokevirtual k => some k
  | _ => none
theorem mIv_ok {i : Instr} {k : Nat} (h : mIv i = some k) : i = .invokevirtual k := by
  cases i <;> simp [mIv] at h
  subst h
  rfl
def mIs (i : Instr) : Option Nat := match i with
  | .invokespecial k => some k
  | _ => none
theorem mIs_ok {i : Instr} {k : Nat} (h : mIs i = some k) : i = .invokespecial k := by
  cases i <;> simp [mIs] at h
  subst h
  rfl
def mIt (i : Instr) : Option Nat := match i with
  | .invokestatic k => some k
  | _ => none
theorem mIt_ok {i : Instr} {k : Nat} (h : mIt i = some k) : i = .invokestatic k := by
  cases i <;> simp [mIt] at h
  subst h
  rfl
def mL2 (i : Instr) : Option Nat := match i with
  | .ldc2_w k => some k
  | _ => none
theorem mL2_ok {i : Instr} {k : Nat} (h : mL2 i = some k) : i = .ldc2_w k := by
  cases i <;> simp [mL2] at h
  subst h
  rfl
def mLd (i : Instr) : Option (Nat × Nat) := match i with
  | .ldc k => some (k, 2)
  | .ldc_w k => some (k, 3)
  | _ => none
theorem mLd_ok {i : Instr} {k w : Nat} (h : mLd i = some (k, w)) : (i = .ldc k ∧ w = 2) ∨ (i = .ldc_w k ∧ w = 3) := by
  cases i <;> simp [mLd] at h
  · obtain ⟨h1, h2⟩ := h
    subst h1; subst h2
    exact Or.inl ⟨rfl, rfl⟩
  · obtain ⟨h1, h2⟩ := h
    subst h1; subst h2
    exact Or.inr ⟨rfl, rfl⟩
/-- the table's instruction at pc of a class o, and the decoded one of length len -/
def mRel (o pc len : Nat) (raw i : Instr) : Bool := match i with
  | .iconst n => decide (raw = .iconst n ∧ len = 1) || decide (raw = .bipush n ∧ len = 2 ∧ (Int8.ofInt n).toInt32 = Int32.ofInt n) || decide (raw = .sipush n ∧ len = 3 ∧ (Int16.ofInt n).toInt32 = Int32.ofInt n) || (match mLd raw with | some (k, w) => decide (mPl o k = some i ∧ len = w) | none => false) || (match mGs raw with | some k => decide (mPs o k = some i ∧ len = 3) | none => false)
  | .jsr _ => (match mLd raw with | some (k, w) => decide (mPl o k = some i ∧ len = w) | none => false) || (match mGs raw with | some k => decide (mPs o k = some i ∧ len = 3) | none => false)
  | .jsr_w n => decide (n = 0 ∧ raw = .lconst 0 ∧ len = 1) || decide (n = 1 ∧ raw = .lconst 1 ∧ len = 1) || (match mL2 raw with | some k => decide (mPl o k = some (i) ∧ len = 3) | none => false)
  | .iload k => decide (raw = .iload k ∧ len = 2) || decide (len = 1 ∧ ((k = 0 ∧ raw = .iload_n 0) ∨ (k = 1 ∧ raw = .iload_n 1) ∨ (k = 2 ∧ raw = .iload_n 2) ∨ (k = 3 ∧ raw = .iload_n 3)))
  | .lload k => decide (raw = .lload k ∧ len = 2) || decide (len = 1 ∧ ((k = 0 ∧ raw = .lload_n 0) ∨ (k = 1 ∧ raw = .lload_n 1) ∨ (k = 2 ∧ raw = .lload_n 2) ∨ (k = 3 ∧ raw = .lload_n 3)))
  | .aload k => decide (raw = .aload k ∧ len = 2) || decide (len = 1 ∧ ((k = 0 ∧ raw = .aload_n 0) ∨ (k = 1 ∧ raw = .aload_n 1) ∨ (k = 2 ∧ raw = .aload_n 2) ∨ (k = 3 ∧ raw = .aload_n 3)))
  | .istore k => decide (raw = .istore k ∧ len = 2) || decide (len = 1 ∧ ((k = 0 ∧ raw = .istore_n 0) ∨ (k = 1 ∧ raw = .istore_n 1) ∨ (k = 2 ∧ raw = .istore_n 2) ∨ (k = 3 ∧ raw = .istore_n 3)))
  | .lstore k => decide (raw = .lstore k ∧ len = 2) || decide (len = 1 ∧ ((k = 0 ∧ raw = .lstore_n 0) ∨ (k = 1 ∧ raw = .lstore_n 1) ∨ (k = 2 ∧ raw = .lstore_n 2) ∨ (k = 3 ∧ raw = .lstore_n 3)))
  | .astore k => decide (raw = .astore k ∧ len = 2) || decide (len = 1 ∧ ((k = 0 ∧ raw = .astore_n 0) ∨ (k = 1 ∧ raw = .astore_n 1) ∨ (k = 2 ∧ raw = .astore_n 2) ∨ (k = 3 ∧ raw = .astore_n 3)))
  | .iinc k n => decide (raw = .iinc k n ∧ len = 3)
  | .newarray t => decide (raw = .newarray t ∧ len = 2)
  | .goto t => decide (raw = .goto (t - pc) ∧ len = 3 ∧ 0 ≤ t)
  | .ifnull t => decide (raw = .ifnull (t - pc) ∧ len = 3 ∧ 0 ≤ t)
  | .ifnonnull t => decide (raw = .ifnonnull (t - pc) ∧ len = 3 ∧ 0 ≤ t)
  | .ifCond c t => decide (raw = .ifCond c (t - pc) ∧ len = 3 ∧ 0 ≤ t)
  | .if_icmp c t => decide (raw = .if_icmp c (t - pc) ∧ len = 3 ∧ 0 ≤ t)
  | .tableswitch d lo hi os => decide (raw = .tableswitch (d - pc) lo hi (os.map (fun t => t - (pc : Int))) ∧ 0 ≤ d ∧ os.all (fun t => decide (0 ≤ t)) = true)
  | .lookupswitch d ps => decide (raw = .lookupswitch (d - pc) (ps.map (fun q => (q.1, q.2 - (pc : Int)))) ∧ 0 ≤ d ∧ ps.all (fun q => decide (0 ≤ q.2)) = true ∧ ((ps.map (fun q => (q.1, q.2 - (pc : Int)))).toList.zip ((ps.map (fun q => (q.1, q.2 - (pc : Int)))).toList.drop 1)).all (fun (a, next) => a.1 < next.1) = true)
  | .getfield q => (match mGf raw with | some k => decide (mPl o k = some (.getfield q) ∧ len = 3) | none => false)
  | .putfield q => (match mPf raw with | some k => decide (mPl o k = some (.getfield q) ∧ len = 3) | none => false)
  | .new c => (match mNw raw with | some k => decide (mPl o k = some (.new c) ∧ len = 3) | none => false)
  | .anewarray c => (match mAn raw with | some k => decide (mPl o k = some (.new c) ∧ len = 3) | none => false)
  | .checkcast c => (match mCc raw with | some k => decide (mPl o k = some (.checkcast c) ∧ len = 3) | none => false)
  | .invokevirtual q => (match mIv raw with | some k => decide (mPl o k = some (.invokevirtual q) ∧ len = 3) | none => false)
  | .invokespecial q => (match mIs raw with | some k => decide (mPl o k = some (.invokespecial q) ∧ len = 3) | none => false)
  | .invokestatic q => (match mIt raw with | some k => decide (mPl o k = some (.invokestatic q) ∧ len = 3) | none => false)
  | .invokedynamic 0 => (match mIs raw with | some k => decide (mPl o k = some (.invokedynamic 0) ∧ len = 3) | none => false)
  | .invokedynamic 1 => (match mIv raw with | some k => decide (mPl o k = some (.invokedynamic 1) ∧ len = 3) | none => false)
  | .invokedynamic 2 => (match mIt raw with | some k => decide (mPl o k = some (.invokedynamic 2) ∧ len = 3) | none => false)
  | .invokedynamic 3 => (match mIt raw with | some k => decide (mPl o k = some (.invokedynamic 3) ∧ len = 3) | none => false)
  | .invokedynamic 4 => (match mIt raw with | some k => decide (mPl o k = some (.invokedynamic 4) ∧ len = 3) | none => false)
  | .aconst_null => decide (raw = .aconst_null ∧ len = 1)
  | .iadd => decide (raw = .iadd ∧ len = 1)
  | .isub => decide (raw = .isub ∧ len = 1)
  | .imul => decide (raw = .imul ∧ len = 1)
  | .iand => decide (raw = .iand ∧ len = 1)
  | .ior => decide (raw = .ior ∧ len = 1)
  | .ixor => decide (raw = .ixor ∧ len = 1)
  | .idiv => decide (raw = .idiv ∧ len = 1)
  | .irem => decide (raw = .irem ∧ len = 1)
  | .ineg => decide (raw = .ineg ∧ len = 1)
  | .ishl => decide (raw = .ishl ∧ len = 1)
  | .ishr => decide (raw = .ishr ∧ len = 1)
  | .iushr => decide (raw = .iushr ∧ len = 1)
  | .ladd => decide (raw = .ladd ∧ len = 1)
  | .lsub => decide (raw = .lsub ∧ len = 1)
  | .lmul => decide (raw = .lmul ∧ len = 1)
  | .land => decide (raw = .land ∧ len = 1)
  | .lor => decide (raw = .lor ∧ len = 1)
  | .lxor => decide (raw = .lxor ∧ len = 1)
  | .ldiv => decide (raw = .ldiv ∧ len = 1)
  | .lrem => decide (raw = .lrem ∧ len = 1)
  | .lneg => decide (raw = .lneg ∧ len = 1)
  | .lshl => decide (raw = .lshl ∧ len = 1)
  | .lushr => decide (raw = .lushr ∧ len = 1)
  | .lcmp => decide (raw = .lcmp ∧ len = 1)
  | .i2l => decide (raw = .i2l ∧ len = 1)
  | .l2i => decide (raw = .l2i ∧ len = 1)
  | .i2b => decide (raw = .i2b ∧ len = 1)
  | .i2c => decide (raw = .i2c ∧ len = 1)
  | .dup => decide (raw = .dup ∧ len = 1)
  | .dup2 => decide (raw = .dup2 ∧ len = 1)
  | .pop => decide (raw = .pop ∧ len = 1)
  | .iaload => decide (raw = .iaload ∧ len = 1)
  | .baload => decide (raw = .baload ∧ len = 1)
  | .laload => decide (raw = .laload ∧ len = 1)
  | .aaload => decide (raw = .aaload ∧ len = 1)
  | .iastore => decide (raw = .iastore ∧ len = 1)
  | .bastore => decide (raw = .bastore ∧ len = 1)
  | .lastore => decide (raw = .lastore ∧ len = 1)
  | .aastore => decide (raw = .aastore ∧ len = 1)
  | .arraylength => decide (raw = .arraylength ∧ len = 1)
  | .ireturn => decide (raw = .ireturn ∧ len = 1)
  | .lreturn => decide (raw = .lreturn ∧ len = 1)
  | .areturn => decide (raw = .areturn ∧ len = 1)
  | .return_ => decide (raw = .return_ ∧ len = 1)
  | _ => false
def mChk (o : Nat) (cc : ByteArray) (q : mEnty) : Bool := match decode cc q.1 with
  | .ok (raw, len) => decide (q.2.2 = q.1 + len) && mRel o q.1 len raw q.2.1
  | .error _ => false
