/-! THE ABSTRACT MACHINE: typed cells in a list, code as a printed table, a step as a function -/
abbrev mCell : Type := (FieldType × List Int32) ⊕ List Int64 ⊕ (Nat × List (Option Nat)) ⊕ (Nat × List Value)
abbrev mHeap : Type := List mCell
abbrev mLoc : Type := List (Option Value)
abbrev mI (ty : FieldType) (xs : List Int32) : mCell := .inl (ty, xs)
abbrev mJ (xs : List Int64) : mCell := .inr (.inl xs)
abbrev mR (c : Nat) (xs : List (Option Nat)) : mCell := .inr (.inr (.inl (c, xs)))
abbrev mO (c : Nat) (fs : List Value) : mCell := .inr (.inr (.inr (c, fs)))
def mSz (x : mCell) : Nat := match x with
  | .inl q => q.2.length
  | .inr (.inl q) => q.length
  | .inr (.inr (.inl q)) => q.2.length
  | .inr (.inr (.inr q)) => q.2.length
def mSlots (h : mHeap) : Nat := (h.map mSz).sum
/-- what a step comes to: on, back with an answer, a call (method, arguments, what is left on the stack) -/
abbrev mRes : Type := (Nat × mLoc × List Value × mHeap) ⊕ (Option Value) ⊕ (Nat × List Value × List Value)
def mSto (L : mLoc) (i : Nat) (v : Value) : mLoc :=
  let L1 : mLoc := match i with
    | 0 => L
    | j + 1 => match L[j]? with
      | some (some (.long _)) => L.set j none
      | some (some (.double _)) => L.set j none
      | _ => L
  let L2 := L1.set i (some v)
  match v with
  | .long _ => L2.set (i + 1) none
  | _ => L2
def mEnt : List Value → mLoc
  | [] => []
  | .long x :: r => some (.long x) :: none :: mEnt r
  | .double x :: r => some (.double x) :: none :: mEnt r
  | v :: r => some v :: mEnt r
def mPad (n : Nat) (L : mLoc) : mLoc := L ++ List.replicate (n - L.length) none
def mFit (ty : FieldType) (v : Value) : Bool := match ty, v with
  | .int, .int _ => true
  | .long, .long _ => true
  | .boolean, .int x => decide (x = 0 ∨ x = 1)
  | .object _, .ref _ => true
  | .object _, .null => true
  | .array _, .ref _ => true
  | .array _, .null => true
  | _, _ => false
/-- an int that a method of this return type may answer -/
def mNar (ty : FieldType) (v : Int32) : Bool := match ty with
  | .int => true
  | .boolean => decide (v = 0 ∨ v = 1)
  | .char => decide (narrow .char (.int v) = .int v)
  | .byte => decide (narrow .byte (.int v) = .int v)
  | _ => false
def mZero (ty : FieldType) : Value := match ty with
  | .int => .int 0
  | .long => .long 0
  | .boolean => .int 0
  | _ => .null
def mCat (st : List Value) : Nat := (st.map fun v => v.category).sum
def mCmp (c : ClassFile.Cond) (x y : Int32) : Bool := match c with
  | .eq => decide (x = y)
  | .ne => decide (¬ x = y)
  | .lt => decide (x < y)
  | .ge => decide (y ≤ x)
  | .gt => decide (y < x)
  | .le => decide (x ≤ y)
/-- classes of which rows are made -/
def mRc (c : Nat) : Bool := decide (c = 10 ∨ c = 3 ∨ c = 5 ∨ c = 4)
section Step
variable (F : Nat → Nat → FieldType) (N : Nat → Nat) (rt : Option FieldType)
def mNew (N : Nat → Nat) (F : Nat → Nat → FieldType) (ci : Nat) : mCell := mO ci ((List.range (N ci)).map (fun k => mZero (F ci k)))
/-- one instruction: its rows resolved (fields: class * 128 + place; jsr: a reference that is known; jsr_w: a long; invokedynamic 0, 1, 2: Object's constructor, clone, arraycopy); branches to places -/
def mStep (i : Instr) (nx : Nat) (L : mLoc) (st : List Value) (h : mHeap) : Option mRes :=
  match i with
  | .iconst n => some (.inl (nx, L, .int (Int32.ofInt n) :: st, h))
  | .jsr n => some (.inl (nx, L, .ref n.toNat :: st, h))
  | .jsr_w n => some (.inl (nx, L, .long (Int64.ofInt n) :: st, h))
  | .aconst_null  => some (.inl (nx, L, .null :: st, h))
  | .iload k => match L[k]? with
    | some (some (.int x)) => some (.inl (nx, L, .int x :: st, h))
    | _ => none
  | .lload k => match L[k]? with
    | some (some (.long x)) => some (.inl (nx, L, .long x :: st, h))
    | _ => none
  | .aload k => match L[k]? with
    | some (some (.ref x)) => some (.inl (nx, L, .ref x :: st, h))
    | some (some .null) => some (.inl (nx, L, .null :: st, h))
    | _ => none
  | .istore k => match st with
    | .int x :: st => if k < L.length then some (.inl (nx, mSto L k (.int x), st, h)) else none
    | _ => none
  | .lstore k => match st with
    | .long x :: st => if k + 1 < L.length then some (.inl (nx, mSto L k (.long x), st, h)) else none
    | _ => none
  | .astore k => match st with
    | .ref x :: st => if k < L.length then some (.inl (nx, mSto L k (.ref x), st, h)) else none
    | .null :: st => if k < L.length then some (.inl (nx, mSto L k .null, st, h)) else none
    | _ => none
  | .iinc k n => match L[k]? with
    | some (some (.int x)) => some (.inl (nx, mSto L k (.int (x + Int32.ofInt n)), st, h))
    | _ => none
  | .iadd  => match st with
    | .int y :: .int x :: st => some (.inl (nx, L, .int (x + y) :: st, h))
    | _ => none
  | .isub  => match st with
    | .int y :: .int x :: st => some (.inl (nx, L, .int (x - y) :: st, h))
    | _ => none
  | .imul  => match st with
    | .int y :: .int x :: st => some (.inl (nx, L, .int (x * y) :: st, h))
    | _ => none
  | .iand  => match st with
    | .int y :: .int x :: st => some (.inl (nx, L, .int (x &&& y) :: st, h))
    | _ => none
  | .ior  => match st with
    | .int y :: .int x :: st => some (.inl (nx, L, .int (x ||| y) :: st, h))
    | _ => none
  | .ixor  => match st with
    | .int y :: .int x :: st => some (.inl (nx, L, .int (x ^^^ y) :: st, h))
    | _ => none
  | .idiv  => match st with
    | .int y :: .int x :: st => if y = 0 then none else some (.inl (nx, L, .int (x / y) :: st, h))
    | _ => none
  | .irem  => match st with
    | .int y :: .int x :: st => if y = 0 then none else some (.inl (nx, L, .int (x - (x / y) * y) :: st, h))
    | _ => none
  | .ineg  => match st with
    | .int x :: st => some (.inl (nx, L, .int (-x) :: st, h))
    | _ => none
  | .ishl  => match st with
    | .int y :: .int x :: st => some (.inl (nx, L, .int (x <<< (y &&& 31)) :: st, h))
    | _ => none
  | .ishr  => match st with
    | .int y :: .int x :: st => some (.inl (nx, L, .int (x >>> (y &&& 31)) :: st, h))
    | _ => none
  | .iushr  => match st with
    | .int y :: .int x :: st => some (.inl (nx, L, .int (x.toUInt32 >>> (y.toUInt32 &&& Int32.toUInt32 31)).toInt32 :: st, h))
    | _ => none
  | .ladd  => match st with
    | .long y :: .long x :: st => some (.inl (nx, L, .long (x + y) :: st, h))
    | _ => none
  | .lsub  => match st with
    | .long y :: .long x :: st => some (.inl (nx, L, .long (x - y) :: st, h))
    | _ => none
  | .lmul  => match st with
    | .long y :: .long x :: st => some (.inl (nx, L, .long (x * y) :: st, h))
    | _ => none
  | .land  => match st with
    | .long y :: .long x :: st => some (.inl (nx, L, .long (x &&& y) :: st, h))
    | _ => none
  | .lor  => match st with
    | .long y :: .long x :: st => some (.inl (nx, L, .long (x ||| y) :: st, h))
    | _ => none
  | .lxor  => match st with
    | .long y :: .long x :: st => some (.inl (nx, L, .long (x ^^^ y) :: st, h))
    | _ => none
  | .ldiv  => match st with
    | .long y :: .long x :: st => if y = 0 then none else some (.inl (nx, L, .long (x / y) :: st, h))
    | _ => none
  | .lrem  => match st with
    | .long y :: .long x :: st => if y = 0 then none else some (.inl (nx, L, .long (x - (x / y) * y) :: st, h))
    | _ => none
  | .lneg  => match st with
    | .long x :: st => some (.inl (nx, L, .long (-x) :: st, h))
    | _ => none
  | .lshl  => match st with
    | .int y :: .long x :: st => some (.inl (nx, L, .long (x <<< (y.toInt64 &&& 63)) :: st, h))
    | _ => none
  | .lushr  => match st with
    | .int y :: .long x :: st => some (.inl (nx, L, .long (x.toUInt64 >>> (y.toInt64.toUInt64 &&& Int64.toUInt64 63)).toInt64 :: st, h))
    | _ => none
  | .lcmp  => match st with
    | .long y :: .long x :: st => some (.inl (nx, L, .int (lg_cmp x y) :: st, h))
    | _ => none
  | .i2l  => match st with
    | .int x :: st => some (.inl (nx, L, .long x.toInt64 :: st, h))
    | _ => none
  | .l2i  => match st with
    | .long x :: st => some (.inl (nx, L, .int x.toInt32 :: st, h))
    | _ => none
  | .i2b  => match st with
    | .int x :: st => some (.inl (nx, L, .int x.toInt8.toInt32 :: st, h))
    | _ => none
  | .i2c  => match st with
    | .int x :: st => some (.inl (nx, L, .int (x.toUInt32 % 65536).toInt32 :: st, h))
    | _ => none
  | .dup  => match st with
    | .int x :: st => some (.inl (nx, L, .int x :: .int x :: st, h))
    | .ref x :: st => some (.inl (nx, L, .ref x :: .ref x :: st, h))
    | _ => none
  | .dup2  => match st with
    | .int y :: .int x :: st => some (.inl (nx, L, .int y :: .int x :: .int y :: .int x :: st, h))
    | .int y :: .ref x :: st => some (.inl (nx, L, .int y :: .ref x :: .int y :: .ref x :: st, h))
    | .long x :: st => some (.inl (nx, L, .long x :: .long x :: st, h))
    | _ => none
  | .pop  => match st with
    | .int _ :: st => some (.inl (nx, L, st, h))
    | _ => none
  | .goto t => some (.inl (t.toNat, L, st, h))
  | .ifCond c t => match st with
    | .int x :: st => some (.inl (if mCmp c x 0 then t.toNat else nx, L, st, h))
    | _ => none
  | .if_icmp c t => match st with
    | .int y :: .int x :: st => some (.inl (if mCmp c x y then t.toNat else nx, L, st, h))
    | _ => none
  | .ifnull t => match st with
    | .null :: st => some (.inl (t.toNat, L, st, h))
    | .ref a :: st => if 64 ≤ a then some (.inl (nx, L, st, h)) else none
    | _ => none
  | .ifnonnull t => match st with
    | .null :: st => some (.inl (nx, L, st, h))
    | .ref a :: st => if 64 ≤ a then some (.inl (t.toNat, L, st, h)) else none
    | _ => none
  | .tableswitch d lo hi os => match st with
    | .int x :: st => if x.toInt < lo ∨ hi < x.toInt then some (.inl (d.toNat, L, st, h)) else match os[(x.toInt - lo).toNat]? with
      | some t => some (.inl (t.toNat, L, st, h))
      | none => none
    | _ => none
  | .lookupswitch d ps => match st with
    | .int x :: st => some (.inl ((Op.lookupswitch.offset ps.toList d x.toInt).toNat, L, st, h))
    | _ => none
  | .getfield q => match st with
    | .ref a :: st => match h[a]? with
      | some (.inr (.inr (.inr (c, fs)))) => if c = q / 128 then match fs[q % 128]? with
        | some v => some (.inl (nx, L, v :: st, h))
        | none => none
        else none
      | _ => none
    | _ => none
  | .putfield q => match st with
    | v :: .ref a :: st => match h[a]? with
      | some (.inr (.inr (.inr (c, fs)))) => if 64 ≤ a ∧ c = q / 128 ∧ q % 128 < fs.length ∧ mFit (F c (q % 128)) v = true then some (.inl (nx, L, st, h.set a (mO c (fs.set (q % 128) v)))) else none
      | _ => none
    | _ => none
  | .iaload  => match st with
    | .int j :: .ref a :: st => match h[a]? with
      | some (.inl (.int, xs)) => if j < 0 then none else match xs[j.toNatClampNeg]? with
        | some x => some (.inl (nx, L, .int x :: st, h))
        | none => none
      | _ => none
    | _ => none
  | .baload  => match st with
    | .int j :: .ref a :: st => match h[a]? with
      | some (.inl (.byte, xs)) => if j < 0 then none else match xs[j.toNatClampNeg]? with
        | some x => some (.inl (nx, L, .int x :: st, h))
        | none => none
      | some (.inl (.boolean, xs)) => if j < 0 then none else match xs[j.toNatClampNeg]? with
        | some x => some (.inl (nx, L, .int x :: st, h))
        | none => none
      | _ => none
    | _ => none
  | .laload  => match st with
    | .int j :: .ref a :: st => match h[a]? with
      | some (.inr (.inl xs)) => if j < 0 then none else match xs[j.toNatClampNeg]? with
        | some x => some (.inl (nx, L, .long x :: st, h))
        | none => none
      | _ => none
    | _ => none
  | .aaload  => match st with
    | .int j :: .ref a :: st => match h[a]? with
      | some (.inr (.inr (.inl (c, xs)))) => if j < 0 ∨ mRc c = false then none else match xs[j.toNatClampNeg]? with
        | some none => some (.inl (nx, L, .null :: st, h))
        | some (some b) => if 64 ≤ b then some (.inl (nx, L, .ref b :: st, h)) else none
        | none => none
      | _ => none
    | _ => none
  | .iastore  => match st with
    | .int v :: .int j :: .ref a :: st => match h[a]? with
      | some (.inl (.int, xs)) => if 64 ≤ a ∧ ¬ j < 0 ∧ j.toNatClampNeg < xs.length then some (.inl (nx, L, st, h.set a (mI .int (xs.set j.toNatClampNeg v)))) else none
      | _ => none
    | _ => none
  | .bastore  => match st with
    | .int v :: .int j :: .ref a :: st => match h[a]? with
      | some (.inl (.byte, xs)) => if 64 ≤ a ∧ ¬ j < 0 ∧ j.toNatClampNeg < xs.length then some (.inl (nx, L, st, h.set a (mI .byte (xs.set j.toNatClampNeg (vp_nar .byte v))))) else none
      | some (.inl (.boolean, xs)) => if 64 ≤ a ∧ ¬ j < 0 ∧ j.toNatClampNeg < xs.length then some (.inl (nx, L, st, h.set a (mI .boolean (xs.set j.toNatClampNeg (vp_nar .boolean v))))) else none
      | _ => none
    | _ => none
  | .lastore  => match st with
    | .long v :: .int j :: .ref a :: st => match h[a]? with
      | some (.inr (.inl xs)) => if 64 ≤ a ∧ ¬ j < 0 ∧ j.toNatClampNeg < xs.length then some (.inl (nx, L, st, h.set a (mJ (xs.set j.toNatClampNeg v)))) else none
      | _ => none
    | _ => none
  | .aastore  => match st with
    | .ref v :: .int j :: .ref a :: st => match h[a]?, h[v]? with
      | some (.inr (.inr (.inl (c, xs)))), some (.inr (.inr (.inr (c2, _)))) => if 64 ≤ a ∧ 64 ≤ v ∧ c2 = c ∧ mRc c = true ∧ ¬ j < 0 ∧ j.toNatClampNeg < xs.length then some (.inl (nx, L, st, h.set a (mR c (xs.set j.toNatClampNeg (some v))))) else none
      | _, _ => none
    | _ => none
  | .arraylength  => match st with
    | .ref a :: st => match h[a]? with
      | some (.inl (ty, xs)) => if ty = .int ∨ ty = .byte ∨ ty = .boolean then some (.inl (nx, L, .int (Int32.ofNat xs.length) :: st, h)) else none
      | some (.inr (.inl xs)) => some (.inl (nx, L, .int (Int32.ofNat xs.length) :: st, h))
      | some (.inr (.inr (.inl (c, xs)))) => if mRc c = true then some (.inl (nx, L, .int (Int32.ofNat xs.length) :: st, h)) else none
      | _ => none
    | _ => none
  | .newarray .int => match st with
    | .int n :: st => if ¬ n < 0 ∧ n.toNatClampNeg ≤ 100000 then some (.inl (nx, L, .ref h.length :: st, h ++ [mI .int (List.replicate n.toNatClampNeg 0)])) else none
    | _ => none
  | .newarray .byte => match st with
    | .int n :: st => if ¬ n < 0 ∧ n.toNatClampNeg ≤ 100000 then some (.inl (nx, L, .ref h.length :: st, h ++ [mI .byte (List.replicate n.toNatClampNeg 0)])) else none
    | _ => none
  | .newarray .boolean => match st with
    | .int n :: st => if ¬ n < 0 ∧ n.toNatClampNeg ≤ 100000 then some (.inl (nx, L, .ref h.length :: st, h ++ [mI .boolean (List.replicate n.toNatClampNeg 0)])) else none
    | _ => none
  | .newarray .long => match st with
    | .int n :: st => if ¬ n < 0 ∧ n.toNatClampNeg ≤ 100000 then some (.inl (nx, L, .ref h.length :: st, h ++ [mJ (List.replicate n.toNatClampNeg 0)])) else none
    | _ => none
  | .anewarray c => match st with
    | .int n :: st => if mRc c = true ∧ ¬ n < 0 ∧ n.toNatClampNeg ≤ 100000 then some (.inl (nx, L, .ref h.length :: st, h ++ [mR c (List.replicate n.toNatClampNeg none)])) else none
    | _ => none
  | .new c => some (.inl (nx, L, .ref h.length :: st, h ++ [mNew N F c]))
  | .invokedynamic 0 => match st with
    | .ref a :: st => if 64 ≤ a ∧ mCat st ≤ 8 then some (.inl (nx, L, st, h)) else none
    | _ => none
  | .invokedynamic 1 => match st with
    | .ref a :: st => match h[a]? with
      | some (.inl (.int, xs)) => if 64 ≤ a ∧ mCat st ≤ 8 then some (.inl (nx, L, .ref h.length :: st, h ++ [mI .int xs])) else none
      | _ => none
    | _ => none
  | .invokedynamic 2 => match st with
    | .int n :: .int dp :: .ref a :: .int sp :: .ref a0 :: st => match h[a0]?, h[a]? with
      | some (.inl (.int, xs)), some (.inl (.int, ys)) => if 64 ≤ a0 ∧ 64 ≤ a ∧ ¬ a0 = a ∧ ¬ n < 0 ∧ sp = 0 ∧ dp = 0 ∧ n.toNatClampNeg ≤ xs.length ∧ n.toNatClampNeg ≤ ys.length ∧ mCat st ≤ 8 then some (.inl (nx, L, st, h.set a (mI .int (xs.take n.toNatClampNeg ++ ys.drop n.toNatClampNeg)))) else none
      | _, _ => none
    | _ => none
  | .invokedynamic 3 => match st with
    | .int y :: .int x :: st => if mCat st ≤ 8 then some (.inl (nx, L, .int (if x < y then y else x) :: st, h)) else none
    | _ => none
  | .invokedynamic 4 => match st with
    | .int y :: .int x :: st => if mCat st ≤ 8 then some (.inl (nx, L, .int (if y < x then y else x) :: st, h)) else none
    | _ => none
  | .checkcast _ => match st with
    | .ref a :: st => match h[a]? with
      | some (.inl (.int, _)) => if 64 ≤ a then some (.inl (nx, L, .ref a :: st, h)) else none
      | _ => none
    | _ => none
  | .invokevirtual q => match st[q % 16 - 1]? with
    | some (.ref a) => match h[a]? with
      | some (.inr (.inr (.inr (c, _)))) => if c = q / 16 % 32 ∧ 0 < q % 16 ∧ mCat (st.drop (q % 16)) ≤ 8 then some (.inr (.inr (q, (st.take (q % 16)).reverse, st.drop (q % 16)))) else none
      | _ => none
    | _ => none
  | .invokespecial q => match st[q % 16 - 1]? with
    | some (.ref a) => if 64 ≤ a ∧ 0 < q % 16 ∧ mCat (st.drop (q % 16)) ≤ 8 then some (.inr (.inr (q, (st.take (q % 16)).reverse, st.drop (q % 16)))) else none
    | _ => none
  | .invokestatic q => if q % 16 ≤ st.length ∧ mCat (st.drop (q % 16)) ≤ 8 then some (.inr (.inr (q, (st.take (q % 16)).reverse, st.drop (q % 16)))) else none
  | .ireturn  => match st with
    | [.int v] => match rt with
      | some ty => if mNar ty v then some (.inr (.inl (some (.int v)))) else none
      | none => none
    | _ => none
  | .lreturn  => match st with
    | [.long v] => if rt = some .long then some (.inr (.inl (some (.long v)))) else none
    | _ => none
  | .areturn  => match st with
    | [.ref v] => match rt with
      | some (.object _) => some (.inr (.inl (some (.ref v))))
      | some (.array _) => some (.inr (.inl (some (.ref v))))
      | _ => none
    | _ => none
  | .return_  => match st with
    | [] => if rt = none then some (.inr (.inl none)) else none
    | _ => none
  | _ => none
end Step
