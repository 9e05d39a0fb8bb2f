/-! WHAT A HEAP SHOWS, HOW IT CHANGES, AND A RULE AN INSTRUCTION -/
def ii (z : Int) : Int32 := Int32.ofInt z
def jj (z : Int) : Int64 := Int64.ofInt z
def oF (h : mHeap) (a : Nat) : List Value := match h[a]? with
  | some (.inr (.inr (.inr (_, fs)))) => fs
  | _ => []
def oC (h : mHeap) (a : Nat) : Nat := match h[a]? with
  | some (.inr (.inr (.inr (c, _)))) => c
  | _ => 999
def vI : Option Value → Int32
  | some (.int x) => x
  | _ => 0
def vJ : Option Value → Int64
  | some (.long x) => x
  | _ => 0
def vR : Option Value → Nat
  | some (.ref x) => x
  | _ => 0
def fI (h : mHeap) (a k : Nat) : Int32 := vI (oF h a)[k]?
def fJ (h : mHeap) (a k : Nat) : Int64 := vJ (oF h a)[k]?
def fR (h : mHeap) (a k : Nat) : Nat := vR (oF h a)[k]?
def okF (h : mHeap) (a c k t : Nat) : Prop := oC h a = c ∧ ((oF h a)[k]?).map mTag = some t
def okP (h : mHeap) (a c k : Nat) : Prop := 64 ≤ a ∧ oC h a = c ∧ k < (oF h a).length
def sF (h : mHeap) (a k : Nat) (v : Value) : mHeap := match h[a]? with
  | some (.inr (.inr (.inr (c, fs)))) => h.set a (mO c (fs.set k v))
  | _ => h
def aT (h : mHeap) (a : Nat) : FieldType := match h[a]? with
  | some (.inl (ty, _)) => ty
  | _ => .float
def aI (h : mHeap) (a : Nat) : List Int32 := match h[a]? with
  | some (.inl (_, xs)) => xs
  | _ => []
def aJ (h : mHeap) (a : Nat) : List Int64 := match h[a]? with
  | some (.inr (.inl xs)) => xs
  | _ => []
def aR (h : mHeap) (a : Nat) : List (Option Nat) := match h[a]? with
  | some (.inr (.inr (.inl (_, xs)))) => xs
  | _ => []
def rC (h : mHeap) (a : Nat) : Nat := match h[a]? with
  | some (.inr (.inr (.inl (c, _)))) => c
  | _ => 999
def okA (h : mHeap) (a : Nat) (ty : FieldType) (j : Int32) : Prop := aT h a = ty ∧ ¬ j < 0 ∧ j.toNatClampNeg < (aI h a).length
def okB (h : mHeap) (a : Nat) (j : Int32) : Prop := (aT h a = .byte ∨ aT h a = .boolean) ∧ ¬ j < 0 ∧ j.toNatClampNeg < (aI h a).length
def okJ (h : mHeap) (a : Nat) (j : Int32) : Prop := ¬ j < 0 ∧ j.toNatClampNeg < (aJ h a).length
def eI (h : mHeap) (a : Nat) (j : Int32) : Int32 := (aI h a).getD j.toNatClampNeg 0
def eJ (h : mHeap) (a : Nat) (j : Int32) : Int64 := (aJ h a).getD j.toNatClampNeg 0
def eR (h : mHeap) (a : Nat) (j : Int32) : Nat := ((aR h a).getD j.toNatClampNeg none).getD 0
def okR (h : mHeap) (a : Nat) (j : Int32) : Prop := mRc (rC h a) = true ∧ ¬ j < 0 ∧ 64 ≤ eR h a j
def nuR (h : mHeap) (a : Nat) (j : Int32) : Prop := mRc (rC h a) = true ∧ ¬ j < 0 ∧ (aR h a)[j.toNatClampNeg]? = some none
def sI (h : mHeap) (a : Nat) (j v : Int32) : mHeap := match h[a]? with
  | some (.inl (ty, xs)) => h.set a (mI ty (xs.set j.toNatClampNeg v))
  | _ => h
def sB (h : mHeap) (a : Nat) (j v : Int32) : mHeap := sI h a j (vp_nar (aT h a) v)
def sJ (h : mHeap) (a : Nat) (j : Int32) (v : Int64) : mHeap := match h[a]? with
  | some (.inr (.inl xs)) => h.set a (mJ (xs.set j.toNatClampNeg v))
  | _ => h
def sR (h : mHeap) (a : Nat) (j : Int32) (v : Nat) : mHeap := match h[a]? with
  | some (.inr (.inr (.inl (c, xs)))) => h.set a (mR c (xs.set j.toNatClampNeg (some v)))
  | _ => h
def okS (h : mHeap) (a : Nat) (j : Int32) (v : Nat) : Prop := 64 ≤ a ∧ 64 ≤ v ∧ oC h v = rC h a ∧ mRc (rC h a) = true ∧ ¬ j < 0 ∧ j.toNatClampNeg < (aR h a).length
def okL (h : mHeap) (a : Nat) : Prop := match h[a]? with
  | some (.inl (ty, _)) => ty = .int ∨ ty = .byte ∨ ty = .boolean
  | some (.inr (.inl _)) => True
  | some (.inr (.inr (.inl (c, _)))) => mRc c = true
  | _ => False
def nL (h : mHeap) (a : Nat) : Nat := match h[a]? with
  | some (.inl (_, xs)) => xs.length
  | some (.inr (.inl xs)) => xs.length
  | some (.inr (.inr (.inl (_, xs)))) => xs.length
  | _ => 0
def okN (n : Int32) : Prop := ¬ n < 0 ∧ n.toNatClampNeg ≤ 100000
def nA (h : mHeap) (ty : FieldType) (n : Int32) : mHeap := h ++ [mI ty (List.replicate n.toNatClampNeg 0)]
def nJ (h : mHeap) (n : Int32) : mHeap := h ++ [mJ (List.replicate n.toNatClampNeg 0)]
def nR (h : mHeap) (c : Nat) (n : Int32) : mHeap := h ++ [mR c (List.replicate n.toNatClampNeg none)]
def nO (h : mHeap) (c : Nat) : mHeap := h ++ [mNew mNf mTy c]
def nCl (h : mHeap) (a : Nat) : mHeap := h ++ [mI .int (aI h a)]
def okC (h : mHeap) (a b : Nat) (sp dp n : Int32) : Prop := aT h a = .int ∧ aT h b = .int ∧ 64 ≤ a ∧ 64 ≤ b ∧ ¬ a = b ∧ ¬ n < 0 ∧ sp = 0 ∧ dp = 0 ∧ n.toNatClampNeg ≤ (aI h a).length ∧ n.toNatClampNeg ≤ (aI h b).length
def sC (h : mHeap) (a b : Nat) (n : Int32) : mHeap := h.set b (mI .int ((aI h a).take n.toNatClampNeg ++ (aI h b).drop n.toNatClampNeg))
def shl (x y : Int32) : Int32 := x <<< (y &&& 31)
def shr (x y : Int32) : Int32 := x >>> (y &&& 31)
def ushr (x y : Int32) : Int32 := (x.toUInt32 >>> (y.toUInt32 &&& Int32.toUInt32 31)).toInt32
def lshl (x : Int64) (y : Int32) : Int64 := x <<< (y.toInt64 &&& 63)
def lushr (x : Int64) (y : Int32) : Int64 := (x.toUInt64 >>> (y.toInt64.toUInt64 &&& Int64.toUInt64 63)).toInt64
def irm (x y : Int32) : Int32 := x - (x / y) * y
def lrm (x y : Int64) : Int64 := x - (x / y) * y
/-- no long in it -/
def mNo : Option Value → Bool
  | some (.long _) => false
  | some (.double _) => false
  | _ => true
def mNl (L : mLoc) (k : Nat) : Bool := match k with
  | 0 => true
  | j + 1 => match L[j]? with
    | some v => mNo v
    | none => true
theorem mSto_no {L : mLoc} {k : Nat} {v : Value} (hn : mNl L k = true) : mSto L k v = (match v with
  | .long _ => (L.set k (some v)).set (k + 1) none
  | _ => L.set k (some v)) := by
  cases k with
  | zero => cases v <;> rfl
  | succ j =>
    cases hw : L[j]? with
    | none => simp only [mSto, hw]; cases v <;> rfl
    | some w =>
      simp only [mNl, hw] at hn
      cases w with
      | none => simp only [mSto, hw]; cases v <;> rfl
      | some u => cases u <;> first | (simp [mNo] at hn; done) | (simp only [mSto, hw]; cases v <;> rfl)
theorem tSt_of {m : Nat} {i : Instr} {nx : Nat} {L : mLoc} {st : List Value} {h : mHeap} {x : Option mRes} (hok : tOk m i st h = true) (hs : mStep mTy mNf (mRet m) i nx L st h = x) : tSt m i nx L st h = x := by
  unfold tSt
  rw [if_pos hok]
  exact hs
theorem mF {m pc : Nat} {c : List mEnty} {e : Instr × Nat} (hm : mCodes[m]? = some c) (he : c.lookup pc = some e) : mFetch m pc = some e := by
  unfold mFetch
  rw [hm]
  exact he
theorem gi {c : Prop} {a b a' b' : Prop} [Decidable c] (h1 : a ↔ a') (h2 : b ↔ b') : (if c then a else b) ↔ (if c then a' else b') := by
  split <;> assumption
section R
variable {d m pc nx : Nat} {L : mLoc} {st : List Value} {h : mHeap} {Q : Option Value → mHeap → Prop}
theorem G_iconst {n : Int} (hf : mFetch m pc = some (.iconst n, nx)) : Go d m pc L st h Q ↔ Go d m nx L (.int (ii n) :: st) h Q := Go_step hf (tSt_of rfl rfl)
theorem G_jsr {n : Int} (hf : mFetch m pc = some (.jsr n, nx)) : Go d m pc L st h Q ↔ Go d m nx L (.ref n.toNat :: st) h Q := Go_step hf (tSt_of rfl rfl)
theorem G_jsr_w {n : Int} (hf : mFetch m pc = some (.jsr_w n, nx)) : Go d m pc L st h Q ↔ Go d m nx L (.long (jj n) :: st) h Q := Go_step hf (tSt_of rfl rfl)
theorem G_iload {k : Nat} {x : Int32} (hl : L[k]? = some (some (.int x))) (hf : mFetch m pc = some (.iload k, nx)) : Go d m pc L st h Q ↔ Go d m nx L (.int x :: st) h Q := Go_step hf (tSt_of rfl (by simp only [mStep, hl]))
theorem G_lload {k : Nat} {x : Int64} (hl : L[k]? = some (some (.long x))) (hf : mFetch m pc = some (.lload k, nx)) : Go d m pc L st h Q ↔ Go d m nx L (.long x :: st) h Q := Go_step hf (tSt_of rfl (by simp only [mStep, hl]))
theorem G_aload {k x : Nat} (hl : L[k]? = some (some (.ref x))) (hf : mFetch m pc = some (.aload k, nx)) : Go d m pc L st h Q ↔ Go d m nx L (.ref x :: st) h Q := Go_step hf (tSt_of rfl (by simp only [mStep, hl]))
theorem G_aloadn {k : Nat} (hl : L[k]? = some (some .null)) (hf : mFetch m pc = some (.aload k, nx)) : Go d m pc L st h Q ↔ Go d m nx L (.null :: st) h Q := Go_step hf (tSt_of rfl (by simp only [mStep, hl]))
theorem ltb {a b : Nat} (h : Nat.ble (a + 1) b = true) : a < b := Nat.le_of_ble_eq_true h
theorem G_istore {k : Nat} {x : Int32} {L' : mLoc} (hL : L.set k (some (.int x)) = L') (hk : k < L.length) (hn : mNl L k = true) (hf : mFetch m pc = some (.istore k, nx)) : Go d m pc L (.int x :: st) h Q ↔ Go d m nx L' st h Q := by
  subst hL; exact Go_step hf (tSt_of rfl (by simp only [mStep, if_pos hk, mSto_no hn]))
theorem G_lstore {k : Nat} {x : Int64} {L' : mLoc} (hL : (L.set k (some (.long x))).set (k + 1) none = L') (hk : k + 1 < L.length) (hn : mNl L k = true) (hf : mFetch m pc = some (.lstore k, nx)) : Go d m pc L (.long x :: st) h Q ↔ Go d m nx L' st h Q := by
  subst hL; exact Go_step hf (tSt_of rfl (by simp only [mStep, if_pos hk, mSto_no hn]))
theorem G_astore {k x : Nat} {L' : mLoc} (hL : L.set k (some (.ref x)) = L') (hk : k < L.length) (hn : mNl L k = true) (hf : mFetch m pc = some (.astore k, nx)) : Go d m pc L (.ref x :: st) h Q ↔ Go d m nx L' st h Q := by
  subst hL; exact Go_step hf (tSt_of rfl (by simp only [mStep, if_pos hk, mSto_no hn]))
theorem G_astoren {k : Nat} {L' : mLoc} (hL : L.set k (some .null) = L') (hk : k < L.length) (hn : mNl L k = true) (hf : mFetch m pc = some (.astore k, nx)) : Go d m pc L (.null :: st) h Q ↔ Go d m nx L' st h Q := by
  subst hL; exact Go_step hf (tSt_of rfl (by simp only [mStep, if_pos hk, mSto_no hn]))
theorem G_iinc {k : Nat} {n : Int} {x : Int32} {L' : mLoc} (hL : L.set k (some (.int (x + ii n))) = L') (hl : L[k]? = some (some (.int x))) (hn : mNl L k = true) (hf : mFetch m pc = some (.iinc k n, nx)) : Go d m pc L st h Q ↔ Go d m nx L' st h Q := by
  subst hL; exact Go_step hf (tSt_of rfl (by simp only [mStep, hl, mSto_no hn]; rfl))
theorem G_iadd {x y : Int32} (hf : mFetch m pc = some (.iadd, nx)) : Go d m pc L (.int y :: .int x :: st) h Q ↔ Go d m nx L (.int (x + y) :: st) h Q := Go_step hf (tSt_of rfl rfl)
theorem G_isub {x y : Int32} (hf : mFetch m pc = some (.isub, nx)) : Go d m pc L (.int y :: .int x :: st) h Q ↔ Go d m nx L (.int (x - y) :: st) h Q := Go_step hf (tSt_of rfl rfl)
theorem G_imul {x y : Int32} (hf : mFetch m pc = some (.imul, nx)) : Go d m pc L (.int y :: .int x :: st) h Q ↔ Go d m nx L (.int (x * y) :: st) h Q := Go_step hf (tSt_of rfl rfl)
theorem G_iand {x y : Int32} (hf : mFetch m pc = some (.iand, nx)) : Go d m pc L (.int y :: .int x :: st) h Q ↔ Go d m nx L (.int (x &&& y) :: st) h Q := Go_step hf (tSt_of rfl rfl)
theorem G_ior {x y : Int32} (hf : mFetch m pc = some (.ior, nx)) : Go d m pc L (.int y :: .int x :: st) h Q ↔ Go d m nx L (.int (x ||| y) :: st) h Q := Go_step hf (tSt_of rfl rfl)
theorem G_ixor {x y : Int32} (hf : mFetch m pc = some (.ixor, nx)) : Go d m pc L (.int y :: .int x :: st) h Q ↔ Go d m nx L (.int (x ^^^ y) :: st) h Q := Go_step hf (tSt_of rfl rfl)
theorem G_idiv {x y : Int32} (hf : mFetch m pc = some (.idiv, nx)) : Go d m pc L (.int y :: .int x :: st) h Q ↔ (¬ y = ii 0 ∧ Go d m nx L (.int (x / y) :: st) h Q) := by
  have e0 : ii 0 = 0 := rfl
  rw [e0]
  by_cases c : y = 0
  · rw [Go_stuck hf (tSt_of rfl (by simp only [mStep, if_pos c]))]; simp [c]
  · rw [Go_step hf (tSt_of rfl (by simp only [mStep, if_neg c]; rfl))]; simp [c]
theorem G_irem {x y : Int32} (hf : mFetch m pc = some (.irem, nx)) : Go d m pc L (.int y :: .int x :: st) h Q ↔ (¬ y = ii 0 ∧ Go d m nx L (.int (irm x y) :: st) h Q) := by
  have e0 : ii 0 = 0 := rfl
  rw [e0]
  by_cases c : y = 0
  · rw [Go_stuck hf (tSt_of rfl (by simp only [mStep, if_pos c]))]; simp [c]
  · rw [Go_step hf (tSt_of rfl (by simp only [mStep, if_neg c]; rfl))]; simp [c, irm]
theorem G_ineg {x : Int32} (hf : mFetch m pc = some (.ineg, nx)) : Go d m pc L (.int x :: st) h Q ↔ Go d m nx L (.int (-x) :: st) h Q := Go_step hf (tSt_of rfl rfl)
theorem G_ishl {x y : Int32} (hf : mFetch m pc = some (.ishl, nx)) : Go d m pc L (.int y :: .int x :: st) h Q ↔ Go d m nx L (.int (shl x y) :: st) h Q := Go_step hf (tSt_of rfl rfl)
theorem G_ishr {x y : Int32} (hf : mFetch m pc = some (.ishr, nx)) : Go d m pc L (.int y :: .int x :: st) h Q ↔ Go d m nx L (.int (shr x y) :: st) h Q := Go_step hf (tSt_of rfl rfl)
theorem G_iushr {x y : Int32} (hf : mFetch m pc = some (.iushr, nx)) : Go d m pc L (.int y :: .int x :: st) h Q ↔ Go d m nx L (.int (ushr x y) :: st) h Q := Go_step hf (tSt_of rfl rfl)
theorem G_ladd {x y : Int64} (hf : mFetch m pc = some (.ladd, nx)) : Go d m pc L (.long y :: .long x :: st) h Q ↔ Go d m nx L (.long (x + y) :: st) h Q := Go_step hf (tSt_of rfl rfl)
theorem G_lsub {x y : Int64} (hf : mFetch m pc = some (.lsub, nx)) : Go d m pc L (.long y :: .long x :: st) h Q ↔ Go d m nx L (.long (x - y) :: st) h Q := Go_step hf (tSt_of rfl rfl)
theorem G_lmul {x y : Int64} (hf : mFetch m pc = some (.lmul, nx)) : Go d m pc L (.long y :: .long x :: st) h Q ↔ Go d m nx L (.long (x * y) :: st) h Q := Go_step hf (tSt_of rfl rfl)
theorem G_land {x y : Int64} (hf : mFetch m pc = some (.land, nx)) : Go d m pc L (.long y :: .long x :: st) h Q ↔ Go d m nx L (.long (x &&& y) :: st) h Q := Go_step hf (tSt_of rfl rfl)
theorem G_lor {x y : Int64} (hf : mFetch m pc = some (.lor, nx)) : Go d m pc L (.long y :: .long x :: st) h Q ↔ Go d m nx L (.long (x ||| y) :: st) h Q := Go_step hf (tSt_of rfl rfl)
theorem G_lxor {x y : Int64} (hf : mFetch m pc = some (.lxor, nx)) : Go d m pc L (.long y :: .long x :: st) h Q ↔ Go d m nx L (.long (x ^^^ y) :: st) h Q := Go_step hf (tSt_of rfl rfl)
theorem G_ldiv {x y : Int64} (hf : mFetch m pc = some (.ldiv, nx)) : Go d m pc L (.long y :: .long x :: st) h Q ↔ (¬ y = jj 0 ∧ Go d m nx L (.long (x / y) :: st) h Q) := by
  have e0 : jj 0 = 0 := rfl
  rw [e0]
  by_cases c : y = 0
  · rw [Go_stuck hf (tSt_of rfl (by simp only [mStep, if_pos c]))]; simp [c]
  · rw [Go_step hf (tSt_of rfl (by simp only [mStep, if_neg c]; rfl))]; simp [c]
theorem G_lrem {x y : Int64} (hf : mFetch m pc = some (.lrem, nx)) : Go d m pc L (.long y :: .long x :: st) h Q ↔ (¬ y = jj 0 ∧ Go d m nx L (.long (lrm x y) :: st) h Q) := by
  have e0 : jj 0 = 0 := rfl
  rw [e0]
  by_cases c : y = 0
  · rw [Go_stuck hf (tSt_of rfl (by simp only [mStep, if_pos c]))]; simp [c]
  · rw [Go_step hf (tSt_of rfl (by simp only [mStep, if_neg c]; rfl))]; simp [c, lrm]
theorem G_lneg {x : Int64} (hf : mFetch m pc = some (.lneg, nx)) : Go d m pc L (.long x :: st) h Q ↔ Go d m nx L (.long (-x) :: st) h Q := Go_step hf (tSt_of rfl rfl)
theorem G_lshl {x : Int64} {y : Int32} (hf : mFetch m pc = some (.lshl, nx)) : Go d m pc L (.int y :: .long x :: st) h Q ↔ Go d m nx L (.long (lshl x y) :: st) h Q := Go_step hf (tSt_of rfl rfl)
theorem G_lushr {x : Int64} {y : Int32} (hf : mFetch m pc = some (.lushr, nx)) : Go d m pc L (.int y :: .long x :: st) h Q ↔ Go d m nx L (.long (lushr x y) :: st) h Q := Go_step hf (tSt_of rfl rfl)
theorem G_lcmp {x y : Int64} (hf : mFetch m pc = some (.lcmp, nx)) : Go d m pc L (.long y :: .long x :: st) h Q ↔ Go d m nx L (.int (lg_cmp x y) :: st) h Q := Go_step hf (tSt_of rfl rfl)
theorem G_i2l {x : Int32} (hf : mFetch m pc = some (.i2l, nx)) : Go d m pc L (.int x :: st) h Q ↔ Go d m nx L (.long x.toInt64 :: st) h Q := Go_step hf (tSt_of rfl rfl)
theorem G_l2i {x : Int64} (hf : mFetch m pc = some (.l2i, nx)) : Go d m pc L (.long x :: st) h Q ↔ Go d m nx L (.int x.toInt32 :: st) h Q := Go_step hf (tSt_of rfl rfl)
theorem G_i2b {x : Int32} (hf : mFetch m pc = some (.i2b, nx)) : Go d m pc L (.int x :: st) h Q ↔ Go d m nx L (.int x.toInt8.toInt32 :: st) h Q := Go_step hf (tSt_of rfl rfl)
theorem G_i2c {x : Int32} (hf : mFetch m pc = some (.i2c, nx)) : Go d m pc L (.int x :: st) h Q ↔ Go d m nx L (.int (x.toUInt32 % 65536).toInt32 :: st) h Q := Go_step hf (tSt_of rfl rfl)
theorem G_dupi {x : Int32} (hf : mFetch m pc = some (.dup, nx)) : Go d m pc L (.int x :: st) h Q ↔ Go d m nx L (.int x :: .int x :: st) h Q := Go_step hf (tSt_of rfl rfl)
theorem G_dupr {x : Nat} (hf : mFetch m pc = some (.dup, nx)) : Go d m pc L (.ref x :: st) h Q ↔ Go d m nx L (.ref x :: .ref x :: st) h Q := Go_step hf (tSt_of rfl rfl)
theorem G_dup2r {x : Nat} {y : Int32} (hf : mFetch m pc = some (.dup2, nx)) : Go d m pc L (.int y :: .ref x :: st) h Q ↔ Go d m nx L (.int y :: .ref x :: .int y :: .ref x :: st) h Q := Go_step hf (tSt_of rfl rfl)
theorem G_dup2i {x y : Int32} (hf : mFetch m pc = some (.dup2, nx)) : Go d m pc L (.int y :: .int x :: st) h Q ↔ Go d m nx L (.int y :: .int x :: .int y :: .int x :: st) h Q := Go_step hf (tSt_of rfl rfl)
theorem G_dup2j {x : Int64} (hf : mFetch m pc = some (.dup2, nx)) : Go d m pc L (.long x :: st) h Q ↔ Go d m nx L (.long x :: .long x :: st) h Q := Go_step hf (tSt_of rfl rfl)
theorem G_popi {x : Int32} (hf : mFetch m pc = some (.pop, nx)) : Go d m pc L (.int x :: st) h Q ↔ Go d m nx L st h Q := Go_step hf (tSt_of rfl rfl)
theorem G_goto {t : Int} (hf : mFetch m pc = some (.goto t, nx)) : Go d m pc L st h Q ↔ Go d m t.toNat L st h Q := Go_step hf (tSt_of rfl rfl)
theorem mCmp_go {c : ClassFile.Cond} {x y : Int32} {t : Nat} (P : Prop) [Decidable P] (hP : mCmp c x y = decide P) : Go d m (if mCmp c x y = true then t else nx) L st h Q ↔ (if P then Go d m t L st h Q else Go d m nx L st h Q) := by
  by_cases p : P
  · rw [if_pos (by rw [hP]; exact decide_eq_true p), if_pos p]
  · rw [if_neg (by rw [hP, decide_eq_true_eq]; exact p), if_neg p]
theorem G_eq {t : Int} {x : Int32} (hf : mFetch m pc = some (.ifCond .eq t, nx)) : Go d m pc L (.int x :: st) h Q ↔ (if x = ii 0 then Go d m t.toNat L st h Q else Go d m nx L st h Q) := (Go_step hf (tSt_of rfl rfl)).trans (mCmp_go (x = ii 0) rfl)
theorem G_ne {t : Int} {x : Int32} (hf : mFetch m pc = some (.ifCond .ne t, nx)) : Go d m pc L (.int x :: st) h Q ↔ (if ¬ x = ii 0 then Go d m t.toNat L st h Q else Go d m nx L st h Q) := (Go_step hf (tSt_of rfl rfl)).trans (mCmp_go (¬ x = ii 0) rfl)
theorem G_lt {t : Int} {x : Int32} (hf : mFetch m pc = some (.ifCond .lt t, nx)) : Go d m pc L (.int x :: st) h Q ↔ (if x < ii 0 then Go d m t.toNat L st h Q else Go d m nx L st h Q) := (Go_step hf (tSt_of rfl rfl)).trans (mCmp_go (x < ii 0) rfl)
theorem G_ge {t : Int} {x : Int32} (hf : mFetch m pc = some (.ifCond .ge t, nx)) : Go d m pc L (.int x :: st) h Q ↔ (if ii 0 ≤ x then Go d m t.toNat L st h Q else Go d m nx L st h Q) := (Go_step hf (tSt_of rfl rfl)).trans (mCmp_go (ii 0 ≤ x) rfl)
theorem G_gt {t : Int} {x : Int32} (hf : mFetch m pc = some (.ifCond .gt t, nx)) : Go d m pc L (.int x :: st) h Q ↔ (if ii 0 < x then Go d m t.toNat L st h Q else Go d m nx L st h Q) := (Go_step hf (tSt_of rfl rfl)).trans (mCmp_go (ii 0 < x) rfl)
theorem G_le {t : Int} {x : Int32} (hf : mFetch m pc = some (.ifCond .le t, nx)) : Go d m pc L (.int x :: st) h Q ↔ (if x ≤ ii 0 then Go d m t.toNat L st h Q else Go d m nx L st h Q) := (Go_step hf (tSt_of rfl rfl)).trans (mCmp_go (x ≤ ii 0) rfl)
theorem G_ieq {t : Int} {x y : Int32} (hf : mFetch m pc = some (.if_icmp .eq t, nx)) : Go d m pc L (.int y :: .int x :: st) h Q ↔ (if x = y then Go d m t.toNat L st h Q else Go d m nx L st h Q) := (Go_step hf (tSt_of rfl rfl)).trans (mCmp_go (x = y) rfl)
theorem G_ine {t : Int} {x y : Int32} (hf : mFetch m pc = some (.if_icmp .ne t, nx)) : Go d m pc L (.int y :: .int x :: st) h Q ↔ (if ¬ x = y then Go d m t.toNat L st h Q else Go d m nx L st h Q) := (Go_step hf (tSt_of rfl rfl)).trans (mCmp_go (¬ x = y) rfl)
theorem G_ilt {t : Int} {x y : Int32} (hf : mFetch m pc = some (.if_icmp .lt t, nx)) : Go d m pc L (.int y :: .int x :: st) h Q ↔ (if x < y then Go d m t.toNat L st h Q else Go d m nx L st h Q) := (Go_step hf (tSt_of rfl rfl)).trans (mCmp_go (x < y) rfl)
theorem G_ige {t : Int} {x y : Int32} (hf : mFetch m pc = some (.if_icmp .ge t, nx)) : Go d m pc L (.int y :: .int x :: st) h Q ↔ (if y ≤ x then Go d m t.toNat L st h Q else Go d m nx L st h Q) := (Go_step hf (tSt_of rfl rfl)).trans (mCmp_go (y ≤ x) rfl)
theorem G_igt {t : Int} {x y : Int32} (hf : mFetch m pc = some (.if_icmp .gt t, nx)) : Go d m pc L (.int y :: .int x :: st) h Q ↔ (if y < x then Go d m t.toNat L st h Q else Go d m nx L st h Q) := (Go_step hf (tSt_of rfl rfl)).trans (mCmp_go (y < x) rfl)
theorem G_ile {t : Int} {x y : Int32} (hf : mFetch m pc = some (.if_icmp .le t, nx)) : Go d m pc L (.int y :: .int x :: st) h Q ↔ (if x ≤ y then Go d m t.toNat L st h Q else Go d m nx L st h Q) := (Go_step hf (tSt_of rfl rfl)).trans (mCmp_go (x ≤ y) rfl)
theorem G_ifnulln {t : Int} (hf : mFetch m pc = some (.ifnull t, nx)) : Go d m pc L (.null :: st) h Q ↔ Go d m t.toNat L st h Q := Go_step hf (tSt_of rfl rfl)
theorem G_ifnullr {t : Int} {a : Nat} (hf : mFetch m pc = some (.ifnull t, nx)) : Go d m pc L (.ref a :: st) h Q ↔ (64 ≤ a ∧ Go d m nx L st h Q) := by
  by_cases c : 64 ≤ a
  · rw [Go_step hf (tSt_of rfl (by simp only [mStep, if_pos c]; rfl))]; simp [c]
  · rw [Go_stuck hf (tSt_of rfl (by simp only [mStep, if_neg c]))]; simp [c]
theorem G_ifnonnulln {t : Int} (hf : mFetch m pc = some (.ifnonnull t, nx)) : Go d m pc L (.null :: st) h Q ↔ Go d m nx L st h Q := Go_step hf (tSt_of rfl rfl)
theorem G_ifnonnullr {t : Int} {a : Nat} (hf : mFetch m pc = some (.ifnonnull t, nx)) : Go d m pc L (.ref a :: st) h Q ↔ (64 ≤ a ∧ Go d m t.toNat L st h Q) := by
  by_cases c : 64 ≤ a
  · rw [Go_step hf (tSt_of rfl (by simp only [mStep, if_pos c]; rfl))]; simp [c]
  · rw [Go_stuck hf (tSt_of rfl (by simp only [mStep, if_neg c]))]; simp [c]
end R
