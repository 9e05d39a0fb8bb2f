/-! the run: calls as deep as d, fuel n -/
def mFetch (m pc : Nat) : Option (Instr × Nat) := match mCodes[m]? with
  | some c => c.lookup pc
  | none => none
def mSt (m : Nat) (i : Instr) (nx : Nat) (L : mLoc) (st : List Value) (h : mHeap) : Option mRes := mStep mTy mNf (mRet m) i nx L st h
def mExec (d n : Nat) (m pc : Nat) (L : mLoc) (st : List Value) (h : mHeap) : Option (Option Value × mHeap) := match n with
  | 0 => none
  | n + 1 => match mFetch m pc with
    | none => none
    | some (i, nx) => match mSt m i nx L st h with
      | none => none
      | some (.inl (pc1, L1, st1, h1)) => mExec d n m pc1 L1 st1 h1
      | some (.inr (.inl v)) => some (v, h)
      | some (.inr (.inr (q, as, rest))) => match d with
        | 0 => none
        | d1 + 1 => if (mEnt as).length ≤ mMax (q / 512) then match mExec d1 n (q / 512) 0 (mPad (mMax (q / 512)) (mEnt as)) [] h with
          | none => none
          | some (v, h1) => mExec (d1 + 1) n m nx L (v.toList ++ rest) h1
          else none
