/-! THE CONSTRUCTORS: a run that looks at no row of numbers, cell by cell -/
abbrev aCell : Type := (Nat × Nat) ⊕ Nat ⊕ (Nat × List (Option Nat)) ⊕ (Nat × List Value)
abbrev aRes : Type := (Nat × mLoc × List Value × List aCell) ⊕ (Option Value) ⊕ (Nat × List Value × List Value)
def cnc (c : aCell) : mCell := match c with
  | .inl (ty, n) => mI (if ty = 1 then .int else if ty = 2 then .byte else .boolean) (List.replicate n 0)
  | .inr (.inl n) => mJ (List.replicate n 0)
  | .inr (.inr (.inl (c, xs))) => mR c xs
  | .inr (.inr (.inr (c, fs))) => mO c fs
def cH (X : List Int32) (T : List aCell) : mHeap := mS0 X ++ T.map cnc
def cR (X : List Int32) (r : aRes) : mRes := match r with
  | .inl (pc, L, st, T) => .inl (pc, L, st, cH X T)
  | .inr r => .inr r
def aStep (m : Nat) (i : Instr) (nx : Nat) (L : mLoc) (st : List Value) (T : List aCell) : Option aRes := match i with
  | .iconst n => some (.inl (nx, L, .int (Int32.ofInt n) :: st, T))
  | .iload k => match L[k]? with
    | some (some (.int x)) => some (.inl (nx, L, .int x :: st, T))
    | _ => none
  | .aload k => match L[k]? with
    | some (some (.ref x)) => some (.inl (nx, L, .ref x :: st, T))
    | _ => none
  | .istore k => match st with
    | .int x :: st => if k < L.length then some (.inl (nx, mSto L k (.int x), st, T)) else none
    | _ => none
  | .astore k => match st with
    | .ref x :: st => if k < L.length then some (.inl (nx, mSto L k (.ref x), st, T)) else none
    | _ => none
  | .iinc k n => match L[k]? with
    | some (some (.int x)) => some (.inl (nx, mSto L k (.int (x + Int32.ofInt n)), st, T))
    | _ => none
  | .dup => match st with
    | .int x :: st => some (.inl (nx, L, .int x :: .int x :: st, T))
    | .ref x :: st => some (.inl (nx, L, .ref x :: .ref x :: st, T))
    | _ => none
  | .goto t => some (.inl (t.toNat, L, st, T))
  | .if_icmp c t => match st with
    | .int y :: .int x :: st => some (.inl (if mCmp c x y then t.toNat else nx, L, st, T))
    | _ => none
  | .new c => some (.inl (nx, L, .ref (64 + T.length) :: st, T ++ [.inr (.inr (.inr (c, (List.range (mNf c)).map (fun k => mZero (mTy c k)))))]))
  | .newarray .int => match st with
    | .int n :: st => if ¬ n < 0 ∧ n.toNatClampNeg ≤ 100000 then some (.inl (nx, L, .ref (64 + T.length) :: st, T ++ [.inl (1, n.toNatClampNeg)])) else none
    | _ => none
  | .newarray .byte => match st with
    | .int n :: st => if ¬ n < 0 ∧ n.toNatClampNeg ≤ 100000 then some (.inl (nx, L, .ref (64 + T.length) :: st, T ++ [.inl (2, n.toNatClampNeg)])) else none
    | _ => none
  | .newarray .boolean => match st with
    | .int n :: st => if ¬ n < 0 ∧ n.toNatClampNeg ≤ 100000 then some (.inl (nx, L, .ref (64 + T.length) :: st, T ++ [.inl (3, n.toNatClampNeg)])) else none
    | _ => none
  | .newarray .long => match st with
    | .int n :: st => if ¬ n < 0 ∧ n.toNatClampNeg ≤ 100000 then some (.inl (nx, L, .ref (64 + T.length) :: st, T ++ [.inr (.inl n.toNatClampNeg)])) else none
    | _ => none
  | .anewarray c => match st with
    | .int n :: st => if mRc c = true ∧ ¬ n < 0 ∧ n.toNatClampNeg ≤ 100000 then some (.inl (nx, L, .ref (64 + T.length) :: st, T ++ [.inr (.inr (.inl (c, List.replicate n.toNatClampNeg none)))])) else none
    | _ => none
  | .putfield q => match st with
    | v :: .ref a :: st => match T[a - 64]? with
      | some (.inr (.inr (.inr (c, fs)))) => if 64 ≤ a ∧ c = q / 128 ∧ q % 128 < fs.length ∧ mFit (mTy c (q % 128)) v = true then some (.inl (nx, L, st, T.set (a - 64) (.inr (.inr (.inr (c, fs.set (q % 128) v)))))) else none
      | _ => none
    | _ => none
  | .getfield q => match st with
    | .ref a :: st => match T[a - 64]? with
      | some (.inr (.inr (.inr (c, fs)))) => match fs[q % 128]? with
        | some v => if 64 ≤ a ∧ c = q / 128 ∧ mTag v = fTag (q / 128) (q % 128) then some (.inl (nx, L, v :: st, T)) else none
        | none => none
      | _ => none
    | _ => none
  | .aastore => match st with
    | .ref v :: .int j :: .ref a :: st => match T[a - 64]? with
      | some (.inr (.inr (.inl (c, xs)))) => match T[v - 64]? with
        | some (.inr (.inr (.inr (c2, fs)))) => if 64 ≤ a ∧ 64 ≤ v ∧ c2 = c ∧ mRc c = true ∧ ¬ j < 0 ∧ j.toNatClampNeg < xs.length then some (.inl (nx, L, st, T.set (a - 64) (.inr (.inr (.inl (c, xs.set j.toNatClampNeg (some v))))))) else none
        | _ => none
      | _ => none
    | _ => none
  | .arraylength => match st with
    | .ref a :: st => match T[a - 64]? with
      | some (.inr (.inr (.inl (c, xs)))) => if 64 ≤ a ∧ mRc c = true then some (.inl (nx, L, .int (Int32.ofNat xs.length) :: st, T)) else none
      | _ => none
    | _ => none
  | .invokedynamic 0 => match st with
    | .ref a :: st => if 64 ≤ a ∧ mCat st ≤ 8 then some (.inl (nx, L, st, T)) else none
    | _ => none
  | .invokespecial q => match st[q % 16 - 1]? with
    | some (.ref a) => if 64 ≤ a ∧ 0 < q % 16 ∧ mCat (st.drop (q % 16)) ≤ 8 then some (.inr (.inr (q, (st.take (q % 16)).reverse, st.drop (q % 16)))) else none
    | _ => none
  | .return_ => match st with
    | [] => if mRet m = none then some (.inr (.inl none)) else none
    | _ => none
  | _ => none
def aEx (d n : Nat) (m pc : Nat) (L : mLoc) (st : List Value) (T : List aCell) : Option (Option Value × List aCell) := match n with
  | 0 => none
  | n + 1 => match mFetch m pc with
    | none => none
    | some (i, nx) => match aStep m i nx L st T with
      | none => none
      | some (.inl (pc1, L1, st1, T1)) => aEx d n m pc1 L1 st1 T1
      | some (.inr (.inl v)) => some (v, T)
      | some (.inr (.inr (q, as, rest))) => match d with
        | 0 => none
        | d1 + 1 => if (mEnt as).length ≤ mMax (q / 512) then match aEx d1 n (q / 512) 0 (mPad (mMax (q / 512)) (mEnt as)) [] T with
          | none => none
          | some (v, T1) => aEx (d1 + 1) n m nx L (v.toList ++ rest) T1
          else none
section Cn
variable {X : List Int32} {T : List aCell} {m nx a : Nat} {L : mLoc} {st : List Value} {i : Instr}
theorem cH_len : (cH X T).length = 64 + T.length := by unfold cH; rw [List.length_append, mS0_len, List.length_map]
theorem cH_at {c : aCell} (h : 64 ≤ a) (e : T[a - 64]? = some c) : (cH X T)[a]? = some (cnc c) := by
  unfold cH
  rw [List.getElem?_append_right (by rw [mS0_len]; exact h), mS0_len, List.getElem?_map, e]
  rfl
theorem cH_set {c : aCell} (h : 64 ≤ a) : (cH X T).set a (cnc c) = cH X (T.set (a - 64) c) := by
  unfold cH
  rw [List.set_append_right a (cnc c) (by rw [mS0_len]; exact h), mS0_len, List.map_set]
theorem cH_app {c : aCell} : cH X T ++ [cnc c] = cH X (T ++ [c]) := by
  unfold cH
  rw [List.append_assoc, List.map_append]
  rfl
theorem tSt_n {h : mHeap} (e : tOk m i st h = true) : tSt m i nx L st h = mStep mTy mNf (mRet m) i nx L st h := if_pos e
theorem aStep_ok {res : aRes} (hst : aStep m i nx L st T = some res) : tSt m i nx L st (cH X T) = some (cR X res) := by
  cases i with
  | iconst n => cases hst; exact (tSt_n rfl).trans rfl
  | goto t => cases hst; exact (tSt_n rfl).trans rfl
  | iload k =>
    simp only [aStep] at hst
    split at hst
    · rename_i x hl
      cases hst
      rw [tSt_n rfl]
      simp only [mStep, hl]
      rfl
    · cases hst
  | aload k =>
    simp only [aStep] at hst
    split at hst
    · rename_i x hl
      cases hst
      rw [tSt_n rfl]
      simp only [mStep, hl]
      rfl
    · cases hst
  | iinc k n =>
    simp only [aStep] at hst
    split at hst
    · rename_i x hl
      cases hst
      rw [tSt_n rfl]
      simp only [mStep, hl]
      rfl
    · cases hst
  | istore k =>
    simp only [aStep] at hst
    split at hst
    · split at hst
      · rename_i hk
        cases hst
        rw [tSt_n rfl]
        exact if_pos hk
      · cases hst
    · cases hst
  | astore k =>
    simp only [aStep] at hst
    split at hst
    · split at hst
      · rename_i hk
        cases hst
        rw [tSt_n rfl]
        exact if_pos hk
      · cases hst
    · cases hst
  | dup =>
    simp only [aStep] at hst
    split at hst
    · cases hst; exact (tSt_n rfl).trans rfl
    · cases hst; exact (tSt_n rfl).trans rfl
    · cases hst
  | if_icmp c t =>
    simp only [aStep] at hst
    split at hst
    · cases hst; exact (tSt_n rfl).trans rfl
    · cases hst
  | new c =>
    cases hst
    rw [tSt_n rfl]
    show (some (Sum.inl (nx, L, Value.ref (cH X T).length :: st, cH X T ++ [mNew mNf mTy c])) : Option mRes) = _
    rw [cH_len, show mNew mNf mTy c = cnc (.inr (.inr (.inr (c, (List.range (mNf c)).map (fun k => mZero (mTy c k)))))) from rfl, cH_app]
    rfl
  | newarray t =>
    cases t with
    | int =>
      simp only [aStep] at hst
      split at hst
      · split at hst
        · rename_i n st hk
          cases hst
          rw [tSt_n rfl]
          refine (if_pos hk).trans ?_
          rw [cH_len, show mI .int (List.replicate n.toNatClampNeg 0) = cnc (.inl (1, n.toNatClampNeg)) from rfl, cH_app]
          rfl
        · cases hst
      · cases hst
    | byte =>
      simp only [aStep] at hst
      split at hst
      · split at hst
        · rename_i n st hk
          cases hst
          rw [tSt_n rfl]
          refine (if_pos hk).trans ?_
          rw [cH_len, show mI .byte (List.replicate n.toNatClampNeg 0) = cnc (.inl (2, n.toNatClampNeg)) from rfl, cH_app]
          rfl
        · cases hst
      · cases hst
    | boolean =>
      simp only [aStep] at hst
      split at hst
      · split at hst
        · rename_i n st hk
          cases hst
          rw [tSt_n rfl]
          refine (if_pos hk).trans ?_
          rw [cH_len, show mI .boolean (List.replicate n.toNatClampNeg 0) = cnc (.inl (3, n.toNatClampNeg)) from rfl, cH_app]
          rfl
        · cases hst
      · cases hst
    | long =>
      simp only [aStep] at hst
      split at hst
      · split at hst
        · rename_i n st hk
          cases hst
          rw [tSt_n rfl]
          refine (if_pos hk).trans ?_
          rw [cH_len, show mJ (List.replicate n.toNatClampNeg 0) = cnc (.inr (.inl n.toNatClampNeg)) from rfl, cH_app]
          rfl
        · cases hst
      · cases hst
    | _ => cases hst
  | anewarray c =>
    simp only [aStep] at hst
    split at hst
    · split at hst
      · rename_i n st hk
        cases hst
        rw [tSt_n rfl]
        refine (if_pos hk).trans ?_
        rw [cH_len, show mR c (List.replicate n.toNatClampNeg none) = cnc (.inr (.inr (.inl (c, List.replicate n.toNatClampNeg none)))) from rfl, cH_app]
        rfl
      · cases hst
    · cases hst
  | putfield q =>
    simp only [aStep] at hst
    split at hst
    · rename_i v a st
      split at hst
      · rename_i c fs hh
        split at hst
        · rename_i hk
          cases hst
          rw [tSt_n rfl]
          have e := cH_at (X := X) hk.1 hh
          simp only [mStep, e]
          refine (if_pos hk).trans ?_
          rw [show mO c (fs.set (q % 128) v) = cnc (.inr (.inr (.inr (c, fs.set (q % 128) v)))) from rfl, cH_set hk.1]
          rfl
        · cases hst
      · cases hst
    · cases hst
  | getfield q =>
    simp only [aStep] at hst
    split at hst
    · rename_i a st
      split at hst
      · rename_i c fs hh
        split at hst
        · rename_i v hv
          split at hst
          · rename_i hk
            cases hst
            have e := cH_at (X := X) hk.1 hh
            rw [tSt_n (by
              unfold tOk
              simp only [e, cnc, hv]
              exact decide_eq_true hk.2.2)]
            simp only [mStep, e, cnc, hv]
            exact if_pos hk.2.1
          · cases hst
        · cases hst
      · cases hst
    · cases hst
  | aastore =>
    simp only [aStep] at hst
    split at hst
    · rename_i v j a st
      split at hst
      · rename_i c xs hh
        split at hst
        · rename_i c2 fs hv
          split at hst
          · rename_i hk
            cases hst
            rw [tSt_n rfl]
            have e := cH_at (X := X) hk.1 hh
            have e2 := cH_at (X := X) hk.2.1 hv
            simp only [mStep, e, e2]
            refine (if_pos hk).trans ?_
            rw [show mR c (xs.set j.toNatClampNeg (some v)) = cnc (.inr (.inr (.inl (c, xs.set j.toNatClampNeg (some v))))) from rfl, cH_set hk.1]
            rfl
          · cases hst
        · cases hst
      · cases hst
    · cases hst
  | arraylength =>
    simp only [aStep] at hst
    split at hst
    · rename_i a st
      split at hst
      · rename_i c xs hh
        split at hst
        · rename_i hk
          cases hst
          rw [tSt_n rfl]
          have e := cH_at (X := X) hk.1 hh
          simp only [mStep, e]
          exact if_pos hk.2
        · cases hst
      · cases hst
    · cases hst
  | invokedynamic k =>
    match k, hst with
    | 0, hst =>
      simp only [aStep] at hst
      split at hst
      · split at hst
        · rename_i hk
          cases hst
          rw [tSt_n rfl]
          exact if_pos hk
        · cases hst
      · cases hst
    | n + 1, hst => cases hst
  | invokespecial q =>
    simp only [aStep] at hst
    split at hst
    · rename_i a hl
      split at hst
      · rename_i hk
        cases hst
        rw [tSt_n rfl]
        simp only [mStep, hl]
        exact if_pos hk
      · cases hst
    · cases hst
  | return_ =>
    simp only [aStep] at hst
    split at hst
    · split at hst
      · rename_i hk
        cases hst
        rw [tSt_n rfl]
        exact if_pos hk
      · cases hst
    · cases hst
  | _ => cases hst
theorem aEx_ok {X : List Int32} : ∀ (n d m pc : Nat) (L : mLoc) (st : List Value) (T : List aCell) (r : Option Value) (T1 : List aCell), aEx d n m pc L st T = some (r, T1) → tExec d n m pc L st (cH X T) = some (r, cH X T1) := by
  intro n
  induction n with
  | zero => intro d m pc L st T r T1 hx; cases hx
  | succ n ih =>
    intro d m pc L st T r T1 hx
    unfold aEx at hx
    unfold tExec
    split at hx
    · cases hx
    · rename_i i nx hf
      rw [hf]
      split at hx
      · cases hx
      · rename_i hs
        have g := aStep_ok (X := X) hs
        simp only [g, cR]
        exact ih _ _ _ _ _ _ _ _ hx
      · rename_i hs
        have g := aStep_ok (X := X) hs
        cases hx
        simp only [g, cR]
      · rename_i q as rest hs
        have g := aStep_ok (X := X) hs
        simp only [g, cR]
        split at hx
        · cases hx
        · split at hx
          · rename_i hl
            simp only [hl, if_true]
            split at hx
            · cases hx
            · rename_i v T2 hc
              rw [ih _ _ _ _ _ _ _ _ hc]
              exact ih _ _ _ _ _ _ _ _ hx
          · cases hx
end Cn
