/-! THE TYPED MACHINE, AND THE RUN AS A PREDICATE -/
def mTag : Value → Nat
  | .int _ => 0
  | .long _ => 1
  | .ref _ => 2
  | _ => 3
def tTag (ty : FieldType) : Nat := match ty with
  | .long => 1
  | .object _ => 2
  | .array _ => 2
  | .float => 9
  | .double => 9
  | _ => 0
/-- what a field of a class holds: 0 an int, 1 a long, 2 a reference -/
def fTag (c k : Nat) : Nat := if c = 16 then (if k = 0 then 2 else 0) else tTag (mTy c k)
/-- the methods that look at null elements -/
def tNul (m : Nat) : Bool := decide (m = 59 ∨ m = 60 ∨ m = 155 ∨ m = 170 ∨ m = 171)
def tOk (m : Nat) (i : Instr) (st : List Value) (h : mHeap) : Bool := match i with
  | .aaload => match st with
    | .int j :: .ref a :: _ => match h[a]? with
      | some (.inr (.inr (.inl (_, xs)))) => match xs[j.toNatClampNeg]? with
        | some none => tNul m
        | _ => true
      | _ => true
    | _ => true
  | .getfield q => match st with
    | .ref a :: _ => match h[a]? with
      | some (.inr (.inr (.inr (_, fs)))) => match fs[q % 128]? with
        | some v => decide (mTag v = fTag (q / 128) (q % 128))
        | none => false
      | _ => false
    | _ => false
  | _ => true
def tSt (m : Nat) (i : Instr) (nx : Nat) (L : mLoc) (st : List Value) (h : mHeap) : Option mRes := if tOk m i st h = true then mSt m i nx L st h else none
def tExec (d n : Nat) (m pc : Nat) (L : mLoc) (st : List Value) (h : mHeap) : Option (Option Value × mHeap) := match n with
  | 0 => none
  | n + 1 => match mFetch m pc with
    | none => none
    | some (i, nx) => match tSt m i nx L st h with
      | none => none
      | some (.inl (pc1, L1, st1, h1)) => tExec d n m pc1 L1 st1 h1
      | some (.inr (.inl v)) => some (v, h)
      | some (.inr (.inr (q, as, rest))) => match d with
        | 0 => none
        | d1 + 1 => if (mEnt as).length ≤ mMax (q / 512) then match tExec d1 n (q / 512) 0 (mPad (mMax (q / 512)) (mEnt as)) [] h with
          | none => none
          | some (v, h1) => tExec (d1 + 1) n m nx L (v.toList ++ rest) h1
          else none
theorem tSt_mSt {m : Nat} {i : Instr} {nx : Nat} {L : mLoc} {st : List Value} {h : mHeap} {x : mRes} (hx : tSt m i nx L st h = some x) : mSt m i nx L st h = some x := by
  unfold tSt at hx
  split at hx
  · exact hx
  · cases hx
theorem tExec_mExec : ∀ (n d m pc : Nat) (L : mLoc) (st : List Value) (h : mHeap) (x : Option Value × mHeap), tExec d n m pc L st h = some x → mExec d n m pc L st h = some x := by
  intro n
  induction n with
  | zero => intro d m pc L st h x hx; cases hx
  | succ n ih =>
    intro d m pc L st h x hx
    unfold tExec at hx
    unfold mExec
    split at hx
    · cases hx
    · rename_i i nx hf
      rw [hf]
      dsimp only
      split at hx
      · cases hx
      · rename_i hs
        rw [tSt_mSt hs]
        exact ih _ _ _ _ _ _ _ hx
      · rename_i hs
        rw [tSt_mSt hs]
        exact hx
      · rename_i q as rest hs
        rw [tSt_mSt hs]
        dsimp only
        split at hx
        · cases hx
        · split at hx
          · rename_i hl
            dsimp only
            rw [if_pos hl]
            split at hx
            · cases hx
            · rename_i v h1 hc
              rw [ih _ _ _ _ _ _ _ hc]
              exact ih _ _ _ _ _ _ _ hx
          · cases hx
theorem tExec_succ : ∀ (n d m pc : Nat) (L : mLoc) (st : List Value) (h : mHeap) (x : Option Value × mHeap), tExec d n m pc L st h = some x → tExec d (n + 1) m pc L st h = some x := by
  intro n
  induction n with
  | zero => intro d m pc L st h x hx; cases hx
  | succ n ih =>
    intro d m pc L st h x hx
    unfold tExec at hx
    unfold tExec
    split at hx
    · cases hx
    · rename_i i nx hf
      (try rw [hf]); (try dsimp only)
      split at hx
      · cases hx
      · rename_i hs
        (try rw [hs]); (try dsimp only)
        exact ih _ _ _ _ _ _ _ hx
      · rename_i hs
        (try rw [hs]); (try dsimp only)
        exact hx
      · rename_i q as rest hs
        (try rw [hs]); (try dsimp only)
        split at hx
        · cases hx
        · split at hx
          · rename_i hl
            (try dsimp only); (try rw [if_pos hl])
            split at hx
            · cases hx
            · rename_i v h1 hc
              rw [ih _ _ _ _ _ _ _ hc]
              exact ih _ _ _ _ _ _ _ hx
          · cases hx
theorem tExec_le {n n' d m pc : Nat} {L : mLoc} {st : List Value} {h : mHeap} {x : Option Value × mHeap} (hn : n ≤ n') (hx : tExec d n m pc L st h = some x) : tExec d n' m pc L st h = some x := by
  induction hn with
  | refl => exact hx
  | step _ ih => exact tExec_succ _ _ _ _ _ _ _ _ ih
/-- from here the run ends, and what it answers and leaves is so -/
def Go (d m pc : Nat) (L : mLoc) (st : List Value) (h : mHeap) (Q : Option Value → mHeap → Prop) : Prop := ∃ (n : Nat) (r : Option Value) (h1 : mHeap), tExec d n m pc L st h = some (r, h1) ∧ Q r h1
def GoC (d y : Nat) (as : List Value) (h : mHeap) (K : Option Value → mHeap → Prop) : Prop := match d with
  | 0 => False
  | d1 + 1 => (mEnt as).length ≤ mMax y ∧ Go d1 y 0 (mPad (mMax y) (mEnt as)) [] h K
section Rules
variable {d m pc nx : Nat} {L : mLoc} {st : List Value} {h : mHeap} {Q : Option Value → mHeap → Prop} {i : Instr}
theorem Go_step {pc1 : Nat} {L1 : mLoc} {st1 : List Value} {h1 : mHeap} (hf : mFetch m pc = some (i, nx)) (hs : tSt m i nx L st h = some (.inl (pc1, L1, st1, h1))) : Go d m pc L st h Q ↔ Go d m pc1 L1 st1 h1 Q := by
  constructor
  · rintro ⟨n, r, h2, e, q⟩
    cases n with
    | zero => cases e
    | succ n =>
      unfold tExec at e
      rw [hf] at e
      dsimp only at e
      rw [hs] at e
      exact ⟨n, r, h2, e, q⟩
  · rintro ⟨n, r, h2, e, q⟩
    refine ⟨n + 1, r, h2, ?_, q⟩
    unfold tExec
    rw [hf]
    dsimp only
    rw [hs]
    exact e
theorem Go_ret {v : Option Value} (hf : mFetch m pc = some (i, nx)) (hs : tSt m i nx L st h = some (.inr (.inl v))) : Go d m pc L st h Q ↔ Q v h := by
  constructor
  · rintro ⟨n, r, h2, e, q⟩
    cases n with
    | zero => cases e
    | succ n =>
      unfold tExec at e
      rw [hf] at e
      dsimp only at e
      rw [hs] at e
      cases e
      exact q
  · intro q
    refine ⟨1, v, h, ?_, q⟩
    unfold tExec
    rw [hf]
    dsimp only
    rw [hs]
theorem Go_stuck (hf : mFetch m pc = some (i, nx)) (hs : tSt m i nx L st h = none) : Go d m pc L st h Q ↔ False := by
  constructor
  · rintro ⟨n, r, h2, e, q⟩
    cases n with
    | zero => cases e
    | succ n =>
      unfold tExec at e
      rw [hf] at e
      dsimp only at e
      rw [hs] at e
      cases e
  · exact False.elim
theorem Go_call {q : Nat} {as rest : List Value} (hf : mFetch m pc = some (i, nx)) (hs : tSt m i nx L st h = some (.inr (.inr (q, as, rest)))) : Go d m pc L st h Q ↔ GoC d (q / 512) as h (fun v h1 => Go d m nx L (v.toList ++ rest) h1 Q) := by
  constructor
  · rintro ⟨n, r, h2, e, q⟩
    cases n with
    | zero => cases e
    | succ n =>
      unfold tExec at e
      rw [hf] at e
      dsimp only at e
      rw [hs] at e
      dsimp only at e
      split at e
      · cases e
      · split at e
        · rename_i hl
          split at e
          · cases e
          · rename_i v h1 hc
            exact ⟨hl, n, v, h1, hc, n, r, h2, e, q⟩
        · cases e
  · intro g
    match d, g with
    | d1 + 1, ⟨hl, n1, v, h1, hc, n2, r, h2, e, q⟩ =>
      refine ⟨max n1 n2 + 1, r, h2, ?_, q⟩
      unfold tExec
      rw [hf]
      dsimp only
      rw [hs]
      dsimp only
      rw [if_pos hl, tExec_le (Nat.le_max_left n1 n2) hc]
      exact tExec_le (Nat.le_max_right n1 n2) e
theorem Go_mono {Q' : Option Value → mHeap → Prop} (hq : ∀ r h1, Q r h1 → Q' r h1) (g : Go d m pc L st h Q) : Go d m pc L st h Q' := by
  obtain ⟨n, r, h1, e, q⟩ := g
  exact ⟨n, r, h1, e, hq _ _ q⟩
theorem GoC_mono {y : Nat} {as : List Value} {K K' : Option Value → mHeap → Prop} (hq : ∀ r h1, K r h1 → K' r h1) (g : GoC d y as h K) : GoC d y as h K' := by
  match d, g with
  | d1 + 1, ⟨hl, g⟩ => exact ⟨hl, Go_mono hq g⟩
theorem GoC_congr {y : Nat} {as : List Value} {K K' : Option Value → mHeap → Prop} (hq : ∀ r h1, K r h1 ↔ K' r h1) : GoC d y as h K ↔ GoC d y as h K' := ⟨GoC_mono fun r h1 => (hq r h1).mp, GoC_mono fun r h1 => (hq r h1).mpr⟩
/-- a run has one end -/
theorem Go_and {Q' : Option Value → mHeap → Prop} (g : Go d m pc L st h Q) (g' : Go d m pc L st h Q') : Go d m pc L st h (fun r h1 => Q r h1 ∧ Q' r h1) := by
  obtain ⟨n, r, h1, e, q⟩ := g
  obtain ⟨n', r', h1', e', q'⟩ := g'
  have a := tExec_le (Nat.le_max_left n n') e
  have b := tExec_le (Nat.le_max_right n n') e'
  rw [a] at b
  cases b
  exact ⟨_, _, _, a, q, q'⟩
end Rules
/-! what a method answers is of its type -/
def rTag : Option FieldType → Nat
  | none => 4
  | some .int => 0
  | some .boolean => 0
  | some .char => 0
  | some .byte => 0
  | some .long => 1
  | some (.object _) => 2
  | some (.array _) => 2
  | _ => 9
def rOk (k : Nat) (r : Option Value) : Prop := match k with
  | 4 => r = none
  | 0 => ∃ v, r = some (.int v)
  | 1 => ∃ v, r = some (.long v)
  | 2 => ∃ a, r = some (.ref a)
  | _ => False
set_option maxRecDepth 100000 in
set_option maxHeartbeats 4000000 in
theorem mStep_rOk {rt : Option FieldType} {i : Instr} {nx : Nat} {L : mLoc} {st : List Value} {h : mHeap} {r : Option Value} (hst : mStep mTy mNf rt i nx L st h = some (.inr (.inl r))) : rOk (rTag rt) r := by
  cases i with
  | ireturn =>
    simp only [mStep] at hst
    split at hst
    · split at hst
      · split at hst
        · rename_i v ty hn
          cases hst
          cases ty <;> first | exact ⟨_, rfl⟩ | (unfold mNar at hn; cases hn)
        · cases hst
      · cases hst
    · cases hst
  | lreturn =>
    simp only [mStep] at hst
    split at hst
    · split at hst
      · rename_i hr
        cases hst
        subst hr
        exact ⟨_, rfl⟩
      · cases hst
    · cases hst
  | areturn =>
    simp only [mStep] at hst
    split at hst
    · split at hst
      · cases hst
        exact ⟨_, rfl⟩
      · cases hst
        exact ⟨_, rfl⟩
      · cases hst
    · cases hst
  | return_ =>
    simp only [mStep] at hst
    split at hst
    · split at hst
      · rename_i hr
        cases hst
        subst hr
        exact rfl
      · cases hst
    · cases hst
  | newarray t =>
    exfalso
    revert hst
    cases t <;> (simp only [mStep]; (repeat' split) <;> simp)
  | invokedynamic d =>
    exfalso
    revert hst
    match d with | 0 => (simp only [mStep]; (repeat' split) <;> simp) | 1 => (simp only [mStep]; (repeat' split) <;> simp) | 2 => (simp only [mStep]; (repeat' split) <;> simp) | 3 => (simp only [mStep]; (repeat' split) <;> simp) | 4 => (simp only [mStep]; (repeat' split) <;> simp) | d + 5 => exact fun q => nomatch (show (none : Option mRes) = _ from q)
  | _ =>
    exfalso
    revert hst
    first | exact (fun q => nomatch (show (none : Option mRes) = _ from q)) | (simp only [mStep]; (repeat' split) <;> simp)
theorem tExec_rOk : ∀ (n d m pc : Nat) (L : mLoc) (st : List Value) (h : mHeap) (r : Option Value) (h1 : mHeap), tExec d n m pc L st h = some (r, h1) → rOk (rTag (mRet m)) r := by
  intro n
  induction n with
  | zero => intro d m pc L st h r h1 hx; cases hx
  | succ n ih =>
    intro d m pc L st h r h1 hx
    unfold tExec at hx
    split at hx
    · cases hx
    · rename_i i nx hf
      split at hx
      · cases hx
      · exact ih _ _ _ _ _ _ _ _ hx
      · rename_i hs
        cases hx
        exact mStep_rOk (tSt_mSt hs)
      · rename_i q as rest hs
        split at hx
        · cases hx
        · split at hx
          · split at hx
            · cases hx
            · exact ih _ _ _ _ _ _ _ _ hx
          · cases hx
theorem GoC_rOk {d y : Nat} {as : List Value} {h : mHeap} {K : Option Value → mHeap → Prop} (g : GoC d y as h K) : GoC d y as h (fun r h1 => K r h1 ∧ rOk (rTag (mRet y)) r) := by
  match d, g with
  | d1 + 1, ⟨hl, n, r, h1, e, q⟩ => exact ⟨hl, n, r, h1, e, q, tExec_rOk _ _ _ _ _ _ _ _ _ e⟩
def GoCi (d y : Nat) (as : List Value) (h : mHeap) (K : Int32 → mHeap → Prop) : Prop := GoC d y as h (fun r h1 => ∃ v, r = some (.int v) ∧ K v h1)
def GoCj (d y : Nat) (as : List Value) (h : mHeap) (K : Int64 → mHeap → Prop) : Prop := GoC d y as h (fun r h1 => ∃ v, r = some (.long v) ∧ K v h1)
def GoCr (d y : Nat) (as : List Value) (h : mHeap) (K : Nat → mHeap → Prop) : Prop := GoC d y as h (fun r h1 => ∃ v, r = some (.ref v) ∧ K v h1)
def GoCv (d y : Nat) (as : List Value) (h : mHeap) (K : mHeap → Prop) : Prop := GoC d y as h (fun r h1 => r = none ∧ K h1)
section Typed
variable {d y : Nat} {as : List Value} {h : mHeap}
theorem GoC_i {K : Option Value → mHeap → Prop} (hy : rTag (mRet y) = 0) : GoC d y as h K ↔ GoCi d y as h (fun v h1 => K (some (.int v)) h1) := by
  constructor
  · intro g
    refine GoC_mono ?_ (GoC_rOk g)
    rintro r h1 ⟨k, o⟩
    rw [hy] at o
    obtain ⟨v, rfl⟩ := o
    exact ⟨v, rfl, k⟩
  · refine GoC_mono ?_
    rintro r h1 ⟨v, rfl, k⟩
    exact k
theorem GoC_j {K : Option Value → mHeap → Prop} (hy : rTag (mRet y) = 1) : GoC d y as h K ↔ GoCj d y as h (fun v h1 => K (some (.long v)) h1) := by
  constructor
  · intro g
    refine GoC_mono ?_ (GoC_rOk g)
    rintro r h1 ⟨k, o⟩
    rw [hy] at o
    obtain ⟨v, rfl⟩ := o
    exact ⟨v, rfl, k⟩
  · refine GoC_mono ?_
    rintro r h1 ⟨v, rfl, k⟩
    exact k
theorem GoC_r {K : Option Value → mHeap → Prop} (hy : rTag (mRet y) = 2) : GoC d y as h K ↔ GoCr d y as h (fun v h1 => K (some (.ref v)) h1) := by
  constructor
  · intro g
    refine GoC_mono ?_ (GoC_rOk g)
    rintro r h1 ⟨k, o⟩
    rw [hy] at o
    obtain ⟨v, rfl⟩ := o
    exact ⟨v, rfl, k⟩
  · refine GoC_mono ?_
    rintro r h1 ⟨v, rfl, k⟩
    exact k
theorem GoC_v {K : Option Value → mHeap → Prop} (hy : rTag (mRet y) = 4) : GoC d y as h K ↔ GoCv d y as h (fun h1 => K none h1) := by
  constructor
  · intro g
    refine GoC_mono ?_ (GoC_rOk g)
    rintro r h1 ⟨k, o⟩
    rw [hy] at o
    cases o
    exact ⟨rfl, k⟩
  · refine GoC_mono ?_
    rintro r h1 ⟨rfl, k⟩
    exact k
theorem GoCi_mono {K K' : Int32 → mHeap → Prop} (g : GoCi d y as h K) (hq : ∀ v h1, K v h1 → K' v h1) : GoCi d y as h K' := GoC_mono (fun _ _ ⟨v, e, k⟩ => ⟨v, e, hq _ _ k⟩) g
theorem GoCj_mono {K K' : Int64 → mHeap → Prop} (g : GoCj d y as h K) (hq : ∀ v h1, K v h1 → K' v h1) : GoCj d y as h K' := GoC_mono (fun _ _ ⟨v, e, k⟩ => ⟨v, e, hq _ _ k⟩) g
theorem GoCr_mono {K K' : Nat → mHeap → Prop} (g : GoCr d y as h K) (hq : ∀ v h1, K v h1 → K' v h1) : GoCr d y as h K' := GoC_mono (fun _ _ ⟨v, e, k⟩ => ⟨v, e, hq _ _ k⟩) g
theorem GoCv_mono {K K' : mHeap → Prop} (g : GoCv d y as h K) (hq : ∀ h1, K h1 → K' h1) : GoCv d y as h K' := GoC_mono (fun _ _ ⟨e, k⟩ => ⟨e, hq _ k⟩) g
theorem GoCi_congr {K K' : Int32 → mHeap → Prop} (hq : ∀ v h1, K v h1 ↔ K' v h1) : GoCi d y as h K ↔ GoCi d y as h K' := ⟨fun g => GoCi_mono g fun v h1 => (hq v h1).mp, fun g => GoCi_mono g fun v h1 => (hq v h1).mpr⟩
theorem GoCj_congr {K K' : Int64 → mHeap → Prop} (hq : ∀ v h1, K v h1 ↔ K' v h1) : GoCj d y as h K ↔ GoCj d y as h K' := ⟨fun g => GoCj_mono g fun v h1 => (hq v h1).mp, fun g => GoCj_mono g fun v h1 => (hq v h1).mpr⟩
theorem GoCr_congr {K K' : Nat → mHeap → Prop} (hq : ∀ v h1, K v h1 ↔ K' v h1) : GoCr d y as h K ↔ GoCr d y as h K' := ⟨fun g => GoCr_mono g fun v h1 => (hq v h1).mp, fun g => GoCr_mono g fun v h1 => (hq v h1).mpr⟩
theorem GoCv_congr {K K' : mHeap → Prop} (hq : ∀ h1, K h1 ↔ K' h1) : GoCv d y as h K ↔ GoCv d y as h K' := ⟨fun g => GoCv_mono g fun h1 => (hq h1).mp, fun g => GoCv_mono g fun h1 => (hq h1).mpr⟩
/-- the entry of a method -/
theorem GoC_entry {K : Option Value → mHeap → Prop} {L : mLoc} (hl : decide ((mEnt as).length ≤ mMax y) = true) (hp : mPad (mMax y) (mEnt as) = L) : GoC (d + 1) y as h K ↔ Go d y 0 L [] h K := by
  subst hp
  exact ⟨fun g => g.2, fun g => ⟨of_decide_eq_true hl, g⟩⟩
end Typed
