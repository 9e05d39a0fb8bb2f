/-! THE CONSTRUCTORS: what they make -/
abbrev aI' (ty : Nat) (n : Nat) : aCell := .inl (ty, n)
abbrev aJ' (n : Nat) : aCell := .inr (.inl n)
abbrev aR' (c : Nat) (xs : List (Option Nat)) : aCell := .inr (.inr (.inl (c, xs)))
abbrev aO' (c : Nat) (fs : List Value) : aCell := .inr (.inr (.inr (c, fs)))
abbrev aN (c : Nat) : aCell := aO' c ((List.range (mNf c)).map (fun k => mZero (mTy c k)))
def eqA (a b : aCell) : Bool := match a, b with
  | .inl x, .inl y => decide (x = y)
  | .inr (.inl x), .inr (.inl y) => decide (x = y)
  | .inr (.inr (.inl x)), .inr (.inr (.inl y)) => decide (x = y)
  | .inr (.inr (.inr x)), .inr (.inr (.inr y)) => decide (x = y)
  | _, _ => false
def eqL : List aCell → List aCell → Bool
  | [], [] => true
  | a :: s, b :: t => eqA a b && eqL s t
  | _, _ => false
def eqR (o : Option (Option Value × List aCell)) (T : List aCell) : Bool := match o with
  | some (none, T1) => eqL T1 T
  | _ => false
theorem eqA_ok {a b : aCell} (h : eqA a b = true) : a = b := by
  unfold eqA at h
  split at h
  · rw [of_decide_eq_true h]
  · rw [of_decide_eq_true h]
  · rw [of_decide_eq_true h]
  · rw [of_decide_eq_true h]
  · cases h
theorem eqL_ok : ∀ {s t : List aCell}, eqL s t = true → s = t
  | [], [], _ => rfl
  | [], _ :: _, h => absurd h Bool.false_ne_true
  | _ :: _, [], h => absurd h Bool.false_ne_true
  | a :: s, b :: t, h => by
    have h : (eqA a b && eqL s t) = true := h
    rw [Bool.and_eq_true] at h
    rw [eqA_ok h.1, eqL_ok h.2]
theorem eqR_ok {o : Option (Option Value × List aCell)} {T : List aCell} (h : eqR o T = true) : o = some (none, T) := by
  unfold eqR at h
  split at h
  · rw [eqL_ok h]
  · cases h
def T134 : List aCell := [aO' 11 [.ref 65, .ref 118, .ref 119, .ref 69, .ref 123, .int 0, .ref 97, .ref 124, .ref 125, .ref 136], aO' 9 [.ref 66, .int 0, .int 0, .ref 67, .ref 68, .int 0, .int 0], aI' 2 400, aI' 1 401, aI' 1 401, aO' 8 [.ref 70, .int 0, .ref 71, .ref 72, .int 0, .int 0, .int 0], aR' 10 [some 73, some 74, some 75, some 76, some 77, some 78, some 79, some 80, some 81, some 82, some 83, some 84, some 85, some 86, some 87, some 88, some 89, some 90, some 91, some 92, some 93, some 94, some 95, some 96], aO' 10 [.long 0, .long 0, .long 0, .long 0], aI' 1 24, aO' 10 [.long 0, .long 0, .long 0, .long 0], aO' 10 [.long 0, .long 0, .long 0, .long 0], aO' 10 [.long 0, .long 0, .long 0, .long 0], aO' 10 [.long 0, .long 0, .long 0, .long 0], aO' 10 [.long 0, .long 0, .long 0, .long 0], aO' 10 [.long 0, .long 0, .long 0, .long 0], aO' 10 [.long 0, .long 0, .long 0, .long 0], aO' 10 [.long 0, .long 0, .long 0, .long 0], aO' 10 [.long 0, .long 0, .long 0, .long 0], aO' 10 [.long 0, .long 0, .long 0, .long 0], aO' 10 [.long 0, .long 0, .long 0, .long 0], aO' 10 [.long 0, .long 0, .long 0, .long 0], aO' 10 [.long 0, .long 0, .long 0, .long 0], aO' 10 [.long 0, .long 0, .long 0, .long 0], aO' 10 [.long 0, .long 0, .long 0, .long 0], aO' 10 [.long 0, .long 0, .long 0, .long 0], aO' 10 [.long 0, .long 0, .long 0, .long 0], aO' 10 [.long 0, .long 0, .long 0, .long 0], aO' 10 [.long 0, .long 0, .long 0, .long 0], aO' 10 [.long 0, .long 0, .long 0, .long 0], aO' 10 [.long 0, .long 0, .long 0, .long 0], aO' 10 [.long 0, .long 0, .long 0, .long 0], aO' 10 [.long 0, .long 0, .long 0, .long 0], aO' 10 [.long 0, .long 0, .long 0, .long 0], aO' 4 [.ref 98, .ref 106, .ref 116, .int 0, .int 0, .ref 117, .int 0, .int 0], aO' 2 [.int 0, .int 0, .int 0, .int 0, .ref 99, .ref 100, .ref 101, .int 0, .ref 102, .int 0, .ref 103, .int 0, .ref 104, .ref 105], aI' 1 6, aI' 1 6, aI' 1 6, aI' 1 6, aI' 1 36, aI' 1 8, aI' 1 8, aO' 3 [.int 0, .int 0, .int 0, .int 0, .ref 107, .ref 108], aI' 1 6, aR' 10 [some 109, some 110, some 111, some 112, some 113, some 114, some 115], aO' 10 [.long 0, .long 0, .long 0, .long 0], aO' 10 [.long 0, .long 0, .long 0, .long 0], aO' 10 [.long 0, .long 0, .long 0, .long 0], aO' 10 [.long 0, .long 0, .long 0, .long 0], aO' 10 [.long 0, .long 0, .long 0, .long 0], aO' 10 [.long 0, .long 0, .long 0, .long 0], aO' 10 [.long 0, .long 0, .long 0, .long 0], aR' 3 [none, none, none, none, none, none, none, none, none, none, none, none, none, none, none, none, none, none, none, none], aI' 1 10, aO' 7 [.ref 65, .int 0], aO' 6 [.ref 65, .ref 120, .int 0, .int 0, .int 0, .ref 121, .ref 122], aI' 1 400, aI' 1 13, aI' 1 12, aR' 5 [none, none, none, none, none, none], aR' 4 [none, none, none, none], aO' 0 [.ref 97, .ref 69, .ref 126, .ref 127, .ref 128, .ref 129, .int 0, .ref 130], aO' 10 [.long 0, .long 0, .long 0, .long 0], aR' 10 [some 131, some 132, some 133, some 134, some 135], aI' 1 4, aI' 1 4, aI' 1 4096, aO' 10 [.long 0, .long 0, .long 0, .long 0], aO' 10 [.long 0, .long 0, .long 0, .long 0], aO' 10 [.long 0, .long 0, .long 0, .long 0], aO' 10 [.long 0, .long 0, .long 0, .long 0], aO' 10 [.long 0, .long 0, .long 0, .long 0], aO' 1 [.ref 97, .ref 69, .ref 137, .ref 138, .int 0, .int 0, .int 0], aJ' 10, aO' 3 [.int 0, .int 0, .int 0, .int 0, .ref 139, .ref 140], aI' 1 6, aR' 10 [some 141, some 142, some 143, some 144, some 145, some 146, some 147], aO' 10 [.long 0, .long 0, .long 0, .long 0], aO' 10 [.long 0, .long 0, .long 0, .long 0], aO' 10 [.long 0, .long 0, .long 0, .long 0], aO' 10 [.long 0, .long 0, .long 0, .long 0], aO' 10 [.long 0, .long 0, .long 0, .long 0], aO' 10 [.long 0, .long 0, .long 0, .long 0], aO' 10 [.long 0, .long 0, .long 0, .long 0]]
def T182 : List aCell := [aO' 12 [.int 0, .ref 149, .ref 150, .ref 151, .ref 152, .ref 153, .ref 154, .ref 155, .ref 156, .ref 157, .ref 158, .ref 159, .ref 160, .ref 161, .ref 162, .ref 163, .ref 164, .ref 165, .ref 166, .ref 167, .ref 168, .ref 169, .ref 170, .ref 171, .ref 172, .ref 173, .ref 174, .int 0, .int 0, .int 0, .int 0, .int 0, .int 0, .int 0, .int 0, .int 0, .int 0, .int 10, .ref 175, .ref 176, .ref 177, .ref 178, .ref 179, .ref 180, .ref 181, .ref 182, .ref 183, .ref 184, .ref 185, .ref 186, .ref 187, .int 0, .int 0, .int 0, .ref 188, .ref 189, .ref 190, .ref 191, .ref 192, .int 0, .int 0, .int 0, .ref 193, .ref 194, .ref 195, .ref 196, .ref 197, .int 0, .int 0, .ref 198, .ref 199, .int 0, .int 0, .ref 200, .ref 201, .int 0, .int 0], aI' 1 9, aI' 1 6, aI' 1 6, aI' 1 6, aI' 1 6, aI' 1 6, aI' 1 6, aI' 1 10, aI' 1 10, aI' 1 10, aI' 1 8, aI' 1 8, aI' 1 10, aI' 1 10, aI' 1 56, aI' 1 6, aI' 1 6, aI' 1 6, aI' 1 6, aI' 1 6, aI' 1 6, aI' 1 10, aI' 1 10, aI' 1 10, aI' 1 8, aI' 1 8, aI' 2 400, aI' 1 1800, aI' 1 1800, aI' 1 6, aI' 1 72, aI' 1 72, aI' 1 72, aI' 1 402, aI' 1 192, aI' 1 88, aI' 1 88, aI' 1 8, aI' 1 11, aJ' 10, aJ' 300, aI' 1 36, aI' 1 1520, aI' 1 1, aI' 1 8, aI' 1 6, aI' 1 5, aI' 1 5, aI' 1 40, aI' 1 384, aI' 1 24, aI' 1 8800, aI' 3 4]
set_option maxRecDepth 100000 in
theorem run134 : aEx 99 2000 134 0 (mPad (mMax 134) (mEnt [.ref 64])) [] [aN 11] = some (none, T134) := eqR_ok (by decide +kernel)
set_option maxRecDepth 100000 in
theorem run182 : aEx 99 2000 182 0 (mPad (mMax 182) (mEnt [.ref 148])) [] (T134 ++ [aN 12]) = some (none, T134 ++ T182) := eqR_ok (by decide +kernel)
section Co
variable {X : List Int32} {T : List aCell}
theorem nO_cH {c : Nat} : nO (cH X T) c = cH X (T ++ [aN c]) := cH_app (c := aN c)
theorem cH_0 : mS0 X = cH X [] := (List.append_nil _).symm
theorem cons134 {K : mHeap → Prop} (hK : K (cH X T134)) : GoCv 100 134 [.ref 64] (cH X [aN 11]) K := (GoCv_entry (d := 99) (L := mPad (mMax 134) (mEnt [.ref 64])) rfl rfl).mpr ⟨2000, none, _, aEx_ok _ _ _ _ _ _ _ _ _ run134, rV_s.mpr hK⟩
theorem cons182 {K : mHeap → Prop} (hK : K (cH X (T134 ++ T182))) : GoCv 100 182 [.ref 148] (cH X (T134 ++ [aN 12])) K := (GoCv_entry (d := 99) (L := mPad (mMax 182) (mEnt [.ref 148])) rfl rfl).mpr ⟨2000, none, _, aEx_ok _ _ _ _ _ _ _ _ _ run182, rV_s.mpr hK⟩
end Co
