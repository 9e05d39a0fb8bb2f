/-! RULES: what their signs mean -/
theorem lg_lt {x y : Int64} : lg_cmp x y < ii 0 ↔ x < y := by
  unfold lg_cmp
  rw [Int64.lt_iff_toInt_lt]
  by_cases c : x > y
  · rw [if_pos c]
    have c' := Int64.lt_iff_toInt_lt.mp c
    exact ⟨fun g => absurd g (by decide), fun g => by omega⟩
  · rw [if_neg c]
    have c' : ¬ y.toInt < x.toInt := fun g => c (Int64.lt_iff_toInt_lt.mpr g)
    by_cases e : x = y
    · rw [if_pos e, e]
      exact ⟨fun g => absurd g (by decide), fun g => by omega⟩
    · rw [if_neg e]
      have e' : ¬ x.toInt = y.toInt := fun g => e (Int64.toInt_inj.mp g)
      exact ⟨fun _ => by omega, fun _ => by decide⟩
theorem lg_gt {x y : Int64} : ii 0 < lg_cmp x y ↔ y < x := by
  unfold lg_cmp
  rw [Int64.lt_iff_toInt_lt]
  by_cases c : x > y
  · rw [if_pos c]
    have c' := Int64.lt_iff_toInt_lt.mp c
    exact ⟨fun _ => c', fun _ => by decide⟩
  · rw [if_neg c]
    have c' : ¬ y.toInt < x.toInt := fun g => c (Int64.lt_iff_toInt_lt.mpr g)
    by_cases e : x = y
    · rw [if_pos e, e]
      exact ⟨fun g => absurd g (by decide), fun g => by omega⟩
    · rw [if_neg e]
      exact ⟨fun g => absurd g (by decide), fun g => absurd g c'⟩
theorem lg_le {x y : Int64} : lg_cmp x y ≤ ii 0 ↔ x ≤ y := by
  have := lg_gt (x := x) (y := y)
  rw [Int64.le_iff_toInt_le]
  rw [Int64.lt_iff_toInt_lt, Int32.lt_iff_toInt_lt] at this
  rw [Int32.le_iff_toInt_le]
  omega
theorem lg_ge {x y : Int64} : ii 0 ≤ lg_cmp x y ↔ y ≤ x := by
  have := lg_lt (x := x) (y := y)
  rw [Int64.le_iff_toInt_le]
  rw [Int64.lt_iff_toInt_lt, Int32.lt_iff_toInt_lt] at this
  rw [Int32.le_iff_toInt_le]
  omega
def hld (t : Nat) (x y : Int64) : Prop := if t = 60 then x < y else if t = 61 then x = y else if t = 256 then x ≤ y else if t = 257 then y ≤ x else y < x
noncomputable def jnd (t : Nat) (x y : Int64) : Int64 := if t = 37 then (if y = jj 0 then jj 0 else lrm x y) else if t = 42 then x * y else if t = 43 then x + y else if t = 45 then x - y else if t = 47 then (if y = jj 0 then jj 0 else x / y) else if t = 315 then x &&& y else if t = 316 then x ||| y else @ite _ (hld t x y) (Classical.propDecidable _) (jj 1) (jj 0)
/-- one sign of a rule works on what is open -/
noncomputable def evT (X : Nat → Int64) (t : Nat) (s : List Int64) : List Int64 := if t = 314 then (match s with | a :: s => (jj 1 - a) :: s | [] => []) else if 1000 ≤ t then jj ((t - 1000 : Nat) : Int) :: s else if 304 ≤ t ∧ t < 314 then X (t - 304) :: s else (match s with | b :: a :: s => jnd t a b :: s | _ => [])
noncomputable def evL (X : Nat → Int64) : List Nat → List Int64 → List Int64
  | [], s => s
  | t :: l, s => evL X l (evT X t s)
/-- what kinds of values are open: true for what is so or not -/
def tyT (t : Nat) (s : List Bool) : Option (List Bool) := if t = 314 then (match s with | true :: s => some (true :: s) | _ => none) else if 1000 ≤ t ∨ (304 ≤ t ∧ t < 314) then (if s.length < 26 then some (false :: s) else none) else if t = 37 ∨ t = 42 ∨ t = 43 ∨ t = 45 ∨ t = 47 then (match s with | false :: false :: s => some (false :: s) | _ => none) else if t = 315 ∨ t = 316 then (match s with | true :: true :: s => some (true :: s) | _ => none) else if t = 60 ∨ t = 61 ∨ t = 62 ∨ t = 256 ∨ t = 257 then (match s with | false :: false :: s => some (true :: s) | _ => none) else none
def tyL : List Nat → List Bool → Option (List Bool)
  | [], s => some s
  | t :: l, s => (tyT t s).bind (tyL l)
/-- a row shows what is open -/
def rowS (f : Nat → Int64) : List Int64 → Prop
  | [] => True
  | a :: s => f s.length = a ∧ rowS f s
abbrev Ru : Type := List (List Nat × List Nat)
def ru_c (C : Ru) (c : Nat) : List Nat × List Nat := C.getD c ([], [])
def RuT (l : List Nat) : Prop := ∀ t ∈ l, t < 101001
def RuOk (C : Ru) : Prop := C.length ≤ 12 ∧ ∀ c, c < C.length → tyL (ru_c C c).1 [] = some [false] ∧ RuT (ru_c C c).1 ∧ RuT (ru_c C c).2 ∧ ((ru_c C c).2 = [] ∨ tyL (ru_c C c).2 [] = some [true])
noncomputable def ruE (X : Nat → Int64) (l : List Nat) : Int64 := (evL X l []).headD (jj 0)
/-- what a rule gives: the sum of the first clause whose test is met -/
noncomputable def ruK (X : Nat → Int64) (C : Ru) : Nat → Nat → Int64
  | 0, _ => jj 0
  | k + 1, c => if (ru_c C c).2 = [] ∨ ¬ ruE X (ru_c C c).2 = jj 0 then ruE X (ru_c C c).1 else ruK X C k (c + 1)
noncomputable def ruV (X : Nat → Int64) (C : Ru) : Int64 := ruK X C C.length 0
section Ru0
variable {d : Nat} {h h1 : mHeap} {X f : Nat → Int64}
theorem rowS_up {j : Nat} {v : Int64} : ∀ (s : List Int64), s.length ≤ j → rowS f s → rowS (upf f j v) s
  | [], _, _ => trivial
  | a :: s, hj, ⟨e, r⟩ => by
    have hl : s.length + 1 ≤ j := hj
    refine ⟨?_, rowS_up s (by omega) r⟩
    unfold upf
    rw [if_neg (by omega)]
    exact e
theorem rowS_push {v : Int64} {s : List Int64} (r : rowS f s) : rowS (upf f s.length v) (v :: s) := by
  refine ⟨?_, rowS_up s (Nat.le_refl _) r⟩
  unfold upf
  rw [if_pos rfl]
theorem evT_len {t : Nat} {s : List Int64} {ts us : List Bool} (hl : s.length = ts.length) (e : tyT t ts = some us) : (evT X t s).length = us.length := by
  unfold tyT at e
  unfold evT
  by_cases c1 : t = 314
  · rw [if_pos c1] at e ⊢
    match ts, s, hl, e with
    | true :: ts, a :: s, hl, e => cases e; exact hl
  rw [if_neg c1] at e ⊢
  by_cases c2 : 1000 ≤ t
  · rw [if_pos c2]
    rw [if_pos (Or.inl c2)] at e
    by_cases c : ts.length < 26
    · rw [if_pos c] at e; cases e
      show s.length + 1 = ts.length + 1
      omega
    · rw [if_neg c] at e; cases e
  rw [if_neg c2]
  by_cases c3 : 304 ≤ t ∧ t < 314
  · rw [if_pos c3]
    rw [if_pos (Or.inr c3)] at e
    by_cases c : ts.length < 26
    · rw [if_pos c] at e; cases e
      show s.length + 1 = ts.length + 1
      omega
    · rw [if_neg c] at e; cases e
  rw [if_neg c3]
  rw [if_neg (by rintro (a | a); exact c2 a; exact c3 a)] at e
  have two : ∃ x y ts', ts = x :: y :: ts' ∧ us.length = ts'.length + 1 := by
    by_cases c4 : t = 37 ∨ t = 42 ∨ t = 43 ∨ t = 45 ∨ t = 47
    · rw [if_pos c4] at e
      match ts, e with
      | false :: false :: ts, e => cases e; exact ⟨_, _, _, rfl, rfl⟩
    rw [if_neg c4] at e
    by_cases c5 : t = 315 ∨ t = 316
    · rw [if_pos c5] at e
      match ts, e with
      | true :: true :: ts, e => cases e; exact ⟨_, _, _, rfl, rfl⟩
    rw [if_neg c5] at e
    by_cases c6 : t = 60 ∨ t = 61 ∨ t = 62 ∨ t = 256 ∨ t = 257
    · rw [if_pos c6] at e
      match ts, e with
      | false :: false :: ts, e => cases e; exact ⟨_, _, _, rfl, rfl⟩
    rw [if_neg c6] at e
    cases e
  obtain ⟨x, y, ts', rfl, eu⟩ := two
  match s, hl with
  | b :: a :: s, hl =>
    show s.length + 1 = us.length
    have : s.length + 1 + 1 = ts'.length + 1 + 1 := hl
    omega
theorem c67 {K : Int32 → mHeap → Prop} {t : Nat} {x y : Int64} (ht : t < 100000) : GoCi (d + 1) 67 [.int (ii t), .long x, .long y] h K ↔ K (@ite _ (hld t x y) (Classical.propDecidable _) (ii 1) (ii 0)) h := by
  have eq : ∀ n : Int, 0 ≤ n → n < 100000 → (ii (t : Int) = ii n ↔ (t : Int) = n) := fun n h0 hn => by
    rw [ii_eq (by omega) (by omega) (by omega) (by omega)]
  rw [e67, b67_0]
  simp only [rI_s, true_or, or_true, true_and]
  unfold hld
  by_cases c1 : t = 60
  · rw [if_pos ((eq 60 (by decide) (by decide)).mpr (by omega))]
    simp only [if_pos c1, lg_ge]
    by_cases g : x < y
    · rw [if_pos g, if_neg (by rw [Int64.le_iff_toInt_le]; have := Int64.lt_iff_toInt_lt.mp g; omega)]
    · rw [if_neg g, if_pos (by rw [Int64.le_iff_toInt_le]; rw [Int64.lt_iff_toInt_lt] at g; omega)]
  rw [if_neg (fun g => c1 (by have := (eq 60 (by decide) (by decide)).mp g; omega))]
  simp only [if_neg c1]
  by_cases c2 : t = 61
  · rw [if_pos ((eq 61 (by decide) (by decide)).mpr (by omega))]
    simp only [if_pos c2, lcmp_eq]
    by_cases g : x = y
    · rw [if_pos g, if_neg (fun q => q g)]
    · rw [if_neg g, if_pos g]
  rw [if_neg (fun g => c2 (by have := (eq 61 (by decide) (by decide)).mp g; omega))]
  simp only [if_neg c2]
  by_cases c3 : t = 256
  · rw [if_pos ((eq 256 (by decide) (by decide)).mpr (by omega))]
    simp only [if_pos c3, lg_gt]
    by_cases g : x ≤ y
    · rw [if_pos g, if_neg (by rw [Int64.lt_iff_toInt_lt]; have := Int64.le_iff_toInt_le.mp g; omega)]
    · rw [if_neg g, if_pos (by rw [Int64.lt_iff_toInt_lt]; rw [Int64.le_iff_toInt_le] at g; omega)]
  rw [if_neg (fun g => c3 (by have := (eq 256 (by decide) (by decide)).mp g; omega))]
  simp only [if_neg c3]
  by_cases c4 : t = 257
  · rw [if_pos ((eq 257 (by decide) (by decide)).mpr (by omega))]
    simp only [if_pos c4, lg_lt]
    by_cases g : y ≤ x
    · rw [if_pos g, if_neg (by rw [Int64.lt_iff_toInt_lt]; have := Int64.le_iff_toInt_le.mp g; omega)]
    · rw [if_neg g, if_pos (by rw [Int64.lt_iff_toInt_lt]; rw [Int64.le_iff_toInt_le] at g; omega)]
  rw [if_neg (fun g => c4 (by have := (eq 257 (by decide) (by decide)).mp g; omega))]
  simp only [if_neg c4, lg_le]
  by_cases g : y < x
  · rw [if_pos g, if_neg (by rw [Int64.le_iff_toInt_le]; have := Int64.lt_iff_toInt_lt.mp g; omega)]
  · rw [if_neg g, if_pos (by rw [Int64.le_iff_toInt_le]; rw [Int64.lt_iff_toInt_lt] at g; omega)]
theorem c66 {K : Int64 → mHeap → Prop} {t : Nat} {x y : Int64} (ht : t < 100000) : GoCj (d + 2) 66 [.int (ii t), .long x, .long y] h K ↔ K (jnd t x y) h := by
  have eq : ∀ n : Int, 0 ≤ n → n < 100000 → (ii (t : Int) = ii n ↔ (t : Int) = n) := fun n h0 hn => by
    rw [ii_eq (by omega) (by omega) (by omega) (by omega)]
  rw [e66, b66_0]
  simp only [rJ_s, lcmp_eq]
  unfold jnd
  have dv : ∀ {z : Int64}, (if ¬ y = jj 0 then ((¬ y = jj 0) ∧ K z h) else K (jj 0) h) ↔ K (if y = jj 0 then jj 0 else z) h := by
    intro z
    by_cases g : y = jj 0
    · rw [if_neg (fun q => q g), if_pos g]
    · rw [if_pos g, if_neg g]; exact and_iff_right g
  by_cases c1 : t = 37
  · rw [if_pos ((eq 37 (by decide) (by decide)).mpr (by omega)), if_pos c1, dv]
  rw [if_neg (fun g => c1 (by have := (eq 37 (by decide) (by decide)).mp g; omega)), if_neg c1]
  by_cases c2 : t = 42
  · rw [if_pos ((eq 42 (by decide) (by decide)).mpr (by omega)), if_pos c2]
  rw [if_neg (fun g => c2 (by have := (eq 42 (by decide) (by decide)).mp g; omega)), if_neg c2]
  by_cases c3 : t = 43
  · rw [if_pos ((eq 43 (by decide) (by decide)).mpr (by omega)), if_pos c3]
  rw [if_neg (fun g => c3 (by have := (eq 43 (by decide) (by decide)).mp g; omega)), if_neg c3]
  by_cases c4 : t = 45
  · rw [if_pos ((eq 45 (by decide) (by decide)).mpr (by omega)), if_pos c4]
  rw [if_neg (fun g => c4 (by have := (eq 45 (by decide) (by decide)).mp g; omega)), if_neg c4]
  by_cases c5 : t = 47
  · rw [if_pos ((eq 47 (by decide) (by decide)).mpr (by omega)), if_pos c5, dv]
  rw [if_neg (fun g => c5 (by have := (eq 47 (by decide) (by decide)).mp g; omega)), if_neg c5]
  by_cases c6 : t = 315
  · rw [if_pos ((eq 315 (by decide) (by decide)).mpr (by omega)), if_pos c6]
  rw [if_neg (fun g => c6 (by have := (eq 315 (by decide) (by decide)).mp g; omega)), if_neg c6]
  by_cases c7 : t = 316
  · rw [if_pos ((eq 316 (by decide) (by decide)).mpr (by omega)), if_pos c7]
  rw [if_neg (fun g => c7 (by have := (eq 316 (by decide) (by decide)).mp g; omega)), if_neg c7]
  rw [c67 ht]
  by_cases g : hld t x y
  · rw [if_pos g, if_pos g, if_neg (by decide)]
  · rw [if_neg g, if_neg g, if_pos rfl]
end Ru0
