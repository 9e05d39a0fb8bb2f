/-! THE TEXT: what its signs are -/
abbrev Bt : Type := Nat → Int
def isSm (c : Int) : Bool := decide (97 ≤ c ∧ c ≤ 122)
def isDg (c : Int) : Bool := decide (48 ≤ c ∧ c ≤ 57)
/-- from p on, as long as it is so -/
def rn (p : Int → Bool) (B : Bt) (n : Nat) : Nat → Nat → Nat
  | 0, q => q
  | k + 1, q => if q < n ∧ p (B q) = true then rn p B n k (q + 1) else q
def rnE (p : Int → Bool) (B : Bt) (n q : Nat) : Nat := rn p B n (n - q) q
/-- does a word stand here, of that length -/
def mtc (B : Bt) (q len : Nat) (w : List Int32) : Bool := decide (w.length = len) && (List.range w.length).all (fun j => decide (B (q + j) = (w.getD j 0).toInt))
/-- which of the words is it that stands here; none: 258 -/
def wdT (B : Bt) (q len : Nat) : List (List Int32) → Nat → Nat
  | [], _ => 258
  | w :: ws, k => if mtc B q len w = true then k else wdT B q len ws (k + 1)
/-- the words, in the order of their tokens -/
def wrds : List (List Int32) := [mB 1, mB 3, mB 4, mB 5, mB 2, mB 18, mB 19, mB 20, mB 21, mB 22, mB 23, mB 24, mB 25, mB 26, mB 6, mB 15, mB 16, mB 17, mB 27]
/-- the number that stands from q, of its first five digits -/
def nuV (B : Bt) (q k : Nat) : Nat := itr (fun v i => v * 10 + (B (q + i) - 48).toNat) 0 k
/-- the token at q, and the place behind it -/
def tok (B : Bt) (n q : Nat) : Nat × Nat :=
  if isSm (B q) = true then
    (if 1 < rnE isSm B n (q + 1) - q then wdT B q (rnE isSm B n (q + 1) - q) wrds 300 else if B q - 97 < 8 then (260 + (B q - 97)).toNat else 258, rnE isSm B n (q + 1))
  else if isDg (B q) = true then
    (if 5 < rnE isDg B n q - q then 101000 else 1000 + nuV B q (rnE isDg B n q - q), rnE isDg B n q)
  else if q + 1 < n ∧ B (q + 1) = 61 ∧ (B q = 60 ∨ B q = 62) then (if B q = 60 then 256 else 257, q + 2)
  else ((B q % 256).toNat, q + 1)
/-- the tokens from a place on, each with its place; those before the second place are done with -/
def lxF (B : Bt) (n : Nat) : Nat → Nat → Nat → List (Nat × Nat)
  | 0, _, _ => [(0, n)]
  | k + 1, q, b => if b ≤ q ∧ ¬ B q = 32 then ((tok B n q).1 + 1, q) :: lxF B n k (q + 1) (tok B n q).2 else lxF B n k (q + 1) b
def lex (B : Bt) (n : Nat) : List (Nat × Nat) := lxF B n n 0 0
section Lx
variable {B : Bt} {n : Nat} {p : Int → Bool}
theorem rn_le : ∀ k q, q ≤ rn p B n k q ∧ rn p B n k q ≤ q + k
  | 0, q => ⟨Nat.le_refl _, Nat.le_refl _⟩
  | k + 1, q => by
    have ih := rn_le k (q + 1)
    unfold rn
    split
    · omega
    · omega
theorem rnE_le (q : Nat) (hq : q ≤ n) : q ≤ rnE p B n q ∧ rnE p B n q ≤ n := by
  have := rn_le (p := p) (B := B) (n := n) (n - q) q
  unfold rnE
  omega
theorem rnE_y {q : Nat} (h : q < n) (c : p (B q) = true) : rnE p B n q = rnE p B n (q + 1) := by
  unfold rnE
  rw [show n - q = (n - (q + 1)) + 1 by omega]
  show (if q < n ∧ p (B q) = true then rn p B n (n - (q + 1)) (q + 1) else q) = _
  rw [if_pos ⟨h, c⟩]
theorem rnE_n {q : Nat} (h : ¬ (q < n ∧ p (B q) = true)) : rnE p B n q = q := by
  unfold rnE
  cases e : n - q with
  | zero => rfl
  | succ k =>
    show (if q < n ∧ p (B q) = true then rn p B n k (q + 1) else q) = q
    rw [if_neg h]
theorem tok_le {q : Nat} (hq : q < n) : q < (tok B n q).2 ∧ (tok B n q).2 ≤ n := by
  unfold tok
  by_cases c1 : isSm (B q) = true
  · rw [if_pos c1]
    have := rnE_le (p := isSm) (B := B) (n := n) (q + 1) (by omega)
    show q < rnE isSm B n (q + 1) ∧ rnE isSm B n (q + 1) ≤ n
    omega
  rw [if_neg c1]
  by_cases c2 : isDg (B q) = true
  · rw [if_pos c2]
    have a := rnE_y (p := isDg) (B := B) (n := n) hq c2
    have := rnE_le (p := isDg) (B := B) (n := n) (q + 1) (by omega)
    show q < rnE isDg B n q ∧ rnE isDg B n q ≤ n
    omega
  rw [if_neg c2]
  by_cases c3 : q + 1 < n ∧ B (q + 1) = 61 ∧ (B q = 60 ∨ B q = 62)
  · rw [if_pos c3]
    show q < q + 2 ∧ q + 2 ≤ n
    omega
  · rw [if_neg c3]
    show q < q + 1 ∧ q + 1 ≤ n
    omega
/-- what is done with is passed over -/
theorem lxF_skip : ∀ k q b, q ≤ b → b ≤ q + k → lxF B n k q b = lxF B n (q + k - b) b b
  | 0, q, b, h1, h2 => by
    rw [show q + 0 - b = 0 by omega]
    rfl
  | k + 1, q, b, h1, h2 => by
    by_cases c : b = q
    · rw [c, show q + (k + 1) - q = k + 1 by omega]
    · show (if b ≤ q ∧ ¬ B q = 32 then _ else lxF B n k (q + 1) b) = _
      rw [if_neg (by omega), lxF_skip k (q + 1) b (by omega) (by omega), show q + 1 + k - b = q + (k + 1) - b by omega]
/-- the tokens from a place on -/
def lxA (B : Bt) (n q : Nat) : List (Nat × Nat) := lxF B n (n - q) q q
theorem lxA_end {q : Nat} (h : n ≤ q) : lxA B n q = [(0, n)] := by
  unfold lxA
  rw [show n - q = 0 by omega]
  rfl
theorem lxF_old : ∀ k q b, b ≤ q → lxF B n k q b = lxF B n k q q
  | 0, _, _, _ => rfl
  | k + 1, q, b, h => by
    show (if b ≤ q ∧ ¬ B q = 32 then _ else lxF B n k (q + 1) b) = (if q ≤ q ∧ ¬ B q = 32 then _ else lxF B n k (q + 1) q)
    by_cases c : B q = 32
    · rw [if_neg (fun g => g.2 c), if_neg (fun g => g.2 c), lxF_old k (q + 1) b (by omega), lxF_old k (q + 1) q (by omega)]
    · rw [if_pos ⟨h, c⟩, if_pos ⟨Nat.le_refl _, c⟩]
theorem lxA_blank {q : Nat} (h : q < n) (c : B q = 32) : lxA B n q = lxA B n (q + 1) := by
  unfold lxA
  rw [show n - q = (n - (q + 1)) + 1 by omega]
  show (if q ≤ q ∧ ¬ B q = 32 then _ else lxF B n (n - (q + 1)) (q + 1) q) = _
  rw [if_neg (fun g => g.2 c), lxF_old _ _ _ (by omega)]
theorem lxA_tok {q : Nat} (h : q < n) (c : ¬ B q = 32) : lxA B n q = ((tok B n q).1 + 1, q) :: lxA B n (tok B n q).2 := by
  have t := tok_le (B := B) h
  unfold lxA
  rw [show n - q = (n - (q + 1)) + 1 by omega]
  show (if q ≤ q ∧ ¬ B q = 32 then _ else _) = _
  rw [if_pos ⟨Nat.le_refl _, c⟩, lxF_skip _ _ _ (by omega) (by omega), show q + 1 + (n - (q + 1)) - (tok B n q).2 = n - (tok B n q).2 by omega]
end Lx
