/-! RULES read: what tests are, token by token -/
abbrev Rg : Type := Nat × Nat × List Nat × List Nat × Bool
def pNot : List Nat → List Nat → List Nat × List Nat
  | 0 :: st, W => pNot st (W ++ [314])
  | st, W => (st, W)
def pAnd : List Nat → List Nat → List Nat × List Nat
  | 2 :: st, W => pAnd st (W ++ [315])
  | st, W => (st, W)
def oE (st W : List Nat) : List Nat × List Nat := pAnd (pNot st W).1 (pNot st W).2
def oG (i n : Nat) (st W : List Nat) : Rg := (i, n, (oE st W).2, (oE st W).1, false)
/-- how deep, and what is still to be put behind -/
def dpt : List Nat → Nat
  | [] => 0
  | x :: st => (if x = 0 ∨ x = 1 then 1 else 0) + dpt st
def frn : List Nat → Nat
  | [] => 0
  | x :: st => (if x = 1 then 0 else 1) + frn st
/-- one fact: two sums and a sign -/
noncomputable def faS (T : List (Nat × Nat)) (i n : Nat) : Nat ⊕ (Nat × Nat × List Nat) := match suS T i n with
  | .inl f => .inl f
  | .inr (i1, n1, V1) => if itF T isCm i1 n1 = 0 then (match suS T (i1 + 1) (n1 + 1) with
    | .inl f => .inl f
    | .inr (i2, n2, V2) => .inr (i2, n2, V1 ++ V2 ++ [(tk T i1).1 - 1])) else .inl (itF T isCm i1 n1)
noncomputable def rgN (T : List (Nat × Nat)) (i n : Nat) (W st : List Nat) : Rg ⊕ Nat ⊕ (Nat × Nat × List Nat) :=
  if (tk T i).1 = 315 then (if dpt st = 10 then .inr (.inl (flt T i 2)) else .inl (i + 1, n, W, 0 :: st, true))
  else if (tk T i).1 = 92 then (if dpt st = 10 then .inr (.inl (flt T i 2)) else .inl (i + 1, n, W, 1 :: st, true))
  else (match faS T i n with
    | .inl f => .inr (.inl f)
    | .inr (i', n', V) => .inl (oG i' n' st (W ++ V)))
def orE (st W : List Nat) : List Nat × List Nat := match st with
  | 3 :: s => (s, W ++ [316])
  | s => (s, W)
def rgB (T : List (Nat × Nat)) (i n : Nat) (W st : List Nat) : Rg ⊕ Nat ⊕ (Nat × Nat × List Nat) :=
  if (tk T i).1 = 316 then .inl (i + 1, n, W, 2 :: st, true)
  else if (tk T i).1 = 317 then .inl (i + 1, n, (orE st W).2, 3 :: (orE st W).1, true)
  else (match (orE st W).1 with
    | 1 :: s => if (tk T i).1 = 94 then .inl (oG (i + 1) n s (orE st W).2) else .inr (.inl (flt T i 0))
    | _ => .inr (.inr (i, n, (orE st W).2)))
noncomputable def rgT (T : List (Nat × Nat)) : Rg ⊕ Nat ⊕ (Nat × Nat × List Nat) → Rg ⊕ Nat ⊕ (Nat × Nat × List Nat)
  | .inl (i, n, W, st, true) => rgN T i n W st
  | .inl (i, n, W, st, false) => rgB T i n W st
  | .inr r => .inr r
def rgR (T : List (Nat × Nat)) (x y : Rg ⊕ Nat ⊕ (Nat × Nat × List Nat)) : Prop := ∃ n, itr (fun a _ => rgT T a) x n = y
section Rg0
variable {T : List (Nat × Nat)} {x y z : Rg ⊕ Nat ⊕ (Nat × Nat × List Nat)} {i n : Nat}
theorem rgR.rf : rgR T x x := ⟨0, rfl⟩
theorem rgR.tr (a : rgR T x y) (b : rgR T y z) : rgR T x z := by
  obtain ⟨m, rfl⟩ := a
  obtain ⟨n, rfl⟩ := b
  exact ⟨m + n, itr_add m n⟩
theorem rgR.st (b : rgR T (rgT T x) z) : rgR T x z := rgR.tr ⟨1, rfl⟩ b
theorem rg_fin {r : Nat ⊕ (Nat × Nat × List Nat)} : ∀ n, itr (fun a _ => rgT T a) (.inr r) n = .inr r
  | 0 => rfl
  | n + 1 => by rw [itr_s, rg_fin n]; rfl
theorem rgR.uniq {r s : Nat ⊕ (Nat × Nat × List Nat)} (a : rgR T x (.inr r)) (b : rgR T x (.inr s)) : r = s := by
  obtain ⟨m, hm⟩ := a
  obtain ⟨n, hn⟩ := b
  rcases Nat.le_total m n with g | g
  · have := itr_add (f := rgT T) (a := x) m (n - m)
    rw [show m + (n - m) = n by omega, hm, hn, rg_fin] at this
    cases this; rfl
  · have := itr_add (f := rgT T) (a := x) n (m - n)
    rw [show n + (m - n) = m by omega, hm, hn, rg_fin] at this
    cases this; rfl
theorem faS_ok {i' n' : Nat} {V : List Nat} (e : faS T i n = .inr (i', n', V)) : i < i' ∧ V.length + 2 * n + 3 = 2 * n' := by
  unfold faS at e
  cases q : suS T i n with
  | inl f => rw [q] at e; cases e
  | inr r =>
    obtain ⟨i1, n1, V1⟩ := r
    rw [q] at e
    have a := suS_ok q
    by_cases c : itF T isCm i1 n1 = 0
    · have e1 : (match suS T (i1 + 1) (n1 + 1) with
        | .inl f => .inl f
        | .inr (i2, n2, V2) => .inr (i2, n2, V1 ++ V2 ++ [(tk T i1).1 - 1])) = (.inr (i', n', V) : Nat ⊕ (Nat × Nat × List Nat)) := by
        rw [← e]
        show _ = (if itF T isCm i1 n1 = 0 then _ else _)
        rw [if_pos c]
      cases q2 : suS T (i1 + 1) (n1 + 1) with
      | inl f => rw [q2] at e1; cases e1
      | inr r2 =>
        obtain ⟨i2, n2, V2⟩ := r2
        rw [q2] at e1
        have b := suS_ok q2
        have e2 : (.inr (i2, n2, V1 ++ V2 ++ [(tk T i1).1 - 1]) : Nat ⊕ (Nat × Nat × List Nat)) = .inr (i', n', V) := e1
        cases e2
        rw [List.length_append, List.length_append]
        have l1 : [(tk T i1).1 - 1].length = 1 := rfl
        omega
    · have e1 : (.inl (itF T isCm i1 n1) : Nat ⊕ (Nat × Nat × List Nat)) = .inr (i', n', V) := by
        rw [← e]
        show _ = (if itF T isCm i1 n1 = 0 then _ else _)
        rw [if_neg c]
      cases e1
/-- the tokens lie one behind the other, and a not is three long -/
def plc (T : List (Nat × Nat)) : Prop := ∀ i, i + 1 < T.length → (tk T i).2 ≤ (tk T (i + 1)).2 ∧ ((tk T i).1 = 315 → (tk T i).2 + 3 ≤ (tk T (i + 1)).2)
theorem plc_le (hp : plc T) {i : Nat} : ∀ j, i ≤ j → j < T.length → (tk T i).2 ≤ (tk T j).2
  | 0, h1, _ => by rw [show i = 0 by omega]; exact Nat.le_refl _
  | j + 1, h1, h2 => by
    by_cases c : i = j + 1
    · rw [c]; exact Nat.le_refl _
    · exact Nat.le_trans (plc_le hp j (by omega) (by omega)) (hp j h2).1
end Rg0
