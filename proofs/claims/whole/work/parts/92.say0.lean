/-! SAYINGS read: what they are, token by token -/
abbrev Fm : Type := Bool × Wd × Wd
abbrev Sg : Type := Nat × List Fm × Wd × Wd × Nat × Bool
def zeW : Wd := fun _ => false
def onW : Wd := fun i => decide (i < 256)
def orW (u v : Wd) : Wd := fun i => decide (i < 256) && (u i || v i)
def ntW (u : Wd) : Wd := fun i => decide (i < 256) && !u i
def fcW (f : Nat) : Wd := fun i => decide (i < 256) && i.testBit f
def popN : List Fm → Wd → List Fm × Wd
  | (false, _, _) :: fr, w => popN fr (ntW w)
  | fr, w => (fr, w)
def opE (i : Nat) (fr : List Fm) (e b : Wd) (k : Nat) (w : Wd) : Sg := (i, (popN fr w).1, e, capW b (popN fr w).2, k, false)
def flt (T : List (Nat × Nat)) (i kind : Nat) : Nat := 1 + 8 * (tk T i).2 + kind
def sgN (T : List (Nat × Nat)) (i : Nat) (fr : List Fm) (e b : Wd) (k : Nat) : Sg ⊕ Nat ⊕ Wd :=
  if (tk T i).1 = 92 then (if fr.length = 10 then .inr (.inl (flt T i 2)) else .inl (i + 1, (true, e, b) :: fr, zeW, onW, k, true))
  else if (tk T i).1 = 315 then (if fr.length = 10 then .inr (.inl (flt T i 2)) else .inl (i + 1, (false, zeW, zeW) :: fr, e, b, k, true))
  else if 261 ≤ (tk T i).1 ∧ (tk T i).1 < 269 then (if k = 24 then .inr (.inl (flt T i 3)) else .inl (opE (i + 1) fr e b (k + 1) (fcW ((tk T i).1 - 261))))
  else .inr (.inl (flt T i 0))
def sgB (T : List (Nat × Nat)) (i : Nat) (fr : List Fm) (e b : Wd) (k : Nat) : Sg ⊕ Nat ⊕ Wd :=
  if (tk T i).1 = 0 ∧ fr = [] then .inr (.inr (orW e b))
  else if (tk T i).1 = 94 ∧ ¬ fr = [] then (match fr with | (_, e0, b0) :: fr' => .inl (opE (i + 1) fr' e0 b0 k (orW e b)) | [] => .inr (.inl 0))
  else if (tk T i).1 = 316 then .inl (i + 1, fr, e, b, k, true)
  else if (tk T i).1 = 317 then .inl (i + 1, fr, orW e b, onW, k, true)
  else .inr (.inl (flt T i 0))
def sgT (T : List (Nat × Nat)) : Sg ⊕ Nat ⊕ Wd → Sg ⊕ Nat ⊕ Wd
  | .inl (i, fr, e, b, k, true) => sgN T i fr e b k
  | .inl (i, fr, e, b, k, false) => sgB T i fr e b k
  | .inr r => .inr r
def sgR (T : List (Nat × Nat)) (x y : Sg ⊕ Nat ⊕ Wd) : Prop := ∃ n, itr (fun a _ => sgT T a) x n = y
section Sg0
variable {T : List (Nat × Nat)} {x y z : Sg ⊕ Nat ⊕ Wd}
theorem itr_add {α : Type} {f : α → α} {a : α} (m : Nat) : ∀ n, itr (fun a _ => f a) a (m + n) = itr (fun a _ => f a) (itr (fun a _ => f a) a m) n
  | 0 => rfl
  | n + 1 => by
    rw [show m + (n + 1) = (m + n) + 1 by omega, itr_s, itr_s, itr_add m n]
theorem sgR.rf : sgR T x x := ⟨0, rfl⟩
theorem sgR.tr (a : sgR T x y) (b : sgR T y z) : sgR T x z := by
  obtain ⟨m, rfl⟩ := a
  obtain ⟨n, rfl⟩ := b
  exact ⟨m + n, itr_add m n⟩
theorem sgR.st (b : sgR T (sgT T x) z) : sgR T x z := sgR.tr ⟨1, rfl⟩ b
theorem itr_fin {r : Nat ⊕ Wd} : ∀ n, itr (fun a _ => sgT T a) (.inr r) n = .inr r
  | 0 => rfl
  | n + 1 => by rw [itr_s, itr_fin n]; rfl
/-- it ends in one way -/
theorem sgR.uniq {r s : Nat ⊕ Wd} (a : sgR T x (.inr r)) (b : sgR T x (.inr s)) : r = s := by
  obtain ⟨m, hm⟩ := a
  obtain ⟨n, hn⟩ := b
  rcases Nat.le_total m n with g | g
  · have := itr_add (f := sgT T) (a := x) m (n - m)
    rw [show m + (n - m) = n by omega, hm, hn, itr_fin] at this
    cases this; rfl
  · have := itr_add (f := sgT T) (a := x) n (m - n)
    rw [show n + (m - n) = m by omega, hm, hn, itr_fin] at this
    cases this; rfl
end Sg0
