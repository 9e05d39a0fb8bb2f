/-! LEAST: the saying that tells the bridge the least -/
def gnS (S : List Wd) (P : Pg) (s : Nat) : Nat := cB (fun i => mo_w (pg_m P) 0 i && !sy S s i) 256
def lsK (S : List Wd) (P : Pg) (ways : Nat) : Nat → Int × Nat
  | 0 => (-2, 0)
  | k + 1 => if ways.testBit k = true ∧ ((lsK S P ways k).1 = -2 ∨ gnS S P k < (lsK S P ways k).2) then (k, gnS S P k) else lsK S P ways k
section Lo
variable {d : Nat} {h h1 : mHeap} {S : List Wd} {P : Pg}
theorem lsK_s {w k : Nat} : lsK S P w (k + 1) = if w.testBit k = true ∧ ((lsK S P w k).1 = -2 ∨ gnS S P k < (lsK S P w k).2) then ((k : Int), gnS S P k) else lsK S P w k := rfl
theorem lsK_b {w : Nat} : ∀ k, ((lsK S P w k).1 = -2 ∨ 0 ≤ (lsK S P w k).1 ∧ (lsK S P w k).1 < k) ∧ (lsK S P w k).2 ≤ 256
  | 0 => ⟨Or.inl rfl, Nat.zero_le _⟩
  | k + 1 => by
    have ih := lsK_b (w := w) k
    have hg : gnS S P k ≤ 256 := cB_le _ _
    rw [lsK_s]
    by_cases c : w.testBit k = true ∧ ((lsK S P w k).1 = -2 ∨ gnS S P k < (lsK S P w k).2)
    · rw [if_pos c]
      exact ⟨Or.inr ⟨by show (0 : Int) ≤ k; omega, by show (k : Int) < ((k + 1 : Nat) : Int); omega⟩, hg⟩
    · rw [if_neg c]
      refine ⟨?_, ih.2⟩
      rcases ih.1 with g | g
      · exact Or.inl g
      · exact Or.inr ⟨g.1, by omega⟩
end Lo
