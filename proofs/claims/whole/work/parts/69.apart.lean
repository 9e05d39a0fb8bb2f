/-! THE ADVISER'S CELLS LIE APART FROM THE PAGE -/
def AdO (h : mHeap) : Prop := AdS h ∧ ∀ c, 126 ≤ c → c < 136 → ¬ ((kd h c).1 = 4 ∧ ((kd h c).2.1 = 3 ∨ (kd h c).2.1 = 2))
section Ap
variable {h h1 : mHeap} {P : Pg}
theorem AdO_Mo {b : Nat} (hA : AdO h) (hM : MoS h b) : b + 10 ≤ 125 ∨ 136 ≤ b := by
  have o : ¬ (b ≤ 125 ∧ 125 < b + 10) := fun g => by
    have k := hA.1
    unfold AdS at k
    rcases MoS_kd hM g.1 g.2 with ⟨q, e⟩ | ⟨q, e⟩ | ⟨q, e⟩ | ⟨q, e⟩ <;> rw [k] at e <;> cases e
  have o2 : ¬ (126 ≤ b ∧ b < 136) := fun g => hA.2 b g.1 g.2 (by rw [hM.2.1]; exact ⟨rfl, Or.inl rfl⟩)
  omega
theorem AdO_La {b : Nat} (hA : AdO h) (hL : LaS h b) : b + 8 ≤ 125 ∨ 136 ≤ b := by
  have o : ¬ (b ≤ 125 ∧ 125 < b + 8) := fun g => by
    have k := hA.1
    unfold AdS at k
    rcases LaS_kd hL g.1 g.2 with ⟨q, e1, e2⟩ | ⟨q, n, e, hn⟩
    · rw [k] at e2; cases e2
    · rw [k] at e; cases e
  have o2 : ¬ (126 ≤ b ∧ b < 136) := fun g => hA.2 b g.1 g.2 (by have := LaS_is hL; exact ⟨this.1, Or.inr this.2⟩)
  omega
/-- what the adviser writes leaves the page as it was -/
theorem PgR_adv {lo n : Nat} (hA : AdO h) (hP : PgR h 97 P) (x : Fr lo n h h1) (e1 : 125 ≤ lo) (e2 : lo + n ≤ 136) : PgR h1 97 P := by
  refine PgR_eq hP (fun a c => x.2.2.2 a ?_)
  rcases c with (c | c | ⟨i, b, hi, hb, c⟩) | c
  · omega
  · omega
  · have := AdO_Mo hA (hP.1.2.2.2.2.2.1 i b hi hb).1.S
    omega
  · have := AdO_La hA hP.2.1.1
    omega
theorem AdO.fr (hA : AdO h) (x : Sk h h1) : AdO h1 := by
  refine ⟨?_, fun c a b => by rw [x.1]; exact hA.2 c a b⟩
  unfold AdS
  rw [x.1]
  exact hA.1
end Ap
