/-! WHAT ONE CALLS: rule -/
def sRu (s : Cs) (C : List Ru) : Cs := (s.1, s.2.1, C, s.2.2.2)
def aRul (s : Cs) (r : Int) (s' : Cs) : Prop := if (cs_C s).length < 6 then (∃ f : Nat, ruL (lex (cs_B s) (cs_n s)) (lex (cs_B s) (cs_n s)).length 0 0 [] (.inl f) ∧ r = -2 - f ∧ s' = sTx s (cs_B s) 0) ∨ (∃ R, ruL (lex (cs_B s) (cs_n s)) (lex (cs_B s) (cs_n s)).length 0 0 [] (.inr R) ∧ r = (cs_C s).length ∧ s' = sTx (sRu s (cs_C s ++ [R])) (cs_B s) 0) else r = -1 ∧ s' = s
section Rul
variable {d : Nat} {h h1 h2 : mHeap} {s s1 s2 : Cs} {B : Bt} {n : Nat} {C : List Ru}
theorem lex_tk (hb : ∀ i, i < n → -128 ≤ B i ∧ B i ≤ 127) (i : Nat) : (tk (lex B n) i).1 ≤ 101001 := by
  have lok := (lxF_ok hb n 0 0 (by omega)).2.2
  unfold tk
  rw [List.getD_eq_getElem?_getD]
  by_cases c : i < (lex B n).length
  · rw [List.getElem?_eq_getElem c]
    exact (lok _ (List.getElem_mem c)).1
  · rw [List.getElem?_eq_none (by omega)]
    exact Nat.zero_le _
theorem RuOk_nil : RuOk [] := ⟨by decide, fun c hc => absurd hc (Nat.not_lt_zero _)⟩
/-- the rules change -/
theorem CI.rl (hC : CI h s) (e : ∀ a, ¬ a = 64 → ¬ a = 123 → h1[a]? = h[a]?) (hl : h1.length = h.length) (hs : mSlots h1 = mSlots h) (k64 : kd h1 64 = kd h 64) (hR : CiR h1 C) : NxG 0 0 h h1 (sRu s C) := by
  obtain ⟨⟨a1, a2, a3, a4, a5, a6, a7⟩, ⟨b1, b2⟩, ⟨c1, c2, c3⟩, ⟨d1, d2, d3, d4, d5⟩, f, g1⟩ := hC
  have k' : ∀ a, ¬ a = 64 → ¬ a = 123 → kd h1 a = kd h a := fun a g g' => same_kd (e a g g')
  have x19 : xR h1 (97 + 19) = xR h (97 + 19) := same_xR (e _ (by omega) (by omega))
  have f0 : fR h1 97 0 = fR h 97 0 := by rw [fR_kd, fR_kd, k' 97 (by omega) (by omega)]
  refine ⟨⟨⟨St_get a1 (fun b hb => e b (by omega) (by omega)), by unfold TbS; rw [k64]; exact a2, ⟨by rw [k' 65 (by omega) (by omega)]; exact a3.1, by rw [k' 66 (by omega) (by omega)]; exact a3.2.1, by rw [k' 67 (by omega) (by omega)]; exact a3.2.2.1, by rw [k' 68 (by omega) (by omega)]; exact a3.2.2.2⟩, ⟨by rw [same_fI (e 65 (by omega) (by omega))]; exact a4.1, a4.2.1, fun i hi => by rw [same_xA (e 66 (by omega) (by omega))]; exact a4.2.2 i hi⟩, by rw [k' 118 (by omega) (by omega)]; exact a5, ⟨by rw [k' 119 (by omega) (by omega)]; exact a6.1, by rw [k' 120 (by omega) (by omega)]; exact a6.2.1, by rw [k' 121 (by omega) (by omega)]; exact a6.2.2.1, by rw [k' 122 (by omega) (by omega)]; exact a6.2.2.2⟩, by rw [same_xA (e 121 (by omega) (by omega))]; exact a7⟩, ⟨SyR_eq b1 (fun a g g' => e a (by omega) (by omega)), hR⟩, ⟨PgR_eq c1 (fun a ha => ?_), c2, by rw [f0]; exact c3.1, fun i b hi hb => c3.2 i b hi (by rw [← x19]; exact hb)⟩, ⟨⟨by have := d1.1; unfold AdS at this ⊢; rw [k' 125 (by omega) (by omega)]; exact this, fun c g g' => by rw [k' c (by omega) (by omega)]; exact d1.2 c g g'⟩, ⟨by rw [k' 127 (by omega) (by omega)]; exact d2.1, fun i hi => by rw [same_xR (e 127 (by omega) (by omega))]; exact d2.2.1 i hi, by rw [k' 128 (by omega) (by omega)]; exact d2.2.2.1, by rw [k' 129 (by omega) (by omega)]; exact d2.2.2.2.1, by rw [k' 130 (by omega) (by omega)]; exact d2.2.2.2.2.1, ⟨d2.2.2.2.2.2.1.1, by rw [k' 126 (by omega) (by omega)]; exact d2.2.2.2.2.2.1.2⟩, fun i hi => ⟨(d2.2.2.2.2.2.2 i hi).1, by rw [k' _ (by omega) (by omega)]; exact (d2.2.2.2.2.2.2 i hi).2⟩⟩, by rw [k' 136 (by omega) (by omega)]; exact d3, by rw [k' 137 (by omega) (by omega)]; exact d4, ?_⟩, CiI_eq (T := fun a => a = 64 ∨ a = 123) f c1.1 g1 (fun a _ ht => e a (fun g => ht (Or.inl g)) (fun g => ht (Or.inr g))) (fun a ht => Or.inl (by omega)) (PgN_of x19) (Nat.le_refl _), by rw [hl]; exact g1⟩, ⟨by rw [hl]; exact Nat.le_refl _, by rw [hl]; omega, by rw [hs]; exact Nat.le_refl _, by rw [hs]; omega⟩, fun a g g' => e a (by omega) (by omega)⟩
  · rcases ha with g | g
    · have := hiP_T c3 g
      exact e a (by omega) (by omega)
    · rcases c3.1 with u | u <;> exact e a (by omega) (by omega)
  · obtain ⟨m, hm⟩ := d5
    exact ⟨m, MoR_eq hm (fun a g g' => e a (by omega) (by omega))⟩
end Rul
