/-! WAYS: two tables of hours say the same -/
section Ry
variable {f g : Nat → Nat} {p b N i j v : Nat} {l : Ld}
def ry0 : Nat → Nat := fun i => if i / 6 = i % 6 then 0 else 100000
def rsh (f : Nat → Nat) (i j v : Nat) : Nat → Nat := upf (upf f (6 * i + j) (if v < f (6 * i + j) then v else f (6 * i + j))) (6 * j + i) (if v < f (6 * i + j) then v else f (6 * i + j))
def ryP (l : Ld) : Nat → Nat := (ld_w l).foldl (fun f w => rsh f w.1 w.2.1 w.2.2) ry0
def ry (l : Ld) : Nat → Nat := wyB 6 6 (ryP l)
def Rel (p N : Nat) (f g : Nat → Nat) : Prop := (∀ i j, i < p → j < p → (f (6 * i + j) = 1000 ∧ g (6 * i + j) = 100000) ∨ (f (6 * i + j) = g (6 * i + j) ∧ f (6 * i + j) ≤ N)) ∧ (∀ i j, i < 6 → j < 6 → (p ≤ i ∨ p ≤ j) → g (6 * i + j) = if i = j then 0 else 100000) ∧ ∀ i, i < 6 → g (6 * i + i) = 0 ∧ (i < p → f (6 * i + i) = 0)
theorem fold2 {α β : Type} {Inv : α → β → Prop} (F : α → Nat → α) (G : β → Nat → β) (p : Nat) (hs : ∀ a b k, k < p → k < 6 → Inv a b → Inv (F a k) (G b k)) (hn : ∀ a b k, p ≤ k → k < 6 → Inv a b → Inv a (G b k)) {a : α} {b : β} (h : Inv a b) : ∀ k, k ≤ 6 → Inv ((List.range (min k p)).foldl F a) ((List.range k).foldl G b) := by
  intro k
  induction k with
  | zero => intro _; rw [Nat.zero_min]; exact h
  | succ k ih =>
    intro hk
    have g := ih (by omega)
    rw [List.range_succ, List.foldl_append]
    by_cases c : k < p
    · rw [show min (k + 1) p = k + 1 by omega, List.range_succ, List.foldl_append]
      rw [show min k p = k by omega] at g
      exact hs _ _ k c (by omega) g
    · rw [show min (k + 1) p = min k p by omega]
      exact hn _ _ k (by omega) (by omega) g
theorem sh_at (hi : i < 6) (hj : j < 6) {a c : Nat} (ha : a < 6) (hc : c < 6) : shorten f i j v (6 * a + c) = if a = i ∧ c = j then (if v < f (6 * i + j) then v else f (6 * i + j)) else f (6 * a + c) := by
  unfold shorten
  by_cases q : v < f (6 * i + j)
  · rw [if_pos q]
    unfold upf
    by_cases e : a = i ∧ c = j
    · rw [if_pos (by omega), if_pos e, if_pos q]
    · rw [if_neg (by omega), if_neg e]
  · rw [if_neg q]
    by_cases e : a = i ∧ c = j
    · rw [if_pos e, if_neg q, e.1, e.2]
    · rw [if_neg e]
def Inv3 (p N b : Nat) (f g : Nat → Nat) : Prop := Rel p (2 * N) f g ∧ ∀ i, i < p → (f (6 * i + b) = 1000 ∨ f (6 * i + b) ≤ N) ∧ (f (6 * b + i) = 1000 ∨ f (6 * b + i) ≤ N)
theorem Inv3_no (hp : p ≤ 6) (hb : b < p) (hN : 2 * N < 1000) (hi : i < 6) (hj : j < 6) (c : p ≤ i ∨ p ≤ j) (h : Inv3 p N b f g) : Inv3 p N b f (shorten g i j (g (6 * i + b) + g (6 * b + j))) := by
  obtain ⟨⟨r1, r2, r3⟩, r4⟩ := h
  have e : shorten g i j (g (6 * i + b) + g (6 * b + j)) = g := by
    unfold shorten
    have g1 := r2 i j hi hj c
    rw [if_neg]
    rcases c with c | c
    · have g2 := r2 i b hi (by omega) (Or.inl c)
      rw [if_neg (by omega)] at g2
      by_cases e : i = j
      · rw [if_pos e] at g1; omega
      · rw [if_neg e] at g1; omega
    · have g2 := r2 b j (by omega) hj (Or.inr c)
      rw [if_neg (by omega)] at g2
      by_cases e : i = j
      · rw [if_pos e] at g1; omega
      · rw [if_neg e] at g1; omega
  rw [e]
  exact ⟨⟨r1, r2, r3⟩, r4⟩
theorem Inv3_st (hp : p ≤ 6) (hb : b < p) (hN : 2 * N < 1000) (hi : i < p) (hj : j < p) (h : Inv3 p N b f g) : Inv3 p N b (shorten f i j (f (6 * i + b) + f (6 * b + j))) (shorten g i j (g (6 * i + b) + g (6 * b + j))) := by
  obtain ⟨⟨r1, r2, r3⟩, r4⟩ := h
  have a1 := r1 i b hi hb
  have a2 := r1 b j hb hj
  have a3 := r1 i j hi hj
  have a4 := (r4 i hi).1
  have a5 := (r4 j hj).2
  refine ⟨⟨fun a c ha hc => ?_, fun a c ha hc hac => ?_, fun a ha => ⟨?_, fun hap => ?_⟩⟩, fun a ha => ⟨?_, ?_⟩⟩
  · rw [sh_at (by omega) (by omega) (by omega) (by omega), sh_at (by omega) (by omega) (by omega) (by omega)]
    by_cases e : a = i ∧ c = j
    · rw [if_pos e, if_pos e]
      split <;> split <;> omega
    · rw [if_neg e, if_neg e]
      exact r1 a c ha hc
  · rw [sh_at (by omega) (by omega) ha hc, if_neg (by omega)]
    exact r2 a c ha hc hac
  · rw [sh_at (by omega) (by omega) ha ha]
    have := (r3 a ha).1
    by_cases e : a = i ∧ a = j
    · rw [if_pos e, ← e.1, ← e.2]
      rw [this]
      split <;> omega
    · rw [if_neg e]; exact this
  · rw [sh_at (by omega) (by omega) ha ha]
    have := (r3 a ha).2 hap
    by_cases e : a = i ∧ a = j
    · rw [if_pos e, ← e.1, ← e.2]
      rw [this]
      split <;> omega
    · rw [if_neg e]; exact this
  · rw [sh_at (by omega) (by omega) (by omega) (by omega)]
    by_cases e : a = i ∧ b = j
    · rw [if_pos e, ← e.1, ← e.2]
      have b1 := (r3 b (by omega)).2 hb
      rw [b1, Nat.add_zero, if_neg (by omega)]
      exact (r4 a ha).1
    · rw [if_neg e]; exact (r4 a ha).1
  · rw [sh_at (by omega) (by omega) (by omega) (by omega)]
    by_cases e : b = i ∧ a = j
    · rw [if_pos e, ← e.1, ← e.2]
      have b1 := (r3 b (by omega)).2 hb
      rw [b1, Nat.zero_add, if_neg (by omega)]
      exact (r4 a ha).2
    · rw [if_neg e]; exact (r4 a ha).2
theorem Rel_in (hp : p ≤ 6) (hb : b < p) (hN : 2 * N < 1000) (h : Rel p N f g) : Rel p (2 * N) (wyI p b f) (wyI 6 b g) := by
  have h0 : Inv3 p N b f g := ⟨⟨fun i j hi hj => by have := h.1 i j hi hj; omega, h.2.1, h.2.2⟩, fun i hi => ⟨by have := h.1 i b hi hb; omega, by have := h.1 b i hb hi; omega⟩⟩
  have R := fold2 (Inv := Inv3 p N b) (fun f i => wyO p b i f) (fun g i => wyO 6 b i g) p (fun f g i hi h6 hh => by
    have R2 := fold2 (Inv := Inv3 p N b) (fun f j => shorten f i j (f (6 * i + b) + f (6 * b + j))) (fun g j => shorten g i j (g (6 * i + b) + g (6 * b + j))) p (fun f g j hj _ hh => Inv3_st hp hb hN hi hj hh) (fun f g j hj j6 hh => Inv3_no hp hb hN h6 j6 (Or.inr hj) hh) hh 6 (Nat.le_refl _)
    rw [show min 6 p = p by omega] at R2
    exact R2) (fun f g i hi h6 hh => by
    have R2 := fold2 (Inv := Inv3 p N b) (fun f _ => f) (fun g j => shorten g i j (g (6 * i + b) + g (6 * b + j))) 0 (fun f g j hj _ hh => absurd hj (Nat.not_lt_zero _)) (fun f g j hj j6 hh => Inv3_no hp hb hN h6 j6 (Or.inl hi) hh) hh 6 (Nat.le_refl _)
    rw [show min 6 0 = 0 by decide] at R2
    exact R2) h0 6 (Nat.le_refl _)
  rw [show min 6 p = p by omega] at R
  exact R.1
theorem Rel_o1 (hN : N ≤ 1000) (hp : p ≤ b) (hb : b < 6) (hi : i < 6) (hj : j < 6) (h : Rel p N f g) : Rel p N f (shorten g i j (g (6 * i + b) + g (6 * b + j))) := by
  have e : shorten g i j (g (6 * i + b) + g (6 * b + j)) = g := by
    unfold shorten
    rw [if_neg]
    have g1 := h.2.1 i b hi hb (Or.inr hp)
    have g2 := h.2.1 b j hb hj (Or.inl hp)
    by_cases e1 : i = b
    · subst e1; omega
    · rw [if_neg e1] at g1
      have g3 : g (6 * i + j) ≤ 100000 := by
        by_cases c : i < p ∧ j < p
        · have := h.1 i j c.1 c.2
          omega
        · have := h.2.1 i j hi hj (by omega)
          rw [this]
          split <;> omega
      omega
  rw [e]; exact h
theorem Rel_o2 (hN : N ≤ 1000) (hp : p ≤ b) (hb : b < 6) (hi : i < 6) (h : Rel p N f g) : Rel p N f (wyO 6 b i g) := by
  unfold wyO
  have R4 : ∀ c, c ≤ 6 → Rel p N f ((List.range c).foldl (fun g j => shorten g i j (g (6 * i + b) + g (6 * b + j))) g) := by
    intro c
    induction c with
    | zero => intro _; exact h
    | succ c ih2 =>
      intro hc
      rw [List.range_succ, List.foldl_append, List.foldl_cons, List.foldl_nil]
      exact Rel_o1 hN hp hb hi (by omega) (ih2 (by omega))
  exact R4 6 (Nat.le_refl _)
theorem Rel_out (hN : N ≤ 1000) (hp : p ≤ b) (hb : b < 6) (h : Rel p N f g) : Rel p N f (wyI 6 b g) := by
  unfold wyI
  have R3 : ∀ k, k ≤ 6 → Rel p N f ((List.range k).foldl (fun g i => wyO 6 b i g) g) := by
    intro k
    induction k with
    | zero => intro _; exact h
    | succ k ih =>
      intro hk
      rw [List.range_succ, List.foldl_append, List.foldl_cons, List.foldl_nil]
      exact Rel_o2 hN hp hb (by omega) (ih (by omega))
  exact R3 6 (Nat.le_refl _)
theorem p2_6 {n m : Nat} (h : n ≤ m) : 2 ^ n ≤ 2 ^ m := Nat.pow_le_pow_right (by decide) h
theorem Rel_all (hp : p ≤ 6) (h : Rel p 9 f g) : Rel p 576 (wyB p p f) (wyB 6 6 g) := by
  have R : ∀ k, k ≤ 6 → Rel p (9 * 2 ^ min k p) ((List.range (min k p)).foldl (fun f b => wyI p b f) f) ((List.range k).foldl (fun g b => wyI 6 b g) g) := by
    intro k
    induction k with
    | zero => intro _; rw [Nat.zero_min]; exact h
    | succ k ih =>
      intro hk
      have g0 := ih (by omega)
      rw [List.range_succ (n := k), List.foldl_append, List.foldl_cons, List.foldl_nil]
      by_cases c : k < p
      · rw [show min (k + 1) p = k + 1 by omega, List.range_succ, List.foldl_append, List.foldl_cons, List.foldl_nil]
        rw [show min k p = k by omega] at g0
        have pw : 2 ^ k ≤ 2 ^ 5 := p2_6 (by omega)
        have := Rel_in hp c (by omega) g0
        rw [show 9 * 2 ^ (k + 1) = 2 * (9 * 2 ^ k) by rw [Nat.pow_succ]; omega]
        exact this
      · rw [show min (k + 1) p = min k p by omega]
        have pw : 2 ^ min k p ≤ 2 ^ 6 := p2_6 (by omega)
        exact Rel_out (by omega) (by omega) (by omega) g0
  have r6 := R 6 (Nat.le_refl _)
  rw [show min 6 p = p by omega] at r6
  have pw : 2 ^ p ≤ 2 ^ 6 := p2_6 hp
  unfold wyB
  exact ⟨fun i j hi hj => by have := r6.1 i j hi hj; omega, r6.2.1, r6.2.2⟩
def Sym (p : Nat) (f : Nat → Nat) : Prop := ∀ i j, i < p → j < p → f (6 * i + j) = f (6 * j + i)
theorem Rel_p0 (hp : p ≤ 6) : Rel p 9 wy0 ry0 ∧ Sym p wy0 := by
  have w : ∀ i j, j < 6 → wy0 (6 * i + j) = if i = j then 0 else 1000 := fun i j hj => by unfold wy0; rw [show (6 * i + j) / 6 = i by omega, show (6 * i + j) % 6 = j by omega]
  have r : ∀ i j, j < 6 → ry0 (6 * i + j) = if i = j then 0 else 100000 := fun i j hj => by unfold ry0; rw [show (6 * i + j) / 6 = i by omega, show (6 * i + j) % 6 = j by omega]
  refine ⟨⟨fun i j hi hj => ?_, fun i j hi hj _ => r i j hj, fun i hi => ⟨by rw [r i i hi, if_pos rfl], fun _ => by rw [w i i hi, if_pos rfl]⟩⟩, fun i j hi hj => ?_⟩
  · rw [w i j (by omega), r i j (by omega)]
    by_cases c : i = j
    · rw [if_pos c, if_pos c]; exact Or.inr ⟨rfl, by decide⟩
    · rw [if_neg c, if_neg c]; exact Or.inl ⟨rfl, rfl⟩
  · rw [w i j (by omega), w j i (by omega)]
    by_cases c : i = j
    · rw [if_pos c, if_pos c.symm]
    · rw [if_neg c, if_neg (fun e => c e.symm)]
theorem Rel_ps (hp : p ≤ 6) {a b v : Nat} (ha : a < p) (hb : b < p) (ne : ¬ a = b) (hv : v ≤ 9) (h : Rel p 9 f g) (s : Sym p f) : Rel p 9 (shorten (shorten f a b v) b a v) (rsh g a b v) ∧ Sym p (shorten (shorten f a b v) b a v) := by
  have fw : ∀ i j, i < 6 → j < 6 → shorten (shorten f a b v) b a v (6 * i + j) = if (i = a ∧ j = b) ∨ (i = b ∧ j = a) then (if v < f (6 * a + b) then v else f (6 * a + b)) else f (6 * i + j) := fun i j hi hj => by
    have e1 : shorten f a b v (6 * b + a) = f (6 * b + a) := by rw [sh_at (by omega) (by omega) (by omega) (by omega), if_neg (by omega)]
    have e2 : shorten f a b v (6 * i + j) = if i = a ∧ j = b then (if v < f (6 * a + b) then v else f (6 * a + b)) else f (6 * i + j) := sh_at (by omega) (by omega) hi hj
    rw [sh_at (f := shorten f a b v) (by omega) (by omega) hi hj, e1, e2]
    have := s b a hb ha
    by_cases c : i = b ∧ j = a
    · rw [if_pos c, if_pos (Or.inr c), this]
    · rw [if_neg c]
      by_cases c2 : i = a ∧ j = b
      · rw [if_pos c2, if_pos (Or.inl c2)]
      · rw [if_neg c2, if_neg (fun q => q.elim c2 c)]
  have gw : ∀ i j, i < 6 → j < 6 → rsh g a b v (6 * i + j) = if (i = a ∧ j = b) ∨ (i = b ∧ j = a) then (if v < g (6 * a + b) then v else g (6 * a + b)) else g (6 * i + j) := fun i j hi hj => by
    unfold rsh upf
    by_cases c : i = b ∧ j = a
    · rw [if_pos (by omega), if_pos (Or.inr c)]
    · rw [if_neg (by omega)]
      by_cases c2 : i = a ∧ j = b
      · rw [if_pos (by omega), if_pos (Or.inl c2)]
      · rw [if_neg (by omega), if_neg (fun q => q.elim c2 c)]
  have r0 := h.1 a b ha hb
  refine ⟨⟨fun i j hi hj => ?_, fun i j hi hj hij => ?_, fun i hi => ⟨?_, fun hip => ?_⟩⟩, fun i j hi hj => ?_⟩
  · rw [fw i j (by omega) (by omega), gw i j (by omega) (by omega)]
    by_cases c : (i = a ∧ j = b) ∨ (i = b ∧ j = a)
    · rw [if_pos c, if_pos c]
      split <;> split <;> omega
    · rw [if_neg c, if_neg c]; exact h.1 i j hi hj
  · rw [gw i j hi hj, if_neg (by omega)]; exact h.2.1 i j hi hj hij
  · rw [gw i i hi hi, if_neg (by omega)]; exact (h.2.2 i hi).1
  · rw [fw i i hi hi, if_neg (by omega)]; exact (h.2.2 i hi).2 hip
  · rw [fw i j (by omega) (by omega), fw j i (by omega) (by omega)]
    by_cases c : (i = a ∧ j = b) ∨ (i = b ∧ j = a)
    · rw [if_pos c, if_pos (show (j = a ∧ i = b) ∨ (j = b ∧ i = a) by omega)]
    · rw [if_neg c, if_neg (show ¬ ((j = a ∧ i = b) ∨ (j = b ∧ i = a)) by omega)]; exact s i j hi hj
theorem Rel_path (hp : p ≤ 6) : ∀ (ws : List (Nat × Nat × Nat)) (f g : Nat → Nat), (∀ w ∈ ws, w.1 < p ∧ w.2.1 < p ∧ ¬ w.1 = w.2.1 ∧ w.2.2 ≤ 9) → Rel p 9 f g → Sym p f → Rel p 9 (ws.foldl (fun f w => shorten (shorten f w.1 w.2.1 w.2.2) w.2.1 w.1 w.2.2) f) (ws.foldl (fun f w => rsh f w.1 w.2.1 w.2.2) g) := by
  intro ws
  induction ws with
  | nil => intro f g _ h _; exact h
  | cons w ws ih =>
    intro f g hw h s
    have a := hw w List.mem_cons_self
    have b := Rel_ps hp a.1 a.2.1 a.2.2.1 a.2.2.2 h s
    exact ih _ _ (fun x hx => hw x (List.mem_cons_of_mem _ hx)) b.1 b.2
theorem ry_wy (ok : LdOk l) (hi : i < (ld_p l).length) (hj : j < (ld_p l).length) : (wy l (6 * i + j) = 1000 ∧ ry l (6 * i + j) = 100000) ∨ (wy l (6 * i + j) = ry l (6 * i + j) ∧ wy l (6 * i + j) ≤ 576) := by
  have p6 := ok.2.2.2.1
  have p0 := Rel_p0 p6
  have R := Rel_all p6 (Rel_path p6 (ld_w l) wy0 ry0 (fun w hw => by
    have := ok.2.2.2.2.2.2.2.2.1 w hw
    exact ⟨this.1, this.2.1, this.2.2.1, by omega⟩) p0.1 p0.2)
  exact R.1 i j hi hj
end Ry
