/-! RULES read: what is read is well made -/
def tst : List Nat → List Bool
  | [] => []
  | x :: st => if x = 2 ∨ x = 3 then true :: tst st else tst st
def okSt : List Nat → Prop
  | [] => True
  | x :: s => okSt s ∧ (x = 3 → bas s) ∧ (x = 2 → bas s ∨ ∃ s', s = 3 :: s' ∧ bas s') ∧ x ≤ 3
section Rt
variable {T : List (Nat × Nat)}
theorem tyL_app : ∀ (a b : List Nat) (s : List Bool), tyL (a ++ b) s = (tyL a s).bind (tyL b)
  | [], b, s => rfl
  | t :: a, b, s => by
    show (tyT t s).bind (tyL (a ++ b)) = ((tyT t s).bind (tyL a)).bind (tyL b)
    cases tyT t s with
    | none => rfl
    | some u => exact tyL_app a b u
theorem tyL_to {a b : List Nat} {s u v : List Bool} (h1 : tyL a s = some u) (h2 : tyL b u = some v) : tyL (a ++ b) s = some v := by
  rw [tyL_app, h1]; exact h2
theorem tyL_1 {t : Nat} {s : List Bool} : tyL [t] s = tyT t s := by
  show (tyT t s).bind (tyL []) = _
  cases tyT t s <;> rfl
theorem ty_va {t : Nat} {s : List Bool} (ht : isVa (t + 1)) (hs : s.length < 26) : tyT t s = some (false :: s) := by
  unfold tyT
  have n : ¬ t = 314 := by rcases ht with g | g <;> omega
  rw [if_neg n, if_pos (by rcases ht with g | g <;> omega), if_pos hs]
theorem ty_ar {t : Nat} {s : List Bool} (ht : t = 37 ∨ t = 42 ∨ t = 43 ∨ t = 45 ∨ t = 47) : tyT t (false :: false :: s) = some (false :: s) := by
  unfold tyT
  rw [if_neg (by omega), if_neg (by omega), if_pos ht]
theorem ty_cm {t : Nat} {s : List Bool} (ht : isCm (t + 1)) : tyT t (false :: false :: s) = some (true :: s) := by
  unfold tyT
  have h : t = 60 ∨ t = 61 ∨ t = 62 ∨ t = 256 ∨ t = 257 := by rcases ht with g | g | g | g | g <;> omega
  rw [if_neg (by omega), if_neg (by omega), if_neg (by omega), if_neg (by omega), if_pos h]
theorem it_p {p : Nat → Prop} {i n : Nat} (h : itF T p i n = 0) (hf : ∀ k, k < 8 → ¬ flt T i k = 0) : p (tk T i).1 := by
  by_cases c : p (tk T i).1
  · exact c
  · unfold itF at h
    rw [if_neg c] at h
    exact absurd h (hf 0 (by decide))
theorem flt_n0 {i k : Nat} : ¬ flt T i k = 0 := by unfold flt; omega
def RuT_app {a b : List Nat} (ha : RuT a) (hb : RuT b) : RuT (a ++ b) := fun t ht => by
  rw [List.mem_append] at ht
  rcases ht with g | g
  · exact ha t g
  · exact hb t g
theorem RuT_1 {t : Nat} (h : t < 101001) : RuT [t] := fun x hx => by
  rw [List.mem_singleton] at hx
  rw [hx]; exact h
theorem isVa_s {t : Nat} (h : isVa t) : isVa (t - 1 + 1) := by
  have : 1 ≤ t := by rcases h with g | g <;> omega
  rw [show t - 1 + 1 = t by omega]; exact h
theorem isCm_s {t : Nat} (h : isCm t) : isCm (t - 1 + 1) := by
  have : 1 ≤ t := by rcases h with g | g | g | g | g <;> omega
  rw [show t - 1 + 1 = t by omega]; exact h
def pOp (p : List Nat) : Prop := p = [] ∨ p = [43] ∨ p = [45]
def pSt (p : List Nat) (s : List Bool) : List Bool := if p = [] then false :: s else false :: false :: s
theorem suL_ty (hb : ∀ i, (tk T i).1 ≤ 101001) {s : List Bool} (hs : s.length ≤ 23) : ∀ g i n p W i' n' W', pOp p → tyL W s = some (pSt p s) → RuT W → suL T g i n p W = .inr (i', n', W') → tyL W' s = some (false :: s) ∧ RuT W' := by
  have fin : ∀ p W, pOp p → tyL W s = some (pSt p s) → RuT W → tyL (W ++ p) s = some (false :: s) ∧ RuT (W ++ p) := fun p W hp ht hr => by
    rcases hp with g | g | g
    · subst g; rw [List.append_nil]; exact ⟨ht, hr⟩
    · subst g; exact ⟨tyL_to ht (by rw [tyL_1]; exact ty_ar (by omega)), RuT_app hr (RuT_1 (by decide))⟩
    · subst g; exact ⟨tyL_to ht (by rw [tyL_1]; exact ty_ar (by omega)), RuT_app hr (RuT_1 (by decide))⟩
  intro g
  induction g with
  | zero =>
    intro i n p W i' n' W' hp ht hr e
    have e' : (Sum.inr (i, n, W ++ p) : Nat ⊕ (Nat × Nat × List Nat)) = .inr (i', n', W') := e
    cases e'
    exact fin p W hp ht hr
  | succ g ih =>
    intro i n p W i' n' W' hp ht hr e
    have lp : (pSt p s).length ≤ s.length + 2 := by
      unfold pSt
      split <;> simp
    have ps : ∃ r, pSt p s = false :: r := by
      unfold pSt
      split
      · exact ⟨_, rfl⟩
      · exact ⟨_, rfl⟩
    rw [suL] at e
    by_cases c1 : (tk T i).1 = 43 ∨ (tk T i).1 = 48 ∨ (tk T i).1 = 38
    · rw [if_pos c1] at e
      by_cases c : itF T isVa (i + 1) n = 0
      · rw [if_pos c] at e
        have v := isVa_s (it_p c (fun k _ => flt_n0))
        obtain ⟨r, er⟩ := ps
        have b1 := hb (i + 1)
        refine ih _ _ p _ _ _ _ hp ?_ (RuT_app hr (RuT_app (RuT_1 (t := (tk T (i + 1)).1 - 1) (by omega)) (RuT_1 (t := (tk T i).1 - 1) (by omega)))) e
        refine tyL_to ht ?_
        show (tyT ((tk T (i + 1)).1 - 1) (pSt p s)).bind (tyL [(tk T i).1 - 1]) = _
        rw [ty_va v (by omega)]
        show tyL [(tk T i).1 - 1] (false :: pSt p s) = _
        rw [tyL_1, er]
        exact ty_ar (by omega)
      · rw [if_neg c] at e; cases e
    rw [if_neg c1] at e
    by_cases c2 : (tk T i).1 = 44 ∨ (tk T i).1 = 46
    · rw [if_pos c2] at e
      by_cases c : itF T isVa (i + 1) n = 0
      · rw [if_pos c] at e
        have v := isVa_s (it_p c (fun k _ => flt_n0))
        have b1 := hb (i + 1)
        have f := fin p W hp ht hr
        refine ih _ _ [(tk T i).1 - 1] _ _ _ _ ?_ ?_ (RuT_app f.2 (RuT_1 (by omega))) e
        · rcases c2 with q | q
          · rw [q]; exact Or.inr (Or.inl rfl)
          · rw [q]; exact Or.inr (Or.inr rfl)
        · refine tyL_to f.1 ?_
          rw [tyL_1, ty_va v (by rw [List.length_cons]; omega)]
          rfl
      · rw [if_neg c] at e; cases e
    rw [if_neg c2] at e
    cases e
    exact fin p W hp ht hr
theorem suS_ty (hb : ∀ i, (tk T i).1 ≤ 101001) {s : List Bool} (hs : s.length ≤ 23) {i n i' n' : Nat} {W' : List Nat} (e : suS T i n = .inr (i', n', W')) : tyL W' s = some (false :: s) ∧ RuT W' := by
  unfold suS at e
  by_cases c : itF T isVa i n = 0
  · rw [if_pos c] at e
    have b1 := hb i
    refine suL_ty hb hs _ _ _ [] _ _ _ _ (Or.inl rfl) ?_ (RuT_1 (by omega)) e
    rw [tyL_1, ty_va (isVa_s (it_p c (fun k _ => flt_n0))) (by omega)]
    rfl
  · rw [if_neg c] at e; cases e
theorem faS_ty (hb : ∀ i, (tk T i).1 ≤ 101001) {s : List Bool} (hs : s.length ≤ 22) {i n i' n' : Nat} {V : List Nat} (e : faS T i n = .inr (i', n', V)) : tyL V s = some (true :: s) ∧ RuT V := by
  unfold faS at e
  cases q : suS T i n with
  | inl f => rw [q] at e; cases e
  | inr r =>
    obtain ⟨i1, n1, V1⟩ := r
    rw [q] at e
    have a := suS_ty hb (s := s) (by omega) q
    by_cases c : itF T isCm i1 n1 = 0
    · have e1 : (match suS T (i1 + 1) (n1 + 1) with
        | .inl f => .inl f
        | .inr (i2, n2, V2) => .inr (i2, n2, V1 ++ V2 ++ [(tk T i1).1 - 1])) = (.inr (i', n', V) : Nat ⊕ (Nat × Nat × List Nat)) := by
        rw [← e]
        show _ = (if itF T isCm i1 n1 = 0 then _ else _)
        rw [if_pos c]
        rfl
      cases q2 : suS T (i1 + 1) (n1 + 1) with
      | inl f => rw [q2] at e1; cases e1
      | inr r2 =>
        obtain ⟨i2, n2, V2⟩ := r2
        rw [q2] at e1
        have b := suS_ty hb (s := false :: s) (by rw [List.length_cons]; omega) q2
        have e2 : (.inr (i2, n2, V1 ++ V2 ++ [(tk T i1).1 - 1]) : Nat ⊕ (Nat × Nat × List Nat)) = .inr (i', n', V) := e1
        cases e2
        have b1 := hb i1
        refine ⟨tyL_to (tyL_to a.1 b.1) ?_, RuT_app (RuT_app a.2 b.2) (RuT_1 (by omega))⟩
        rw [tyL_1]
        exact ty_cm (isCm_s (it_p c (fun k _ => flt_n0)))
    · have e1 : (.inl (itF T isCm i1 n1) : Nat ⊕ (Nat × Nat × List Nat)) = .inr (i', n', V) := by
        rw [← e]
        show _ = (if itF T isCm i1 n1 = 0 then _ else _)
        rw [if_neg c]
      cases e1
theorem tst_len : ∀ st, okSt st → (tst st).length ≤ 2 * dpt st + 2 ∧ (bas st → (tst st).length ≤ 2 * dpt st)
  | [], _ => ⟨by show 0 ≤ _; omega, fun _ => by show 0 ≤ _; omega⟩
  | x :: s, ⟨h1, h2, h3, h4⟩ => by
    have ih := tst_len s h1
    have e : tst (x :: s) = if x = 2 ∨ x = 3 then true :: tst s else tst s := rfl
    have d : dpt (x :: s) = (if x = 0 ∨ x = 1 then 1 else 0) + dpt s := rfl
    rw [e, d]
    by_cases c0 : x = 0 ∨ x = 1
    · rw [if_neg (by omega), if_pos c0]
      exact ⟨by omega, fun _ => by omega⟩
    rw [if_neg c0, if_pos (by omega), List.length_cons]
    have nb : ¬ bas (x :: s) := by
      rintro (g | ⟨s2, g⟩)
      · cases g
      · cases g; omega
    refine ⟨?_, fun g => absurd g nb⟩
    by_cases c3 : x = 3
    · have := ih.2 (h2 c3)
      omega
    · rcases h3 (by omega) with g | ⟨s', g, gb⟩
      · have := ih.2 g
        omega
      · subst g
        have ih2 := tst_len s' h1.1
        have := ih2.2 gb
        have e2 : tst (3 :: s') = true :: tst s' := rfl
        have d2 : dpt (3 :: s') = 0 + dpt s' := rfl
        rw [e2, d2, List.length_cons]
        omega
/-- after what is flushed a level's own frames lie open -/
def flat3 (st : List Nat) : Prop := bas st ∨ ∃ s, st = 3 :: s ∧ bas s
theorem pAnd_ty {X : List Nat} {W : List Nat} : ∀ st, okSt st → (∀ s, ¬ st = 0 :: s) → tyL X [] = some (true :: tst st) → RuT X → ∃ Y, (pAnd st (W ++ X)).2 = W ++ Y ∧ tyL Y [] = some (true :: tst (pAnd st (W ++ X)).1) ∧ RuT Y ∧ okSt (pAnd st (W ++ X)).1 ∧ flat3 (pAnd st (W ++ X)).1 ∧ dpt (pAnd st (W ++ X)).1 ≤ dpt st
  | [], ok, _, t, r => ⟨X, by simp [pAnd], by simpa [pAnd] using t, r, by simp [pAnd, okSt], by simp [pAnd]; exact Or.inl (Or.inl rfl), by simp [pAnd]⟩
  | 0 :: s, ok, h0, t, r => absurd rfl (h0 s)
  | 1 :: s, ok, _, t, r => ⟨X, by simp [pAnd], by simpa [pAnd] using t, r, by simpa [pAnd] using ok, by simp [pAnd]; exact Or.inl (Or.inr ⟨s, rfl⟩), by simp [pAnd]⟩
  | 2 :: s, ok, _, t, r => by
    have e : pAnd (2 :: s) (W ++ X) = pAnd s (W ++ (X ++ [315])) := by
      show pAnd s (W ++ X ++ [315]) = _
      rw [List.append_assoc]
    have t2 : tyL (X ++ [315]) [] = some (true :: tst s) := tyL_to t (by rw [tyL_1]; rfl)
    have r2 : RuT (X ++ [315]) := RuT_app r (RuT_1 (by decide))
    have d : dpt (2 :: s) = 0 + dpt s := rfl
    have top : ∀ s2, ¬ s = 0 :: s2 := fun s2 g => by
      rcases ok.2.2.1 rfl with (q | ⟨z, q⟩) | ⟨z, q, _⟩ <;> rw [g] at q <;> cases q
    obtain ⟨Y, a, b, c, o, f, dd⟩ := pAnd_ty (X := X ++ [315]) (W := W) s ok.1 top t2 r2
    rw [e]
    exact ⟨Y, a, b, c, o, f, by omega⟩
  | 3 :: s, ok, _, t, r => ⟨X, by simp [pAnd], by simpa [pAnd] using t, r, by simpa [pAnd] using ok, by simp [pAnd]; exact Or.inr ⟨s, rfl, ok.2.1 rfl⟩, by simp [pAnd]⟩
  | (x + 4) :: s, ok, _, t, r => by have := ok.2.2.2; omega
theorem pNot_ty {W : List Nat} : ∀ st (X : List Nat), okSt st → tyL X [] = some (true :: tst st) → RuT X → ∃ Y, (pNot st (W ++ X)).2 = W ++ Y ∧ tyL Y [] = some (true :: tst (pNot st (W ++ X)).1) ∧ RuT Y ∧ okSt (pNot st (W ++ X)).1 ∧ (∀ s, ¬ (pNot st (W ++ X)).1 = 0 :: s) ∧ dpt (pNot st (W ++ X)).1 ≤ dpt st
  | [], X, ok, t, r => ⟨X, by simp [pNot], by simpa [pNot] using t, r, by simp [pNot, okSt], by simp [pNot], by simp [pNot]⟩
  | 0 :: s, X, ok, t, r => by
    have e : pNot (0 :: s) (W ++ X) = pNot s (W ++ (X ++ [314])) := by
      show pNot s (W ++ X ++ [314]) = _
      rw [List.append_assoc]
    have t2 : tyL (X ++ [314]) [] = some (true :: tst s) := tyL_to t (by rw [tyL_1]; rfl)
    have d : dpt (0 :: s) = 1 + dpt s := rfl
    obtain ⟨Y, a, b, c, o, f, dd⟩ := pNot_ty (W := W) s (X ++ [314]) ok.1 t2 (RuT_app r (RuT_1 (by decide)))
    rw [e]
    exact ⟨Y, a, b, c, o, f, by omega⟩
  | (x + 1) :: s, X, ok, t, r => ⟨X, by simp [pNot], by simpa [pNot] using t, r, by simpa [pNot] using ok, by simp [pNot], by simp [pNot]⟩
theorem oE_ty {W st X : List Nat} (ok : okSt st) (t : tyL X [] = some (true :: tst st)) (r : RuT X) : ∃ Y, (oE st (W ++ X)).2 = W ++ Y ∧ tyL Y [] = some (true :: tst (oE st (W ++ X)).1) ∧ RuT Y ∧ okSt (oE st (W ++ X)).1 ∧ flat3 (oE st (W ++ X)).1 ∧ dpt (oE st (W ++ X)).1 ≤ dpt st := by
  obtain ⟨Y, a, b, c, o, f, dd⟩ := pNot_ty (W := W) st X ok t r
  obtain ⟨Z, a2, b2, c2, o2, f2, dd2⟩ := pAnd_ty (X := Y) (W := W) (pNot st (W ++ X)).1 o f b c
  have e : oE st (W ++ X) = pAnd (pNot st (W ++ X)).1 (W ++ Y) := by
    unfold oE
    rw [a]
  rw [e]
  exact ⟨Z, a2, b2, c2, o2, f2, by omega⟩
/-- what holds on the way -/
def rgI (W : List Nat) (x : Rg ⊕ Nat ⊕ (Nat × Nat × List Nat)) : Prop := match x with
  | .inl (_, _, W', st, true) => okSt st ∧ dpt st ≤ 10 ∧ ∃ X, W' = W ++ X ∧ tyL X [] = some (tst st) ∧ RuT X
  | .inl (_, _, W', st, false) => okSt st ∧ dpt st ≤ 10 ∧ flat3 st ∧ ∃ X, W' = W ++ X ∧ tyL X [] = some (true :: tst st) ∧ RuT X
  | .inr (.inl _) => True
  | .inr (.inr (_, _, W')) => ∃ X, W' = W ++ X ∧ tyL X [] = some [true] ∧ RuT X
theorem orE_ty {W st X : List Nat} (ok : okSt st) (fl : flat3 st) (t : tyL X [] = some (true :: tst st)) (r : RuT X) : ∃ Y, (orE st (W ++ X)).2 = W ++ Y ∧ tyL Y [] = some (true :: tst (orE st (W ++ X)).1) ∧ RuT Y ∧ okSt (orE st (W ++ X)).1 ∧ bas (orE st (W ++ X)).1 ∧ dpt (orE st (W ++ X)).1 = dpt st := by
  rcases fl with (g | ⟨s, g⟩) | ⟨s, g, gb⟩
  · subst g; exact ⟨X, rfl, t, r, ok, Or.inl rfl, rfl⟩
  · subst g; exact ⟨X, rfl, t, r, ok, Or.inr ⟨s, rfl⟩, rfl⟩
  · subst g
    refine ⟨X ++ [316], by show W ++ X ++ [316] = _; rw [List.append_assoc], tyL_to t (by rw [tyL_1]; rfl), RuT_app r (RuT_1 (by decide)), ok.1, gb, ?_⟩
    show dpt s = 0 + dpt s
    omega
theorem rgI_st (hb : ∀ i, (tk T i).1 ≤ 101001) {W : List Nat} {x : Rg ⊕ Nat ⊕ (Nat × Nat × List Nat)} (h : rgI W x) : rgI W (rgT T x) := by
  match x, h with
  | .inl (i, n, W', st, true), ⟨ok, dp, X, e, t, r⟩ =>
    subst e
    show rgI W (rgN T i n (W ++ X) st)
    unfold rgN
    by_cases c1 : (tk T i).1 = 315
    · rw [if_pos c1]
      by_cases c : dpt st = 10
      · rw [if_pos c]; trivial
      · rw [if_neg c]
        have d : dpt (0 :: st) = 1 + dpt st := rfl
        exact ⟨⟨ok, by omega, by omega, by decide⟩, by omega, X, rfl, t, r⟩
    rw [if_neg c1]
    by_cases c2 : (tk T i).1 = 92
    · rw [if_pos c2]
      by_cases c : dpt st = 10
      · rw [if_pos c]; trivial
      · rw [if_neg c]
        have d : dpt (1 :: st) = 1 + dpt st := rfl
        exact ⟨⟨ok, by omega, by omega, by decide⟩, by omega, X, rfl, t, r⟩
    rw [if_neg c2]
    cases q : faS T i n with
    | inl f => trivial
    | inr p =>
      obtain ⟨i', n', V⟩ := p
      have tl := (tst_len st ok).1
      have f := faS_ty hb (s := tst st) (by omega) q
      obtain ⟨Y, a, b, c, o, fl, dd⟩ := oE_ty (W := W) (X := X ++ V) ok (tyL_to t f.1) (RuT_app r f.2)
      show rgI W (.inl (oG i' n' st (W ++ X ++ V)))
      unfold oG
      rw [List.append_assoc]
      exact ⟨o, by omega, fl, Y, a, b, c⟩
  | .inl (i, n, W', st, false), ⟨ok, dp, fl, X, e, t, r⟩ =>
    subst e
    show rgI W (rgB T i n (W ++ X) st)
    obtain ⟨Y, a, b, c, o, bb, dd⟩ := orE_ty (W := W) ok fl t r
    unfold rgB
    by_cases c1 : (tk T i).1 = 316
    · rw [if_pos c1]
      have d : dpt (2 :: st) = 0 + dpt st := rfl
      exact ⟨⟨ok, by omega, fun _ => fl, by decide⟩, by omega, X, rfl, t, r⟩
    rw [if_neg c1]
    by_cases c2 : (tk T i).1 = 317
    · rw [if_pos c2]
      have d : dpt (3 :: (orE st (W ++ X)).1) = 0 + dpt (orE st (W ++ X)).1 := rfl
      exact ⟨⟨o, fun _ => bb, by omega, by decide⟩, by omega, Y, a, b, c⟩
    rw [if_neg c2]
    generalize orE st (W ++ X) = p at *
    obtain ⟨p1, p2⟩ := p
    have a' : p2 = W ++ Y := a
    subst a'
    rcases bb with g | ⟨s, g⟩
    · have g' : p1 = [] := g
      subst g'
      exact ⟨Y, rfl, b, c⟩
    · have g' : p1 = 1 :: s := g
      subst g'
      show rgI W (if (tk T i).1 = 94 then _ else _)
      by_cases c3 : (tk T i).1 = 94
      · rw [if_pos c3]
        have d : dpt (1 :: s) = 1 + dpt s := rfl
        have dd' : dpt (1 :: s) = dpt st := dd
        obtain ⟨Z, a2, b2, c2', o2, fl2, dd2⟩ := oE_ty (W := W) (X := Y) o.1 b c
        exact ⟨o2, by show dpt (oE s (W ++ Y)).1 ≤ 10; omega, fl2, Z, a2, b2, c2'⟩
      · rw [if_neg c3]; trivial
  | .inr q, h => exact h
theorem rgI_r (hb : ∀ i, (tk T i).1 ≤ 101001) {W : List Nat} {x y : Rg ⊕ Nat ⊕ (Nat × Nat × List Nat)} (h : rgI W x) (r : rgR T x y) : rgI W y := by
  obtain ⟨n, rfl⟩ := r
  induction n with
  | zero => exact h
  | succ n ih => rw [itr_s]; exact rgI_st hb ih
/-- a clause is well made -/
theorem clO_ty (hb : ∀ i, (tk T i).1 ≤ 101001) {i n c i' n' : Nat} {O V W : List Nat} (h : clO T i n c O (.inr (i', n', V, W))) : ¬ c = 12 ∧ tyL V [] = some [false] ∧ RuT V ∧ RuT W ∧ (W = [] ∨ tyL W [] = some [true]) := by
  unfold clO at h
  by_cases ct : (tk T i).1 = 318
  rotate_left
  · rw [if_neg ct] at h; cases h
  rw [if_pos ct] at h
  by_cases cc : c = 12
  · rw [if_pos cc] at h; cases h
  rw [if_neg cc] at h
  refine ⟨cc, ?_⟩
  cases es : suS T (i + 1) n with
  | inl f => rw [es] at h; cases h
  | inr p =>
    obtain ⟨i1, n1, V1⟩ := p
    rw [es] at h
    have s := suS_ty hb (s := []) (by decide) es
    have h' : (if (tk T i1).1 = 319 then (∃ q, rgR T (.inl (i1 + 1, n1, O ++ V1, [], true)) (.inr q) ∧ (match q with
        | .inl f => (.inr (i', n', V, W) : Nat ⊕ (Nat × Nat × List Nat × List Nat)) = .inl f
        | .inr (i2, n2, O2) => ∃ W2, O2 = O ++ V1 ++ W2 ∧ (.inr (i', n', V, W) : Nat ⊕ (Nat × Nat × List Nat × List Nat)) = .inr (i2, n2, V1, W2))) else (.inr (i', n', V, W) : Nat ⊕ (Nat × Nat × List Nat × List Nat)) = .inr (i1, n1, V1, [])) := h
    by_cases c1 : (tk T i1).1 = 319
    · rw [if_pos c1] at h'
      obtain ⟨q, g, e⟩ := h'
      cases q with
      | inl f => cases e
      | inr p2 =>
        obtain ⟨i2, n2, O2⟩ := p2
        obtain ⟨W2, e1, e2⟩ := e
        cases e2
        have fin := rgI_r hb (W := O ++ V) (show rgI (O ++ V) (.inl (i1 + 1, n1, O ++ V, [], true)) from ⟨trivial, by decide, [], by rw [List.append_nil], rfl, fun t ht => (by cases ht)⟩) g
        obtain ⟨X, x1, x2, x3⟩ := fin
        have : X = W := List.append_cancel_left (x1.symm.trans e1)
        subst this
        exact ⟨s.1, s.2, x3, Or.inr x2⟩
    · rw [if_neg c1] at h'
      cases h'
      exact ⟨s.1, s.2, fun t ht => (by cases ht), Or.inl rfl⟩
theorem ruL_ok (hb : ∀ i, (tk T i).1 ≤ 101001) : ∀ g i n C D, RuOk C → ruL T g i n C (.inr D) → RuOk D
  | 0, _, _, _, _, _, h => h.elim
  | g + 1, i, n, C, D, ok, ⟨q, cl, e⟩ => by
    cases q with
    | inl f => cases e
    | inr p =>
      obtain ⟨i1, n1, V, W⟩ := p
      have t := clO_ty hb cl
      have ok2 : RuOk (C ++ [(V, W)]) := by
        have lx : (C ++ [(V, W)]).length = C.length + 1 := List.length_append
        have := ok.1
        refine ⟨by rw [lx]; omega, fun c hc => ?_⟩
        rw [lx] at hc
        rw [ru_app]
        by_cases g2 : c = C.length
        · rw [if_pos g2]; exact t.2
        · rw [if_neg g2, if_pos (by omega)]; exact ok.2 c (by omega)
      have e' : (if (tk T i1).1 = 60 then ruL T g (i1 + 1) n1 (C ++ [(V, W)]) (.inr D) else if (tk T i1).1 = 0 then (.inr D : Nat ⊕ Ru) = .inr (C ++ [(V, W)]) else (.inr D : Nat ⊕ Ru) = .inl (flt T i1 0)) := e
      by_cases c1 : (tk T i1).1 = 60
      · rw [if_pos c1] at e'
        exact ruL_ok hb g _ _ _ D ok2 e'
      rw [if_neg c1] at e'
      by_cases c2 : (tk T i1).1 = 0
      · rw [if_pos c2] at e'
        cases e'
        exact ok2
      · rw [if_neg c2] at e'; cases e'
end Rt
