/-! RULES read: clauses -/
def flC : Ru → List Nat
  | [] => []
  | c :: C => c.1 ++ c.2 ++ flC C
/-- one clause: its sum and its test -/
def clO (T : List (Nat × Nat)) (i n c : Nat) (O : List Nat) (r : Nat ⊕ (Nat × Nat × List Nat × List Nat)) : Prop :=
  if (tk T i).1 = 318 then (if c = 12 then r = .inl (flt T i 4) else (match suS T (i + 1) n with
    | .inl f => r = .inl f
    | .inr (i1, n1, V) => if (tk T i1).1 = 319 then (∃ q, rgR T (.inl (i1 + 1, n1, O ++ V, [], true)) (.inr q) ∧ (match q with
        | .inl f => r = .inl f
        | .inr (i2, n2, O2) => ∃ W, O2 = O ++ V ++ W ∧ r = .inr (i2, n2, V, W))) else r = .inr (i1, n1, V, [])))
  else r = .inl (flt T i 0)
def ruL (T : List (Nat × Nat)) : Nat → Nat → Nat → Ru → Nat ⊕ Ru → Prop
  | 0, _, _, _, _ => False
  | g + 1, i, n, C, r => ∃ q, clO T i n C.length (flC C) q ∧ (match q with
    | .inl f => r = .inl f
    | .inr (i1, n1, V, W) => if (tk T i1).1 = 60 then ruL T g (i1 + 1) n1 (C ++ [(V, W)]) r else if (tk T i1).1 = 0 then r = .inr (C ++ [(V, W)]) else r = .inl (flt T i1 0))
def RrM (h : mHeap) (C : Ru) : Prop := fI h 119 4 = ii C.length ∧ C.length ≤ 12 ∧ (∀ c, c ≤ C.length → xA h 121 c = ii (off C c)) ∧ ∀ c, c < C.length → xA h 122 c = ii ((off C c + (ru_c C c).1.length : Nat) : Int)
def rqF (h h1 : mHeap) : Prop := FrT (fun a => a = 65 ∨ (119 ≤ a ∧ a < 123)) h h1 ∧ (∀ j, ¬ j = 2 → ¬ j = 6 → fI h1 65 j = fI h 65 j) ∧ xA h1 121 0 = xA h 121 0
section Rr5
variable {T : List (Nat × Nat)}
theorem flC_app {C : Ru} {c : List Nat × List Nat} : flC (C ++ [c]) = flC C ++ (c.1 ++ c.2) := by
  induction C with
  | nil => show c.1 ++ c.2 ++ [] = [] ++ (c.1 ++ c.2); simp
  | cons x C ih =>
    show x.1 ++ x.2 ++ flC (C ++ [c]) = x.1 ++ x.2 ++ flC C ++ (c.1 ++ c.2)
    rw [ih]
    simp only [List.append_assoc]
theorem ru_app {C : Ru} {c : List Nat × List Nat} {k : Nat} : ru_c (C ++ [c]) k = if k = C.length then c else if k < C.length then ru_c C k else ([], []) := getD_app
theorem off_app {C : Ru} {c : List Nat × List Nat} : ∀ k, k ≤ C.length → off (C ++ [c]) k = off C k
  | 0, _ => rfl
  | k + 1, h => by
    have ih := off_app (C := C) (c := c) k (by omega)
    rw [off_s, off_s, ih, ru_app, if_neg (by omega), if_pos (by omega)]
theorem off_end {C : Ru} {c : List Nat × List Nat} : off (C ++ [c]) (C.length + 1) = off C C.length + c.1.length + c.2.length := by
  rw [off_s, off_app _ (Nat.le_refl _), ru_app, if_pos rfl]
theorem off_len : ∀ (n : Nat) (C : Ru), C.length = n → off C C.length = (flC C).length
  | 0, C, h => by
    have : C = [] := List.length_eq_zero_iff.mp h
    subst this
    rfl
  | n + 1, C, h => by
    obtain ⟨D, c, e⟩ : ∃ D c, C = D ++ [c] := ⟨C.dropLast, C.getLast (by intro g; rw [g] at h; cases h), (List.dropLast_concat_getLast _).symm⟩
    subst e
    have hl : D.length = n := by rw [List.length_append] at h; simpa using h
    rw [List.length_append]
    show off (D ++ [c]) (D.length + 1) = _
    rw [off_end, off_len n D hl, flC_app, List.length_append, List.length_append]
    omega
theorem rrF.q {h h1 : mHeap} (x : rrF h h1) : rqF h h1 := ⟨x.1.wide (fun a t => by omega), x.2.1, by rw [same_xA (x.1.2.2.2 121 (by omega))]⟩
theorem rqF.tr {h h1 h2 : mHeap} (x : rqF h h1) (y : rqF h1 h2) : rqF h h2 := ⟨x.1.tr y.1, fun j a b => (y.2.1 j a b).trans (x.2.1 j a b), y.2.2.trans x.2.2⟩
theorem rqF.rf {h : mHeap} : rqF h h := ⟨FrT.rf, fun _ _ _ => rfl, rfl⟩
theorem RrM.r {h h1 : mHeap} {C : Ru} (hM : RrM h C) (x : rrF h h1) : RrM h1 C := ⟨by rw [x.2.2]; exact hM.1, hM.2.1, fun c hc => by rw [same_xA (x.1.2.2.2 121 (by omega))]; exact hM.2.2.1 c hc, fun c hc => by rw [same_xA (x.1.2.2.2 122 (by omega))]; exact hM.2.2.2 c hc⟩
theorem RrC.fr {h h1 : mHeap} {i n f lo m : Nat} (hC : RrC h T i n f) (x : Fr lo m h h1) (e : 120 ≤ lo) : RrC h1 T i n f := ⟨x.St (by omega) hC.1, hC.2.1.sk x.1, hC.2.2.1.fr x (by omega), hC.2.2.2.1.sk x.1, by rw [same_fI (x.2.2.2 119 (by omega))]; exact hC.2.2.2.2.1, hC.2.2.2.2.2⟩
theorem RrO.fr {h h1 : mHeap} {O : List Nat} {lo m : Nat} (hO : RrO h O) (x : Fr lo m h h1) (e : 121 ≤ lo) : RrO h1 O := ⟨by rw [same_fI (x.2.2.2 119 (by omega))]; exact hO.1, hO.2.1, fun k hk => by rw [same_xA (x.2.2.2 120 (by omega))]; exact hO.2.2 k hk⟩
/-- the end of a clause: it is counted, and where the next begins is kept -/
theorem end71 {d i n f c : Nat} {h : mHeap} {O : List Nat} {K : mHeap → Prop} (hC : RrC h T i n f) (hO : RrO h O) (h4 : fI h 119 4 = ii (c : Int)) (hc : c < 12) (hK : ∀ h1, rqF h h1 → RrC h1 T i n f → RrO h1 O → fI h1 119 4 = ii ((c + 1 : Nat) : Int) → xA h1 121 = upf (xA h 121) (c + 1) (ii O.length) → xA h1 122 = xA h 122 → K h1) : Go d 71 82 [some (.ref 119)] [] h (rV K) := by
  have R := hC.2.2.2.1
  rw [b71_82]
  have p := putR R (k := 4) (Or.inr (Or.inr rfl)) (ii (c : Int) + ii 1)
  simp only [RrS_ok R, h4, true_and]
  refine ⟨p.1, ?_⟩
  have F1 := p.2.1
  have v1 := p.2.2
  generalize sF h 119 4 (.int (ii (c : Int) + ii 1)) = H1 at *
  have R1 := R.sk F1.1
  have e1 : ii (c : Int) + ii 1 = ii ((c + 1 : Nat) : Int) := by rw [ii_add]; rfl
  have s4 : fI H1 119 4 = ii ((c + 1 : Nat) : Int) := by rw [v1, if_pos rfl, e1]
  have s2 : fI H1 119 2 = ii O.length := by rw [v1, if_neg (by decide)]; exact hO.1
  have s3 : fI H1 119 3 = ii n := by rw [v1, if_neg (by decide)]; exact hC.2.2.2.2.1
  have r1 := row_ok R1.2.2.1 (show c + 1 < 13 by omega) (by omega)
  simp only [RrS_ok R1, s4, s2, true_and]
  refine ⟨⟨by decide, r1.1⟩, ?_⟩
  have w1 := fun b => sI_row (b := b) (v := ii (O.length : Int)) R1.2.2.1 (show c + 1 < 13 by omega) (by omega)
  have F2 : Fr 121 1 H1 (sI H1 121 (ii ((c + 1 : Nat) : Int)) (ii (O.length : Int))) := Fr.sI
  generalize sI H1 121 (ii ((c + 1 : Nat) : Int)) (ii (O.length : Int)) = H2 at *
  rw [rV_s]
  have C1 : RrC H1 T i n f := ⟨F1.St (by decide) hC.1, hC.2.1.sk F1.1, hC.2.2.1.fr F1 (by decide), R1, s3, hC.2.2.2.2.2⟩
  have x1 : ∀ a, ¬ a = 119 → xA H1 a = xA h a := fun a ha => same_xA (F1.2.2.2 a (by omega))
  have O1 : RrO H1 O := ⟨s2, hO.2.1, fun k hk => by rw [x1 120 (by decide)]; exact hO.2.2 k hk⟩
  refine hK H2 ⟨(F1.toT (fun a g1 g2 => by omega)).tr (F2.toT (fun a g1 g2 => by omega)), fun j _ _ => by rw [same_fI (F2.2.2.2 65 (by omega)), same_fI (F1.2.2.2 65 (by omega))], ?_⟩ (C1.fr F2 (by decide)) (O1.fr F2 (by decide)) ?_ ?_ ?_
  · rw [w1 121, if_pos rfl, x1 121 (by decide)]
    unfold upf
    rw [if_neg (by omega)]
  · rw [same_fI (F2.2.2.2 119 (by omega))]; exact s4
  · rw [w1 121, if_pos rfl, x1 121 (by decide)]
  · rw [w1 122, if_neg (by decide), x1 122 (by decide)]
end Rr5
