/-! RULES read: a fact -/
def rgO (T : List (Nat × Nat)) (h1 : mHeap) (i : Nat) (x : Rg ⊕ Nat ⊕ (Nat × Nat × List Nat)) (P : Nat → Nat → List Nat → Prop) : Prop := (∃ i' n' O', RrC h1 T i' n' 0 ∧ RrO h1 O' ∧ i < i' ∧ P i' n' O') ∨ (∃ f' n' O', ¬ f' = 0 ∧ RrC h1 T (T.length - 1) n' f' ∧ RrO h1 O' ∧ rgR T x (.inr (.inl f')))
def P73 (T : List (Nat × Nat)) (dep m : Nat) : Prop := ∀ {h : mHeap} {K : mHeap → Prop} {i n D : Nat} {st O : List Nat}, RrC h T i n 0 → RrO h O → dpt st = dep → 3 * (O.length + frn st) ≤ 6 * n + (tk T i).2 → 2 * m + 8 ≤ D → (∀ h1, rrF h h1 → rgO T h1 i (.inl (i, n, O, st, true)) (fun i' n' O' => 3 * (O'.length + frn st) + 9 ≤ 6 * n' + (tk T i').2 ∧ rgR T (.inl (i, n, O, st, true)) (.inl (oG i' n' st O'))) → K h1) → GoCv D 73 [.ref 119, .int (ii dep)] h K
def bas (st : List Nat) : Prop := st = [] ∨ ∃ s, st = 1 :: s
def P72 (T : List (Nat × Nat)) (dep m : Nat) : Prop := ∀ {h : mHeap} {K : mHeap → Prop} {i n D : Nat} {st O : List Nat}, RrC h T i n 0 → RrO h O → dpt st = dep → bas st → 3 * (O.length + frn st) ≤ 6 * n + (tk T i).2 → 2 * m + 9 ≤ D → (∀ h1, rrF h h1 → rgO T h1 i (.inl (i, n, O, st, true)) (fun i' n' O' => 3 * (O'.length + frn st) + 9 ≤ 6 * n' + (tk T i').2 ∧ ¬ (tk T i').1 = 316 ∧ ¬ (tk T i').1 = 317 ∧ ∃ O1 st1, rgR T (.inl (i, n, O, st, true)) (.inl (i', n', O1, st1, false)) ∧ ((st1 = st ∧ O' = O1) ∨ (st1 = 3 :: st ∧ O' = O1 ++ [316]))) → K h1) → GoCv D 72 [.ref 119, .int (ii dep)] h K
section Rr3
variable {d i n f : Nat} {h h1 h2 : mHeap} {T : List (Nat × Nat)} {O : List Nat}
theorem cm0 : ¬ isCm 0 := by
  rintro (g | g | g | g | g) <;> exact absurd g (by decide)
/-- a fact that is no not and no bracket -/
theorem fact73 {K : mHeap → Prop} (hE : (tk T (T.length - 1)).1 = 0) (hC : RrC h T i n 0) (hO : RrO h O) (hroom : 3 * O.length ≤ 6 * n + (tk T i).2) {l1 l2 l3 : Option Value} (hY : ∀ i' n' V h1, faS T i n = .inr (i', n', V) → rrF h h1 → RrC h1 T i' n' 0 → RrO h1 (O ++ V) → K h1) (hN : ∀ f' n' O' h1, ¬ f' = 0 → faS T i n = .inl f' → rrF h h1 → RrC h1 T (T.length - 1) n' f' → RrO h1 O' → K h1) : GoCv (d + 4) 74 [.ref 119] h (fun h2 => okF h2 119 6 0 2 ∧ oC h2 (fR h2 119 0) = 9 ∧ GoCi (d + 4) 107 [.ref (fR h2 119 0)] h2 (fun v3 h3 => GoCi (d + 4) 75 [.int v3] h3 (fun v4 h4 => oC h4 119 = 6 ∧ GoCi (d + 4) 77 [.ref 119, .int v4] h4 (fun v5 h5 => oC h5 119 = 6 ∧ GoCv (d + 4) 74 [.ref 119] h5 (fun h6 => oC h6 119 = 6 ∧ GoCv (d + 4) 78 [.ref 119, .int v5] h6 (fun h7 => rV K none h7)))))) := by
  have p4 := (hC.2.2.1.2.2.2.2.2 i hC.2.2.1.2.2.1).2
  have n600 := hC.2.2.2.2.2.1
  refine c74 hE hC hO (by omega) (fun h2 r => ?_)
  obtain ⟨F2, r⟩ := r
  rcases r with ⟨i1, n1, V1, es, C2, R2⟩ | ⟨f1, n1, O1, nf, es, C2, R2⟩
  · have X2 := C2.2.2.1
    have t2 := (X2.2.2.2.2.2 i1 X2.2.2.1).1
    have s1 := suS_ok es
    simp only [RrS_ok C2.2.2.2.1, true_and]
    refine ⟨(TxS_ok C2.2.1).2.2.2.2.2.2.2.2.2.2, ?_⟩
    rw [c107 C2.2.1 X2, isCm_t t2]
    refine ⟨(RrS_ok C2.2.2.2.1).2.2.2.2.2.2.2.2.2.2.2, ?_⟩
    have ef : faS T i n = if itF T isCm i1 n1 = 0 then (match suS T (i1 + 1) (n1 + 1) with
      | .inl f => .inl f
      | .inr (i2, n2, V2) => .inr (i2, n2, V1 ++ V2 ++ [(tk T i1).1 - 1])) else .inl (itF T isCm i1 n1) := by
      unfold faS
      rw [es]
      rfl
    refine c77 (d := d + 2) C2 R2 hE (Or.inl rfl) cm0 (fun _ it h3 F3 li C3 R3 => ?_) (fun f' nf' it _ h3 F3 C3 R3 => ?_)
    · rw [if_pos it] at ef
      refine ⟨(RrS_ok C3.2.2.2.1).2.2.2.2.2.2.2.2.2.2.2, ?_⟩
      have n60 := C3.2.2.2.2.2.1
      have cv : 1 ≤ (tk T i1).1 := by
        by_cases z : 1 ≤ (tk T i1).1
        · exact z
        · exfalso
          unfold itF at it
          rw [if_neg (by rw [show (tk T i1).1 = 0 by omega]; exact cm0)] at it
          exact (flt_lt X2 (kind := 0) (by decide)).2 it
      have pl1 : pL (tk T i1).1 = [(tk T i1).1 - 1] := by unfold pL; rw [if_neg (by omega)]
      have lO : (O ++ V1).length = O.length + V1.length := List.length_append
      refine c74 hE C3 R3 (by omega) (fun h4 r => ?_)
      obtain ⟨F4, r⟩ := r
      rcases r with ⟨i2, n2, V2, es2, C4, R4⟩ | ⟨f2, n2, O2, nf2, es2, C4, R4⟩
      · have s2 := suS_ok es2
        have n61 := C4.2.2.2.2.2.1
        refine ⟨(RrS_ok C4.2.2.2.1).2.2.2.2.2.2.2.2.2.2.2, ?_⟩
        refine em (d := d + 3) C4 R4 t2 (fun h5 O5 F5 C5 R5 e5 => ?_)
        rw [rV_s]
        have e5' := e5 (by rw [List.length_append, List.length_append]; omega)
        rw [pl1, List.append_assoc, List.append_assoc] at e5'
        subst e5'
        refine hY i2 n2 (V1 ++ V2 ++ [(tk T i1).1 - 1]) h5 ?_ (F2.tr (F3.tr (F4.tr F5))) C5 (by rw [List.append_assoc]; exact R5)
        rw [ef, es2]
      · refine ⟨(RrS_ok C4.2.2.2.1).2.2.2.2.2.2.2.2.2.2.2, ?_⟩
        refine em (d := d + 3) C4 R4 t2 (fun h5 O5 F5 C5 R5 _ => ?_)
        rw [rV_s]
        exact hN f2 _ O5 h5 nf2 (by rw [ef, es2]) (F2.tr (F3.tr (F4.tr F5))) C5 R5
    · have it' := it rfl
      rw [if_neg (by rw [it']; exact nf'), it'] at ef
      refine ⟨(RrS_ok C3.2.2.2.1).2.2.2.2.2.2.2.2.2.2.2, ?_⟩
      refine c74d hE C3 R3 nf' (fun h4 D => ?_)
      obtain ⟨F4, n4, O4, C4, R4⟩ := D
      refine ⟨(RrS_ok C4.2.2.2.1).2.2.2.2.2.2.2.2.2.2.2, ?_⟩
      refine em (d := d + 3) C4 R4 t2 (fun h5 O5 F5 C5 R5 _ => ?_)
      rw [rV_s]
      exact hN f' _ O5 h5 nf' ef (F2.tr (F3.tr (F4.tr F5))) C5 R5
  · have X2 := C2.2.2.1
    have t2 := (X2.2.2.2.2.2 _ X2.2.2.1).1
    have ef : faS T i n = .inl f1 := by
      unfold faS
      rw [es]
    simp only [RrS_ok C2.2.2.2.1, true_and]
    refine ⟨(TxS_ok C2.2.1).2.2.2.2.2.2.2.2.2.2, ?_⟩
    rw [c107 C2.2.1 X2, isCm_t t2]
    refine ⟨(RrS_ok C2.2.2.2.1).2.2.2.2.2.2.2.2.2.2.2, ?_⟩
    refine c77 (d := d + 2) C2 R2 hE (Or.inr rfl) cm0 (fun g => absurd g nf) (fun f' nf' _ ef' h3 F3 C3 R3 => ?_)
    have ef2 := ef' nf
    subst ef2
    refine ⟨(RrS_ok C3.2.2.2.1).2.2.2.2.2.2.2.2.2.2.2, ?_⟩
    refine c74d hE C3 R3 nf' (fun h4 D => ?_)
    obtain ⟨F4, n4, O4, C4, R4⟩ := D
    refine ⟨(RrS_ok C4.2.2.2.1).2.2.2.2.2.2.2.2.2.2.2, ?_⟩
    refine em (d := d + 3) C4 R4 t2 (fun h5 O5 F5 C5 R5 _ => ?_)
    rw [rV_s]
    exact hN _ _ O5 h5 nf' ef (F2.tr (F3.tr (F4.tr F5))) C5 R5
end Rr3
