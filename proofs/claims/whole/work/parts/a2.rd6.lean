/-! RULES read: a clause, and all of them -/
def rgP (W : List Nat) (x : Rg ⊕ Nat ⊕ (Nat × Nat × List Nat)) : Prop := match x with
  | .inl (_, _, W', _, _) => ∃ S, W' = W ++ S
  | .inr (.inl _) => True
  | .inr (.inr (_, _, W')) => ∃ S, W' = W ++ S
section Rr6
variable {T : List (Nat × Nat)}
theorem pNot_p : ∀ (st W : List Nat), ∃ S, (pNot st W).2 = W ++ S
  | [], W => ⟨[], by simp [pNot]⟩
  | 0 :: st, W => by
    obtain ⟨S, e⟩ := pNot_p st (W ++ [314])
    exact ⟨[314] ++ S, by show (pNot st (W ++ [314])).2 = _; rw [e, List.append_assoc]⟩
  | (x + 1) :: st, W => ⟨[], by simp [pNot]⟩
theorem pAnd_p : ∀ (st W : List Nat), ∃ S, (pAnd st W).2 = W ++ S
  | [], W => ⟨[], by simp [pAnd]⟩
  | 0 :: st, W => ⟨[], by simp [pAnd]⟩
  | 1 :: st, W => ⟨[], by simp [pAnd]⟩
  | 2 :: st, W => by
    obtain ⟨S, e⟩ := pAnd_p st (W ++ [315])
    exact ⟨[315] ++ S, by show (pAnd st (W ++ [315])).2 = _; rw [e, List.append_assoc]⟩
  | (x + 3) :: st, W => ⟨[], by simp [pAnd]⟩
theorem oE_p (st W : List Nat) : ∃ S, (oE st W).2 = W ++ S := by
  obtain ⟨S, e⟩ := pNot_p st W
  obtain ⟨S2, e2⟩ := pAnd_p (pNot st W).1 (pNot st W).2
  refine ⟨S ++ S2, ?_⟩
  show (pAnd (pNot st W).1 (pNot st W).2).2 = _
  rw [e2, e, List.append_assoc]
theorem orE_p (st W : List Nat) : ∃ S, (orE st W).2 = W ++ S := by
  match st with
  | [] => exact ⟨[], by simp [orE]⟩
  | 0 :: s => exact ⟨[], by simp [orE]⟩
  | 1 :: s => exact ⟨[], by simp [orE]⟩
  | 2 :: s => exact ⟨[], by simp [orE]⟩
  | 3 :: s => exact ⟨[316], rfl⟩
  | (x + 4) :: s => exact ⟨[], by simp [orE]⟩
theorem rgP_st {W : List Nat} {x : Rg ⊕ Nat ⊕ (Nat × Nat × List Nat)} (h : rgP W x) : rgP W (rgT T x) := by
  match x, h with
  | .inl (i, n, W', st, true), ⟨S, e⟩ =>
    subst e
    show rgP W (rgN T i n (W ++ S) st)
    unfold rgN
    split
    · split
      · trivial
      · exact ⟨S, rfl⟩
    split
    · split
      · trivial
      · exact ⟨S, rfl⟩
    cases faS T i n with
    | inl f => trivial
    | inr r =>
      obtain ⟨i', n', V⟩ := r
      obtain ⟨S2, e2⟩ := oE_p st (W ++ S ++ V)
      exact ⟨S ++ (V ++ S2), by show (oE st (W ++ S ++ V)).2 = _; rw [e2]; simp only [List.append_assoc]⟩
  | .inl (i, n, W', st, false), ⟨S, e⟩ =>
    subst e
    show rgP W (rgB T i n (W ++ S) st)
    obtain ⟨S2, e2⟩ := orE_p st (W ++ S)
    unfold rgB
    split
    · exact ⟨S, rfl⟩
    split
    · exact ⟨S ++ S2, by rw [e2, List.append_assoc]⟩
    generalize orE st (W ++ S) = p at *
    obtain ⟨p1, p2⟩ := p
    have e2' : p2 = W ++ S ++ S2 := e2
    subst e2'
    match p1 with
    | [] => exact ⟨S ++ S2, by rw [List.append_assoc]⟩
    | 0 :: s => exact ⟨S ++ S2, by rw [List.append_assoc]⟩
    | 1 :: s =>
      show rgP W (if (tk T i).1 = 94 then _ else _)
      split
      · obtain ⟨S3, e3⟩ := oE_p s (W ++ S ++ S2)
        exact ⟨S ++ (S2 ++ S3), by show (oE s (W ++ S ++ S2)).2 = _; rw [e3]; simp only [List.append_assoc]⟩
      · trivial
    | (x + 2) :: s => exact ⟨S ++ S2, by rw [List.append_assoc]⟩
  | .inr r, h => exact h
theorem rgP_r {W : List Nat} {x y : Rg ⊕ Nat ⊕ (Nat × Nat × List Nat)} (h : rgP W x) (r : rgR T x y) : rgP W y := by
  obtain ⟨n, rfl⟩ := r
  induction n with
  | zero => exact h
  | succ n ih => rw [itr_s]; exact rgP_st ih
/-- readClause -/
theorem c71 {d i n : Nat} {h : mHeap} {C : Ru} {K : mHeap → Prop} (hE : (tk T (T.length - 1)).1 = 0) (hp : plc T) (hC : RrC h T i n 0) (hO : RrO h (flC C)) (hM : RrM h C) (hroom : 3 * (flC C).length ≤ 6 * n + (tk T i).2) (hY : ∀ i' n' V W h1, clO T i n C.length (flC C) (.inr (i', n', V, W)) → rqF h h1 → RrC h1 T i' n' 0 → RrO h1 (flC (C ++ [(V, W)])) → RrM h1 (C ++ [(V, W)]) → i < i' → 3 * (flC (C ++ [(V, W)])).length ≤ 6 * n' + (tk T i').2 → K h1) (hN : ∀ f' n' O' h1, ¬ f' = 0 → clO T i n C.length (flC C) (.inl f') → rqF h h1 → RrC h1 T (T.length - 1) n' f' → RrO h1 O' → K h1) : GoCv (d + 40) 71 [.ref 119] h K := by
  have R := hC.2.2.2.1
  have hX := hC.2.2.1
  have hi := hX.2.2.1
  have tb := (hX.2.2.2.2.2 i hi)
  have n60 := hC.2.2.2.2.2.1
  have o9 := (TxS_ok hC.2.1).2.2.2.2.2.2.2.2.2.2
  have c12 := hM.2.1
  rw [e71, b71_0]
  simp only [RrS_ok R, true_and]
  refine ⟨o9, ?_⟩
  rw [c107 hC.2.1 hX]
  by_cases ct : (tk T i).1 = 318
  rotate_left
  · rw [if_neg (by rw [show ii 317 = ii (317 : Int) from rfl, ii_eq (by omega) (by omega) (by omega) (by omega)]; omega)]
    simp only [RrS_ok R, true_and]
    refine ⟨o9, ?_⟩
    refine c112 (d := d + 38) (kind := 0) hC.2.1 hX (by decide) (fun h1 G X1 => ?_)
    rw [rV_s]
    have fl := flt_lt hX (kind := 0) (by decide)
    exact hN (flt T i 0) n _ h1 fl.2 (by unfold clO; rw [if_neg ct]) (rrF.txG G).q (hC.tx G X1 fl.1) (hO.tx G)
  rw [if_pos (by rw [ct]; rfl)]
  simp only [RrS_ok R, hM.1, true_and]
  by_cases cc : C.length = 12
  · rw [if_neg (by rw [show ii 12 = ii (12 : Int) from rfl, ii_lt (by omega) (by omega) (by omega) (by omega)]; omega)]
    refine ⟨o9, ?_⟩
    refine c112 (d := d + 38) (kind := 4) hC.2.1 hX (by decide) (fun h1 G X1 => ?_)
    rw [rV_s]
    have fl := flt_lt hX (kind := 4) (by decide)
    exact hN (flt T i 4) n _ h1 fl.2 (by unfold clO; rw [if_pos ct, if_pos cc]) (rrF.txG G).q (hC.tx G X1 fl.1) (hO.tx G)
  rw [if_pos (by rw [show ii 12 = ii (12 : Int) from rfl, ii_lt (by omega) (by omega) (by omega) (by omega)]; omega)]
  refine ⟨o9, ?_⟩
  refine c108 (d := d + 38) hC.2.1 hX (fun h1 G X1 => ?_)
  have nxi := nx_in hE hi (by omega)
  rw [nxi.2] at X1
  have C1 := hC.tx G X1 (by decide)
  have O1 := hO.tx G
  have M1 := hM.r (rrF.txG G)
  refine ⟨(RrS_ok C1.2.2.2.1).2.2.2.2.2.2.2.2.2.2.2, ?_⟩
  have clE : ∀ r, clO T i n C.length (flC C) r = (match suS T (i + 1) n with
    | .inl f => r = .inl f
    | .inr (i1, n1, V) => if (tk T i1).1 = 319 then (∃ q, rgR T (.inl (i1 + 1, n1, flC C ++ V, [], true)) (.inr q) ∧ (match q with
        | .inl f => r = .inl f
        | .inr (i2, n2, O2) => ∃ W, O2 = flC C ++ V ++ W ∧ r = .inr (i2, n2, V, W))) else r = .inr (i1, n1, V, [])) := fun r => by
    unfold clO
    rw [if_pos ct, if_neg cc]
    cases suS T (i + 1) n with
    | inl f => rfl
    | inr q => rfl
  have pl1 := hp i nxi.1
  refine c74 (d := d + 35) hE C1 O1 (by omega) (fun h2 r => ?_)
  obtain ⟨F2, r⟩ := r
  have F12 : rrF h h2 := (rrF.txG G).tr F2
  -- what is done with where the test begins
  have mark : ∀ {i2 n2 f2 : Nat} {O2 : List Nat}, RrC h2 T i2 n2 f2 → RrO h2 O2 → (okF h2 119 6 6 2 ∧ okF h2 119 6 4 0 ∧ okF h2 119 6 2 0 ∧ (64 ≤ (fR h2 119 6) ∧ okA h2 (fR h2 119 6) .int (fI h2 119 4))) ∧ Fr 122 1 h2 (sI h2 (fR h2 119 6) (fI h2 119 4) (fI h2 119 2)) ∧ xA (sI h2 (fR h2 119 6) (fI h2 119 4) (fI h2 119 2)) 122 = upf (xA h2 122) C.length (ii O2.length) := fun {i2 n2 f2 O2} C2 R2 => by
    have RS := C2.2.2.2.1
    have s4 : fI h2 119 4 = ii C.length := by rw [F12.2.2]; exact hM.1
    have r1 := row_ok RS.2.2.2 (show C.length < 12 by omega) (by omega)
    have := sI_row (b := 122) (v := ii (O2.length : Int)) RS.2.2.2 (show C.length < 12 by omega) (by omega)
    rw [if_pos rfl] at this
    simp only [RrS_ok RS, s4, R2.1, true_and]
    exact ⟨⟨by decide, r1.1⟩, Fr.sI, this⟩
  rcases r with ⟨i1, n1, V, es, C2, R2⟩ | ⟨f1, n1, O2, nf, es, C2, R2⟩
  · have so := suS_ok es
    have lO : (flC C ++ V).length = (flC C).length + V.length := List.length_append
    have X2 := C2.2.2.1
    have plx := plc_le hp (i := i) i1 (by omega) X2.2.2.1
    have mk := mark C2 R2
    refine ⟨mk.1.1, mk.1.2.1, mk.1.2.2.1, mk.1.2.2.2, ?_⟩
    have F3 := mk.2.1
    have x3 := mk.2.2
    generalize sI h2 (fR h2 119 6) (fI h2 119 4) (fI h2 119 2) = h3 at *
    have C3 := C2.fr F3 (by decide)
    have R3 := R2.fr F3 (by decide)
    have q3 : rqF h h3 := F12.q.tr ⟨F3.toT (fun a g1 g2 => by omega), fun j _ _ => same_fI (F3.2.2.2 65 (by omega)) j, by rw [same_xA (F3.2.2.2 121 (by omega))]⟩
    have s43 : fI h3 119 4 = ii C.length := by rw [same_fI (F3.2.2.2 119 (by omega)), F12.2.2]; exact hM.1
    have x121 : xA h3 121 = xA h 121 := by rw [same_xA (F3.2.2.2 121 (by omega)), same_xA (F12.1.2.2.2 121 (by omega))]
    have x122 : xA h3 122 = upf (xA h 122) C.length (ii (flC C ++ V).length) := by rw [x3, same_xA (F12.1.2.2.2 122 (by omega))]
    -- how a clause ends
    have fin : ∀ (i2 n2 : Nat) (W : List Nat) (h4 : mHeap), clO T i n C.length (flC C) (.inr (i2, n2, V, W)) → rrF h3 h4 → RrC h4 T i2 n2 0 → RrO h4 (flC C ++ V ++ W) → i < i2 → 3 * ((flC C).length + V.length + W.length) ≤ 6 * n2 + (tk T i2).2 → Go (d + 39) 71 82 [some (.ref 119)] [] h4 (rV K) := fun i2 n2 W h4 cl F4 C4 R4 li bd => by
      refine end71 (c := C.length) C4 R4 (by rw [F4.2.2]; exact s43) (by omega) (fun h5 F5 C5 R5 e4 y1 y2 => ?_)
      have fl : flC (C ++ [(V, W)]) = flC C ++ V ++ W := by rw [flC_app]; simp only [List.append_assoc]
      have ol := off_len C.length C rfl
      have lx : (C ++ [(V, W)]).length = C.length + 1 := List.length_append
      refine hY i2 n2 V W h5 cl (q3.tr (F4.q.tr F5)) C5 (by rw [fl]; exact R5) ⟨by rw [lx]; exact e4, by rw [lx]; omega, fun c hc => ?_, fun c hc => ?_⟩ li (by rw [fl, List.length_append, List.length_append]; exact bd)
      · rw [lx] at hc
        rw [y1, same_xA (F4.1.2.2.2 121 (by omega)), x121]
        unfold upf
        by_cases g : c = C.length + 1
        · rw [if_pos g, g, off_end, ol, List.length_append, List.length_append]
        · rw [if_neg g, off_app _ (by omega)]
          exact hM.2.2.1 c (by omega)
      · rw [lx] at hc
        rw [y2, same_xA (F4.1.2.2.2 122 (by omega)), x122]
        unfold upf
        by_cases g : c = C.length
        · rw [if_pos g, g, off_app _ (Nat.le_refl _), ol, ru_app, if_pos rfl, List.length_append]
        · rw [if_neg g, off_app _ (by omega), ru_app, if_neg g, if_pos (by omega)]
          exact hM.2.2.2 c (by omega)
    simp only [RrS_ok C3.2.2.2.1, true_and]
    refine ⟨(TxS_ok C3.2.1).2.2.2.2.2.2.2.2.2.2, ?_⟩
    refine c109 (d := d + 37) (t := 318) C3.2.1 C3.2.2.1 (by decide) (fun gt h4 G4 X4 => ?_) (fun gt => ?_)
    · -- if
      rw [if_neg (by decide)]
      have nx2 := nx_in hE X2.2.2.1 (by omega)
      rw [nx2.2] at X4
      have C4 := C3.tx G4 X4 (by decide)
      have R4 := R3.tx G4
      have pl2 := hp i1 nx2.1
      refine ⟨(RrS_ok C4.2.2.2.1).2.2.2.2.2.2.2.2.2.2.2, ?_⟩
      refine (readTests hE hp 10 0 (by decide)).2 (st := []) C4 R4 rfl (Or.inl rfl) (by show 3 * ((flC C ++ V).length + 0) ≤ _; omega) (by omega) (fun h5 F5 r => ?_)
      rcases r with ⟨i2, n2, O5, C5, R5, li, bd, m1, m2, O1', st1, gg, eO⟩ | ⟨f2, n2, O5, nf, C5, R5, gg⟩
      · have gl : rgR T (.inl (i1 + 1, n1, flC C ++ V, [], true)) (.inr (.inr (i2, n2, O5))) := gg.tr (rgR.st (by
          show rgR T (rgB T i2 n2 O1' st1) _
          unfold rgB
          rw [if_neg m1, if_neg m2]
          rcases eO with ⟨q1, q2⟩ | ⟨q1, q2⟩
          · rw [q1, q2]; exact rgR.rf
          · rw [q1, q2]; exact rgR.rf))
        obtain ⟨W, eW⟩ := rgP_r (W := flC C ++ V) (show rgP (flC C ++ V) (.inl (i1 + 1, n1, flC C ++ V, [], true)) from ⟨[], by rw [List.append_nil]⟩) gl
        have lW : O5.length = (flC C).length + V.length + W.length := by rw [eW, List.length_append, List.length_append]
        refine fin i2 n2 W h5 ?_ ((rrF.txG G4).tr F5) C5 (by rw [← eW]; exact R5) (by omega) (by have : frn [] = 0 := rfl; omega)
        rw [clE, es]
        show (if (tk T i1).1 = 319 then _ else _)
        rw [if_pos (by omega)]
        exact ⟨_, gl, W, eW, rfl⟩
      · refine end71 (c := C.length) C5 R5 (by rw [F5.2.2, (rrF.txG G4).2.2]; exact s43) (by omega) (fun h6 F6 C6 R6 _ _ _ => ?_)
        refine hN f2 n2 O5 h6 nf ?_ (q3.tr ((rrF.txG G4).q.tr (F5.q.tr F6))) C6 R6
        rw [clE, es]
        show (if (tk T i1).1 = 319 then _ else _)
        rw [if_pos (by omega)]
        exact ⟨_, gg, rfl⟩
    · rw [if_pos rfl]
      refine fin i1 n1 [] h3 ?_ rrF.rf C3 (by rw [List.append_nil]; exact R3) (by omega) (by have : ([] : List Nat).length = 0 := rfl; omega)
      rw [clE, es]
      show (if (tk T i1).1 = 319 then _ else _)
      rw [if_neg (by omega)]
  · have mk := mark C2 R2
    refine ⟨mk.1.1, mk.1.2.1, mk.1.2.2.1, mk.1.2.2.2, ?_⟩
    have F3 := mk.2.1
    generalize sI h2 (fR h2 119 6) (fI h2 119 4) (fI h2 119 2) = h3 at *
    have C3 := C2.fr F3 (by decide)
    have R3 := R2.fr F3 (by decide)
    have q3 : rqF h h3 := F12.q.tr ⟨F3.toT (fun a g1 g2 => by omega), fun j _ _ => same_fI (F3.2.2.2 65 (by omega)) j, by rw [same_xA (F3.2.2.2 121 (by omega))]⟩
    have s43 : fI h3 119 4 = ii C.length := by rw [same_fI (F3.2.2.2 119 (by omega)), F12.2.2]; exact hM.1
    simp only [RrS_ok C3.2.2.2.1, true_and]
    refine ⟨(TxS_ok C3.2.1).2.2.2.2.2.2.2.2.2.2, ?_⟩
    refine c109 (d := d + 37) (t := 318) C3.2.1 C3.2.2.1 (by decide) (fun gt h4 G4 X4 => ?_) (fun gt => ?_)
    · rw [hE] at gt; exact absurd gt (by decide)
    · rw [if_pos rfl]
      refine end71 (c := C.length) C3 R3 s43 (by omega) (fun h6 F6 C6 R6 _ _ _ => ?_)
      refine hN f1 n1 O2 h6 nf ?_ (q3.tr F6) C6 R6
      rw [clE, es]
end Rr6
