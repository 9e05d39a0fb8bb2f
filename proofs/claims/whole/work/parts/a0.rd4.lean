/-! RULES read: tests -/
section Rr4
variable {T : List (Nat × Nat)}
theorem oE_bas {st W : List Nat} (hb : bas st) : oE st W = (st, W) := by
  rcases hb with g | ⟨s, g⟩ <;> subst g <;> rfl
theorem oE_or {st W : List Nat} (hb : bas st) : oE (3 :: st) W = (3 :: st, W) := rfl
theorem oE_and {st W : List Nat} (h : oE st W = (st, W)) (h2 : oE st (W ++ [315]) = (st, W ++ [315])) (nn : ∀ s, ¬ st = 2 :: s) : oE (2 :: st) W = (st, W ++ [315]) := by
  show pAnd (2 :: st) W = _
  show pAnd st (W ++ [315]) = _
  match st, nn with
  | [], _ => rfl
  | 0 :: s, _ => rfl
  | 1 :: s, _ => rfl
  | 2 :: s, nn => exact absurd rfl (nn s)
  | (x + 3) :: s, _ => rfl
theorem dpt_c {x : Nat} {st : List Nat} : dpt (x :: st) = (if x = 0 ∨ x = 1 then 1 else 0) + dpt st := rfl
theorem frn_c {x : Nat} {st : List Nat} : frn (x :: st) = (if x = 1 then 0 else 1) + frn st := rfl
theorem P73_of {dep m : Nat} (hE : (tk T (T.length - 1)).1 = 0) (hp : plc T) (hdm : dep + m = 10) (hin : ∀ m', m = m' + 1 → P73 T (dep + 1) m' ∧ P72 T (dep + 1) m') : P73 T dep m := by
  intro h K i n D st O hC hO hst hroom hD hK
  obtain ⟨d, rfl⟩ : ∃ d, D = d + 5 := ⟨D - 5, by omega⟩
  have R := hC.2.2.2.1
  have hX := hC.2.2.1
  have hi := hX.2.2.1
  have tb := (hX.2.2.2.2.2 i hi).1
  have n60 := hC.2.2.2.2.2.1
  have o9 := (TxS_ok hC.2.1).2.2.2.2.2.2.2.2.2.2
  rw [e73, b73_0]
  simp only [RrS_ok R, true_and]
  refine ⟨o9, ?_⟩
  rw [c107 hC.2.1 hX]
  have eqt : ∀ z : Int, 0 ≤ z → z < 1000 → (ii (((tk T i).1 : Int) - 1) = ii z ↔ ((tk T i).1 : Int) = z + 1) := fun z z0 z1 => by
    rw [ii_eq (by omega) (by omega) (by omega) (by omega)]
    omega
  have deep : ((tk T i).1 = 92 ∨ (tk T i).1 = 315) → ∀ l3, Go (d + 4) 73 50 [some (.ref 119), some (.int (ii dep)), some (.int (ii (((tk T i).1 : Int) - 1))), l3] [] h (rV K) := fun ht l3 => by
    have nxi := nx_in hE hi (by omega)
    have pl := hp i nxi.1
    rw [b73_50]
    by_cases cd : dep < 10
    rotate_left
    · rw [if_neg (by rw [show ii 10 = ii (10 : Int) from rfl, ii_lt (by omega) (by omega) (by omega) (by omega)]; omega)]
      simp only [RrS_ok R, true_and]
      refine ⟨o9, ?_⟩
      refine c112 (d := d + 3) (kind := 2) hC.2.1 hX (by decide) (fun h2 G X2 => ?_)
      rw [rV_s]
      have fl := flt_lt hX (kind := 2) (by decide)
      refine hK h2 (rrF.txG G) (Or.inr ⟨flt T i 2, n, O, fl.2, hC.tx G X2 fl.1, hO.tx G, rgR.st ?_⟩)
      show rgR T (rgN T i n O st) _
      unfold rgN
      rcases ht with g | g
      · rw [if_neg (by omega), if_pos g, if_pos (by omega)]; exact rgR.rf
      · rw [if_pos g, if_pos (by omega)]; exact rgR.rf
    rw [if_pos (by rw [show ii 10 = ii (10 : Int) from rfl, ii_lt (by omega) (by omega) (by omega) (by omega)]; omega)]
    simp only [RrS_ok R, true_and]
    refine ⟨o9, ?_⟩
    refine c108 (d := d + 3) hC.2.1 hX (fun h1 G X1 => ?_)
    rw [nxi.2] at X1
    have C1 := hC.tx G X1 (by decide)
    have R1 := hO.tx G
    have ed : ii (dep : Int) + ii 1 = ii ((dep + 1 : Nat) : Int) := by rw [ii_add]; rfl
    obtain ⟨m', em'⟩ : ∃ m', m = m' + 1 := ⟨m - 1, by omega⟩
    obtain ⟨i73, i72⟩ := hin m' em'
    have o61 := (RrS_ok C1.2.2.2.1).2.2.2.2.2.2.2.2.2.2.2
    rcases ht with g | g
    · -- a bracket
      rw [if_pos (fun q => by have := (eqt 314 (by decide) (by decide)).mp q; omega)]
      refine ⟨o61, ?_⟩
      rw [ed]
      have sp : rgR T (.inl (i, n, O, st, true)) (.inl (i + 1, n, O, 1 :: st, true)) := rgR.st (by
        show rgR T (rgN T i n O st) _
        unfold rgN
        rw [if_neg (by omega), if_pos g, if_neg (by omega)]
        exact rgR.rf)
      have f1 : frn (1 :: st) = frn st := by rw [frn_c, if_pos rfl, Nat.zero_add]
      have d1 : dpt (1 :: st) = dep + 1 := by rw [dpt_c, if_pos (Or.inr rfl), hst]; omega
      refine i72 (st := 1 :: st) C1 R1 d1 (Or.inr ⟨st, rfl⟩) (by rw [f1]; omega) (by omega) (fun h2 F2 r => ?_)
      rcases r with ⟨i2, n2, O2, C2, R2, li, bd, n1, n22, O1, st1, gg, eO⟩ | ⟨f2, n2, O2, nf, C2, R2, gg⟩
      · rw [f1] at bd
        have X2 := C2.2.2.1
        have ob : (orE st1 O1) = (1 :: st, O2) := by
          rcases eO with ⟨q1, q2⟩ | ⟨q1, q2⟩
          · rw [q1, q2]; rfl
          · rw [q1, q2]; rfl
        simp only [RrS_ok C2.2.2.2.1, true_and]
        refine ⟨(TxS_ok C2.2.1).2.2.2.2.2.2.2.2.2.2, ?_⟩
        refine c110 (d := d + 1) (t := 93) C2.2.1 X2 (by decide) (by decide) (fun gt h3 G3 X3 => ?_) (fun gt h3 G3 X3 => ?_)
        · have nx2 := nx_in hE X2.2.2.1 (by omega)
          have pl2 := hp i2 nx2.1
          rw [nx2.2] at X3
          rw [rV_s]
          refine hK h3 ((rrF.txG G).tr (F2.tr (rrF.txG G3))) (Or.inl ⟨i2 + 1, n2, O2, C2.tx G3 X3 (by decide), R2.tx G3, by omega, by omega, ?_⟩)
          refine (sp.tr gg).tr (rgR.st ?_)
          show rgR T (rgB T i2 n2 O1 st1) _
          unfold rgB
          rw [if_neg n1, if_neg n22, ob]
          show rgR T (if (tk T i2).1 = 94 then _ else _) _
          rw [if_pos (by omega)]
          exact rgR.rf
        · rw [rV_s]
          have fl := flt_lt X2 (kind := 0) (by decide)
          refine hK h3 ((rrF.txG G).tr (F2.tr (rrF.txG G3))) (Or.inr ⟨flt T i2 0, n2, O2, fl.2, C2.tx G3 X3 fl.1, R2.tx G3, ?_⟩)
          refine (sp.tr gg).tr (rgR.st ?_)
          show rgR T (rgB T i2 n2 O1 st1) _
          unfold rgB
          rw [if_neg n1, if_neg n22, ob]
          show rgR T (if (tk T i2).1 = 94 then _ else _) _
          rw [if_neg (by omega)]
          exact rgR.rf
      · simp only [RrS_ok C2.2.2.2.1, true_and]
        refine ⟨(TxS_ok C2.2.1).2.2.2.2.2.2.2.2.2.2, ?_⟩
        refine c110 (d := d + 1) (t := 93) C2.2.1 C2.2.2.1 C2.2.2.2.2.2.2 (by decide) (fun gt h3 G3 X3 => ?_) (fun gt h3 G3 X3 => ?_)
        · rw [hE] at gt; exact absurd gt (by decide)
        · rw [rV_s]
          have eb : blm T (T.length - 1) f2 0 = f2 := by unfold blm; rw [if_neg nf]
          rw [eb] at X3
          exact hK h3 ((rrF.txG G).tr (F2.tr (rrF.txG G3))) (Or.inr ⟨f2, n2, O2, nf, C2.tx G3 X3 C2.2.2.2.2.2.2, R2.tx G3, sp.tr gg⟩)
    · -- a not
      rw [if_neg (fun q => q ((eqt 314 (by decide) (by decide)).mpr (by omega)))]
      refine ⟨o61, ?_⟩
      rw [ed]
      have sp : rgR T (.inl (i, n, O, st, true)) (.inl (i + 1, n, O, 0 :: st, true)) := rgR.st (by
        show rgR T (rgN T i n O st) _
        unfold rgN
        rw [if_pos g, if_neg (by omega)]
        exact rgR.rf)
      have f1 : frn (0 :: st) = 1 + frn st := by rw [frn_c, if_neg (by decide)]
      have d1 : dpt (0 :: st) = dep + 1 := by rw [dpt_c, if_pos (Or.inl rfl), hst]; omega
      have pl3 := pl.2 g
      refine i73 (st := 0 :: st) C1 R1 d1 (by rw [f1]; omega) (by omega) (fun h2 F2 r => ?_)
      rcases r with ⟨i2, n2, O2, C2, R2, li, bd, gg⟩ | ⟨f2, n2, O2, nf, C2, R2, gg⟩
      · rw [f1] at bd
        have n61 := C2.2.2.2.2.2.1
        have p4 := (C2.2.2.1.2.2.2.2.2 i2 C2.2.2.1.2.2.1).2
        refine ⟨(RrS_ok C2.2.2.2.1).2.2.2.2.2.2.2.2.2.2.2, ?_⟩
        refine c78 (d := d + 3) (t := 314) C2 R2 (by decide) (fun h3 F3 C3 R3 _ => ?_)
        rw [rV_s]
        have lO : (O2 ++ [314]).length = O2.length + 1 := List.length_append
        refine hK h3 ((rrF.txG G).tr (F2.tr F3)) (Or.inl ⟨i2, n2, O2 ++ [314], C3, R3 (by omega), by omega, by omega, ?_⟩)
        exact sp.tr gg
      · refine ⟨(RrS_ok C2.2.2.2.1).2.2.2.2.2.2.2.2.2.2.2, ?_⟩
        refine c78 (d := d + 3) (t := 314) C2 R2 (by decide) (fun h3 F3 C3 R3 R4 => ?_)
        rw [rV_s]
        by_cases cl : O2.length < 400
        · exact hK h3 ((rrF.txG G).tr (F2.tr F3)) (Or.inr ⟨f2, n2, _, nf, C3, R3 cl, sp.tr gg⟩)
        · exact hK h3 ((rrF.txG G).tr (F2.tr F3)) (Or.inr ⟨f2, n2, _, nf, C3, R4 cl, sp.tr gg⟩)
  by_cases c1 : (tk T i).1 = 315
  · rw [if_pos ((eqt 314 (by decide) (by decide)).mpr (by omega))]
    exact deep (Or.inr c1) _
  rw [if_neg (fun q => by have := (eqt 314 (by decide) (by decide)).mp q; omega)]
  by_cases c2 : (tk T i).1 = 92
  · rw [if_pos ((eqt 91 (by decide) (by decide)).mpr (by omega))]
    exact deep (Or.inl c2) _
  rw [if_neg (fun q => by have := (eqt 91 (by decide) (by decide)).mp q; omega)]
  refine ⟨(RrS_ok R).2.2.2.2.2.2.2.2.2.2.2, ?_⟩
  have sg : rgT T (.inl (i, n, O, st, true)) = (match faS T i n with
    | .inl f => .inr (.inl f)
    | .inr (i', n', V) => .inl (oG i' n' st (O ++ V))) := by
    show rgN T i n O st = _
    unfold rgN
    rw [if_neg c1, if_neg c2]
    rfl
  refine fact73 (l1 := none) (l2 := none) (l3 := none) hE hC hO (by omega) (fun i' n' V h1 ef F1 C1 R1 => ?_) (fun f' n' O' h1 nf ef F1 C1 R1 => ?_)
  · have fo := faS_ok ef
    have X1 := C1.2.2.1
    have pl := plc_le hp (i := i) i' (by omega) X1.2.2.1
    have lO : (O ++ V).length = O.length + V.length := List.length_append
    refine hK h1 F1 (Or.inl ⟨i', n', O ++ V, C1, R1, fo.1, by omega, rgR.st ?_⟩)
    rw [sg, ef]
    exact rgR.rf
  · refine hK h1 F1 (Or.inr ⟨f', n', O', nf, C1, R1, rgR.st ?_⟩)
    rw [sg, ef]
    exact rgR.rf
theorem dead72 {d n f : Nat} {h : mHeap} {O : List Nat} {K : mHeap → Prop} (hE : (tk T (T.length - 1)).1 = 0) (hC : RrC h T (T.length - 1) n f) (hO : RrO h O) {x1 x3 : Int32} {b : Bool} (hK : ∀ h1 O', rrF h h1 → RrC h1 T (T.length - 1) n f → RrO h1 O' → K h1) : Go (d + 2) 72 9 [some (.ref 119), some (.int x1), some (.int (if b = true then ii 1 else ii 0)), some (.int x3)] [] h (rV K) := by
  have fin : Go (d + 2) 72 81 [some (.ref 119), some (.int x1), some (.int (if b = true then ii 1 else ii 0)), some (.int x3)] [] h (rV K) := by
    rw [b72_81]
    cases b with
    | false =>
      rw [if_pos (by decide), rV_s]
      exact hK h O rrF.rf hC hO
    | true =>
      rw [if_neg (by decide)]
      refine ⟨(RrS_ok hC.2.2.2.1).2.2.2.2.2.2.2.2.2.2.2, ?_⟩
      refine c78 (d := d + 1) (t := 316) hC hO (by decide) (fun h1 F1 C1 R1 R2 => ?_)
      rw [rV_s]
      by_cases cl : O.length < 400
      · exact hK h1 _ F1 C1 (R1 cl)
      · exact hK h1 _ F1 C1 (R2 cl)
  have o9 := (TxS_ok hC.2.1).2.2.2.2.2.2.2.2.2.2
  rw [b72_9]
  by_cases c : ii 400 ≤ x3
  · rw [if_pos c]; exact fin
  rw [if_neg c]
  simp only [RrS_ok hC.2.2.2.1, true_and]
  refine ⟨o9, ?_⟩
  refine c109 (t := 315) hC.2.1 hC.2.2.1 (by decide) (fun g => by rw [hE] at g; exact absurd g (by decide)) (fun _ => ?_)
  rw [if_pos rfl]
  simp only [RrS_ok hC.2.2.2.1, true_and]
  refine ⟨o9, ?_⟩
  refine c109 (t := 316) hC.2.1 hC.2.2.1 (by decide) (fun g => by rw [hE] at g; exact absurd g (by decide)) (fun _ => ?_)
  rw [if_pos rfl]
  exact fin
theorem P72_of {dep m : Nat} (hE : (tk T (T.length - 1)).1 = 0) (hp : plc T) (hdm : dep + m = 10) (h73 : P73 T dep m) : P72 T dep m := by
  intro h K i n D st O hC hO hst hb hroom hD hK
  obtain ⟨d, rfl⟩ : ∃ d, D = d + 4 := ⟨D - 4, by omega⟩
  have o6 := (RrS_ok hC.2.2.2.1).2.2.2.2.2.2.2.2.2.2.2
  rw [e72, b72_0]
  refine ⟨o6, ?_⟩
  have nb2 : ∀ s, ¬ st = 2 :: s := fun s g => by
    rcases hb with q | ⟨s2, q⟩ <;> rw [q] at g <;> cases g
  have lp : ∀ mm h' i' n' O1 (b : Bool) x3, i' + mm = T.length → rrF h h' → RrC h' T i' n' 0 → RrO h' O1 → i < i' → x3 + i + 1 ≤ i' → 3 * (O1.length + frn st + (if b = true then 1 else 0)) + 9 ≤ 6 * n' + (tk T i').2 → rgR T (.inl (i, n, O, st, true)) (.inl (i', n', O1, (if b = true then 3 :: st else st), false)) → Go (d + 3) 72 9 [some (.ref 119), some (.int (ii dep)), some (.int (if b = true then ii 1 else ii 0)), some (.int (ii (x3 : Nat)))] [] h' (rV K) := by
    intro mm
    induction mm using Nat.strongRecOn with
    | ind mm ih =>
      intro h' i' n' O1 b x3 hmm F C R hi hx bd g
      have X := C.2.2.1
      have hi' := X.2.2.1
      have hTl := X.2.2.2.1
      have n60 := C.2.2.2.2.2.1
      have p4 := (X.2.2.2.2.2 i' hi').2
      have o9 := (TxS_ok C.2.1).2.2.2.2.2.2.2.2.2.2
      have o61 := (RrS_ok C.2.2.2.1).2.2.2.2.2.2.2.2.2.2.2
      have ex : ii (x3 : Int) + ii 1 = ii ((x3 + 1 : Nat) : Int) := by rw [ii_add]; rfl
      have db : dpt (if b = true then 3 :: st else st) = dep := by
        cases b with
        | false => exact hst
        | true => rw [if_pos rfl, dpt_c, if_neg (by decide), Nat.zero_add]; exact hst
      have fb : frn (if b = true then 3 :: st else st) = frn st + (if b = true then 1 else 0) := by
        cases b with
        | false => rfl
        | true => rw [if_pos rfl, if_pos rfl, frn_c, if_neg (by decide)]; omega
      rw [b72_9]
      rw [if_neg (by rw [show ii 400 = ii ((400 : Nat) : Int) from rfl, ii_le (by omega) (by omega) (by omega) (by omega)]; omega)]
      simp only [RrS_ok C.2.2.2.1, true_and]
      refine ⟨o9, ?_⟩
      refine c109 (t := 315) C.2.1 X (by decide) (fun gt h1 G X1 => ?_) (fun g1 => ?_)
      · -- and
        rw [if_neg (by decide)]
        have nxi := nx_in hE hi' (by omega)
        rw [nxi.2] at X1
        have pl := hp i' nxi.1
        have C2 := C.tx G X1 (by decide)
        have R2 := R.tx G
        have F2 := F.tr (rrF.txG G)
        refine ⟨(RrS_ok C2.2.2.2.1).2.2.2.2.2.2.2.2.2.2.2, ?_⟩
        have sp : rgR T (.inl (i, n, O, st, true)) (.inl (i' + 1, n', O1, 2 :: (if b = true then 3 :: st else st), true)) := g.tr (rgR.st (by
          show rgR T (rgB T i' n' O1 _) _
          unfold rgB
          rw [if_pos (by omega)]
          exact rgR.rf))
        have fr2 : frn (2 :: (if b = true then 3 :: st else st)) = 1 + (frn st + (if b = true then 1 else 0)) := by rw [frn_c, if_neg (by decide), fb]
        refine h73 (st := 2 :: (if b = true then 3 :: st else st)) C2 R2 (by rw [dpt_c, if_neg (by decide), Nat.zero_add]; exact db) (by rw [fr2]; omega) (by omega) (fun h2 F3 r => ?_)
        rcases r with ⟨i2, n2, O2, C3, R3, li, bd2, gg⟩ | ⟨f2, n2, O2, nf, C3, R3, gg⟩
        · rw [fr2] at bd2
          have n61 := C3.2.2.2.2.2.1
          have p5 := (C3.2.2.1.2.2.2.2.2 i2 C3.2.2.1.2.2.1).2
          refine ⟨(RrS_ok C3.2.2.2.1).2.2.2.2.2.2.2.2.2.2.2, ?_⟩
          refine c78 (d := d + 2) (t := 315) C3 R3 (by decide) (fun h3 F4 C4 R4 _ => ?_)
          rw [b72_75, ex]
          have lO : (O2 ++ [315]).length = O2.length + 1 := List.length_append
          refine ih (T.length - i2) (by omega) h3 i2 n2 (O2 ++ [315]) b (x3 + 1) (by have := C3.2.2.1.2.2.1; omega) (F2.tr (F3.tr F4)) C4 (R4 (by omega)) (by omega) (by omega) (by omega) ?_
          refine sp.tr ?_
          have eo : oG i2 n2 (2 :: (if b = true then 3 :: st else st)) O2 = (i2, n2, O2 ++ [315], (if b = true then 3 :: st else st), false) := by
            unfold oG
            have : oE (2 :: (if b = true then 3 :: st else st)) O2 = ((if b = true then 3 :: st else st), O2 ++ [315]) := by
              cases b with
              | false => exact oE_and (oE_bas hb) (oE_bas hb) nb2
              | true => exact oE_and (oE_or hb) (oE_or hb) (fun s q => by cases q)
            rw [this]
          rw [eo] at gg
          exact gg
        · refine ⟨(RrS_ok C3.2.2.2.1).2.2.2.2.2.2.2.2.2.2.2, ?_⟩
          refine c78 (d := d + 2) (t := 315) C3 R3 (by decide) (fun h3 F4 C4 R4 R5 => ?_)
          rw [b72_75]
          by_cases cl : O2.length < 400
          · refine dead72 (d := d + 1) hE C4 (R4 cl) (fun h5 O5 F5 C5 R6 => hK h5 (F2.tr (F3.tr (F4.tr F5))) (Or.inr ⟨f2, n2, O5, nf, C5, R6, sp.tr gg⟩))
          · refine dead72 (d := d + 1) hE C4 (R5 cl) (fun h5 O5 F5 C5 R6 => hK h5 (F2.tr (F3.tr (F4.tr F5))) (Or.inr ⟨f2, n2, O5, nf, C5, R6, sp.tr gg⟩))
      rw [if_pos rfl]
      simp only [RrS_ok C.2.2.2.1, true_and]
      refine ⟨o9, ?_⟩
      refine c109 (t := 316) C.2.1 X (by decide) (fun gt h1 G X1 => ?_) (fun g2 => ?_)
      · -- or
        rw [if_neg (by decide)]
        have nxi := nx_in hE hi' (by omega)
        rw [nxi.2] at X1
        have pl := hp i' nxi.1
        have C2 := C.tx G X1 (by decide)
        have R2 := R.tx G
        have F2 := F.tr (rrF.txG G)
        have go : ∀ h2 O2, rrF h h2 → RrC h2 T (i' + 1) n' 0 → RrO h2 O2 → 3 * (O2.length + frn st) + 9 ≤ 6 * n' + (tk T i').2 → rgR T (.inl (i, n, O, st, true)) (.inl (i' + 1, n', O2, 3 :: st, true)) → ∀ l2, Go (d + 3) 72 68 [some (.ref 119), some (.int (ii dep)), l2, some (.int (ii (x3 : Nat)))] [] h2 (rV K) := fun h2 O2 F3 C3 R3 bd3 sp l2 => by
          rw [b72_68]
          refine ⟨(RrS_ok C3.2.2.2.1).2.2.2.2.2.2.2.2.2.2.2, ?_⟩
          have fr3 : frn (3 :: st) = 1 + frn st := by rw [frn_c, if_neg (by decide)]
          refine h73 (st := 3 :: st) C3 R3 (by rw [dpt_c, if_neg (by decide), Nat.zero_add]; exact hst) (by rw [fr3]; omega) (by omega) (fun h4 F4 r => ?_)
          rw [b72_75, ex]
          rcases r with ⟨i2, n2, O4, C4, R4, li, bd2, gg⟩ | ⟨f2, n2, O4, nf, C4, R4, gg⟩
          · rw [fr3] at bd2
            refine ih (T.length - i2) (by omega) h4 i2 n2 O4 true (x3 + 1) (by have := C4.2.2.1.2.2.1; omega) (F3.tr F4) C4 R4 (by omega) (by omega) (by rw [if_pos rfl]; omega) ?_
            exact sp.tr gg
          · exact dead72 (d := d + 1) (b := true) hE C4 R4 (fun h5 O5 F5 C5 R6 => hK h5 (F3.tr (F4.tr F5)) (Or.inr ⟨f2, n2, O5, nf, C5, R6, sp.tr gg⟩))
        cases b with
        | false =>
          rw [if_pos (by decide)]
          refine go h1 O1 F2 C2 R2 (by rw [if_neg (by decide)] at bd; omega) (g.tr (rgR.st ?_)) _
          show rgR T (rgB T i' n' O1 st) _
          unfold rgB
          rw [if_neg (by omega), if_pos (by omega)]
          have : orE st O1 = (st, O1) := by
            rcases hb with q | ⟨s, q⟩ <;> subst q <;> rfl
          rw [this]
          exact rgR.rf
        | true =>
          rw [if_neg (by decide)]
          rw [if_pos rfl] at bd
          refine ⟨(RrS_ok C2.2.2.2.1).2.2.2.2.2.2.2.2.2.2.2, ?_⟩
          refine c78 (d := d + 2) (t := 316) C2 R2 (by decide) (fun h2 F3 C3 R3 _ => ?_)
          have lO : (O1 ++ [316]).length = O1.length + 1 := List.length_append
          refine go h2 (O1 ++ [316]) (F2.tr F3) C3 (R3 (by omega)) (by omega) (g.tr (rgR.st ?_)) _
          show rgR T (rgB T i' n' O1 (3 :: st)) _
          unfold rgB
          rw [if_neg (by omega), if_pos (by omega)]
          exact rgR.rf
      · rw [if_pos rfl]
        rw [b72_81]
        cases b with
        | false =>
          rw [if_neg (by decide)] at bd
          rw [if_pos (by decide), rV_s]
          exact hK h' F (Or.inl ⟨i', n', O1, C, R, hi, by omega, by omega, by omega, O1, st, g, Or.inl ⟨rfl, rfl⟩⟩)
        | true =>
          rw [if_pos rfl] at bd
          rw [if_neg (by decide)]
          refine ⟨o61, ?_⟩
          refine c78 (d := d + 2) (t := 316) C R (by decide) (fun h3 F4 C4 R4 _ => ?_)
          rw [rV_s]
          have lO : (O1 ++ [316]).length = O1.length + 1 := List.length_append
          exact hK h3 (F.tr F4) (Or.inl ⟨i', n', O1 ++ [316], C4, R4 (by omega), hi, by omega, by omega, by omega, O1, 3 :: st, g, Or.inr ⟨rfl, rfl⟩⟩)
  refine h73 hC hO hst hroom (by omega) (fun h1 F1 r => ?_)
  rcases r with ⟨i2, n2, O2, C2, R2, li, bd, gg⟩ | ⟨f2, n2, O2, nf, C2, R2, gg⟩
  · refine lp (T.length - i2) h1 i2 n2 O2 false 0 (by have := C2.2.2.1.2.2.1; omega) F1 C2 R2 li (by omega) (by rw [if_neg (by decide)]; omega) ?_
    have eo : oG i2 n2 st O2 = (i2, n2, O2, st, false) := by
      unfold oG
      rw [oE_bas hb]
    rw [eo] at gg
    exact gg
  · exact dead72 (d := d + 1) (b := false) hE C2 R2 (fun h5 O5 F5 C5 R6 => hK h5 (F1.tr F5) (Or.inr ⟨f2, n2, O5, nf, C5, R6, gg⟩))
theorem readTests (hE : (tk T (T.length - 1)).1 = 0) (hp : plc T) : ∀ m dep, dep + m = 10 → P73 T dep m ∧ P72 T dep m := by
  intro m
  induction m with
  | zero =>
    intro dep h
    have a := @P73_of T dep 0 hE hp h (fun m' q => by omega)
    exact ⟨@a, @P72_of T dep 0 hE hp h @a⟩
  | succ m ih =>
    intro dep h
    have ih1 := ih (dep + 1) (by omega)
    have a := @P73_of T dep (m + 1) hE hp h (fun m' q => by
      have e : m' = m := by omega
      subst e
      exact ih1)
    exact ⟨@a, @P72_of T dep (m + 1) hE hp h @a⟩
end Rr4
