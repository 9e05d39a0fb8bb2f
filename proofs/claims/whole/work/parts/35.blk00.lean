set_option maxRecDepth 20000 in
theorem fc0 : mCodes[0]? = some mc0 := rfl
theorem b0_0 {d : Nat} {h : mHeap} {Q : Option Value → mHeap → Prop} {a0 : Nat} {a1 : Nat} {a2 : Nat} : Go d 0 0 [some (.ref a0), some (.ref a1), some (.ref a2), none] [] h Q ↔ 64 ≤ a0 ∧ (∃ h1 : mHeap, h1 = nO h 10 ∧ 64 ≤ h.length ∧ GoCv d 115 [.ref h.length] h1 (fun h2 => okP h2 a0 0 2 ∧ okN (ii 5) ∧ (∃ h3 : mHeap, h3 = nR (sF h2 a0 2 (.ref h.length)) 10 (ii 5) ∧ okP h3 a0 0 3 ∧ okN (ii 4) ∧ (∃ h4 : mHeap, h4 = nA (sF h3 a0 3 (.ref ((sF h2 a0 2 (.ref h.length)).length))) .int (ii 4) ∧ okP h4 a0 0 4 ∧ okN (ii 4) ∧ (∃ h5 : mHeap, h5 = nA (sF h4 a0 4 (.ref ((sF h3 a0 3 (.ref ((sF h2 a0 2 (.ref h.length)).length))).length))) .int (ii 4) ∧ okP h5 a0 0 5 ∧ okN (ii 4096) ∧ (∃ h6 : mHeap, h6 = nA (sF h5 a0 5 (.ref ((sF h4 a0 4 (.ref ((sF h3 a0 3 (.ref ((sF h2 a0 2 (.ref h.length)).length))).length))).length))) .int (ii 4096) ∧ okP h6 a0 0 7 ∧ okP (sF h6 a0 7 (.ref ((sF h5 a0 5 (.ref ((sF h4 a0 4 (.ref ((sF h3 a0 3 (.ref ((sF h2 a0 2 (.ref h.length)).length))).length))).length))).length))) a0 0 0 ∧ okP (sF (sF h6 a0 7 (.ref ((sF h5 a0 5 (.ref ((sF h4 a0 4 (.ref ((sF h3 a0 3 (.ref ((sF h2 a0 2 (.ref h.length)).length))).length))).length))).length))) a0 0 (.ref a1)) a0 0 1 ∧ Go d 0 58 [some (.ref a0), some (.ref a1), some (.ref a2), some (.int (ii 0))] [] (sF (sF (sF h6 a0 7 (.ref ((sF h5 a0 5 (.ref ((sF h4 a0 4 (.ref ((sF h3 a0 3 (.ref ((sF h2 a0 2 (.ref h.length)).length))).length))).length))).length))) a0 0 (.ref a1)) a0 1 (.ref a2)) Q)))))) := by
  refine (G_aload rfl (mF fc0 (by rfl))).trans ?_
  refine (G_objinit (Nat.le_of_ble_eq_true rfl) (mF fc0 (by rfl))).trans (andR ?_)
  refine (G_aload rfl (mF fc0 (by rfl))).trans ?_
  refine (G_new (mF fc0 (by rfl))).trans ?_
  refine (exN (A := fun x => Go d 0 8 [some (.ref a0), some (.ref a1), some (.ref a2), none] [.ref h.length, .ref a0] x Q) (e := nO h 10) fun h1 => ?_)
  refine (G_dupr (mF fc0 (by rfl))).trans ?_
  refine (G_Nv (q := 59041) (y := 115) (a := h.length) rfl rfl rfl rfl (as := [.ref h.length]) (rest := [.ref h.length, .ref a0]) rfl rfl (mF fc0 (by rfl))).trans (andR (GoCv_congr fun h2 => ?_))
  refine (G_putT (c := 0) (k := 2) rfl rfl rfl (mF fc0 (by rfl))).trans (andR ?_)
  refine (G_aload rfl (mF fc0 (by rfl))).trans ?_
  refine (G_iconst (mF fc0 (by rfl))).trans ?_
  refine (G_anewarray rfl (mF fc0 (by rfl))).trans (andR ?_)
  refine (exN (A := fun x => Go d 0 20 [some (.ref a0), some (.ref a1), some (.ref a2), none] [.ref ((sF h2 a0 2 (.ref h.length)).length), .ref a0] x Q) (e := nR (sF h2 a0 2 (.ref h.length)) 10 (ii 5)) fun h3 => ?_)
  refine (G_putT (c := 0) (k := 3) rfl rfl rfl (mF fc0 (by rfl))).trans (andR ?_)
  refine (G_aload rfl (mF fc0 (by rfl))).trans ?_
  refine (G_iconst (mF fc0 (by rfl))).trans ?_
  refine (G_newarrayI (mF fc0 (by rfl))).trans (andR ?_)
  refine (exN (A := fun x => Go d 0 27 [some (.ref a0), some (.ref a1), some (.ref a2), none] [.ref ((sF h3 a0 3 (.ref ((sF h2 a0 2 (.ref h.length)).length))).length), .ref a0] x Q) (e := nA (sF h3 a0 3 (.ref ((sF h2 a0 2 (.ref h.length)).length))) .int (ii 4)) fun h4 => ?_)
  refine (G_putT (c := 0) (k := 4) rfl rfl rfl (mF fc0 (by rfl))).trans (andR ?_)
  refine (G_aload rfl (mF fc0 (by rfl))).trans ?_
  refine (G_iconst (mF fc0 (by rfl))).trans ?_
  refine (G_newarrayI (mF fc0 (by rfl))).trans (andR ?_)
  refine (exN (A := fun x => Go d 0 34 [some (.ref a0), some (.ref a1), some (.ref a2), none] [.ref ((sF h4 a0 4 (.ref ((sF h3 a0 3 (.ref ((sF h2 a0 2 (.ref h.length)).length))).length))).length), .ref a0] x Q) (e := nA (sF h4 a0 4 (.ref ((sF h3 a0 3 (.ref ((sF h2 a0 2 (.ref h.length)).length))).length))) .int (ii 4)) fun h5 => ?_)
  refine (G_putT (c := 0) (k := 5) rfl rfl rfl (mF fc0 (by rfl))).trans (andR ?_)
  refine (G_aload rfl (mF fc0 (by rfl))).trans ?_
  refine (G_iconst (mF fc0 (by rfl))).trans ?_
  refine (G_newarrayI (mF fc0 (by rfl))).trans (andR ?_)
  refine (exN (A := fun x => Go d 0 43 [some (.ref a0), some (.ref a1), some (.ref a2), none] [.ref ((sF h5 a0 5 (.ref ((sF h4 a0 4 (.ref ((sF h3 a0 3 (.ref ((sF h2 a0 2 (.ref h.length)).length))).length))).length))).length), .ref a0] x Q) (e := nA (sF h5 a0 5 (.ref ((sF h4 a0 4 (.ref ((sF h3 a0 3 (.ref ((sF h2 a0 2 (.ref h.length)).length))).length))).length))) .int (ii 4096)) fun h6 => ?_)
  refine (G_putT (c := 0) (k := 7) rfl rfl rfl (mF fc0 (by rfl))).trans (andR ?_)
  refine (G_aload rfl (mF fc0 (by rfl))).trans ?_
  refine (G_aload rfl (mF fc0 (by rfl))).trans ?_
  refine (G_putT (c := 0) (k := 0) rfl rfl rfl (mF fc0 (by rfl))).trans (andR ?_)
  refine (G_aload rfl (mF fc0 (by rfl))).trans ?_
  refine (G_aload rfl (mF fc0 (by rfl))).trans ?_
  refine (G_putT (c := 0) (k := 1) rfl rfl rfl (mF fc0 (by rfl))).trans (andR ?_)
  refine (G_iconst (mF fc0 (by rfl))).trans ?_
  refine (G_istore (k := 3) (L' := [some (.ref a0), some (.ref a1), some (.ref a2), some (.int (ii 0))]) rfl (ltb rfl) rfl (mF fc0 (by rfl))).trans ?_
  exact Iff.rfl
theorem b0_58 {d : Nat} {h : mHeap} {Q : Option Value → mHeap → Prop} {a0 : Nat} {l1 : Option Value} {l2 : Option Value} {x3 : Int32} (hl2 : mNo l2 = true) : Go d 0 58 [some (.ref a0), l1, l2, some (.int x3)] [] h Q ↔ okF h a0 0 3 2 ∧ okL h (fR h a0 3) ∧ (if (ii (nL h (fR h a0 3))) ≤ x3 then (Q none h) else (okF h a0 0 3 2 ∧ (∃ h1 : mHeap, h1 = nO h 10 ∧ 64 ≤ h.length ∧ GoCv d 115 [.ref h.length] h1 (fun h2 => okS h2 (fR h a0 3) x3 h.length ∧ Go d 0 58 [some (.ref a0), l1, l2, some (.int (x3 + ii 1))] [] (sR h2 (fR h a0 3) x3 h.length) Q)))) := by
  refine (G_iload rfl (mF fc0 (by rfl))).trans ?_
  refine (G_aload rfl (mF fc0 (by rfl))).trans ?_
  refine (G_getR (c := 0) (k := 3) rfl rfl rfl (mF fc0 (by rfl))).trans (andR ?_)
  refine (G_arraylength (mF fc0 (by rfl))).trans (andR ?_)
  refine (G_ige (mF fc0 (by rfl))).trans (gi ?_ ?_)
  ·
    exact G_return rfl (mF fc0 (by rfl))
  ·
    refine (G_aload rfl (mF fc0 (by rfl))).trans ?_
    refine (G_getR (c := 0) (k := 3) rfl rfl rfl (mF fc0 (by rfl))).trans (andR ?_)
    refine (G_iload rfl (mF fc0 (by rfl))).trans ?_
    refine (G_new (mF fc0 (by rfl))).trans ?_
    refine (exN (A := fun x => Go d 0 75 [some (.ref a0), l1, l2, some (.int x3)] [.ref h.length, .int x3, .ref (fR h a0 3)] x Q) (e := nO h 10) fun h1 => ?_)
    refine (G_dupr (mF fc0 (by rfl))).trans ?_
    refine (G_Nv (q := 59041) (y := 115) (a := h.length) rfl rfl rfl rfl (as := [.ref h.length]) (rest := [.ref h.length, .int x3, .ref (fR h a0 3)]) rfl rfl (mF fc0 (by rfl))).trans (andR (GoCv_congr fun h2 => ?_))
    refine (G_aastore (mF fc0 (by rfl))).trans (andR ?_)
    refine (G_iinc (k := 3) (L' := [some (.ref a0), l1, l2, some (.int (x3 + ii 1))]) rfl rfl (by exact hl2) (mF fc0 (by rfl))).trans ?_
    refine (G_goto (mF fc0 (by rfl))).trans ?_
    exact Iff.rfl
theorem e0 {d : Nat} {h : mHeap} {K : mHeap → Prop} {a0 : Nat} {a1 : Nat} {a2 : Nat} : GoCv (d + 1) 0 [.ref a0, .ref a1, .ref a2] h K ↔ Go d 0 0 [some (.ref a0), some (.ref a1), some (.ref a2), none] [] h (rV K) := GoCv_entry rfl rfl
set_option maxRecDepth 20000 in
theorem fc1 : mCodes[1]? = some mc1 := rfl
theorem b1_0 {d : Nat} {h : mHeap} {Q : Option Value → mHeap → Prop} {a0 : Nat} {a1 : Nat} {x2 : Int32} {x3 : Int32} : Go d 1 0 [some (.ref a0), some (.ref a1), some (.int x2), some (.int x3), none] [] h Q ↔ okF h a0 0 1 2 ∧ okF h (fR h a0 1) 8 0 2 ∧ okR h (fR h (fR h a0 1) 0) x3 ∧ okF h a0 0 0 2 ∧ okF h (fR h a0 0) 4 1 2 ∧ okF h (fR h (fR h a0 0) 1) 3 1 0 ∧ oC h (eR h (fR h (fR h a0 1) 0) x3) = 10 ∧ GoCi d 130 [.ref (eR h (fR h (fR h a0 1) 0) x3), .int (fI h (fR h (fR h a0 0) 1) 1)] h (fun v1 h1 => (if v1 = ii 0 then (((ii 0) = ii 0 ∨ (ii 0) = ii 1) ∧ Q (some (.int (ii 0))) h1) else (oC h1 a1 = 10 ∧ GoCi d 127 [.ref a1, .ref (eR h (fR h (fR h a0 1) 0) x3)] h1 (fun v2 h2 => okF h2 a0 0 0 2 ∧ okF h2 (fR h2 a0 0) 4 0 2 ∧ okF h2 (fR h2 (fR h2 a0 0) 0) 2 5 2 ∧ okA h2 (fR h2 (fR h2 (fR h2 a0 0) 0) 5) .int x2 ∧ (if v2 < (eI h2 (fR h2 (fR h2 (fR h2 a0 0) 0) 5) x2) then (((ii 0) = ii 0 ∨ (ii 0) = ii 1) ∧ Q (some (.int (ii 0))) h2) else (((ii 1) = ii 0 ∨ (ii 1) = ii 1) ∧ Q (some (.int (ii 1))) h2)))))) := by
  refine (G_aload rfl (mF fc1 (by rfl))).trans ?_
  refine (G_getR (c := 0) (k := 1) rfl rfl rfl (mF fc1 (by rfl))).trans (andR ?_)
  refine (G_getR (c := 8) (k := 0) rfl rfl rfl (mF fc1 (by rfl))).trans (andR ?_)
  refine (G_iload rfl (mF fc1 (by rfl))).trans ?_
  refine (G_aaloadR rfl (mF fc1 (by rfl))).trans (andR ?_)
  refine (G_astore (k := 4) (L' := [some (.ref a0), some (.ref a1), some (.int x2), some (.int x3), some (.ref (eR h (fR h (fR h a0 1) 0) x3))]) rfl (ltb rfl) rfl (mF fc1 (by rfl))).trans ?_
  refine (G_aload rfl (mF fc1 (by rfl))).trans ?_
  refine (G_aload rfl (mF fc1 (by rfl))).trans ?_
  refine (G_getR (c := 0) (k := 0) rfl rfl rfl (mF fc1 (by rfl))).trans (andR ?_)
  refine (G_getR (c := 4) (k := 1) rfl rfl rfl (mF fc1 (by rfl))).trans (andR ?_)
  refine (G_getI (c := 3) (k := 1) rfl rfl rfl (mF fc1 (by rfl))).trans (andR ?_)
  refine (G_Vi (q := 66722) (y := 130) (a := eR h (fR h (fR h a0 1) 0) x3) (c := 10) rfl rfl rfl rfl (by decide) rfl (as := [.ref (eR h (fR h (fR h a0 1) 0) x3), .int (fI h (fR h (fR h a0 0) 1) 1)]) (rest := []) rfl rfl (mF fc1 (by rfl))).trans (andR (GoCi_congr fun v1 h1 => ?_))
  refine (G_eq (mF fc1 (by rfl))).trans (gi ?_ ?_)
  ·
    refine (G_iconst (mF fc1 (by rfl))).trans ?_
    exact G_ireturnZ rfl (mF fc1 (by rfl))
  ·
    refine (G_aload rfl (mF fc1 (by rfl))).trans ?_
    refine (G_aload rfl (mF fc1 (by rfl))).trans ?_
    refine (G_Vi (q := 65186) (y := 127) (a := a1) (c := 10) rfl rfl rfl rfl (by decide) rfl (as := [.ref a1, .ref (eR h (fR h (fR h a0 1) 0) x3)]) (rest := []) rfl rfl (mF fc1 (by rfl))).trans (andR (GoCi_congr fun v2 h2 => ?_))
    refine (G_aload rfl (mF fc1 (by rfl))).trans ?_
    refine (G_getR (c := 0) (k := 0) rfl rfl rfl (mF fc1 (by rfl))).trans (andR ?_)
    refine (G_getR (c := 4) (k := 0) rfl rfl rfl (mF fc1 (by rfl))).trans (andR ?_)
    refine (G_getR (c := 2) (k := 5) rfl rfl rfl (mF fc1 (by rfl))).trans (andR ?_)
    refine (G_iload rfl (mF fc1 (by rfl))).trans ?_
    refine (G_iaload (mF fc1 (by rfl))).trans (andR ?_)
    refine (G_ilt (mF fc1 (by rfl))).trans (gi ?_ ?_)
    ·
      refine (G_iconst (mF fc1 (by rfl))).trans ?_
      exact G_ireturnZ rfl (mF fc1 (by rfl))
    ·
      refine (G_iconst (mF fc1 (by rfl))).trans ?_
      refine (G_goto (mF fc1 (by rfl))).trans ?_
      exact G_ireturnZ rfl (mF fc1 (by rfl))
theorem e1 {d : Nat} {h : mHeap} {K : Int32 → mHeap → Prop} {a0 : Nat} {a1 : Nat} {x2 : Int32} {x3 : Int32} : GoCi (d + 1) 1 [.ref a0, .ref a1, .int x2, .int x3] h K ↔ Go d 1 0 [some (.ref a0), some (.ref a1), some (.int x2), some (.int x3), none] [] h (rI K) := GoCi_entry rfl rfl
set_option maxRecDepth 20000 in
theorem fc2 : mCodes[2]? = some mc2 := rfl
theorem b2_0 {d : Nat} {h : mHeap} {Q : Option Value → mHeap → Prop} {a0 : Nat} {a1 : Nat} {x2 : Int32} : Go d 2 0 [some (.ref a0), some (.ref a1), some (.int x2), none, none] [] h Q ↔ okF h a0 0 0 2 ∧ okF h (fR h a0 0) 4 1 2 ∧ oC h (fR h (fR h a0 0) 1) = 3 ∧ GoCi d 49 [.ref (fR h (fR h a0 0) 1), .int x2] h (fun v1 h1 => (if ¬ v1 = ii 0 then (Q (some (.int (ii 0))) h1) else (Go d 2 19 [some (.ref a0), some (.ref a1), some (.int x2), some (.int (ii 0)), some (.int (ii 0))] [] h1 Q))) := by
  refine (G_iconst (mF fc2 (by rfl))).trans ?_
  refine (G_istore (k := 3) (L' := [some (.ref a0), some (.ref a1), some (.int x2), some (.int (ii 0)), none]) rfl (ltb rfl) rfl (mF fc2 (by rfl))).trans ?_
  refine (G_aload rfl (mF fc2 (by rfl))).trans ?_
  refine (G_getR (c := 0) (k := 0) rfl rfl rfl (mF fc2 (by rfl))).trans (andR ?_)
  refine (G_getR (c := 4) (k := 1) rfl rfl rfl (mF fc2 (by rfl))).trans (andR ?_)
  refine (G_iload rfl (mF fc2 (by rfl))).trans ?_
  refine (G_Vi (q := 25138) (y := 49) (a := fR h (fR h a0 0) 1) (c := 3) rfl rfl rfl rfl (by decide) rfl (as := [.ref (fR h (fR h a0 0) 1), .int x2]) (rest := []) rfl rfl (mF fc2 (by rfl))).trans (andR (GoCi_congr fun v1 h1 => ?_))
  refine (G_ne (mF fc2 (by rfl))).trans (gi ?_ ?_)
  ·
    refine (G_iload rfl (mF fc2 (by rfl))).trans ?_
    exact G_ireturnI rfl (mF fc2 (by rfl))
  ·
    refine (G_iconst (mF fc2 (by rfl))).trans ?_
    refine (G_istore (k := 4) (L' := [some (.ref a0), some (.ref a1), some (.int x2), some (.int (ii 0)), some (.int (ii 0))]) rfl (ltb rfl) rfl (mF fc2 (by rfl))).trans ?_
    exact Iff.rfl
theorem b2_19 {d : Nat} {h : mHeap} {Q : Option Value → mHeap → Prop} {a0 : Nat} {a1 : Nat} {x2 : Int32} {x3 : Int32} {x4 : Int32} : Go d 2 19 [some (.ref a0), some (.ref a1), some (.int x2), some (.int x3), some (.int x4)] [] h Q ↔ okF h a0 0 1 2 ∧ okF h (fR h a0 1) 8 1 0 ∧ (if (fI h (fR h a0 1) 1) ≤ x4 then (Q (some (.int x3)) h) else (oC h a0 = 0 ∧ GoCi d 1 [.ref a0, .ref a1, .int x2, .int x4] h (fun v1 h1 => (if v1 = ii 0 then (Go d 2 49 [some (.ref a0), some (.ref a1), some (.int x2), some (.int x3), some (.int x4)] [] h1 Q) else (Go d 2 49 [some (.ref a0), some (.ref a1), some (.int x2), some (.int (x3 ||| (shl (ii 1) x4))), some (.int x4)] [] h1 Q))))) := by
  refine (G_iload rfl (mF fc2 (by rfl))).trans ?_
  refine (G_aload rfl (mF fc2 (by rfl))).trans ?_
  refine (G_getR (c := 0) (k := 1) rfl rfl rfl (mF fc2 (by rfl))).trans (andR ?_)
  refine (G_getI (c := 8) (k := 1) rfl rfl rfl (mF fc2 (by rfl))).trans (andR ?_)
  refine (G_ige (mF fc2 (by rfl))).trans (gi ?_ ?_)
  ·
    refine (G_iload rfl (mF fc2 (by rfl))).trans ?_
    exact G_ireturnI rfl (mF fc2 (by rfl))
  ·
    refine (G_aload rfl (mF fc2 (by rfl))).trans ?_
    refine (G_aload rfl (mF fc2 (by rfl))).trans ?_
    refine (G_iload rfl (mF fc2 (by rfl))).trans ?_
    refine (G_iload rfl (mF fc2 (by rfl))).trans ?_
    refine (G_Vi (q := 516) (y := 1) (a := a0) (c := 0) rfl rfl rfl rfl (by decide) rfl (as := [.ref a0, .ref a1, .int x2, .int x4]) (rest := []) rfl rfl (mF fc2 (by rfl))).trans (andR (GoCi_congr fun v1 h1 => ?_))
    refine (G_eq (mF fc2 (by rfl))).trans (gi ?_ ?_)
    ·
      exact Iff.rfl
    ·
      refine (G_iload rfl (mF fc2 (by rfl))).trans ?_
      refine (G_iconst (mF fc2 (by rfl))).trans ?_
      refine (G_iload rfl (mF fc2 (by rfl))).trans ?_
      refine (G_ishl (mF fc2 (by rfl))).trans ?_
      refine (G_ior (mF fc2 (by rfl))).trans ?_
      refine (G_istore (k := 3) (L' := [some (.ref a0), some (.ref a1), some (.int x2), some (.int (x3 ||| (shl (ii 1) x4))), some (.int x4)]) rfl (ltb rfl) rfl (mF fc2 (by rfl))).trans ?_
      exact Iff.rfl
theorem b2_49 {d : Nat} {h : mHeap} {Q : Option Value → mHeap → Prop} {a0 : Nat} {a1 : Nat} {x2 : Int32} {x3 : Int32} {x4 : Int32} : Go d 2 49 [some (.ref a0), some (.ref a1), some (.int x2), some (.int x3), some (.int x4)] [] h Q ↔ Go d 2 19 [some (.ref a0), some (.ref a1), some (.int x2), some (.int x3), some (.int (x4 + ii 1))] [] h Q := by
  refine (G_iinc (k := 4) (L' := [some (.ref a0), some (.ref a1), some (.int x2), some (.int x3), some (.int (x4 + ii 1))]) rfl rfl rfl (mF fc2 (by rfl))).trans ?_
  refine (G_goto (mF fc2 (by rfl))).trans ?_
  exact Iff.rfl
theorem e2 {d : Nat} {h : mHeap} {K : Int32 → mHeap → Prop} {a0 : Nat} {a1 : Nat} {x2 : Int32} : GoCi (d + 1) 2 [.ref a0, .ref a1, .int x2] h K ↔ Go d 2 0 [some (.ref a0), some (.ref a1), some (.int x2), none, none] [] h (rI K) := GoCi_entry rfl rfl
set_option maxRecDepth 20000 in
theorem fc3 : mCodes[3]? = some mc3 := rfl
theorem b3_0 {d : Nat} {h : mHeap} {Q : Option Value → mHeap → Prop} {a0 : Nat} {a1 : Nat} {x2 : Int32} : Go d 3 0 [some (.ref a0), some (.ref a1), some (.int x2), none, none] [] h Q ↔ Go d 3 5 [some (.ref a0), some (.ref a1), some (.int x2), some (.int (ii 0)), some (.int (ii 0))] [] h Q := by
  refine (G_iconst (mF fc3 (by rfl))).trans ?_
  refine (G_istore (k := 3) (L' := [some (.ref a0), some (.ref a1), some (.int x2), some (.int (ii 0)), none]) rfl (ltb rfl) rfl (mF fc3 (by rfl))).trans ?_
  refine (G_iconst (mF fc3 (by rfl))).trans ?_
  refine (G_istore (k := 4) (L' := [some (.ref a0), some (.ref a1), some (.int x2), some (.int (ii 0)), some (.int (ii 0))]) rfl (ltb rfl) rfl (mF fc3 (by rfl))).trans ?_
  exact Iff.rfl
theorem b3_5 {d : Nat} {h : mHeap} {Q : Option Value → mHeap → Prop} {a0 : Nat} {a1 : Nat} {x2 : Int32} {x3 : Int32} {x4 : Int32} : Go d 3 5 [some (.ref a0), some (.ref a1), some (.int x2), some (.int x3), some (.int x4)] [] h Q ↔ okF h a0 0 1 2 ∧ okF h (fR h a0 1) 8 1 0 ∧ (if (fI h (fR h a0 1) 1) ≤ x4 then (Q (some (.int x3)) h) else ((if ((shr x2 x4) &&& (ii 1)) = ii 0 then (Go d 3 50 [some (.ref a0), some (.ref a1), some (.int x2), some (.int x3), some (.int x4)] [] h Q) else (okF h a0 0 1 2 ∧ okF h (fR h a0 1) 8 0 2 ∧ okR h (fR h (fR h a0 1) 0) x4 ∧ oC h a1 = 10 ∧ GoCi d 128 [.ref a1, .ref (eR h (fR h (fR h a0 1) 0) x4)] h (fun v1 h1 => (if v1 = ii 0 then (Go d 3 50 [some (.ref a0), some (.ref a1), some (.int x2), some (.int x3), some (.int x4)] [] h1 Q) else (Go d 3 50 [some (.ref a0), some (.ref a1), some (.int x2), some (.int (x3 ||| (shl (ii 1) x4))), some (.int x4)] [] h1 Q))))))) := by
  refine (G_iload rfl (mF fc3 (by rfl))).trans ?_
  refine (G_aload rfl (mF fc3 (by rfl))).trans ?_
  refine (G_getR (c := 0) (k := 1) rfl rfl rfl (mF fc3 (by rfl))).trans (andR ?_)
  refine (G_getI (c := 8) (k := 1) rfl rfl rfl (mF fc3 (by rfl))).trans (andR ?_)
  refine (G_ige (mF fc3 (by rfl))).trans (gi ?_ ?_)
  ·
    refine (G_iload rfl (mF fc3 (by rfl))).trans ?_
    exact G_ireturnI rfl (mF fc3 (by rfl))
  ·
    refine (G_iload rfl (mF fc3 (by rfl))).trans ?_
    refine (G_iload rfl (mF fc3 (by rfl))).trans ?_
    refine (G_ishr (mF fc3 (by rfl))).trans ?_
    refine (G_iconst (mF fc3 (by rfl))).trans ?_
    refine (G_iand (mF fc3 (by rfl))).trans ?_
    refine (G_eq (mF fc3 (by rfl))).trans (gi ?_ ?_)
    ·
      exact Iff.rfl
    ·
      refine (G_aload rfl (mF fc3 (by rfl))).trans ?_
      refine (G_aload rfl (mF fc3 (by rfl))).trans ?_
      refine (G_getR (c := 0) (k := 1) rfl rfl rfl (mF fc3 (by rfl))).trans (andR ?_)
      refine (G_getR (c := 8) (k := 0) rfl rfl rfl (mF fc3 (by rfl))).trans (andR ?_)
      refine (G_iload rfl (mF fc3 (by rfl))).trans ?_
      refine (G_aaloadR rfl (mF fc3 (by rfl))).trans (andR ?_)
      refine (G_Vi (q := 65698) (y := 128) (a := a1) (c := 10) rfl rfl rfl rfl (by decide) rfl (as := [.ref a1, .ref (eR h (fR h (fR h a0 1) 0) x4)]) (rest := []) rfl rfl (mF fc3 (by rfl))).trans (andR (GoCi_congr fun v1 h1 => ?_))
      refine (G_eq (mF fc3 (by rfl))).trans (gi ?_ ?_)
      ·
        exact Iff.rfl
      ·
        refine (G_iload rfl (mF fc3 (by rfl))).trans ?_
        refine (G_iconst (mF fc3 (by rfl))).trans ?_
        refine (G_iload rfl (mF fc3 (by rfl))).trans ?_
        refine (G_ishl (mF fc3 (by rfl))).trans ?_
        refine (G_ior (mF fc3 (by rfl))).trans ?_
        refine (G_istore (k := 3) (L' := [some (.ref a0), some (.ref a1), some (.int x2), some (.int (x3 ||| (shl (ii 1) x4))), some (.int x4)]) rfl (ltb rfl) rfl (mF fc3 (by rfl))).trans ?_
        exact Iff.rfl
theorem b3_50 {d : Nat} {h : mHeap} {Q : Option Value → mHeap → Prop} {a0 : Nat} {a1 : Nat} {x2 : Int32} {x3 : Int32} {x4 : Int32} : Go d 3 50 [some (.ref a0), some (.ref a1), some (.int x2), some (.int x3), some (.int x4)] [] h Q ↔ Go d 3 5 [some (.ref a0), some (.ref a1), some (.int x2), some (.int x3), some (.int (x4 + ii 1))] [] h Q := by
  refine (G_iinc (k := 4) (L' := [some (.ref a0), some (.ref a1), some (.int x2), some (.int x3), some (.int (x4 + ii 1))]) rfl rfl rfl (mF fc3 (by rfl))).trans ?_
  refine (G_goto (mF fc3 (by rfl))).trans ?_
  exact Iff.rfl
theorem e3 {d : Nat} {h : mHeap} {K : Int32 → mHeap → Prop} {a0 : Nat} {a1 : Nat} {x2 : Int32} : GoCi (d + 1) 3 [.ref a0, .ref a1, .int x2] h K ↔ Go d 3 0 [some (.ref a0), some (.ref a1), some (.int x2), none, none] [] h (rI K) := GoCi_entry rfl rfl
set_option maxRecDepth 20000 in
theorem fc4 : mCodes[4]? = some mc4 := rfl
theorem b4_0 {d : Nat} {h : mHeap} {Q : Option Value → mHeap → Prop} {a0 : Nat} {x1 : Int32} {x2 : Int32} : Go d 4 0 [some (.ref a0), some (.int x1), some (.int x2), none, none, none, none, none, none] [] h Q ↔ okF h a0 0 0 2 ∧ okF h (fR h a0 0) 4 1 2 ∧ oC h (fR h (fR h a0 0) 1) = 3 ∧ GoCr d 46 [.ref (fR h (fR h a0 0) 1), .int (ii (-1))] h (fun v1 h1 => okF h1 a0 0 0 2 ∧ okF h1 (fR h1 a0 0) 4 1 2 ∧ oC h1 (fR h1 (fR h1 a0 0) 1) = 3 ∧ GoCr d 46 [.ref (fR h1 (fR h1 a0 0) 1), .int x1] h1 (fun v2 h2 => oC h2 a0 = 0 ∧ GoCi d 2 [.ref a0, .ref v1, .int x1] h2 (fun v3 h3 => oC h3 a0 = 0 ∧ GoCi d 3 [.ref a0, .ref v2, .int v3] h3 (fun v4 h4 => Go d 4 45 [some (.ref a0), some (.int x1), some (.int x2), some (.ref v1), some (.int v4), some (.int (ii (-2))), some (.int (ii 0)), some (.int (ii 0)), none] [] h4 Q)))) := by
  refine (G_aload rfl (mF fc4 (by rfl))).trans ?_
  refine (G_getR (c := 0) (k := 0) rfl rfl rfl (mF fc4 (by rfl))).trans (andR ?_)
  refine (G_getR (c := 4) (k := 1) rfl rfl rfl (mF fc4 (by rfl))).trans (andR ?_)
  refine (G_iconst (mF fc4 (by rfl))).trans ?_
  refine (G_Vr (q := 23602) (y := 46) (a := fR h (fR h a0 0) 1) (c := 3) rfl rfl rfl rfl (by decide) rfl (as := [.ref (fR h (fR h a0 0) 1), .int (ii (-1))]) (rest := []) rfl rfl (mF fc4 (by rfl))).trans (andR (GoCr_congr fun v1 h1 => ?_))
  refine (G_astore (k := 3) (L' := [some (.ref a0), some (.int x1), some (.int x2), some (.ref v1), none, none, none, none, none]) rfl (ltb rfl) rfl (mF fc4 (by rfl))).trans ?_
  refine (G_aload rfl (mF fc4 (by rfl))).trans ?_
  refine (G_aload rfl (mF fc4 (by rfl))).trans ?_
  refine (G_getR (c := 0) (k := 0) rfl rfl rfl (mF fc4 (by rfl))).trans (andR ?_)
  refine (G_getR (c := 4) (k := 1) rfl rfl rfl (mF fc4 (by rfl))).trans (andR ?_)
  refine (G_iload rfl (mF fc4 (by rfl))).trans ?_
  refine (G_Vr (q := 23602) (y := 46) (a := fR h1 (fR h1 a0 0) 1) (c := 3) rfl rfl rfl rfl (by decide) rfl (as := [.ref (fR h1 (fR h1 a0 0) 1), .int x1]) (rest := [.ref a0]) rfl rfl (mF fc4 (by rfl))).trans (andR (GoCr_congr fun v2 h2 => ?_))
  refine (G_aload rfl (mF fc4 (by rfl))).trans ?_
  refine (G_aload rfl (mF fc4 (by rfl))).trans ?_
  refine (G_iload rfl (mF fc4 (by rfl))).trans ?_
  refine (G_Vi (q := 1027) (y := 2) (a := a0) (c := 0) rfl rfl rfl rfl (by decide) rfl (as := [.ref a0, .ref v1, .int x1]) (rest := [.ref v2, .ref a0]) rfl rfl (mF fc4 (by rfl))).trans (andR (GoCi_congr fun v3 h3 => ?_))
  refine (G_Vi (q := 1539) (y := 3) (a := a0) (c := 0) rfl rfl rfl rfl (by decide) rfl (as := [.ref a0, .ref v2, .int v3]) (rest := []) rfl rfl (mF fc4 (by rfl))).trans (andR (GoCi_congr fun v4 h4 => ?_))
  refine (G_istore (k := 4) (L' := [some (.ref a0), some (.int x1), some (.int x2), some (.ref v1), some (.int v4), none, none, none, none]) rfl (ltb rfl) rfl (mF fc4 (by rfl))).trans ?_
  refine (G_iconst (mF fc4 (by rfl))).trans ?_
  refine (G_istore (k := 5) (L' := [some (.ref a0), some (.int x1), some (.int x2), some (.ref v1), some (.int v4), some (.int (ii (-2))), none, none, none]) rfl (ltb rfl) rfl (mF fc4 (by rfl))).trans ?_
  refine (G_iconst (mF fc4 (by rfl))).trans ?_
  refine (G_istore (k := 6) (L' := [some (.ref a0), some (.int x1), some (.int x2), some (.ref v1), some (.int v4), some (.int (ii (-2))), some (.int (ii 0)), none, none]) rfl (ltb rfl) rfl (mF fc4 (by rfl))).trans ?_
  refine (G_iconst (mF fc4 (by rfl))).trans ?_
  refine (G_istore (k := 7) (L' := [some (.ref a0), some (.int x1), some (.int x2), some (.ref v1), some (.int v4), some (.int (ii (-2))), some (.int (ii 0)), some (.int (ii 0)), none]) rfl (ltb rfl) rfl (mF fc4 (by rfl))).trans ?_
  exact Iff.rfl
theorem b4_45 {d : Nat} {h : mHeap} {Q : Option Value → mHeap → Prop} {a0 : Nat} {x1 : Int32} {x2 : Int32} {a3 : Nat} {x4 : Int32} {x5 : Int32} {x6 : Int32} {x7 : Int32} {l8 : Option Value} : Go d 4 45 [some (.ref a0), some (.int x1), some (.int x2), some (.ref a3), some (.int x4), some (.int x5), some (.int x6), some (.int x7), l8] [] h Q ↔ okF h a0 0 1 2 ∧ okF h (fR h a0 1) 8 1 0 ∧ (if (fI h (fR h a0 1) 1) ≤ x7 then ((if x2 = ii 0 then (Q (some (.int x5)) h) else ((if ¬ x5 = (ii (-2)) then (oC h a0 = 0 ∧ GoCi d 5 [.ref a0, .int x1, .int x5] h (fun v1 h1 => Q (some (.int v1)) h1)) else (Q (some (.int x5)) h))))) else ((if ((shr x4 x7) &&& (ii 1)) = ii 0 then (Go d 4 105 [some (.ref a0), some (.int x1), some (.int x2), some (.ref a3), some (.int x4), some (.int x5), some (.int x6), some (.int x7), l8] [] h Q) else (okF h a0 0 1 2 ∧ okF h (fR h a0 1) 8 0 2 ∧ okR h (fR h (fR h a0 1) 0) x7 ∧ oC h a3 = 10 ∧ GoCi d 127 [.ref a3, .ref (eR h (fR h (fR h a0 1) 0) x7)] h (fun v2 h2 => (if x5 = (ii (-2)) then (Go d 4 97 [some (.ref a0), some (.int x1), some (.int x2), some (.ref a3), some (.int x4), some (.int x5), some (.int x6), some (.int x7), some (.int v2)] [] h2 Q) else ((if x6 ≤ v2 then (Go d 4 105 [some (.ref a0), some (.int x1), some (.int x2), some (.ref a3), some (.int x4), some (.int x5), some (.int x6), some (.int x7), some (.int v2)] [] h2 Q) else (Go d 4 97 [some (.ref a0), some (.int x1), some (.int x2), some (.ref a3), some (.int x4), some (.int x5), some (.int x6), some (.int x7), some (.int v2)] [] h2 Q))))))))) := by
  refine (G_iload rfl (mF fc4 (by rfl))).trans ?_
  refine (G_aload rfl (mF fc4 (by rfl))).trans ?_
  refine (G_getR (c := 0) (k := 1) rfl rfl rfl (mF fc4 (by rfl))).trans (andR ?_)
  refine (G_getI (c := 8) (k := 1) rfl rfl rfl (mF fc4 (by rfl))).trans (andR ?_)
  refine (G_ige (mF fc4 (by rfl))).trans (gi ?_ ?_)
  ·
    refine (G_iload rfl (mF fc4 (by rfl))).trans ?_
    refine (G_eq (mF fc4 (by rfl))).trans (gi ?_ ?_)
    ·
      refine (G_iload rfl (mF fc4 (by rfl))).trans ?_
      refine (G_goto (mF fc4 (by rfl))).trans ?_
      exact G_ireturnI rfl (mF fc4 (by rfl))
    ·
      refine (G_iload rfl (mF fc4 (by rfl))).trans ?_
      refine (G_iconst (mF fc4 (by rfl))).trans ?_
      refine (G_ine (mF fc4 (by rfl))).trans (gi ?_ ?_)
      ·
        refine (G_aload rfl (mF fc4 (by rfl))).trans ?_
        refine (G_iload rfl (mF fc4 (by rfl))).trans ?_
        refine (G_iload rfl (mF fc4 (by rfl))).trans ?_
        refine (G_Vi (q := 2563) (y := 5) (a := a0) (c := 0) rfl rfl rfl rfl (by decide) rfl (as := [.ref a0, .int x1, .int x5]) (rest := []) rfl rfl (mF fc4 (by rfl))).trans (andR (GoCi_congr fun v1 h1 => ?_))
        exact G_ireturnI rfl (mF fc4 (by rfl))
      ·
        refine (G_iload rfl (mF fc4 (by rfl))).trans ?_
        refine (G_goto (mF fc4 (by rfl))).trans ?_
        exact G_ireturnI rfl (mF fc4 (by rfl))
  ·
    refine (G_iload rfl (mF fc4 (by rfl))).trans ?_
    refine (G_iload rfl (mF fc4 (by rfl))).trans ?_
    refine (G_ishr (mF fc4 (by rfl))).trans ?_
    refine (G_iconst (mF fc4 (by rfl))).trans ?_
    refine (G_iand (mF fc4 (by rfl))).trans ?_
    refine (G_eq (mF fc4 (by rfl))).trans (gi ?_ ?_)
    ·
      exact Iff.rfl
    ·
      refine (G_aload rfl (mF fc4 (by rfl))).trans ?_
      refine (G_aload rfl (mF fc4 (by rfl))).trans ?_
      refine (G_getR (c := 0) (k := 1) rfl rfl rfl (mF fc4 (by rfl))).trans (andR ?_)
      refine (G_getR (c := 8) (k := 0) rfl rfl rfl (mF fc4 (by rfl))).trans (andR ?_)
      refine (G_iload rfl (mF fc4 (by rfl))).trans ?_
      refine (G_aaloadR rfl (mF fc4 (by rfl))).trans (andR ?_)
      refine (G_Vi (q := 65186) (y := 127) (a := a3) (c := 10) rfl rfl rfl rfl (by decide) rfl (as := [.ref a3, .ref (eR h (fR h (fR h a0 1) 0) x7)]) (rest := []) rfl rfl (mF fc4 (by rfl))).trans (andR (GoCi_congr fun v2 h2 => ?_))
      refine (G_istore (k := 8) (L' := [some (.ref a0), some (.int x1), some (.int x2), some (.ref a3), some (.int x4), some (.int x5), some (.int x6), some (.int x7), some (.int v2)]) rfl (ltb rfl) rfl (mF fc4 (by rfl))).trans ?_
      refine (G_iload rfl (mF fc4 (by rfl))).trans ?_
      refine (G_iconst (mF fc4 (by rfl))).trans ?_
      refine (G_ieq (mF fc4 (by rfl))).trans (gi ?_ ?_)
      ·
        exact Iff.rfl
      ·
        refine (G_iload rfl (mF fc4 (by rfl))).trans ?_
        refine (G_iload rfl (mF fc4 (by rfl))).trans ?_
        refine (G_ige (mF fc4 (by rfl))).trans (gi ?_ ?_)
        ·
          exact Iff.rfl
        ·
          exact Iff.rfl
theorem b4_97 {d : Nat} {h : mHeap} {Q : Option Value → mHeap → Prop} {a0 : Nat} {x1 : Int32} {x2 : Int32} {a3 : Nat} {x4 : Int32} {l5 : Option Value} {l6 : Option Value} {x7 : Int32} {x8 : Int32} : Go d 4 97 [some (.ref a0), some (.int x1), some (.int x2), some (.ref a3), some (.int x4), l5, l6, some (.int x7), some (.int x8)] [] h Q ↔ Go d 4 105 [some (.ref a0), some (.int x1), some (.int x2), some (.ref a3), some (.int x4), some (.int x7), some (.int x8), some (.int x7), some (.int x8)] [] h Q := by
  refine (G_iload rfl (mF fc4 (by rfl))).trans ?_
  refine (G_istore (k := 5) (L' := [some (.ref a0), some (.int x1), some (.int x2), some (.ref a3), some (.int x4), some (.int x7), l6, some (.int x7), some (.int x8)]) rfl (ltb rfl) rfl (mF fc4 (by rfl))).trans ?_
  refine (G_iload rfl (mF fc4 (by rfl))).trans ?_
  refine (G_istore (k := 6) (L' := [some (.ref a0), some (.int x1), some (.int x2), some (.ref a3), some (.int x4), some (.int x7), some (.int x8), some (.int x7), some (.int x8)]) rfl (ltb rfl) rfl (mF fc4 (by rfl))).trans ?_
  exact Iff.rfl
theorem b4_105 {d : Nat} {h : mHeap} {Q : Option Value → mHeap → Prop} {a0 : Nat} {x1 : Int32} {x2 : Int32} {a3 : Nat} {x4 : Int32} {x5 : Int32} {x6 : Int32} {x7 : Int32} {l8 : Option Value} : Go d 4 105 [some (.ref a0), some (.int x1), some (.int x2), some (.ref a3), some (.int x4), some (.int x5), some (.int x6), some (.int x7), l8] [] h Q ↔ Go d 4 45 [some (.ref a0), some (.int x1), some (.int x2), some (.ref a3), some (.int x4), some (.int x5), some (.int x6), some (.int (x7 + ii 1)), l8] [] h Q := by
  refine (G_iinc (k := 7) (L' := [some (.ref a0), some (.int x1), some (.int x2), some (.ref a3), some (.int x4), some (.int x5), some (.int x6), some (.int (x7 + ii 1)), l8]) rfl rfl rfl (mF fc4 (by rfl))).trans ?_
  refine (G_goto (mF fc4 (by rfl))).trans ?_
  exact Iff.rfl
theorem e4 {d : Nat} {h : mHeap} {K : Int32 → mHeap → Prop} {a0 : Nat} {x1 : Int32} {x2 : Int32} : GoCi (d + 1) 4 [.ref a0, .int x1, .int x2] h K ↔ Go d 4 0 [some (.ref a0), some (.int x1), some (.int x2), none, none, none, none, none, none] [] h (rI K) := GoCi_entry rfl rfl
set_option maxRecDepth 20000 in
theorem fc5 : mCodes[5]? = some mc5 := rfl
theorem b5_0 {d : Nat} {h : mHeap} {Q : Option Value → mHeap → Prop} {a0 : Nat} {x1 : Int32} {x2 : Int32} : Go d 5 0 [some (.ref a0), some (.int x1), some (.int x2), none, none, none, none] [] h Q ↔ okF h a0 0 0 2 ∧ okF h (fR h a0 0) 4 1 2 ∧ okF h a0 0 2 2 ∧ oC h (fR h (fR h a0 0) 1) = 3 ∧ GoCr d 46 [.ref (fR h (fR h a0 0) 1), .int (ii (-1))] h (fun v1 h1 => oC h1 (fR h a0 2) = 10 ∧ GoCv d 117 [.ref (fR h a0 2), .ref v1] h1 (fun h2 => okF h2 a0 0 2 2 ∧ okF h2 a0 0 1 2 ∧ okF h2 (fR h2 a0 1) 8 0 2 ∧ okR h2 (fR h2 (fR h2 a0 1) 0) x2 ∧ oC h2 (fR h2 a0 2) = 10 ∧ GoCv d 121 [.ref (fR h2 a0 2), .ref (eR h2 (fR h2 (fR h2 a0 1) 0) x2)] h2 (fun h3 => Go d 5 42 [some (.ref a0), some (.int x1), some (.int x2), some (.ref (fR h (fR h a0 0) 1)), some (.int (ii 0)), some (.int (ii 0)), none] [] h3 Q))) := by
  refine (G_aload rfl (mF fc5 (by rfl))).trans ?_
  refine (G_getR (c := 0) (k := 0) rfl rfl rfl (mF fc5 (by rfl))).trans (andR ?_)
  refine (G_getR (c := 4) (k := 1) rfl rfl rfl (mF fc5 (by rfl))).trans (andR ?_)
  refine (G_astore (k := 3) (L' := [some (.ref a0), some (.int x1), some (.int x2), some (.ref (fR h (fR h a0 0) 1)), none, none, none]) rfl (ltb rfl) rfl (mF fc5 (by rfl))).trans ?_
  refine (G_aload rfl (mF fc5 (by rfl))).trans ?_
  refine (G_getR (c := 0) (k := 2) rfl rfl rfl (mF fc5 (by rfl))).trans (andR ?_)
  refine (G_aload rfl (mF fc5 (by rfl))).trans ?_
  refine (G_iconst (mF fc5 (by rfl))).trans ?_
  refine (G_Vr (q := 23602) (y := 46) (a := fR h (fR h a0 0) 1) (c := 3) rfl rfl rfl rfl (by decide) rfl (as := [.ref (fR h (fR h a0 0) 1), .int (ii (-1))]) (rest := [.ref (fR h a0 2)]) rfl rfl (mF fc5 (by rfl))).trans (andR (GoCr_congr fun v1 h1 => ?_))
  refine (G_Vv (q := 60066) (y := 117) (a := fR h a0 2) (c := 10) rfl rfl rfl rfl (by decide) rfl (as := [.ref (fR h a0 2), .ref v1]) (rest := []) rfl rfl (mF fc5 (by rfl))).trans (andR (GoCv_congr fun h2 => ?_))
  refine (G_aload rfl (mF fc5 (by rfl))).trans ?_
  refine (G_getR (c := 0) (k := 2) rfl rfl rfl (mF fc5 (by rfl))).trans (andR ?_)
  refine (G_aload rfl (mF fc5 (by rfl))).trans ?_
  refine (G_getR (c := 0) (k := 1) rfl rfl rfl (mF fc5 (by rfl))).trans (andR ?_)
  refine (G_getR (c := 8) (k := 0) rfl rfl rfl (mF fc5 (by rfl))).trans (andR ?_)
  refine (G_iload rfl (mF fc5 (by rfl))).trans ?_
  refine (G_aaloadR rfl (mF fc5 (by rfl))).trans (andR ?_)
  refine (G_Vv (q := 62114) (y := 121) (a := fR h2 a0 2) (c := 10) rfl rfl rfl rfl (by decide) rfl (as := [.ref (fR h2 a0 2), .ref (eR h2 (fR h2 (fR h2 a0 1) 0) x2)]) (rest := []) rfl rfl (mF fc5 (by rfl))).trans (andR (GoCv_congr fun h3 => ?_))
  refine (G_iconst (mF fc5 (by rfl))).trans ?_
  refine (G_istore (k := 4) (L' := [some (.ref a0), some (.int x1), some (.int x2), some (.ref (fR h (fR h a0 0) 1)), some (.int (ii 0)), none, none]) rfl (ltb rfl) rfl (mF fc5 (by rfl))).trans ?_
  refine (G_iconst (mF fc5 (by rfl))).trans ?_
  refine (G_istore (k := 5) (L' := [some (.ref a0), some (.int x1), some (.int x2), some (.ref (fR h (fR h a0 0) 1)), some (.int (ii 0)), some (.int (ii 0)), none]) rfl (ltb rfl) rfl (mF fc5 (by rfl))).trans ?_
  exact Iff.rfl
theorem b5_42 {d : Nat} {h : mHeap} {Q : Option Value → mHeap → Prop} {a0 : Nat} {x1 : Int32} {l2 : Option Value} {a3 : Nat} {x4 : Int32} {x5 : Int32} {l6 : Option Value} : Go d 5 42 [some (.ref a0), some (.int x1), l2, some (.ref a3), some (.int x4), some (.int x5), l6] [] h Q ↔ okF h a0 0 0 2 ∧ okF h (fR h a0 0) 4 0 2 ∧ okF h (fR h (fR h a0 0) 0) 2 2 0 ∧ (if (fI h (fR h (fR h a0 0) 0) 2) ≤ x5 then (Q (some (.int x4)) h) else ((if x5 = x1 then (Go d 5 81 [some (.ref a0), some (.int x1), l2, some (.ref a3), some (.int x4), some (.int x5), l6] [] h Q) else (oC h a3 = 3 ∧ GoCi d 48 [.ref a3, .int x5] h (fun v1 h1 => oC h1 a3 = 3 ∧ GoCi d 48 [.ref a3, .int x1] h1 (fun v2 h2 => (if ¬ v1 = v2 then (Go d 5 81 [some (.ref a0), some (.int x1), l2, some (.ref a3), some (.int x4), some (.int x5), l6] [] h2 Q) else (Go d 5 82 [some (.ref a0), some (.int x1), l2, some (.ref a3), some (.int x4), some (.int x5), l6] [.int (ii 1)] h2 Q)))))))) := by
  refine (G_iload rfl (mF fc5 (by rfl))).trans ?_
  refine (G_aload rfl (mF fc5 (by rfl))).trans ?_
  refine (G_getR (c := 0) (k := 0) rfl rfl rfl (mF fc5 (by rfl))).trans (andR ?_)
  refine (G_getR (c := 4) (k := 0) rfl rfl rfl (mF fc5 (by rfl))).trans (andR ?_)
  refine (G_getI (c := 2) (k := 2) rfl rfl rfl (mF fc5 (by rfl))).trans (andR ?_)
  refine (G_ige (mF fc5 (by rfl))).trans (gi ?_ ?_)
  ·
    refine (G_iload rfl (mF fc5 (by rfl))).trans ?_
    exact G_ireturnI rfl (mF fc5 (by rfl))
  ·
    refine (G_iload rfl (mF fc5 (by rfl))).trans ?_
    refine (G_iload rfl (mF fc5 (by rfl))).trans ?_
    refine (G_ieq (mF fc5 (by rfl))).trans (gi ?_ ?_)
    ·
      exact Iff.rfl
    ·
      refine (G_aload rfl (mF fc5 (by rfl))).trans ?_
      refine (G_iload rfl (mF fc5 (by rfl))).trans ?_
      refine (G_Vi (q := 24626) (y := 48) (a := a3) (c := 3) rfl rfl rfl rfl (by decide) rfl (as := [.ref a3, .int x5]) (rest := []) rfl rfl (mF fc5 (by rfl))).trans (andR (GoCi_congr fun v1 h1 => ?_))
      refine (G_aload rfl (mF fc5 (by rfl))).trans ?_
      refine (G_iload rfl (mF fc5 (by rfl))).trans ?_
      refine (G_Vi (q := 24626) (y := 48) (a := a3) (c := 3) rfl rfl rfl rfl (by decide) rfl (as := [.ref a3, .int x1]) (rest := [.int v1]) rfl rfl (mF fc5 (by rfl))).trans (andR (GoCi_congr fun v2 h2 => ?_))
      refine (G_ine (mF fc5 (by rfl))).trans (gi ?_ ?_)
      ·
        exact Iff.rfl
      ·
        refine (G_iconst (mF fc5 (by rfl))).trans ?_
        refine (G_goto (mF fc5 (by rfl))).trans ?_
        exact Iff.rfl
theorem b5_81 {d : Nat} {h : mHeap} {Q : Option Value → mHeap → Prop} {a0 : Nat} {x1 : Int32} {l2 : Option Value} {a3 : Nat} {x4 : Int32} {x5 : Int32} {l6 : Option Value} : Go d 5 81 [some (.ref a0), some (.int x1), l2, some (.ref a3), some (.int x4), some (.int x5), l6] [] h Q ↔ Go d 5 82 [some (.ref a0), some (.int x1), l2, some (.ref a3), some (.int x4), some (.int x5), l6] [.int (ii 0)] h Q := by
  refine (G_iconst (mF fc5 (by rfl))).trans ?_
  exact Iff.rfl
theorem b5_82 {d : Nat} {h : mHeap} {Q : Option Value → mHeap → Prop} {a0 : Nat} {x1 : Int32} {l2 : Option Value} {a3 : Nat} {x4 : Int32} {x5 : Int32} {l6 : Option Value} {s0 : Int32} : Go d 5 82 [some (.ref a0), some (.int x1), l2, some (.ref a3), some (.int x4), some (.int x5), l6] [.int s0] h Q ↔ (if s0 = ii 0 then (Go d 5 115 [some (.ref a0), some (.int x1), l2, some (.ref a3), some (.int x4), some (.int x5), some (.int s0)] [] h Q) else (oC h a3 = 3 ∧ GoCr d 46 [.ref a3, .int x5] h (fun v1 h1 => okF h1 a0 0 2 2 ∧ oC h1 a0 = 0 ∧ GoCi d 2 [.ref a0, .ref (fR h1 a0 2), .int x5] h1 (fun v2 h2 => oC h2 a0 = 0 ∧ GoCi d 3 [.ref a0, .ref v1, .int v2] h2 (fun v3 h3 => (if v3 = ii 0 then (Go d 5 115 [some (.ref a0), some (.int x1), l2, some (.ref a3), some (.int x4), some (.int x5), some (.int s0)] [] h3 Q) else (Go d 5 115 [some (.ref a0), some (.int x1), l2, some (.ref a3), some (.int (x4 + ii 1)), some (.int x5), some (.int s0)] [] h3 Q))))))) := by
  refine (G_istore (k := 6) (L' := [some (.ref a0), some (.int x1), l2, some (.ref a3), some (.int x4), some (.int x5), some (.int s0)]) rfl (ltb rfl) rfl (mF fc5 (by rfl))).trans ?_
  refine (G_iload rfl (mF fc5 (by rfl))).trans ?_
  refine (G_eq (mF fc5 (by rfl))).trans (gi ?_ ?_)
  ·
    exact Iff.rfl
  ·
    refine (G_aload rfl (mF fc5 (by rfl))).trans ?_
    refine (G_aload rfl (mF fc5 (by rfl))).trans ?_
    refine (G_iload rfl (mF fc5 (by rfl))).trans ?_
    refine (G_Vr (q := 23602) (y := 46) (a := a3) (c := 3) rfl rfl rfl rfl (by decide) rfl (as := [.ref a3, .int x5]) (rest := [.ref a0]) rfl rfl (mF fc5 (by rfl))).trans (andR (GoCr_congr fun v1 h1 => ?_))
    refine (G_aload rfl (mF fc5 (by rfl))).trans ?_
    refine (G_aload rfl (mF fc5 (by rfl))).trans ?_
    refine (G_getR (c := 0) (k := 2) rfl rfl rfl (mF fc5 (by rfl))).trans (andR ?_)
    refine (G_iload rfl (mF fc5 (by rfl))).trans ?_
    refine (G_Vi (q := 1027) (y := 2) (a := a0) (c := 0) rfl rfl rfl rfl (by decide) rfl (as := [.ref a0, .ref (fR h1 a0 2), .int x5]) (rest := [.ref v1, .ref a0]) rfl rfl (mF fc5 (by rfl))).trans (andR (GoCi_congr fun v2 h2 => ?_))
    refine (G_Vi (q := 1539) (y := 3) (a := a0) (c := 0) rfl rfl rfl rfl (by decide) rfl (as := [.ref a0, .ref v1, .int v2]) (rest := []) rfl rfl (mF fc5 (by rfl))).trans (andR (GoCi_congr fun v3 h3 => ?_))
    refine (G_eq (mF fc5 (by rfl))).trans (gi ?_ ?_)
    ·
      exact Iff.rfl
    ·
      refine (G_iinc (k := 4) (L' := [some (.ref a0), some (.int x1), l2, some (.ref a3), some (.int (x4 + ii 1)), some (.int x5), some (.int s0)]) rfl rfl rfl (mF fc5 (by rfl))).trans ?_
      exact Iff.rfl
theorem b5_115 {d : Nat} {h : mHeap} {Q : Option Value → mHeap → Prop} {a0 : Nat} {x1 : Int32} {l2 : Option Value} {a3 : Nat} {x4 : Int32} {x5 : Int32} {l6 : Option Value} : Go d 5 115 [some (.ref a0), some (.int x1), l2, some (.ref a3), some (.int x4), some (.int x5), l6] [] h Q ↔ Go d 5 42 [some (.ref a0), some (.int x1), l2, some (.ref a3), some (.int x4), some (.int (x5 + ii 1)), l6] [] h Q := by
  refine (G_iinc (k := 5) (L' := [some (.ref a0), some (.int x1), l2, some (.ref a3), some (.int x4), some (.int (x5 + ii 1)), l6]) rfl rfl rfl (mF fc5 (by rfl))).trans ?_
  refine (G_goto (mF fc5 (by rfl))).trans ?_
  exact Iff.rfl
theorem e5 {d : Nat} {h : mHeap} {K : Int32 → mHeap → Prop} {a0 : Nat} {x1 : Int32} {x2 : Int32} : GoCi (d + 1) 5 [.ref a0, .int x1, .int x2] h K ↔ Go d 5 0 [some (.ref a0), some (.int x1), some (.int x2), none, none, none, none] [] h (rI K) := GoCi_entry rfl rfl
set_option maxRecDepth 20000 in
theorem fc6 : mCodes[6]? = some mc6 := rfl
theorem b6_0 {d : Nat} {h : mHeap} {Q : Option Value → mHeap → Prop} {a0 : Nat} {x1 : Int32} {x2 : Int32} : Go d 6 0 [some (.ref a0), some (.int x1), some (.int x2), none, none, none] [] h Q ↔ oC h a0 = 0 ∧ GoCi d 7 [.ref a0, .int x1] h (fun v1 h1 => (if ¬ v1 = ii 0 then (okF h1 a0 0 7 2 ∧ GoCv d 325 [.ref (fR h1 a0 7), .int (ii (-1))] h1 (fun h2 => okF h2 a0 0 3 2 ∧ okR h2 (fR h2 a0 3) (ii 0) ∧ okF h2 a0 0 0 2 ∧ okF h2 (fR h2 a0 0) 4 1 2 ∧ oC h2 (fR h2 (fR h2 a0 0) 1) = 3 ∧ GoCr d 46 [.ref (fR h2 (fR h2 a0 0) 1), .int (ii (-1))] h2 (fun v3 h3 => oC h3 (eR h2 (fR h2 a0 3) (ii 0)) = 10 ∧ GoCv d 117 [.ref (eR h2 (fR h2 a0 3) (ii 0)), .ref v3] h3 (fun h4 => oC h4 a0 = 0 ∧ GoCi d 9 [.ref a0, .int (ii 0), .int (ii 0), .int (ii 0)] h4 (fun v5 h5 => (¬ (ii 32) = ii 0) ∧ (if ¬ x2 = ii 0 then ((¬ (ii 2) = ii 0) ∧ (if ((x2 - (ii 1)) / (ii 2)) < (v5 / (ii 32)) then (oC h5 a0 = 0 ∧ GoCi d 12 [.ref a0, .int ((x2 - (ii 1)) / (ii 2))] h5 (fun v6 h6 => (¬ (ii 2) = ii 0) ∧ (if ¬ (irm x2 (ii 2)) = (ii 1) then ((¬ (ii 8) = ii 0) ∧ Q (some (.int (irm v6 (ii 8)))) h6) else (okF h6 a0 0 4 2 ∧ (¬ (ii 8) = ii 0) ∧ okA h6 (fR h6 a0 4) .int (v6 / (ii 8)) ∧ Q (some (.int (eI h6 (fR h6 a0 4) (v6 / (ii 8))))) h6)))) else (Q (some (.int (ii (-2)))) h5))) else (Q (some (.int (v5 / (ii 32)))) h5))))))) else (Q (some (.int (ii (-3)))) h1))) := by
  refine (G_aload rfl (mF fc6 (by rfl))).trans ?_
  refine (G_iload rfl (mF fc6 (by rfl))).trans ?_
  refine (G_Vi (q := 3586) (y := 7) (a := a0) (c := 0) rfl rfl rfl rfl (by decide) rfl (as := [.ref a0, .int x1]) (rest := []) rfl rfl (mF fc6 (by rfl))).trans (andR (GoCi_congr fun v1 h1 => ?_))
  refine (G_ne (mF fc6 (by rfl))).trans (gi ?_ ?_)
  ·
    refine (G_aload rfl (mF fc6 (by rfl))).trans ?_
    refine (G_getR (c := 0) (k := 7) rfl rfl rfl (mF fc6 (by rfl))).trans (andR ?_)
    refine (G_iconst (mF fc6 (by rfl))).trans ?_
    refine (G_Tv (q := 166690) (y := 325) rfl rfl rfl (as := [.ref (fR h1 a0 7), .int (ii (-1))]) (rest := []) rfl rfl (mF fc6 (by rfl))).trans (GoCv_congr fun h2 => ?_)
    refine (G_aload rfl (mF fc6 (by rfl))).trans ?_
    refine (G_getR (c := 0) (k := 3) rfl rfl rfl (mF fc6 (by rfl))).trans (andR ?_)
    refine (G_iconst (mF fc6 (by rfl))).trans ?_
    refine (G_aaloadR rfl (mF fc6 (by rfl))).trans (andR ?_)
    refine (G_aload rfl (mF fc6 (by rfl))).trans ?_
    refine (G_getR (c := 0) (k := 0) rfl rfl rfl (mF fc6 (by rfl))).trans (andR ?_)
    refine (G_getR (c := 4) (k := 1) rfl rfl rfl (mF fc6 (by rfl))).trans (andR ?_)
    refine (G_iconst (mF fc6 (by rfl))).trans ?_
    refine (G_Vr (q := 23602) (y := 46) (a := fR h2 (fR h2 a0 0) 1) (c := 3) rfl rfl rfl rfl (by decide) rfl (as := [.ref (fR h2 (fR h2 a0 0) 1), .int (ii (-1))]) (rest := [.ref (eR h2 (fR h2 a0 3) (ii 0))]) rfl rfl (mF fc6 (by rfl))).trans (andR (GoCr_congr fun v3 h3 => ?_))
    refine (G_Vv (q := 60066) (y := 117) (a := eR h2 (fR h2 a0 3) (ii 0)) (c := 10) rfl rfl rfl rfl (by decide) rfl (as := [.ref (eR h2 (fR h2 a0 3) (ii 0)), .ref v3]) (rest := []) rfl rfl (mF fc6 (by rfl))).trans (andR (GoCv_congr fun h4 => ?_))
    refine (G_aload rfl (mF fc6 (by rfl))).trans ?_
    refine (G_iconst (mF fc6 (by rfl))).trans ?_
    refine (G_iconst (mF fc6 (by rfl))).trans ?_
    refine (G_iconst (mF fc6 (by rfl))).trans ?_
    refine (G_Vi (q := 4612) (y := 9) (a := a0) (c := 0) rfl rfl rfl rfl (by decide) rfl (as := [.ref a0, .int (ii 0), .int (ii 0), .int (ii 0)]) (rest := []) rfl rfl (mF fc6 (by rfl))).trans (andR (GoCi_congr fun v5 h5 => ?_))
    refine (G_iconst (mF fc6 (by rfl))).trans ?_
    refine (G_idiv (mF fc6 (by rfl))).trans (andR ?_)
    refine (G_istore (k := 3) (L' := [some (.ref a0), some (.int x1), some (.int x2), some (.int (v5 / (ii 32))), none, none]) rfl (ltb rfl) rfl (mF fc6 (by rfl))).trans ?_
    refine (G_iload rfl (mF fc6 (by rfl))).trans ?_
    refine (G_ne (mF fc6 (by rfl))).trans (gi ?_ ?_)
    ·
      refine (G_iload rfl (mF fc6 (by rfl))).trans ?_
      refine (G_iconst (mF fc6 (by rfl))).trans ?_
      refine (G_isub (mF fc6 (by rfl))).trans ?_
      refine (G_iconst (mF fc6 (by rfl))).trans ?_
      refine (G_idiv (mF fc6 (by rfl))).trans (andR ?_)
      refine (G_istore (k := 4) (L' := [some (.ref a0), some (.int x1), some (.int x2), some (.int (v5 / (ii 32))), some (.int ((x2 - (ii 1)) / (ii 2))), none]) rfl (ltb rfl) rfl (mF fc6 (by rfl))).trans ?_
      refine (G_iload rfl (mF fc6 (by rfl))).trans ?_
      refine (G_iload rfl (mF fc6 (by rfl))).trans ?_
      refine (G_ilt (mF fc6 (by rfl))).trans (gi ?_ ?_)
      ·
        refine (G_aload rfl (mF fc6 (by rfl))).trans ?_
        refine (G_iload rfl (mF fc6 (by rfl))).trans ?_
        refine (G_Vi (q := 6146) (y := 12) (a := a0) (c := 0) rfl rfl rfl rfl (by decide) rfl (as := [.ref a0, .int ((x2 - (ii 1)) / (ii 2))]) (rest := []) rfl rfl (mF fc6 (by rfl))).trans (andR (GoCi_congr fun v6 h6 => ?_))
        refine (G_istore (k := 5) (L' := [some (.ref a0), some (.int x1), some (.int x2), some (.int (v5 / (ii 32))), some (.int ((x2 - (ii 1)) / (ii 2))), some (.int v6)]) rfl (ltb rfl) rfl (mF fc6 (by rfl))).trans ?_
        refine (G_iload rfl (mF fc6 (by rfl))).trans ?_
        refine (G_iconst (mF fc6 (by rfl))).trans ?_
        refine (G_irem (mF fc6 (by rfl))).trans (andR ?_)
        refine (G_iconst (mF fc6 (by rfl))).trans ?_
        refine (G_ine (mF fc6 (by rfl))).trans (gi ?_ ?_)
        ·
          refine (G_iload rfl (mF fc6 (by rfl))).trans ?_
          refine (G_iconst (mF fc6 (by rfl))).trans ?_
          refine (G_irem (mF fc6 (by rfl))).trans (andR ?_)
          exact G_ireturnI rfl (mF fc6 (by rfl))
        ·
          refine (G_aload rfl (mF fc6 (by rfl))).trans ?_
          refine (G_getR (c := 0) (k := 4) rfl rfl rfl (mF fc6 (by rfl))).trans (andR ?_)
          refine (G_iload rfl (mF fc6 (by rfl))).trans ?_
          refine (G_iconst (mF fc6 (by rfl))).trans ?_
          refine (G_idiv (mF fc6 (by rfl))).trans (andR ?_)
          refine (G_iaload (mF fc6 (by rfl))).trans (andR ?_)
          refine (G_goto (mF fc6 (by rfl))).trans ?_
          exact G_ireturnI rfl (mF fc6 (by rfl))
      ·
        refine (G_iconst (mF fc6 (by rfl))).trans ?_
        exact G_ireturnI rfl (mF fc6 (by rfl))
    ·
      refine (G_iload rfl (mF fc6 (by rfl))).trans ?_
      exact G_ireturnI rfl (mF fc6 (by rfl))
  ·
    refine (G_iconst (mF fc6 (by rfl))).trans ?_
    exact G_ireturnI rfl (mF fc6 (by rfl))
theorem e6 {d : Nat} {h : mHeap} {K : Int32 → mHeap → Prop} {a0 : Nat} {x1 : Int32} {x2 : Int32} : GoCi (d + 1) 6 [.ref a0, .int x1, .int x2] h K ↔ Go d 6 0 [some (.ref a0), some (.int x1), some (.int x2), none, none, none] [] h (rI K) := GoCi_entry rfl rfl
set_option maxRecDepth 20000 in
theorem fc7 : mCodes[7]? = some mc7 := rfl
theorem b7_0 {d : Nat} {h : mHeap} {Q : Option Value → mHeap → Prop} {a0 : Nat} {x1 : Int32} : Go d 7 0 [some (.ref a0), some (.int x1), none, none, none] [] h Q ↔ okF h a0 0 0 2 ∧ okF h (fR h a0 0) 4 1 2 ∧ okP h a0 0 6 ∧ Go d 7 20 [some (.ref a0), some (.int x1), some (.ref (fR h (fR h a0 0) 1)), some (.int (ii 255)), some (.int (ii 0))] [] (sF h a0 6 (.int (ii 0))) Q := by
  refine (G_aload rfl (mF fc7 (by rfl))).trans ?_
  refine (G_getR (c := 0) (k := 0) rfl rfl rfl (mF fc7 (by rfl))).trans (andR ?_)
  refine (G_getR (c := 4) (k := 1) rfl rfl rfl (mF fc7 (by rfl))).trans (andR ?_)
  refine (G_astore (k := 2) (L' := [some (.ref a0), some (.int x1), some (.ref (fR h (fR h a0 0) 1)), none, none]) rfl (ltb rfl) rfl (mF fc7 (by rfl))).trans ?_
  refine (G_iconst (mF fc7 (by rfl))).trans ?_
  refine (G_istore (k := 3) (L' := [some (.ref a0), some (.int x1), some (.ref (fR h (fR h a0 0) 1)), some (.int (ii 255)), none]) rfl (ltb rfl) rfl (mF fc7 (by rfl))).trans ?_
  refine (G_aload rfl (mF fc7 (by rfl))).trans ?_
  refine (G_iconst (mF fc7 (by rfl))).trans ?_
  refine (G_putT (c := 0) (k := 6) rfl rfl rfl (mF fc7 (by rfl))).trans (andR ?_)
  refine (G_iconst (mF fc7 (by rfl))).trans ?_
  refine (G_istore (k := 4) (L' := [some (.ref a0), some (.int x1), some (.ref (fR h (fR h a0 0) 1)), some (.int (ii 255)), some (.int (ii 0))]) rfl (ltb rfl) rfl (mF fc7 (by rfl))).trans ?_
  exact Iff.rfl
theorem b7_20 {d : Nat} {h : mHeap} {Q : Option Value → mHeap → Prop} {a0 : Nat} {x1 : Int32} {a2 : Nat} {x3 : Int32} {x4 : Int32} : Go d 7 20 [some (.ref a0), some (.int x1), some (.ref a2), some (.int x3), some (.int x4)] [] h Q ↔ okF h a0 0 0 2 ∧ okF h (fR h a0 0) 4 0 2 ∧ okF h (fR h (fR h a0 0) 0) 2 2 0 ∧ (if (fI h (fR h (fR h a0 0) 0) 2) ≤ x4 then (((ii 1) = ii 0 ∨ (ii 1) = ii 1) ∧ Q (some (.int (ii 1))) h) else (oC h a2 = 3 ∧ GoCi d 48 [.ref a2, .int x4] h (fun v1 h1 => (if ¬ v1 = x1 then (Go d 7 105 [some (.ref a0), some (.int x1), some (.ref a2), some (.int x3), some (.int x4)] [] h1 Q) else (oC h1 a2 = 3 ∧ GoCi d 49 [.ref a2, .int x4] h1 (fun v2 h2 => (if ¬ v2 = ii 0 then (Go d 7 105 [some (.ref a0), some (.int x1), some (.ref a2), some (.int x3), some (.int x4)] [] h2 Q) else (okF h2 a0 0 6 0 ∧ (if (fI h2 a0 6) < (ii 4) then (okF h2 a0 0 4 2 ∧ okF h2 a0 0 6 0 ∧ (64 ≤ (fR h2 a0 4) ∧ okA h2 (fR h2 a0 4) .int (fI h2 a0 6)) ∧ okF (sI h2 (fR h2 a0 4) (fI h2 a0 6) x4) a0 0 5 2 ∧ okF (sI h2 (fR h2 a0 4) (fI h2 a0 6) x4) a0 0 6 0 ∧ oC (sI h2 (fR h2 a0 4) (fI h2 a0 6) x4) a2 = 3 ∧ GoCr d 46 [.ref a2, .int x4] (sI h2 (fR h2 a0 4) (fI h2 a0 6) x4) (fun v3 h3 => oC h3 a0 = 0 ∧ GoCi d 3 [.ref a0, .ref v3, .int x3] h3 (fun v4 h4 => (64 ≤ (fR (sI h2 (fR h2 a0 4) (fI h2 a0 6) x4) a0 5) ∧ okA h4 (fR (sI h2 (fR h2 a0 4) (fI h2 a0 6) x4) a0 5) .int (fI (sI h2 (fR h2 a0 4) (fI h2 a0 6) x4) a0 6)) ∧ okF (sI h4 (fR (sI h2 (fR h2 a0 4) (fI h2 a0 6) x4) a0 5) (fI (sI h2 (fR h2 a0 4) (fI h2 a0 6) x4) a0 6) v4) a0 0 6 0 ∧ okP (sI h4 (fR (sI h2 (fR h2 a0 4) (fI h2 a0 6) x4) a0 5) (fI (sI h2 (fR h2 a0 4) (fI h2 a0 6) x4) a0 6) v4) a0 0 6 ∧ Go d 7 105 [some (.ref a0), some (.int x1), some (.ref a2), some (.int x3), some (.int x4)] [] (sF (sI h4 (fR (sI h2 (fR h2 a0 4) (fI h2 a0 6) x4) a0 5) (fI (sI h2 (fR h2 a0 4) (fI h2 a0 6) x4) a0 6) v4) a0 6 (.int ((fI (sI h4 (fR (sI h2 (fR h2 a0 4) (fI h2 a0 6) x4) a0 5) (fI (sI h2 (fR h2 a0 4) (fI h2 a0 6) x4) a0 6) v4) a0 6) + (ii 1)))) Q))) else (((ii 0) = ii 0 ∨ (ii 0) = ii 1) ∧ Q (some (.int (ii 0))) h2)))))))))) := by
  refine (G_iload rfl (mF fc7 (by rfl))).trans ?_
  refine (G_aload rfl (mF fc7 (by rfl))).trans ?_
  refine (G_getR (c := 0) (k := 0) rfl rfl rfl (mF fc7 (by rfl))).trans (andR ?_)
  refine (G_getR (c := 4) (k := 0) rfl rfl rfl (mF fc7 (by rfl))).trans (andR ?_)
  refine (G_getI (c := 2) (k := 2) rfl rfl rfl (mF fc7 (by rfl))).trans (andR ?_)
  refine (G_ige (mF fc7 (by rfl))).trans (gi ?_ ?_)
  ·
    refine (G_iconst (mF fc7 (by rfl))).trans ?_
    exact G_ireturnZ rfl (mF fc7 (by rfl))
  ·
    refine (G_aload rfl (mF fc7 (by rfl))).trans ?_
    refine (G_iload rfl (mF fc7 (by rfl))).trans ?_
    refine (G_Vi (q := 24626) (y := 48) (a := a2) (c := 3) rfl rfl rfl rfl (by decide) rfl (as := [.ref a2, .int x4]) (rest := []) rfl rfl (mF fc7 (by rfl))).trans (andR (GoCi_congr fun v1 h1 => ?_))
    refine (G_iload rfl (mF fc7 (by rfl))).trans ?_
    refine (G_ine (mF fc7 (by rfl))).trans (gi ?_ ?_)
    ·
      exact Iff.rfl
    ·
      refine (G_aload rfl (mF fc7 (by rfl))).trans ?_
      refine (G_iload rfl (mF fc7 (by rfl))).trans ?_
      refine (G_Vi (q := 25138) (y := 49) (a := a2) (c := 3) rfl rfl rfl rfl (by decide) rfl (as := [.ref a2, .int x4]) (rest := []) rfl rfl (mF fc7 (by rfl))).trans (andR (GoCi_congr fun v2 h2 => ?_))
      refine (G_ne (mF fc7 (by rfl))).trans (gi ?_ ?_)
      ·
        exact Iff.rfl
      ·
        refine (G_aload rfl (mF fc7 (by rfl))).trans ?_
        refine (G_getI (c := 0) (k := 6) rfl rfl rfl (mF fc7 (by rfl))).trans (andR ?_)
        refine (G_iconst (mF fc7 (by rfl))).trans ?_
        refine (G_ilt (mF fc7 (by rfl))).trans (gi ?_ ?_)
        ·
          refine (G_aload rfl (mF fc7 (by rfl))).trans ?_
          refine (G_getR (c := 0) (k := 4) rfl rfl rfl (mF fc7 (by rfl))).trans (andR ?_)
          refine (G_aload rfl (mF fc7 (by rfl))).trans ?_
          refine (G_getI (c := 0) (k := 6) rfl rfl rfl (mF fc7 (by rfl))).trans (andR ?_)
          refine (G_iload rfl (mF fc7 (by rfl))).trans ?_
          refine (G_iastore (mF fc7 (by rfl))).trans (andR ?_)
          refine (G_aload rfl (mF fc7 (by rfl))).trans ?_
          refine (G_getR (c := 0) (k := 5) rfl rfl rfl (mF fc7 (by rfl))).trans (andR ?_)
          refine (G_aload rfl (mF fc7 (by rfl))).trans ?_
          refine (G_getI (c := 0) (k := 6) rfl rfl rfl (mF fc7 (by rfl))).trans (andR ?_)
          refine (G_aload rfl (mF fc7 (by rfl))).trans ?_
          refine (G_aload rfl (mF fc7 (by rfl))).trans ?_
          refine (G_iload rfl (mF fc7 (by rfl))).trans ?_
          refine (G_Vr (q := 23602) (y := 46) (a := a2) (c := 3) rfl rfl rfl rfl (by decide) rfl (as := [.ref a2, .int x4]) (rest := [.ref a0, .int (fI (sI h2 (fR h2 a0 4) (fI h2 a0 6) x4) a0 6), .ref (fR (sI h2 (fR h2 a0 4) (fI h2 a0 6) x4) a0 5)]) rfl rfl (mF fc7 (by rfl))).trans (andR (GoCr_congr fun v3 h3 => ?_))
          refine (G_iload rfl (mF fc7 (by rfl))).trans ?_
          refine (G_Vi (q := 1539) (y := 3) (a := a0) (c := 0) rfl rfl rfl rfl (by decide) rfl (as := [.ref a0, .ref v3, .int x3]) (rest := [.int (fI (sI h2 (fR h2 a0 4) (fI h2 a0 6) x4) a0 6), .ref (fR (sI h2 (fR h2 a0 4) (fI h2 a0 6) x4) a0 5)]) rfl rfl (mF fc7 (by rfl))).trans (andR (GoCi_congr fun v4 h4 => ?_))
          refine (G_iastore (mF fc7 (by rfl))).trans (andR ?_)
          refine (G_aload rfl (mF fc7 (by rfl))).trans ?_
          refine (G_dupr (mF fc7 (by rfl))).trans ?_
          refine (G_getI (c := 0) (k := 6) rfl rfl rfl (mF fc7 (by rfl))).trans (andR ?_)
          refine (G_iconst (mF fc7 (by rfl))).trans ?_
          refine (G_iadd (mF fc7 (by rfl))).trans ?_
          refine (G_putT (c := 0) (k := 6) rfl rfl rfl (mF fc7 (by rfl))).trans (andR ?_)
          exact Iff.rfl
        ·
          refine (G_iconst (mF fc7 (by rfl))).trans ?_
          exact G_ireturnZ rfl (mF fc7 (by rfl))
theorem b7_105 {d : Nat} {h : mHeap} {Q : Option Value → mHeap → Prop} {a0 : Nat} {x1 : Int32} {a2 : Nat} {x3 : Int32} {x4 : Int32} : Go d 7 105 [some (.ref a0), some (.int x1), some (.ref a2), some (.int x3), some (.int x4)] [] h Q ↔ Go d 7 20 [some (.ref a0), some (.int x1), some (.ref a2), some (.int x3), some (.int (x4 + ii 1))] [] h Q := by
  refine (G_iinc (k := 4) (L' := [some (.ref a0), some (.int x1), some (.ref a2), some (.int x3), some (.int (x4 + ii 1))]) rfl rfl rfl (mF fc7 (by rfl))).trans ?_
  refine (G_goto (mF fc7 (by rfl))).trans ?_
  exact Iff.rfl
theorem e7 {d : Nat} {h : mHeap} {K : Int32 → mHeap → Prop} {a0 : Nat} {x1 : Int32} : GoCi (d + 1) 7 [.ref a0, .int x1] h K ↔ Go d 7 0 [some (.ref a0), some (.int x1), none, none, none] [] h (rI K) := GoCi_entry rfl rfl
set_option maxRecDepth 20000 in
theorem fc8 : mCodes[8]? = some mc8 := rfl
theorem b8_0 {d : Nat} {h : mHeap} {Q : Option Value → mHeap → Prop} {a0 : Nat} {x1 : Int32} {x2 : Int32} {x3 : Int32} : Go d 8 0 [some (.ref a0), some (.int x1), some (.int x2), some (.int x3), none, none] [] h Q ↔ (¬ (ii 8) = ii 0) ∧ (¬ (ii 8) = ii 0) ∧ (if ¬ ((shr x3 (x2 / (ii 8))) &&& (ii 1)) = ii 0 then (((ii 0) = ii 0 ∨ (ii 0) = ii 1) ∧ Q (some (.int (ii 0))) h) else (okF h a0 0 5 2 ∧ okA h (fR h a0 5) .int (x2 / (ii 8)) ∧ (if ((shr (eI h (fR h a0 5) (x2 / (ii 8))) (irm x2 (ii 8))) &&& (ii 1)) = ii 0 then (((ii 0) = ii 0 ∨ (ii 0) = ii 1) ∧ Q (some (.int (ii 0))) h) else (okF h a0 0 3 2 ∧ okR h (fR h a0 3) x1 ∧ okF h a0 0 4 2 ∧ okA h (fR h a0 4) .int (x2 / (ii 8)) ∧ oC h a0 = 0 ∧ GoCi d 1 [.ref a0, .ref (eR h (fR h a0 3) x1), .int (eI h (fR h a0 4) (x2 / (ii 8))), .int (irm x2 (ii 8))] h (fun v1 h1 => (if v1 = ii 0 then (((ii 0) = ii 0 ∨ (ii 0) = ii 1) ∧ Q (some (.int (ii 0))) h1) else (((ii 1) = ii 0 ∨ (ii 1) = ii 1) ∧ Q (some (.int (ii 1))) h1))))))) := by
  refine (G_iload rfl (mF fc8 (by rfl))).trans ?_
  refine (G_iconst (mF fc8 (by rfl))).trans ?_
  refine (G_idiv (mF fc8 (by rfl))).trans (andR ?_)
  refine (G_istore (k := 4) (L' := [some (.ref a0), some (.int x1), some (.int x2), some (.int x3), some (.int (x2 / (ii 8))), none]) rfl (ltb rfl) rfl (mF fc8 (by rfl))).trans ?_
  refine (G_iload rfl (mF fc8 (by rfl))).trans ?_
  refine (G_iconst (mF fc8 (by rfl))).trans ?_
  refine (G_irem (mF fc8 (by rfl))).trans (andR ?_)
  refine (G_istore (k := 5) (L' := [some (.ref a0), some (.int x1), some (.int x2), some (.int x3), some (.int (x2 / (ii 8))), some (.int (irm x2 (ii 8)))]) rfl (ltb rfl) rfl (mF fc8 (by rfl))).trans ?_
  refine (G_iload rfl (mF fc8 (by rfl))).trans ?_
  refine (G_iload rfl (mF fc8 (by rfl))).trans ?_
  refine (G_ishr (mF fc8 (by rfl))).trans ?_
  refine (G_iconst (mF fc8 (by rfl))).trans ?_
  refine (G_iand (mF fc8 (by rfl))).trans ?_
  refine (G_ne (mF fc8 (by rfl))).trans (gi ?_ ?_)
  ·
    refine (G_iconst (mF fc8 (by rfl))).trans ?_
    exact G_ireturnZ rfl (mF fc8 (by rfl))
  ·
    refine (G_aload rfl (mF fc8 (by rfl))).trans ?_
    refine (G_getR (c := 0) (k := 5) rfl rfl rfl (mF fc8 (by rfl))).trans (andR ?_)
    refine (G_iload rfl (mF fc8 (by rfl))).trans ?_
    refine (G_iaload (mF fc8 (by rfl))).trans (andR ?_)
    refine (G_iload rfl (mF fc8 (by rfl))).trans ?_
    refine (G_ishr (mF fc8 (by rfl))).trans ?_
    refine (G_iconst (mF fc8 (by rfl))).trans ?_
    refine (G_iand (mF fc8 (by rfl))).trans ?_
    refine (G_eq (mF fc8 (by rfl))).trans (gi ?_ ?_)
    ·
      refine (G_iconst (mF fc8 (by rfl))).trans ?_
      exact G_ireturnZ rfl (mF fc8 (by rfl))
    ·
      refine (G_aload rfl (mF fc8 (by rfl))).trans ?_
      refine (G_aload rfl (mF fc8 (by rfl))).trans ?_
      refine (G_getR (c := 0) (k := 3) rfl rfl rfl (mF fc8 (by rfl))).trans (andR ?_)
      refine (G_iload rfl (mF fc8 (by rfl))).trans ?_
      refine (G_aaloadR rfl (mF fc8 (by rfl))).trans (andR ?_)
      refine (G_aload rfl (mF fc8 (by rfl))).trans ?_
      refine (G_getR (c := 0) (k := 4) rfl rfl rfl (mF fc8 (by rfl))).trans (andR ?_)
      refine (G_iload rfl (mF fc8 (by rfl))).trans ?_
      refine (G_iaload (mF fc8 (by rfl))).trans (andR ?_)
      refine (G_iload rfl (mF fc8 (by rfl))).trans ?_
      refine (G_Vi (q := 516) (y := 1) (a := a0) (c := 0) rfl rfl rfl rfl (by decide) rfl (as := [.ref a0, .ref (eR h (fR h a0 3) x1), .int (eI h (fR h a0 4) (x2 / (ii 8))), .int (irm x2 (ii 8))]) (rest := []) rfl rfl (mF fc8 (by rfl))).trans (andR (GoCi_congr fun v1 h1 => ?_))
      refine (G_eq (mF fc8 (by rfl))).trans (gi ?_ ?_)
      ·
        refine (G_iconst (mF fc8 (by rfl))).trans ?_
        exact G_ireturnZ rfl (mF fc8 (by rfl))
      ·
        refine (G_iconst (mF fc8 (by rfl))).trans ?_
        refine (G_goto (mF fc8 (by rfl))).trans ?_
        exact G_ireturnZ rfl (mF fc8 (by rfl))
theorem e8 {d : Nat} {h : mHeap} {K : Int32 → mHeap → Prop} {a0 : Nat} {x1 : Int32} {x2 : Int32} {x3 : Int32} : GoCi (d + 1) 8 [.ref a0, .int x1, .int x2, .int x3] h K ↔ Go d 8 0 [some (.ref a0), some (.int x1), some (.int x2), some (.int x3), none, none] [] h (rI K) := GoCi_entry rfl rfl
set_option maxRecDepth 20000 in
theorem fc9 : mCodes[9]? = some mc9 := rfl
theorem b9_0 {d : Nat} {h : mHeap} {Q : Option Value → mHeap → Prop} {a0 : Nat} {x1 : Int32} {x2 : Int32} {x3 : Int32} : Go d 9 0 [some (.ref a0), some (.int x1), some (.int x2), some (.int x3), none, none, none, none, none] [] h Q ↔ okF h a0 0 6 0 ∧ (if x1 < (fI h a0 6) then (okF h a0 0 7 2 ∧ okA h (fR h a0 7) .int ((x2 * (ii 256)) + x3) ∧ (if (eI h (fR h a0 7) ((x2 * (ii 256)) + x3)) = (ii (-1)) then (Go d 9 44 [some (.ref a0), some (.int x1), some (.int x2), some (.int x3), some (.int ((x2 * (ii 256)) + x3)), some (.int (ii 0)), some (.int (ii 0)), none, none] [] h Q) else (okF h a0 0 7 2 ∧ okA h (fR h a0 7) .int ((x2 * (ii 256)) + x3) ∧ Q (some (.int (eI h (fR h a0 7) ((x2 * (ii 256)) + x3)))) h))) else (Q (some (.int (ii 0))) h)) := by
  refine (G_iload rfl (mF fc9 (by rfl))).trans ?_
  refine (G_aload rfl (mF fc9 (by rfl))).trans ?_
  refine (G_getI (c := 0) (k := 6) rfl rfl rfl (mF fc9 (by rfl))).trans (andR ?_)
  refine (G_ilt (mF fc9 (by rfl))).trans (gi ?_ ?_)
  ·
    refine (G_iload rfl (mF fc9 (by rfl))).trans ?_
    refine (G_iconst (mF fc9 (by rfl))).trans ?_
    refine (G_imul (mF fc9 (by rfl))).trans ?_
    refine (G_iload rfl (mF fc9 (by rfl))).trans ?_
    refine (G_iadd (mF fc9 (by rfl))).trans ?_
    refine (G_istore (k := 4) (L' := [some (.ref a0), some (.int x1), some (.int x2), some (.int x3), some (.int ((x2 * (ii 256)) + x3)), none, none, none, none]) rfl (ltb rfl) rfl (mF fc9 (by rfl))).trans ?_
    refine (G_aload rfl (mF fc9 (by rfl))).trans ?_
    refine (G_getR (c := 0) (k := 7) rfl rfl rfl (mF fc9 (by rfl))).trans (andR ?_)
    refine (G_iload rfl (mF fc9 (by rfl))).trans ?_
    refine (G_iaload (mF fc9 (by rfl))).trans (andR ?_)
    refine (G_iconst (mF fc9 (by rfl))).trans ?_
    refine (G_ieq (mF fc9 (by rfl))).trans (gi ?_ ?_)
    ·
      refine (G_iconst (mF fc9 (by rfl))).trans ?_
      refine (G_istore (k := 5) (L' := [some (.ref a0), some (.int x1), some (.int x2), some (.int x3), some (.int ((x2 * (ii 256)) + x3)), some (.int (ii 0)), none, none, none]) rfl (ltb rfl) rfl (mF fc9 (by rfl))).trans ?_
      refine (G_iconst (mF fc9 (by rfl))).trans ?_
      refine (G_istore (k := 6) (L' := [some (.ref a0), some (.int x1), some (.int x2), some (.int x3), some (.int ((x2 * (ii 256)) + x3)), some (.int (ii 0)), some (.int (ii 0)), none, none]) rfl (ltb rfl) rfl (mF fc9 (by rfl))).trans ?_
      exact Iff.rfl
    ·
      refine (G_aload rfl (mF fc9 (by rfl))).trans ?_
      refine (G_getR (c := 0) (k := 7) rfl rfl rfl (mF fc9 (by rfl))).trans (andR ?_)
      refine (G_iload rfl (mF fc9 (by rfl))).trans ?_
      refine (G_iaload (mF fc9 (by rfl))).trans (andR ?_)
      exact G_ireturnI rfl (mF fc9 (by rfl))
  ·
    refine (G_iconst (mF fc9 (by rfl))).trans ?_
    exact G_ireturnI rfl (mF fc9 (by rfl))
theorem b9_44 {d : Nat} {h : mHeap} {Q : Option Value → mHeap → Prop} {a0 : Nat} {x1 : Int32} {x2 : Int32} {x3 : Int32} {x4 : Int32} {x5 : Int32} {x6 : Int32} {l7 : Option Value} {l8 : Option Value} : Go d 9 44 [some (.ref a0), some (.int x1), some (.int x2), some (.int x3), some (.int x4), some (.int x5), some (.int x6), l7, l8] [] h Q ↔ okF h a0 0 6 0 ∧ (if ((fI h a0 6) * (ii 8)) ≤ x6 then (okF h a0 0 7 2 ∧ (64 ≤ (fR h a0 7) ∧ okA h (fR h a0 7) .int x4) ∧ Q (some (.int x5)) (sI h (fR h a0 7) x4 x5)) else (oC h a0 = 0 ∧ GoCi d 8 [.ref a0, .int x1, .int x6, .int x2] h (fun v1 h1 => (if v1 = ii 0 then (Go d 9 158 [some (.ref a0), some (.int x1), some (.int x2), some (.int x3), some (.int x4), some (.int x5), some (.int x6), l7, l8] [] h1 Q) else (okF h1 a0 0 3 2 ∧ okR h1 (fR h1 a0 3) (x1 + (ii 1)) ∧ okF h1 a0 0 3 2 ∧ okR h1 (fR h1 a0 3) x1 ∧ oC h1 (eR h1 (fR h1 a0 3) (x1 + (ii 1))) = 10 ∧ GoCv d 117 [.ref (eR h1 (fR h1 a0 3) (x1 + (ii 1))), .ref (eR h1 (fR h1 a0 3) x1)] h1 (fun h2 => okF h2 a0 0 3 2 ∧ okR h2 (fR h2 a0 3) (x1 + (ii 1)) ∧ okF h2 a0 0 1 2 ∧ okF h2 (fR h2 a0 1) 8 0 2 ∧ (¬ (ii 8) = ii 0) ∧ okR h2 (fR h2 (fR h2 a0 1) 0) (irm x6 (ii 8)) ∧ oC h2 (eR h2 (fR h2 a0 3) (x1 + (ii 1))) = 10 ∧ GoCv d 121 [.ref (eR h2 (fR h2 a0 3) (x1 + (ii 1))), .ref (eR h2 (fR h2 (fR h2 a0 1) 0) (irm x6 (ii 8)))] h2 (fun h3 => GoCi d 10 [.int x2, .int x6] h3 (fun v4 h4 => GoCi d 11 [.int x3, .int x6] h4 (fun v5 h5 => oC h5 a0 = 0 ∧ GoCi d 9 [.ref a0, .int (x1 + (ii 1)), .int v4, .int v5] h5 (fun v6 h6 => (¬ (ii 32) = ii 0) ∧ (¬ (ii 32) = ii 0) ∧ (if ((ii 1) + (v6 / (ii 32))) ≤ (x5 / (ii 32)) then (Go d 9 158 [some (.ref a0), some (.int x1), some (.int x2), some (.int x3), some (.int x4), some (.int x5), some (.int x6), some (.int v6), some (.int ((ii 1) + (v6 / (ii 32))))] [] h6 Q) else (Go d 9 158 [some (.ref a0), some (.int x1), some (.int x2), some (.int x3), some (.int x4), some (.int ((((ii 1) + (v6 / (ii 32))) * (ii 32)) + x6)), some (.int x6), some (.int v6), some (.int ((ii 1) + (v6 / (ii 32))))] [] h6 Q)))))))))))) := by
  refine (G_iload rfl (mF fc9 (by rfl))).trans ?_
  refine (G_aload rfl (mF fc9 (by rfl))).trans ?_
  refine (G_getI (c := 0) (k := 6) rfl rfl rfl (mF fc9 (by rfl))).trans (andR ?_)
  refine (G_iconst (mF fc9 (by rfl))).trans ?_
  refine (G_imul (mF fc9 (by rfl))).trans ?_
  refine (G_ige (mF fc9 (by rfl))).trans (gi ?_ ?_)
  ·
    refine (G_aload rfl (mF fc9 (by rfl))).trans ?_
    refine (G_getR (c := 0) (k := 7) rfl rfl rfl (mF fc9 (by rfl))).trans (andR ?_)
    refine (G_iload rfl (mF fc9 (by rfl))).trans ?_
    refine (G_iload rfl (mF fc9 (by rfl))).trans ?_
    refine (G_iastore (mF fc9 (by rfl))).trans (andR ?_)
    refine (G_iload rfl (mF fc9 (by rfl))).trans ?_
    exact G_ireturnI rfl (mF fc9 (by rfl))
  ·
    refine (G_aload rfl (mF fc9 (by rfl))).trans ?_
    refine (G_iload rfl (mF fc9 (by rfl))).trans ?_
    refine (G_iload rfl (mF fc9 (by rfl))).trans ?_
    refine (G_iload rfl (mF fc9 (by rfl))).trans ?_
    refine (G_Vi (q := 4100) (y := 8) (a := a0) (c := 0) rfl rfl rfl rfl (by decide) rfl (as := [.ref a0, .int x1, .int x6, .int x2]) (rest := []) rfl rfl (mF fc9 (by rfl))).trans (andR (GoCi_congr fun v1 h1 => ?_))
    refine (G_eq (mF fc9 (by rfl))).trans (gi ?_ ?_)
    ·
      exact Iff.rfl
    ·
      refine (G_aload rfl (mF fc9 (by rfl))).trans ?_
      refine (G_getR (c := 0) (k := 3) rfl rfl rfl (mF fc9 (by rfl))).trans (andR ?_)
      refine (G_iload rfl (mF fc9 (by rfl))).trans ?_
      refine (G_iconst (mF fc9 (by rfl))).trans ?_
      refine (G_iadd (mF fc9 (by rfl))).trans ?_
      refine (G_aaloadR rfl (mF fc9 (by rfl))).trans (andR ?_)
      refine (G_aload rfl (mF fc9 (by rfl))).trans ?_
      refine (G_getR (c := 0) (k := 3) rfl rfl rfl (mF fc9 (by rfl))).trans (andR ?_)
      refine (G_iload rfl (mF fc9 (by rfl))).trans ?_
      refine (G_aaloadR rfl (mF fc9 (by rfl))).trans (andR ?_)
      refine (G_Vv (q := 60066) (y := 117) (a := eR h1 (fR h1 a0 3) (x1 + (ii 1))) (c := 10) rfl rfl rfl rfl (by decide) rfl (as := [.ref (eR h1 (fR h1 a0 3) (x1 + (ii 1))), .ref (eR h1 (fR h1 a0 3) x1)]) (rest := []) rfl rfl (mF fc9 (by rfl))).trans (andR (GoCv_congr fun h2 => ?_))
      refine (G_aload rfl (mF fc9 (by rfl))).trans ?_
      refine (G_getR (c := 0) (k := 3) rfl rfl rfl (mF fc9 (by rfl))).trans (andR ?_)
      refine (G_iload rfl (mF fc9 (by rfl))).trans ?_
      refine (G_iconst (mF fc9 (by rfl))).trans ?_
      refine (G_iadd (mF fc9 (by rfl))).trans ?_
      refine (G_aaloadR rfl (mF fc9 (by rfl))).trans (andR ?_)
      refine (G_aload rfl (mF fc9 (by rfl))).trans ?_
      refine (G_getR (c := 0) (k := 1) rfl rfl rfl (mF fc9 (by rfl))).trans (andR ?_)
      refine (G_getR (c := 8) (k := 0) rfl rfl rfl (mF fc9 (by rfl))).trans (andR ?_)
      refine (G_iload rfl (mF fc9 (by rfl))).trans ?_
      refine (G_iconst (mF fc9 (by rfl))).trans ?_
      refine (G_irem (mF fc9 (by rfl))).trans (andR ?_)
      refine (G_aaloadR rfl (mF fc9 (by rfl))).trans (andR ?_)
      refine (G_Vv (q := 62114) (y := 121) (a := eR h2 (fR h2 a0 3) (x1 + (ii 1))) (c := 10) rfl rfl rfl rfl (by decide) rfl (as := [.ref (eR h2 (fR h2 a0 3) (x1 + (ii 1))), .ref (eR h2 (fR h2 (fR h2 a0 1) 0) (irm x6 (ii 8)))]) (rest := []) rfl rfl (mF fc9 (by rfl))).trans (andR (GoCv_congr fun h3 => ?_))
      refine (G_aload rfl (mF fc9 (by rfl))).trans ?_
      refine (G_iload rfl (mF fc9 (by rfl))).trans ?_
      refine (G_iconst (mF fc9 (by rfl))).trans ?_
      refine (G_iadd (mF fc9 (by rfl))).trans ?_
      refine (G_iload rfl (mF fc9 (by rfl))).trans ?_
      refine (G_iload rfl (mF fc9 (by rfl))).trans ?_
      refine (G_Ti (q := 5122) (y := 10) rfl rfl rfl (as := [.int x2, .int x6]) (rest := [.int (x1 + (ii 1)), .ref a0]) rfl rfl (mF fc9 (by rfl))).trans (GoCi_congr fun v4 h4 => ?_)
      refine (G_iload rfl (mF fc9 (by rfl))).trans ?_
      refine (G_iload rfl (mF fc9 (by rfl))).trans ?_
      refine (G_Ti (q := 5634) (y := 11) rfl rfl rfl (as := [.int x3, .int x6]) (rest := [.int v4, .int (x1 + (ii 1)), .ref a0]) rfl rfl (mF fc9 (by rfl))).trans (GoCi_congr fun v5 h5 => ?_)
      refine (G_Vi (q := 4612) (y := 9) (a := a0) (c := 0) rfl rfl rfl rfl (by decide) rfl (as := [.ref a0, .int (x1 + (ii 1)), .int v4, .int v5]) (rest := []) rfl rfl (mF fc9 (by rfl))).trans (andR (GoCi_congr fun v6 h6 => ?_))
      refine (G_istore (k := 7) (L' := [some (.ref a0), some (.int x1), some (.int x2), some (.int x3), some (.int x4), some (.int x5), some (.int x6), some (.int v6), l8]) rfl (ltb rfl) rfl (mF fc9 (by rfl))).trans ?_
      refine (G_iconst (mF fc9 (by rfl))).trans ?_
      refine (G_iload rfl (mF fc9 (by rfl))).trans ?_
      refine (G_iconst (mF fc9 (by rfl))).trans ?_
      refine (G_idiv (mF fc9 (by rfl))).trans (andR ?_)
      refine (G_iadd (mF fc9 (by rfl))).trans ?_
      refine (G_istore (k := 8) (L' := [some (.ref a0), some (.int x1), some (.int x2), some (.int x3), some (.int x4), some (.int x5), some (.int x6), some (.int v6), some (.int ((ii 1) + (v6 / (ii 32))))]) rfl (ltb rfl) rfl (mF fc9 (by rfl))).trans ?_
      refine (G_iload rfl (mF fc9 (by rfl))).trans ?_
      refine (G_iload rfl (mF fc9 (by rfl))).trans ?_
      refine (G_iconst (mF fc9 (by rfl))).trans ?_
      refine (G_idiv (mF fc9 (by rfl))).trans (andR ?_)
      refine (G_ile (mF fc9 (by rfl))).trans (gi ?_ ?_)
      ·
        exact Iff.rfl
      ·
        refine (G_iload rfl (mF fc9 (by rfl))).trans ?_
        refine (G_iconst (mF fc9 (by rfl))).trans ?_
        refine (G_imul (mF fc9 (by rfl))).trans ?_
        refine (G_iload rfl (mF fc9 (by rfl))).trans ?_
        refine (G_iadd (mF fc9 (by rfl))).trans ?_
        refine (G_istore (k := 5) (L' := [some (.ref a0), some (.int x1), some (.int x2), some (.int x3), some (.int x4), some (.int ((((ii 1) + (v6 / (ii 32))) * (ii 32)) + x6)), some (.int x6), some (.int v6), some (.int ((ii 1) + (v6 / (ii 32))))]) rfl (ltb rfl) rfl (mF fc9 (by rfl))).trans ?_
        exact Iff.rfl
theorem b9_158 {d : Nat} {h : mHeap} {Q : Option Value → mHeap → Prop} {a0 : Nat} {x1 : Int32} {x2 : Int32} {x3 : Int32} {x4 : Int32} {x5 : Int32} {x6 : Int32} {l7 : Option Value} {l8 : Option Value} : Go d 9 158 [some (.ref a0), some (.int x1), some (.int x2), some (.int x3), some (.int x4), some (.int x5), some (.int x6), l7, l8] [] h Q ↔ Go d 9 44 [some (.ref a0), some (.int x1), some (.int x2), some (.int x3), some (.int x4), some (.int x5), some (.int (x6 + ii 1)), l7, l8] [] h Q := by
  refine (G_iinc (k := 6) (L' := [some (.ref a0), some (.int x1), some (.int x2), some (.int x3), some (.int x4), some (.int x5), some (.int (x6 + ii 1)), l7, l8]) rfl rfl rfl (mF fc9 (by rfl))).trans ?_
  refine (G_goto (mF fc9 (by rfl))).trans ?_
  exact Iff.rfl
theorem e9 {d : Nat} {h : mHeap} {K : Int32 → mHeap → Prop} {a0 : Nat} {x1 : Int32} {x2 : Int32} {x3 : Int32} : GoCi (d + 1) 9 [.ref a0, .int x1, .int x2, .int x3] h K ↔ Go d 9 0 [some (.ref a0), some (.int x1), some (.int x2), some (.int x3), none, none, none, none, none] [] h (rI K) := GoCi_entry rfl rfl
set_option maxRecDepth 20000 in
theorem fc10 : mCodes[10]? = some mc10 := rfl
theorem b10_0 {d : Nat} {h : mHeap} {Q : Option Value → mHeap → Prop} {x0 : Int32} {x1 : Int32} : Go d 10 0 [some (.int x0), some (.int x1)] [] h Q ↔ (¬ (ii 8) = ii 0) ∧ Q (some (.int (x0 ||| (shl (ii 1) (x1 / (ii 8)))))) h := by
  refine (G_iload rfl (mF fc10 (by rfl))).trans ?_
  refine (G_iconst (mF fc10 (by rfl))).trans ?_
  refine (G_iload rfl (mF fc10 (by rfl))).trans ?_
  refine (G_iconst (mF fc10 (by rfl))).trans ?_
  refine (G_idiv (mF fc10 (by rfl))).trans (andR ?_)
  refine (G_ishl (mF fc10 (by rfl))).trans ?_
  refine (G_ior (mF fc10 (by rfl))).trans ?_
  exact G_ireturnI rfl (mF fc10 (by rfl))
theorem e10 {d : Nat} {h : mHeap} {K : Int32 → mHeap → Prop} {x0 : Int32} {x1 : Int32} : GoCi (d + 1) 10 [.int x0, .int x1] h K ↔ Go d 10 0 [some (.int x0), some (.int x1)] [] h (rI K) := GoCi_entry rfl rfl
set_option maxRecDepth 20000 in
theorem fc11 : mCodes[11]? = some mc11 := rfl
theorem b11_0 {d : Nat} {h : mHeap} {Q : Option Value → mHeap → Prop} {x0 : Int32} {x1 : Int32} : Go d 11 0 [some (.int x0), some (.int x1)] [] h Q ↔ (¬ (ii 8) = ii 0) ∧ Q (some (.int (x0 ||| (shl (ii 1) (irm x1 (ii 8)))))) h := by
  refine (G_iload rfl (mF fc11 (by rfl))).trans ?_
  refine (G_iconst (mF fc11 (by rfl))).trans ?_
  refine (G_iload rfl (mF fc11 (by rfl))).trans ?_
  refine (G_iconst (mF fc11 (by rfl))).trans ?_
  refine (G_irem (mF fc11 (by rfl))).trans (andR ?_)
  refine (G_ishl (mF fc11 (by rfl))).trans ?_
  refine (G_ior (mF fc11 (by rfl))).trans ?_
  exact G_ireturnI rfl (mF fc11 (by rfl))
theorem e11 {d : Nat} {h : mHeap} {K : Int32 → mHeap → Prop} {x0 : Int32} {x1 : Int32} : GoCi (d + 1) 11 [.int x0, .int x1] h K ↔ Go d 11 0 [some (.int x0), some (.int x1)] [] h (rI K) := GoCi_entry rfl rfl
set_option maxRecDepth 20000 in
theorem fc12 : mCodes[12]? = some mc12 := rfl
theorem b12_0 {d : Nat} {h : mHeap} {Q : Option Value → mHeap → Prop} {a0 : Nat} {x1 : Int32} : Go d 12 0 [some (.ref a0), some (.int x1), none, none, none, none] [] h Q ↔ Go d 12 7 [some (.ref a0), some (.int x1), some (.int (ii 0)), some (.int (ii 0)), some (.int (ii 0)), none] [] h Q := by
  refine (G_iconst (mF fc12 (by rfl))).trans ?_
  refine (G_istore (k := 2) (L' := [some (.ref a0), some (.int x1), some (.int (ii 0)), none, none, none]) rfl (ltb rfl) rfl (mF fc12 (by rfl))).trans ?_
  refine (G_iconst (mF fc12 (by rfl))).trans ?_
  refine (G_istore (k := 3) (L' := [some (.ref a0), some (.int x1), some (.int (ii 0)), some (.int (ii 0)), none, none]) rfl (ltb rfl) rfl (mF fc12 (by rfl))).trans ?_
  refine (G_iconst (mF fc12 (by rfl))).trans ?_
  refine (G_istore (k := 4) (L' := [some (.ref a0), some (.int x1), some (.int (ii 0)), some (.int (ii 0)), some (.int (ii 0)), none]) rfl (ltb rfl) rfl (mF fc12 (by rfl))).trans ?_
  exact Iff.rfl
theorem b12_7 {d : Nat} {h : mHeap} {Q : Option Value → mHeap → Prop} {a0 : Nat} {x1 : Int32} {x2 : Int32} {x3 : Int32} {x4 : Int32} {l5 : Option Value} : Go d 12 7 [some (.ref a0), some (.int x1), some (.int x2), some (.int x3), some (.int x4), l5] [] h Q ↔ (if x1 ≤ x4 then (okF h a0 0 7 2 ∧ okA h (fR h a0 7) .int ((x2 * (ii 256)) + x3) ∧ (¬ (ii 32) = ii 0) ∧ Q (some (.int (irm (eI h (fR h a0 7) ((x2 * (ii 256)) + x3)) (ii 32)))) h) else (okF h a0 0 7 2 ∧ okA h (fR h a0 7) .int ((x2 * (ii 256)) + x3) ∧ (¬ (ii 32) = ii 0) ∧ GoCi d 10 [.int x2, .int (irm (eI h (fR h a0 7) ((x2 * (ii 256)) + x3)) (ii 32))] h (fun v1 h1 => GoCi d 11 [.int x3, .int (irm (eI h (fR h a0 7) ((x2 * (ii 256)) + x3)) (ii 32))] h1 (fun v2 h2 => Go d 12 7 [some (.ref a0), some (.int x1), some (.int v1), some (.int v2), some (.int (x4 + ii 1)), some (.int (irm (eI h (fR h a0 7) ((x2 * (ii 256)) + x3)) (ii 32)))] [] h2 Q)))) := by
  refine (G_iload rfl (mF fc12 (by rfl))).trans ?_
  refine (G_iload rfl (mF fc12 (by rfl))).trans ?_
  refine (G_ige (mF fc12 (by rfl))).trans (gi ?_ ?_)
  ·
    refine (G_aload rfl (mF fc12 (by rfl))).trans ?_
    refine (G_getR (c := 0) (k := 7) rfl rfl rfl (mF fc12 (by rfl))).trans (andR ?_)
    refine (G_iload rfl (mF fc12 (by rfl))).trans ?_
    refine (G_iconst (mF fc12 (by rfl))).trans ?_
    refine (G_imul (mF fc12 (by rfl))).trans ?_
    refine (G_iload rfl (mF fc12 (by rfl))).trans ?_
    refine (G_iadd (mF fc12 (by rfl))).trans ?_
    refine (G_iaload (mF fc12 (by rfl))).trans (andR ?_)
    refine (G_iconst (mF fc12 (by rfl))).trans ?_
    refine (G_irem (mF fc12 (by rfl))).trans (andR ?_)
    exact G_ireturnI rfl (mF fc12 (by rfl))
  ·
    refine (G_aload rfl (mF fc12 (by rfl))).trans ?_
    refine (G_getR (c := 0) (k := 7) rfl rfl rfl (mF fc12 (by rfl))).trans (andR ?_)
    refine (G_iload rfl (mF fc12 (by rfl))).trans ?_
    refine (G_iconst (mF fc12 (by rfl))).trans ?_
    refine (G_imul (mF fc12 (by rfl))).trans ?_
    refine (G_iload rfl (mF fc12 (by rfl))).trans ?_
    refine (G_iadd (mF fc12 (by rfl))).trans ?_
    refine (G_iaload (mF fc12 (by rfl))).trans (andR ?_)
    refine (G_iconst (mF fc12 (by rfl))).trans ?_
    refine (G_irem (mF fc12 (by rfl))).trans (andR ?_)
    refine (G_istore (k := 5) (L' := [some (.ref a0), some (.int x1), some (.int x2), some (.int x3), some (.int x4), some (.int (irm (eI h (fR h a0 7) ((x2 * (ii 256)) + x3)) (ii 32)))]) rfl (ltb rfl) rfl (mF fc12 (by rfl))).trans ?_
    refine (G_iload rfl (mF fc12 (by rfl))).trans ?_
    refine (G_iload rfl (mF fc12 (by rfl))).trans ?_
    refine (G_Ti (q := 5122) (y := 10) rfl rfl rfl (as := [.int x2, .int (irm (eI h (fR h a0 7) ((x2 * (ii 256)) + x3)) (ii 32))]) (rest := []) rfl rfl (mF fc12 (by rfl))).trans (GoCi_congr fun v1 h1 => ?_)
    refine (G_istore (k := 2) (L' := [some (.ref a0), some (.int x1), some (.int v1), some (.int x3), some (.int x4), some (.int (irm (eI h (fR h a0 7) ((x2 * (ii 256)) + x3)) (ii 32)))]) rfl (ltb rfl) rfl (mF fc12 (by rfl))).trans ?_
    refine (G_iload rfl (mF fc12 (by rfl))).trans ?_
    refine (G_iload rfl (mF fc12 (by rfl))).trans ?_
    refine (G_Ti (q := 5634) (y := 11) rfl rfl rfl (as := [.int x3, .int (irm (eI h (fR h a0 7) ((x2 * (ii 256)) + x3)) (ii 32))]) (rest := []) rfl rfl (mF fc12 (by rfl))).trans (GoCi_congr fun v2 h2 => ?_)
    refine (G_istore (k := 3) (L' := [some (.ref a0), some (.int x1), some (.int v1), some (.int v2), some (.int x4), some (.int (irm (eI h (fR h a0 7) ((x2 * (ii 256)) + x3)) (ii 32)))]) rfl (ltb rfl) rfl (mF fc12 (by rfl))).trans ?_
    refine (G_iinc (k := 4) (L' := [some (.ref a0), some (.int x1), some (.int v1), some (.int v2), some (.int (x4 + ii 1)), some (.int (irm (eI h (fR h a0 7) ((x2 * (ii 256)) + x3)) (ii 32)))]) rfl rfl rfl (mF fc12 (by rfl))).trans ?_
    refine (G_goto (mF fc12 (by rfl))).trans ?_
    exact Iff.rfl
theorem e12 {d : Nat} {h : mHeap} {K : Int32 → mHeap → Prop} {a0 : Nat} {x1 : Int32} : GoCi (d + 1) 12 [.ref a0, .int x1] h K ↔ Go d 12 0 [some (.ref a0), some (.int x1), none, none, none, none] [] h (rI K) := GoCi_entry rfl rfl
set_option maxRecDepth 20000 in
theorem fc13 : mCodes[13]? = some mc13 := rfl
theorem b13_0 {d : Nat} {h : mHeap} {Q : Option Value → mHeap → Prop} {a0 : Nat} {x1 : Int32} {x2 : Int32} : Go d 13 0 [some (.ref a0), some (.int x1), some (.int x2), none, none, none, none, none, none] [] h Q ↔ okF h a0 0 0 2 ∧ okF h (fR h a0 0) 4 1 2 ∧ okF h (fR h (fR h a0 0) 1) 3 4 2 ∧ okA h (fR h (fR h (fR h a0 0) 1) 4) .int x1 ∧ okF h a0 0 0 2 ∧ okF h (fR h a0 0) 4 1 2 ∧ oC h (fR h (fR h a0 0) 1) = 3 ∧ GoCr d 46 [.ref (fR h (fR h a0 0) 1), .int (ii (-1))] h (fun v1 h1 => oC h1 a0 = 0 ∧ GoCi d 2 [.ref a0, .ref v1, .int x1] h1 (fun v2 h2 => Go d 13 46 [some (.ref a0), some (.int x1), some (.int x2), some (.int ((ii 24) - (eI h (fR h (fR h (fR h a0 0) 1) 4) x1))), some (.int v2), some (.int (ii (-2))), some (.int (((ii 24) - (eI h (fR h (fR h (fR h a0 0) 1) 4) x1)) + (ii 1))), some (.int (ii 0)), none] [] h2 Q)) := by
  refine (G_iconst (mF fc13 (by rfl))).trans ?_
  refine (G_aload rfl (mF fc13 (by rfl))).trans ?_
  refine (G_getR (c := 0) (k := 0) rfl rfl rfl (mF fc13 (by rfl))).trans (andR ?_)
  refine (G_getR (c := 4) (k := 1) rfl rfl rfl (mF fc13 (by rfl))).trans (andR ?_)
  refine (G_getR (c := 3) (k := 4) rfl rfl rfl (mF fc13 (by rfl))).trans (andR ?_)
  refine (G_iload rfl (mF fc13 (by rfl))).trans ?_
  refine (G_iaload (mF fc13 (by rfl))).trans (andR ?_)
  refine (G_isub (mF fc13 (by rfl))).trans ?_
  refine (G_istore (k := 3) (L' := [some (.ref a0), some (.int x1), some (.int x2), some (.int ((ii 24) - (eI h (fR h (fR h (fR h a0 0) 1) 4) x1))), none, none, none, none, none]) rfl (ltb rfl) rfl (mF fc13 (by rfl))).trans ?_
  refine (G_aload rfl (mF fc13 (by rfl))).trans ?_
  refine (G_aload rfl (mF fc13 (by rfl))).trans ?_
  refine (G_getR (c := 0) (k := 0) rfl rfl rfl (mF fc13 (by rfl))).trans (andR ?_)
  refine (G_getR (c := 4) (k := 1) rfl rfl rfl (mF fc13 (by rfl))).trans (andR ?_)
  refine (G_iconst (mF fc13 (by rfl))).trans ?_
  refine (G_Vr (q := 23602) (y := 46) (a := fR h (fR h a0 0) 1) (c := 3) rfl rfl rfl rfl (by decide) rfl (as := [.ref (fR h (fR h a0 0) 1), .int (ii (-1))]) (rest := [.ref a0]) rfl rfl (mF fc13 (by rfl))).trans (andR (GoCr_congr fun v1 h1 => ?_))
  refine (G_iload rfl (mF fc13 (by rfl))).trans ?_
  refine (G_Vi (q := 1027) (y := 2) (a := a0) (c := 0) rfl rfl rfl rfl (by decide) rfl (as := [.ref a0, .ref v1, .int x1]) (rest := []) rfl rfl (mF fc13 (by rfl))).trans (andR (GoCi_congr fun v2 h2 => ?_))
  refine (G_istore (k := 4) (L' := [some (.ref a0), some (.int x1), some (.int x2), some (.int ((ii 24) - (eI h (fR h (fR h (fR h a0 0) 1) 4) x1))), some (.int v2), none, none, none, none]) rfl (ltb rfl) rfl (mF fc13 (by rfl))).trans ?_
  refine (G_iconst (mF fc13 (by rfl))).trans ?_
  refine (G_istore (k := 5) (L' := [some (.ref a0), some (.int x1), some (.int x2), some (.int ((ii 24) - (eI h (fR h (fR h (fR h a0 0) 1) 4) x1))), some (.int v2), some (.int (ii (-2))), none, none, none]) rfl (ltb rfl) rfl (mF fc13 (by rfl))).trans ?_
  refine (G_iload rfl (mF fc13 (by rfl))).trans ?_
  refine (G_iconst (mF fc13 (by rfl))).trans ?_
  refine (G_iadd (mF fc13 (by rfl))).trans ?_
  refine (G_istore (k := 6) (L' := [some (.ref a0), some (.int x1), some (.int x2), some (.int ((ii 24) - (eI h (fR h (fR h (fR h a0 0) 1) 4) x1))), some (.int v2), some (.int (ii (-2))), some (.int (((ii 24) - (eI h (fR h (fR h (fR h a0 0) 1) 4) x1)) + (ii 1))), none, none]) rfl (ltb rfl) rfl (mF fc13 (by rfl))).trans ?_
  refine (G_iconst (mF fc13 (by rfl))).trans ?_
  refine (G_istore (k := 7) (L' := [some (.ref a0), some (.int x1), some (.int x2), some (.int ((ii 24) - (eI h (fR h (fR h (fR h a0 0) 1) 4) x1))), some (.int v2), some (.int (ii (-2))), some (.int (((ii 24) - (eI h (fR h (fR h (fR h a0 0) 1) 4) x1)) + (ii 1))), some (.int (ii 0)), none]) rfl (ltb rfl) rfl (mF fc13 (by rfl))).trans ?_
  exact Iff.rfl
theorem b13_46 {d : Nat} {h : mHeap} {Q : Option Value → mHeap → Prop} {a0 : Nat} {x1 : Int32} {x2 : Int32} {l3 : Option Value} {x4 : Int32} {x5 : Int32} {x6 : Int32} {x7 : Int32} {l8 : Option Value} : Go d 13 46 [some (.ref a0), some (.int x1), some (.int x2), l3, some (.int x4), some (.int x5), some (.int x6), some (.int x7), l8] [] h Q ↔ okF h a0 0 0 2 ∧ okF h (fR h a0 0) 4 0 2 ∧ okF h (fR h (fR h a0 0) 0) 2 7 0 ∧ (if (shl (ii 1) (fI h (fR h (fR h a0 0) 0) 7)) ≤ x7 then ((if x2 = (ii 1) then (Q (some (.int x5)) h) else ((if ¬ x5 = (ii (-2)) then (Q (some (.int x6)) h) else (Q (some (.int x5)) h))))) else (oC h a0 = 0 ∧ GoCi d 14 [.ref a0, .int (ii 0), .int (x7 &&& (ii (-2))), .int (ii 0)] h (fun v1 h1 => (if x6 ≤ v1 then (Go d 13 111 [some (.ref a0), some (.int x1), some (.int x2), l3, some (.int x4), some (.int x5), some (.int x6), some (.int x7), some (.int v1)] [] h1 Q) else (oC h1 a0 = 0 ∧ GoCv d 15 [.ref a0, .int x1, .int x7] h1 (fun h2 => okF h2 a0 0 2 2 ∧ oC h2 a0 = 0 ∧ GoCi d 3 [.ref a0, .ref (fR h2 a0 2), .int x4] h2 (fun v3 h3 => (if v3 = ii 0 then (Go d 13 111 [some (.ref a0), some (.int x1), some (.int x2), l3, some (.int x4), some (.int x5), some (.int x6), some (.int x7), some (.int v1)] [] h3 Q) else (Go d 13 111 [some (.ref a0), some (.int x1), some (.int x2), l3, some (.int x4), some (.int x7), some (.int v1), some (.int x7), some (.int v1)] [] h3 Q))))))))) := by
  refine (G_iload rfl (mF fc13 (by rfl))).trans ?_
  refine (G_iconst (mF fc13 (by rfl))).trans ?_
  refine (G_aload rfl (mF fc13 (by rfl))).trans ?_
  refine (G_getR (c := 0) (k := 0) rfl rfl rfl (mF fc13 (by rfl))).trans (andR ?_)
  refine (G_getR (c := 4) (k := 0) rfl rfl rfl (mF fc13 (by rfl))).trans (andR ?_)
  refine (G_getI (c := 2) (k := 7) rfl rfl rfl (mF fc13 (by rfl))).trans (andR ?_)
  refine (G_ishl (mF fc13 (by rfl))).trans ?_
  refine (G_ige (mF fc13 (by rfl))).trans (gi ?_ ?_)
  ·
    refine (G_iload rfl (mF fc13 (by rfl))).trans ?_
    refine (G_iconst (mF fc13 (by rfl))).trans ?_
    refine (G_ieq (mF fc13 (by rfl))).trans (gi ?_ ?_)
    ·
      refine (G_iload rfl (mF fc13 (by rfl))).trans ?_
      refine (G_goto (mF fc13 (by rfl))).trans ?_
      exact G_ireturnI rfl (mF fc13 (by rfl))
    ·
      refine (G_iload rfl (mF fc13 (by rfl))).trans ?_
      refine (G_iconst (mF fc13 (by rfl))).trans ?_
      refine (G_ine (mF fc13 (by rfl))).trans (gi ?_ ?_)
      ·
        refine (G_iload rfl (mF fc13 (by rfl))).trans ?_
        exact G_ireturnI rfl (mF fc13 (by rfl))
      ·
        refine (G_iload rfl (mF fc13 (by rfl))).trans ?_
        refine (G_goto (mF fc13 (by rfl))).trans ?_
        exact G_ireturnI rfl (mF fc13 (by rfl))
  ·
    refine (G_aload rfl (mF fc13 (by rfl))).trans ?_
    refine (G_iconst (mF fc13 (by rfl))).trans ?_
    refine (G_iload rfl (mF fc13 (by rfl))).trans ?_
    refine (G_iconst (mF fc13 (by rfl))).trans ?_
    refine (G_iand (mF fc13 (by rfl))).trans ?_
    refine (G_iconst (mF fc13 (by rfl))).trans ?_
    refine (G_Vi (q := 7172) (y := 14) (a := a0) (c := 0) rfl rfl rfl rfl (by decide) rfl (as := [.ref a0, .int (ii 0), .int (x7 &&& (ii (-2))), .int (ii 0)]) (rest := []) rfl rfl (mF fc13 (by rfl))).trans (andR (GoCi_congr fun v1 h1 => ?_))
    refine (G_istore (k := 8) (L' := [some (.ref a0), some (.int x1), some (.int x2), l3, some (.int x4), some (.int x5), some (.int x6), some (.int x7), some (.int v1)]) rfl (ltb rfl) rfl (mF fc13 (by rfl))).trans ?_
    refine (G_iload rfl (mF fc13 (by rfl))).trans ?_
    refine (G_iload rfl (mF fc13 (by rfl))).trans ?_
    refine (G_ige (mF fc13 (by rfl))).trans (gi ?_ ?_)
    ·
      exact Iff.rfl
    ·
      refine (G_aload rfl (mF fc13 (by rfl))).trans ?_
      refine (G_iload rfl (mF fc13 (by rfl))).trans ?_
      refine (G_iload rfl (mF fc13 (by rfl))).trans ?_
      refine (G_Vv (q := 7683) (y := 15) (a := a0) (c := 0) rfl rfl rfl rfl (by decide) rfl (as := [.ref a0, .int x1, .int x7]) (rest := []) rfl rfl (mF fc13 (by rfl))).trans (andR (GoCv_congr fun h2 => ?_))
      refine (G_aload rfl (mF fc13 (by rfl))).trans ?_
      refine (G_aload rfl (mF fc13 (by rfl))).trans ?_
      refine (G_getR (c := 0) (k := 2) rfl rfl rfl (mF fc13 (by rfl))).trans (andR ?_)
      refine (G_iload rfl (mF fc13 (by rfl))).trans ?_
      refine (G_Vi (q := 1539) (y := 3) (a := a0) (c := 0) rfl rfl rfl rfl (by decide) rfl (as := [.ref a0, .ref (fR h2 a0 2), .int x4]) (rest := []) rfl rfl (mF fc13 (by rfl))).trans (andR (GoCi_congr fun v3 h3 => ?_))
      refine (G_eq (mF fc13 (by rfl))).trans (gi ?_ ?_)
      ·
        exact Iff.rfl
      ·
        refine (G_iload rfl (mF fc13 (by rfl))).trans ?_
        refine (G_istore (k := 5) (L' := [some (.ref a0), some (.int x1), some (.int x2), l3, some (.int x4), some (.int x7), some (.int x6), some (.int x7), some (.int v1)]) rfl (ltb rfl) rfl (mF fc13 (by rfl))).trans ?_
        refine (G_iload rfl (mF fc13 (by rfl))).trans ?_
        refine (G_istore (k := 6) (L' := [some (.ref a0), some (.int x1), some (.int x2), l3, some (.int x4), some (.int x7), some (.int v1), some (.int x7), some (.int v1)]) rfl (ltb rfl) rfl (mF fc13 (by rfl))).trans ?_
        exact Iff.rfl
theorem b13_111 {d : Nat} {h : mHeap} {Q : Option Value → mHeap → Prop} {a0 : Nat} {x1 : Int32} {x2 : Int32} {l3 : Option Value} {x4 : Int32} {x5 : Int32} {x6 : Int32} {x7 : Int32} {l8 : Option Value} : Go d 13 111 [some (.ref a0), some (.int x1), some (.int x2), l3, some (.int x4), some (.int x5), some (.int x6), some (.int x7), l8] [] h Q ↔ Go d 13 46 [some (.ref a0), some (.int x1), some (.int x2), l3, some (.int x4), some (.int x5), some (.int x6), some (.int (x7 + ii 1)), l8] [] h Q := by
  refine (G_iinc (k := 7) (L' := [some (.ref a0), some (.int x1), some (.int x2), l3, some (.int x4), some (.int x5), some (.int x6), some (.int (x7 + ii 1)), l8]) rfl rfl rfl (mF fc13 (by rfl))).trans ?_
  refine (G_goto (mF fc13 (by rfl))).trans ?_
  exact Iff.rfl
theorem e13 {d : Nat} {h : mHeap} {K : Int32 → mHeap → Prop} {a0 : Nat} {x1 : Int32} {x2 : Int32} : GoCi (d + 1) 13 [.ref a0, .int x1, .int x2] h K ↔ Go d 13 0 [some (.ref a0), some (.int x1), some (.int x2), none, none, none, none, none, none] [] h (rI K) := GoCi_entry rfl rfl
set_option maxRecDepth 20000 in
theorem fc14 : mCodes[14]? = some mc14 := rfl
theorem b14_0 {d : Nat} {h : mHeap} {Q : Option Value → mHeap → Prop} {a0 : Nat} {x1 : Int32} {x2 : Int32} {x3 : Int32} : Go d 14 0 [some (.ref a0), some (.int x1), some (.int x2), some (.int x3), none, none, none] [] h Q ↔ (if x2 = ii 0 then (Go d 14 10 [some (.ref a0), some (.int x1), some (.int x2), some (.int x3), none, none, none] [] h Q) else ((if x3 < (ii 6) then (Go d 14 31 [some (.ref a0), some (.int x1), some (.int x2), some (.int x3), some (.int (ii 1000)), some (.int (ii 0)), none] [] h Q) else (Go d 14 10 [some (.ref a0), some (.int x1), some (.int x2), some (.int x3), none, none, none] [] h Q)))) := by
  refine (G_iload rfl (mF fc14 (by rfl))).trans ?_
  refine (G_eq (mF fc14 (by rfl))).trans (gi ?_ ?_)
  ·
    exact Iff.rfl
  ·
    refine (G_iload rfl (mF fc14 (by rfl))).trans ?_
    refine (G_iconst (mF fc14 (by rfl))).trans ?_
    refine (G_ilt (mF fc14 (by rfl))).trans (gi ?_ ?_)
    ·
      refine (G_iconst (mF fc14 (by rfl))).trans ?_
      refine (G_istore (k := 4) (L' := [some (.ref a0), some (.int x1), some (.int x2), some (.int x3), some (.int (ii 1000)), none, none]) rfl (ltb rfl) rfl (mF fc14 (by rfl))).trans ?_
      refine (G_iconst (mF fc14 (by rfl))).trans ?_
      refine (G_istore (k := 5) (L' := [some (.ref a0), some (.int x1), some (.int x2), some (.int x3), some (.int (ii 1000)), some (.int (ii 0)), none]) rfl (ltb rfl) rfl (mF fc14 (by rfl))).trans ?_
      exact Iff.rfl
    ·
      exact Iff.rfl
theorem b14_10 {d : Nat} {h : mHeap} {Q : Option Value → mHeap → Prop} {a0 : Nat} {x1 : Int32} {l2 : Option Value} {l3 : Option Value} {l4 : Option Value} {l5 : Option Value} {l6 : Option Value} : Go d 14 10 [some (.ref a0), some (.int x1), l2, l3, l4, l5, l6] [] h Q ↔ okF h a0 0 0 2 ∧ okF h (fR h a0 0) 4 0 2 ∧ oC h (fR h (fR h a0 0) 0) = 2 ∧ GoCi d 41 [.ref (fR h (fR h a0 0) 0), .int x1, .int (ii 0)] h (fun v1 h1 => Q (some (.int v1)) h1) := by
  refine (G_aload rfl (mF fc14 (by rfl))).trans ?_
  refine (G_getR (c := 0) (k := 0) rfl rfl rfl (mF fc14 (by rfl))).trans (andR ?_)
  refine (G_getR (c := 4) (k := 0) rfl rfl rfl (mF fc14 (by rfl))).trans (andR ?_)
  refine (G_iload rfl (mF fc14 (by rfl))).trans ?_
  refine (G_iconst (mF fc14 (by rfl))).trans ?_
  refine (G_Vi (q := 21027) (y := 41) (a := fR h (fR h a0 0) 0) (c := 2) rfl rfl rfl rfl (by decide) rfl (as := [.ref (fR h (fR h a0 0) 0), .int x1, .int (ii 0)]) (rest := []) rfl rfl (mF fc14 (by rfl))).trans (andR (GoCi_congr fun v1 h1 => ?_))
  exact G_ireturnI rfl (mF fc14 (by rfl))
theorem b14_31 {d : Nat} {h : mHeap} {Q : Option Value → mHeap → Prop} {a0 : Nat} {x1 : Int32} {x2 : Int32} {x3 : Int32} {x4 : Int32} {x5 : Int32} {l6 : Option Value} : Go d 14 31 [some (.ref a0), some (.int x1), some (.int x2), some (.int x3), some (.int x4), some (.int x5), l6] [] h Q ↔ (if (ii 6) ≤ x5 then (Q (some (.int x4)) h) else ((if ((shr x2 x5) &&& (ii 1)) = ii 0 then (Go d 14 89 [some (.ref a0), some (.int x1), some (.int x2), some (.int x3), some (.int x4), some (.int x5), l6] [] h Q) else (okF h a0 0 0 2 ∧ okF h (fR h a0 0) 4 0 2 ∧ oC h (fR h (fR h a0 0) 0) = 2 ∧ GoCi d 41 [.ref (fR h (fR h a0 0) 0), .int x1, .int x5] h (fun v1 h1 => oC h1 a0 = 0 ∧ GoCi d 14 [.ref a0, .int x5, .int (x2 &&& ((shl (ii 1) x5) ^^^ (ii (-1)))), .int (x3 + (ii 1))] h1 (fun v2 h2 => Go d 14 89 [some (.ref a0), some (.int x1), some (.int x2), some (.int x3), some (.int (if (v1 + v2) < x4 then (v1 + v2) else x4)), some (.int x5), some (.int (v1 + v2))] [] h2 Q)))))) := by
  refine (G_iload rfl (mF fc14 (by rfl))).trans ?_
  refine (G_iconst (mF fc14 (by rfl))).trans ?_
  refine (G_ige (mF fc14 (by rfl))).trans (gi ?_ ?_)
  ·
    refine (G_iload rfl (mF fc14 (by rfl))).trans ?_
    exact G_ireturnI rfl (mF fc14 (by rfl))
  ·
    refine (G_iload rfl (mF fc14 (by rfl))).trans ?_
    refine (G_iload rfl (mF fc14 (by rfl))).trans ?_
    refine (G_ishr (mF fc14 (by rfl))).trans ?_
    refine (G_iconst (mF fc14 (by rfl))).trans ?_
    refine (G_iand (mF fc14 (by rfl))).trans ?_
    refine (G_eq (mF fc14 (by rfl))).trans (gi ?_ ?_)
    ·
      exact Iff.rfl
    ·
      refine (G_aload rfl (mF fc14 (by rfl))).trans ?_
      refine (G_getR (c := 0) (k := 0) rfl rfl rfl (mF fc14 (by rfl))).trans (andR ?_)
      refine (G_getR (c := 4) (k := 0) rfl rfl rfl (mF fc14 (by rfl))).trans (andR ?_)
      refine (G_iload rfl (mF fc14 (by rfl))).trans ?_
      refine (G_iload rfl (mF fc14 (by rfl))).trans ?_
      refine (G_Vi (q := 21027) (y := 41) (a := fR h (fR h a0 0) 0) (c := 2) rfl rfl rfl rfl (by decide) rfl (as := [.ref (fR h (fR h a0 0) 0), .int x1, .int x5]) (rest := []) rfl rfl (mF fc14 (by rfl))).trans (andR (GoCi_congr fun v1 h1 => ?_))
      refine (G_aload rfl (mF fc14 (by rfl))).trans ?_
      refine (G_iload rfl (mF fc14 (by rfl))).trans ?_
      refine (G_iload rfl (mF fc14 (by rfl))).trans ?_
      refine (G_iconst (mF fc14 (by rfl))).trans ?_
      refine (G_iload rfl (mF fc14 (by rfl))).trans ?_
      refine (G_ishl (mF fc14 (by rfl))).trans ?_
      refine (G_iconst (mF fc14 (by rfl))).trans ?_
      refine (G_ixor (mF fc14 (by rfl))).trans ?_
      refine (G_iand (mF fc14 (by rfl))).trans ?_
      refine (G_iload rfl (mF fc14 (by rfl))).trans ?_
      refine (G_iconst (mF fc14 (by rfl))).trans ?_
      refine (G_iadd (mF fc14 (by rfl))).trans ?_
      refine (G_Vi (q := 7172) (y := 14) (a := a0) (c := 0) rfl rfl rfl rfl (by decide) rfl (as := [.ref a0, .int x5, .int (x2 &&& ((shl (ii 1) x5) ^^^ (ii (-1)))), .int (x3 + (ii 1))]) (rest := [.int v1]) rfl rfl (mF fc14 (by rfl))).trans (andR (GoCi_congr fun v2 h2 => ?_))
      refine (G_iadd (mF fc14 (by rfl))).trans ?_
      refine (G_istore (k := 6) (L' := [some (.ref a0), some (.int x1), some (.int x2), some (.int x3), some (.int x4), some (.int x5), some (.int (v1 + v2))]) rfl (ltb rfl) rfl (mF fc14 (by rfl))).trans ?_
      refine (G_iload rfl (mF fc14 (by rfl))).trans ?_
      refine (G_iload rfl (mF fc14 (by rfl))).trans ?_
      refine (G_min (Nat.le_of_ble_eq_true rfl) (mF fc14 (by rfl))).trans ?_
      refine (G_istore (k := 4) (L' := [some (.ref a0), some (.int x1), some (.int x2), some (.int x3), some (.int (if (v1 + v2) < x4 then (v1 + v2) else x4)), some (.int x5), some (.int (v1 + v2))]) rfl (ltb rfl) rfl (mF fc14 (by rfl))).trans ?_
      exact Iff.rfl
theorem b14_89 {d : Nat} {h : mHeap} {Q : Option Value → mHeap → Prop} {a0 : Nat} {x1 : Int32} {x2 : Int32} {x3 : Int32} {x4 : Int32} {x5 : Int32} {l6 : Option Value} : Go d 14 89 [some (.ref a0), some (.int x1), some (.int x2), some (.int x3), some (.int x4), some (.int x5), l6] [] h Q ↔ Go d 14 31 [some (.ref a0), some (.int x1), some (.int x2), some (.int x3), some (.int x4), some (.int (x5 + ii 1)), l6] [] h Q := by
  refine (G_iinc (k := 5) (L' := [some (.ref a0), some (.int x1), some (.int x2), some (.int x3), some (.int x4), some (.int (x5 + ii 1)), l6]) rfl rfl rfl (mF fc14 (by rfl))).trans ?_
  refine (G_goto (mF fc14 (by rfl))).trans ?_
  exact Iff.rfl
theorem e14 {d : Nat} {h : mHeap} {K : Int32 → mHeap → Prop} {a0 : Nat} {x1 : Int32} {x2 : Int32} {x3 : Int32} : GoCi (d + 1) 14 [.ref a0, .int x1, .int x2, .int x3] h K ↔ Go d 14 0 [some (.ref a0), some (.int x1), some (.int x2), some (.int x3), none, none, none] [] h (rI K) := GoCi_entry rfl rfl
set_option maxRecDepth 20000 in
theorem fc15 : mCodes[15]? = some mc15 := rfl
theorem b15_0 {d : Nat} {h : mHeap} {Q : Option Value → mHeap → Prop} {a0 : Nat} {x1 : Int32} {x2 : Int32} : Go d 15 0 [some (.ref a0), some (.int x1), some (.int x2), none, none] [] h Q ↔ okF h a0 0 2 2 ∧ okF h a0 0 0 2 ∧ okF h (fR h a0 0) 4 1 2 ∧ oC h (fR h (fR h a0 0) 1) = 3 ∧ GoCr d 46 [.ref (fR h (fR h a0 0) 1), .int x1] h (fun v1 h1 => oC h1 (fR h a0 2) = 10 ∧ GoCv d 117 [.ref (fR h a0 2), .ref v1] h1 (fun h2 => Go d 15 20 [some (.ref a0), some (.int x1), some (.int x2), some (.int (ii 0)), none] [] h2 Q)) := by
  refine (G_aload rfl (mF fc15 (by rfl))).trans ?_
  refine (G_getR (c := 0) (k := 2) rfl rfl rfl (mF fc15 (by rfl))).trans (andR ?_)
  refine (G_aload rfl (mF fc15 (by rfl))).trans ?_
  refine (G_getR (c := 0) (k := 0) rfl rfl rfl (mF fc15 (by rfl))).trans (andR ?_)
  refine (G_getR (c := 4) (k := 1) rfl rfl rfl (mF fc15 (by rfl))).trans (andR ?_)
  refine (G_iload rfl (mF fc15 (by rfl))).trans ?_
  refine (G_Vr (q := 23602) (y := 46) (a := fR h (fR h a0 0) 1) (c := 3) rfl rfl rfl rfl (by decide) rfl (as := [.ref (fR h (fR h a0 0) 1), .int x1]) (rest := [.ref (fR h a0 2)]) rfl rfl (mF fc15 (by rfl))).trans (andR (GoCr_congr fun v1 h1 => ?_))
  refine (G_Vv (q := 60066) (y := 117) (a := fR h a0 2) (c := 10) rfl rfl rfl rfl (by decide) rfl (as := [.ref (fR h a0 2), .ref v1]) (rest := []) rfl rfl (mF fc15 (by rfl))).trans (andR (GoCv_congr fun h2 => ?_))
  refine (G_iconst (mF fc15 (by rfl))).trans ?_
  refine (G_istore (k := 3) (L' := [some (.ref a0), some (.int x1), some (.int x2), some (.int (ii 0)), none]) rfl (ltb rfl) rfl (mF fc15 (by rfl))).trans ?_
  exact Iff.rfl
theorem b15_20 {d : Nat} {h : mHeap} {Q : Option Value → mHeap → Prop} {a0 : Nat} {l1 : Option Value} {x2 : Int32} {x3 : Int32} {l4 : Option Value} : Go d 15 20 [some (.ref a0), l1, some (.int x2), some (.int x3), l4] [] h Q ↔ okF h a0 0 0 2 ∧ okF h (fR h a0 0) 4 0 2 ∧ okF h (fR h (fR h a0 0) 0) 2 7 0 ∧ (if (fI h (fR h (fR h a0 0) 0) 7) ≤ x3 then (Q none h) else ((if ((shr x2 x3) &&& (ii 1)) = ii 0 then (Go d 15 77 [some (.ref a0), l1, some (.int x2), some (.int x3), l4] [] h Q) else (okF h a0 0 0 2 ∧ okF h (fR h a0 0) 4 0 2 ∧ okF h (fR h (fR h a0 0) 0) 2 8 2 ∧ okA h (fR h (fR h (fR h a0 0) 0) 8) .int x3 ∧ okF h a0 0 2 2 ∧ okF h a0 0 0 2 ∧ okF h (fR h a0 0) 4 1 2 ∧ oC h (fR h (fR h a0 0) 1) = 3 ∧ GoCi d 47 [.ref (fR h (fR h a0 0) 1), .int (eI h (fR h (fR h (fR h a0 0) 0) 8) x3)] h (fun v1 h1 => oC h1 (fR h a0 2) = 10 ∧ GoCv d 123 [.ref (fR h a0 2), .int (eI h (fR h (fR h (fR h a0 0) 0) 8) x3), .int v1] h1 (fun h2 => Go d 15 77 [some (.ref a0), l1, some (.int x2), some (.int x3), some (.int (eI h (fR h (fR h (fR h a0 0) 0) 8) x3))] [] h2 Q)))))) := by
  refine (G_iload rfl (mF fc15 (by rfl))).trans ?_
  refine (G_aload rfl (mF fc15 (by rfl))).trans ?_
  refine (G_getR (c := 0) (k := 0) rfl rfl rfl (mF fc15 (by rfl))).trans (andR ?_)
  refine (G_getR (c := 4) (k := 0) rfl rfl rfl (mF fc15 (by rfl))).trans (andR ?_)
  refine (G_getI (c := 2) (k := 7) rfl rfl rfl (mF fc15 (by rfl))).trans (andR ?_)
  refine (G_ige (mF fc15 (by rfl))).trans (gi ?_ ?_)
  ·
    exact G_return rfl (mF fc15 (by rfl))
  ·
    refine (G_iload rfl (mF fc15 (by rfl))).trans ?_
    refine (G_iload rfl (mF fc15 (by rfl))).trans ?_
    refine (G_ishr (mF fc15 (by rfl))).trans ?_
    refine (G_iconst (mF fc15 (by rfl))).trans ?_
    refine (G_iand (mF fc15 (by rfl))).trans ?_
    refine (G_eq (mF fc15 (by rfl))).trans (gi ?_ ?_)
    ·
      exact Iff.rfl
    ·
      refine (G_aload rfl (mF fc15 (by rfl))).trans ?_
      refine (G_getR (c := 0) (k := 0) rfl rfl rfl (mF fc15 (by rfl))).trans (andR ?_)
      refine (G_getR (c := 4) (k := 0) rfl rfl rfl (mF fc15 (by rfl))).trans (andR ?_)
      refine (G_getR (c := 2) (k := 8) rfl rfl rfl (mF fc15 (by rfl))).trans (andR ?_)
      refine (G_iload rfl (mF fc15 (by rfl))).trans ?_
      refine (G_iaload (mF fc15 (by rfl))).trans (andR ?_)
      refine (G_istore (k := 4) (L' := [some (.ref a0), l1, some (.int x2), some (.int x3), some (.int (eI h (fR h (fR h (fR h a0 0) 0) 8) x3))]) rfl (ltb rfl) rfl (mF fc15 (by rfl))).trans ?_
      refine (G_aload rfl (mF fc15 (by rfl))).trans ?_
      refine (G_getR (c := 0) (k := 2) rfl rfl rfl (mF fc15 (by rfl))).trans (andR ?_)
      refine (G_iload rfl (mF fc15 (by rfl))).trans ?_
      refine (G_aload rfl (mF fc15 (by rfl))).trans ?_
      refine (G_getR (c := 0) (k := 0) rfl rfl rfl (mF fc15 (by rfl))).trans (andR ?_)
      refine (G_getR (c := 4) (k := 1) rfl rfl rfl (mF fc15 (by rfl))).trans (andR ?_)
      refine (G_iload rfl (mF fc15 (by rfl))).trans ?_
      refine (G_Vi (q := 24114) (y := 47) (a := fR h (fR h a0 0) 1) (c := 3) rfl rfl rfl rfl (by decide) rfl (as := [.ref (fR h (fR h a0 0) 1), .int (eI h (fR h (fR h (fR h a0 0) 0) 8) x3)]) (rest := [.int (eI h (fR h (fR h (fR h a0 0) 0) 8) x3), .ref (fR h a0 2)]) rfl rfl (mF fc15 (by rfl))).trans (andR (GoCi_congr fun v1 h1 => ?_))
      refine (G_Vv (q := 63139) (y := 123) (a := fR h a0 2) (c := 10) rfl rfl rfl rfl (by decide) rfl (as := [.ref (fR h a0 2), .int (eI h (fR h (fR h (fR h a0 0) 0) 8) x3), .int v1]) (rest := []) rfl rfl (mF fc15 (by rfl))).trans (andR (GoCv_congr fun h2 => ?_))
      exact Iff.rfl
theorem b15_77 {d : Nat} {h : mHeap} {Q : Option Value → mHeap → Prop} {a0 : Nat} {l1 : Option Value} {x2 : Int32} {x3 : Int32} {l4 : Option Value} : Go d 15 77 [some (.ref a0), l1, some (.int x2), some (.int x3), l4] [] h Q ↔ Go d 15 20 [some (.ref a0), l1, some (.int x2), some (.int (x3 + ii 1)), l4] [] h Q := by
  refine (G_iinc (k := 3) (L' := [some (.ref a0), l1, some (.int x2), some (.int (x3 + ii 1)), l4]) rfl rfl rfl (mF fc15 (by rfl))).trans ?_
  refine (G_goto (mF fc15 (by rfl))).trans ?_
  exact Iff.rfl
theorem e15 {d : Nat} {h : mHeap} {K : mHeap → Prop} {a0 : Nat} {x1 : Int32} {x2 : Int32} : GoCv (d + 1) 15 [.ref a0, .int x1, .int x2] h K ↔ Go d 15 0 [some (.ref a0), some (.int x1), some (.int x2), none, none] [] h (rV K) := GoCv_entry rfl rfl
set_option maxRecDepth 20000 in
theorem fc16 : mCodes[16]? = some mc16 := rfl
theorem b16_0 {d : Nat} {h : mHeap} {Q : Option Value → mHeap → Prop} {a0 : Nat} {x1 : Int32} {x2 : Int32} : Go d 16 0 [some (.ref a0), some (.int x1), some (.int x2), none, none, none, none, none, none] [] h Q ↔ okF h a0 0 0 2 ∧ okF h (fR h a0 0) 4 1 2 ∧ oC h (fR h (fR h a0 0) 1) = 3 ∧ GoCr d 46 [.ref (fR h (fR h a0 0) 1), .int (ii (-1))] h (fun v1 h1 => oC h1 a0 = 0 ∧ GoCi d 2 [.ref a0, .ref v1, .int x1] h1 (fun v2 h2 => Go d 16 27 [some (.ref a0), some (.int x1), some (.int x2), some (.int v2), some (.int (ii (-2))), some (.int (ii 0)), some (.int (ii 0)), none, none] [] h2 Q)) := by
  refine (G_aload rfl (mF fc16 (by rfl))).trans ?_
  refine (G_aload rfl (mF fc16 (by rfl))).trans ?_
  refine (G_getR (c := 0) (k := 0) rfl rfl rfl (mF fc16 (by rfl))).trans (andR ?_)
  refine (G_getR (c := 4) (k := 1) rfl rfl rfl (mF fc16 (by rfl))).trans (andR ?_)
  refine (G_iconst (mF fc16 (by rfl))).trans ?_
  refine (G_Vr (q := 23602) (y := 46) (a := fR h (fR h a0 0) 1) (c := 3) rfl rfl rfl rfl (by decide) rfl (as := [.ref (fR h (fR h a0 0) 1), .int (ii (-1))]) (rest := [.ref a0]) rfl rfl (mF fc16 (by rfl))).trans (andR (GoCr_congr fun v1 h1 => ?_))
  refine (G_iload rfl (mF fc16 (by rfl))).trans ?_
  refine (G_Vi (q := 1027) (y := 2) (a := a0) (c := 0) rfl rfl rfl rfl (by decide) rfl (as := [.ref a0, .ref v1, .int x1]) (rest := []) rfl rfl (mF fc16 (by rfl))).trans (andR (GoCi_congr fun v2 h2 => ?_))
  refine (G_istore (k := 3) (L' := [some (.ref a0), some (.int x1), some (.int x2), some (.int v2), none, none, none, none, none]) rfl (ltb rfl) rfl (mF fc16 (by rfl))).trans ?_
  refine (G_iconst (mF fc16 (by rfl))).trans ?_
  refine (G_istore (k := 4) (L' := [some (.ref a0), some (.int x1), some (.int x2), some (.int v2), some (.int (ii (-2))), none, none, none, none]) rfl (ltb rfl) rfl (mF fc16 (by rfl))).trans ?_
  refine (G_iconst (mF fc16 (by rfl))).trans ?_
  refine (G_istore (k := 5) (L' := [some (.ref a0), some (.int x1), some (.int x2), some (.int v2), some (.int (ii (-2))), some (.int (ii 0)), none, none, none]) rfl (ltb rfl) rfl (mF fc16 (by rfl))).trans ?_
  refine (G_iconst (mF fc16 (by rfl))).trans ?_
  refine (G_istore (k := 6) (L' := [some (.ref a0), some (.int x1), some (.int x2), some (.int v2), some (.int (ii (-2))), some (.int (ii 0)), some (.int (ii 0)), none, none]) rfl (ltb rfl) rfl (mF fc16 (by rfl))).trans ?_
  exact Iff.rfl
theorem b16_27 {d : Nat} {h : mHeap} {Q : Option Value → mHeap → Prop} {a0 : Nat} {x1 : Int32} {x2 : Int32} {x3 : Int32} {x4 : Int32} {x5 : Int32} {x6 : Int32} {l7 : Option Value} {l8 : Option Value} : Go d 16 27 [some (.ref a0), some (.int x1), some (.int x2), some (.int x3), some (.int x4), some (.int x5), some (.int x6), l7, l8] [] h Q ↔ okF h a0 0 0 2 ∧ okF h (fR h a0 0) 4 0 2 ∧ okF h (fR h (fR h a0 0) 0) 2 2 0 ∧ (if (shl (ii 1) (fI h (fR h (fR h a0 0) 0) 2)) ≤ x6 then ((if x2 = (ii 1) then (Q (some (.int x4)) h) else ((if ¬ x4 = (ii (-2)) then (Q (some (.int x5)) h) else (Q (some (.int x4)) h))))) else (oC h a0 = 0 ∧ GoCi d 17 [.ref a0, .int x6] h (fun v1 h1 => (if x4 = (ii (-2)) then (Go d 16 66 [some (.ref a0), some (.int x1), some (.int x2), some (.int x3), some (.int x4), some (.int x5), some (.int x6), some (.int v1), l8] [] h1 Q) else ((if x5 ≤ v1 then (Go d 16 71 [some (.ref a0), some (.int x1), some (.int x2), some (.int x3), some (.int x4), some (.int x5), some (.int x6), some (.int v1), l8] [.int (ii 0)] h1 Q) else (Go d 16 66 [some (.ref a0), some (.int x1), some (.int x2), some (.int x3), some (.int x4), some (.int x5), some (.int x6), some (.int v1), l8] [] h1 Q))))))) := by
  refine (G_iload rfl (mF fc16 (by rfl))).trans ?_
  refine (G_iconst (mF fc16 (by rfl))).trans ?_
  refine (G_aload rfl (mF fc16 (by rfl))).trans ?_
  refine (G_getR (c := 0) (k := 0) rfl rfl rfl (mF fc16 (by rfl))).trans (andR ?_)
  refine (G_getR (c := 4) (k := 0) rfl rfl rfl (mF fc16 (by rfl))).trans (andR ?_)
  refine (G_getI (c := 2) (k := 2) rfl rfl rfl (mF fc16 (by rfl))).trans (andR ?_)
  refine (G_ishl (mF fc16 (by rfl))).trans ?_
  refine (G_ige (mF fc16 (by rfl))).trans (gi ?_ ?_)
  ·
    refine (G_iload rfl (mF fc16 (by rfl))).trans ?_
    refine (G_iconst (mF fc16 (by rfl))).trans ?_
    refine (G_ieq (mF fc16 (by rfl))).trans (gi ?_ ?_)
    ·
      refine (G_iload rfl (mF fc16 (by rfl))).trans ?_
      refine (G_goto (mF fc16 (by rfl))).trans ?_
      exact G_ireturnI rfl (mF fc16 (by rfl))
    ·
      refine (G_iload rfl (mF fc16 (by rfl))).trans ?_
      refine (G_iconst (mF fc16 (by rfl))).trans ?_
      refine (G_ine (mF fc16 (by rfl))).trans (gi ?_ ?_)
      ·
        refine (G_iload rfl (mF fc16 (by rfl))).trans ?_
        exact G_ireturnI rfl (mF fc16 (by rfl))
      ·
        refine (G_iload rfl (mF fc16 (by rfl))).trans ?_
        refine (G_goto (mF fc16 (by rfl))).trans ?_
        exact G_ireturnI rfl (mF fc16 (by rfl))
  ·
    refine (G_aload rfl (mF fc16 (by rfl))).trans ?_
    refine (G_iload rfl (mF fc16 (by rfl))).trans ?_
    refine (G_Vi (q := 8706) (y := 17) (a := a0) (c := 0) rfl rfl rfl rfl (by decide) rfl (as := [.ref a0, .int x6]) (rest := []) rfl rfl (mF fc16 (by rfl))).trans (andR (GoCi_congr fun v1 h1 => ?_))
    refine (G_istore (k := 7) (L' := [some (.ref a0), some (.int x1), some (.int x2), some (.int x3), some (.int x4), some (.int x5), some (.int x6), some (.int v1), l8]) rfl (ltb rfl) rfl (mF fc16 (by rfl))).trans ?_
    refine (G_iload rfl (mF fc16 (by rfl))).trans ?_
    refine (G_iconst (mF fc16 (by rfl))).trans ?_
    refine (G_ieq (mF fc16 (by rfl))).trans (gi ?_ ?_)
    ·
      exact Iff.rfl
    ·
      refine (G_iload rfl (mF fc16 (by rfl))).trans ?_
      refine (G_iload rfl (mF fc16 (by rfl))).trans ?_
      refine (G_ige (mF fc16 (by rfl))).trans (gi ?_ ?_)
      ·
        refine (G_iconst (mF fc16 (by rfl))).trans ?_
        exact Iff.rfl
      ·
        exact Iff.rfl
theorem b16_66 {d : Nat} {h : mHeap} {Q : Option Value → mHeap → Prop} {a0 : Nat} {x1 : Int32} {x2 : Int32} {x3 : Int32} {x4 : Int32} {x5 : Int32} {x6 : Int32} {x7 : Int32} {l8 : Option Value} : Go d 16 66 [some (.ref a0), some (.int x1), some (.int x2), some (.int x3), some (.int x4), some (.int x5), some (.int x6), some (.int x7), l8] [] h Q ↔ Go d 16 71 [some (.ref a0), some (.int x1), some (.int x2), some (.int x3), some (.int x4), some (.int x5), some (.int x6), some (.int x7), l8] [.int (ii 1)] h Q := by
  refine (G_iconst (mF fc16 (by rfl))).trans ?_
  refine (G_goto (mF fc16 (by rfl))).trans ?_
  exact Iff.rfl
theorem b16_71 {d : Nat} {h : mHeap} {Q : Option Value → mHeap → Prop} {a0 : Nat} {x1 : Int32} {x2 : Int32} {x3 : Int32} {x4 : Int32} {x5 : Int32} {x6 : Int32} {x7 : Int32} {l8 : Option Value} {s0 : Int32} : Go d 16 71 [some (.ref a0), some (.int x1), some (.int x2), some (.int x3), some (.int x4), some (.int x5), some (.int x6), some (.int x7), l8] [.int s0] h Q ↔ (if s0 = ii 0 then (Go d 16 114 [some (.ref a0), some (.int x1), some (.int x2), some (.int x3), some (.int x4), some (.int x5), some (.int x6), some (.int x7), some (.int s0)] [] h Q) else ((if ¬ ((shr x6 x1) &&& (ii 1)) = ii 0 then (Go d 16 114 [some (.ref a0), some (.int x1), some (.int x2), some (.int x3), some (.int x4), some (.int x5), some (.int x6), some (.int x7), some (.int s0)] [] h Q) else (oC h a0 = 0 ∧ GoCv d 18 [.ref a0, .int x1, .int x6] h (fun h1 => okF h1 a0 0 2 2 ∧ oC h1 a0 = 0 ∧ GoCi d 3 [.ref a0, .ref (fR h1 a0 2), .int x3] h1 (fun v2 h2 => (if v2 = ii 0 then (Go d 16 114 [some (.ref a0), some (.int x1), some (.int x2), some (.int x3), some (.int x4), some (.int x5), some (.int x6), some (.int x7), some (.int s0)] [] h2 Q) else (Go d 16 114 [some (.ref a0), some (.int x1), some (.int x2), some (.int x3), some (.int x6), some (.int x7), some (.int x6), some (.int x7), some (.int s0)] [] h2 Q)))))))) := by
  refine (G_istore (k := 8) (L' := [some (.ref a0), some (.int x1), some (.int x2), some (.int x3), some (.int x4), some (.int x5), some (.int x6), some (.int x7), some (.int s0)]) rfl (ltb rfl) rfl (mF fc16 (by rfl))).trans ?_
  refine (G_iload rfl (mF fc16 (by rfl))).trans ?_
  refine (G_eq (mF fc16 (by rfl))).trans (gi ?_ ?_)
  ·
    exact Iff.rfl
  ·
    refine (G_iload rfl (mF fc16 (by rfl))).trans ?_
    refine (G_iload rfl (mF fc16 (by rfl))).trans ?_
    refine (G_ishr (mF fc16 (by rfl))).trans ?_
    refine (G_iconst (mF fc16 (by rfl))).trans ?_
    refine (G_iand (mF fc16 (by rfl))).trans ?_
    refine (G_ne (mF fc16 (by rfl))).trans (gi ?_ ?_)
    ·
      exact Iff.rfl
    ·
      refine (G_aload rfl (mF fc16 (by rfl))).trans ?_
      refine (G_iload rfl (mF fc16 (by rfl))).trans ?_
      refine (G_iload rfl (mF fc16 (by rfl))).trans ?_
      refine (G_Vv (q := 9219) (y := 18) (a := a0) (c := 0) rfl rfl rfl rfl (by decide) rfl (as := [.ref a0, .int x1, .int x6]) (rest := []) rfl rfl (mF fc16 (by rfl))).trans (andR (GoCv_congr fun h1 => ?_))
      refine (G_aload rfl (mF fc16 (by rfl))).trans ?_
      refine (G_aload rfl (mF fc16 (by rfl))).trans ?_
      refine (G_getR (c := 0) (k := 2) rfl rfl rfl (mF fc16 (by rfl))).trans (andR ?_)
      refine (G_iload rfl (mF fc16 (by rfl))).trans ?_
      refine (G_Vi (q := 1539) (y := 3) (a := a0) (c := 0) rfl rfl rfl rfl (by decide) rfl (as := [.ref a0, .ref (fR h1 a0 2), .int x3]) (rest := []) rfl rfl (mF fc16 (by rfl))).trans (andR (GoCi_congr fun v2 h2 => ?_))
      refine (G_eq (mF fc16 (by rfl))).trans (gi ?_ ?_)
      ·
        exact Iff.rfl
      ·
        refine (G_iload rfl (mF fc16 (by rfl))).trans ?_
        refine (G_istore (k := 4) (L' := [some (.ref a0), some (.int x1), some (.int x2), some (.int x3), some (.int x6), some (.int x5), some (.int x6), some (.int x7), some (.int s0)]) rfl (ltb rfl) rfl (mF fc16 (by rfl))).trans ?_
        refine (G_iload rfl (mF fc16 (by rfl))).trans ?_
        refine (G_istore (k := 5) (L' := [some (.ref a0), some (.int x1), some (.int x2), some (.int x3), some (.int x6), some (.int x7), some (.int x6), some (.int x7), some (.int s0)]) rfl (ltb rfl) rfl (mF fc16 (by rfl))).trans ?_
        exact Iff.rfl
theorem b16_114 {d : Nat} {h : mHeap} {Q : Option Value → mHeap → Prop} {a0 : Nat} {x1 : Int32} {x2 : Int32} {x3 : Int32} {x4 : Int32} {x5 : Int32} {x6 : Int32} {l7 : Option Value} {l8 : Option Value} : Go d 16 114 [some (.ref a0), some (.int x1), some (.int x2), some (.int x3), some (.int x4), some (.int x5), some (.int x6), l7, l8] [] h Q ↔ Go d 16 27 [some (.ref a0), some (.int x1), some (.int x2), some (.int x3), some (.int x4), some (.int x5), some (.int (x6 + ii 1)), l7, l8] [] h Q := by
  refine (G_iinc (k := 6) (L' := [some (.ref a0), some (.int x1), some (.int x2), some (.int x3), some (.int x4), some (.int x5), some (.int (x6 + ii 1)), l7, l8]) rfl rfl rfl (mF fc16 (by rfl))).trans ?_
  refine (G_goto (mF fc16 (by rfl))).trans ?_
  exact Iff.rfl
theorem e16 {d : Nat} {h : mHeap} {K : Int32 → mHeap → Prop} {a0 : Nat} {x1 : Int32} {x2 : Int32} : GoCi (d + 1) 16 [.ref a0, .int x1, .int x2] h K ↔ Go d 16 0 [some (.ref a0), some (.int x1), some (.int x2), none, none, none, none, none, none] [] h (rI K) := GoCi_entry rfl rfl
set_option maxRecDepth 20000 in
theorem fc17 : mCodes[17]? = some mc17 := rfl
theorem b17_0 {d : Nat} {h : mHeap} {Q : Option Value → mHeap → Prop} {a0 : Nat} {x1 : Int32} : Go d 17 0 [some (.ref a0), some (.int x1), none, none] [] h Q ↔ Go d 17 4 [some (.ref a0), some (.int x1), some (.int (ii 0)), some (.int (ii 0))] [] h Q := by
  refine (G_iconst (mF fc17 (by rfl))).trans ?_
  refine (G_istore (k := 2) (L' := [some (.ref a0), some (.int x1), some (.int (ii 0)), none]) rfl (ltb rfl) rfl (mF fc17 (by rfl))).trans ?_
  refine (G_iconst (mF fc17 (by rfl))).trans ?_
  refine (G_istore (k := 3) (L' := [some (.ref a0), some (.int x1), some (.int (ii 0)), some (.int (ii 0))]) rfl (ltb rfl) rfl (mF fc17 (by rfl))).trans ?_
  exact Iff.rfl
theorem b17_4 {d : Nat} {h : mHeap} {Q : Option Value → mHeap → Prop} {a0 : Nat} {x1 : Int32} {x2 : Int32} {x3 : Int32} : Go d 17 4 [some (.ref a0), some (.int x1), some (.int x2), some (.int x3)] [] h Q ↔ okF h a0 0 0 2 ∧ okF h (fR h a0 0) 4 0 2 ∧ okF h (fR h (fR h a0 0) 0) 2 2 0 ∧ (if (fI h (fR h (fR h a0 0) 0) 2) ≤ x3 then (Q (some (.int x2)) h) else ((if ((shr x1 x3) &&& (ii 1)) = ii 0 then (Go d 17 41 [some (.ref a0), some (.int x1), some (.int x2), some (.int x3)] [] h Q) else (okF h a0 0 0 2 ∧ okF h (fR h a0 0) 4 0 2 ∧ okF h (fR h (fR h a0 0) 0) 2 6 2 ∧ okA h (fR h (fR h (fR h a0 0) 0) 6) .int x3 ∧ Go d 17 41 [some (.ref a0), some (.int x1), some (.int (x2 + (eI h (fR h (fR h (fR h a0 0) 0) 6) x3))), some (.int x3)] [] h Q)))) := by
  refine (G_iload rfl (mF fc17 (by rfl))).trans ?_
  refine (G_aload rfl (mF fc17 (by rfl))).trans ?_
  refine (G_getR (c := 0) (k := 0) rfl rfl rfl (mF fc17 (by rfl))).trans (andR ?_)
  refine (G_getR (c := 4) (k := 0) rfl rfl rfl (mF fc17 (by rfl))).trans (andR ?_)
  refine (G_getI (c := 2) (k := 2) rfl rfl rfl (mF fc17 (by rfl))).trans (andR ?_)
  refine (G_ige (mF fc17 (by rfl))).trans (gi ?_ ?_)
  ·
    refine (G_iload rfl (mF fc17 (by rfl))).trans ?_
    exact G_ireturnI rfl (mF fc17 (by rfl))
  ·
    refine (G_iload rfl (mF fc17 (by rfl))).trans ?_
    refine (G_iload rfl (mF fc17 (by rfl))).trans ?_
    refine (G_ishr (mF fc17 (by rfl))).trans ?_
    refine (G_iconst (mF fc17 (by rfl))).trans ?_
    refine (G_iand (mF fc17 (by rfl))).trans ?_
    refine (G_eq (mF fc17 (by rfl))).trans (gi ?_ ?_)
    ·
      exact Iff.rfl
    ·
      refine (G_iload rfl (mF fc17 (by rfl))).trans ?_
      refine (G_aload rfl (mF fc17 (by rfl))).trans ?_
      refine (G_getR (c := 0) (k := 0) rfl rfl rfl (mF fc17 (by rfl))).trans (andR ?_)
      refine (G_getR (c := 4) (k := 0) rfl rfl rfl (mF fc17 (by rfl))).trans (andR ?_)
      refine (G_getR (c := 2) (k := 6) rfl rfl rfl (mF fc17 (by rfl))).trans (andR ?_)
      refine (G_iload rfl (mF fc17 (by rfl))).trans ?_
      refine (G_iaload (mF fc17 (by rfl))).trans (andR ?_)
      refine (G_iadd (mF fc17 (by rfl))).trans ?_
      refine (G_istore (k := 2) (L' := [some (.ref a0), some (.int x1), some (.int (x2 + (eI h (fR h (fR h (fR h a0 0) 0) 6) x3))), some (.int x3)]) rfl (ltb rfl) rfl (mF fc17 (by rfl))).trans ?_
      exact Iff.rfl
theorem b17_41 {d : Nat} {h : mHeap} {Q : Option Value → mHeap → Prop} {a0 : Nat} {x1 : Int32} {x2 : Int32} {x3 : Int32} : Go d 17 41 [some (.ref a0), some (.int x1), some (.int x2), some (.int x3)] [] h Q ↔ Go d 17 4 [some (.ref a0), some (.int x1), some (.int x2), some (.int (x3 + ii 1))] [] h Q := by
  refine (G_iinc (k := 3) (L' := [some (.ref a0), some (.int x1), some (.int x2), some (.int (x3 + ii 1))]) rfl rfl rfl (mF fc17 (by rfl))).trans ?_
  refine (G_goto (mF fc17 (by rfl))).trans ?_
  exact Iff.rfl
theorem e17 {d : Nat} {h : mHeap} {K : Int32 → mHeap → Prop} {a0 : Nat} {x1 : Int32} : GoCi (d + 1) 17 [.ref a0, .int x1] h K ↔ Go d 17 0 [some (.ref a0), some (.int x1), none, none] [] h (rI K) := GoCi_entry rfl rfl
set_option maxRecDepth 20000 in
theorem fc18 : mCodes[18]? = some mc18 := rfl
theorem b18_0 {d : Nat} {h : mHeap} {Q : Option Value → mHeap → Prop} {a0 : Nat} {x1 : Int32} {x2 : Int32} : Go d 18 0 [some (.ref a0), some (.int x1), some (.int x2), none] [] h Q ↔ okF h a0 0 2 2 ∧ okF h a0 0 0 2 ∧ okF h (fR h a0 0) 4 1 2 ∧ oC h (fR h (fR h a0 0) 1) = 3 ∧ GoCr d 46 [.ref (fR h (fR h a0 0) 1), .int x1] h (fun v1 h1 => oC h1 (fR h a0 2) = 10 ∧ GoCv d 117 [.ref (fR h a0 2), .ref v1] h1 (fun h2 => Go d 18 20 [some (.ref a0), some (.int x1), some (.int x2), some (.int (ii 0))] [] h2 Q)) := by
  refine (G_aload rfl (mF fc18 (by rfl))).trans ?_
  refine (G_getR (c := 0) (k := 2) rfl rfl rfl (mF fc18 (by rfl))).trans (andR ?_)
  refine (G_aload rfl (mF fc18 (by rfl))).trans ?_
  refine (G_getR (c := 0) (k := 0) rfl rfl rfl (mF fc18 (by rfl))).trans (andR ?_)
  refine (G_getR (c := 4) (k := 1) rfl rfl rfl (mF fc18 (by rfl))).trans (andR ?_)
  refine (G_iload rfl (mF fc18 (by rfl))).trans ?_
  refine (G_Vr (q := 23602) (y := 46) (a := fR h (fR h a0 0) 1) (c := 3) rfl rfl rfl rfl (by decide) rfl (as := [.ref (fR h (fR h a0 0) 1), .int x1]) (rest := [.ref (fR h a0 2)]) rfl rfl (mF fc18 (by rfl))).trans (andR (GoCr_congr fun v1 h1 => ?_))
  refine (G_Vv (q := 60066) (y := 117) (a := fR h a0 2) (c := 10) rfl rfl rfl rfl (by decide) rfl (as := [.ref (fR h a0 2), .ref v1]) (rest := []) rfl rfl (mF fc18 (by rfl))).trans (andR (GoCv_congr fun h2 => ?_))
  refine (G_iconst (mF fc18 (by rfl))).trans ?_
  refine (G_istore (k := 3) (L' := [some (.ref a0), some (.int x1), some (.int x2), some (.int (ii 0))]) rfl (ltb rfl) rfl (mF fc18 (by rfl))).trans ?_
  exact Iff.rfl
theorem b18_20 {d : Nat} {h : mHeap} {Q : Option Value → mHeap → Prop} {a0 : Nat} {l1 : Option Value} {x2 : Int32} {x3 : Int32} : Go d 18 20 [some (.ref a0), l1, some (.int x2), some (.int x3)] [] h Q ↔ okF h a0 0 0 2 ∧ okF h (fR h a0 0) 4 0 2 ∧ okF h (fR h (fR h a0 0) 0) 2 2 0 ∧ (if (fI h (fR h (fR h a0 0) 0) 2) ≤ x3 then (Q none h) else ((if ((shr x2 x3) &&& (ii 1)) = ii 0 then (Go d 18 60 [some (.ref a0), l1, some (.int x2), some (.int x3)] [] h Q) else (okF h a0 0 2 2 ∧ okF h a0 0 0 2 ∧ okF h (fR h a0 0) 4 1 2 ∧ oC h (fR h (fR h a0 0) 1) = 3 ∧ GoCr d 46 [.ref (fR h (fR h a0 0) 1), .int x3] h (fun v1 h1 => oC h1 (fR h a0 2) = 10 ∧ GoCv d 121 [.ref (fR h a0 2), .ref v1] h1 (fun h2 => Go d 18 60 [some (.ref a0), l1, some (.int x2), some (.int x3)] [] h2 Q)))))) := by
  refine (G_iload rfl (mF fc18 (by rfl))).trans ?_
  refine (G_aload rfl (mF fc18 (by rfl))).trans ?_
  refine (G_getR (c := 0) (k := 0) rfl rfl rfl (mF fc18 (by rfl))).trans (andR ?_)
  refine (G_getR (c := 4) (k := 0) rfl rfl rfl (mF fc18 (by rfl))).trans (andR ?_)
  refine (G_getI (c := 2) (k := 2) rfl rfl rfl (mF fc18 (by rfl))).trans (andR ?_)
  refine (G_ige (mF fc18 (by rfl))).trans (gi ?_ ?_)
  ·
    exact G_return rfl (mF fc18 (by rfl))
  ·
    refine (G_iload rfl (mF fc18 (by rfl))).trans ?_
    refine (G_iload rfl (mF fc18 (by rfl))).trans ?_
    refine (G_ishr (mF fc18 (by rfl))).trans ?_
    refine (G_iconst (mF fc18 (by rfl))).trans ?_
    refine (G_iand (mF fc18 (by rfl))).trans ?_
    refine (G_eq (mF fc18 (by rfl))).trans (gi ?_ ?_)
    ·
      exact Iff.rfl
    ·
      refine (G_aload rfl (mF fc18 (by rfl))).trans ?_
      refine (G_getR (c := 0) (k := 2) rfl rfl rfl (mF fc18 (by rfl))).trans (andR ?_)
      refine (G_aload rfl (mF fc18 (by rfl))).trans ?_
      refine (G_getR (c := 0) (k := 0) rfl rfl rfl (mF fc18 (by rfl))).trans (andR ?_)
      refine (G_getR (c := 4) (k := 1) rfl rfl rfl (mF fc18 (by rfl))).trans (andR ?_)
      refine (G_iload rfl (mF fc18 (by rfl))).trans ?_
      refine (G_Vr (q := 23602) (y := 46) (a := fR h (fR h a0 0) 1) (c := 3) rfl rfl rfl rfl (by decide) rfl (as := [.ref (fR h (fR h a0 0) 1), .int x3]) (rest := [.ref (fR h a0 2)]) rfl rfl (mF fc18 (by rfl))).trans (andR (GoCr_congr fun v1 h1 => ?_))
      refine (G_Vv (q := 62114) (y := 121) (a := fR h a0 2) (c := 10) rfl rfl rfl rfl (by decide) rfl (as := [.ref (fR h a0 2), .ref v1]) (rest := []) rfl rfl (mF fc18 (by rfl))).trans (andR (GoCv_congr fun h2 => ?_))
      exact Iff.rfl
theorem b18_60 {d : Nat} {h : mHeap} {Q : Option Value → mHeap → Prop} {a0 : Nat} {l1 : Option Value} {x2 : Int32} {x3 : Int32} : Go d 18 60 [some (.ref a0), l1, some (.int x2), some (.int x3)] [] h Q ↔ Go d 18 20 [some (.ref a0), l1, some (.int x2), some (.int (x3 + ii 1))] [] h Q := by
  refine (G_iinc (k := 3) (L' := [some (.ref a0), l1, some (.int x2), some (.int (x3 + ii 1))]) rfl rfl rfl (mF fc18 (by rfl))).trans ?_
  refine (G_goto (mF fc18 (by rfl))).trans ?_
  exact Iff.rfl
theorem e18 {d : Nat} {h : mHeap} {K : mHeap → Prop} {a0 : Nat} {x1 : Int32} {x2 : Int32} : GoCv (d + 1) 18 [.ref a0, .int x1, .int x2] h K ↔ Go d 18 0 [some (.ref a0), some (.int x1), some (.int x2), none] [] h (rV K) := GoCv_entry rfl rfl
set_option maxRecDepth 20000 in
theorem fc19 : mCodes[19]? = some mc19 := rfl
theorem b19_0 {d : Nat} {h : mHeap} {Q : Option Value → mHeap → Prop} {a0 : Nat} {a1 : Nat} {a2 : Nat} : Go d 19 0 [some (.ref a0), some (.ref a1), some (.ref a2)] [] h Q ↔ 64 ≤ a0 ∧ okN (ii 10) ∧ (∃ h1 : mHeap, h1 = nJ h (ii 10) ∧ okP h1 a0 1 2 ∧ (∃ h2 : mHeap, h2 = nO (sF h1 a0 2 (.ref h.length)) 3 ∧ 64 ≤ ((sF h1 a0 2 (.ref h.length)).length) ∧ GoCv d 43 [.ref ((sF h1 a0 2 (.ref h.length)).length)] h2 (fun h3 => okP h3 a0 1 3 ∧ okP (sF h3 a0 3 (.ref ((sF h1 a0 2 (.ref h.length)).length))) a0 1 0 ∧ okP (sF (sF h3 a0 3 (.ref ((sF h1 a0 2 (.ref h.length)).length))) a0 0 (.ref a1)) a0 1 1 ∧ Q none (sF (sF (sF h3 a0 3 (.ref ((sF h1 a0 2 (.ref h.length)).length))) a0 0 (.ref a1)) a0 1 (.ref a2))))) := by
  refine (G_aload rfl (mF fc19 (by rfl))).trans ?_
  refine (G_objinit (Nat.le_of_ble_eq_true rfl) (mF fc19 (by rfl))).trans (andR ?_)
  refine (G_aload rfl (mF fc19 (by rfl))).trans ?_
  refine (G_iconst (mF fc19 (by rfl))).trans ?_
  refine (G_newarrayJ (mF fc19 (by rfl))).trans (andR ?_)
  refine (exN (A := fun x => Go d 19 9 [some (.ref a0), some (.ref a1), some (.ref a2)] [.ref h.length, .ref a0] x Q) (e := nJ h (ii 10)) fun h1 => ?_)
  refine (G_putT (c := 1) (k := 2) rfl rfl rfl (mF fc19 (by rfl))).trans (andR ?_)
  refine (G_aload rfl (mF fc19 (by rfl))).trans ?_
  refine (G_new (mF fc19 (by rfl))).trans ?_
  refine (exN (A := fun x => Go d 19 16 [some (.ref a0), some (.ref a1), some (.ref a2)] [.ref ((sF h1 a0 2 (.ref h.length)).length), .ref a0] x Q) (e := nO (sF h1 a0 2 (.ref h.length)) 3) fun h2 => ?_)
  refine (G_dupr (mF fc19 (by rfl))).trans ?_
  refine (G_Nv (q := 22065) (y := 43) (a := (sF h1 a0 2 (.ref h.length)).length) rfl rfl rfl rfl (as := [.ref ((sF h1 a0 2 (.ref h.length)).length)]) (rest := [.ref ((sF h1 a0 2 (.ref h.length)).length), .ref a0]) rfl rfl (mF fc19 (by rfl))).trans (andR (GoCv_congr fun h3 => ?_))
  refine (G_putT (c := 1) (k := 3) rfl rfl rfl (mF fc19 (by rfl))).trans (andR ?_)
  refine (G_aload rfl (mF fc19 (by rfl))).trans ?_
  refine (G_aload rfl (mF fc19 (by rfl))).trans ?_
  refine (G_putT (c := 1) (k := 0) rfl rfl rfl (mF fc19 (by rfl))).trans (andR ?_)
  refine (G_aload rfl (mF fc19 (by rfl))).trans ?_
  refine (G_aload rfl (mF fc19 (by rfl))).trans ?_
  refine (G_putT (c := 1) (k := 1) rfl rfl rfl (mF fc19 (by rfl))).trans (andR ?_)
  exact G_return rfl (mF fc19 (by rfl))
theorem e19 {d : Nat} {h : mHeap} {K : mHeap → Prop} {a0 : Nat} {a1 : Nat} {a2 : Nat} : GoCv (d + 1) 19 [.ref a0, .ref a1, .ref a2] h K ↔ Go d 19 0 [some (.ref a0), some (.ref a1), some (.ref a2)] [] h (rV K) := GoCv_entry rfl rfl
set_option maxRecDepth 20000 in
theorem fc20 : mCodes[20]? = some mc20 := rfl
theorem b20_0 {d : Nat} {h : mHeap} {Q : Option Value → mHeap → Prop} {a0 : Nat} {a1 : Nat} {x2 : Int32} : Go d 20 0 [some (.ref a0), some (.ref a1), some (.int x2), none, none, none, none, none, none] [] h Q ↔ okF h a0 1 0 2 ∧ okF h (fR h a0 0) 4 1 2 ∧ okF h a0 1 0 2 ∧ okF h (fR h a0 0) 4 0 2 ∧ Go d 20 23 [some (.ref a0), some (.ref a1), some (.int x2), some (.ref (fR h (fR h a0 0) 1)), some (.ref (fR h (fR h a0 0) 0)), some (.int (ii 0)), some (.int (ii 0)), none, none] [] h Q := by
  refine (G_aload rfl (mF fc20 (by rfl))).trans ?_
  refine (G_getR (c := 1) (k := 0) rfl rfl rfl (mF fc20 (by rfl))).trans (andR ?_)
  refine (G_getR (c := 4) (k := 1) rfl rfl rfl (mF fc20 (by rfl))).trans (andR ?_)
  refine (G_astore (k := 3) (L' := [some (.ref a0), some (.ref a1), some (.int x2), some (.ref (fR h (fR h a0 0) 1)), none, none, none, none, none]) rfl (ltb rfl) rfl (mF fc20 (by rfl))).trans ?_
  refine (G_aload rfl (mF fc20 (by rfl))).trans ?_
  refine (G_getR (c := 1) (k := 0) rfl rfl rfl (mF fc20 (by rfl))).trans (andR ?_)
  refine (G_getR (c := 4) (k := 0) rfl rfl rfl (mF fc20 (by rfl))).trans (andR ?_)
  refine (G_astore (k := 4) (L' := [some (.ref a0), some (.ref a1), some (.int x2), some (.ref (fR h (fR h a0 0) 1)), some (.ref (fR h (fR h a0 0) 0)), none, none, none, none]) rfl (ltb rfl) rfl (mF fc20 (by rfl))).trans ?_
  refine (G_iconst (mF fc20 (by rfl))).trans ?_
  refine (G_istore (k := 5) (L' := [some (.ref a0), some (.ref a1), some (.int x2), some (.ref (fR h (fR h a0 0) 1)), some (.ref (fR h (fR h a0 0) 0)), some (.int (ii 0)), none, none, none]) rfl (ltb rfl) rfl (mF fc20 (by rfl))).trans ?_
  refine (G_iconst (mF fc20 (by rfl))).trans ?_
  refine (G_istore (k := 6) (L' := [some (.ref a0), some (.ref a1), some (.int x2), some (.ref (fR h (fR h a0 0) 1)), some (.ref (fR h (fR h a0 0) 0)), some (.int (ii 0)), some (.int (ii 0)), none, none]) rfl (ltb rfl) rfl (mF fc20 (by rfl))).trans ?_
  exact Iff.rfl
theorem b20_23 {d : Nat} {h : mHeap} {Q : Option Value → mHeap → Prop} {a0 : Nat} {a1 : Nat} {x2 : Int32} {a3 : Nat} {a4 : Nat} {x5 : Int32} {x6 : Int32} {l7 : Option Value} {l8 : Option Value} : Go d 20 23 [some (.ref a0), some (.ref a1), some (.int x2), some (.ref a3), some (.ref a4), some (.int x5), some (.int x6), l7, l8] [] h Q ↔ (if x2 ≤ x6 then (Q (some (.int x5)) h) else (Go d 20 32 [some (.ref a0), some (.ref a1), some (.int x2), some (.ref a3), some (.ref a4), some (.int x5), some (.int x6), some (.int (ii 0)), l8] [] h Q)) := by
  refine (G_iload rfl (mF fc20 (by rfl))).trans ?_
  refine (G_iload rfl (mF fc20 (by rfl))).trans ?_
  refine (G_ige (mF fc20 (by rfl))).trans (gi ?_ ?_)
  ·
    refine (G_iload rfl (mF fc20 (by rfl))).trans ?_
    exact G_ireturnI rfl (mF fc20 (by rfl))
  ·
    refine (G_iconst (mF fc20 (by rfl))).trans ?_
    refine (G_istore (k := 7) (L' := [some (.ref a0), some (.ref a1), some (.int x2), some (.ref a3), some (.ref a4), some (.int x5), some (.int x6), some (.int (ii 0)), l8]) rfl (ltb rfl) rfl (mF fc20 (by rfl))).trans ?_
    exact Iff.rfl
theorem b20_32 {d : Nat} {h : mHeap} {Q : Option Value → mHeap → Prop} {a0 : Nat} {a1 : Nat} {x2 : Int32} {a3 : Nat} {a4 : Nat} {x5 : Int32} {x6 : Int32} {x7 : Int32} {l8 : Option Value} : Go d 20 32 [some (.ref a0), some (.ref a1), some (.int x2), some (.ref a3), some (.ref a4), some (.int x5), some (.int x6), some (.int x7), l8] [] h Q ↔ okF h a4 2 2 0 ∧ (if (fI h a4 2) ≤ x7 then (oC h a3 = 3 ∧ GoCv d 51 [.ref a3, .ref a4] h (fun h1 => Go d 20 23 [some (.ref a0), some (.ref a1), some (.int x2), some (.ref a3), some (.ref a4), some (.int x5), some (.int (x6 + ii 1)), some (.int x7), l8] [] h1 Q)) else (oC h a3 = 3 ∧ GoCi d 49 [.ref a3, .int x7] h (fun v2 h2 => (if v2 = ii 0 then (oC h2 a0 = 1 ∧ GoCi d 21 [.ref a0, .ref a1, .int x7] h2 (fun v3 h3 => Go d 20 62 [some (.ref a0), some (.ref a1), some (.int x2), some (.ref a3), some (.ref a4), some (.int x5), some (.int x6), some (.int x7), l8] [.int v3] h3 Q)) else (Go d 20 62 [some (.ref a0), some (.ref a1), some (.int x2), some (.ref a3), some (.ref a4), some (.int x5), some (.int x6), some (.int x7), l8] [.int (ii (-1))] h2 Q))))) := by
  refine (G_iload rfl (mF fc20 (by rfl))).trans ?_
  refine (G_aload rfl (mF fc20 (by rfl))).trans ?_
  refine (G_getI (c := 2) (k := 2) rfl rfl rfl (mF fc20 (by rfl))).trans (andR ?_)
  refine (G_ige (mF fc20 (by rfl))).trans (gi ?_ ?_)
  ·
    refine (G_aload rfl (mF fc20 (by rfl))).trans ?_
    refine (G_aload rfl (mF fc20 (by rfl))).trans ?_
    refine (G_Vv (q := 26162) (y := 51) (a := a3) (c := 3) rfl rfl rfl rfl (by decide) rfl (as := [.ref a3, .ref a4]) (rest := []) rfl rfl (mF fc20 (by rfl))).trans (andR (GoCv_congr fun h1 => ?_))
    refine (G_iinc (k := 6) (L' := [some (.ref a0), some (.ref a1), some (.int x2), some (.ref a3), some (.ref a4), some (.int x5), some (.int (x6 + ii 1)), some (.int x7), l8]) rfl rfl rfl (mF fc20 (by rfl))).trans ?_
    refine (G_goto (mF fc20 (by rfl))).trans ?_
    exact Iff.rfl
  ·
    refine (G_aload rfl (mF fc20 (by rfl))).trans ?_
    refine (G_iload rfl (mF fc20 (by rfl))).trans ?_
    refine (G_Vi (q := 25138) (y := 49) (a := a3) (c := 3) rfl rfl rfl rfl (by decide) rfl (as := [.ref a3, .int x7]) (rest := []) rfl rfl (mF fc20 (by rfl))).trans (andR (GoCi_congr fun v2 h2 => ?_))
    refine (G_eq (mF fc20 (by rfl))).trans (gi ?_ ?_)
    ·
      refine (G_aload rfl (mF fc20 (by rfl))).trans ?_
      refine (G_aload rfl (mF fc20 (by rfl))).trans ?_
      refine (G_iload rfl (mF fc20 (by rfl))).trans ?_
      refine (G_Vi (q := 10771) (y := 21) (a := a0) (c := 1) rfl rfl rfl rfl (by decide) rfl (as := [.ref a0, .ref a1, .int x7]) (rest := []) rfl rfl (mF fc20 (by rfl))).trans (andR (GoCi_congr fun v3 h3 => ?_))
      exact Iff.rfl
    ·
      refine (G_iconst (mF fc20 (by rfl))).trans ?_
      refine (G_goto (mF fc20 (by rfl))).trans ?_
      exact Iff.rfl
theorem b20_62 {d : Nat} {h : mHeap} {Q : Option Value → mHeap → Prop} {a0 : Nat} {a1 : Nat} {x2 : Int32} {a3 : Nat} {a4 : Nat} {x5 : Int32} {x6 : Int32} {x7 : Int32} {l8 : Option Value} {s0 : Int32} : Go d 20 62 [some (.ref a0), some (.ref a1), some (.int x2), some (.ref a3), some (.ref a4), some (.int x5), some (.int x6), some (.int x7), l8] [.int s0] h Q ↔ (if s0 = (ii (-1)) then (Go d 20 101 [some (.ref a0), some (.ref a1), some (.int x2), some (.ref a3), some (.ref a4), some (.int x5), some (.int x6), some (.int x7), some (.int s0)] [] h Q) else (okF h a4 2 5 2 ∧ okA h (fR h a4 5) .int x7 ∧ okF h a0 1 1 2 ∧ okF h (fR h a0 1) 8 0 2 ∧ okR h (fR h (fR h a0 1) 0) s0 ∧ oC h a3 = 3 ∧ GoCi d 50 [.ref a3, .int x7, .int (eI h (fR h a4 5) x7), .ref (eR h (fR h (fR h a0 1) 0) s0)] h (fun v1 h1 => (if ¬ (ii 3) = v1 then (Go d 20 101 [some (.ref a0), some (.ref a1), some (.int x2), some (.ref a3), some (.ref a4), some (.int x5), some (.int x6), some (.int x7), some (.int s0)] [] h1 Q) else (Go d 20 101 [some (.ref a0), some (.ref a1), some (.int x2), some (.ref a3), some (.ref a4), some (.int (x5 + ii 1)), some (.int x6), some (.int x7), some (.int s0)] [] h1 Q))))) := by
  refine (G_istore (k := 8) (L' := [some (.ref a0), some (.ref a1), some (.int x2), some (.ref a3), some (.ref a4), some (.int x5), some (.int x6), some (.int x7), some (.int s0)]) rfl (ltb rfl) rfl (mF fc20 (by rfl))).trans ?_
  refine (G_iload rfl (mF fc20 (by rfl))).trans ?_
  refine (G_iconst (mF fc20 (by rfl))).trans ?_
  refine (G_ieq (mF fc20 (by rfl))).trans (gi ?_ ?_)
  ·
    exact Iff.rfl
  ·
    refine (G_iconst (mF fc20 (by rfl))).trans ?_
    refine (G_aload rfl (mF fc20 (by rfl))).trans ?_
    refine (G_iload rfl (mF fc20 (by rfl))).trans ?_
    refine (G_aload rfl (mF fc20 (by rfl))).trans ?_
    refine (G_getR (c := 2) (k := 5) rfl rfl rfl (mF fc20 (by rfl))).trans (andR ?_)
    refine (G_iload rfl (mF fc20 (by rfl))).trans ?_
    refine (G_iaload (mF fc20 (by rfl))).trans (andR ?_)
    refine (G_aload rfl (mF fc20 (by rfl))).trans ?_
    refine (G_getR (c := 1) (k := 1) rfl rfl rfl (mF fc20 (by rfl))).trans (andR ?_)
    refine (G_getR (c := 8) (k := 0) rfl rfl rfl (mF fc20 (by rfl))).trans (andR ?_)
    refine (G_iload rfl (mF fc20 (by rfl))).trans ?_
    refine (G_aaloadR rfl (mF fc20 (by rfl))).trans (andR ?_)
    refine (G_Vi (q := 25652) (y := 50) (a := a3) (c := 3) rfl rfl rfl rfl (by decide) rfl (as := [.ref a3, .int x7, .int (eI h (fR h a4 5) x7), .ref (eR h (fR h (fR h a0 1) 0) s0)]) (rest := [.int (ii 3)]) rfl rfl (mF fc20 (by rfl))).trans (andR (GoCi_congr fun v1 h1 => ?_))
    refine (G_ine (mF fc20 (by rfl))).trans (gi ?_ ?_)
    ·
      exact Iff.rfl
    ·
      refine (G_iinc (k := 5) (L' := [some (.ref a0), some (.ref a1), some (.int x2), some (.ref a3), some (.ref a4), some (.int (x5 + ii 1)), some (.int x6), some (.int x7), some (.int s0)]) rfl rfl rfl (mF fc20 (by rfl))).trans ?_
      exact Iff.rfl
theorem b20_101 {d : Nat} {h : mHeap} {Q : Option Value → mHeap → Prop} {a0 : Nat} {a1 : Nat} {x2 : Int32} {a3 : Nat} {a4 : Nat} {x5 : Int32} {x6 : Int32} {x7 : Int32} {l8 : Option Value} : Go d 20 101 [some (.ref a0), some (.ref a1), some (.int x2), some (.ref a3), some (.ref a4), some (.int x5), some (.int x6), some (.int x7), l8] [] h Q ↔ Go d 20 32 [some (.ref a0), some (.ref a1), some (.int x2), some (.ref a3), some (.ref a4), some (.int x5), some (.int x6), some (.int (x7 + ii 1)), l8] [] h Q := by
  refine (G_iinc (k := 7) (L' := [some (.ref a0), some (.ref a1), some (.int x2), some (.ref a3), some (.ref a4), some (.int x5), some (.int x6), some (.int (x7 + ii 1)), l8]) rfl rfl rfl (mF fc20 (by rfl))).trans ?_
  refine (G_goto (mF fc20 (by rfl))).trans ?_
  exact Iff.rfl
theorem e20 {d : Nat} {h : mHeap} {K : Int32 → mHeap → Prop} {a0 : Nat} {a1 : Nat} {x2 : Int32} : GoCi (d + 1) 20 [.ref a0, .ref a1, .int x2] h K ↔ Go d 20 0 [some (.ref a0), some (.ref a1), some (.int x2), none, none, none, none, none, none] [] h (rI K) := GoCi_entry rfl rfl
set_option maxRecDepth 20000 in
theorem fc21 : mCodes[21]? = some mc21 := rfl
theorem b21_0 {d : Nat} {h : mHeap} {Q : Option Value → mHeap → Prop} {a0 : Nat} {a1 : Nat} {x2 : Int32} : Go d 21 0 [some (.ref a0), some (.ref a1), some (.int x2), none, none, none, none, none, none] [] h Q ↔ oC h a0 = 1 ∧ GoCv d 22 [.ref a0, .int x2] h (fun h1 => Go d 21 13 [some (.ref a0), some (.ref a1), some (.int x2), some (.int (ii (-1))), some (.long (jj 0)), none, some (.int (ii 0)), none, none] [] h1 Q) := by
  refine (G_iconst (mF fc21 (by rfl))).trans ?_
  refine (G_istore (k := 3) (L' := [some (.ref a0), some (.ref a1), some (.int x2), some (.int (ii (-1))), none, none, none, none, none]) rfl (ltb rfl) rfl (mF fc21 (by rfl))).trans ?_
  refine (G_jsr_w (mF fc21 (by rfl))).trans ?_
  refine (G_lstore (k := 4) (L' := [some (.ref a0), some (.ref a1), some (.int x2), some (.int (ii (-1))), some (.long (jj 0)), none, none, none, none]) rfl (ltb rfl) rfl (mF fc21 (by rfl))).trans ?_
  refine (G_aload rfl (mF fc21 (by rfl))).trans ?_
  refine (G_iload rfl (mF fc21 (by rfl))).trans ?_
  refine (G_Vv (q := 11282) (y := 22) (a := a0) (c := 1) rfl rfl rfl rfl (by decide) rfl (as := [.ref a0, .int x2]) (rest := []) rfl rfl (mF fc21 (by rfl))).trans (andR (GoCv_congr fun h1 => ?_))
  refine (G_iconst (mF fc21 (by rfl))).trans ?_
  refine (G_istore (k := 6) (L' := [some (.ref a0), some (.ref a1), some (.int x2), some (.int (ii (-1))), some (.long (jj 0)), none, some (.int (ii 0)), none, none]) rfl (ltb rfl) rfl (mF fc21 (by rfl))).trans ?_
  exact Iff.rfl
theorem b21_13 {d : Nat} {h : mHeap} {Q : Option Value → mHeap → Prop} {a0 : Nat} {a1 : Nat} {x2 : Int32} {x3 : Int32} {y4 : Int64} {x6 : Int32} {l7 : Option Value} {l8 : Option Value} : Go d 21 13 [some (.ref a0), some (.ref a1), some (.int x2), some (.int x3), some (.long y4), none, some (.int x6), l7, l8] [] h Q ↔ okF h a0 1 1 2 ∧ okF h (fR h a0 1) 8 1 0 ∧ (if (fI h (fR h a0 1) 1) ≤ x6 then (Q (some (.int x3)) h) else (oC h a0 = 1 ∧ GoCv d 23 [.ref a0, .int x2, .int x6] h (fun h1 => okF h1 a0 1 2 2 ∧ oC h1 a1 = 5 ∧ GoCj d 64 [.ref a1, .ref (fR h1 a0 2)] h1 (fun v2 h2 => (if (lg_cmp v2 y4) ≤ ii 0 then (Go d 21 57 [some (.ref a0), some (.ref a1), some (.int x2), some (.int x3), some (.long y4), none, some (.int x6), some (.long v2), none] [] h2 Q) else (Go d 21 57 [some (.ref a0), some (.ref a1), some (.int x2), some (.int x6), some (.long v2), none, some (.int x6), some (.long v2), none] [] h2 Q)))))) := by
  refine (G_iload rfl (mF fc21 (by rfl))).trans ?_
  refine (G_aload rfl (mF fc21 (by rfl))).trans ?_
  refine (G_getR (c := 1) (k := 1) rfl rfl rfl (mF fc21 (by rfl))).trans (andR ?_)
  refine (G_getI (c := 8) (k := 1) rfl rfl rfl (mF fc21 (by rfl))).trans (andR ?_)
  refine (G_ige (mF fc21 (by rfl))).trans (gi ?_ ?_)
  ·
    refine (G_iload rfl (mF fc21 (by rfl))).trans ?_
    exact G_ireturnI rfl (mF fc21 (by rfl))
  ·
    refine (G_aload rfl (mF fc21 (by rfl))).trans ?_
    refine (G_iload rfl (mF fc21 (by rfl))).trans ?_
    refine (G_iload rfl (mF fc21 (by rfl))).trans ?_
    refine (G_Vv (q := 11795) (y := 23) (a := a0) (c := 1) rfl rfl rfl rfl (by decide) rfl (as := [.ref a0, .int x2, .int x6]) (rest := []) rfl rfl (mF fc21 (by rfl))).trans (andR (GoCv_congr fun h1 => ?_))
    refine (G_aload rfl (mF fc21 (by rfl))).trans ?_
    refine (G_aload rfl (mF fc21 (by rfl))).trans ?_
    refine (G_getR (c := 1) (k := 2) rfl rfl rfl (mF fc21 (by rfl))).trans (andR ?_)
    refine (G_Vj (q := 32850) (y := 64) (a := a1) (c := 5) rfl rfl rfl rfl (by decide) rfl (as := [.ref a1, .ref (fR h1 a0 2)]) (rest := []) rfl rfl (mF fc21 (by rfl))).trans (andR (GoCj_congr fun v2 h2 => ?_))
    refine (G_lstore (k := 7) (L' := [some (.ref a0), some (.ref a1), some (.int x2), some (.int x3), some (.long y4), none, some (.int x6), some (.long v2), none]) rfl (ltb rfl) rfl (mF fc21 (by rfl))).trans ?_
    refine (G_lload rfl (mF fc21 (by rfl))).trans ?_
    refine (G_lload rfl (mF fc21 (by rfl))).trans ?_
    refine (G_lcmp (mF fc21 (by rfl))).trans ?_
    refine (G_le (mF fc21 (by rfl))).trans (gi ?_ ?_)
    ·
      exact Iff.rfl
    ·
      refine (G_iload rfl (mF fc21 (by rfl))).trans ?_
      refine (G_istore (k := 3) (L' := [some (.ref a0), some (.ref a1), some (.int x2), some (.int x6), some (.long y4), none, some (.int x6), some (.long v2), none]) rfl (ltb rfl) rfl (mF fc21 (by rfl))).trans ?_
      refine (G_lload rfl (mF fc21 (by rfl))).trans ?_
      refine (G_lstore (k := 4) (L' := [some (.ref a0), some (.ref a1), some (.int x2), some (.int x6), some (.long v2), none, some (.int x6), some (.long v2), none]) rfl (ltb rfl) rfl (mF fc21 (by rfl))).trans ?_
      exact Iff.rfl
theorem b21_57 {d : Nat} {h : mHeap} {Q : Option Value → mHeap → Prop} {a0 : Nat} {a1 : Nat} {x2 : Int32} {x3 : Int32} {y4 : Int64} {x6 : Int32} {l7 : Option Value} {l8 : Option Value} : Go d 21 57 [some (.ref a0), some (.ref a1), some (.int x2), some (.int x3), some (.long y4), none, some (.int x6), l7, l8] [] h Q ↔ Go d 21 13 [some (.ref a0), some (.ref a1), some (.int x2), some (.int x3), some (.long y4), none, some (.int (x6 + ii 1)), l7, l8] [] h Q := by
  refine (G_iinc (k := 6) (L' := [some (.ref a0), some (.ref a1), some (.int x2), some (.int x3), some (.long y4), none, some (.int (x6 + ii 1)), l7, l8]) rfl rfl rfl (mF fc21 (by rfl))).trans ?_
  refine (G_goto (mF fc21 (by rfl))).trans ?_
  exact Iff.rfl
theorem e21 {d : Nat} {h : mHeap} {K : Int32 → mHeap → Prop} {a0 : Nat} {a1 : Nat} {x2 : Int32} : GoCi (d + 1) 21 [.ref a0, .ref a1, .int x2] h K ↔ Go d 21 0 [some (.ref a0), some (.ref a1), some (.int x2), none, none, none, none, none, none] [] h (rI K) := GoCi_entry rfl rfl
set_option maxRecDepth 20000 in
theorem fc22 : mCodes[22]? = some mc22 := rfl
theorem b22_0 {d : Nat} {h : mHeap} {Q : Option Value → mHeap → Prop} {a0 : Nat} {x1 : Int32} : Go d 22 0 [some (.ref a0), some (.int x1), none] [] h Q ↔ okF h a0 1 0 2 ∧ okF h (fR h a0 0) 4 1 2 ∧ okF h a0 1 2 2 ∧ (64 ≤ (fR h a0 2) ∧ okJ h (fR h a0 2) (ii 0)) ∧ okF (sJ h (fR h a0 2) (ii 0) x1.toInt64) a0 1 2 2 ∧ oC (sJ h (fR h a0 2) (ii 0) x1.toInt64) (fR h (fR h a0 0) 1) = 3 ∧ GoCi d 48 [.ref (fR h (fR h a0 0) 1), .int x1] (sJ h (fR h a0 2) (ii 0) x1.toInt64) (fun v1 h1 => (64 ≤ (fR (sJ h (fR h a0 2) (ii 0) x1.toInt64) a0 2) ∧ okJ h1 (fR (sJ h (fR h a0 2) (ii 0) x1.toInt64) a0 2) (ii 1)) ∧ okF (sJ h1 (fR (sJ h (fR h a0 2) (ii 0) x1.toInt64) a0 2) (ii 1) v1.toInt64) a0 1 2 2 ∧ okF (sJ h1 (fR (sJ h (fR h a0 2) (ii 0) x1.toInt64) a0 2) (ii 1) v1.toInt64) a0 1 0 2 ∧ okF (sJ h1 (fR (sJ h (fR h a0 2) (ii 0) x1.toInt64) a0 2) (ii 1) v1.toInt64) (fR (sJ h1 (fR (sJ h (fR h a0 2) (ii 0) x1.toInt64) a0 2) (ii 1) v1.toInt64) a0 0) 4 0 2 ∧ okF (sJ h1 (fR (sJ h (fR h a0 2) (ii 0) x1.toInt64) a0 2) (ii 1) v1.toInt64) (fR (sJ h1 (fR (sJ h (fR h a0 2) (ii 0) x1.toInt64) a0 2) (ii 1) v1.toInt64) (fR (sJ h1 (fR (sJ h (fR h a0 2) (ii 0) x1.toInt64) a0 2) (ii 1) v1.toInt64) a0 0) 0) 2 5 2 ∧ okA (sJ h1 (fR (sJ h (fR h a0 2) (ii 0) x1.toInt64) a0 2) (ii 1) v1.toInt64) (fR (sJ h1 (fR (sJ h (fR h a0 2) (ii 0) x1.toInt64) a0 2) (ii 1) v1.toInt64) (fR (sJ h1 (fR (sJ h (fR h a0 2) (ii 0) x1.toInt64) a0 2) (ii 1) v1.toInt64) (fR (sJ h1 (fR (sJ h (fR h a0 2) (ii 0) x1.toInt64) a0 2) (ii 1) v1.toInt64) a0 0) 0) 5) .int x1 ∧ (64 ≤ (fR (sJ h1 (fR (sJ h (fR h a0 2) (ii 0) x1.toInt64) a0 2) (ii 1) v1.toInt64) a0 2) ∧ okJ (sJ h1 (fR (sJ h (fR h a0 2) (ii 0) x1.toInt64) a0 2) (ii 1) v1.toInt64) (fR (sJ h1 (fR (sJ h (fR h a0 2) (ii 0) x1.toInt64) a0 2) (ii 1) v1.toInt64) a0 2) (ii 2)) ∧ okF (sJ (sJ h1 (fR (sJ h (fR h a0 2) (ii 0) x1.toInt64) a0 2) (ii 1) v1.toInt64) (fR (sJ h1 (fR (sJ h (fR h a0 2) (ii 0) x1.toInt64) a0 2) (ii 1) v1.toInt64) a0 2) (ii 2) ((eI (sJ h1 (fR (sJ h (fR h a0 2) (ii 0) x1.toInt64) a0 2) (ii 1) v1.toInt64) (fR (sJ h1 (fR (sJ h (fR h a0 2) (ii 0) x1.toInt64) a0 2) (ii 1) v1.toInt64) (fR (sJ h1 (fR (sJ h (fR h a0 2) (ii 0) x1.toInt64) a0 2) (ii 1) v1.toInt64) (fR (sJ h1 (fR (sJ h (fR h a0 2) (ii 0) x1.toInt64) a0 2) (ii 1) v1.toInt64) a0 0) 0) 5) x1).toInt64)) a0 1 2 2 ∧ oC (sJ (sJ h1 (fR (sJ h (fR h a0 2) (ii 0) x1.toInt64) a0 2) (ii 1) v1.toInt64) (fR (sJ h1 (fR (sJ h (fR h a0 2) (ii 0) x1.toInt64) a0 2) (ii 1) v1.toInt64) a0 2) (ii 2) ((eI (sJ h1 (fR (sJ h (fR h a0 2) (ii 0) x1.toInt64) a0 2) (ii 1) v1.toInt64) (fR (sJ h1 (fR (sJ h (fR h a0 2) (ii 0) x1.toInt64) a0 2) (ii 1) v1.toInt64) (fR (sJ h1 (fR (sJ h (fR h a0 2) (ii 0) x1.toInt64) a0 2) (ii 1) v1.toInt64) (fR (sJ h1 (fR (sJ h (fR h a0 2) (ii 0) x1.toInt64) a0 2) (ii 1) v1.toInt64) a0 0) 0) 5) x1).toInt64)) (fR h (fR h a0 0) 1) = 3 ∧ GoCr d 46 [.ref (fR h (fR h a0 0) 1), .int (ii (-1))] (sJ (sJ h1 (fR (sJ h (fR h a0 2) (ii 0) x1.toInt64) a0 2) (ii 1) v1.toInt64) (fR (sJ h1 (fR (sJ h (fR h a0 2) (ii 0) x1.toInt64) a0 2) (ii 1) v1.toInt64) a0 2) (ii 2) ((eI (sJ h1 (fR (sJ h (fR h a0 2) (ii 0) x1.toInt64) a0 2) (ii 1) v1.toInt64) (fR (sJ h1 (fR (sJ h (fR h a0 2) (ii 0) x1.toInt64) a0 2) (ii 1) v1.toInt64) (fR (sJ h1 (fR (sJ h (fR h a0 2) (ii 0) x1.toInt64) a0 2) (ii 1) v1.toInt64) (fR (sJ h1 (fR (sJ h (fR h a0 2) (ii 0) x1.toInt64) a0 2) (ii 1) v1.toInt64) a0 0) 0) 5) x1).toInt64)) (fun v2 h2 => oC h2 v2 = 10 ∧ GoCi d 126 [.ref v2] h2 (fun v3 h3 => (64 ≤ (fR (sJ (sJ h1 (fR (sJ h (fR h a0 2) (ii 0) x1.toInt64) a0 2) (ii 1) v1.toInt64) (fR (sJ h1 (fR (sJ h (fR h a0 2) (ii 0) x1.toInt64) a0 2) (ii 1) v1.toInt64) a0 2) (ii 2) ((eI (sJ h1 (fR (sJ h (fR h a0 2) (ii 0) x1.toInt64) a0 2) (ii 1) v1.toInt64) (fR (sJ h1 (fR (sJ h (fR h a0 2) (ii 0) x1.toInt64) a0 2) (ii 1) v1.toInt64) (fR (sJ h1 (fR (sJ h (fR h a0 2) (ii 0) x1.toInt64) a0 2) (ii 1) v1.toInt64) (fR (sJ h1 (fR (sJ h (fR h a0 2) (ii 0) x1.toInt64) a0 2) (ii 1) v1.toInt64) a0 0) 0) 5) x1).toInt64)) a0 2) ∧ okJ h3 (fR (sJ (sJ h1 (fR (sJ h (fR h a0 2) (ii 0) x1.toInt64) a0 2) (ii 1) v1.toInt64) (fR (sJ h1 (fR (sJ h (fR h a0 2) (ii 0) x1.toInt64) a0 2) (ii 1) v1.toInt64) a0 2) (ii 2) ((eI (sJ h1 (fR (sJ h (fR h a0 2) (ii 0) x1.toInt64) a0 2) (ii 1) v1.toInt64) (fR (sJ h1 (fR (sJ h (fR h a0 2) (ii 0) x1.toInt64) a0 2) (ii 1) v1.toInt64) (fR (sJ h1 (fR (sJ h (fR h a0 2) (ii 0) x1.toInt64) a0 2) (ii 1) v1.toInt64) (fR (sJ h1 (fR (sJ h (fR h a0 2) (ii 0) x1.toInt64) a0 2) (ii 1) v1.toInt64) a0 0) 0) 5) x1).toInt64)) a0 2) (ii 6)) ∧ okF (sJ h3 (fR (sJ (sJ h1 (fR (sJ h (fR h a0 2) (ii 0) x1.toInt64) a0 2) (ii 1) v1.toInt64) (fR (sJ h1 (fR (sJ h (fR h a0 2) (ii 0) x1.toInt64) a0 2) (ii 1) v1.toInt64) a0 2) (ii 2) ((eI (sJ h1 (fR (sJ h (fR h a0 2) (ii 0) x1.toInt64) a0 2) (ii 1) v1.toInt64) (fR (sJ h1 (fR (sJ h (fR h a0 2) (ii 0) x1.toInt64) a0 2) (ii 1) v1.toInt64) (fR (sJ h1 (fR (sJ h (fR h a0 2) (ii 0) x1.toInt64) a0 2) (ii 1) v1.toInt64) (fR (sJ h1 (fR (sJ h (fR h a0 2) (ii 0) x1.toInt64) a0 2) (ii 1) v1.toInt64) a0 0) 0) 5) x1).toInt64)) a0 2) (ii 6) v3.toInt64) a0 1 2 2 ∧ oC (sJ h3 (fR (sJ (sJ h1 (fR (sJ h (fR h a0 2) (ii 0) x1.toInt64) a0 2) (ii 1) v1.toInt64) (fR (sJ h1 (fR (sJ h (fR h a0 2) (ii 0) x1.toInt64) a0 2) (ii 1) v1.toInt64) a0 2) (ii 2) ((eI (sJ h1 (fR (sJ h (fR h a0 2) (ii 0) x1.toInt64) a0 2) (ii 1) v1.toInt64) (fR (sJ h1 (fR (sJ h (fR h a0 2) (ii 0) x1.toInt64) a0 2) (ii 1) v1.toInt64) (fR (sJ h1 (fR (sJ h (fR h a0 2) (ii 0) x1.toInt64) a0 2) (ii 1) v1.toInt64) (fR (sJ h1 (fR (sJ h (fR h a0 2) (ii 0) x1.toInt64) a0 2) (ii 1) v1.toInt64) a0 0) 0) 5) x1).toInt64)) a0 2) (ii 6) v3.toInt64) a0 = 1 ∧ GoCi d 24 [.ref a0, .int x1] (sJ h3 (fR (sJ (sJ h1 (fR (sJ h (fR h a0 2) (ii 0) x1.toInt64) a0 2) (ii 1) v1.toInt64) (fR (sJ h1 (fR (sJ h (fR h a0 2) (ii 0) x1.toInt64) a0 2) (ii 1) v1.toInt64) a0 2) (ii 2) ((eI (sJ h1 (fR (sJ h (fR h a0 2) (ii 0) x1.toInt64) a0 2) (ii 1) v1.toInt64) (fR (sJ h1 (fR (sJ h (fR h a0 2) (ii 0) x1.toInt64) a0 2) (ii 1) v1.toInt64) (fR (sJ h1 (fR (sJ h (fR h a0 2) (ii 0) x1.toInt64) a0 2) (ii 1) v1.toInt64) (fR (sJ h1 (fR (sJ h (fR h a0 2) (ii 0) x1.toInt64) a0 2) (ii 1) v1.toInt64) a0 0) 0) 5) x1).toInt64)) a0 2) (ii 6) v3.toInt64) (fun v4 h4 => (64 ≤ (fR (sJ h3 (fR (sJ (sJ h1 (fR (sJ h (fR h a0 2) (ii 0) x1.toInt64) a0 2) (ii 1) v1.toInt64) (fR (sJ h1 (fR (sJ h (fR h a0 2) (ii 0) x1.toInt64) a0 2) (ii 1) v1.toInt64) a0 2) (ii 2) ((eI (sJ h1 (fR (sJ h (fR h a0 2) (ii 0) x1.toInt64) a0 2) (ii 1) v1.toInt64) (fR (sJ h1 (fR (sJ h (fR h a0 2) (ii 0) x1.toInt64) a0 2) (ii 1) v1.toInt64) (fR (sJ h1 (fR (sJ h (fR h a0 2) (ii 0) x1.toInt64) a0 2) (ii 1) v1.toInt64) (fR (sJ h1 (fR (sJ h (fR h a0 2) (ii 0) x1.toInt64) a0 2) (ii 1) v1.toInt64) a0 0) 0) 5) x1).toInt64)) a0 2) (ii 6) v3.toInt64) a0 2) ∧ okJ h4 (fR (sJ h3 (fR (sJ (sJ h1 (fR (sJ h (fR h a0 2) (ii 0) x1.toInt64) a0 2) (ii 1) v1.toInt64) (fR (sJ h1 (fR (sJ h (fR h a0 2) (ii 0) x1.toInt64) a0 2) (ii 1) v1.toInt64) a0 2) (ii 2) ((eI (sJ h1 (fR (sJ h (fR h a0 2) (ii 0) x1.toInt64) a0 2) (ii 1) v1.toInt64) (fR (sJ h1 (fR (sJ h (fR h a0 2) (ii 0) x1.toInt64) a0 2) (ii 1) v1.toInt64) (fR (sJ h1 (fR (sJ h (fR h a0 2) (ii 0) x1.toInt64) a0 2) (ii 1) v1.toInt64) (fR (sJ h1 (fR (sJ h (fR h a0 2) (ii 0) x1.toInt64) a0 2) (ii 1) v1.toInt64) a0 0) 0) 5) x1).toInt64)) a0 2) (ii 6) v3.toInt64) a0 2) (ii 7)) ∧ okF (sJ h4 (fR (sJ h3 (fR (sJ (sJ h1 (fR (sJ h (fR h a0 2) (ii 0) x1.toInt64) a0 2) (ii 1) v1.toInt64) (fR (sJ h1 (fR (sJ h (fR h a0 2) (ii 0) x1.toInt64) a0 2) (ii 1) v1.toInt64) a0 2) (ii 2) ((eI (sJ h1 (fR (sJ h (fR h a0 2) (ii 0) x1.toInt64) a0 2) (ii 1) v1.toInt64) (fR (sJ h1 (fR (sJ h (fR h a0 2) (ii 0) x1.toInt64) a0 2) (ii 1) v1.toInt64) (fR (sJ h1 (fR (sJ h (fR h a0 2) (ii 0) x1.toInt64) a0 2) (ii 1) v1.toInt64) (fR (sJ h1 (fR (sJ h (fR h a0 2) (ii 0) x1.toInt64) a0 2) (ii 1) v1.toInt64) a0 0) 0) 5) x1).toInt64)) a0 2) (ii 6) v3.toInt64) a0 2) (ii 7) v4.toInt64) a0 1 2 2 ∧ okF (sJ h4 (fR (sJ h3 (fR (sJ (sJ h1 (fR (sJ h (fR h a0 2) (ii 0) x1.toInt64) a0 2) (ii 1) v1.toInt64) (fR (sJ h1 (fR (sJ h (fR h a0 2) (ii 0) x1.toInt64) a0 2) (ii 1) v1.toInt64) a0 2) (ii 2) ((eI (sJ h1 (fR (sJ h (fR h a0 2) (ii 0) x1.toInt64) a0 2) (ii 1) v1.toInt64) (fR (sJ h1 (fR (sJ h (fR h a0 2) (ii 0) x1.toInt64) a0 2) (ii 1) v1.toInt64) (fR (sJ h1 (fR (sJ h (fR h a0 2) (ii 0) x1.toInt64) a0 2) (ii 1) v1.toInt64) (fR (sJ h1 (fR (sJ h (fR h a0 2) (ii 0) x1.toInt64) a0 2) (ii 1) v1.toInt64) a0 0) 0) 5) x1).toInt64)) a0 2) (ii 6) v3.toInt64) a0 2) (ii 7) v4.toInt64) (fR h (fR h a0 0) 1) 3 0 0 ∧ (64 ≤ (fR (sJ h4 (fR (sJ h3 (fR (sJ (sJ h1 (fR (sJ h (fR h a0 2) (ii 0) x1.toInt64) a0 2) (ii 1) v1.toInt64) (fR (sJ h1 (fR (sJ h (fR h a0 2) (ii 0) x1.toInt64) a0 2) (ii 1) v1.toInt64) a0 2) (ii 2) ((eI (sJ h1 (fR (sJ h (fR h a0 2) (ii 0) x1.toInt64) a0 2) (ii 1) v1.toInt64) (fR (sJ h1 (fR (sJ h (fR h a0 2) (ii 0) x1.toInt64) a0 2) (ii 1) v1.toInt64) (fR (sJ h1 (fR (sJ h (fR h a0 2) (ii 0) x1.toInt64) a0 2) (ii 1) v1.toInt64) (fR (sJ h1 (fR (sJ h (fR h a0 2) (ii 0) x1.toInt64) a0 2) (ii 1) v1.toInt64) a0 0) 0) 5) x1).toInt64)) a0 2) (ii 6) v3.toInt64) a0 2) (ii 7) v4.toInt64) a0 2) ∧ okJ (sJ h4 (fR (sJ h3 (fR (sJ (sJ h1 (fR (sJ h (fR h a0 2) (ii 0) x1.toInt64) a0 2) (ii 1) v1.toInt64) (fR (sJ h1 (fR (sJ h (fR h a0 2) (ii 0) x1.toInt64) a0 2) (ii 1) v1.toInt64) a0 2) (ii 2) ((eI (sJ h1 (fR (sJ h (fR h a0 2) (ii 0) x1.toInt64) a0 2) (ii 1) v1.toInt64) (fR (sJ h1 (fR (sJ h (fR h a0 2) (ii 0) x1.toInt64) a0 2) (ii 1) v1.toInt64) (fR (sJ h1 (fR (sJ h (fR h a0 2) (ii 0) x1.toInt64) a0 2) (ii 1) v1.toInt64) (fR (sJ h1 (fR (sJ h (fR h a0 2) (ii 0) x1.toInt64) a0 2) (ii 1) v1.toInt64) a0 0) 0) 5) x1).toInt64)) a0 2) (ii 6) v3.toInt64) a0 2) (ii 7) v4.toInt64) (fR (sJ h4 (fR (sJ h3 (fR (sJ (sJ h1 (fR (sJ h (fR h a0 2) (ii 0) x1.toInt64) a0 2) (ii 1) v1.toInt64) (fR (sJ h1 (fR (sJ h (fR h a0 2) (ii 0) x1.toInt64) a0 2) (ii 1) v1.toInt64) a0 2) (ii 2) ((eI (sJ h1 (fR (sJ h (fR h a0 2) (ii 0) x1.toInt64) a0 2) (ii 1) v1.toInt64) (fR (sJ h1 (fR (sJ h (fR h a0 2) (ii 0) x1.toInt64) a0 2) (ii 1) v1.toInt64) (fR (sJ h1 (fR (sJ h (fR h a0 2) (ii 0) x1.toInt64) a0 2) (ii 1) v1.toInt64) (fR (sJ h1 (fR (sJ h (fR h a0 2) (ii 0) x1.toInt64) a0 2) (ii 1) v1.toInt64) a0 0) 0) 5) x1).toInt64)) a0 2) (ii 6) v3.toInt64) a0 2) (ii 7) v4.toInt64) a0 2) (ii 8)) ∧ okF (sJ (sJ h4 (fR (sJ h3 (fR (sJ (sJ h1 (fR (sJ h (fR h a0 2) (ii 0) x1.toInt64) a0 2) (ii 1) v1.toInt64) (fR (sJ h1 (fR (sJ h (fR h a0 2) (ii 0) x1.toInt64) a0 2) (ii 1) v1.toInt64) a0 2) (ii 2) ((eI (sJ h1 (fR (sJ h (fR h a0 2) (ii 0) x1.toInt64) a0 2) (ii 1) v1.toInt64) (fR (sJ h1 (fR (sJ h (fR h a0 2) (ii 0) x1.toInt64) a0 2) (ii 1) v1.toInt64) (fR (sJ h1 (fR (sJ h (fR h a0 2) (ii 0) x1.toInt64) a0 2) (ii 1) v1.toInt64) (fR (sJ h1 (fR (sJ h (fR h a0 2) (ii 0) x1.toInt64) a0 2) (ii 1) v1.toInt64) a0 0) 0) 5) x1).toInt64)) a0 2) (ii 6) v3.toInt64) a0 2) (ii 7) v4.toInt64) (fR (sJ h4 (fR (sJ h3 (fR (sJ (sJ h1 (fR (sJ h (fR h a0 2) (ii 0) x1.toInt64) a0 2) (ii 1) v1.toInt64) (fR (sJ h1 (fR (sJ h (fR h a0 2) (ii 0) x1.toInt64) a0 2) (ii 1) v1.toInt64) a0 2) (ii 2) ((eI (sJ h1 (fR (sJ h (fR h a0 2) (ii 0) x1.toInt64) a0 2) (ii 1) v1.toInt64) (fR (sJ h1 (fR (sJ h (fR h a0 2) (ii 0) x1.toInt64) a0 2) (ii 1) v1.toInt64) (fR (sJ h1 (fR (sJ h (fR h a0 2) (ii 0) x1.toInt64) a0 2) (ii 1) v1.toInt64) (fR (sJ h1 (fR (sJ h (fR h a0 2) (ii 0) x1.toInt64) a0 2) (ii 1) v1.toInt64) a0 0) 0) 5) x1).toInt64)) a0 2) (ii 6) v3.toInt64) a0 2) (ii 7) v4.toInt64) a0 2) (ii 8) ((fI (sJ h4 (fR (sJ h3 (fR (sJ (sJ h1 (fR (sJ h (fR h a0 2) (ii 0) x1.toInt64) a0 2) (ii 1) v1.toInt64) (fR (sJ h1 (fR (sJ h (fR h a0 2) (ii 0) x1.toInt64) a0 2) (ii 1) v1.toInt64) a0 2) (ii 2) ((eI (sJ h1 (fR (sJ h (fR h a0 2) (ii 0) x1.toInt64) a0 2) (ii 1) v1.toInt64) (fR (sJ h1 (fR (sJ h (fR h a0 2) (ii 0) x1.toInt64) a0 2) (ii 1) v1.toInt64) (fR (sJ h1 (fR (sJ h (fR h a0 2) (ii 0) x1.toInt64) a0 2) (ii 1) v1.toInt64) (fR (sJ h1 (fR (sJ h (fR h a0 2) (ii 0) x1.toInt64) a0 2) (ii 1) v1.toInt64) a0 0) 0) 5) x1).toInt64)) a0 2) (ii 6) v3.toInt64) a0 2) (ii 7) v4.toInt64) (fR h (fR h a0 0) 1) 0).toInt64)) a0 1 2 2 ∧ okF (sJ (sJ h4 (fR (sJ h3 (fR (sJ (sJ h1 (fR (sJ h (fR h a0 2) (ii 0) x1.toInt64) a0 2) (ii 1) v1.toInt64) (fR (sJ h1 (fR (sJ h (fR h a0 2) (ii 0) x1.toInt64) a0 2) (ii 1) v1.toInt64) a0 2) (ii 2) ((eI (sJ h1 (fR (sJ h (fR h a0 2) (ii 0) x1.toInt64) a0 2) (ii 1) v1.toInt64) (fR (sJ h1 (fR (sJ h (fR h a0 2) (ii 0) x1.toInt64) a0 2) (ii 1) v1.toInt64) (fR (sJ h1 (fR (sJ h (fR h a0 2) (ii 0) x1.toInt64) a0 2) (ii 1) v1.toInt64) (fR (sJ h1 (fR (sJ h (fR h a0 2) (ii 0) x1.toInt64) a0 2) (ii 1) v1.toInt64) a0 0) 0) 5) x1).toInt64)) a0 2) (ii 6) v3.toInt64) a0 2) (ii 7) v4.toInt64) (fR (sJ h4 (fR (sJ h3 (fR (sJ (sJ h1 (fR (sJ h (fR h a0 2) (ii 0) x1.toInt64) a0 2) (ii 1) v1.toInt64) (fR (sJ h1 (fR (sJ h (fR h a0 2) (ii 0) x1.toInt64) a0 2) (ii 1) v1.toInt64) a0 2) (ii 2) ((eI (sJ h1 (fR (sJ h (fR h a0 2) (ii 0) x1.toInt64) a0 2) (ii 1) v1.toInt64) (fR (sJ h1 (fR (sJ h (fR h a0 2) (ii 0) x1.toInt64) a0 2) (ii 1) v1.toInt64) (fR (sJ h1 (fR (sJ h (fR h a0 2) (ii 0) x1.toInt64) a0 2) (ii 1) v1.toInt64) (fR (sJ h1 (fR (sJ h (fR h a0 2) (ii 0) x1.toInt64) a0 2) (ii 1) v1.toInt64) a0 0) 0) 5) x1).toInt64)) a0 2) (ii 6) v3.toInt64) a0 2) (ii 7) v4.toInt64) a0 2) (ii 8) ((fI (sJ h4 (fR (sJ h3 (fR (sJ (sJ h1 (fR (sJ h (fR h a0 2) (ii 0) x1.toInt64) a0 2) (ii 1) v1.toInt64) (fR (sJ h1 (fR (sJ h (fR h a0 2) (ii 0) x1.toInt64) a0 2) (ii 1) v1.toInt64) a0 2) (ii 2) ((eI (sJ h1 (fR (sJ h (fR h a0 2) (ii 0) x1.toInt64) a0 2) (ii 1) v1.toInt64) (fR (sJ h1 (fR (sJ h (fR h a0 2) (ii 0) x1.toInt64) a0 2) (ii 1) v1.toInt64) (fR (sJ h1 (fR (sJ h (fR h a0 2) (ii 0) x1.toInt64) a0 2) (ii 1) v1.toInt64) (fR (sJ h1 (fR (sJ h (fR h a0 2) (ii 0) x1.toInt64) a0 2) (ii 1) v1.toInt64) a0 0) 0) 5) x1).toInt64)) a0 2) (ii 6) v3.toInt64) a0 2) (ii 7) v4.toInt64) (fR h (fR h a0 0) 1) 0).toInt64)) a0 1 0 2 ∧ okF (sJ (sJ h4 (fR (sJ h3 (fR (sJ (sJ h1 (fR (sJ h (fR h a0 2) (ii 0) x1.toInt64) a0 2) (ii 1) v1.toInt64) (fR (sJ h1 (fR (sJ h (fR h a0 2) (ii 0) x1.toInt64) a0 2) (ii 1) v1.toInt64) a0 2) (ii 2) ((eI (sJ h1 (fR (sJ h (fR h a0 2) (ii 0) x1.toInt64) a0 2) (ii 1) v1.toInt64) (fR (sJ h1 (fR (sJ h (fR h a0 2) (ii 0) x1.toInt64) a0 2) (ii 1) v1.toInt64) (fR (sJ h1 (fR (sJ h (fR h a0 2) (ii 0) x1.toInt64) a0 2) (ii 1) v1.toInt64) (fR (sJ h1 (fR (sJ h (fR h a0 2) (ii 0) x1.toInt64) a0 2) (ii 1) v1.toInt64) a0 0) 0) 5) x1).toInt64)) a0 2) (ii 6) v3.toInt64) a0 2) (ii 7) v4.toInt64) (fR (sJ h4 (fR (sJ h3 (fR (sJ (sJ h1 (fR (sJ h (fR h a0 2) (ii 0) x1.toInt64) a0 2) (ii 1) v1.toInt64) (fR (sJ h1 (fR (sJ h (fR h a0 2) (ii 0) x1.toInt64) a0 2) (ii 1) v1.toInt64) a0 2) (ii 2) ((eI (sJ h1 (fR (sJ h (fR h a0 2) (ii 0) x1.toInt64) a0 2) (ii 1) v1.toInt64) (fR (sJ h1 (fR (sJ h (fR h a0 2) (ii 0) x1.toInt64) a0 2) (ii 1) v1.toInt64) (fR (sJ h1 (fR (sJ h (fR h a0 2) (ii 0) x1.toInt64) a0 2) (ii 1) v1.toInt64) (fR (sJ h1 (fR (sJ h (fR h a0 2) (ii 0) x1.toInt64) a0 2) (ii 1) v1.toInt64) a0 0) 0) 5) x1).toInt64)) a0 2) (ii 6) v3.toInt64) a0 2) (ii 7) v4.toInt64) a0 2) (ii 8) ((fI (sJ h4 (fR (sJ h3 (fR (sJ (sJ h1 (fR (sJ h (fR h a0 2) (ii 0) x1.toInt64) a0 2) (ii 1) v1.toInt64) (fR (sJ h1 (fR (sJ h (fR h a0 2) (ii 0) x1.toInt64) a0 2) (ii 1) v1.toInt64) a0 2) (ii 2) ((eI (sJ h1 (fR (sJ h (fR h a0 2) (ii 0) x1.toInt64) a0 2) (ii 1) v1.toInt64) (fR (sJ h1 (fR (sJ h (fR h a0 2) (ii 0) x1.toInt64) a0 2) (ii 1) v1.toInt64) (fR (sJ h1 (fR (sJ h (fR h a0 2) (ii 0) x1.toInt64) a0 2) (ii 1) v1.toInt64) (fR (sJ h1 (fR (sJ h (fR h a0 2) (ii 0) x1.toInt64) a0 2) (ii 1) v1.toInt64) a0 0) 0) 5) x1).toInt64)) a0 2) (ii 6) v3.toInt64) a0 2) (ii 7) v4.toInt64) (fR h (fR h a0 0) 1) 0).toInt64)) (fR (sJ (sJ h4 (fR (sJ h3 (fR (sJ (sJ h1 (fR (sJ h (fR h a0 2) (ii 0) x1.toInt64) a0 2) (ii 1) v1.toInt64) (fR (sJ h1 (fR (sJ h (fR h a0 2) (ii 0) x1.toInt64) a0 2) (ii 1) v1.toInt64) a0 2) (ii 2) ((eI (sJ h1 (fR (sJ h (fR h a0 2) (ii 0) x1.toInt64) a0 2) (ii 1) v1.toInt64) (fR (sJ h1 (fR (sJ h (fR h a0 2) (ii 0) x1.toInt64) a0 2) (ii 1) v1.toInt64) (fR (sJ h1 (fR (sJ h (fR h a0 2) (ii 0) x1.toInt64) a0 2) (ii 1) v1.toInt64) (fR (sJ h1 (fR (sJ h (fR h a0 2) (ii 0) x1.toInt64) a0 2) (ii 1) v1.toInt64) a0 0) 0) 5) x1).toInt64)) a0 2) (ii 6) v3.toInt64) a0 2) (ii 7) v4.toInt64) (fR (sJ h4 (fR (sJ h3 (fR (sJ (sJ h1 (fR (sJ h (fR h a0 2) (ii 0) x1.toInt64) a0 2) (ii 1) v1.toInt64) (fR (sJ h1 (fR (sJ h (fR h a0 2) (ii 0) x1.toInt64) a0 2) (ii 1) v1.toInt64) a0 2) (ii 2) ((eI (sJ h1 (fR (sJ h (fR h a0 2) (ii 0) x1.toInt64) a0 2) (ii 1) v1.toInt64) (fR (sJ h1 (fR (sJ h (fR h a0 2) (ii 0) x1.toInt64) a0 2) (ii 1) v1.toInt64) (fR (sJ h1 (fR (sJ h (fR h a0 2) (ii 0) x1.toInt64) a0 2) (ii 1) v1.toInt64) (fR (sJ h1 (fR (sJ h (fR h a0 2) (ii 0) x1.toInt64) a0 2) (ii 1) v1.toInt64) a0 0) 0) 5) x1).toInt64)) a0 2) (ii 6) v3.toInt64) a0 2) (ii 7) v4.toInt64) a0 2) (ii 8) ((fI (sJ h4 (fR (sJ h3 (fR (sJ (sJ h1 (fR (sJ h (fR h a0 2) (ii 0) x1.toInt64) a0 2) (ii 1) v1.toInt64) (fR (sJ h1 (fR (sJ h (fR h a0 2) (ii 0) x1.toInt64) a0 2) (ii 1) v1.toInt64) a0 2) (ii 2) ((eI (sJ h1 (fR (sJ h (fR h a0 2) (ii 0) x1.toInt64) a0 2) (ii 1) v1.toInt64) (fR (sJ h1 (fR (sJ h (fR h a0 2) (ii 0) x1.toInt64) a0 2) (ii 1) v1.toInt64) (fR (sJ h1 (fR (sJ h (fR h a0 2) (ii 0) x1.toInt64) a0 2) (ii 1) v1.toInt64) (fR (sJ h1 (fR (sJ h (fR h a0 2) (ii 0) x1.toInt64) a0 2) (ii 1) v1.toInt64) a0 0) 0) 5) x1).toInt64)) a0 2) (ii 6) v3.toInt64) a0 2) (ii 7) v4.toInt64) (fR h (fR h a0 0) 1) 0).toInt64)) a0 0) 4 0 2 ∧ okF (sJ (sJ h4 (fR (sJ h3 (fR (sJ (sJ h1 (fR (sJ h (fR h a0 2) (ii 0) x1.toInt64) a0 2) (ii 1) v1.toInt64) (fR (sJ h1 (fR (sJ h (fR h a0 2) (ii 0) x1.toInt64) a0 2) (ii 1) v1.toInt64) a0 2) (ii 2) ((eI (sJ h1 (fR (sJ h (fR h a0 2) (ii 0) x1.toInt64) a0 2) (ii 1) v1.toInt64) (fR (sJ h1 (fR (sJ h (fR h a0 2) (ii 0) x1.toInt64) a0 2) (ii 1) v1.toInt64) (fR (sJ h1 (fR (sJ h (fR h a0 2) (ii 0) x1.toInt64) a0 2) (ii 1) v1.toInt64) (fR (sJ h1 (fR (sJ h (fR h a0 2) (ii 0) x1.toInt64) a0 2) (ii 1) v1.toInt64) a0 0) 0) 5) x1).toInt64)) a0 2) (ii 6) v3.toInt64) a0 2) (ii 7) v4.toInt64) (fR (sJ h4 (fR (sJ h3 (fR (sJ (sJ h1 (fR (sJ h (fR h a0 2) (ii 0) x1.toInt64) a0 2) (ii 1) v1.toInt64) (fR (sJ h1 (fR (sJ h (fR h a0 2) (ii 0) x1.toInt64) a0 2) (ii 1) v1.toInt64) a0 2) (ii 2) ((eI (sJ h1 (fR (sJ h (fR h a0 2) (ii 0) x1.toInt64) a0 2) (ii 1) v1.toInt64) (fR (sJ h1 (fR (sJ h (fR h a0 2) (ii 0) x1.toInt64) a0 2) (ii 1) v1.toInt64) (fR (sJ h1 (fR (sJ h (fR h a0 2) (ii 0) x1.toInt64) a0 2) (ii 1) v1.toInt64) (fR (sJ h1 (fR (sJ h (fR h a0 2) (ii 0) x1.toInt64) a0 2) (ii 1) v1.toInt64) a0 0) 0) 5) x1).toInt64)) a0 2) (ii 6) v3.toInt64) a0 2) (ii 7) v4.toInt64) a0 2) (ii 8) ((fI (sJ h4 (fR (sJ h3 (fR (sJ (sJ h1 (fR (sJ h (fR h a0 2) (ii 0) x1.toInt64) a0 2) (ii 1) v1.toInt64) (fR (sJ h1 (fR (sJ h (fR h a0 2) (ii 0) x1.toInt64) a0 2) (ii 1) v1.toInt64) a0 2) (ii 2) ((eI (sJ h1 (fR (sJ h (fR h a0 2) (ii 0) x1.toInt64) a0 2) (ii 1) v1.toInt64) (fR (sJ h1 (fR (sJ h (fR h a0 2) (ii 0) x1.toInt64) a0 2) (ii 1) v1.toInt64) (fR (sJ h1 (fR (sJ h (fR h a0 2) (ii 0) x1.toInt64) a0 2) (ii 1) v1.toInt64) (fR (sJ h1 (fR (sJ h (fR h a0 2) (ii 0) x1.toInt64) a0 2) (ii 1) v1.toInt64) a0 0) 0) 5) x1).toInt64)) a0 2) (ii 6) v3.toInt64) a0 2) (ii 7) v4.toInt64) (fR h (fR h a0 0) 1) 0).toInt64)) (fR (sJ (sJ h4 (fR (sJ h3 (fR (sJ (sJ h1 (fR (sJ h (fR h a0 2) (ii 0) x1.toInt64) a0 2) (ii 1) v1.toInt64) (fR (sJ h1 (fR (sJ h (fR h a0 2) (ii 0) x1.toInt64) a0 2) (ii 1) v1.toInt64) a0 2) (ii 2) ((eI (sJ h1 (fR (sJ h (fR h a0 2) (ii 0) x1.toInt64) a0 2) (ii 1) v1.toInt64) (fR (sJ h1 (fR (sJ h (fR h a0 2) (ii 0) x1.toInt64) a0 2) (ii 1) v1.toInt64) (fR (sJ h1 (fR (sJ h (fR h a0 2) (ii 0) x1.toInt64) a0 2) (ii 1) v1.toInt64) (fR (sJ h1 (fR (sJ h (fR h a0 2) (ii 0) x1.toInt64) a0 2) (ii 1) v1.toInt64) a0 0) 0) 5) x1).toInt64)) a0 2) (ii 6) v3.toInt64) a0 2) (ii 7) v4.toInt64) (fR (sJ h4 (fR (sJ h3 (fR (sJ (sJ h1 (fR (sJ h (fR h a0 2) (ii 0) x1.toInt64) a0 2) (ii 1) v1.toInt64) (fR (sJ h1 (fR (sJ h (fR h a0 2) (ii 0) x1.toInt64) a0 2) (ii 1) v1.toInt64) a0 2) (ii 2) ((eI (sJ h1 (fR (sJ h (fR h a0 2) (ii 0) x1.toInt64) a0 2) (ii 1) v1.toInt64) (fR (sJ h1 (fR (sJ h (fR h a0 2) (ii 0) x1.toInt64) a0 2) (ii 1) v1.toInt64) (fR (sJ h1 (fR (sJ h (fR h a0 2) (ii 0) x1.toInt64) a0 2) (ii 1) v1.toInt64) (fR (sJ h1 (fR (sJ h (fR h a0 2) (ii 0) x1.toInt64) a0 2) (ii 1) v1.toInt64) a0 0) 0) 5) x1).toInt64)) a0 2) (ii 6) v3.toInt64) a0 2) (ii 7) v4.toInt64) a0 2) (ii 8) ((fI (sJ h4 (fR (sJ h3 (fR (sJ (sJ h1 (fR (sJ h (fR h a0 2) (ii 0) x1.toInt64) a0 2) (ii 1) v1.toInt64) (fR (sJ h1 (fR (sJ h (fR h a0 2) (ii 0) x1.toInt64) a0 2) (ii 1) v1.toInt64) a0 2) (ii 2) ((eI (sJ h1 (fR (sJ h (fR h a0 2) (ii 0) x1.toInt64) a0 2) (ii 1) v1.toInt64) (fR (sJ h1 (fR (sJ h (fR h a0 2) (ii 0) x1.toInt64) a0 2) (ii 1) v1.toInt64) (fR (sJ h1 (fR (sJ h (fR h a0 2) (ii 0) x1.toInt64) a0 2) (ii 1) v1.toInt64) (fR (sJ h1 (fR (sJ h (fR h a0 2) (ii 0) x1.toInt64) a0 2) (ii 1) v1.toInt64) a0 0) 0) 5) x1).toInt64)) a0 2) (ii 6) v3.toInt64) a0 2) (ii 7) v4.toInt64) (fR h (fR h a0 0) 1) 0).toInt64)) (fR (sJ (sJ h4 (fR (sJ h3 (fR (sJ (sJ h1 (fR (sJ h (fR h a0 2) (ii 0) x1.toInt64) a0 2) (ii 1) v1.toInt64) (fR (sJ h1 (fR (sJ h (fR h a0 2) (ii 0) x1.toInt64) a0 2) (ii 1) v1.toInt64) a0 2) (ii 2) ((eI (sJ h1 (fR (sJ h (fR h a0 2) (ii 0) x1.toInt64) a0 2) (ii 1) v1.toInt64) (fR (sJ h1 (fR (sJ h (fR h a0 2) (ii 0) x1.toInt64) a0 2) (ii 1) v1.toInt64) (fR (sJ h1 (fR (sJ h (fR h a0 2) (ii 0) x1.toInt64) a0 2) (ii 1) v1.toInt64) (fR (sJ h1 (fR (sJ h (fR h a0 2) (ii 0) x1.toInt64) a0 2) (ii 1) v1.toInt64) a0 0) 0) 5) x1).toInt64)) a0 2) (ii 6) v3.toInt64) a0 2) (ii 7) v4.toInt64) (fR (sJ h4 (fR (sJ h3 (fR (sJ (sJ h1 (fR (sJ h (fR h a0 2) (ii 0) x1.toInt64) a0 2) (ii 1) v1.toInt64) (fR (sJ h1 (fR (sJ h (fR h a0 2) (ii 0) x1.toInt64) a0 2) (ii 1) v1.toInt64) a0 2) (ii 2) ((eI (sJ h1 (fR (sJ h (fR h a0 2) (ii 0) x1.toInt64) a0 2) (ii 1) v1.toInt64) (fR (sJ h1 (fR (sJ h (fR h a0 2) (ii 0) x1.toInt64) a0 2) (ii 1) v1.toInt64) (fR (sJ h1 (fR (sJ h (fR h a0 2) (ii 0) x1.toInt64) a0 2) (ii 1) v1.toInt64) (fR (sJ h1 (fR (sJ h (fR h a0 2) (ii 0) x1.toInt64) a0 2) (ii 1) v1.toInt64) a0 0) 0) 5) x1).toInt64)) a0 2) (ii 6) v3.toInt64) a0 2) (ii 7) v4.toInt64) a0 2) (ii 8) ((fI (sJ h4 (fR (sJ h3 (fR (sJ (sJ h1 (fR (sJ h (fR h a0 2) (ii 0) x1.toInt64) a0 2) (ii 1) v1.toInt64) (fR (sJ h1 (fR (sJ h (fR h a0 2) (ii 0) x1.toInt64) a0 2) (ii 1) v1.toInt64) a0 2) (ii 2) ((eI (sJ h1 (fR (sJ h (fR h a0 2) (ii 0) x1.toInt64) a0 2) (ii 1) v1.toInt64) (fR (sJ h1 (fR (sJ h (fR h a0 2) (ii 0) x1.toInt64) a0 2) (ii 1) v1.toInt64) (fR (sJ h1 (fR (sJ h (fR h a0 2) (ii 0) x1.toInt64) a0 2) (ii 1) v1.toInt64) (fR (sJ h1 (fR (sJ h (fR h a0 2) (ii 0) x1.toInt64) a0 2) (ii 1) v1.toInt64) a0 0) 0) 5) x1).toInt64)) a0 2) (ii 6) v3.toInt64) a0 2) (ii 7) v4.toInt64) (fR h (fR h a0 0) 1) 0).toInt64)) a0 0) 0) 2 6 2 ∧ okA (sJ (sJ h4 (fR (sJ h3 (fR (sJ (sJ h1 (fR (sJ h (fR h a0 2) (ii 0) x1.toInt64) a0 2) (ii 1) v1.toInt64) (fR (sJ h1 (fR (sJ h (fR h a0 2) (ii 0) x1.toInt64) a0 2) (ii 1) v1.toInt64) a0 2) (ii 2) ((eI (sJ h1 (fR (sJ h (fR h a0 2) (ii 0) x1.toInt64) a0 2) (ii 1) v1.toInt64) (fR (sJ h1 (fR (sJ h (fR h a0 2) (ii 0) x1.toInt64) a0 2) (ii 1) v1.toInt64) (fR (sJ h1 (fR (sJ h (fR h a0 2) (ii 0) x1.toInt64) a0 2) (ii 1) v1.toInt64) (fR (sJ h1 (fR (sJ h (fR h a0 2) (ii 0) x1.toInt64) a0 2) (ii 1) v1.toInt64) a0 0) 0) 5) x1).toInt64)) a0 2) (ii 6) v3.toInt64) a0 2) (ii 7) v4.toInt64) (fR (sJ h4 (fR (sJ h3 (fR (sJ (sJ h1 (fR (sJ h (fR h a0 2) (ii 0) x1.toInt64) a0 2) (ii 1) v1.toInt64) (fR (sJ h1 (fR (sJ h (fR h a0 2) (ii 0) x1.toInt64) a0 2) (ii 1) v1.toInt64) a0 2) (ii 2) ((eI (sJ h1 (fR (sJ h (fR h a0 2) (ii 0) x1.toInt64) a0 2) (ii 1) v1.toInt64) (fR (sJ h1 (fR (sJ h (fR h a0 2) (ii 0) x1.toInt64) a0 2) (ii 1) v1.toInt64) (fR (sJ h1 (fR (sJ h (fR h a0 2) (ii 0) x1.toInt64) a0 2) (ii 1) v1.toInt64) (fR (sJ h1 (fR (sJ h (fR h a0 2) (ii 0) x1.toInt64) a0 2) (ii 1) v1.toInt64) a0 0) 0) 5) x1).toInt64)) a0 2) (ii 6) v3.toInt64) a0 2) (ii 7) v4.toInt64) a0 2) (ii 8) ((fI (sJ h4 (fR (sJ h3 (fR (sJ (sJ h1 (fR (sJ h (fR h a0 2) (ii 0) x1.toInt64) a0 2) (ii 1) v1.toInt64) (fR (sJ h1 (fR (sJ h (fR h a0 2) (ii 0) x1.toInt64) a0 2) (ii 1) v1.toInt64) a0 2) (ii 2) ((eI (sJ h1 (fR (sJ h (fR h a0 2) (ii 0) x1.toInt64) a0 2) (ii 1) v1.toInt64) (fR (sJ h1 (fR (sJ h (fR h a0 2) (ii 0) x1.toInt64) a0 2) (ii 1) v1.toInt64) (fR (sJ h1 (fR (sJ h (fR h a0 2) (ii 0) x1.toInt64) a0 2) (ii 1) v1.toInt64) (fR (sJ h1 (fR (sJ h (fR h a0 2) (ii 0) x1.toInt64) a0 2) (ii 1) v1.toInt64) a0 0) 0) 5) x1).toInt64)) a0 2) (ii 6) v3.toInt64) a0 2) (ii 7) v4.toInt64) (fR h (fR h a0 0) 1) 0).toInt64)) (fR (sJ (sJ h4 (fR (sJ h3 (fR (sJ (sJ h1 (fR (sJ h (fR h a0 2) (ii 0) x1.toInt64) a0 2) (ii 1) v1.toInt64) (fR (sJ h1 (fR (sJ h (fR h a0 2) (ii 0) x1.toInt64) a0 2) (ii 1) v1.toInt64) a0 2) (ii 2) ((eI (sJ h1 (fR (sJ h (fR h a0 2) (ii 0) x1.toInt64) a0 2) (ii 1) v1.toInt64) (fR (sJ h1 (fR (sJ h (fR h a0 2) (ii 0) x1.toInt64) a0 2) (ii 1) v1.toInt64) (fR (sJ h1 (fR (sJ h (fR h a0 2) (ii 0) x1.toInt64) a0 2) (ii 1) v1.toInt64) (fR (sJ h1 (fR (sJ h (fR h a0 2) (ii 0) x1.toInt64) a0 2) (ii 1) v1.toInt64) a0 0) 0) 5) x1).toInt64)) a0 2) (ii 6) v3.toInt64) a0 2) (ii 7) v4.toInt64) (fR (sJ h4 (fR (sJ h3 (fR (sJ (sJ h1 (fR (sJ h (fR h a0 2) (ii 0) x1.toInt64) a0 2) (ii 1) v1.toInt64) (fR (sJ h1 (fR (sJ h (fR h a0 2) (ii 0) x1.toInt64) a0 2) (ii 1) v1.toInt64) a0 2) (ii 2) ((eI (sJ h1 (fR (sJ h (fR h a0 2) (ii 0) x1.toInt64) a0 2) (ii 1) v1.toInt64) (fR (sJ h1 (fR (sJ h (fR h a0 2) (ii 0) x1.toInt64) a0 2) (ii 1) v1.toInt64) (fR (sJ h1 (fR (sJ h (fR h a0 2) (ii 0) x1.toInt64) a0 2) (ii 1) v1.toInt64) (fR (sJ h1 (fR (sJ h (fR h a0 2) (ii 0) x1.toInt64) a0 2) (ii 1) v1.toInt64) a0 0) 0) 5) x1).toInt64)) a0 2) (ii 6) v3.toInt64) a0 2) (ii 7) v4.toInt64) a0 2) (ii 8) ((fI (sJ h4 (fR (sJ h3 (fR (sJ (sJ h1 (fR (sJ h (fR h a0 2) (ii 0) x1.toInt64) a0 2) (ii 1) v1.toInt64) (fR (sJ h1 (fR (sJ h (fR h a0 2) (ii 0) x1.toInt64) a0 2) (ii 1) v1.toInt64) a0 2) (ii 2) ((eI (sJ h1 (fR (sJ h (fR h a0 2) (ii 0) x1.toInt64) a0 2) (ii 1) v1.toInt64) (fR (sJ h1 (fR (sJ h (fR h a0 2) (ii 0) x1.toInt64) a0 2) (ii 1) v1.toInt64) (fR (sJ h1 (fR (sJ h (fR h a0 2) (ii 0) x1.toInt64) a0 2) (ii 1) v1.toInt64) (fR (sJ h1 (fR (sJ h (fR h a0 2) (ii 0) x1.toInt64) a0 2) (ii 1) v1.toInt64) a0 0) 0) 5) x1).toInt64)) a0 2) (ii 6) v3.toInt64) a0 2) (ii 7) v4.toInt64) (fR h (fR h a0 0) 1) 0).toInt64)) (fR (sJ (sJ h4 (fR (sJ h3 (fR (sJ (sJ h1 (fR (sJ h (fR h a0 2) (ii 0) x1.toInt64) a0 2) (ii 1) v1.toInt64) (fR (sJ h1 (fR (sJ h (fR h a0 2) (ii 0) x1.toInt64) a0 2) (ii 1) v1.toInt64) a0 2) (ii 2) ((eI (sJ h1 (fR (sJ h (fR h a0 2) (ii 0) x1.toInt64) a0 2) (ii 1) v1.toInt64) (fR (sJ h1 (fR (sJ h (fR h a0 2) (ii 0) x1.toInt64) a0 2) (ii 1) v1.toInt64) (fR (sJ h1 (fR (sJ h (fR h a0 2) (ii 0) x1.toInt64) a0 2) (ii 1) v1.toInt64) (fR (sJ h1 (fR (sJ h (fR h a0 2) (ii 0) x1.toInt64) a0 2) (ii 1) v1.toInt64) a0 0) 0) 5) x1).toInt64)) a0 2) (ii 6) v3.toInt64) a0 2) (ii 7) v4.toInt64) (fR (sJ h4 (fR (sJ h3 (fR (sJ (sJ h1 (fR (sJ h (fR h a0 2) (ii 0) x1.toInt64) a0 2) (ii 1) v1.toInt64) (fR (sJ h1 (fR (sJ h (fR h a0 2) (ii 0) x1.toInt64) a0 2) (ii 1) v1.toInt64) a0 2) (ii 2) ((eI (sJ h1 (fR (sJ h (fR h a0 2) (ii 0) x1.toInt64) a0 2) (ii 1) v1.toInt64) (fR (sJ h1 (fR (sJ h (fR h a0 2) (ii 0) x1.toInt64) a0 2) (ii 1) v1.toInt64) (fR (sJ h1 (fR (sJ h (fR h a0 2) (ii 0) x1.toInt64) a0 2) (ii 1) v1.toInt64) (fR (sJ h1 (fR (sJ h (fR h a0 2) (ii 0) x1.toInt64) a0 2) (ii 1) v1.toInt64) a0 0) 0) 5) x1).toInt64)) a0 2) (ii 6) v3.toInt64) a0 2) (ii 7) v4.toInt64) a0 2) (ii 8) ((fI (sJ h4 (fR (sJ h3 (fR (sJ (sJ h1 (fR (sJ h (fR h a0 2) (ii 0) x1.toInt64) a0 2) (ii 1) v1.toInt64) (fR (sJ h1 (fR (sJ h (fR h a0 2) (ii 0) x1.toInt64) a0 2) (ii 1) v1.toInt64) a0 2) (ii 2) ((eI (sJ h1 (fR (sJ h (fR h a0 2) (ii 0) x1.toInt64) a0 2) (ii 1) v1.toInt64) (fR (sJ h1 (fR (sJ h (fR h a0 2) (ii 0) x1.toInt64) a0 2) (ii 1) v1.toInt64) (fR (sJ h1 (fR (sJ h (fR h a0 2) (ii 0) x1.toInt64) a0 2) (ii 1) v1.toInt64) (fR (sJ h1 (fR (sJ h (fR h a0 2) (ii 0) x1.toInt64) a0 2) (ii 1) v1.toInt64) a0 0) 0) 5) x1).toInt64)) a0 2) (ii 6) v3.toInt64) a0 2) (ii 7) v4.toInt64) (fR h (fR h a0 0) 1) 0).toInt64)) (fR (sJ (sJ h4 (fR (sJ h3 (fR (sJ (sJ h1 (fR (sJ h (fR h a0 2) (ii 0) x1.toInt64) a0 2) (ii 1) v1.toInt64) (fR (sJ h1 (fR (sJ h (fR h a0 2) (ii 0) x1.toInt64) a0 2) (ii 1) v1.toInt64) a0 2) (ii 2) ((eI (sJ h1 (fR (sJ h (fR h a0 2) (ii 0) x1.toInt64) a0 2) (ii 1) v1.toInt64) (fR (sJ h1 (fR (sJ h (fR h a0 2) (ii 0) x1.toInt64) a0 2) (ii 1) v1.toInt64) (fR (sJ h1 (fR (sJ h (fR h a0 2) (ii 0) x1.toInt64) a0 2) (ii 1) v1.toInt64) (fR (sJ h1 (fR (sJ h (fR h a0 2) (ii 0) x1.toInt64) a0 2) (ii 1) v1.toInt64) a0 0) 0) 5) x1).toInt64)) a0 2) (ii 6) v3.toInt64) a0 2) (ii 7) v4.toInt64) (fR (sJ h4 (fR (sJ h3 (fR (sJ (sJ h1 (fR (sJ h (fR h a0 2) (ii 0) x1.toInt64) a0 2) (ii 1) v1.toInt64) (fR (sJ h1 (fR (sJ h (fR h a0 2) (ii 0) x1.toInt64) a0 2) (ii 1) v1.toInt64) a0 2) (ii 2) ((eI (sJ h1 (fR (sJ h (fR h a0 2) (ii 0) x1.toInt64) a0 2) (ii 1) v1.toInt64) (fR (sJ h1 (fR (sJ h (fR h a0 2) (ii 0) x1.toInt64) a0 2) (ii 1) v1.toInt64) (fR (sJ h1 (fR (sJ h (fR h a0 2) (ii 0) x1.toInt64) a0 2) (ii 1) v1.toInt64) (fR (sJ h1 (fR (sJ h (fR h a0 2) (ii 0) x1.toInt64) a0 2) (ii 1) v1.toInt64) a0 0) 0) 5) x1).toInt64)) a0 2) (ii 6) v3.toInt64) a0 2) (ii 7) v4.toInt64) a0 2) (ii 8) ((fI (sJ h4 (fR (sJ h3 (fR (sJ (sJ h1 (fR (sJ h (fR h a0 2) (ii 0) x1.toInt64) a0 2) (ii 1) v1.toInt64) (fR (sJ h1 (fR (sJ h (fR h a0 2) (ii 0) x1.toInt64) a0 2) (ii 1) v1.toInt64) a0 2) (ii 2) ((eI (sJ h1 (fR (sJ h (fR h a0 2) (ii 0) x1.toInt64) a0 2) (ii 1) v1.toInt64) (fR (sJ h1 (fR (sJ h (fR h a0 2) (ii 0) x1.toInt64) a0 2) (ii 1) v1.toInt64) (fR (sJ h1 (fR (sJ h (fR h a0 2) (ii 0) x1.toInt64) a0 2) (ii 1) v1.toInt64) (fR (sJ h1 (fR (sJ h (fR h a0 2) (ii 0) x1.toInt64) a0 2) (ii 1) v1.toInt64) a0 0) 0) 5) x1).toInt64)) a0 2) (ii 6) v3.toInt64) a0 2) (ii 7) v4.toInt64) (fR h (fR h a0 0) 1) 0).toInt64)) a0 0) 0) 6) .int x1 ∧ (64 ≤ (fR (sJ (sJ h4 (fR (sJ h3 (fR (sJ (sJ h1 (fR (sJ h (fR h a0 2) (ii 0) x1.toInt64) a0 2) (ii 1) v1.toInt64) (fR (sJ h1 (fR (sJ h (fR h a0 2) (ii 0) x1.toInt64) a0 2) (ii 1) v1.toInt64) a0 2) (ii 2) ((eI (sJ h1 (fR (sJ h (fR h a0 2) (ii 0) x1.toInt64) a0 2) (ii 1) v1.toInt64) (fR (sJ h1 (fR (sJ h (fR h a0 2) (ii 0) x1.toInt64) a0 2) (ii 1) v1.toInt64) (fR (sJ h1 (fR (sJ h (fR h a0 2) (ii 0) x1.toInt64) a0 2) (ii 1) v1.toInt64) (fR (sJ h1 (fR (sJ h (fR h a0 2) (ii 0) x1.toInt64) a0 2) (ii 1) v1.toInt64) a0 0) 0) 5) x1).toInt64)) a0 2) (ii 6) v3.toInt64) a0 2) (ii 7) v4.toInt64) (fR (sJ h4 (fR (sJ h3 (fR (sJ (sJ h1 (fR (sJ h (fR h a0 2) (ii 0) x1.toInt64) a0 2) (ii 1) v1.toInt64) (fR (sJ h1 (fR (sJ h (fR h a0 2) (ii 0) x1.toInt64) a0 2) (ii 1) v1.toInt64) a0 2) (ii 2) ((eI (sJ h1 (fR (sJ h (fR h a0 2) (ii 0) x1.toInt64) a0 2) (ii 1) v1.toInt64) (fR (sJ h1 (fR (sJ h (fR h a0 2) (ii 0) x1.toInt64) a0 2) (ii 1) v1.toInt64) (fR (sJ h1 (fR (sJ h (fR h a0 2) (ii 0) x1.toInt64) a0 2) (ii 1) v1.toInt64) (fR (sJ h1 (fR (sJ h (fR h a0 2) (ii 0) x1.toInt64) a0 2) (ii 1) v1.toInt64) a0 0) 0) 5) x1).toInt64)) a0 2) (ii 6) v3.toInt64) a0 2) (ii 7) v4.toInt64) a0 2) (ii 8) ((fI (sJ h4 (fR (sJ h3 (fR (sJ (sJ h1 (fR (sJ h (fR h a0 2) (ii 0) x1.toInt64) a0 2) (ii 1) v1.toInt64) (fR (sJ h1 (fR (sJ h (fR h a0 2) (ii 0) x1.toInt64) a0 2) (ii 1) v1.toInt64) a0 2) (ii 2) ((eI (sJ h1 (fR (sJ h (fR h a0 2) (ii 0) x1.toInt64) a0 2) (ii 1) v1.toInt64) (fR (sJ h1 (fR (sJ h (fR h a0 2) (ii 0) x1.toInt64) a0 2) (ii 1) v1.toInt64) (fR (sJ h1 (fR (sJ h (fR h a0 2) (ii 0) x1.toInt64) a0 2) (ii 1) v1.toInt64) (fR (sJ h1 (fR (sJ h (fR h a0 2) (ii 0) x1.toInt64) a0 2) (ii 1) v1.toInt64) a0 0) 0) 5) x1).toInt64)) a0 2) (ii 6) v3.toInt64) a0 2) (ii 7) v4.toInt64) (fR h (fR h a0 0) 1) 0).toInt64)) a0 2) ∧ okJ (sJ (sJ h4 (fR (sJ h3 (fR (sJ (sJ h1 (fR (sJ h (fR h a0 2) (ii 0) x1.toInt64) a0 2) (ii 1) v1.toInt64) (fR (sJ h1 (fR (sJ h (fR h a0 2) (ii 0) x1.toInt64) a0 2) (ii 1) v1.toInt64) a0 2) (ii 2) ((eI (sJ h1 (fR (sJ h (fR h a0 2) (ii 0) x1.toInt64) a0 2) (ii 1) v1.toInt64) (fR (sJ h1 (fR (sJ h (fR h a0 2) (ii 0) x1.toInt64) a0 2) (ii 1) v1.toInt64) (fR (sJ h1 (fR (sJ h (fR h a0 2) (ii 0) x1.toInt64) a0 2) (ii 1) v1.toInt64) (fR (sJ h1 (fR (sJ h (fR h a0 2) (ii 0) x1.toInt64) a0 2) (ii 1) v1.toInt64) a0 0) 0) 5) x1).toInt64)) a0 2) (ii 6) v3.toInt64) a0 2) (ii 7) v4.toInt64) (fR (sJ h4 (fR (sJ h3 (fR (sJ (sJ h1 (fR (sJ h (fR h a0 2) (ii 0) x1.toInt64) a0 2) (ii 1) v1.toInt64) (fR (sJ h1 (fR (sJ h (fR h a0 2) (ii 0) x1.toInt64) a0 2) (ii 1) v1.toInt64) a0 2) (ii 2) ((eI (sJ h1 (fR (sJ h (fR h a0 2) (ii 0) x1.toInt64) a0 2) (ii 1) v1.toInt64) (fR (sJ h1 (fR (sJ h (fR h a0 2) (ii 0) x1.toInt64) a0 2) (ii 1) v1.toInt64) (fR (sJ h1 (fR (sJ h (fR h a0 2) (ii 0) x1.toInt64) a0 2) (ii 1) v1.toInt64) (fR (sJ h1 (fR (sJ h (fR h a0 2) (ii 0) x1.toInt64) a0 2) (ii 1) v1.toInt64) a0 0) 0) 5) x1).toInt64)) a0 2) (ii 6) v3.toInt64) a0 2) (ii 7) v4.toInt64) a0 2) (ii 8) ((fI (sJ h4 (fR (sJ h3 (fR (sJ (sJ h1 (fR (sJ h (fR h a0 2) (ii 0) x1.toInt64) a0 2) (ii 1) v1.toInt64) (fR (sJ h1 (fR (sJ h (fR h a0 2) (ii 0) x1.toInt64) a0 2) (ii 1) v1.toInt64) a0 2) (ii 2) ((eI (sJ h1 (fR (sJ h (fR h a0 2) (ii 0) x1.toInt64) a0 2) (ii 1) v1.toInt64) (fR (sJ h1 (fR (sJ h (fR h a0 2) (ii 0) x1.toInt64) a0 2) (ii 1) v1.toInt64) (fR (sJ h1 (fR (sJ h (fR h a0 2) (ii 0) x1.toInt64) a0 2) (ii 1) v1.toInt64) (fR (sJ h1 (fR (sJ h (fR h a0 2) (ii 0) x1.toInt64) a0 2) (ii 1) v1.toInt64) a0 0) 0) 5) x1).toInt64)) a0 2) (ii 6) v3.toInt64) a0 2) (ii 7) v4.toInt64) (fR h (fR h a0 0) 1) 0).toInt64)) (fR (sJ (sJ h4 (fR (sJ h3 (fR (sJ (sJ h1 (fR (sJ h (fR h a0 2) (ii 0) x1.toInt64) a0 2) (ii 1) v1.toInt64) (fR (sJ h1 (fR (sJ h (fR h a0 2) (ii 0) x1.toInt64) a0 2) (ii 1) v1.toInt64) a0 2) (ii 2) ((eI (sJ h1 (fR (sJ h (fR h a0 2) (ii 0) x1.toInt64) a0 2) (ii 1) v1.toInt64) (fR (sJ h1 (fR (sJ h (fR h a0 2) (ii 0) x1.toInt64) a0 2) (ii 1) v1.toInt64) (fR (sJ h1 (fR (sJ h (fR h a0 2) (ii 0) x1.toInt64) a0 2) (ii 1) v1.toInt64) (fR (sJ h1 (fR (sJ h (fR h a0 2) (ii 0) x1.toInt64) a0 2) (ii 1) v1.toInt64) a0 0) 0) 5) x1).toInt64)) a0 2) (ii 6) v3.toInt64) a0 2) (ii 7) v4.toInt64) (fR (sJ h4 (fR (sJ h3 (fR (sJ (sJ h1 (fR (sJ h (fR h a0 2) (ii 0) x1.toInt64) a0 2) (ii 1) v1.toInt64) (fR (sJ h1 (fR (sJ h (fR h a0 2) (ii 0) x1.toInt64) a0 2) (ii 1) v1.toInt64) a0 2) (ii 2) ((eI (sJ h1 (fR (sJ h (fR h a0 2) (ii 0) x1.toInt64) a0 2) (ii 1) v1.toInt64) (fR (sJ h1 (fR (sJ h (fR h a0 2) (ii 0) x1.toInt64) a0 2) (ii 1) v1.toInt64) (fR (sJ h1 (fR (sJ h (fR h a0 2) (ii 0) x1.toInt64) a0 2) (ii 1) v1.toInt64) (fR (sJ h1 (fR (sJ h (fR h a0 2) (ii 0) x1.toInt64) a0 2) (ii 1) v1.toInt64) a0 0) 0) 5) x1).toInt64)) a0 2) (ii 6) v3.toInt64) a0 2) (ii 7) v4.toInt64) a0 2) (ii 8) ((fI (sJ h4 (fR (sJ h3 (fR (sJ (sJ h1 (fR (sJ h (fR h a0 2) (ii 0) x1.toInt64) a0 2) (ii 1) v1.toInt64) (fR (sJ h1 (fR (sJ h (fR h a0 2) (ii 0) x1.toInt64) a0 2) (ii 1) v1.toInt64) a0 2) (ii 2) ((eI (sJ h1 (fR (sJ h (fR h a0 2) (ii 0) x1.toInt64) a0 2) (ii 1) v1.toInt64) (fR (sJ h1 (fR (sJ h (fR h a0 2) (ii 0) x1.toInt64) a0 2) (ii 1) v1.toInt64) (fR (sJ h1 (fR (sJ h (fR h a0 2) (ii 0) x1.toInt64) a0 2) (ii 1) v1.toInt64) (fR (sJ h1 (fR (sJ h (fR h a0 2) (ii 0) x1.toInt64) a0 2) (ii 1) v1.toInt64) a0 0) 0) 5) x1).toInt64)) a0 2) (ii 6) v3.toInt64) a0 2) (ii 7) v4.toInt64) (fR h (fR h a0 0) 1) 0).toInt64)) a0 2) (ii 9)) ∧ Q none (sJ (sJ (sJ h4 (fR (sJ h3 (fR (sJ (sJ h1 (fR (sJ h (fR h a0 2) (ii 0) x1.toInt64) a0 2) (ii 1) v1.toInt64) (fR (sJ h1 (fR (sJ h (fR h a0 2) (ii 0) x1.toInt64) a0 2) (ii 1) v1.toInt64) a0 2) (ii 2) ((eI (sJ h1 (fR (sJ h (fR h a0 2) (ii 0) x1.toInt64) a0 2) (ii 1) v1.toInt64) (fR (sJ h1 (fR (sJ h (fR h a0 2) (ii 0) x1.toInt64) a0 2) (ii 1) v1.toInt64) (fR (sJ h1 (fR (sJ h (fR h a0 2) (ii 0) x1.toInt64) a0 2) (ii 1) v1.toInt64) (fR (sJ h1 (fR (sJ h (fR h a0 2) (ii 0) x1.toInt64) a0 2) (ii 1) v1.toInt64) a0 0) 0) 5) x1).toInt64)) a0 2) (ii 6) v3.toInt64) a0 2) (ii 7) v4.toInt64) (fR (sJ h4 (fR (sJ h3 (fR (sJ (sJ h1 (fR (sJ h (fR h a0 2) (ii 0) x1.toInt64) a0 2) (ii 1) v1.toInt64) (fR (sJ h1 (fR (sJ h (fR h a0 2) (ii 0) x1.toInt64) a0 2) (ii 1) v1.toInt64) a0 2) (ii 2) ((eI (sJ h1 (fR (sJ h (fR h a0 2) (ii 0) x1.toInt64) a0 2) (ii 1) v1.toInt64) (fR (sJ h1 (fR (sJ h (fR h a0 2) (ii 0) x1.toInt64) a0 2) (ii 1) v1.toInt64) (fR (sJ h1 (fR (sJ h (fR h a0 2) (ii 0) x1.toInt64) a0 2) (ii 1) v1.toInt64) (fR (sJ h1 (fR (sJ h (fR h a0 2) (ii 0) x1.toInt64) a0 2) (ii 1) v1.toInt64) a0 0) 0) 5) x1).toInt64)) a0 2) (ii 6) v3.toInt64) a0 2) (ii 7) v4.toInt64) a0 2) (ii 8) ((fI (sJ h4 (fR (sJ h3 (fR (sJ (sJ h1 (fR (sJ h (fR h a0 2) (ii 0) x1.toInt64) a0 2) (ii 1) v1.toInt64) (fR (sJ h1 (fR (sJ h (fR h a0 2) (ii 0) x1.toInt64) a0 2) (ii 1) v1.toInt64) a0 2) (ii 2) ((eI (sJ h1 (fR (sJ h (fR h a0 2) (ii 0) x1.toInt64) a0 2) (ii 1) v1.toInt64) (fR (sJ h1 (fR (sJ h (fR h a0 2) (ii 0) x1.toInt64) a0 2) (ii 1) v1.toInt64) (fR (sJ h1 (fR (sJ h (fR h a0 2) (ii 0) x1.toInt64) a0 2) (ii 1) v1.toInt64) (fR (sJ h1 (fR (sJ h (fR h a0 2) (ii 0) x1.toInt64) a0 2) (ii 1) v1.toInt64) a0 0) 0) 5) x1).toInt64)) a0 2) (ii 6) v3.toInt64) a0 2) (ii 7) v4.toInt64) (fR h (fR h a0 0) 1) 0).toInt64)) (fR (sJ (sJ h4 (fR (sJ h3 (fR (sJ (sJ h1 (fR (sJ h (fR h a0 2) (ii 0) x1.toInt64) a0 2) (ii 1) v1.toInt64) (fR (sJ h1 (fR (sJ h (fR h a0 2) (ii 0) x1.toInt64) a0 2) (ii 1) v1.toInt64) a0 2) (ii 2) ((eI (sJ h1 (fR (sJ h (fR h a0 2) (ii 0) x1.toInt64) a0 2) (ii 1) v1.toInt64) (fR (sJ h1 (fR (sJ h (fR h a0 2) (ii 0) x1.toInt64) a0 2) (ii 1) v1.toInt64) (fR (sJ h1 (fR (sJ h (fR h a0 2) (ii 0) x1.toInt64) a0 2) (ii 1) v1.toInt64) (fR (sJ h1 (fR (sJ h (fR h a0 2) (ii 0) x1.toInt64) a0 2) (ii 1) v1.toInt64) a0 0) 0) 5) x1).toInt64)) a0 2) (ii 6) v3.toInt64) a0 2) (ii 7) v4.toInt64) (fR (sJ h4 (fR (sJ h3 (fR (sJ (sJ h1 (fR (sJ h (fR h a0 2) (ii 0) x1.toInt64) a0 2) (ii 1) v1.toInt64) (fR (sJ h1 (fR (sJ h (fR h a0 2) (ii 0) x1.toInt64) a0 2) (ii 1) v1.toInt64) a0 2) (ii 2) ((eI (sJ h1 (fR (sJ h (fR h a0 2) (ii 0) x1.toInt64) a0 2) (ii 1) v1.toInt64) (fR (sJ h1 (fR (sJ h (fR h a0 2) (ii 0) x1.toInt64) a0 2) (ii 1) v1.toInt64) (fR (sJ h1 (fR (sJ h (fR h a0 2) (ii 0) x1.toInt64) a0 2) (ii 1) v1.toInt64) (fR (sJ h1 (fR (sJ h (fR h a0 2) (ii 0) x1.toInt64) a0 2) (ii 1) v1.toInt64) a0 0) 0) 5) x1).toInt64)) a0 2) (ii 6) v3.toInt64) a0 2) (ii 7) v4.toInt64) a0 2) (ii 8) ((fI (sJ h4 (fR (sJ h3 (fR (sJ (sJ h1 (fR (sJ h (fR h a0 2) (ii 0) x1.toInt64) a0 2) (ii 1) v1.toInt64) (fR (sJ h1 (fR (sJ h (fR h a0 2) (ii 0) x1.toInt64) a0 2) (ii 1) v1.toInt64) a0 2) (ii 2) ((eI (sJ h1 (fR (sJ h (fR h a0 2) (ii 0) x1.toInt64) a0 2) (ii 1) v1.toInt64) (fR (sJ h1 (fR (sJ h (fR h a0 2) (ii 0) x1.toInt64) a0 2) (ii 1) v1.toInt64) (fR (sJ h1 (fR (sJ h (fR h a0 2) (ii 0) x1.toInt64) a0 2) (ii 1) v1.toInt64) (fR (sJ h1 (fR (sJ h (fR h a0 2) (ii 0) x1.toInt64) a0 2) (ii 1) v1.toInt64) a0 0) 0) 5) x1).toInt64)) a0 2) (ii 6) v3.toInt64) a0 2) (ii 7) v4.toInt64) (fR h (fR h a0 0) 1) 0).toInt64)) a0 2) (ii 9) ((eI (sJ (sJ h4 (fR (sJ h3 (fR (sJ (sJ h1 (fR (sJ h (fR h a0 2) (ii 0) x1.toInt64) a0 2) (ii 1) v1.toInt64) (fR (sJ h1 (fR (sJ h (fR h a0 2) (ii 0) x1.toInt64) a0 2) (ii 1) v1.toInt64) a0 2) (ii 2) ((eI (sJ h1 (fR (sJ h (fR h a0 2) (ii 0) x1.toInt64) a0 2) (ii 1) v1.toInt64) (fR (sJ h1 (fR (sJ h (fR h a0 2) (ii 0) x1.toInt64) a0 2) (ii 1) v1.toInt64) (fR (sJ h1 (fR (sJ h (fR h a0 2) (ii 0) x1.toInt64) a0 2) (ii 1) v1.toInt64) (fR (sJ h1 (fR (sJ h (fR h a0 2) (ii 0) x1.toInt64) a0 2) (ii 1) v1.toInt64) a0 0) 0) 5) x1).toInt64)) a0 2) (ii 6) v3.toInt64) a0 2) (ii 7) v4.toInt64) (fR (sJ h4 (fR (sJ h3 (fR (sJ (sJ h1 (fR (sJ h (fR h a0 2) (ii 0) x1.toInt64) a0 2) (ii 1) v1.toInt64) (fR (sJ h1 (fR (sJ h (fR h a0 2) (ii 0) x1.toInt64) a0 2) (ii 1) v1.toInt64) a0 2) (ii 2) ((eI (sJ h1 (fR (sJ h (fR h a0 2) (ii 0) x1.toInt64) a0 2) (ii 1) v1.toInt64) (fR (sJ h1 (fR (sJ h (fR h a0 2) (ii 0) x1.toInt64) a0 2) (ii 1) v1.toInt64) (fR (sJ h1 (fR (sJ h (fR h a0 2) (ii 0) x1.toInt64) a0 2) (ii 1) v1.toInt64) (fR (sJ h1 (fR (sJ h (fR h a0 2) (ii 0) x1.toInt64) a0 2) (ii 1) v1.toInt64) a0 0) 0) 5) x1).toInt64)) a0 2) (ii 6) v3.toInt64) a0 2) (ii 7) v4.toInt64) a0 2) (ii 8) ((fI (sJ h4 (fR (sJ h3 (fR (sJ (sJ h1 (fR (sJ h (fR h a0 2) (ii 0) x1.toInt64) a0 2) (ii 1) v1.toInt64) (fR (sJ h1 (fR (sJ h (fR h a0 2) (ii 0) x1.toInt64) a0 2) (ii 1) v1.toInt64) a0 2) (ii 2) ((eI (sJ h1 (fR (sJ h (fR h a0 2) (ii 0) x1.toInt64) a0 2) (ii 1) v1.toInt64) (fR (sJ h1 (fR (sJ h (fR h a0 2) (ii 0) x1.toInt64) a0 2) (ii 1) v1.toInt64) (fR (sJ h1 (fR (sJ h (fR h a0 2) (ii 0) x1.toInt64) a0 2) (ii 1) v1.toInt64) (fR (sJ h1 (fR (sJ h (fR h a0 2) (ii 0) x1.toInt64) a0 2) (ii 1) v1.toInt64) a0 0) 0) 5) x1).toInt64)) a0 2) (ii 6) v3.toInt64) a0 2) (ii 7) v4.toInt64) (fR h (fR h a0 0) 1) 0).toInt64)) (fR (sJ (sJ h4 (fR (sJ h3 (fR (sJ (sJ h1 (fR (sJ h (fR h a0 2) (ii 0) x1.toInt64) a0 2) (ii 1) v1.toInt64) (fR (sJ h1 (fR (sJ h (fR h a0 2) (ii 0) x1.toInt64) a0 2) (ii 1) v1.toInt64) a0 2) (ii 2) ((eI (sJ h1 (fR (sJ h (fR h a0 2) (ii 0) x1.toInt64) a0 2) (ii 1) v1.toInt64) (fR (sJ h1 (fR (sJ h (fR h a0 2) (ii 0) x1.toInt64) a0 2) (ii 1) v1.toInt64) (fR (sJ h1 (fR (sJ h (fR h a0 2) (ii 0) x1.toInt64) a0 2) (ii 1) v1.toInt64) (fR (sJ h1 (fR (sJ h (fR h a0 2) (ii 0) x1.toInt64) a0 2) (ii 1) v1.toInt64) a0 0) 0) 5) x1).toInt64)) a0 2) (ii 6) v3.toInt64) a0 2) (ii 7) v4.toInt64) (fR (sJ h4 (fR (sJ h3 (fR (sJ (sJ h1 (fR (sJ h (fR h a0 2) (ii 0) x1.toInt64) a0 2) (ii 1) v1.toInt64) (fR (sJ h1 (fR (sJ h (fR h a0 2) (ii 0) x1.toInt64) a0 2) (ii 1) v1.toInt64) a0 2) (ii 2) ((eI (sJ h1 (fR (sJ h (fR h a0 2) (ii 0) x1.toInt64) a0 2) (ii 1) v1.toInt64) (fR (sJ h1 (fR (sJ h (fR h a0 2) (ii 0) x1.toInt64) a0 2) (ii 1) v1.toInt64) (fR (sJ h1 (fR (sJ h (fR h a0 2) (ii 0) x1.toInt64) a0 2) (ii 1) v1.toInt64) (fR (sJ h1 (fR (sJ h (fR h a0 2) (ii 0) x1.toInt64) a0 2) (ii 1) v1.toInt64) a0 0) 0) 5) x1).toInt64)) a0 2) (ii 6) v3.toInt64) a0 2) (ii 7) v4.toInt64) a0 2) (ii 8) ((fI (sJ h4 (fR (sJ h3 (fR (sJ (sJ h1 (fR (sJ h (fR h a0 2) (ii 0) x1.toInt64) a0 2) (ii 1) v1.toInt64) (fR (sJ h1 (fR (sJ h (fR h a0 2) (ii 0) x1.toInt64) a0 2) (ii 1) v1.toInt64) a0 2) (ii 2) ((eI (sJ h1 (fR (sJ h (fR h a0 2) (ii 0) x1.toInt64) a0 2) (ii 1) v1.toInt64) (fR (sJ h1 (fR (sJ h (fR h a0 2) (ii 0) x1.toInt64) a0 2) (ii 1) v1.toInt64) (fR (sJ h1 (fR (sJ h (fR h a0 2) (ii 0) x1.toInt64) a0 2) (ii 1) v1.toInt64) (fR (sJ h1 (fR (sJ h (fR h a0 2) (ii 0) x1.toInt64) a0 2) (ii 1) v1.toInt64) a0 0) 0) 5) x1).toInt64)) a0 2) (ii 6) v3.toInt64) a0 2) (ii 7) v4.toInt64) (fR h (fR h a0 0) 1) 0).toInt64)) (fR (sJ (sJ h4 (fR (sJ h3 (fR (sJ (sJ h1 (fR (sJ h (fR h a0 2) (ii 0) x1.toInt64) a0 2) (ii 1) v1.toInt64) (fR (sJ h1 (fR (sJ h (fR h a0 2) (ii 0) x1.toInt64) a0 2) (ii 1) v1.toInt64) a0 2) (ii 2) ((eI (sJ h1 (fR (sJ h (fR h a0 2) (ii 0) x1.toInt64) a0 2) (ii 1) v1.toInt64) (fR (sJ h1 (fR (sJ h (fR h a0 2) (ii 0) x1.toInt64) a0 2) (ii 1) v1.toInt64) (fR (sJ h1 (fR (sJ h (fR h a0 2) (ii 0) x1.toInt64) a0 2) (ii 1) v1.toInt64) (fR (sJ h1 (fR (sJ h (fR h a0 2) (ii 0) x1.toInt64) a0 2) (ii 1) v1.toInt64) a0 0) 0) 5) x1).toInt64)) a0 2) (ii 6) v3.toInt64) a0 2) (ii 7) v4.toInt64) (fR (sJ h4 (fR (sJ h3 (fR (sJ (sJ h1 (fR (sJ h (fR h a0 2) (ii 0) x1.toInt64) a0 2) (ii 1) v1.toInt64) (fR (sJ h1 (fR (sJ h (fR h a0 2) (ii 0) x1.toInt64) a0 2) (ii 1) v1.toInt64) a0 2) (ii 2) ((eI (sJ h1 (fR (sJ h (fR h a0 2) (ii 0) x1.toInt64) a0 2) (ii 1) v1.toInt64) (fR (sJ h1 (fR (sJ h (fR h a0 2) (ii 0) x1.toInt64) a0 2) (ii 1) v1.toInt64) (fR (sJ h1 (fR (sJ h (fR h a0 2) (ii 0) x1.toInt64) a0 2) (ii 1) v1.toInt64) (fR (sJ h1 (fR (sJ h (fR h a0 2) (ii 0) x1.toInt64) a0 2) (ii 1) v1.toInt64) a0 0) 0) 5) x1).toInt64)) a0 2) (ii 6) v3.toInt64) a0 2) (ii 7) v4.toInt64) a0 2) (ii 8) ((fI (sJ h4 (fR (sJ h3 (fR (sJ (sJ h1 (fR (sJ h (fR h a0 2) (ii 0) x1.toInt64) a0 2) (ii 1) v1.toInt64) (fR (sJ h1 (fR (sJ h (fR h a0 2) (ii 0) x1.toInt64) a0 2) (ii 1) v1.toInt64) a0 2) (ii 2) ((eI (sJ h1 (fR (sJ h (fR h a0 2) (ii 0) x1.toInt64) a0 2) (ii 1) v1.toInt64) (fR (sJ h1 (fR (sJ h (fR h a0 2) (ii 0) x1.toInt64) a0 2) (ii 1) v1.toInt64) (fR (sJ h1 (fR (sJ h (fR h a0 2) (ii 0) x1.toInt64) a0 2) (ii 1) v1.toInt64) (fR (sJ h1 (fR (sJ h (fR h a0 2) (ii 0) x1.toInt64) a0 2) (ii 1) v1.toInt64) a0 0) 0) 5) x1).toInt64)) a0 2) (ii 6) v3.toInt64) a0 2) (ii 7) v4.toInt64) (fR h (fR h a0 0) 1) 0).toInt64)) (fR (sJ (sJ h4 (fR (sJ h3 (fR (sJ (sJ h1 (fR (sJ h (fR h a0 2) (ii 0) x1.toInt64) a0 2) (ii 1) v1.toInt64) (fR (sJ h1 (fR (sJ h (fR h a0 2) (ii 0) x1.toInt64) a0 2) (ii 1) v1.toInt64) a0 2) (ii 2) ((eI (sJ h1 (fR (sJ h (fR h a0 2) (ii 0) x1.toInt64) a0 2) (ii 1) v1.toInt64) (fR (sJ h1 (fR (sJ h (fR h a0 2) (ii 0) x1.toInt64) a0 2) (ii 1) v1.toInt64) (fR (sJ h1 (fR (sJ h (fR h a0 2) (ii 0) x1.toInt64) a0 2) (ii 1) v1.toInt64) (fR (sJ h1 (fR (sJ h (fR h a0 2) (ii 0) x1.toInt64) a0 2) (ii 1) v1.toInt64) a0 0) 0) 5) x1).toInt64)) a0 2) (ii 6) v3.toInt64) a0 2) (ii 7) v4.toInt64) (fR (sJ h4 (fR (sJ h3 (fR (sJ (sJ h1 (fR (sJ h (fR h a0 2) (ii 0) x1.toInt64) a0 2) (ii 1) v1.toInt64) (fR (sJ h1 (fR (sJ h (fR h a0 2) (ii 0) x1.toInt64) a0 2) (ii 1) v1.toInt64) a0 2) (ii 2) ((eI (sJ h1 (fR (sJ h (fR h a0 2) (ii 0) x1.toInt64) a0 2) (ii 1) v1.toInt64) (fR (sJ h1 (fR (sJ h (fR h a0 2) (ii 0) x1.toInt64) a0 2) (ii 1) v1.toInt64) (fR (sJ h1 (fR (sJ h (fR h a0 2) (ii 0) x1.toInt64) a0 2) (ii 1) v1.toInt64) (fR (sJ h1 (fR (sJ h (fR h a0 2) (ii 0) x1.toInt64) a0 2) (ii 1) v1.toInt64) a0 0) 0) 5) x1).toInt64)) a0 2) (ii 6) v3.toInt64) a0 2) (ii 7) v4.toInt64) a0 2) (ii 8) ((fI (sJ h4 (fR (sJ h3 (fR (sJ (sJ h1 (fR (sJ h (fR h a0 2) (ii 0) x1.toInt64) a0 2) (ii 1) v1.toInt64) (fR (sJ h1 (fR (sJ h (fR h a0 2) (ii 0) x1.toInt64) a0 2) (ii 1) v1.toInt64) a0 2) (ii 2) ((eI (sJ h1 (fR (sJ h (fR h a0 2) (ii 0) x1.toInt64) a0 2) (ii 1) v1.toInt64) (fR (sJ h1 (fR (sJ h (fR h a0 2) (ii 0) x1.toInt64) a0 2) (ii 1) v1.toInt64) (fR (sJ h1 (fR (sJ h (fR h a0 2) (ii 0) x1.toInt64) a0 2) (ii 1) v1.toInt64) (fR (sJ h1 (fR (sJ h (fR h a0 2) (ii 0) x1.toInt64) a0 2) (ii 1) v1.toInt64) a0 0) 0) 5) x1).toInt64)) a0 2) (ii 6) v3.toInt64) a0 2) (ii 7) v4.toInt64) (fR h (fR h a0 0) 1) 0).toInt64)) a0 0) 0) 6) x1).toInt64)))))) := by
  refine (G_aload rfl (mF fc22 (by rfl))).trans ?_
  refine (G_getR (c := 1) (k := 0) rfl rfl rfl (mF fc22 (by rfl))).trans (andR ?_)
  refine (G_getR (c := 4) (k := 1) rfl rfl rfl (mF fc22 (by rfl))).trans (andR ?_)
  refine (G_astore (k := 2) (L' := [some (.ref a0), some (.int x1), some (.ref (fR h (fR h a0 0) 1))]) rfl (ltb rfl) rfl (mF fc22 (by rfl))).trans ?_
  refine (G_aload rfl (mF fc22 (by rfl))).trans ?_
  refine (G_getR (c := 1) (k := 2) rfl rfl rfl (mF fc22 (by rfl))).trans (andR ?_)
  refine (G_iconst (mF fc22 (by rfl))).trans ?_
  refine (G_iload rfl (mF fc22 (by rfl))).trans ?_
  refine (G_i2l (mF fc22 (by rfl))).trans ?_
  refine (G_lastore (mF fc22 (by rfl))).trans (andR ?_)
  refine (G_aload rfl (mF fc22 (by rfl))).trans ?_
  refine (G_getR (c := 1) (k := 2) rfl rfl rfl (mF fc22 (by rfl))).trans (andR ?_)
  refine (G_iconst (mF fc22 (by rfl))).trans ?_
  refine (G_aload rfl (mF fc22 (by rfl))).trans ?_
  refine (G_iload rfl (mF fc22 (by rfl))).trans ?_
  refine (G_Vi (q := 24626) (y := 48) (a := fR h (fR h a0 0) 1) (c := 3) rfl rfl rfl rfl (by decide) rfl (as := [.ref (fR h (fR h a0 0) 1), .int x1]) (rest := [.int (ii 1), .ref (fR (sJ h (fR h a0 2) (ii 0) x1.toInt64) a0 2)]) rfl rfl (mF fc22 (by rfl))).trans (andR (GoCi_congr fun v1 h1 => ?_))
  refine (G_i2l (mF fc22 (by rfl))).trans ?_
  refine (G_lastore (mF fc22 (by rfl))).trans (andR ?_)
  refine (G_aload rfl (mF fc22 (by rfl))).trans ?_
  refine (G_getR (c := 1) (k := 2) rfl rfl rfl (mF fc22 (by rfl))).trans (andR ?_)
  refine (G_iconst (mF fc22 (by rfl))).trans ?_
  refine (G_aload rfl (mF fc22 (by rfl))).trans ?_
  refine (G_getR (c := 1) (k := 0) rfl rfl rfl (mF fc22 (by rfl))).trans (andR ?_)
  refine (G_getR (c := 4) (k := 0) rfl rfl rfl (mF fc22 (by rfl))).trans (andR ?_)
  refine (G_getR (c := 2) (k := 5) rfl rfl rfl (mF fc22 (by rfl))).trans (andR ?_)
  refine (G_iload rfl (mF fc22 (by rfl))).trans ?_
  refine (G_iaload (mF fc22 (by rfl))).trans (andR ?_)
  refine (G_i2l (mF fc22 (by rfl))).trans ?_
  refine (G_lastore (mF fc22 (by rfl))).trans (andR ?_)
  refine (G_aload rfl (mF fc22 (by rfl))).trans ?_
  refine (G_getR (c := 1) (k := 2) rfl rfl rfl (mF fc22 (by rfl))).trans (andR ?_)
  refine (G_iconst (mF fc22 (by rfl))).trans ?_
  refine (G_aload rfl (mF fc22 (by rfl))).trans ?_
  refine (G_iconst (mF fc22 (by rfl))).trans ?_
  refine (G_Vr (q := 23602) (y := 46) (a := fR h (fR h a0 0) 1) (c := 3) rfl rfl rfl rfl (by decide) rfl (as := [.ref (fR h (fR h a0 0) 1), .int (ii (-1))]) (rest := [.int (ii 6), .ref (fR (sJ (sJ h1 (fR (sJ h (fR h a0 2) (ii 0) x1.toInt64) a0 2) (ii 1) v1.toInt64) (fR (sJ h1 (fR (sJ h (fR h a0 2) (ii 0) x1.toInt64) a0 2) (ii 1) v1.toInt64) a0 2) (ii 2) ((eI (sJ h1 (fR (sJ h (fR h a0 2) (ii 0) x1.toInt64) a0 2) (ii 1) v1.toInt64) (fR (sJ h1 (fR (sJ h (fR h a0 2) (ii 0) x1.toInt64) a0 2) (ii 1) v1.toInt64) (fR (sJ h1 (fR (sJ h (fR h a0 2) (ii 0) x1.toInt64) a0 2) (ii 1) v1.toInt64) (fR (sJ h1 (fR (sJ h (fR h a0 2) (ii 0) x1.toInt64) a0 2) (ii 1) v1.toInt64) a0 0) 0) 5) x1).toInt64)) a0 2)]) rfl rfl (mF fc22 (by rfl))).trans (andR (GoCr_congr fun v2 h2 => ?_))
  refine (G_Vi (q := 64673) (y := 126) (a := v2) (c := 10) rfl rfl rfl rfl (by decide) rfl (as := [.ref v2]) (rest := [.int (ii 6), .ref (fR (sJ (sJ h1 (fR (sJ h (fR h a0 2) (ii 0) x1.toInt64) a0 2) (ii 1) v1.toInt64) (fR (sJ h1 (fR (sJ h (fR h a0 2) (ii 0) x1.toInt64) a0 2) (ii 1) v1.toInt64) a0 2) (ii 2) ((eI (sJ h1 (fR (sJ h (fR h a0 2) (ii 0) x1.toInt64) a0 2) (ii 1) v1.toInt64) (fR (sJ h1 (fR (sJ h (fR h a0 2) (ii 0) x1.toInt64) a0 2) (ii 1) v1.toInt64) (fR (sJ h1 (fR (sJ h (fR h a0 2) (ii 0) x1.toInt64) a0 2) (ii 1) v1.toInt64) (fR (sJ h1 (fR (sJ h (fR h a0 2) (ii 0) x1.toInt64) a0 2) (ii 1) v1.toInt64) a0 0) 0) 5) x1).toInt64)) a0 2)]) rfl rfl (mF fc22 (by rfl))).trans (andR (GoCi_congr fun v3 h3 => ?_))
  refine (G_i2l (mF fc22 (by rfl))).trans ?_
  refine (G_lastore (mF fc22 (by rfl))).trans (andR ?_)
  refine (G_aload rfl (mF fc22 (by rfl))).trans ?_
  refine (G_getR (c := 1) (k := 2) rfl rfl rfl (mF fc22 (by rfl))).trans (andR ?_)
  refine (G_iconst (mF fc22 (by rfl))).trans ?_
  refine (G_aload rfl (mF fc22 (by rfl))).trans ?_
  refine (G_iload rfl (mF fc22 (by rfl))).trans ?_
  refine (G_Vi (q := 12306) (y := 24) (a := a0) (c := 1) rfl rfl rfl rfl (by decide) rfl (as := [.ref a0, .int x1]) (rest := [.int (ii 7), .ref (fR (sJ h3 (fR (sJ (sJ h1 (fR (sJ h (fR h a0 2) (ii 0) x1.toInt64) a0 2) (ii 1) v1.toInt64) (fR (sJ h1 (fR (sJ h (fR h a0 2) (ii 0) x1.toInt64) a0 2) (ii 1) v1.toInt64) a0 2) (ii 2) ((eI (sJ h1 (fR (sJ h (fR h a0 2) (ii 0) x1.toInt64) a0 2) (ii 1) v1.toInt64) (fR (sJ h1 (fR (sJ h (fR h a0 2) (ii 0) x1.toInt64) a0 2) (ii 1) v1.toInt64) (fR (sJ h1 (fR (sJ h (fR h a0 2) (ii 0) x1.toInt64) a0 2) (ii 1) v1.toInt64) (fR (sJ h1 (fR (sJ h (fR h a0 2) (ii 0) x1.toInt64) a0 2) (ii 1) v1.toInt64) a0 0) 0) 5) x1).toInt64)) a0 2) (ii 6) v3.toInt64) a0 2)]) rfl rfl (mF fc22 (by rfl))).trans (andR (GoCi_congr fun v4 h4 => ?_))
  refine (G_i2l (mF fc22 (by rfl))).trans ?_
  refine (G_lastore (mF fc22 (by rfl))).trans (andR ?_)
  refine (G_aload rfl (mF fc22 (by rfl))).trans ?_
  refine (G_getR (c := 1) (k := 2) rfl rfl rfl (mF fc22 (by rfl))).trans (andR ?_)
  refine (G_iconst (mF fc22 (by rfl))).trans ?_
  refine (G_aload rfl (mF fc22 (by rfl))).trans ?_
  refine (G_getI (c := 3) (k := 0) rfl rfl rfl (mF fc22 (by rfl))).trans (andR ?_)
  refine (G_i2l (mF fc22 (by rfl))).trans ?_
  refine (G_lastore (mF fc22 (by rfl))).trans (andR ?_)
  refine (G_aload rfl (mF fc22 (by rfl))).trans ?_
  refine (G_getR (c := 1) (k := 2) rfl rfl rfl (mF fc22 (by rfl))).trans (andR ?_)
  refine (G_iconst (mF fc22 (by rfl))).trans ?_
  refine (G_aload rfl (mF fc22 (by rfl))).trans ?_
  refine (G_getR (c := 1) (k := 0) rfl rfl rfl (mF fc22 (by rfl))).trans (andR ?_)
  refine (G_getR (c := 4) (k := 0) rfl rfl rfl (mF fc22 (by rfl))).trans (andR ?_)
  refine (G_getR (c := 2) (k := 6) rfl rfl rfl (mF fc22 (by rfl))).trans (andR ?_)
  refine (G_iload rfl (mF fc22 (by rfl))).trans ?_
  refine (G_iaload (mF fc22 (by rfl))).trans (andR ?_)
  refine (G_i2l (mF fc22 (by rfl))).trans ?_
  refine (G_lastore (mF fc22 (by rfl))).trans (andR ?_)
  exact G_return rfl (mF fc22 (by rfl))
theorem e22 {d : Nat} {h : mHeap} {K : mHeap → Prop} {a0 : Nat} {x1 : Int32} : GoCv (d + 1) 22 [.ref a0, .int x1] h K ↔ Go d 22 0 [some (.ref a0), some (.int x1), none] [] h (rV K) := GoCv_entry rfl rfl
set_option maxRecDepth 20000 in
theorem fc23 : mCodes[23]? = some mc23 := rfl
theorem b23_0 {d : Nat} {h : mHeap} {Q : Option Value → mHeap → Prop} {a0 : Nat} {x1 : Int32} {x2 : Int32} : Go d 23 0 [some (.ref a0), some (.int x1), some (.int x2), none] [] h Q ↔ okF h a0 1 1 2 ∧ okF h (fR h a0 1) 8 0 2 ∧ okR h (fR h (fR h a0 1) 0) x2 ∧ okF h a0 1 2 2 ∧ (64 ≤ (fR h a0 2) ∧ okJ h (fR h a0 2) (ii 3)) ∧ okF (sJ h (fR h a0 2) (ii 3) x2.toInt64) a0 1 2 2 ∧ okF (sJ h (fR h a0 2) (ii 3) x2.toInt64) a0 1 0 2 ∧ okF (sJ h (fR h a0 2) (ii 3) x2.toInt64) (fR (sJ h (fR h a0 2) (ii 3) x2.toInt64) a0 0) 4 1 2 ∧ oC (sJ h (fR h a0 2) (ii 3) x2.toInt64) (fR (sJ h (fR h a0 2) (ii 3) x2.toInt64) (fR (sJ h (fR h a0 2) (ii 3) x2.toInt64) a0 0) 1) = 3 ∧ GoCr d 46 [.ref (fR (sJ h (fR h a0 2) (ii 3) x2.toInt64) (fR (sJ h (fR h a0 2) (ii 3) x2.toInt64) a0 0) 1), .int x1] (sJ h (fR h a0 2) (ii 3) x2.toInt64) (fun v1 h1 => oC h1 v1 = 10 ∧ GoCi d 128 [.ref v1, .ref (eR h (fR h (fR h a0 1) 0) x2)] h1 (fun v2 h2 => (if v2 = ii 0 then (Go d 23 46 [some (.ref a0), some (.int x1), some (.int x2), some (.ref (eR h (fR h (fR h a0 1) 0) x2))] [.long (jj 0), .int (ii 4), .ref (fR (sJ h (fR h a0 2) (ii 3) x2.toInt64) a0 2)] h2 Q) else (Go d 23 46 [some (.ref a0), some (.int x1), some (.int x2), some (.ref (eR h (fR h (fR h a0 1) 0) x2))] [.long (jj 1), .int (ii 4), .ref (fR (sJ h (fR h a0 2) (ii 3) x2.toInt64) a0 2)] h2 Q)))) := by
  refine (G_aload rfl (mF fc23 (by rfl))).trans ?_
  refine (G_getR (c := 1) (k := 1) rfl rfl rfl (mF fc23 (by rfl))).trans (andR ?_)
  refine (G_getR (c := 8) (k := 0) rfl rfl rfl (mF fc23 (by rfl))).trans (andR ?_)
  refine (G_iload rfl (mF fc23 (by rfl))).trans ?_
  refine (G_aaloadR rfl (mF fc23 (by rfl))).trans (andR ?_)
  refine (G_astore (k := 3) (L' := [some (.ref a0), some (.int x1), some (.int x2), some (.ref (eR h (fR h (fR h a0 1) 0) x2))]) rfl (ltb rfl) rfl (mF fc23 (by rfl))).trans ?_
  refine (G_aload rfl (mF fc23 (by rfl))).trans ?_
  refine (G_getR (c := 1) (k := 2) rfl rfl rfl (mF fc23 (by rfl))).trans (andR ?_)
  refine (G_iconst (mF fc23 (by rfl))).trans ?_
  refine (G_iload rfl (mF fc23 (by rfl))).trans ?_
  refine (G_i2l (mF fc23 (by rfl))).trans ?_
  refine (G_lastore (mF fc23 (by rfl))).trans (andR ?_)
  refine (G_aload rfl (mF fc23 (by rfl))).trans ?_
  refine (G_getR (c := 1) (k := 2) rfl rfl rfl (mF fc23 (by rfl))).trans (andR ?_)
  refine (G_iconst (mF fc23 (by rfl))).trans ?_
  refine (G_aload rfl (mF fc23 (by rfl))).trans ?_
  refine (G_getR (c := 1) (k := 0) rfl rfl rfl (mF fc23 (by rfl))).trans (andR ?_)
  refine (G_getR (c := 4) (k := 1) rfl rfl rfl (mF fc23 (by rfl))).trans (andR ?_)
  refine (G_iload rfl (mF fc23 (by rfl))).trans ?_
  refine (G_Vr (q := 23602) (y := 46) (a := fR (sJ h (fR h a0 2) (ii 3) x2.toInt64) (fR (sJ h (fR h a0 2) (ii 3) x2.toInt64) a0 0) 1) (c := 3) rfl rfl rfl rfl (by decide) rfl (as := [.ref (fR (sJ h (fR h a0 2) (ii 3) x2.toInt64) (fR (sJ h (fR h a0 2) (ii 3) x2.toInt64) a0 0) 1), .int x1]) (rest := [.int (ii 4), .ref (fR (sJ h (fR h a0 2) (ii 3) x2.toInt64) a0 2)]) rfl rfl (mF fc23 (by rfl))).trans (andR (GoCr_congr fun v1 h1 => ?_))
  refine (G_aload rfl (mF fc23 (by rfl))).trans ?_
  refine (G_Vi (q := 65698) (y := 128) (a := v1) (c := 10) rfl rfl rfl rfl (by decide) rfl (as := [.ref v1, .ref (eR h (fR h (fR h a0 1) 0) x2)]) (rest := [.int (ii 4), .ref (fR (sJ h (fR h a0 2) (ii 3) x2.toInt64) a0 2)]) rfl rfl (mF fc23 (by rfl))).trans (andR (GoCi_congr fun v2 h2 => ?_))
  refine (G_eq (mF fc23 (by rfl))).trans (gi ?_ ?_)
  ·
    refine (G_jsr_w (mF fc23 (by rfl))).trans ?_
    exact Iff.rfl
  ·
    refine (G_jsr_w (mF fc23 (by rfl))).trans ?_
    refine (G_goto (mF fc23 (by rfl))).trans ?_
    exact Iff.rfl
theorem b23_46 {d : Nat} {h : mHeap} {Q : Option Value → mHeap → Prop} {a0 : Nat} {l1 : Option Value} {l2 : Option Value} {a3 : Nat} {r0 : Nat} {s1 : Int32} {t2 : Int64} : Go d 23 46 [some (.ref a0), l1, l2, some (.ref a3)] [.long t2, .int s1, .ref r0] h Q ↔ (64 ≤ r0 ∧ okJ h r0 s1) ∧ okF (sJ h r0 s1 t2) a0 1 2 2 ∧ okF (sJ h r0 s1 t2) a0 1 0 2 ∧ okF (sJ h r0 s1 t2) (fR (sJ h r0 s1 t2) a0 0) 4 1 2 ∧ oC (sJ h r0 s1 t2) (fR (sJ h r0 s1 t2) (fR (sJ h r0 s1 t2) a0 0) 1) = 3 ∧ GoCr d 46 [.ref (fR (sJ h r0 s1 t2) (fR (sJ h r0 s1 t2) a0 0) 1), .int (ii (-1))] (sJ h r0 s1 t2) (fun v1 h1 => oC h1 v1 = 10 ∧ GoCi d 127 [.ref v1, .ref a3] h1 (fun v2 h2 => (64 ≤ (fR (sJ h r0 s1 t2) a0 2) ∧ okJ h2 (fR (sJ h r0 s1 t2) a0 2) (ii 5)) ∧ Q none (sJ h2 (fR (sJ h r0 s1 t2) a0 2) (ii 5) v2.toInt64))) := by
  refine (G_lastore (mF fc23 (by rfl))).trans (andR ?_)
  refine (G_aload rfl (mF fc23 (by rfl))).trans ?_
  refine (G_getR (c := 1) (k := 2) rfl rfl rfl (mF fc23 (by rfl))).trans (andR ?_)
  refine (G_iconst (mF fc23 (by rfl))).trans ?_
  refine (G_aload rfl (mF fc23 (by rfl))).trans ?_
  refine (G_getR (c := 1) (k := 0) rfl rfl rfl (mF fc23 (by rfl))).trans (andR ?_)
  refine (G_getR (c := 4) (k := 1) rfl rfl rfl (mF fc23 (by rfl))).trans (andR ?_)
  refine (G_iconst (mF fc23 (by rfl))).trans ?_
  refine (G_Vr (q := 23602) (y := 46) (a := fR (sJ h r0 s1 t2) (fR (sJ h r0 s1 t2) a0 0) 1) (c := 3) rfl rfl rfl rfl (by decide) rfl (as := [.ref (fR (sJ h r0 s1 t2) (fR (sJ h r0 s1 t2) a0 0) 1), .int (ii (-1))]) (rest := [.int (ii 5), .ref (fR (sJ h r0 s1 t2) a0 2)]) rfl rfl (mF fc23 (by rfl))).trans (andR (GoCr_congr fun v1 h1 => ?_))
  refine (G_aload rfl (mF fc23 (by rfl))).trans ?_
  refine (G_Vi (q := 65186) (y := 127) (a := v1) (c := 10) rfl rfl rfl rfl (by decide) rfl (as := [.ref v1, .ref a3]) (rest := [.int (ii 5), .ref (fR (sJ h r0 s1 t2) a0 2)]) rfl rfl (mF fc23 (by rfl))).trans (andR (GoCi_congr fun v2 h2 => ?_))
  refine (G_i2l (mF fc23 (by rfl))).trans ?_
  refine (G_lastore (mF fc23 (by rfl))).trans (andR ?_)
  exact G_return rfl (mF fc23 (by rfl))
theorem e23 {d : Nat} {h : mHeap} {K : mHeap → Prop} {a0 : Nat} {x1 : Int32} {x2 : Int32} : GoCv (d + 1) 23 [.ref a0, .int x1, .int x2] h K ↔ Go d 23 0 [some (.ref a0), some (.int x1), some (.int x2), none] [] h (rV K) := GoCv_entry rfl rfl
set_option maxRecDepth 20000 in
theorem fc24 : mCodes[24]? = some mc24 := rfl
theorem b24_0 {d : Nat} {h : mHeap} {Q : Option Value → mHeap → Prop} {a0 : Nat} {x1 : Int32} : Go d 24 0 [some (.ref a0), some (.int x1), none, none] [] h Q ↔ Go d 24 4 [some (.ref a0), some (.int x1), some (.int (ii 0)), some (.int (ii 0))] [] h Q := by
  refine (G_iconst (mF fc24 (by rfl))).trans ?_
  refine (G_istore (k := 2) (L' := [some (.ref a0), some (.int x1), some (.int (ii 0)), none]) rfl (ltb rfl) rfl (mF fc24 (by rfl))).trans ?_
  refine (G_iconst (mF fc24 (by rfl))).trans ?_
  refine (G_istore (k := 3) (L' := [some (.ref a0), some (.int x1), some (.int (ii 0)), some (.int (ii 0))]) rfl (ltb rfl) rfl (mF fc24 (by rfl))).trans ?_
  exact Iff.rfl
theorem b24_4 {d : Nat} {h : mHeap} {Q : Option Value → mHeap → Prop} {a0 : Nat} {x1 : Int32} {x2 : Int32} {x3 : Int32} : Go d 24 4 [some (.ref a0), some (.int x1), some (.int x2), some (.int x3)] [] h Q ↔ okF h a0 1 0 2 ∧ okF h (fR h a0 0) 4 0 2 ∧ okF h (fR h (fR h a0 0) 0) 2 2 0 ∧ (if (fI h (fR h (fR h a0 0) 0) 2) ≤ x3 then (Q (some (.int x2)) h) else ((if x3 = x1 then (Go d 24 51 [some (.ref a0), some (.int x1), some (.int x2), some (.int x3)] [] h Q) else (okF h a0 1 0 2 ∧ okF h (fR h a0 0) 4 1 2 ∧ oC h (fR h (fR h a0 0) 1) = 3 ∧ GoCi d 48 [.ref (fR h (fR h a0 0) 1), .int x3] h (fun v1 h1 => okF h1 a0 1 0 2 ∧ okF h1 (fR h1 a0 0) 4 1 2 ∧ oC h1 (fR h1 (fR h1 a0 0) 1) = 3 ∧ GoCi d 48 [.ref (fR h1 (fR h1 a0 0) 1), .int x1] h1 (fun v2 h2 => (if ¬ v1 = v2 then (Go d 24 51 [some (.ref a0), some (.int x1), some (.int x2), some (.int x3)] [] h2 Q) else (Go d 24 51 [some (.ref a0), some (.int x1), some (.int (x2 + ii 1)), some (.int x3)] [] h2 Q)))))))) := by
  refine (G_iload rfl (mF fc24 (by rfl))).trans ?_
  refine (G_aload rfl (mF fc24 (by rfl))).trans ?_
  refine (G_getR (c := 1) (k := 0) rfl rfl rfl (mF fc24 (by rfl))).trans (andR ?_)
  refine (G_getR (c := 4) (k := 0) rfl rfl rfl (mF fc24 (by rfl))).trans (andR ?_)
  refine (G_getI (c := 2) (k := 2) rfl rfl rfl (mF fc24 (by rfl))).trans (andR ?_)
  refine (G_ige (mF fc24 (by rfl))).trans (gi ?_ ?_)
  ·
    refine (G_iload rfl (mF fc24 (by rfl))).trans ?_
    exact G_ireturnI rfl (mF fc24 (by rfl))
  ·
    refine (G_iload rfl (mF fc24 (by rfl))).trans ?_
    refine (G_iload rfl (mF fc24 (by rfl))).trans ?_
    refine (G_ieq (mF fc24 (by rfl))).trans (gi ?_ ?_)
    ·
      exact Iff.rfl
    ·
      refine (G_aload rfl (mF fc24 (by rfl))).trans ?_
      refine (G_getR (c := 1) (k := 0) rfl rfl rfl (mF fc24 (by rfl))).trans (andR ?_)
      refine (G_getR (c := 4) (k := 1) rfl rfl rfl (mF fc24 (by rfl))).trans (andR ?_)
      refine (G_iload rfl (mF fc24 (by rfl))).trans ?_
      refine (G_Vi (q := 24626) (y := 48) (a := fR h (fR h a0 0) 1) (c := 3) rfl rfl rfl rfl (by decide) rfl (as := [.ref (fR h (fR h a0 0) 1), .int x3]) (rest := []) rfl rfl (mF fc24 (by rfl))).trans (andR (GoCi_congr fun v1 h1 => ?_))
      refine (G_aload rfl (mF fc24 (by rfl))).trans ?_
      refine (G_getR (c := 1) (k := 0) rfl rfl rfl (mF fc24 (by rfl))).trans (andR ?_)
      refine (G_getR (c := 4) (k := 1) rfl rfl rfl (mF fc24 (by rfl))).trans (andR ?_)
      refine (G_iload rfl (mF fc24 (by rfl))).trans ?_
      refine (G_Vi (q := 24626) (y := 48) (a := fR h1 (fR h1 a0 0) 1) (c := 3) rfl rfl rfl rfl (by decide) rfl (as := [.ref (fR h1 (fR h1 a0 0) 1), .int x1]) (rest := [.int v1]) rfl rfl (mF fc24 (by rfl))).trans (andR (GoCi_congr fun v2 h2 => ?_))
      refine (G_ine (mF fc24 (by rfl))).trans (gi ?_ ?_)
      ·
        exact Iff.rfl
      ·
        refine (G_iinc (k := 2) (L' := [some (.ref a0), some (.int x1), some (.int (x2 + ii 1)), some (.int x3)]) rfl rfl rfl (mF fc24 (by rfl))).trans ?_
        exact Iff.rfl
theorem b24_51 {d : Nat} {h : mHeap} {Q : Option Value → mHeap → Prop} {a0 : Nat} {x1 : Int32} {x2 : Int32} {x3 : Int32} : Go d 24 51 [some (.ref a0), some (.int x1), some (.int x2), some (.int x3)] [] h Q ↔ Go d 24 4 [some (.ref a0), some (.int x1), some (.int x2), some (.int (x3 + ii 1))] [] h Q := by
  refine (G_iinc (k := 3) (L' := [some (.ref a0), some (.int x1), some (.int x2), some (.int (x3 + ii 1))]) rfl rfl rfl (mF fc24 (by rfl))).trans ?_
  refine (G_goto (mF fc24 (by rfl))).trans ?_
  exact Iff.rfl
theorem e24 {d : Nat} {h : mHeap} {K : Int32 → mHeap → Prop} {a0 : Nat} {x1 : Int32} : GoCi (d + 1) 24 [.ref a0, .int x1] h K ↔ Go d 24 0 [some (.ref a0), some (.int x1), none, none] [] h (rI K) := GoCi_entry rfl rfl
set_option maxRecDepth 20000 in
theorem fc25 : mCodes[25]? = some mc25 := rfl
theorem b25_0 {d : Nat} {h : mHeap} {Q : Option Value → mHeap → Prop} {a0 : Nat} {x1 : Int32} {x2 : Int32} {x3 : Int32} : Go d 25 0 [some (.ref a0), some (.int x1), some (.int x2), some (.int x3), none, none, none] [] h Q ↔ okF h a0 1 0 2 ∧ okF h (fR h a0 0) 4 7 0 ∧ okP h a0 1 4 ∧ okP (sF h a0 4 (.int (fI h (fR h a0 0) 7))) a0 1 5 ∧ okP (sF (sF h a0 4 (.int (fI h (fR h a0 0) 7))) a0 5 (.int (ii 0))) a0 1 6 ∧ Go d 25 27 [some (.ref a0), some (.int x1), some (.int x2), some (.int x3), some (.int (ii 0)), some (.int (ii 0)), none] [] (sF (sF (sF h a0 4 (.int (fI h (fR h a0 0) 7))) a0 5 (.int (ii 0))) a0 6 (.int (ii 0))) Q := by
  refine (G_iconst (mF fc25 (by rfl))).trans ?_
  refine (G_istore (k := 4) (L' := [some (.ref a0), some (.int x1), some (.int x2), some (.int x3), some (.int (ii 0)), none, none]) rfl (ltb rfl) rfl (mF fc25 (by rfl))).trans ?_
  refine (G_aload rfl (mF fc25 (by rfl))).trans ?_
  refine (G_aload rfl (mF fc25 (by rfl))).trans ?_
  refine (G_getR (c := 1) (k := 0) rfl rfl rfl (mF fc25 (by rfl))).trans (andR ?_)
  refine (G_getI (c := 4) (k := 7) rfl rfl rfl (mF fc25 (by rfl))).trans (andR ?_)
  refine (G_putT (c := 1) (k := 4) rfl rfl rfl (mF fc25 (by rfl))).trans (andR ?_)
  refine (G_aload rfl (mF fc25 (by rfl))).trans ?_
  refine (G_iconst (mF fc25 (by rfl))).trans ?_
  refine (G_putT (c := 1) (k := 5) rfl rfl rfl (mF fc25 (by rfl))).trans (andR ?_)
  refine (G_aload rfl (mF fc25 (by rfl))).trans ?_
  refine (G_iconst (mF fc25 (by rfl))).trans ?_
  refine (G_putT (c := 1) (k := 6) rfl rfl rfl (mF fc25 (by rfl))).trans (andR ?_)
  refine (G_iconst (mF fc25 (by rfl))).trans ?_
  refine (G_istore (k := 5) (L' := [some (.ref a0), some (.int x1), some (.int x2), some (.int x3), some (.int (ii 0)), some (.int (ii 0)), none]) rfl (ltb rfl) rfl (mF fc25 (by rfl))).trans ?_
  exact Iff.rfl
theorem b25_27 {d : Nat} {h : mHeap} {Q : Option Value → mHeap → Prop} {a0 : Nat} {x1 : Int32} {x2 : Int32} {x3 : Int32} {x4 : Int32} {x5 : Int32} {l6 : Option Value} : Go d 25 27 [some (.ref a0), some (.int x1), some (.int x2), some (.int x3), some (.int x4), some (.int x5), l6] [] h Q ↔ (if x1 ≤ x5 then ((if ¬ x3 = ii 0 then ((if ¬ x3 = (ii 1) then (Q (some (.int x4)) h) else (okF h a0 1 6 0 ∧ Q (some (.int (fI h a0 6))) h))) else (okF h a0 1 5 0 ∧ Q (some (.int (fI h a0 5))) h))) else (okF h a0 1 3 2 ∧ okF h a0 1 0 2 ∧ okF h (fR h a0 0) 4 1 2 ∧ oC h (fR h a0 3) = 3 ∧ GoCv d 44 [.ref (fR h a0 3), .ref (fR h (fR h a0 0) 1)] h (fun h1 => Go d 25 50 [some (.ref a0), some (.int x1), some (.int x2), some (.int x3), some (.int x4), some (.int x5), some (.int (ii 0))] [] h1 Q))) := by
  refine (G_iload rfl (mF fc25 (by rfl))).trans ?_
  refine (G_iload rfl (mF fc25 (by rfl))).trans ?_
  refine (G_ige (mF fc25 (by rfl))).trans (gi ?_ ?_)
  ·
    refine (G_iload rfl (mF fc25 (by rfl))).trans ?_
    refine (G_ne (mF fc25 (by rfl))).trans (gi ?_ ?_)
    ·
      refine (G_iload rfl (mF fc25 (by rfl))).trans ?_
      refine (G_iconst (mF fc25 (by rfl))).trans ?_
      refine (G_ine (mF fc25 (by rfl))).trans (gi ?_ ?_)
      ·
        refine (G_iload rfl (mF fc25 (by rfl))).trans ?_
        exact G_ireturnI rfl (mF fc25 (by rfl))
      ·
        refine (G_aload rfl (mF fc25 (by rfl))).trans ?_
        refine (G_getI (c := 1) (k := 6) rfl rfl rfl (mF fc25 (by rfl))).trans (andR ?_)
        refine (G_goto (mF fc25 (by rfl))).trans ?_
        exact G_ireturnI rfl (mF fc25 (by rfl))
    ·
      refine (G_aload rfl (mF fc25 (by rfl))).trans ?_
      refine (G_getI (c := 1) (k := 5) rfl rfl rfl (mF fc25 (by rfl))).trans (andR ?_)
      exact G_ireturnI rfl (mF fc25 (by rfl))
  ·
    refine (G_aload rfl (mF fc25 (by rfl))).trans ?_
    refine (G_getR (c := 1) (k := 3) rfl rfl rfl (mF fc25 (by rfl))).trans (andR ?_)
    refine (G_aload rfl (mF fc25 (by rfl))).trans ?_
    refine (G_getR (c := 1) (k := 0) rfl rfl rfl (mF fc25 (by rfl))).trans (andR ?_)
    refine (G_getR (c := 4) (k := 1) rfl rfl rfl (mF fc25 (by rfl))).trans (andR ?_)
    refine (G_Vv (q := 22578) (y := 44) (a := fR h a0 3) (c := 3) rfl rfl rfl rfl (by decide) rfl (as := [.ref (fR h a0 3), .ref (fR h (fR h a0 0) 1)]) (rest := []) rfl rfl (mF fc25 (by rfl))).trans (andR (GoCv_congr fun h1 => ?_))
    refine (G_iconst (mF fc25 (by rfl))).trans ?_
    refine (G_istore (k := 6) (L' := [some (.ref a0), some (.int x1), some (.int x2), some (.int x3), some (.int x4), some (.int x5), some (.int (ii 0))]) rfl (ltb rfl) rfl (mF fc25 (by rfl))).trans ?_
    exact Iff.rfl
theorem b25_50 {d : Nat} {h : mHeap} {Q : Option Value → mHeap → Prop} {a0 : Nat} {x1 : Int32} {x2 : Int32} {x3 : Int32} {x4 : Int32} {x5 : Int32} {x6 : Int32} : Go d 25 50 [some (.ref a0), some (.int x1), some (.int x2), some (.int x3), some (.int x4), some (.int x5), some (.int x6)] [] h Q ↔ (if x2 ≤ x6 then (okF h a0 1 3 2 ∧ oC h (fR h a0 3) = 3 ∧ GoCr d 46 [.ref (fR h a0 3), .int (ii (-1))] h (fun v1 h1 => oC h1 v1 = 10 ∧ GoCi d 126 [.ref v1] h1 (fun v2 h2 => Go d 25 27 [some (.ref a0), some (.int x1), some (.int x2), some (.int x3), some (.int (x4 + v2)), some (.int (x5 + ii 1)), some (.int x6)] [] h2 Q))) else (oC h a0 = 1 ∧ GoCv d 26 [.ref a0] h (fun h3 => okF h3 a0 1 3 2 ∧ okF h3 a0 1 0 2 ∧ okF h3 (fR h3 a0 0) 4 0 2 ∧ oC h3 (fR h3 a0 3) = 3 ∧ GoCv d 51 [.ref (fR h3 a0 3), .ref (fR h3 (fR h3 a0 0) 0)] h3 (fun h4 => Go d 25 50 [some (.ref a0), some (.int x1), some (.int x2), some (.int x3), some (.int x4), some (.int x5), some (.int (x6 + ii 1))] [] h4 Q)))) := by
  refine (G_iload rfl (mF fc25 (by rfl))).trans ?_
  refine (G_iload rfl (mF fc25 (by rfl))).trans ?_
  refine (G_ige (mF fc25 (by rfl))).trans (gi ?_ ?_)
  ·
    refine (G_iload rfl (mF fc25 (by rfl))).trans ?_
    refine (G_aload rfl (mF fc25 (by rfl))).trans ?_
    refine (G_getR (c := 1) (k := 3) rfl rfl rfl (mF fc25 (by rfl))).trans (andR ?_)
    refine (G_iconst (mF fc25 (by rfl))).trans ?_
    refine (G_Vr (q := 23602) (y := 46) (a := fR h a0 3) (c := 3) rfl rfl rfl rfl (by decide) rfl (as := [.ref (fR h a0 3), .int (ii (-1))]) (rest := [.int x4]) rfl rfl (mF fc25 (by rfl))).trans (andR (GoCr_congr fun v1 h1 => ?_))
    refine (G_Vi (q := 64673) (y := 126) (a := v1) (c := 10) rfl rfl rfl rfl (by decide) rfl (as := [.ref v1]) (rest := [.int x4]) rfl rfl (mF fc25 (by rfl))).trans (andR (GoCi_congr fun v2 h2 => ?_))
    refine (G_iadd (mF fc25 (by rfl))).trans ?_
    refine (G_istore (k := 4) (L' := [some (.ref a0), some (.int x1), some (.int x2), some (.int x3), some (.int (x4 + v2)), some (.int x5), some (.int x6)]) rfl (ltb rfl) rfl (mF fc25 (by rfl))).trans ?_
    refine (G_iinc (k := 5) (L' := [some (.ref a0), some (.int x1), some (.int x2), some (.int x3), some (.int (x4 + v2)), some (.int (x5 + ii 1)), some (.int x6)]) rfl rfl rfl (mF fc25 (by rfl))).trans ?_
    refine (G_goto (mF fc25 (by rfl))).trans ?_
    exact Iff.rfl
  ·
    refine (G_aload rfl (mF fc25 (by rfl))).trans ?_
    refine (G_Vv (q := 13329) (y := 26) (a := a0) (c := 1) rfl rfl rfl rfl (by decide) rfl (as := [.ref a0]) (rest := []) rfl rfl (mF fc25 (by rfl))).trans (andR (GoCv_congr fun h3 => ?_))
    refine (G_aload rfl (mF fc25 (by rfl))).trans ?_
    refine (G_getR (c := 1) (k := 3) rfl rfl rfl (mF fc25 (by rfl))).trans (andR ?_)
    refine (G_aload rfl (mF fc25 (by rfl))).trans ?_
    refine (G_getR (c := 1) (k := 0) rfl rfl rfl (mF fc25 (by rfl))).trans (andR ?_)
    refine (G_getR (c := 4) (k := 0) rfl rfl rfl (mF fc25 (by rfl))).trans (andR ?_)
    refine (G_Vv (q := 26162) (y := 51) (a := fR h3 a0 3) (c := 3) rfl rfl rfl rfl (by decide) rfl (as := [.ref (fR h3 a0 3), .ref (fR h3 (fR h3 a0 0) 0)]) (rest := []) rfl rfl (mF fc25 (by rfl))).trans (andR (GoCv_congr fun h4 => ?_))
    refine (G_iinc (k := 6) (L' := [some (.ref a0), some (.int x1), some (.int x2), some (.int x3), some (.int x4), some (.int x5), some (.int (x6 + ii 1))]) rfl rfl rfl (mF fc25 (by rfl))).trans ?_
    refine (G_goto (mF fc25 (by rfl))).trans ?_
    exact Iff.rfl
theorem e25 {d : Nat} {h : mHeap} {K : Int32 → mHeap → Prop} {a0 : Nat} {x1 : Int32} {x2 : Int32} {x3 : Int32} : GoCi (d + 1) 25 [.ref a0, .int x1, .int x2, .int x3] h K ↔ Go d 25 0 [some (.ref a0), some (.int x1), some (.int x2), some (.int x3), none, none, none] [] h (rI K) := GoCi_entry rfl rfl
set_option maxRecDepth 20000 in
theorem fc26 : mCodes[26]? = some mc26 := rfl
theorem b26_0 {d : Nat} {h : mHeap} {Q : Option Value → mHeap → Prop} {a0 : Nat} : Go d 26 0 [some (.ref a0), none, none, none] [] h Q ↔ Go d 26 2 [some (.ref a0), some (.int (ii 0)), none, none] [] h Q := by
  refine (G_iconst (mF fc26 (by rfl))).trans ?_
  refine (G_istore (k := 1) (L' := [some (.ref a0), some (.int (ii 0)), none, none]) rfl (ltb rfl) rfl (mF fc26 (by rfl))).trans ?_
  exact Iff.rfl
theorem b26_2 {d : Nat} {h : mHeap} {Q : Option Value → mHeap → Prop} {a0 : Nat} {x1 : Int32} {l2 : Option Value} {l3 : Option Value} : Go d 26 2 [some (.ref a0), some (.int x1), l2, l3] [] h Q ↔ okF h a0 1 0 2 ∧ okF h (fR h a0 0) 4 0 2 ∧ okF h (fR h (fR h a0 0) 0) 2 2 0 ∧ (if (fI h (fR h (fR h a0 0) 0) 2) ≤ x1 then (Q none h) else (okF h a0 1 1 2 ∧ okF h (fR h a0 1) 8 1 0 ∧ (if (fI h (fR h a0 1) 1) ≤ ii 0 then (Q none h) else (okF h a0 1 3 2 ∧ oC h (fR h a0 3) = 3 ∧ GoCi d 49 [.ref (fR h a0 3), .int x1] h (fun v1 h1 => (if ¬ v1 = ii 0 then (Go d 26 113 [some (.ref a0), some (.int x1), l2, l3] [] h1 Q) else (okF h1 a0 1 1 2 ∧ okF h1 (fR h1 a0 1) 8 0 2 ∧ oC h1 a0 = 1 ∧ GoCi d 27 [.ref a0] h1 (fun v2 h2 => okF h2 a0 1 1 2 ∧ okF h2 (fR h2 a0 1) 8 1 0 ∧ (¬ (fI h2 (fR h2 a0 1) 1) = ii 0) ∧ okR h2 (fR h1 (fR h1 a0 1) 0) (irm v2 (fI h2 (fR h2 a0 1) 1)) ∧ okF h2 a0 1 3 2 ∧ okF h2 a0 1 0 2 ∧ okF h2 (fR h2 a0 0) 4 0 2 ∧ okF h2 (fR h2 (fR h2 a0 0) 0) 2 5 2 ∧ okA h2 (fR h2 (fR h2 (fR h2 a0 0) 0) 5) .int x1 ∧ oC h2 (fR h2 a0 3) = 3 ∧ GoCi d 50 [.ref (fR h2 a0 3), .int x1, .int (eI h2 (fR h2 (fR h2 (fR h2 a0 0) 0) 5) x1), .ref (eR h2 (fR h1 (fR h1 a0 1) 0) (irm v2 (fI h2 (fR h2 a0 1) 1)))] h2 (fun v3 h3 => (if ¬ v3 = (ii 3) then ((if v3 = (ii 2) then (Go d 26 113 [some (.ref a0), some (.int x1), some (.ref (eR h2 (fR h1 (fR h1 a0 1) 0) (irm v2 (fI h2 (fR h2 a0 1) 1)))), some (.int v3)] [] h3 Q) else (okF h3 a0 1 6 0 ∧ okP h3 a0 1 6 ∧ Go d 26 113 [some (.ref a0), some (.int x1), some (.ref (eR h2 (fR h1 (fR h1 a0 1) 0) (irm v2 (fI h2 (fR h2 a0 1) 1)))), some (.int v3)] [] (sF h3 a0 6 (.int ((fI h3 a0 6) + (ii 1)))) Q))) else (okF h3 a0 1 5 0 ∧ okP h3 a0 1 5 ∧ Go d 26 113 [some (.ref a0), some (.int x1), some (.ref (eR h2 (fR h1 (fR h1 a0 1) 0) (irm v2 (fI h2 (fR h2 a0 1) 1)))), some (.int v3)] [] (sF h3 a0 5 (.int ((fI h3 a0 5) + (ii 1)))) Q))))))))))) := by
  refine (G_iload rfl (mF fc26 (by rfl))).trans ?_
  refine (G_aload rfl (mF fc26 (by rfl))).trans ?_
  refine (G_getR (c := 1) (k := 0) rfl rfl rfl (mF fc26 (by rfl))).trans (andR ?_)
  refine (G_getR (c := 4) (k := 0) rfl rfl rfl (mF fc26 (by rfl))).trans (andR ?_)
  refine (G_getI (c := 2) (k := 2) rfl rfl rfl (mF fc26 (by rfl))).trans (andR ?_)
  refine (G_ige (mF fc26 (by rfl))).trans (gi ?_ ?_)
  ·
    exact G_return rfl (mF fc26 (by rfl))
  ·
    refine (G_aload rfl (mF fc26 (by rfl))).trans ?_
    refine (G_getR (c := 1) (k := 1) rfl rfl rfl (mF fc26 (by rfl))).trans (andR ?_)
    refine (G_getI (c := 8) (k := 1) rfl rfl rfl (mF fc26 (by rfl))).trans (andR ?_)
    refine (G_le (mF fc26 (by rfl))).trans (gi ?_ ?_)
    ·
      exact G_return rfl (mF fc26 (by rfl))
    ·
      refine (G_aload rfl (mF fc26 (by rfl))).trans ?_
      refine (G_getR (c := 1) (k := 3) rfl rfl rfl (mF fc26 (by rfl))).trans (andR ?_)
      refine (G_iload rfl (mF fc26 (by rfl))).trans ?_
      refine (G_Vi (q := 25138) (y := 49) (a := fR h a0 3) (c := 3) rfl rfl rfl rfl (by decide) rfl (as := [.ref (fR h a0 3), .int x1]) (rest := []) rfl rfl (mF fc26 (by rfl))).trans (andR (GoCi_congr fun v1 h1 => ?_))
      refine (G_ne (mF fc26 (by rfl))).trans (gi ?_ ?_)
      ·
        exact Iff.rfl
      ·
        refine (G_aload rfl (mF fc26 (by rfl))).trans ?_
        refine (G_getR (c := 1) (k := 1) rfl rfl rfl (mF fc26 (by rfl))).trans (andR ?_)
        refine (G_getR (c := 8) (k := 0) rfl rfl rfl (mF fc26 (by rfl))).trans (andR ?_)
        refine (G_aload rfl (mF fc26 (by rfl))).trans ?_
        refine (G_Vi (q := 13841) (y := 27) (a := a0) (c := 1) rfl rfl rfl rfl (by decide) rfl (as := [.ref a0]) (rest := [.ref (fR h1 (fR h1 a0 1) 0)]) rfl rfl (mF fc26 (by rfl))).trans (andR (GoCi_congr fun v2 h2 => ?_))
        refine (G_aload rfl (mF fc26 (by rfl))).trans ?_
        refine (G_getR (c := 1) (k := 1) rfl rfl rfl (mF fc26 (by rfl))).trans (andR ?_)
        refine (G_getI (c := 8) (k := 1) rfl rfl rfl (mF fc26 (by rfl))).trans (andR ?_)
        refine (G_irem (mF fc26 (by rfl))).trans (andR ?_)
        refine (G_aaloadR rfl (mF fc26 (by rfl))).trans (andR ?_)
        refine (G_astore (k := 2) (L' := [some (.ref a0), some (.int x1), some (.ref (eR h2 (fR h1 (fR h1 a0 1) 0) (irm v2 (fI h2 (fR h2 a0 1) 1)))), l3]) rfl (ltb rfl) rfl (mF fc26 (by rfl))).trans ?_
        refine (G_aload rfl (mF fc26 (by rfl))).trans ?_
        refine (G_getR (c := 1) (k := 3) rfl rfl rfl (mF fc26 (by rfl))).trans (andR ?_)
        refine (G_iload rfl (mF fc26 (by rfl))).trans ?_
        refine (G_aload rfl (mF fc26 (by rfl))).trans ?_
        refine (G_getR (c := 1) (k := 0) rfl rfl rfl (mF fc26 (by rfl))).trans (andR ?_)
        refine (G_getR (c := 4) (k := 0) rfl rfl rfl (mF fc26 (by rfl))).trans (andR ?_)
        refine (G_getR (c := 2) (k := 5) rfl rfl rfl (mF fc26 (by rfl))).trans (andR ?_)
        refine (G_iload rfl (mF fc26 (by rfl))).trans ?_
        refine (G_iaload (mF fc26 (by rfl))).trans (andR ?_)
        refine (G_aload rfl (mF fc26 (by rfl))).trans ?_
        refine (G_Vi (q := 25652) (y := 50) (a := fR h2 a0 3) (c := 3) rfl rfl rfl rfl (by decide) rfl (as := [.ref (fR h2 a0 3), .int x1, .int (eI h2 (fR h2 (fR h2 (fR h2 a0 0) 0) 5) x1), .ref (eR h2 (fR h1 (fR h1 a0 1) 0) (irm v2 (fI h2 (fR h2 a0 1) 1)))]) (rest := []) rfl rfl (mF fc26 (by rfl))).trans (andR (GoCi_congr fun v3 h3 => ?_))
        refine (G_istore (k := 3) (L' := [some (.ref a0), some (.int x1), some (.ref (eR h2 (fR h1 (fR h1 a0 1) 0) (irm v2 (fI h2 (fR h2 a0 1) 1)))), some (.int v3)]) rfl (ltb rfl) rfl (mF fc26 (by rfl))).trans ?_
        refine (G_iload rfl (mF fc26 (by rfl))).trans ?_
        refine (G_iconst (mF fc26 (by rfl))).trans ?_
        refine (G_ine (mF fc26 (by rfl))).trans (gi ?_ ?_)
        ·
          refine (G_iload rfl (mF fc26 (by rfl))).trans ?_
          refine (G_iconst (mF fc26 (by rfl))).trans ?_
          refine (G_ieq (mF fc26 (by rfl))).trans (gi ?_ ?_)
          ·
            exact Iff.rfl
          ·
            refine (G_aload rfl (mF fc26 (by rfl))).trans ?_
            refine (G_dupr (mF fc26 (by rfl))).trans ?_
            refine (G_getI (c := 1) (k := 6) rfl rfl rfl (mF fc26 (by rfl))).trans (andR ?_)
            refine (G_iconst (mF fc26 (by rfl))).trans ?_
            refine (G_iadd (mF fc26 (by rfl))).trans ?_
            refine (G_putT (c := 1) (k := 6) rfl rfl rfl (mF fc26 (by rfl))).trans (andR ?_)
            exact Iff.rfl
        ·
          refine (G_aload rfl (mF fc26 (by rfl))).trans ?_
          refine (G_dupr (mF fc26 (by rfl))).trans ?_
          refine (G_getI (c := 1) (k := 5) rfl rfl rfl (mF fc26 (by rfl))).trans (andR ?_)
          refine (G_iconst (mF fc26 (by rfl))).trans ?_
          refine (G_iadd (mF fc26 (by rfl))).trans ?_
          refine (G_putT (c := 1) (k := 5) rfl rfl rfl (mF fc26 (by rfl))).trans (andR ?_)
          refine (G_goto (mF fc26 (by rfl))).trans ?_
          exact Iff.rfl
theorem b26_113 {d : Nat} {h : mHeap} {Q : Option Value → mHeap → Prop} {a0 : Nat} {x1 : Int32} {l2 : Option Value} {l3 : Option Value} : Go d 26 113 [some (.ref a0), some (.int x1), l2, l3] [] h Q ↔ Go d 26 2 [some (.ref a0), some (.int (x1 + ii 1)), l2, l3] [] h Q := by
  refine (G_iinc (k := 1) (L' := [some (.ref a0), some (.int (x1 + ii 1)), l2, l3]) rfl rfl rfl (mF fc26 (by rfl))).trans ?_
  refine (G_goto (mF fc26 (by rfl))).trans ?_
  exact Iff.rfl
theorem e26 {d : Nat} {h : mHeap} {K : mHeap → Prop} {a0 : Nat} : GoCv (d + 1) 26 [.ref a0] h K ↔ Go d 26 0 [some (.ref a0), none, none, none] [] h (rV K) := GoCv_entry rfl rfl
set_option maxRecDepth 20000 in
theorem fc27 : mCodes[27]? = some mc27 := rfl
theorem b27_0 {d : Nat} {h : mHeap} {Q : Option Value → mHeap → Prop} {a0 : Nat} : Go d 27 0 [some (.ref a0)] [] h Q ↔ okF h a0 1 4 0 ∧ okP h a0 1 4 ∧ okF (sF h a0 4 (.int ((((((fI h a0 4).toInt64) * (jj 1103515245)) + (jj 12345)) &&& (jj 2147483647)).toInt32))) a0 1 4 0 ∧ (¬ (ii 65536) = ii 0) ∧ Q (some (.int ((fI (sF h a0 4 (.int ((((((fI h a0 4).toInt64) * (jj 1103515245)) + (jj 12345)) &&& (jj 2147483647)).toInt32))) a0 4) / (ii 65536)))) (sF h a0 4 (.int ((((((fI h a0 4).toInt64) * (jj 1103515245)) + (jj 12345)) &&& (jj 2147483647)).toInt32))) := by
  refine (G_aload rfl (mF fc27 (by rfl))).trans ?_
  refine (G_aload rfl (mF fc27 (by rfl))).trans ?_
  refine (G_getI (c := 1) (k := 4) rfl rfl rfl (mF fc27 (by rfl))).trans (andR ?_)
  refine (G_i2l (mF fc27 (by rfl))).trans ?_
  refine (G_jsr_w (mF fc27 (by rfl))).trans ?_
  refine (G_lmul (mF fc27 (by rfl))).trans ?_
  refine (G_jsr_w (mF fc27 (by rfl))).trans ?_
  refine (G_ladd (mF fc27 (by rfl))).trans ?_
  refine (G_jsr_w (mF fc27 (by rfl))).trans ?_
  refine (G_land (mF fc27 (by rfl))).trans ?_
  refine (G_l2i (mF fc27 (by rfl))).trans ?_
  refine (G_putT (c := 1) (k := 4) rfl rfl rfl (mF fc27 (by rfl))).trans (andR ?_)
  refine (G_aload rfl (mF fc27 (by rfl))).trans ?_
  refine (G_getI (c := 1) (k := 4) rfl rfl rfl (mF fc27 (by rfl))).trans (andR ?_)
  refine (G_iconst (mF fc27 (by rfl))).trans ?_
  refine (G_idiv (mF fc27 (by rfl))).trans (andR ?_)
  exact G_ireturnI rfl (mF fc27 (by rfl))
theorem e27 {d : Nat} {h : mHeap} {K : Int32 → mHeap → Prop} {a0 : Nat} : GoCi (d + 1) 27 [.ref a0] h K ↔ Go d 27 0 [some (.ref a0)] [] h (rI K) := GoCi_entry rfl rfl
set_option maxRecDepth 20000 in
theorem fc28 : mCodes[28]? = some mc28 := rfl
theorem b28_0 {d : Nat} {h : mHeap} {Q : Option Value → mHeap → Prop} {a0 : Nat} {a1 : Nat} {x2 : Int32} : Go d 28 0 [some (.ref a0), some (.ref a1), some (.int x2), none, none, none, none] [] h Q ↔ okF h a0 1 0 2 ∧ okF h (fR h a0 0) 4 1 2 ∧ okF h (fR h (fR h a0 0) 1) 3 0 0 ∧ okF h (fR h (fR h a0 0) 1) 3 1 0 ∧ okF h (fR h (fR h a0 0) 1) 3 0 0 ∧ Go d 28 32 [some (.ref a0), some (.ref a1), some (.int x2), some (.ref (fR h (fR h a0 0) 1)), some (.int (if x2 < (fI h (fR h (fR h a0 0) 1) 0) then (fI h (fR h (fR h a0 0) 1) 0) else x2)), some (.int (fI h (fR h (fR h a0 0) 1) 1)), some (.int ((fI h (fR h (fR h a0 0) 1) 0) + (ii 1)))] [] h Q := by
  refine (G_aload rfl (mF fc28 (by rfl))).trans ?_
  refine (G_getR (c := 1) (k := 0) rfl rfl rfl (mF fc28 (by rfl))).trans (andR ?_)
  refine (G_getR (c := 4) (k := 1) rfl rfl rfl (mF fc28 (by rfl))).trans (andR ?_)
  refine (G_astore (k := 3) (L' := [some (.ref a0), some (.ref a1), some (.int x2), some (.ref (fR h (fR h a0 0) 1)), none, none, none]) rfl (ltb rfl) rfl (mF fc28 (by rfl))).trans ?_
  refine (G_iload rfl (mF fc28 (by rfl))).trans ?_
  refine (G_aload rfl (mF fc28 (by rfl))).trans ?_
  refine (G_getI (c := 3) (k := 0) rfl rfl rfl (mF fc28 (by rfl))).trans (andR ?_)
  refine (G_max (Nat.le_of_ble_eq_true rfl) (mF fc28 (by rfl))).trans ?_
  refine (G_istore (k := 4) (L' := [some (.ref a0), some (.ref a1), some (.int x2), some (.ref (fR h (fR h a0 0) 1)), some (.int (if x2 < (fI h (fR h (fR h a0 0) 1) 0) then (fI h (fR h (fR h a0 0) 1) 0) else x2)), none, none]) rfl (ltb rfl) rfl (mF fc28 (by rfl))).trans ?_
  refine (G_aload rfl (mF fc28 (by rfl))).trans ?_
  refine (G_getI (c := 3) (k := 1) rfl rfl rfl (mF fc28 (by rfl))).trans (andR ?_)
  refine (G_istore (k := 5) (L' := [some (.ref a0), some (.ref a1), some (.int x2), some (.ref (fR h (fR h a0 0) 1)), some (.int (if x2 < (fI h (fR h (fR h a0 0) 1) 0) then (fI h (fR h (fR h a0 0) 1) 0) else x2)), some (.int (fI h (fR h (fR h a0 0) 1) 1)), none]) rfl (ltb rfl) rfl (mF fc28 (by rfl))).trans ?_
  refine (G_aload rfl (mF fc28 (by rfl))).trans ?_
  refine (G_getI (c := 3) (k := 0) rfl rfl rfl (mF fc28 (by rfl))).trans (andR ?_)
  refine (G_iconst (mF fc28 (by rfl))).trans ?_
  refine (G_iadd (mF fc28 (by rfl))).trans ?_
  refine (G_istore (k := 6) (L' := [some (.ref a0), some (.ref a1), some (.int x2), some (.ref (fR h (fR h a0 0) 1)), some (.int (if x2 < (fI h (fR h (fR h a0 0) 1) 0) then (fI h (fR h (fR h a0 0) 1) 0) else x2)), some (.int (fI h (fR h (fR h a0 0) 1) 1)), some (.int ((fI h (fR h (fR h a0 0) 1) 0) + (ii 1)))]) rfl (ltb rfl) rfl (mF fc28 (by rfl))).trans ?_
  exact Iff.rfl
theorem b28_32 {d : Nat} {h : mHeap} {Q : Option Value → mHeap → Prop} {a0 : Nat} {a1 : Nat} {l2 : Option Value} {l3 : Option Value} {x4 : Int32} {x5 : Int32} {x6 : Int32} : Go d 28 32 [some (.ref a0), some (.ref a1), l2, l3, some (.int x4), some (.int x5), some (.int x6)] [] h Q ↔ (if x4 < x6 then (Go d 28 69 [some (.ref a0), some (.ref a1), l2, l3, some (.int x4), some (.int x5), some (.int x6)] [] h Q) else ((if (ii 99) < x6 then (Go d 28 69 [some (.ref a0), some (.ref a1), l2, l3, some (.int x4), some (.int x5), some (.int x6)] [] h Q) else (okF h a0 1 0 2 ∧ okF h (fR h a0 0) 4 0 2 ∧ oC h (fR h (fR h a0 0) 0) = 2 ∧ GoCi d 42 [.ref (fR h (fR h a0 0) 0), .int x6] h (fun v1 h1 => Go d 28 32 [some (.ref a0), some (.ref a1), l2, l3, some (.int x4), some (.int (x5 ^^^ v1)), some (.int (x6 + ii 1))] [] h1 Q))))) := by
  refine (G_iload rfl (mF fc28 (by rfl))).trans ?_
  refine (G_iload rfl (mF fc28 (by rfl))).trans ?_
  refine (G_igt (mF fc28 (by rfl))).trans (gi ?_ ?_)
  ·
    exact Iff.rfl
  ·
    refine (G_iload rfl (mF fc28 (by rfl))).trans ?_
    refine (G_iconst (mF fc28 (by rfl))).trans ?_
    refine (G_igt (mF fc28 (by rfl))).trans (gi ?_ ?_)
    ·
      exact Iff.rfl
    ·
      refine (G_iload rfl (mF fc28 (by rfl))).trans ?_
      refine (G_aload rfl (mF fc28 (by rfl))).trans ?_
      refine (G_getR (c := 1) (k := 0) rfl rfl rfl (mF fc28 (by rfl))).trans (andR ?_)
      refine (G_getR (c := 4) (k := 0) rfl rfl rfl (mF fc28 (by rfl))).trans (andR ?_)
      refine (G_iload rfl (mF fc28 (by rfl))).trans ?_
      refine (G_Vi (q := 21538) (y := 42) (a := fR h (fR h a0 0) 0) (c := 2) rfl rfl rfl rfl (by decide) rfl (as := [.ref (fR h (fR h a0 0) 0), .int x6]) (rest := [.int x5]) rfl rfl (mF fc28 (by rfl))).trans (andR (GoCi_congr fun v1 h1 => ?_))
      refine (G_ixor (mF fc28 (by rfl))).trans ?_
      refine (G_istore (k := 5) (L' := [some (.ref a0), some (.ref a1), l2, l3, some (.int x4), some (.int (x5 ^^^ v1)), some (.int x6)]) rfl (ltb rfl) rfl (mF fc28 (by rfl))).trans ?_
      refine (G_iinc (k := 6) (L' := [some (.ref a0), some (.ref a1), l2, l3, some (.int x4), some (.int (x5 ^^^ v1)), some (.int (x6 + ii 1))]) rfl rfl rfl (mF fc28 (by rfl))).trans ?_
      refine (G_goto (mF fc28 (by rfl))).trans ?_
      exact Iff.rfl
theorem b28_69 {d : Nat} {h : mHeap} {Q : Option Value → mHeap → Prop} {a0 : Nat} {a1 : Nat} {l2 : Option Value} {l3 : Option Value} {x4 : Int32} {x5 : Int32} {l6 : Option Value} : Go d 28 69 [some (.ref a0), some (.ref a1), l2, l3, some (.int x4), some (.int x5), l6] [] h Q ↔ Go d 28 73 [some (.ref a0), some (.ref a1), l2, l3, some (.int x4), some (.int x5), some (.int x4)] [] h Q := by
  refine (G_iload rfl (mF fc28 (by rfl))).trans ?_
  refine (G_istore (k := 6) (L' := [some (.ref a0), some (.ref a1), l2, l3, some (.int x4), some (.int x5), some (.int x4)]) rfl (ltb rfl) rfl (mF fc28 (by rfl))).trans ?_
  exact Iff.rfl
theorem b28_73 {d : Nat} {h : mHeap} {Q : Option Value → mHeap → Prop} {a0 : Nat} {a1 : Nat} {l2 : Option Value} {l3 : Option Value} {x4 : Int32} {x5 : Int32} {x6 : Int32} : Go d 28 73 [some (.ref a0), some (.ref a1), l2, l3, some (.int x4), some (.int x5), some (.int x6)] [] h Q ↔ (if (x4 + (ii 100)) ≤ x6 then (Q (some (.int (ii (-2)))) h) else ((if x6 ≤ x4 then (Go d 28 107 [some (.ref a0), some (.ref a1), l2, l3, some (.int x4), some (.int x5), some (.int x6)] [] h Q) else (okF h a0 1 0 2 ∧ okF h (fR h a0 0) 4 0 2 ∧ oC h (fR h (fR h a0 0) 0) = 2 ∧ GoCi d 42 [.ref (fR h (fR h a0 0) 0), .int x6] h (fun v1 h1 => Go d 28 107 [some (.ref a0), some (.ref a1), l2, l3, some (.int x4), some (.int (x5 ^^^ v1)), some (.int x6)] [] h1 Q))))) := by
  refine (G_iload rfl (mF fc28 (by rfl))).trans ?_
  refine (G_iload rfl (mF fc28 (by rfl))).trans ?_
  refine (G_iconst (mF fc28 (by rfl))).trans ?_
  refine (G_iadd (mF fc28 (by rfl))).trans ?_
  refine (G_ige (mF fc28 (by rfl))).trans (gi ?_ ?_)
  ·
    refine (G_iconst (mF fc28 (by rfl))).trans ?_
    exact G_ireturnI rfl (mF fc28 (by rfl))
  ·
    refine (G_iload rfl (mF fc28 (by rfl))).trans ?_
    refine (G_iload rfl (mF fc28 (by rfl))).trans ?_
    refine (G_ile (mF fc28 (by rfl))).trans (gi ?_ ?_)
    ·
      exact Iff.rfl
    ·
      refine (G_iload rfl (mF fc28 (by rfl))).trans ?_
      refine (G_aload rfl (mF fc28 (by rfl))).trans ?_
      refine (G_getR (c := 1) (k := 0) rfl rfl rfl (mF fc28 (by rfl))).trans (andR ?_)
      refine (G_getR (c := 4) (k := 0) rfl rfl rfl (mF fc28 (by rfl))).trans (andR ?_)
      refine (G_iload rfl (mF fc28 (by rfl))).trans ?_
      refine (G_Vi (q := 21538) (y := 42) (a := fR h (fR h a0 0) 0) (c := 2) rfl rfl rfl rfl (by decide) rfl (as := [.ref (fR h (fR h a0 0) 0), .int x6]) (rest := [.int x5]) rfl rfl (mF fc28 (by rfl))).trans (andR (GoCi_congr fun v1 h1 => ?_))
      refine (G_ixor (mF fc28 (by rfl))).trans ?_
      refine (G_istore (k := 5) (L' := [some (.ref a0), some (.ref a1), l2, l3, some (.int x4), some (.int (x5 ^^^ v1)), some (.int x6)]) rfl (ltb rfl) rfl (mF fc28 (by rfl))).trans ?_
      exact Iff.rfl
theorem b28_107 {d : Nat} {h : mHeap} {Q : Option Value → mHeap → Prop} {a0 : Nat} {a1 : Nat} {l2 : Option Value} {l3 : Option Value} {x4 : Int32} {x5 : Int32} {x6 : Int32} : Go d 28 107 [some (.ref a0), some (.ref a1), l2, l3, some (.int x4), some (.int x5), some (.int x6)] [] h Q ↔ oC h a1 = 10 ∧ GoCi d 130 [.ref a1, .int x5] h (fun v1 h1 => (if v1 = ii 0 then (Go d 28 73 [some (.ref a0), some (.ref a1), l2, l3, some (.int x4), some (.int x5), some (.int (x6 + ii 1))] [] h1 Q) else (Q (some (.int x6)) h1))) := by
  refine (G_aload rfl (mF fc28 (by rfl))).trans ?_
  refine (G_iload rfl (mF fc28 (by rfl))).trans ?_
  refine (G_Vi (q := 66722) (y := 130) (a := a1) (c := 10) rfl rfl rfl rfl (by decide) rfl (as := [.ref a1, .int x5]) (rest := []) rfl rfl (mF fc28 (by rfl))).trans (andR (GoCi_congr fun v1 h1 => ?_))
  refine (G_eq (mF fc28 (by rfl))).trans (gi ?_ ?_)
  ·
    refine (G_iinc (k := 6) (L' := [some (.ref a0), some (.ref a1), l2, l3, some (.int x4), some (.int x5), some (.int (x6 + ii 1))]) rfl rfl rfl (mF fc28 (by rfl))).trans ?_
    refine (G_goto (mF fc28 (by rfl))).trans ?_
    exact Iff.rfl
  ·
    refine (G_iload rfl (mF fc28 (by rfl))).trans ?_
    exact G_ireturnI rfl (mF fc28 (by rfl))
theorem e28 {d : Nat} {h : mHeap} {K : Int32 → mHeap → Prop} {a0 : Nat} {a1 : Nat} {x2 : Int32} : GoCi (d + 1) 28 [.ref a0, .ref a1, .int x2] h K ↔ Go d 28 0 [some (.ref a0), some (.ref a1), some (.int x2), none, none, none, none] [] h (rI K) := GoCi_entry rfl rfl
