set_option maxRecDepth 20000 in
theorem fc63 : mCodes[63]? = some mc63 := rfl
theorem b63_0 {d : Nat} {h : mHeap} {Q : Option Value → mHeap → Prop} {a0 : Nat} {a1 : Nat} {x2 : Int32} {a3 : Nat} {a4 : Nat} : Go d 63 0 [some (.ref a0), some (.ref a1), some (.int x2), some (.ref a3), some (.ref a4)] [] h Q ↔ 64 ≤ a0 ∧ okN (ii 26) ∧ (∃ h1 : mHeap, h1 = nJ h (ii 26) ∧ okP h1 a0 5 4 ∧ okP (sF h1 a0 4 (.ref h.length)) a0 5 0 ∧ okP (sF (sF h1 a0 4 (.ref h.length)) a0 0 (.ref a1)) a0 5 1 ∧ okP (sF (sF (sF h1 a0 4 (.ref h.length)) a0 0 (.ref a1)) a0 1 (.int x2)) a0 5 2 ∧ okP (sF (sF (sF (sF h1 a0 4 (.ref h.length)) a0 0 (.ref a1)) a0 1 (.int x2)) a0 2 (.ref a3)) a0 5 3 ∧ Q none (sF (sF (sF (sF (sF h1 a0 4 (.ref h.length)) a0 0 (.ref a1)) a0 1 (.int x2)) a0 2 (.ref a3)) a0 3 (.ref a4))) := by
  refine (G_aload rfl (mF fc63 (by rfl))).trans ?_
  refine (G_objinit (Nat.le_of_ble_eq_true rfl) (mF fc63 (by rfl))).trans (andR ?_)
  refine (G_aload rfl (mF fc63 (by rfl))).trans ?_
  refine (G_iconst (mF fc63 (by rfl))).trans ?_
  refine (G_newarrayJ (mF fc63 (by rfl))).trans (andR ?_)
  refine (exN (A := fun x => Go d 63 9 [some (.ref a0), some (.ref a1), some (.int x2), some (.ref a3), some (.ref a4)] [.ref h.length, .ref a0] x Q) (e := nJ h (ii 26)) fun h1 => ?_)
  refine (G_putT (c := 5) (k := 4) rfl rfl rfl (mF fc63 (by rfl))).trans (andR ?_)
  refine (G_aload rfl (mF fc63 (by rfl))).trans ?_
  refine (G_aload rfl (mF fc63 (by rfl))).trans ?_
  refine (G_putT (c := 5) (k := 0) rfl rfl rfl (mF fc63 (by rfl))).trans (andR ?_)
  refine (G_aload rfl (mF fc63 (by rfl))).trans ?_
  refine (G_iload rfl (mF fc63 (by rfl))).trans ?_
  refine (G_putT (c := 5) (k := 1) rfl rfl rfl (mF fc63 (by rfl))).trans (andR ?_)
  refine (G_aload rfl (mF fc63 (by rfl))).trans ?_
  refine (G_aload rfl (mF fc63 (by rfl))).trans ?_
  refine (G_putT (c := 5) (k := 2) rfl rfl rfl (mF fc63 (by rfl))).trans (andR ?_)
  refine (G_aload rfl (mF fc63 (by rfl))).trans ?_
  refine (G_aload rfl (mF fc63 (by rfl))).trans ?_
  refine (G_putT (c := 5) (k := 3) rfl rfl rfl (mF fc63 (by rfl))).trans (andR ?_)
  exact G_return rfl (mF fc63 (by rfl))
theorem e63 {d : Nat} {h : mHeap} {K : mHeap → Prop} {a0 : Nat} {a1 : Nat} {x2 : Int32} {a3 : Nat} {a4 : Nat} : GoCv (d + 1) 63 [.ref a0, .ref a1, .int x2, .ref a3, .ref a4] h K ↔ Go d 63 0 [some (.ref a0), some (.ref a1), some (.int x2), some (.ref a3), some (.ref a4)] [] h (rV K) := GoCv_entry rfl rfl
set_option maxRecDepth 20000 in
theorem fc64 : mCodes[64]? = some mc64 := rfl
theorem b64_0 {d : Nat} {h : mHeap} {Q : Option Value → mHeap → Prop} {a0 : Nat} {a1 : Nat} : Go d 64 0 [some (.ref a0), some (.ref a1), none, none, none] [] h Q ↔ Go d 64 2 [some (.ref a0), some (.ref a1), some (.int (ii 0)), none, none] [] h Q := by
  refine (G_iconst (mF fc64 (by rfl))).trans ?_
  refine (G_istore (k := 2) (L' := [some (.ref a0), some (.ref a1), some (.int (ii 0)), none, none]) rfl (ltb rfl) rfl (mF fc64 (by rfl))).trans ?_
  exact Iff.rfl
theorem b64_2 {d : Nat} {h : mHeap} {Q : Option Value → mHeap → Prop} {a0 : Nat} {a1 : Nat} {x2 : Int32} {l3 : Option Value} {l4 : Option Value} : Go d 64 2 [some (.ref a0), some (.ref a1), some (.int x2), l3, l4] [] h Q ↔ okF h a0 5 1 0 ∧ (if (fI h a0 1) ≤ x2 then (Q (some (.long (jj 0))) h) else (okF h a0 5 3 2 ∧ okA h (fR h a0 3) .int x2 ∧ okF h a0 5 2 2 ∧ okA h (fR h a0 2) .int (x2 + (ii 1)) ∧ (if (eI h (fR h a0 3) x2) = (eI h (fR h a0 2) (x2 + (ii 1))) then (Go d 64 46 [some (.ref a0), some (.ref a1), some (.int x2), some (.int (eI h (fR h a0 3) x2)), some (.int (eI h (fR h a0 2) (x2 + (ii 1))))] [] h Q) else (oC h a0 = 5 ∧ GoCj d 65 [.ref a0, .int (eI h (fR h a0 3) x2), .int (eI h (fR h a0 2) (x2 + (ii 1))), .ref a1] h (fun v1 h1 => (if (lg_cmp v1 (jj 0)) = ii 0 then (Go d 64 2 [some (.ref a0), some (.ref a1), some (.int (x2 + ii 1)), some (.int (eI h (fR h a0 3) x2)), some (.int (eI h (fR h a0 2) (x2 + (ii 1))))] [] h1 Q) else (Go d 64 46 [some (.ref a0), some (.ref a1), some (.int x2), some (.int (eI h (fR h a0 3) x2)), some (.int (eI h (fR h a0 2) (x2 + (ii 1))))] [] h1 Q))))))) := by
  refine (G_iload rfl (mF fc64 (by rfl))).trans ?_
  refine (G_aload rfl (mF fc64 (by rfl))).trans ?_
  refine (G_getI (c := 5) (k := 1) rfl rfl rfl (mF fc64 (by rfl))).trans (andR ?_)
  refine (G_ige (mF fc64 (by rfl))).trans (gi ?_ ?_)
  ·
    refine (G_jsr_w (mF fc64 (by rfl))).trans ?_
    exact G_lreturn rfl (mF fc64 (by rfl))
  ·
    refine (G_aload rfl (mF fc64 (by rfl))).trans ?_
    refine (G_getR (c := 5) (k := 3) rfl rfl rfl (mF fc64 (by rfl))).trans (andR ?_)
    refine (G_iload rfl (mF fc64 (by rfl))).trans ?_
    refine (G_iaload (mF fc64 (by rfl))).trans (andR ?_)
    refine (G_istore (k := 3) (L' := [some (.ref a0), some (.ref a1), some (.int x2), some (.int (eI h (fR h a0 3) x2)), l4]) rfl (ltb rfl) rfl (mF fc64 (by rfl))).trans ?_
    refine (G_aload rfl (mF fc64 (by rfl))).trans ?_
    refine (G_getR (c := 5) (k := 2) rfl rfl rfl (mF fc64 (by rfl))).trans (andR ?_)
    refine (G_iload rfl (mF fc64 (by rfl))).trans ?_
    refine (G_iconst (mF fc64 (by rfl))).trans ?_
    refine (G_iadd (mF fc64 (by rfl))).trans ?_
    refine (G_iaload (mF fc64 (by rfl))).trans (andR ?_)
    refine (G_istore (k := 4) (L' := [some (.ref a0), some (.ref a1), some (.int x2), some (.int (eI h (fR h a0 3) x2)), some (.int (eI h (fR h a0 2) (x2 + (ii 1))))]) rfl (ltb rfl) rfl (mF fc64 (by rfl))).trans ?_
    refine (G_iload rfl (mF fc64 (by rfl))).trans ?_
    refine (G_iload rfl (mF fc64 (by rfl))).trans ?_
    refine (G_ieq (mF fc64 (by rfl))).trans (gi ?_ ?_)
    ·
      exact Iff.rfl
    ·
      refine (G_aload rfl (mF fc64 (by rfl))).trans ?_
      refine (G_iload rfl (mF fc64 (by rfl))).trans ?_
      refine (G_iload rfl (mF fc64 (by rfl))).trans ?_
      refine (G_aload rfl (mF fc64 (by rfl))).trans ?_
      refine (G_Vj (q := 33364) (y := 65) (a := a0) (c := 5) rfl rfl rfl rfl (by decide) rfl (as := [.ref a0, .int (eI h (fR h a0 3) x2), .int (eI h (fR h a0 2) (x2 + (ii 1))), .ref a1]) (rest := []) rfl rfl (mF fc64 (by rfl))).trans (andR (GoCj_congr fun v1 h1 => ?_))
      refine (G_jsr_w (mF fc64 (by rfl))).trans ?_
      refine (G_lcmp (mF fc64 (by rfl))).trans ?_
      refine (G_eq (mF fc64 (by rfl))).trans (gi ?_ ?_)
      ·
        refine (G_iinc (k := 2) (L' := [some (.ref a0), some (.ref a1), some (.int (x2 + ii 1)), some (.int (eI h (fR h a0 3) x2)), some (.int (eI h (fR h a0 2) (x2 + (ii 1))))]) rfl rfl rfl (mF fc64 (by rfl))).trans ?_
        refine (G_goto (mF fc64 (by rfl))).trans ?_
        exact Iff.rfl
      ·
        exact Iff.rfl
theorem b64_46 {d : Nat} {h : mHeap} {Q : Option Value → mHeap → Prop} {a0 : Nat} {a1 : Nat} {x2 : Int32} {x3 : Int32} {l4 : Option Value} : Go d 64 46 [some (.ref a0), some (.ref a1), some (.int x2), some (.int x3), l4] [] h Q ↔ okF h a0 5 2 2 ∧ okA h (fR h a0 2) .int x2 ∧ oC h a0 = 5 ∧ GoCj d 65 [.ref a0, .int (eI h (fR h a0 2) x2), .int x3, .ref a1] h (fun v1 h1 => Q (some (.long v1)) h1) := by
  refine (G_aload rfl (mF fc64 (by rfl))).trans ?_
  refine (G_aload rfl (mF fc64 (by rfl))).trans ?_
  refine (G_getR (c := 5) (k := 2) rfl rfl rfl (mF fc64 (by rfl))).trans (andR ?_)
  refine (G_iload rfl (mF fc64 (by rfl))).trans ?_
  refine (G_iaload (mF fc64 (by rfl))).trans (andR ?_)
  refine (G_iload rfl (mF fc64 (by rfl))).trans ?_
  refine (G_aload rfl (mF fc64 (by rfl))).trans ?_
  refine (G_Vj (q := 33364) (y := 65) (a := a0) (c := 5) rfl rfl rfl rfl (by decide) rfl (as := [.ref a0, .int (eI h (fR h a0 2) x2), .int x3, .ref a1]) (rest := []) rfl rfl (mF fc64 (by rfl))).trans (andR (GoCj_congr fun v1 h1 => ?_))
  exact G_lreturn rfl (mF fc64 (by rfl))
theorem e64 {d : Nat} {h : mHeap} {K : Int64 → mHeap → Prop} {a0 : Nat} {a1 : Nat} : GoCj (d + 1) 64 [.ref a0, .ref a1] h K ↔ Go d 64 0 [some (.ref a0), some (.ref a1), none, none, none] [] h (rJ K) := GoCj_entry rfl rfl
set_option maxRecDepth 20000 in
theorem fc65 : mCodes[65]? = some mc65 := rfl
theorem b65_0 {d : Nat} {h : mHeap} {Q : Option Value → mHeap → Prop} {a0 : Nat} {x1 : Int32} {x2 : Int32} {a3 : Nat} : Go d 65 0 [some (.ref a0), some (.int x1), some (.int x2), some (.ref a3), none, none, none, none] [] h Q ↔ Go d 65 6 [some (.ref a0), some (.int x1), some (.int x2), some (.ref a3), some (.int (ii 0)), some (.int x1), none, none] [] h Q := by
  refine (G_iconst (mF fc65 (by rfl))).trans ?_
  refine (G_istore (k := 4) (L' := [some (.ref a0), some (.int x1), some (.int x2), some (.ref a3), some (.int (ii 0)), none, none, none]) rfl (ltb rfl) rfl (mF fc65 (by rfl))).trans ?_
  refine (G_iload rfl (mF fc65 (by rfl))).trans ?_
  refine (G_istore (k := 5) (L' := [some (.ref a0), some (.int x1), some (.int x2), some (.ref a3), some (.int (ii 0)), some (.int x1), none, none]) rfl (ltb rfl) rfl (mF fc65 (by rfl))).trans ?_
  exact Iff.rfl
theorem b65_6 {d : Nat} {h : mHeap} {Q : Option Value → mHeap → Prop} {a0 : Nat} {l1 : Option Value} {x2 : Int32} {a3 : Nat} {x4 : Int32} {x5 : Int32} {l6 : Option Value} {l7 : Option Value} : Go d 65 6 [some (.ref a0), l1, some (.int x2), some (.ref a3), some (.int x4), some (.int x5), l6, l7] [] h Q ↔ (if x2 ≤ x5 then (okF h a0 5 4 2 ∧ okJ h (fR h a0 4) (ii 0) ∧ Q (some (.long (eJ h (fR h a0 4) (ii 0)))) h) else (okF h a0 5 0 2 ∧ okA h (fR h a0 0) .int x5 ∧ (if ¬ (eI h (fR h a0 0) x5) = (ii 314) then ((if (ii 1000) ≤ (eI h (fR h a0 0) x5) then (Go d 65 88 [some (.ref a0), l1, some (.int x2), some (.ref a3), some (.int x4), some (.int x5), some (.int (eI h (fR h a0 0) x5)), some (.int ((eI h (fR h a0 0) x5) - (ii 304)))] [] h Q) else ((if ((eI h (fR h a0 0) x5) - (ii 304)) < ii 0 then (Go d 65 132 [some (.ref a0), l1, some (.int x2), some (.ref a3), some (.int x4), some (.int x5), some (.int (eI h (fR h a0 0) x5)), some (.int ((eI h (fR h a0 0) x5) - (ii 304)))] [] h Q) else (okL h a3 ∧ (if (ii (nL h a3)) ≤ ((eI h (fR h a0 0) x5) - (ii 304)) then (Go d 65 132 [some (.ref a0), l1, some (.int x2), some (.ref a3), some (.int x4), some (.int x5), some (.int (eI h (fR h a0 0) x5)), some (.int ((eI h (fR h a0 0) x5) - (ii 304)))] [] h Q) else (Go d 65 88 [some (.ref a0), l1, some (.int x2), some (.ref a3), some (.int x4), some (.int x5), some (.int (eI h (fR h a0 0) x5)), some (.int ((eI h (fR h a0 0) x5) - (ii 304)))] [] h Q))))))) else ((if (ii 1) ≤ x4 then (okF h a0 5 4 2 ∧ okF h a0 5 4 2 ∧ okJ h (fR h a0 4) (x4 - (ii 1)) ∧ (64 ≤ (fR h a0 4) ∧ okJ h (fR h a0 4) (x4 - (ii 1))) ∧ Go d 65 173 [some (.ref a0), l1, some (.int x2), some (.ref a3), some (.int x4), some (.int x5), some (.int (eI h (fR h a0 0) x5)), some (.int ((eI h (fR h a0 0) x5) - (ii 304)))] [] (sJ h (fR h a0 4) (x4 - (ii 1)) ((jj 1) - (eJ h (fR h a0 4) (x4 - (ii 1))))) Q) else (Q (some (.long (jj 0))) h)))))) := by
  refine (G_iload rfl (mF fc65 (by rfl))).trans ?_
  refine (G_iload rfl (mF fc65 (by rfl))).trans ?_
  refine (G_ige (mF fc65 (by rfl))).trans (gi ?_ ?_)
  ·
    refine (G_aload rfl (mF fc65 (by rfl))).trans ?_
    refine (G_getR (c := 5) (k := 4) rfl rfl rfl (mF fc65 (by rfl))).trans (andR ?_)
    refine (G_iconst (mF fc65 (by rfl))).trans ?_
    refine (G_laload (mF fc65 (by rfl))).trans (andR ?_)
    exact G_lreturn rfl (mF fc65 (by rfl))
  ·
    refine (G_aload rfl (mF fc65 (by rfl))).trans ?_
    refine (G_getR (c := 5) (k := 0) rfl rfl rfl (mF fc65 (by rfl))).trans (andR ?_)
    refine (G_iload rfl (mF fc65 (by rfl))).trans ?_
    refine (G_iaload (mF fc65 (by rfl))).trans (andR ?_)
    refine (G_istore (k := 6) (L' := [some (.ref a0), l1, some (.int x2), some (.ref a3), some (.int x4), some (.int x5), some (.int (eI h (fR h a0 0) x5)), l7]) rfl (ltb rfl) rfl (mF fc65 (by rfl))).trans ?_
    refine (G_iload rfl (mF fc65 (by rfl))).trans ?_
    refine (G_iconst (mF fc65 (by rfl))).trans ?_
    refine (G_isub (mF fc65 (by rfl))).trans ?_
    refine (G_istore (k := 7) (L' := [some (.ref a0), l1, some (.int x2), some (.ref a3), some (.int x4), some (.int x5), some (.int (eI h (fR h a0 0) x5)), some (.int ((eI h (fR h a0 0) x5) - (ii 304)))]) rfl (ltb rfl) rfl (mF fc65 (by rfl))).trans ?_
    refine (G_iload rfl (mF fc65 (by rfl))).trans ?_
    refine (G_iconst (mF fc65 (by rfl))).trans ?_
    refine (G_ine (mF fc65 (by rfl))).trans (gi ?_ ?_)
    ·
      refine (G_iload rfl (mF fc65 (by rfl))).trans ?_
      refine (G_iconst (mF fc65 (by rfl))).trans ?_
      refine (G_ige (mF fc65 (by rfl))).trans (gi ?_ ?_)
      ·
        exact Iff.rfl
      ·
        refine (G_iload rfl (mF fc65 (by rfl))).trans ?_
        refine (G_lt (mF fc65 (by rfl))).trans (gi ?_ ?_)
        ·
          exact Iff.rfl
        ·
          refine (G_iload rfl (mF fc65 (by rfl))).trans ?_
          refine (G_aload rfl (mF fc65 (by rfl))).trans ?_
          refine (G_arraylength (mF fc65 (by rfl))).trans (andR ?_)
          refine (G_ige (mF fc65 (by rfl))).trans (gi ?_ ?_)
          ·
            exact Iff.rfl
          ·
            exact Iff.rfl
    ·
      refine (G_iload rfl (mF fc65 (by rfl))).trans ?_
      refine (G_iconst (mF fc65 (by rfl))).trans ?_
      refine (G_ige (mF fc65 (by rfl))).trans (gi ?_ ?_)
      ·
        refine (G_aload rfl (mF fc65 (by rfl))).trans ?_
        refine (G_getR (c := 5) (k := 4) rfl rfl rfl (mF fc65 (by rfl))).trans (andR ?_)
        refine (G_iload rfl (mF fc65 (by rfl))).trans ?_
        refine (G_iconst (mF fc65 (by rfl))).trans ?_
        refine (G_isub (mF fc65 (by rfl))).trans ?_
        refine (G_jsr_w (mF fc65 (by rfl))).trans ?_
        refine (G_aload rfl (mF fc65 (by rfl))).trans ?_
        refine (G_getR (c := 5) (k := 4) rfl rfl rfl (mF fc65 (by rfl))).trans (andR ?_)
        refine (G_iload rfl (mF fc65 (by rfl))).trans ?_
        refine (G_iconst (mF fc65 (by rfl))).trans ?_
        refine (G_isub (mF fc65 (by rfl))).trans ?_
        refine (G_laload (mF fc65 (by rfl))).trans (andR ?_)
        refine (G_lsub (mF fc65 (by rfl))).trans ?_
        refine (G_lastore (mF fc65 (by rfl))).trans (andR ?_)
        refine (G_goto (mF fc65 (by rfl))).trans ?_
        exact Iff.rfl
      ·
        refine (G_jsr_w (mF fc65 (by rfl))).trans ?_
        exact G_lreturn rfl (mF fc65 (by rfl))
theorem b65_88 {d : Nat} {h : mHeap} {Q : Option Value → mHeap → Prop} {a0 : Nat} {l1 : Option Value} {x2 : Int32} {a3 : Nat} {x4 : Int32} {x5 : Int32} {x6 : Int32} {x7 : Int32} : Go d 65 88 [some (.ref a0), l1, some (.int x2), some (.ref a3), some (.int x4), some (.int x5), some (.int x6), some (.int x7)] [] h Q ↔ (if x4 < (ii 26) then (okF h a0 5 4 2 ∧ (if x6 < (ii 1000) then (okJ h a3 x7 ∧ Go d 65 125 [some (.ref a0), l1, some (.int x2), some (.ref a3), some (.int x4), some (.int x5), some (.int x6), some (.int x7)] [.long (eJ h a3 x7), .int x4, .ref (fR h a0 4)] h Q) else (Go d 65 125 [some (.ref a0), l1, some (.int x2), some (.ref a3), some (.int x4), some (.int x5), some (.int x6), some (.int x7)] [.long ((x6 - (ii 1000)).toInt64), .int x4, .ref (fR h a0 4)] h Q))) else (Q (some (.long (jj 0))) h)) := by
  refine (G_iload rfl (mF fc65 (by rfl))).trans ?_
  refine (G_iconst (mF fc65 (by rfl))).trans ?_
  refine (G_ilt (mF fc65 (by rfl))).trans (gi ?_ ?_)
  ·
    refine (G_aload rfl (mF fc65 (by rfl))).trans ?_
    refine (G_getR (c := 5) (k := 4) rfl rfl rfl (mF fc65 (by rfl))).trans (andR ?_)
    refine (G_iload rfl (mF fc65 (by rfl))).trans ?_
    refine (G_iload rfl (mF fc65 (by rfl))).trans ?_
    refine (G_iconst (mF fc65 (by rfl))).trans ?_
    refine (G_ilt (mF fc65 (by rfl))).trans (gi ?_ ?_)
    ·
      refine (G_aload rfl (mF fc65 (by rfl))).trans ?_
      refine (G_iload rfl (mF fc65 (by rfl))).trans ?_
      refine (G_laload (mF fc65 (by rfl))).trans (andR ?_)
      exact Iff.rfl
    ·
      refine (G_iload rfl (mF fc65 (by rfl))).trans ?_
      refine (G_iconst (mF fc65 (by rfl))).trans ?_
      refine (G_isub (mF fc65 (by rfl))).trans ?_
      refine (G_i2l (mF fc65 (by rfl))).trans ?_
      refine (G_goto (mF fc65 (by rfl))).trans ?_
      exact Iff.rfl
  ·
    refine (G_jsr_w (mF fc65 (by rfl))).trans ?_
    exact G_lreturn rfl (mF fc65 (by rfl))
theorem b65_125 {d : Nat} {h : mHeap} {Q : Option Value → mHeap → Prop} {a0 : Nat} {l1 : Option Value} {x2 : Int32} {a3 : Nat} {x4 : Int32} {x5 : Int32} {l6 : Option Value} {l7 : Option Value} {r0 : Nat} {s1 : Int32} {t2 : Int64} : Go d 65 125 [some (.ref a0), l1, some (.int x2), some (.ref a3), some (.int x4), some (.int x5), l6, l7] [.long t2, .int s1, .ref r0] h Q ↔ (64 ≤ r0 ∧ okJ h r0 s1) ∧ Go d 65 173 [some (.ref a0), l1, some (.int x2), some (.ref a3), some (.int (x4 + ii 1)), some (.int x5), l6, l7] [] (sJ h r0 s1 t2) Q := by
  refine (G_lastore (mF fc65 (by rfl))).trans (andR ?_)
  refine (G_iinc (k := 4) (L' := [some (.ref a0), l1, some (.int x2), some (.ref a3), some (.int (x4 + ii 1)), some (.int x5), l6, l7]) rfl rfl rfl (mF fc65 (by rfl))).trans ?_
  refine (G_goto (mF fc65 (by rfl))).trans ?_
  exact Iff.rfl
theorem b65_132 {d : Nat} {h : mHeap} {Q : Option Value → mHeap → Prop} {a0 : Nat} {l1 : Option Value} {x2 : Int32} {a3 : Nat} {x4 : Int32} {x5 : Int32} {x6 : Int32} {l7 : Option Value} : Go d 65 132 [some (.ref a0), l1, some (.int x2), some (.ref a3), some (.int x4), some (.int x5), some (.int x6), l7] [] h Q ↔ (if (ii 2) ≤ x4 then (okF h a0 5 4 2 ∧ okF h a0 5 4 2 ∧ okJ h (fR h a0 4) ((x4 + ii (-1)) - (ii 1)) ∧ okF h a0 5 4 2 ∧ okJ h (fR h a0 4) (x4 + ii (-1)) ∧ GoCj d 66 [.int x6, .long (eJ h (fR h a0 4) ((x4 + ii (-1)) - (ii 1))), .long (eJ h (fR h a0 4) (x4 + ii (-1)))] h (fun v1 h1 => (64 ≤ (fR h a0 4) ∧ okJ h1 (fR h a0 4) ((x4 + ii (-1)) - (ii 1))) ∧ Go d 65 173 [some (.ref a0), l1, some (.int x2), some (.ref a3), some (.int (x4 + ii (-1))), some (.int x5), some (.int x6), l7] [] (sJ h1 (fR h a0 4) ((x4 + ii (-1)) - (ii 1)) v1) Q)) else (Q (some (.long (jj 0))) h)) := by
  refine (G_iload rfl (mF fc65 (by rfl))).trans ?_
  refine (G_iconst (mF fc65 (by rfl))).trans ?_
  refine (G_ige (mF fc65 (by rfl))).trans (gi ?_ ?_)
  ·
    refine (G_iinc (k := 4) (L' := [some (.ref a0), l1, some (.int x2), some (.ref a3), some (.int (x4 + ii (-1))), some (.int x5), some (.int x6), l7]) rfl rfl rfl (mF fc65 (by rfl))).trans ?_
    refine (G_aload rfl (mF fc65 (by rfl))).trans ?_
    refine (G_getR (c := 5) (k := 4) rfl rfl rfl (mF fc65 (by rfl))).trans (andR ?_)
    refine (G_iload rfl (mF fc65 (by rfl))).trans ?_
    refine (G_iconst (mF fc65 (by rfl))).trans ?_
    refine (G_isub (mF fc65 (by rfl))).trans ?_
    refine (G_iload rfl (mF fc65 (by rfl))).trans ?_
    refine (G_aload rfl (mF fc65 (by rfl))).trans ?_
    refine (G_getR (c := 5) (k := 4) rfl rfl rfl (mF fc65 (by rfl))).trans (andR ?_)
    refine (G_iload rfl (mF fc65 (by rfl))).trans ?_
    refine (G_iconst (mF fc65 (by rfl))).trans ?_
    refine (G_isub (mF fc65 (by rfl))).trans ?_
    refine (G_laload (mF fc65 (by rfl))).trans (andR ?_)
    refine (G_aload rfl (mF fc65 (by rfl))).trans ?_
    refine (G_getR (c := 5) (k := 4) rfl rfl rfl (mF fc65 (by rfl))).trans (andR ?_)
    refine (G_iload rfl (mF fc65 (by rfl))).trans ?_
    refine (G_laload (mF fc65 (by rfl))).trans (andR ?_)
    refine (G_Tj (q := 33875) (y := 66) rfl rfl rfl (as := [.int x6, .long (eJ h (fR h a0 4) ((x4 + ii (-1)) - (ii 1))), .long (eJ h (fR h a0 4) (x4 + ii (-1)))]) (rest := [.int ((x4 + ii (-1)) - (ii 1)), .ref (fR h a0 4)]) rfl rfl (mF fc65 (by rfl))).trans (GoCj_congr fun v1 h1 => ?_)
    refine (G_lastore (mF fc65 (by rfl))).trans (andR ?_)
    exact Iff.rfl
  ·
    refine (G_jsr_w (mF fc65 (by rfl))).trans ?_
    exact G_lreturn rfl (mF fc65 (by rfl))
theorem b65_173 {d : Nat} {h : mHeap} {Q : Option Value → mHeap → Prop} {a0 : Nat} {l1 : Option Value} {x2 : Int32} {a3 : Nat} {x4 : Int32} {x5 : Int32} {l6 : Option Value} {l7 : Option Value} : Go d 65 173 [some (.ref a0), l1, some (.int x2), some (.ref a3), some (.int x4), some (.int x5), l6, l7] [] h Q ↔ Go d 65 6 [some (.ref a0), l1, some (.int x2), some (.ref a3), some (.int x4), some (.int (x5 + ii 1)), l6, l7] [] h Q := by
  refine (G_iinc (k := 5) (L' := [some (.ref a0), l1, some (.int x2), some (.ref a3), some (.int x4), some (.int (x5 + ii 1)), l6, l7]) rfl rfl rfl (mF fc65 (by rfl))).trans ?_
  refine (G_goto (mF fc65 (by rfl))).trans ?_
  exact Iff.rfl
theorem e65 {d : Nat} {h : mHeap} {K : Int64 → mHeap → Prop} {a0 : Nat} {x1 : Int32} {x2 : Int32} {a3 : Nat} : GoCj (d + 1) 65 [.ref a0, .int x1, .int x2, .ref a3] h K ↔ Go d 65 0 [some (.ref a0), some (.int x1), some (.int x2), some (.ref a3), none, none, none, none] [] h (rJ K) := GoCj_entry rfl rfl
set_option maxRecDepth 20000 in
theorem fc66 : mCodes[66]? = some mc66 := rfl
theorem b66_0 {d : Nat} {h : mHeap} {Q : Option Value → mHeap → Prop} {x0 : Int32} {y1 : Int64} {y3 : Int64} : Go d 66 0 [some (.int x0), some (.long y1), none, some (.long y3), none] [] h Q ↔ (if x0 = ii 37 then ((if ¬ (lg_cmp y3 (jj 0)) = ii 0 then ((¬ y3 = jj 0) ∧ Q (some (.long (lrm y1 y3))) h) else (Q (some (.long (jj 0))) h))) else (if x0 = ii 42 then (Q (some (.long (y1 * y3))) h) else (if x0 = ii 43 then (Q (some (.long (y1 + y3))) h) else (if x0 = ii 45 then (Q (some (.long (y1 - y3))) h) else (if x0 = ii 47 then ((if ¬ (lg_cmp y3 (jj 0)) = ii 0 then ((¬ y3 = jj 0) ∧ Q (some (.long (y1 / y3))) h) else (Q (some (.long (jj 0))) h))) else (if x0 = ii 315 then (Q (some (.long (y1 &&& y3))) h) else (if x0 = ii 316 then (Q (some (.long (y1 ||| y3))) h) else (GoCi d 67 [.int x0, .long y1, .long y3] h (fun v1 h1 => (if v1 = ii 0 then (Q (some (.long (jj 0))) h1) else (Q (some (.long (jj 1))) h1))))))))))) := by
  refine (G_iload rfl (mF fc66 (by rfl))).trans ?_
  refine (G_lookupswitch [(37, 102), (42, 84), (43, 76), (45, 80), (47, 88), (315, 72), (316, 68)] rfl (by decide) (mF fc66 (by rfl))).trans ?_
  refine gi ?_ ?_
  ·
    refine (G_lload rfl (mF fc66 (by rfl))).trans ?_
    refine (G_jsr_w (mF fc66 (by rfl))).trans ?_
    refine (G_lcmp (mF fc66 (by rfl))).trans ?_
    refine (G_ne (mF fc66 (by rfl))).trans (gi ?_ ?_)
    ·
      refine (G_lload rfl (mF fc66 (by rfl))).trans ?_
      refine (G_lload rfl (mF fc66 (by rfl))).trans ?_
      refine (G_lrem (mF fc66 (by rfl))).trans (andR ?_)
      exact G_lreturn rfl (mF fc66 (by rfl))
    ·
      refine (G_jsr_w (mF fc66 (by rfl))).trans ?_
      refine (G_goto (mF fc66 (by rfl))).trans ?_
      exact G_lreturn rfl (mF fc66 (by rfl))
  ·
    refine gi ?_ ?_
    ·
      refine (G_lload rfl (mF fc66 (by rfl))).trans ?_
      refine (G_lload rfl (mF fc66 (by rfl))).trans ?_
      refine (G_lmul (mF fc66 (by rfl))).trans ?_
      exact G_lreturn rfl (mF fc66 (by rfl))
    ·
      refine gi ?_ ?_
      ·
        refine (G_lload rfl (mF fc66 (by rfl))).trans ?_
        refine (G_lload rfl (mF fc66 (by rfl))).trans ?_
        refine (G_ladd (mF fc66 (by rfl))).trans ?_
        exact G_lreturn rfl (mF fc66 (by rfl))
      ·
        refine gi ?_ ?_
        ·
          refine (G_lload rfl (mF fc66 (by rfl))).trans ?_
          refine (G_lload rfl (mF fc66 (by rfl))).trans ?_
          refine (G_lsub (mF fc66 (by rfl))).trans ?_
          exact G_lreturn rfl (mF fc66 (by rfl))
        ·
          refine gi ?_ ?_
          ·
            refine (G_lload rfl (mF fc66 (by rfl))).trans ?_
            refine (G_jsr_w (mF fc66 (by rfl))).trans ?_
            refine (G_lcmp (mF fc66 (by rfl))).trans ?_
            refine (G_ne (mF fc66 (by rfl))).trans (gi ?_ ?_)
            ·
              refine (G_lload rfl (mF fc66 (by rfl))).trans ?_
              refine (G_lload rfl (mF fc66 (by rfl))).trans ?_
              refine (G_ldiv (mF fc66 (by rfl))).trans (andR ?_)
              exact G_lreturn rfl (mF fc66 (by rfl))
            ·
              refine (G_jsr_w (mF fc66 (by rfl))).trans ?_
              refine (G_goto (mF fc66 (by rfl))).trans ?_
              exact G_lreturn rfl (mF fc66 (by rfl))
          ·
            refine gi ?_ ?_
            ·
              refine (G_lload rfl (mF fc66 (by rfl))).trans ?_
              refine (G_lload rfl (mF fc66 (by rfl))).trans ?_
              refine (G_land (mF fc66 (by rfl))).trans ?_
              exact G_lreturn rfl (mF fc66 (by rfl))
            ·
              refine gi ?_ ?_
              ·
                refine (G_lload rfl (mF fc66 (by rfl))).trans ?_
                refine (G_lload rfl (mF fc66 (by rfl))).trans ?_
                refine (G_lor (mF fc66 (by rfl))).trans ?_
                exact G_lreturn rfl (mF fc66 (by rfl))
              ·
                refine (G_iload rfl (mF fc66 (by rfl))).trans ?_
                refine (G_lload rfl (mF fc66 (by rfl))).trans ?_
                refine (G_lload rfl (mF fc66 (by rfl))).trans ?_
                refine (G_Ti (q := 34387) (y := 67) rfl rfl rfl (as := [.int x0, .long y1, .long y3]) (rest := []) rfl rfl (mF fc66 (by rfl))).trans (GoCi_congr fun v1 h1 => ?_)
                refine (G_eq (mF fc66 (by rfl))).trans (gi ?_ ?_)
                ·
                  refine (G_jsr_w (mF fc66 (by rfl))).trans ?_
                  exact G_lreturn rfl (mF fc66 (by rfl))
                ·
                  refine (G_jsr_w (mF fc66 (by rfl))).trans ?_
                  refine (G_goto (mF fc66 (by rfl))).trans ?_
                  exact G_lreturn rfl (mF fc66 (by rfl))
theorem e66 {d : Nat} {h : mHeap} {K : Int64 → mHeap → Prop} {x0 : Int32} {y1 : Int64} {y3 : Int64} : GoCj (d + 1) 66 [.int x0, .long y1, .long y3] h K ↔ Go d 66 0 [some (.int x0), some (.long y1), none, some (.long y3), none] [] h (rJ K) := GoCj_entry rfl rfl
set_option maxRecDepth 20000 in
theorem fc67 : mCodes[67]? = some mc67 := rfl
theorem b67_0 {d : Nat} {h : mHeap} {Q : Option Value → mHeap → Prop} {x0 : Int32} {y1 : Int64} {y3 : Int64} : Go d 67 0 [some (.int x0), some (.long y1), none, some (.long y3), none] [] h Q ↔ (if x0 = ii 60 then ((if ii 0 ≤ (lg_cmp y1 y3) then (((ii 0) = ii 0 ∨ (ii 0) = ii 1) ∧ Q (some (.int (ii 0))) h) else (((ii 1) = ii 0 ∨ (ii 1) = ii 1) ∧ Q (some (.int (ii 1))) h))) else (if x0 = ii 61 then ((if ¬ (lg_cmp y1 y3) = ii 0 then (((ii 0) = ii 0 ∨ (ii 0) = ii 1) ∧ Q (some (.int (ii 0))) h) else (((ii 1) = ii 0 ∨ (ii 1) = ii 1) ∧ Q (some (.int (ii 1))) h))) else (if x0 = ii 256 then ((if ii 0 < (lg_cmp y1 y3) then (((ii 0) = ii 0 ∨ (ii 0) = ii 1) ∧ Q (some (.int (ii 0))) h) else (((ii 1) = ii 0 ∨ (ii 1) = ii 1) ∧ Q (some (.int (ii 1))) h))) else (if x0 = ii 257 then ((if (lg_cmp y1 y3) < ii 0 then (((ii 0) = ii 0 ∨ (ii 0) = ii 1) ∧ Q (some (.int (ii 0))) h) else (((ii 1) = ii 0 ∨ (ii 1) = ii 1) ∧ Q (some (.int (ii 1))) h))) else ((if (lg_cmp y1 y3) ≤ ii 0 then (((ii 0) = ii 0 ∨ (ii 0) = ii 1) ∧ Q (some (.int (ii 0))) h) else (((ii 1) = ii 0 ∨ (ii 1) = ii 1) ∧ Q (some (.int (ii 1))) h))))))) := by
  refine (G_iload rfl (mF fc67 (by rfl))).trans ?_
  refine (G_lookupswitch [(60, 44), (61, 68), (256, 56), (257, 80)] rfl (by decide) (mF fc67 (by rfl))).trans ?_
  refine gi ?_ ?_
  ·
    refine (G_lload rfl (mF fc67 (by rfl))).trans ?_
    refine (G_lload rfl (mF fc67 (by rfl))).trans ?_
    refine (G_lcmp (mF fc67 (by rfl))).trans ?_
    refine (G_ge (mF fc67 (by rfl))).trans (gi ?_ ?_)
    ·
      refine (G_iconst (mF fc67 (by rfl))).trans ?_
      exact G_ireturnZ rfl (mF fc67 (by rfl))
    ·
      refine (G_iconst (mF fc67 (by rfl))).trans ?_
      refine (G_goto (mF fc67 (by rfl))).trans ?_
      exact G_ireturnZ rfl (mF fc67 (by rfl))
  ·
    refine gi ?_ ?_
    ·
      refine (G_lload rfl (mF fc67 (by rfl))).trans ?_
      refine (G_lload rfl (mF fc67 (by rfl))).trans ?_
      refine (G_lcmp (mF fc67 (by rfl))).trans ?_
      refine (G_ne (mF fc67 (by rfl))).trans (gi ?_ ?_)
      ·
        refine (G_iconst (mF fc67 (by rfl))).trans ?_
        exact G_ireturnZ rfl (mF fc67 (by rfl))
      ·
        refine (G_iconst (mF fc67 (by rfl))).trans ?_
        refine (G_goto (mF fc67 (by rfl))).trans ?_
        exact G_ireturnZ rfl (mF fc67 (by rfl))
    ·
      refine gi ?_ ?_
      ·
        refine (G_lload rfl (mF fc67 (by rfl))).trans ?_
        refine (G_lload rfl (mF fc67 (by rfl))).trans ?_
        refine (G_lcmp (mF fc67 (by rfl))).trans ?_
        refine (G_gt (mF fc67 (by rfl))).trans (gi ?_ ?_)
        ·
          refine (G_iconst (mF fc67 (by rfl))).trans ?_
          exact G_ireturnZ rfl (mF fc67 (by rfl))
        ·
          refine (G_iconst (mF fc67 (by rfl))).trans ?_
          refine (G_goto (mF fc67 (by rfl))).trans ?_
          exact G_ireturnZ rfl (mF fc67 (by rfl))
      ·
        refine gi ?_ ?_
        ·
          refine (G_lload rfl (mF fc67 (by rfl))).trans ?_
          refine (G_lload rfl (mF fc67 (by rfl))).trans ?_
          refine (G_lcmp (mF fc67 (by rfl))).trans ?_
          refine (G_lt (mF fc67 (by rfl))).trans (gi ?_ ?_)
          ·
            refine (G_iconst (mF fc67 (by rfl))).trans ?_
            exact G_ireturnZ rfl (mF fc67 (by rfl))
          ·
            refine (G_iconst (mF fc67 (by rfl))).trans ?_
            refine (G_goto (mF fc67 (by rfl))).trans ?_
            exact G_ireturnZ rfl (mF fc67 (by rfl))
        ·
          refine (G_lload rfl (mF fc67 (by rfl))).trans ?_
          refine (G_lload rfl (mF fc67 (by rfl))).trans ?_
          refine (G_lcmp (mF fc67 (by rfl))).trans ?_
          refine (G_le (mF fc67 (by rfl))).trans (gi ?_ ?_)
          ·
            refine (G_iconst (mF fc67 (by rfl))).trans ?_
            exact G_ireturnZ rfl (mF fc67 (by rfl))
          ·
            refine (G_iconst (mF fc67 (by rfl))).trans ?_
            refine (G_goto (mF fc67 (by rfl))).trans ?_
            exact G_ireturnZ rfl (mF fc67 (by rfl))
theorem e67 {d : Nat} {h : mHeap} {K : Int32 → mHeap → Prop} {x0 : Int32} {y1 : Int64} {y3 : Int64} : GoCi (d + 1) 67 [.int x0, .long y1, .long y3] h K ↔ Go d 67 0 [some (.int x0), some (.long y1), none, some (.long y3), none] [] h (rI K) := GoCi_entry rfl rfl
set_option maxRecDepth 20000 in
theorem fc68 : mCodes[68]? = some mc68 := rfl
theorem b68_0 {d : Nat} {h : mHeap} {Q : Option Value → mHeap → Prop} {a0 : Nat} {a1 : Nat} : Go d 68 0 [some (.ref a0), some (.ref a1)] [] h Q ↔ 64 ≤ a0 ∧ okN (ii 400) ∧ (∃ h1 : mHeap, h1 = nA h .int (ii 400) ∧ okP h1 a0 6 1 ∧ okN (ii 13) ∧ (∃ h2 : mHeap, h2 = nA (sF h1 a0 1 (.ref h.length)) .int (ii 13) ∧ okP h2 a0 6 5 ∧ okN (ii 12) ∧ (∃ h3 : mHeap, h3 = nA (sF h2 a0 5 (.ref ((sF h1 a0 1 (.ref h.length)).length))) .int (ii 12) ∧ okP h3 a0 6 6 ∧ okP (sF h3 a0 6 (.ref ((sF h2 a0 5 (.ref ((sF h1 a0 1 (.ref h.length)).length))).length))) a0 6 0 ∧ Q none (sF (sF h3 a0 6 (.ref ((sF h2 a0 5 (.ref ((sF h1 a0 1 (.ref h.length)).length))).length))) a0 0 (.ref a1))))) := by
  refine (G_aload rfl (mF fc68 (by rfl))).trans ?_
  refine (G_objinit (Nat.le_of_ble_eq_true rfl) (mF fc68 (by rfl))).trans (andR ?_)
  refine (G_aload rfl (mF fc68 (by rfl))).trans ?_
  refine (G_iconst (mF fc68 (by rfl))).trans ?_
  refine (G_newarrayI (mF fc68 (by rfl))).trans (andR ?_)
  refine (exN (A := fun x => Go d 68 10 [some (.ref a0), some (.ref a1)] [.ref h.length, .ref a0] x Q) (e := nA h .int (ii 400)) fun h1 => ?_)
  refine (G_putT (c := 6) (k := 1) rfl rfl rfl (mF fc68 (by rfl))).trans (andR ?_)
  refine (G_aload rfl (mF fc68 (by rfl))).trans ?_
  refine (G_iconst (mF fc68 (by rfl))).trans ?_
  refine (G_newarrayI (mF fc68 (by rfl))).trans (andR ?_)
  refine (exN (A := fun x => Go d 68 18 [some (.ref a0), some (.ref a1)] [.ref ((sF h1 a0 1 (.ref h.length)).length), .ref a0] x Q) (e := nA (sF h1 a0 1 (.ref h.length)) .int (ii 13)) fun h2 => ?_)
  refine (G_putT (c := 6) (k := 5) rfl rfl rfl (mF fc68 (by rfl))).trans (andR ?_)
  refine (G_aload rfl (mF fc68 (by rfl))).trans ?_
  refine (G_iconst (mF fc68 (by rfl))).trans ?_
  refine (G_newarrayI (mF fc68 (by rfl))).trans (andR ?_)
  refine (exN (A := fun x => Go d 68 26 [some (.ref a0), some (.ref a1)] [.ref ((sF h2 a0 5 (.ref ((sF h1 a0 1 (.ref h.length)).length))).length), .ref a0] x Q) (e := nA (sF h2 a0 5 (.ref ((sF h1 a0 1 (.ref h.length)).length))) .int (ii 12)) fun h3 => ?_)
  refine (G_putT (c := 6) (k := 6) rfl rfl rfl (mF fc68 (by rfl))).trans (andR ?_)
  refine (G_aload rfl (mF fc68 (by rfl))).trans ?_
  refine (G_aload rfl (mF fc68 (by rfl))).trans ?_
  refine (G_putT (c := 6) (k := 0) rfl rfl rfl (mF fc68 (by rfl))).trans (andR ?_)
  exact G_return rfl (mF fc68 (by rfl))
theorem e68 {d : Nat} {h : mHeap} {K : mHeap → Prop} {a0 : Nat} {a1 : Nat} : GoCv (d + 1) 68 [.ref a0, .ref a1] h K ↔ Go d 68 0 [some (.ref a0), some (.ref a1)] [] h (rV K) := GoCv_entry rfl rfl
set_option maxRecDepth 20000 in
theorem fc69 : mCodes[69]? = some mc69 := rfl
theorem b69_0 {d : Nat} {h : mHeap} {Q : Option Value → mHeap → Prop} {a0 : Nat} : Go d 69 0 [some (.ref a0), none] [] h Q ↔ okF h a0 6 0 2 ∧ oC h (fR h a0 0) = 9 ∧ GoCv d 99 [.ref (fR h a0 0)] h (fun h1 => okP h1 a0 6 2 ∧ okP (sF h1 a0 2 (.int (ii 0))) a0 6 3 ∧ okP (sF (sF h1 a0 2 (.int (ii 0))) a0 3 (.int (ii 0))) a0 6 4 ∧ oC (sF (sF (sF h1 a0 2 (.int (ii 0))) a0 3 (.int (ii 0))) a0 4 (.int (ii 0))) a0 = 6 ∧ GoCv d 71 [.ref a0] (sF (sF (sF h1 a0 2 (.int (ii 0))) a0 3 (.int (ii 0))) a0 4 (.int (ii 0))) (fun h2 => Go d 69 28 [some (.ref a0), some (.int (ii 0))] [] h2 Q)) := by
  refine (G_aload rfl (mF fc69 (by rfl))).trans ?_
  refine (G_getR (c := 6) (k := 0) rfl rfl rfl (mF fc69 (by rfl))).trans (andR ?_)
  refine (G_Vv (q := 50833) (y := 99) (a := fR h a0 0) (c := 9) rfl rfl rfl rfl (by decide) rfl (as := [.ref (fR h a0 0)]) (rest := []) rfl rfl (mF fc69 (by rfl))).trans (andR (GoCv_congr fun h1 => ?_))
  refine (G_aload rfl (mF fc69 (by rfl))).trans ?_
  refine (G_iconst (mF fc69 (by rfl))).trans ?_
  refine (G_putT (c := 6) (k := 2) rfl rfl rfl (mF fc69 (by rfl))).trans (andR ?_)
  refine (G_aload rfl (mF fc69 (by rfl))).trans ?_
  refine (G_iconst (mF fc69 (by rfl))).trans ?_
  refine (G_putT (c := 6) (k := 3) rfl rfl rfl (mF fc69 (by rfl))).trans (andR ?_)
  refine (G_aload rfl (mF fc69 (by rfl))).trans ?_
  refine (G_iconst (mF fc69 (by rfl))).trans ?_
  refine (G_putT (c := 6) (k := 4) rfl rfl rfl (mF fc69 (by rfl))).trans (andR ?_)
  refine (G_aload rfl (mF fc69 (by rfl))).trans ?_
  refine (G_Vv (q := 36449) (y := 71) (a := a0) (c := 6) rfl rfl rfl rfl (by decide) rfl (as := [.ref a0]) (rest := []) rfl rfl (mF fc69 (by rfl))).trans (andR (GoCv_congr fun h2 => ?_))
  refine (G_iconst (mF fc69 (by rfl))).trans ?_
  refine (G_istore (k := 1) (L' := [some (.ref a0), some (.int (ii 0))]) rfl (ltb rfl) rfl (mF fc69 (by rfl))).trans ?_
  exact Iff.rfl
theorem b69_28 {d : Nat} {h : mHeap} {Q : Option Value → mHeap → Prop} {a0 : Nat} {x1 : Int32} : Go d 69 28 [some (.ref a0), some (.int x1)] [] h Q ↔ (if (ii 400) ≤ x1 then (Go d 69 57 [some (.ref a0), some (.int x1)] [] h Q) else (okF h a0 6 0 2 ∧ oC h (fR h a0 0) = 9 ∧ GoCi d 109 [.ref (fR h a0 0), .int (ii 59)] h (fun v1 h1 => (if v1 = ii 0 then (Go d 69 57 [some (.ref a0), some (.int x1)] [] h1 Q) else (oC h1 a0 = 6 ∧ GoCv d 71 [.ref a0] h1 (fun h2 => Go d 69 28 [some (.ref a0), some (.int (x1 + ii 1))] [] h2 Q)))))) := by
  refine (G_iload rfl (mF fc69 (by rfl))).trans ?_
  refine (G_iconst (mF fc69 (by rfl))).trans ?_
  refine (G_ige (mF fc69 (by rfl))).trans (gi ?_ ?_)
  ·
    exact Iff.rfl
  ·
    refine (G_aload rfl (mF fc69 (by rfl))).trans ?_
    refine (G_getR (c := 6) (k := 0) rfl rfl rfl (mF fc69 (by rfl))).trans (andR ?_)
    refine (G_iconst (mF fc69 (by rfl))).trans ?_
    refine (G_Vi (q := 55954) (y := 109) (a := fR h a0 0) (c := 9) rfl rfl rfl rfl (by decide) rfl (as := [.ref (fR h a0 0), .int (ii 59)]) (rest := []) rfl rfl (mF fc69 (by rfl))).trans (andR (GoCi_congr fun v1 h1 => ?_))
    refine (G_eq (mF fc69 (by rfl))).trans (gi ?_ ?_)
    ·
      exact Iff.rfl
    ·
      refine (G_aload rfl (mF fc69 (by rfl))).trans ?_
      refine (G_Vv (q := 36449) (y := 71) (a := a0) (c := 6) rfl rfl rfl rfl (by decide) rfl (as := [.ref a0]) (rest := []) rfl rfl (mF fc69 (by rfl))).trans (andR (GoCv_congr fun h2 => ?_))
      refine (G_iinc (k := 1) (L' := [some (.ref a0), some (.int (x1 + ii 1))]) rfl rfl rfl (mF fc69 (by rfl))).trans ?_
      refine (G_goto (mF fc69 (by rfl))).trans ?_
      exact Iff.rfl
theorem b69_57 {d : Nat} {h : mHeap} {Q : Option Value → mHeap → Prop} {a0 : Nat} {l1 : Option Value} : Go d 69 57 [some (.ref a0), l1] [] h Q ↔ okF h a0 6 0 2 ∧ oC h (fR h a0 0) = 9 ∧ GoCv d 111 [.ref (fR h a0 0)] h (fun h1 => Q none h1) := by
  refine (G_aload rfl (mF fc69 (by rfl))).trans ?_
  refine (G_getR (c := 6) (k := 0) rfl rfl rfl (mF fc69 (by rfl))).trans (andR ?_)
  refine (G_Vv (q := 56977) (y := 111) (a := fR h a0 0) (c := 9) rfl rfl rfl rfl (by decide) rfl (as := [.ref (fR h a0 0)]) (rest := []) rfl rfl (mF fc69 (by rfl))).trans (andR (GoCv_congr fun h1 => ?_))
  exact G_return rfl (mF fc69 (by rfl))
theorem e69 {d : Nat} {h : mHeap} {K : mHeap → Prop} {a0 : Nat} : GoCv (d + 1) 69 [.ref a0] h K ↔ Go d 69 0 [some (.ref a0), none] [] h (rV K) := GoCv_entry rfl rfl
set_option maxRecDepth 20000 in
theorem fc70 : mCodes[70]? = some mc70 := rfl
theorem b70_0 {d : Nat} {h : mHeap} {Q : Option Value → mHeap → Prop} {a0 : Nat} : Go d 70 0 [some (.ref a0)] [] h Q ↔ (∃ h1 : mHeap, h1 = nO h 5 ∧ okF h1 a0 6 1 2 ∧ okF h1 a0 6 2 0 ∧ GoCr d 326 [.ref (fR h1 a0 1), .int (fI h1 a0 2)] h1 (fun v2 h2 => okF h2 a0 6 4 0 ∧ okF h2 a0 6 5 2 ∧ (64 ≤ (fR h2 a0 5) ∧ aT h2 (fR h2 a0 5) = .int) ∧ (∃ h3 : mHeap, h3 = nCl h2 (fR h2 a0 5) ∧ (64 ≤ h2.length ∧ aT h3 h2.length = .int) ∧ okF h3 a0 6 6 2 ∧ (64 ≤ (fR h3 a0 6) ∧ aT h3 (fR h3 a0 6) = .int) ∧ (∃ h4 : mHeap, h4 = nCl h3 (fR h3 a0 6) ∧ (64 ≤ h3.length ∧ aT h4 h3.length = .int) ∧ 64 ≤ h.length ∧ GoCv d 63 [.ref h.length, .ref v2, .int (fI h2 a0 4), .ref h2.length, .ref h3.length] h4 (fun h5 => Q (some (.ref h.length)) h5))))) := by
  refine (G_new (mF fc70 (by rfl))).trans ?_
  refine (exN (A := fun x => Go d 70 3 [some (.ref a0)] [.ref h.length] x Q) (e := nO h 5) fun h1 => ?_)
  refine (G_dupr (mF fc70 (by rfl))).trans ?_
  refine (G_aload rfl (mF fc70 (by rfl))).trans ?_
  refine (G_getR (c := 6) (k := 1) rfl rfl rfl (mF fc70 (by rfl))).trans (andR ?_)
  refine (G_aload rfl (mF fc70 (by rfl))).trans ?_
  refine (G_getI (c := 6) (k := 2) rfl rfl rfl (mF fc70 (by rfl))).trans (andR ?_)
  refine (G_Tr (q := 167202) (y := 326) rfl rfl rfl (as := [.ref (fR h1 a0 1), .int (fI h1 a0 2)]) (rest := [.ref h.length, .ref h.length]) rfl rfl (mF fc70 (by rfl))).trans (GoCr_congr fun v2 h2 => ?_)
  refine (G_aload rfl (mF fc70 (by rfl))).trans ?_
  refine (G_getI (c := 6) (k := 4) rfl rfl rfl (mF fc70 (by rfl))).trans (andR ?_)
  refine (G_aload rfl (mF fc70 (by rfl))).trans ?_
  refine (G_getR (c := 6) (k := 5) rfl rfl rfl (mF fc70 (by rfl))).trans (andR ?_)
  refine (G_clone (Nat.le_of_ble_eq_true rfl) (mF fc70 (by rfl))).trans (andR ?_)
  refine (exN (A := fun x => Go d 70 26 [some (.ref a0)] [.ref h2.length, .int (fI h2 a0 4), .ref v2, .ref h.length, .ref h.length] x Q) (e := nCl h2 (fR h2 a0 5)) fun h3 => ?_)
  refine (G_checkcast (mF fc70 (by rfl))).trans (andR ?_)
  refine (G_aload rfl (mF fc70 (by rfl))).trans ?_
  refine (G_getR (c := 6) (k := 6) rfl rfl rfl (mF fc70 (by rfl))).trans (andR ?_)
  refine (G_clone (Nat.le_of_ble_eq_true rfl) (mF fc70 (by rfl))).trans (andR ?_)
  refine (exN (A := fun x => Go d 70 36 [some (.ref a0)] [.ref h3.length, .ref h2.length, .int (fI h2 a0 4), .ref v2, .ref h.length, .ref h.length] x Q) (e := nCl h3 (fR h3 a0 6)) fun h4 => ?_)
  refine (G_checkcast (mF fc70 (by rfl))).trans (andR ?_)
  refine (G_Nv (q := 32341) (y := 63) (a := h.length) rfl rfl rfl rfl (as := [.ref h.length, .ref v2, .int (fI h2 a0 4), .ref h2.length, .ref h3.length]) (rest := [.ref h.length]) rfl rfl (mF fc70 (by rfl))).trans (andR (GoCv_congr fun h5 => ?_))
  exact G_areturn rfl (mF fc70 (by rfl))
theorem e70 {d : Nat} {h : mHeap} {K : Nat → mHeap → Prop} {a0 : Nat} : GoCr (d + 1) 70 [.ref a0] h K ↔ Go d 70 0 [some (.ref a0)] [] h (rR K) := GoCr_entry rfl rfl
set_option maxRecDepth 20000 in
theorem fc71 : mCodes[71]? = some mc71 := rfl
theorem b71_0 {d : Nat} {h : mHeap} {Q : Option Value → mHeap → Prop} {a0 : Nat} : Go d 71 0 [some (.ref a0)] [] h Q ↔ okF h a0 6 0 2 ∧ oC h (fR h a0 0) = 9 ∧ GoCi d 107 [.ref (fR h a0 0)] h (fun v1 h1 => (if v1 = (ii 317) then (okF h1 a0 6 4 0 ∧ (if (fI h1 a0 4) < (ii 12) then (okF h1 a0 6 0 2 ∧ oC h1 (fR h1 a0 0) = 9 ∧ GoCv d 108 [.ref (fR h1 a0 0)] h1 (fun h2 => oC h2 a0 = 6 ∧ GoCv d 74 [.ref a0] h2 (fun h3 => okF h3 a0 6 6 2 ∧ okF h3 a0 6 4 0 ∧ okF h3 a0 6 2 0 ∧ (64 ≤ (fR h3 a0 6) ∧ okA h3 (fR h3 a0 6) .int (fI h3 a0 4)) ∧ okF (sI h3 (fR h3 a0 6) (fI h3 a0 4) (fI h3 a0 2)) a0 6 0 2 ∧ oC (sI h3 (fR h3 a0 6) (fI h3 a0 4) (fI h3 a0 2)) (fR (sI h3 (fR h3 a0 6) (fI h3 a0 4) (fI h3 a0 2)) a0 0) = 9 ∧ GoCi d 109 [.ref (fR (sI h3 (fR h3 a0 6) (fI h3 a0 4) (fI h3 a0 2)) a0 0), .int (ii 318)] (sI h3 (fR h3 a0 6) (fI h3 a0 4) (fI h3 a0 2)) (fun v4 h4 => (if v4 = ii 0 then (Go d 71 82 [some (.ref a0)] [] h4 Q) else (oC h4 a0 = 6 ∧ GoCv d 72 [.ref a0, .int (ii 0)] h4 (fun h5 => Go d 71 82 [some (.ref a0)] [] h5 Q))))))) else (okF h1 a0 6 0 2 ∧ oC h1 (fR h1 a0 0) = 9 ∧ GoCv d 112 [.ref (fR h1 a0 0), .int (ii 4)] h1 (fun h6 => Q none h6)))) else (okF h1 a0 6 0 2 ∧ oC h1 (fR h1 a0 0) = 9 ∧ GoCv d 112 [.ref (fR h1 a0 0), .int (ii 0)] h1 (fun h7 => Q none h7)))) := by
  refine (G_aload rfl (mF fc71 (by rfl))).trans ?_
  refine (G_getR (c := 6) (k := 0) rfl rfl rfl (mF fc71 (by rfl))).trans (andR ?_)
  refine (G_Vi (q := 54929) (y := 107) (a := fR h a0 0) (c := 9) rfl rfl rfl rfl (by decide) rfl (as := [.ref (fR h a0 0)]) (rest := []) rfl rfl (mF fc71 (by rfl))).trans (andR (GoCi_congr fun v1 h1 => ?_))
  refine (G_iconst (mF fc71 (by rfl))).trans ?_
  refine (G_ieq (mF fc71 (by rfl))).trans (gi ?_ ?_)
  ·
    refine (G_aload rfl (mF fc71 (by rfl))).trans ?_
    refine (G_getI (c := 6) (k := 4) rfl rfl rfl (mF fc71 (by rfl))).trans (andR ?_)
    refine (G_iconst (mF fc71 (by rfl))).trans ?_
    refine (G_ilt (mF fc71 (by rfl))).trans (gi ?_ ?_)
    ·
      refine (G_aload rfl (mF fc71 (by rfl))).trans ?_
      refine (G_getR (c := 6) (k := 0) rfl rfl rfl (mF fc71 (by rfl))).trans (andR ?_)
      refine (G_Vv (q := 55441) (y := 108) (a := fR h1 a0 0) (c := 9) rfl rfl rfl rfl (by decide) rfl (as := [.ref (fR h1 a0 0)]) (rest := []) rfl rfl (mF fc71 (by rfl))).trans (andR (GoCv_congr fun h2 => ?_))
      refine (G_aload rfl (mF fc71 (by rfl))).trans ?_
      refine (G_Vv (q := 37985) (y := 74) (a := a0) (c := 6) rfl rfl rfl rfl (by decide) rfl (as := [.ref a0]) (rest := []) rfl rfl (mF fc71 (by rfl))).trans (andR (GoCv_congr fun h3 => ?_))
      refine (G_aload rfl (mF fc71 (by rfl))).trans ?_
      refine (G_getR (c := 6) (k := 6) rfl rfl rfl (mF fc71 (by rfl))).trans (andR ?_)
      refine (G_aload rfl (mF fc71 (by rfl))).trans ?_
      refine (G_getI (c := 6) (k := 4) rfl rfl rfl (mF fc71 (by rfl))).trans (andR ?_)
      refine (G_aload rfl (mF fc71 (by rfl))).trans ?_
      refine (G_getI (c := 6) (k := 2) rfl rfl rfl (mF fc71 (by rfl))).trans (andR ?_)
      refine (G_iastore (mF fc71 (by rfl))).trans (andR ?_)
      refine (G_aload rfl (mF fc71 (by rfl))).trans ?_
      refine (G_getR (c := 6) (k := 0) rfl rfl rfl (mF fc71 (by rfl))).trans (andR ?_)
      refine (G_iconst (mF fc71 (by rfl))).trans ?_
      refine (G_Vi (q := 55954) (y := 109) (a := fR (sI h3 (fR h3 a0 6) (fI h3 a0 4) (fI h3 a0 2)) a0 0) (c := 9) rfl rfl rfl rfl (by decide) rfl (as := [.ref (fR (sI h3 (fR h3 a0 6) (fI h3 a0 4) (fI h3 a0 2)) a0 0), .int (ii 318)]) (rest := []) rfl rfl (mF fc71 (by rfl))).trans (andR (GoCi_congr fun v4 h4 => ?_))
      refine (G_eq (mF fc71 (by rfl))).trans (gi ?_ ?_)
      ·
        exact Iff.rfl
      ·
        refine (G_aload rfl (mF fc71 (by rfl))).trans ?_
        refine (G_iconst (mF fc71 (by rfl))).trans ?_
        refine (G_Vv (q := 36962) (y := 72) (a := a0) (c := 6) rfl rfl rfl rfl (by decide) rfl (as := [.ref a0, .int (ii 0)]) (rest := []) rfl rfl (mF fc71 (by rfl))).trans (andR (GoCv_congr fun h5 => ?_))
        exact Iff.rfl
    ·
      refine (G_aload rfl (mF fc71 (by rfl))).trans ?_
      refine (G_getR (c := 6) (k := 0) rfl rfl rfl (mF fc71 (by rfl))).trans (andR ?_)
      refine (G_iconst (mF fc71 (by rfl))).trans ?_
      refine (G_Vv (q := 57490) (y := 112) (a := fR h1 a0 0) (c := 9) rfl rfl rfl rfl (by decide) rfl (as := [.ref (fR h1 a0 0), .int (ii 4)]) (rest := []) rfl rfl (mF fc71 (by rfl))).trans (andR (GoCv_congr fun h6 => ?_))
      exact G_return rfl (mF fc71 (by rfl))
  ·
    refine (G_aload rfl (mF fc71 (by rfl))).trans ?_
    refine (G_getR (c := 6) (k := 0) rfl rfl rfl (mF fc71 (by rfl))).trans (andR ?_)
    refine (G_iconst (mF fc71 (by rfl))).trans ?_
    refine (G_Vv (q := 57490) (y := 112) (a := fR h1 a0 0) (c := 9) rfl rfl rfl rfl (by decide) rfl (as := [.ref (fR h1 a0 0), .int (ii 0)]) (rest := []) rfl rfl (mF fc71 (by rfl))).trans (andR (GoCv_congr fun h7 => ?_))
    exact G_return rfl (mF fc71 (by rfl))
theorem b71_82 {d : Nat} {h : mHeap} {Q : Option Value → mHeap → Prop} {a0 : Nat} : Go d 71 82 [some (.ref a0)] [] h Q ↔ okF h a0 6 4 0 ∧ okP h a0 6 4 ∧ okF (sF h a0 4 (.int ((fI h a0 4) + (ii 1)))) a0 6 5 2 ∧ okF (sF h a0 4 (.int ((fI h a0 4) + (ii 1)))) a0 6 4 0 ∧ okF (sF h a0 4 (.int ((fI h a0 4) + (ii 1)))) a0 6 2 0 ∧ (64 ≤ (fR (sF h a0 4 (.int ((fI h a0 4) + (ii 1)))) a0 5) ∧ okA (sF h a0 4 (.int ((fI h a0 4) + (ii 1)))) (fR (sF h a0 4 (.int ((fI h a0 4) + (ii 1)))) a0 5) .int (fI (sF h a0 4 (.int ((fI h a0 4) + (ii 1)))) a0 4)) ∧ Q none (sI (sF h a0 4 (.int ((fI h a0 4) + (ii 1)))) (fR (sF h a0 4 (.int ((fI h a0 4) + (ii 1)))) a0 5) (fI (sF h a0 4 (.int ((fI h a0 4) + (ii 1)))) a0 4) (fI (sF h a0 4 (.int ((fI h a0 4) + (ii 1)))) a0 2)) := by
  refine (G_aload rfl (mF fc71 (by rfl))).trans ?_
  refine (G_dupr (mF fc71 (by rfl))).trans ?_
  refine (G_getI (c := 6) (k := 4) rfl rfl rfl (mF fc71 (by rfl))).trans (andR ?_)
  refine (G_iconst (mF fc71 (by rfl))).trans ?_
  refine (G_iadd (mF fc71 (by rfl))).trans ?_
  refine (G_putT (c := 6) (k := 4) rfl rfl rfl (mF fc71 (by rfl))).trans (andR ?_)
  refine (G_aload rfl (mF fc71 (by rfl))).trans ?_
  refine (G_getR (c := 6) (k := 5) rfl rfl rfl (mF fc71 (by rfl))).trans (andR ?_)
  refine (G_aload rfl (mF fc71 (by rfl))).trans ?_
  refine (G_getI (c := 6) (k := 4) rfl rfl rfl (mF fc71 (by rfl))).trans (andR ?_)
  refine (G_aload rfl (mF fc71 (by rfl))).trans ?_
  refine (G_getI (c := 6) (k := 2) rfl rfl rfl (mF fc71 (by rfl))).trans (andR ?_)
  refine (G_iastore (mF fc71 (by rfl))).trans (andR ?_)
  exact G_return rfl (mF fc71 (by rfl))
theorem e71 {d : Nat} {h : mHeap} {K : mHeap → Prop} {a0 : Nat} : GoCv (d + 1) 71 [.ref a0] h K ↔ Go d 71 0 [some (.ref a0)] [] h (rV K) := GoCv_entry rfl rfl
set_option maxRecDepth 20000 in
theorem fc72 : mCodes[72]? = some mc72 := rfl
theorem b72_0 {d : Nat} {h : mHeap} {Q : Option Value → mHeap → Prop} {a0 : Nat} {x1 : Int32} : Go d 72 0 [some (.ref a0), some (.int x1), none, none] [] h Q ↔ oC h a0 = 6 ∧ GoCv d 73 [.ref a0, .int x1] h (fun h1 => Go d 72 9 [some (.ref a0), some (.int x1), some (.int (ii 0)), some (.int (ii 0))] [] h1 Q) := by
  refine (G_iconst (mF fc72 (by rfl))).trans ?_
  refine (G_istore (k := 2) (L' := [some (.ref a0), some (.int x1), some (.int (ii 0)), none]) rfl (ltb rfl) rfl (mF fc72 (by rfl))).trans ?_
  refine (G_aload rfl (mF fc72 (by rfl))).trans ?_
  refine (G_iload rfl (mF fc72 (by rfl))).trans ?_
  refine (G_Vv (q := 37474) (y := 73) (a := a0) (c := 6) rfl rfl rfl rfl (by decide) rfl (as := [.ref a0, .int x1]) (rest := []) rfl rfl (mF fc72 (by rfl))).trans (andR (GoCv_congr fun h1 => ?_))
  refine (G_iconst (mF fc72 (by rfl))).trans ?_
  refine (G_istore (k := 3) (L' := [some (.ref a0), some (.int x1), some (.int (ii 0)), some (.int (ii 0))]) rfl (ltb rfl) rfl (mF fc72 (by rfl))).trans ?_
  exact Iff.rfl
theorem b72_9 {d : Nat} {h : mHeap} {Q : Option Value → mHeap → Prop} {a0 : Nat} {x1 : Int32} {x2 : Int32} {x3 : Int32} : Go d 72 9 [some (.ref a0), some (.int x1), some (.int x2), some (.int x3)] [] h Q ↔ (if (ii 400) ≤ x3 then (Go d 72 81 [some (.ref a0), some (.int x1), some (.int x2), some (.int x3)] [] h Q) else (okF h a0 6 0 2 ∧ oC h (fR h a0 0) = 9 ∧ GoCi d 109 [.ref (fR h a0 0), .int (ii 315)] h (fun v1 h1 => (if v1 = ii 0 then (okF h1 a0 6 0 2 ∧ oC h1 (fR h1 a0 0) = 9 ∧ GoCi d 109 [.ref (fR h1 a0 0), .int (ii 316)] h1 (fun v2 h2 => (if v2 = ii 0 then (Go d 72 81 [some (.ref a0), some (.int x1), some (.int x2), some (.int x3)] [] h2 Q) else ((if x2 = ii 0 then (Go d 72 68 [some (.ref a0), some (.int x1), some (.int x2), some (.int x3)] [] h2 Q) else (oC h2 a0 = 6 ∧ GoCv d 78 [.ref a0, .int (ii 316)] h2 (fun h3 => Go d 72 68 [some (.ref a0), some (.int x1), some (.int x2), some (.int x3)] [] h3 Q))))))) else (oC h1 a0 = 6 ∧ GoCv d 73 [.ref a0, .int x1] h1 (fun h4 => oC h4 a0 = 6 ∧ GoCv d 78 [.ref a0, .int (ii 315)] h4 (fun h5 => Go d 72 75 [some (.ref a0), some (.int x1), some (.int x2), some (.int x3)] [] h5 Q))))))) := by
  refine (G_iload rfl (mF fc72 (by rfl))).trans ?_
  refine (G_iconst (mF fc72 (by rfl))).trans ?_
  refine (G_ige (mF fc72 (by rfl))).trans (gi ?_ ?_)
  ·
    exact Iff.rfl
  ·
    refine (G_aload rfl (mF fc72 (by rfl))).trans ?_
    refine (G_getR (c := 6) (k := 0) rfl rfl rfl (mF fc72 (by rfl))).trans (andR ?_)
    refine (G_iconst (mF fc72 (by rfl))).trans ?_
    refine (G_Vi (q := 55954) (y := 109) (a := fR h a0 0) (c := 9) rfl rfl rfl rfl (by decide) rfl (as := [.ref (fR h a0 0), .int (ii 315)]) (rest := []) rfl rfl (mF fc72 (by rfl))).trans (andR (GoCi_congr fun v1 h1 => ?_))
    refine (G_eq (mF fc72 (by rfl))).trans (gi ?_ ?_)
    ·
      refine (G_aload rfl (mF fc72 (by rfl))).trans ?_
      refine (G_getR (c := 6) (k := 0) rfl rfl rfl (mF fc72 (by rfl))).trans (andR ?_)
      refine (G_iconst (mF fc72 (by rfl))).trans ?_
      refine (G_Vi (q := 55954) (y := 109) (a := fR h1 a0 0) (c := 9) rfl rfl rfl rfl (by decide) rfl (as := [.ref (fR h1 a0 0), .int (ii 316)]) (rest := []) rfl rfl (mF fc72 (by rfl))).trans (andR (GoCi_congr fun v2 h2 => ?_))
      refine (G_eq (mF fc72 (by rfl))).trans (gi ?_ ?_)
      ·
        exact Iff.rfl
      ·
        refine (G_iload rfl (mF fc72 (by rfl))).trans ?_
        refine (G_eq (mF fc72 (by rfl))).trans (gi ?_ ?_)
        ·
          exact Iff.rfl
        ·
          refine (G_aload rfl (mF fc72 (by rfl))).trans ?_
          refine (G_iconst (mF fc72 (by rfl))).trans ?_
          refine (G_Vv (q := 40034) (y := 78) (a := a0) (c := 6) rfl rfl rfl rfl (by decide) rfl (as := [.ref a0, .int (ii 316)]) (rest := []) rfl rfl (mF fc72 (by rfl))).trans (andR (GoCv_congr fun h3 => ?_))
          exact Iff.rfl
    ·
      refine (G_aload rfl (mF fc72 (by rfl))).trans ?_
      refine (G_iload rfl (mF fc72 (by rfl))).trans ?_
      refine (G_Vv (q := 37474) (y := 73) (a := a0) (c := 6) rfl rfl rfl rfl (by decide) rfl (as := [.ref a0, .int x1]) (rest := []) rfl rfl (mF fc72 (by rfl))).trans (andR (GoCv_congr fun h4 => ?_))
      refine (G_aload rfl (mF fc72 (by rfl))).trans ?_
      refine (G_iconst (mF fc72 (by rfl))).trans ?_
      refine (G_Vv (q := 40034) (y := 78) (a := a0) (c := 6) rfl rfl rfl rfl (by decide) rfl (as := [.ref a0, .int (ii 315)]) (rest := []) rfl rfl (mF fc72 (by rfl))).trans (andR (GoCv_congr fun h5 => ?_))
      refine (G_goto (mF fc72 (by rfl))).trans ?_
      exact Iff.rfl
theorem b72_68 {d : Nat} {h : mHeap} {Q : Option Value → mHeap → Prop} {a0 : Nat} {x1 : Int32} {l2 : Option Value} {x3 : Int32} : Go d 72 68 [some (.ref a0), some (.int x1), l2, some (.int x3)] [] h Q ↔ oC h a0 = 6 ∧ GoCv d 73 [.ref a0, .int x1] h (fun h1 => Go d 72 75 [some (.ref a0), some (.int x1), some (.int (ii 1)), some (.int x3)] [] h1 Q) := by
  refine (G_iconst (mF fc72 (by rfl))).trans ?_
  refine (G_istore (k := 2) (L' := [some (.ref a0), some (.int x1), some (.int (ii 1)), some (.int x3)]) rfl (ltb rfl) rfl (mF fc72 (by rfl))).trans ?_
  refine (G_aload rfl (mF fc72 (by rfl))).trans ?_
  refine (G_iload rfl (mF fc72 (by rfl))).trans ?_
  refine (G_Vv (q := 37474) (y := 73) (a := a0) (c := 6) rfl rfl rfl rfl (by decide) rfl (as := [.ref a0, .int x1]) (rest := []) rfl rfl (mF fc72 (by rfl))).trans (andR (GoCv_congr fun h1 => ?_))
  exact Iff.rfl
theorem b72_75 {d : Nat} {h : mHeap} {Q : Option Value → mHeap → Prop} {a0 : Nat} {x1 : Int32} {x2 : Int32} {x3 : Int32} : Go d 72 75 [some (.ref a0), some (.int x1), some (.int x2), some (.int x3)] [] h Q ↔ Go d 72 9 [some (.ref a0), some (.int x1), some (.int x2), some (.int (x3 + ii 1))] [] h Q := by
  refine (G_iinc (k := 3) (L' := [some (.ref a0), some (.int x1), some (.int x2), some (.int (x3 + ii 1))]) rfl rfl rfl (mF fc72 (by rfl))).trans ?_
  refine (G_goto (mF fc72 (by rfl))).trans ?_
  exact Iff.rfl
theorem b72_81 {d : Nat} {h : mHeap} {Q : Option Value → mHeap → Prop} {a0 : Nat} {l1 : Option Value} {x2 : Int32} {l3 : Option Value} : Go d 72 81 [some (.ref a0), l1, some (.int x2), l3] [] h Q ↔ (if x2 = ii 0 then (Q none h) else (oC h a0 = 6 ∧ GoCv d 78 [.ref a0, .int (ii 316)] h (fun h1 => Q none h1))) := by
  refine (G_iload rfl (mF fc72 (by rfl))).trans ?_
  refine (G_eq (mF fc72 (by rfl))).trans (gi ?_ ?_)
  ·
    exact G_return rfl (mF fc72 (by rfl))
  ·
    refine (G_aload rfl (mF fc72 (by rfl))).trans ?_
    refine (G_iconst (mF fc72 (by rfl))).trans ?_
    refine (G_Vv (q := 40034) (y := 78) (a := a0) (c := 6) rfl rfl rfl rfl (by decide) rfl (as := [.ref a0, .int (ii 316)]) (rest := []) rfl rfl (mF fc72 (by rfl))).trans (andR (GoCv_congr fun h1 => ?_))
    exact G_return rfl (mF fc72 (by rfl))
theorem e72 {d : Nat} {h : mHeap} {K : mHeap → Prop} {a0 : Nat} {x1 : Int32} : GoCv (d + 1) 72 [.ref a0, .int x1] h K ↔ Go d 72 0 [some (.ref a0), some (.int x1), none, none] [] h (rV K) := GoCv_entry rfl rfl
set_option maxRecDepth 20000 in
theorem fc73 : mCodes[73]? = some mc73 := rfl
theorem b73_0 {d : Nat} {h : mHeap} {Q : Option Value → mHeap → Prop} {a0 : Nat} {x1 : Int32} : Go d 73 0 [some (.ref a0), some (.int x1), none, none] [] h Q ↔ okF h a0 6 0 2 ∧ oC h (fR h a0 0) = 9 ∧ GoCi d 107 [.ref (fR h a0 0)] h (fun v1 h1 => (if v1 = (ii 314) then (Go d 73 50 [some (.ref a0), some (.int x1), some (.int v1), none] [] h1 Q) else ((if v1 = (ii 91) then (Go d 73 50 [some (.ref a0), some (.int x1), some (.int v1), none] [] h1 Q) else (oC h1 a0 = 6 ∧ GoCv d 74 [.ref a0] h1 (fun h2 => okF h2 a0 6 0 2 ∧ oC h2 (fR h2 a0 0) = 9 ∧ GoCi d 107 [.ref (fR h2 a0 0)] h2 (fun v3 h3 => GoCi d 75 [.int v3] h3 (fun v4 h4 => oC h4 a0 = 6 ∧ GoCi d 77 [.ref a0, .int v4] h4 (fun v5 h5 => oC h5 a0 = 6 ∧ GoCv d 74 [.ref a0] h5 (fun h6 => oC h6 a0 = 6 ∧ GoCv d 78 [.ref a0, .int v5] h6 (fun h7 => Q none h7))))))))))) := by
  refine (G_aload rfl (mF fc73 (by rfl))).trans ?_
  refine (G_getR (c := 6) (k := 0) rfl rfl rfl (mF fc73 (by rfl))).trans (andR ?_)
  refine (G_Vi (q := 54929) (y := 107) (a := fR h a0 0) (c := 9) rfl rfl rfl rfl (by decide) rfl (as := [.ref (fR h a0 0)]) (rest := []) rfl rfl (mF fc73 (by rfl))).trans (andR (GoCi_congr fun v1 h1 => ?_))
  refine (G_istore (k := 2) (L' := [some (.ref a0), some (.int x1), some (.int v1), none]) rfl (ltb rfl) rfl (mF fc73 (by rfl))).trans ?_
  refine (G_iload rfl (mF fc73 (by rfl))).trans ?_
  refine (G_iconst (mF fc73 (by rfl))).trans ?_
  refine (G_ieq (mF fc73 (by rfl))).trans (gi ?_ ?_)
  ·
    exact Iff.rfl
  ·
    refine (G_iload rfl (mF fc73 (by rfl))).trans ?_
    refine (G_iconst (mF fc73 (by rfl))).trans ?_
    refine (G_ieq (mF fc73 (by rfl))).trans (gi ?_ ?_)
    ·
      exact Iff.rfl
    ·
      refine (G_aload rfl (mF fc73 (by rfl))).trans ?_
      refine (G_Vv (q := 37985) (y := 74) (a := a0) (c := 6) rfl rfl rfl rfl (by decide) rfl (as := [.ref a0]) (rest := []) rfl rfl (mF fc73 (by rfl))).trans (andR (GoCv_congr fun h2 => ?_))
      refine (G_aload rfl (mF fc73 (by rfl))).trans ?_
      refine (G_aload rfl (mF fc73 (by rfl))).trans ?_
      refine (G_getR (c := 6) (k := 0) rfl rfl rfl (mF fc73 (by rfl))).trans (andR ?_)
      refine (G_Vi (q := 54929) (y := 107) (a := fR h2 a0 0) (c := 9) rfl rfl rfl rfl (by decide) rfl (as := [.ref (fR h2 a0 0)]) (rest := [.ref a0]) rfl rfl (mF fc73 (by rfl))).trans (andR (GoCi_congr fun v3 h3 => ?_))
      refine (G_Ti (q := 38497) (y := 75) rfl rfl rfl (as := [.int v3]) (rest := [.ref a0]) rfl rfl (mF fc73 (by rfl))).trans (GoCi_congr fun v4 h4 => ?_)
      refine (G_Vi (q := 39522) (y := 77) (a := a0) (c := 6) rfl rfl rfl rfl (by decide) rfl (as := [.ref a0, .int v4]) (rest := []) rfl rfl (mF fc73 (by rfl))).trans (andR (GoCi_congr fun v5 h5 => ?_))
      refine (G_istore (k := 3) (L' := [some (.ref a0), some (.int x1), some (.int v1), some (.int v5)]) rfl (ltb rfl) rfl (mF fc73 (by rfl))).trans ?_
      refine (G_aload rfl (mF fc73 (by rfl))).trans ?_
      refine (G_Vv (q := 37985) (y := 74) (a := a0) (c := 6) rfl rfl rfl rfl (by decide) rfl (as := [.ref a0]) (rest := []) rfl rfl (mF fc73 (by rfl))).trans (andR (GoCv_congr fun h6 => ?_))
      refine (G_aload rfl (mF fc73 (by rfl))).trans ?_
      refine (G_iload rfl (mF fc73 (by rfl))).trans ?_
      refine (G_Vv (q := 40034) (y := 78) (a := a0) (c := 6) rfl rfl rfl rfl (by decide) rfl (as := [.ref a0, .int v5]) (rest := []) rfl rfl (mF fc73 (by rfl))).trans (andR (GoCv_congr fun h7 => ?_))
      exact G_return rfl (mF fc73 (by rfl))
theorem b73_50 {d : Nat} {h : mHeap} {Q : Option Value → mHeap → Prop} {a0 : Nat} {x1 : Int32} {x2 : Int32} {l3 : Option Value} : Go d 73 50 [some (.ref a0), some (.int x1), some (.int x2), l3] [] h Q ↔ (if x1 < (ii 10) then (okF h a0 6 0 2 ∧ oC h (fR h a0 0) = 9 ∧ GoCv d 108 [.ref (fR h a0 0)] h (fun h1 => (if ¬ x2 = (ii 314) then (oC h1 a0 = 6 ∧ GoCv d 72 [.ref a0, .int (x1 + (ii 1))] h1 (fun h2 => okF h2 a0 6 0 2 ∧ oC h2 (fR h2 a0 0) = 9 ∧ GoCv d 110 [.ref (fR h2 a0 0), .int (ii 93)] h2 (fun h3 => Q none h3))) else (oC h1 a0 = 6 ∧ GoCv d 73 [.ref a0, .int (x1 + (ii 1))] h1 (fun h4 => oC h4 a0 = 6 ∧ GoCv d 78 [.ref a0, .int (ii 314)] h4 (fun h5 => Q none h5)))))) else (okF h a0 6 0 2 ∧ oC h (fR h a0 0) = 9 ∧ GoCv d 112 [.ref (fR h a0 0), .int (ii 2)] h (fun h6 => Q none h6))) := by
  refine (G_iload rfl (mF fc73 (by rfl))).trans ?_
  refine (G_iconst (mF fc73 (by rfl))).trans ?_
  refine (G_ilt (mF fc73 (by rfl))).trans (gi ?_ ?_)
  ·
    refine (G_aload rfl (mF fc73 (by rfl))).trans ?_
    refine (G_getR (c := 6) (k := 0) rfl rfl rfl (mF fc73 (by rfl))).trans (andR ?_)
    refine (G_Vv (q := 55441) (y := 108) (a := fR h a0 0) (c := 9) rfl rfl rfl rfl (by decide) rfl (as := [.ref (fR h a0 0)]) (rest := []) rfl rfl (mF fc73 (by rfl))).trans (andR (GoCv_congr fun h1 => ?_))
    refine (G_iload rfl (mF fc73 (by rfl))).trans ?_
    refine (G_iconst (mF fc73 (by rfl))).trans ?_
    refine (G_ine (mF fc73 (by rfl))).trans (gi ?_ ?_)
    ·
      refine (G_aload rfl (mF fc73 (by rfl))).trans ?_
      refine (G_iload rfl (mF fc73 (by rfl))).trans ?_
      refine (G_iconst (mF fc73 (by rfl))).trans ?_
      refine (G_iadd (mF fc73 (by rfl))).trans ?_
      refine (G_Vv (q := 36962) (y := 72) (a := a0) (c := 6) rfl rfl rfl rfl (by decide) rfl (as := [.ref a0, .int (x1 + (ii 1))]) (rest := []) rfl rfl (mF fc73 (by rfl))).trans (andR (GoCv_congr fun h2 => ?_))
      refine (G_aload rfl (mF fc73 (by rfl))).trans ?_
      refine (G_getR (c := 6) (k := 0) rfl rfl rfl (mF fc73 (by rfl))).trans (andR ?_)
      refine (G_iconst (mF fc73 (by rfl))).trans ?_
      refine (G_Vv (q := 56466) (y := 110) (a := fR h2 a0 0) (c := 9) rfl rfl rfl rfl (by decide) rfl (as := [.ref (fR h2 a0 0), .int (ii 93)]) (rest := []) rfl rfl (mF fc73 (by rfl))).trans (andR (GoCv_congr fun h3 => ?_))
      exact G_return rfl (mF fc73 (by rfl))
    ·
      refine (G_aload rfl (mF fc73 (by rfl))).trans ?_
      refine (G_iload rfl (mF fc73 (by rfl))).trans ?_
      refine (G_iconst (mF fc73 (by rfl))).trans ?_
      refine (G_iadd (mF fc73 (by rfl))).trans ?_
      refine (G_Vv (q := 37474) (y := 73) (a := a0) (c := 6) rfl rfl rfl rfl (by decide) rfl (as := [.ref a0, .int (x1 + (ii 1))]) (rest := []) rfl rfl (mF fc73 (by rfl))).trans (andR (GoCv_congr fun h4 => ?_))
      refine (G_aload rfl (mF fc73 (by rfl))).trans ?_
      refine (G_iconst (mF fc73 (by rfl))).trans ?_
      refine (G_Vv (q := 40034) (y := 78) (a := a0) (c := 6) rfl rfl rfl rfl (by decide) rfl (as := [.ref a0, .int (ii 314)]) (rest := []) rfl rfl (mF fc73 (by rfl))).trans (andR (GoCv_congr fun h5 => ?_))
      refine (G_goto (mF fc73 (by rfl))).trans ?_
      exact G_return rfl (mF fc73 (by rfl))
  ·
    refine (G_aload rfl (mF fc73 (by rfl))).trans ?_
    refine (G_getR (c := 6) (k := 0) rfl rfl rfl (mF fc73 (by rfl))).trans (andR ?_)
    refine (G_iconst (mF fc73 (by rfl))).trans ?_
    refine (G_Vv (q := 57490) (y := 112) (a := fR h a0 0) (c := 9) rfl rfl rfl rfl (by decide) rfl (as := [.ref (fR h a0 0), .int (ii 2)]) (rest := []) rfl rfl (mF fc73 (by rfl))).trans (andR (GoCv_congr fun h6 => ?_))
    exact G_return rfl (mF fc73 (by rfl))
theorem e73 {d : Nat} {h : mHeap} {K : mHeap → Prop} {a0 : Nat} {x1 : Int32} : GoCv (d + 1) 73 [.ref a0, .int x1] h K ↔ Go d 73 0 [some (.ref a0), some (.int x1), none, none] [] h (rV K) := GoCv_entry rfl rfl
set_option maxRecDepth 20000 in
theorem fc74 : mCodes[74]? = some mc74 := rfl
theorem b74_0 {d : Nat} {h : mHeap} {Q : Option Value → mHeap → Prop} {a0 : Nat} : Go d 74 0 [some (.ref a0), none, none, none] [] h Q ↔ okF h a0 6 0 2 ∧ oC h (fR h a0 0) = 9 ∧ GoCi d 107 [.ref (fR h a0 0)] h (fun v1 h1 => GoCi d 76 [.int v1] h1 (fun v2 h2 => oC h2 a0 = 6 ∧ GoCi d 77 [.ref a0, .int v2] h2 (fun v3 h3 => oC h3 a0 = 6 ∧ GoCv d 78 [.ref a0, .int v3] h3 (fun h4 => Go d 74 22 [some (.ref a0), some (.int (ii (-1))), some (.int (ii 0)), none] [] h4 Q)))) := by
  refine (G_iconst (mF fc74 (by rfl))).trans ?_
  refine (G_istore (k := 1) (L' := [some (.ref a0), some (.int (ii (-1))), none, none]) rfl (ltb rfl) rfl (mF fc74 (by rfl))).trans ?_
  refine (G_aload rfl (mF fc74 (by rfl))).trans ?_
  refine (G_aload rfl (mF fc74 (by rfl))).trans ?_
  refine (G_aload rfl (mF fc74 (by rfl))).trans ?_
  refine (G_getR (c := 6) (k := 0) rfl rfl rfl (mF fc74 (by rfl))).trans (andR ?_)
  refine (G_Vi (q := 54929) (y := 107) (a := fR h a0 0) (c := 9) rfl rfl rfl rfl (by decide) rfl (as := [.ref (fR h a0 0)]) (rest := [.ref a0, .ref a0]) rfl rfl (mF fc74 (by rfl))).trans (andR (GoCi_congr fun v1 h1 => ?_))
  refine (G_Ti (q := 39009) (y := 76) rfl rfl rfl (as := [.int v1]) (rest := [.ref a0, .ref a0]) rfl rfl (mF fc74 (by rfl))).trans (GoCi_congr fun v2 h2 => ?_)
  refine (G_Vi (q := 39522) (y := 77) (a := a0) (c := 6) rfl rfl rfl rfl (by decide) rfl (as := [.ref a0, .int v2]) (rest := [.ref a0]) rfl rfl (mF fc74 (by rfl))).trans (andR (GoCi_congr fun v3 h3 => ?_))
  refine (G_Vv (q := 40034) (y := 78) (a := a0) (c := 6) rfl rfl rfl rfl (by decide) rfl (as := [.ref a0, .int v3]) (rest := []) rfl rfl (mF fc74 (by rfl))).trans (andR (GoCv_congr fun h4 => ?_))
  refine (G_iconst (mF fc74 (by rfl))).trans ?_
  refine (G_istore (k := 2) (L' := [some (.ref a0), some (.int (ii (-1))), some (.int (ii 0)), none]) rfl (ltb rfl) rfl (mF fc74 (by rfl))).trans ?_
  exact Iff.rfl
theorem b74_22 {d : Nat} {h : mHeap} {Q : Option Value → mHeap → Prop} {a0 : Nat} {x1 : Int32} {x2 : Int32} {l3 : Option Value} : Go d 74 22 [some (.ref a0), some (.int x1), some (.int x2), l3] [] h Q ↔ (if (ii 400) ≤ x2 then (Go d 74 138 [some (.ref a0), some (.int x1), some (.int x2), l3] [] h Q) else (okF h a0 6 0 2 ∧ oC h (fR h a0 0) = 9 ∧ GoCi d 107 [.ref (fR h a0 0)] h (fun v1 h1 => (if v1 = (ii 42) then (Go d 74 55 [some (.ref a0), some (.int x1), some (.int x2), some (.int v1)] [] h1 Q) else ((if v1 = (ii 47) then (Go d 74 55 [some (.ref a0), some (.int x1), some (.int x2), some (.int v1)] [] h1 Q) else ((if ¬ v1 = (ii 37) then ((if v1 = (ii 43) then (Go d 74 100 [some (.ref a0), some (.int x1), some (.int x2), some (.int v1)] [] h1 Q) else ((if ¬ v1 = (ii 45) then (Go d 74 138 [some (.ref a0), some (.int x1), some (.int x2), some (.int v1)] [] h1 Q) else (Go d 74 100 [some (.ref a0), some (.int x1), some (.int x2), some (.int v1)] [] h1 Q))))) else (Go d 74 55 [some (.ref a0), some (.int x1), some (.int x2), some (.int v1)] [] h1 Q))))))))) := by
  refine (G_iload rfl (mF fc74 (by rfl))).trans ?_
  refine (G_iconst (mF fc74 (by rfl))).trans ?_
  refine (G_ige (mF fc74 (by rfl))).trans (gi ?_ ?_)
  ·
    exact Iff.rfl
  ·
    refine (G_aload rfl (mF fc74 (by rfl))).trans ?_
    refine (G_getR (c := 6) (k := 0) rfl rfl rfl (mF fc74 (by rfl))).trans (andR ?_)
    refine (G_Vi (q := 54929) (y := 107) (a := fR h a0 0) (c := 9) rfl rfl rfl rfl (by decide) rfl (as := [.ref (fR h a0 0)]) (rest := []) rfl rfl (mF fc74 (by rfl))).trans (andR (GoCi_congr fun v1 h1 => ?_))
    refine (G_istore (k := 3) (L' := [some (.ref a0), some (.int x1), some (.int x2), some (.int v1)]) rfl (ltb rfl) rfl (mF fc74 (by rfl))).trans ?_
    refine (G_iload rfl (mF fc74 (by rfl))).trans ?_
    refine (G_iconst (mF fc74 (by rfl))).trans ?_
    refine (G_ieq (mF fc74 (by rfl))).trans (gi ?_ ?_)
    ·
      exact Iff.rfl
    ·
      refine (G_iload rfl (mF fc74 (by rfl))).trans ?_
      refine (G_iconst (mF fc74 (by rfl))).trans ?_
      refine (G_ieq (mF fc74 (by rfl))).trans (gi ?_ ?_)
      ·
        exact Iff.rfl
      ·
        refine (G_iload rfl (mF fc74 (by rfl))).trans ?_
        refine (G_iconst (mF fc74 (by rfl))).trans ?_
        refine (G_ine (mF fc74 (by rfl))).trans (gi ?_ ?_)
        ·
          refine (G_iload rfl (mF fc74 (by rfl))).trans ?_
          refine (G_iconst (mF fc74 (by rfl))).trans ?_
          refine (G_ieq (mF fc74 (by rfl))).trans (gi ?_ ?_)
          ·
            exact Iff.rfl
          ·
            refine (G_iload rfl (mF fc74 (by rfl))).trans ?_
            refine (G_iconst (mF fc74 (by rfl))).trans ?_
            refine (G_ine (mF fc74 (by rfl))).trans (gi ?_ ?_)
            ·
              exact Iff.rfl
            ·
              exact Iff.rfl
        ·
          exact Iff.rfl
theorem b74_55 {d : Nat} {h : mHeap} {Q : Option Value → mHeap → Prop} {a0 : Nat} {x1 : Int32} {x2 : Int32} {x3 : Int32} : Go d 74 55 [some (.ref a0), some (.int x1), some (.int x2), some (.int x3)] [] h Q ↔ okF h a0 6 0 2 ∧ oC h (fR h a0 0) = 9 ∧ GoCv d 108 [.ref (fR h a0 0)] h (fun h1 => okF h1 a0 6 0 2 ∧ oC h1 (fR h1 a0 0) = 9 ∧ GoCi d 107 [.ref (fR h1 a0 0)] h1 (fun v2 h2 => GoCi d 76 [.int v2] h2 (fun v3 h3 => oC h3 a0 = 6 ∧ GoCi d 77 [.ref a0, .int v3] h3 (fun v4 h4 => oC h4 a0 = 6 ∧ GoCv d 78 [.ref a0, .int v4] h4 (fun h5 => oC h5 a0 = 6 ∧ GoCv d 78 [.ref a0, .int x3] h5 (fun h6 => Go d 74 132 [some (.ref a0), some (.int x1), some (.int x2), some (.int x3)] [] h6 Q)))))) := by
  refine (G_aload rfl (mF fc74 (by rfl))).trans ?_
  refine (G_getR (c := 6) (k := 0) rfl rfl rfl (mF fc74 (by rfl))).trans (andR ?_)
  refine (G_Vv (q := 55441) (y := 108) (a := fR h a0 0) (c := 9) rfl rfl rfl rfl (by decide) rfl (as := [.ref (fR h a0 0)]) (rest := []) rfl rfl (mF fc74 (by rfl))).trans (andR (GoCv_congr fun h1 => ?_))
  refine (G_aload rfl (mF fc74 (by rfl))).trans ?_
  refine (G_aload rfl (mF fc74 (by rfl))).trans ?_
  refine (G_aload rfl (mF fc74 (by rfl))).trans ?_
  refine (G_getR (c := 6) (k := 0) rfl rfl rfl (mF fc74 (by rfl))).trans (andR ?_)
  refine (G_Vi (q := 54929) (y := 107) (a := fR h1 a0 0) (c := 9) rfl rfl rfl rfl (by decide) rfl (as := [.ref (fR h1 a0 0)]) (rest := [.ref a0, .ref a0]) rfl rfl (mF fc74 (by rfl))).trans (andR (GoCi_congr fun v2 h2 => ?_))
  refine (G_Ti (q := 39009) (y := 76) rfl rfl rfl (as := [.int v2]) (rest := [.ref a0, .ref a0]) rfl rfl (mF fc74 (by rfl))).trans (GoCi_congr fun v3 h3 => ?_)
  refine (G_Vi (q := 39522) (y := 77) (a := a0) (c := 6) rfl rfl rfl rfl (by decide) rfl (as := [.ref a0, .int v3]) (rest := [.ref a0]) rfl rfl (mF fc74 (by rfl))).trans (andR (GoCi_congr fun v4 h4 => ?_))
  refine (G_Vv (q := 40034) (y := 78) (a := a0) (c := 6) rfl rfl rfl rfl (by decide) rfl (as := [.ref a0, .int v4]) (rest := []) rfl rfl (mF fc74 (by rfl))).trans (andR (GoCv_congr fun h5 => ?_))
  refine (G_aload rfl (mF fc74 (by rfl))).trans ?_
  refine (G_iload rfl (mF fc74 (by rfl))).trans ?_
  refine (G_Vv (q := 40034) (y := 78) (a := a0) (c := 6) rfl rfl rfl rfl (by decide) rfl (as := [.ref a0, .int x3]) (rest := []) rfl rfl (mF fc74 (by rfl))).trans (andR (GoCv_congr fun h6 => ?_))
  refine (G_goto (mF fc74 (by rfl))).trans ?_
  exact Iff.rfl
theorem b74_100 {d : Nat} {h : mHeap} {Q : Option Value → mHeap → Prop} {a0 : Nat} {x1 : Int32} {x2 : Int32} {x3 : Int32} : Go d 74 100 [some (.ref a0), some (.int x1), some (.int x2), some (.int x3)] [] h Q ↔ okF h a0 6 0 2 ∧ oC h (fR h a0 0) = 9 ∧ GoCv d 108 [.ref (fR h a0 0)] h (fun h1 => oC h1 a0 = 6 ∧ GoCv d 78 [.ref a0, .int x1] h1 (fun h2 => okF h2 a0 6 0 2 ∧ oC h2 (fR h2 a0 0) = 9 ∧ GoCi d 107 [.ref (fR h2 a0 0)] h2 (fun v3 h3 => GoCi d 76 [.int v3] h3 (fun v4 h4 => oC h4 a0 = 6 ∧ GoCi d 77 [.ref a0, .int v4] h4 (fun v5 h5 => oC h5 a0 = 6 ∧ GoCv d 78 [.ref a0, .int v5] h5 (fun h6 => Go d 74 132 [some (.ref a0), some (.int x3), some (.int x2), some (.int x3)] [] h6 Q)))))) := by
  refine (G_aload rfl (mF fc74 (by rfl))).trans ?_
  refine (G_getR (c := 6) (k := 0) rfl rfl rfl (mF fc74 (by rfl))).trans (andR ?_)
  refine (G_Vv (q := 55441) (y := 108) (a := fR h a0 0) (c := 9) rfl rfl rfl rfl (by decide) rfl (as := [.ref (fR h a0 0)]) (rest := []) rfl rfl (mF fc74 (by rfl))).trans (andR (GoCv_congr fun h1 => ?_))
  refine (G_aload rfl (mF fc74 (by rfl))).trans ?_
  refine (G_iload rfl (mF fc74 (by rfl))).trans ?_
  refine (G_Vv (q := 40034) (y := 78) (a := a0) (c := 6) rfl rfl rfl rfl (by decide) rfl (as := [.ref a0, .int x1]) (rest := []) rfl rfl (mF fc74 (by rfl))).trans (andR (GoCv_congr fun h2 => ?_))
  refine (G_iload rfl (mF fc74 (by rfl))).trans ?_
  refine (G_istore (k := 1) (L' := [some (.ref a0), some (.int x3), some (.int x2), some (.int x3)]) rfl (ltb rfl) rfl (mF fc74 (by rfl))).trans ?_
  refine (G_aload rfl (mF fc74 (by rfl))).trans ?_
  refine (G_aload rfl (mF fc74 (by rfl))).trans ?_
  refine (G_aload rfl (mF fc74 (by rfl))).trans ?_
  refine (G_getR (c := 6) (k := 0) rfl rfl rfl (mF fc74 (by rfl))).trans (andR ?_)
  refine (G_Vi (q := 54929) (y := 107) (a := fR h2 a0 0) (c := 9) rfl rfl rfl rfl (by decide) rfl (as := [.ref (fR h2 a0 0)]) (rest := [.ref a0, .ref a0]) rfl rfl (mF fc74 (by rfl))).trans (andR (GoCi_congr fun v3 h3 => ?_))
  refine (G_Ti (q := 39009) (y := 76) rfl rfl rfl (as := [.int v3]) (rest := [.ref a0, .ref a0]) rfl rfl (mF fc74 (by rfl))).trans (GoCi_congr fun v4 h4 => ?_)
  refine (G_Vi (q := 39522) (y := 77) (a := a0) (c := 6) rfl rfl rfl rfl (by decide) rfl (as := [.ref a0, .int v4]) (rest := [.ref a0]) rfl rfl (mF fc74 (by rfl))).trans (andR (GoCi_congr fun v5 h5 => ?_))
  refine (G_Vv (q := 40034) (y := 78) (a := a0) (c := 6) rfl rfl rfl rfl (by decide) rfl (as := [.ref a0, .int v5]) (rest := []) rfl rfl (mF fc74 (by rfl))).trans (andR (GoCv_congr fun h6 => ?_))
  exact Iff.rfl
theorem b74_132 {d : Nat} {h : mHeap} {Q : Option Value → mHeap → Prop} {a0 : Nat} {x1 : Int32} {x2 : Int32} {l3 : Option Value} : Go d 74 132 [some (.ref a0), some (.int x1), some (.int x2), l3] [] h Q ↔ Go d 74 22 [some (.ref a0), some (.int x1), some (.int (x2 + ii 1)), l3] [] h Q := by
  refine (G_iinc (k := 2) (L' := [some (.ref a0), some (.int x1), some (.int (x2 + ii 1)), l3]) rfl rfl rfl (mF fc74 (by rfl))).trans ?_
  refine (G_goto (mF fc74 (by rfl))).trans ?_
  exact Iff.rfl
theorem b74_138 {d : Nat} {h : mHeap} {Q : Option Value → mHeap → Prop} {a0 : Nat} {x1 : Int32} {l2 : Option Value} {l3 : Option Value} : Go d 74 138 [some (.ref a0), some (.int x1), l2, l3] [] h Q ↔ oC h a0 = 6 ∧ GoCv d 78 [.ref a0, .int x1] h (fun h1 => Q none h1) := by
  refine (G_aload rfl (mF fc74 (by rfl))).trans ?_
  refine (G_iload rfl (mF fc74 (by rfl))).trans ?_
  refine (G_Vv (q := 40034) (y := 78) (a := a0) (c := 6) rfl rfl rfl rfl (by decide) rfl (as := [.ref a0, .int x1]) (rest := []) rfl rfl (mF fc74 (by rfl))).trans (andR (GoCv_congr fun h1 => ?_))
  exact G_return rfl (mF fc74 (by rfl))
theorem e74 {d : Nat} {h : mHeap} {K : mHeap → Prop} {a0 : Nat} : GoCv (d + 1) 74 [.ref a0] h K ↔ Go d 74 0 [some (.ref a0), none, none, none] [] h (rV K) := GoCv_entry rfl rfl
set_option maxRecDepth 20000 in
theorem fc75 : mCodes[75]? = some mc75 := rfl
theorem b75_0 {d : Nat} {h : mHeap} {Q : Option Value → mHeap → Prop} {x0 : Int32} : Go d 75 0 [some (.int x0)] [] h Q ↔ (if x0 = (ii 60) then (((ii 1) = ii 0 ∨ (ii 1) = ii 1) ∧ Q (some (.int (ii 1))) h) else ((if x0 = (ii 256) then (((ii 1) = ii 0 ∨ (ii 1) = ii 1) ∧ Q (some (.int (ii 1))) h) else ((if x0 = (ii 61) then (((ii 1) = ii 0 ∨ (ii 1) = ii 1) ∧ Q (some (.int (ii 1))) h) else ((if x0 = (ii 257) then (((ii 1) = ii 0 ∨ (ii 1) = ii 1) ∧ Q (some (.int (ii 1))) h) else ((if ¬ x0 = (ii 62) then (((ii 0) = ii 0 ∨ (ii 0) = ii 1) ∧ Q (some (.int (ii 0))) h) else (((ii 1) = ii 0 ∨ (ii 1) = ii 1) ∧ Q (some (.int (ii 1))) h)))))))))) := by
  refine (G_iload rfl (mF fc75 (by rfl))).trans ?_
  refine (G_iconst (mF fc75 (by rfl))).trans ?_
  refine (G_ieq (mF fc75 (by rfl))).trans (gi ?_ ?_)
  ·
    refine (G_iconst (mF fc75 (by rfl))).trans ?_
    refine (G_goto (mF fc75 (by rfl))).trans ?_
    exact G_ireturnZ rfl (mF fc75 (by rfl))
  ·
    refine (G_iload rfl (mF fc75 (by rfl))).trans ?_
    refine (G_iconst (mF fc75 (by rfl))).trans ?_
    refine (G_ieq (mF fc75 (by rfl))).trans (gi ?_ ?_)
    ·
      refine (G_iconst (mF fc75 (by rfl))).trans ?_
      refine (G_goto (mF fc75 (by rfl))).trans ?_
      exact G_ireturnZ rfl (mF fc75 (by rfl))
    ·
      refine (G_iload rfl (mF fc75 (by rfl))).trans ?_
      refine (G_iconst (mF fc75 (by rfl))).trans ?_
      refine (G_ieq (mF fc75 (by rfl))).trans (gi ?_ ?_)
      ·
        refine (G_iconst (mF fc75 (by rfl))).trans ?_
        refine (G_goto (mF fc75 (by rfl))).trans ?_
        exact G_ireturnZ rfl (mF fc75 (by rfl))
      ·
        refine (G_iload rfl (mF fc75 (by rfl))).trans ?_
        refine (G_iconst (mF fc75 (by rfl))).trans ?_
        refine (G_ieq (mF fc75 (by rfl))).trans (gi ?_ ?_)
        ·
          refine (G_iconst (mF fc75 (by rfl))).trans ?_
          refine (G_goto (mF fc75 (by rfl))).trans ?_
          exact G_ireturnZ rfl (mF fc75 (by rfl))
        ·
          refine (G_iload rfl (mF fc75 (by rfl))).trans ?_
          refine (G_iconst (mF fc75 (by rfl))).trans ?_
          refine (G_ine (mF fc75 (by rfl))).trans (gi ?_ ?_)
          ·
            refine (G_iconst (mF fc75 (by rfl))).trans ?_
            exact G_ireturnZ rfl (mF fc75 (by rfl))
          ·
            refine (G_iconst (mF fc75 (by rfl))).trans ?_
            refine (G_goto (mF fc75 (by rfl))).trans ?_
            exact G_ireturnZ rfl (mF fc75 (by rfl))
theorem e75 {d : Nat} {h : mHeap} {K : Int32 → mHeap → Prop} {x0 : Int32} : GoCi (d + 1) 75 [.int x0] h K ↔ Go d 75 0 [some (.int x0)] [] h (rI K) := GoCi_entry rfl rfl
set_option maxRecDepth 20000 in
theorem fc76 : mCodes[76]? = some mc76 := rfl
theorem b76_0 {d : Nat} {h : mHeap} {Q : Option Value → mHeap → Prop} {x0 : Int32} : Go d 76 0 [some (.int x0)] [] h Q ↔ (if (ii 1000) ≤ x0 then (((ii 1) = ii 0 ∨ (ii 1) = ii 1) ∧ Q (some (.int (ii 1))) h) else ((if x0 < (ii 304) then (((ii 0) = ii 0 ∨ (ii 0) = ii 1) ∧ Q (some (.int (ii 0))) h) else ((if (ii 313) < x0 then (((ii 0) = ii 0 ∨ (ii 0) = ii 1) ∧ Q (some (.int (ii 0))) h) else (((ii 1) = ii 0 ∨ (ii 1) = ii 1) ∧ Q (some (.int (ii 1))) h)))))) := by
  refine (G_iload rfl (mF fc76 (by rfl))).trans ?_
  refine (G_iconst (mF fc76 (by rfl))).trans ?_
  refine (G_ige (mF fc76 (by rfl))).trans (gi ?_ ?_)
  ·
    refine (G_iconst (mF fc76 (by rfl))).trans ?_
    refine (G_goto (mF fc76 (by rfl))).trans ?_
    exact G_ireturnZ rfl (mF fc76 (by rfl))
  ·
    refine (G_iload rfl (mF fc76 (by rfl))).trans ?_
    refine (G_iconst (mF fc76 (by rfl))).trans ?_
    refine (G_ilt (mF fc76 (by rfl))).trans (gi ?_ ?_)
    ·
      refine (G_iconst (mF fc76 (by rfl))).trans ?_
      exact G_ireturnZ rfl (mF fc76 (by rfl))
    ·
      refine (G_iload rfl (mF fc76 (by rfl))).trans ?_
      refine (G_iconst (mF fc76 (by rfl))).trans ?_
      refine (G_igt (mF fc76 (by rfl))).trans (gi ?_ ?_)
      ·
        refine (G_iconst (mF fc76 (by rfl))).trans ?_
        exact G_ireturnZ rfl (mF fc76 (by rfl))
      ·
        refine (G_iconst (mF fc76 (by rfl))).trans ?_
        refine (G_goto (mF fc76 (by rfl))).trans ?_
        exact G_ireturnZ rfl (mF fc76 (by rfl))
theorem e76 {d : Nat} {h : mHeap} {K : Int32 → mHeap → Prop} {x0 : Int32} : GoCi (d + 1) 76 [.int x0] h K ↔ Go d 76 0 [some (.int x0)] [] h (rI K) := GoCi_entry rfl rfl
set_option maxRecDepth 20000 in
theorem fc77 : mCodes[77]? = some mc77 := rfl
theorem b77_0 {d : Nat} {h : mHeap} {Q : Option Value → mHeap → Prop} {a0 : Nat} {x1 : Int32} : Go d 77 0 [some (.ref a0), some (.int x1), none] [] h Q ↔ okF h a0 6 0 2 ∧ oC h (fR h a0 0) = 9 ∧ GoCi d 107 [.ref (fR h a0 0)] h (fun v1 h1 => (if ¬ x1 = ii 0 then ((if ¬ v1 = (ii 101000) then (okF h1 a0 6 3 0 ∧ (if (fI h1 a0 3) < (ii 60) then (okF h1 a0 6 3 0 ∧ okP h1 a0 6 3 ∧ okF (sF h1 a0 3 (.int ((fI h1 a0 3) + (ii 1)))) a0 6 0 2 ∧ oC (sF h1 a0 3 (.int ((fI h1 a0 3) + (ii 1)))) (fR (sF h1 a0 3 (.int ((fI h1 a0 3) + (ii 1)))) a0 0) = 9 ∧ GoCv d 108 [.ref (fR (sF h1 a0 3 (.int ((fI h1 a0 3) + (ii 1)))) a0 0)] (sF h1 a0 3 (.int ((fI h1 a0 3) + (ii 1)))) (fun h2 => Q (some (.int v1)) h2)) else (okF h1 a0 6 0 2 ∧ oC h1 (fR h1 a0 0) = 9 ∧ GoCv d 112 [.ref (fR h1 a0 0), .int (ii 3)] h1 (fun h3 => Q (some (.int v1)) h3)))) else (okF h1 a0 6 0 2 ∧ oC h1 (fR h1 a0 0) = 9 ∧ GoCv d 112 [.ref (fR h1 a0 0), .int (ii 1)] h1 (fun h4 => Q (some (.int v1)) h4)))) else (okF h1 a0 6 0 2 ∧ oC h1 (fR h1 a0 0) = 9 ∧ GoCv d 112 [.ref (fR h1 a0 0), .int (ii 0)] h1 (fun h5 => Q (some (.int v1)) h5)))) := by
  refine (G_aload rfl (mF fc77 (by rfl))).trans ?_
  refine (G_getR (c := 6) (k := 0) rfl rfl rfl (mF fc77 (by rfl))).trans (andR ?_)
  refine (G_Vi (q := 54929) (y := 107) (a := fR h a0 0) (c := 9) rfl rfl rfl rfl (by decide) rfl (as := [.ref (fR h a0 0)]) (rest := []) rfl rfl (mF fc77 (by rfl))).trans (andR (GoCi_congr fun v1 h1 => ?_))
  refine (G_istore (k := 2) (L' := [some (.ref a0), some (.int x1), some (.int v1)]) rfl (ltb rfl) rfl (mF fc77 (by rfl))).trans ?_
  refine (G_iload rfl (mF fc77 (by rfl))).trans ?_
  refine (G_ne (mF fc77 (by rfl))).trans (gi ?_ ?_)
  ·
    refine (G_iload rfl (mF fc77 (by rfl))).trans ?_
    refine (G_iconst (mF fc77 (by rfl))).trans ?_
    refine (G_ine (mF fc77 (by rfl))).trans (gi ?_ ?_)
    ·
      refine (G_aload rfl (mF fc77 (by rfl))).trans ?_
      refine (G_getI (c := 6) (k := 3) rfl rfl rfl (mF fc77 (by rfl))).trans (andR ?_)
      refine (G_iconst (mF fc77 (by rfl))).trans ?_
      refine (G_ilt (mF fc77 (by rfl))).trans (gi ?_ ?_)
      ·
        refine (G_aload rfl (mF fc77 (by rfl))).trans ?_
        refine (G_dupr (mF fc77 (by rfl))).trans ?_
        refine (G_getI (c := 6) (k := 3) rfl rfl rfl (mF fc77 (by rfl))).trans (andR ?_)
        refine (G_iconst (mF fc77 (by rfl))).trans ?_
        refine (G_iadd (mF fc77 (by rfl))).trans ?_
        refine (G_putT (c := 6) (k := 3) rfl rfl rfl (mF fc77 (by rfl))).trans (andR ?_)
        refine (G_aload rfl (mF fc77 (by rfl))).trans ?_
        refine (G_getR (c := 6) (k := 0) rfl rfl rfl (mF fc77 (by rfl))).trans (andR ?_)
        refine (G_Vv (q := 55441) (y := 108) (a := fR (sF h1 a0 3 (.int ((fI h1 a0 3) + (ii 1)))) a0 0) (c := 9) rfl rfl rfl rfl (by decide) rfl (as := [.ref (fR (sF h1 a0 3 (.int ((fI h1 a0 3) + (ii 1)))) a0 0)]) (rest := []) rfl rfl (mF fc77 (by rfl))).trans (andR (GoCv_congr fun h2 => ?_))
        refine (G_iload rfl (mF fc77 (by rfl))).trans ?_
        exact G_ireturnI rfl (mF fc77 (by rfl))
      ·
        refine (G_aload rfl (mF fc77 (by rfl))).trans ?_
        refine (G_getR (c := 6) (k := 0) rfl rfl rfl (mF fc77 (by rfl))).trans (andR ?_)
        refine (G_iconst (mF fc77 (by rfl))).trans ?_
        refine (G_Vv (q := 57490) (y := 112) (a := fR h1 a0 0) (c := 9) rfl rfl rfl rfl (by decide) rfl (as := [.ref (fR h1 a0 0), .int (ii 3)]) (rest := []) rfl rfl (mF fc77 (by rfl))).trans (andR (GoCv_congr fun h3 => ?_))
        refine (G_goto (mF fc77 (by rfl))).trans ?_
        refine (G_iload rfl (mF fc77 (by rfl))).trans ?_
        exact G_ireturnI rfl (mF fc77 (by rfl))
    ·
      refine (G_aload rfl (mF fc77 (by rfl))).trans ?_
      refine (G_getR (c := 6) (k := 0) rfl rfl rfl (mF fc77 (by rfl))).trans (andR ?_)
      refine (G_iconst (mF fc77 (by rfl))).trans ?_
      refine (G_Vv (q := 57490) (y := 112) (a := fR h1 a0 0) (c := 9) rfl rfl rfl rfl (by decide) rfl (as := [.ref (fR h1 a0 0), .int (ii 1)]) (rest := []) rfl rfl (mF fc77 (by rfl))).trans (andR (GoCv_congr fun h4 => ?_))
      refine (G_goto (mF fc77 (by rfl))).trans ?_
      refine (G_iload rfl (mF fc77 (by rfl))).trans ?_
      exact G_ireturnI rfl (mF fc77 (by rfl))
  ·
    refine (G_aload rfl (mF fc77 (by rfl))).trans ?_
    refine (G_getR (c := 6) (k := 0) rfl rfl rfl (mF fc77 (by rfl))).trans (andR ?_)
    refine (G_iconst (mF fc77 (by rfl))).trans ?_
    refine (G_Vv (q := 57490) (y := 112) (a := fR h1 a0 0) (c := 9) rfl rfl rfl rfl (by decide) rfl (as := [.ref (fR h1 a0 0), .int (ii 0)]) (rest := []) rfl rfl (mF fc77 (by rfl))).trans (andR (GoCv_congr fun h5 => ?_))
    refine (G_goto (mF fc77 (by rfl))).trans ?_
    refine (G_iload rfl (mF fc77 (by rfl))).trans ?_
    exact G_ireturnI rfl (mF fc77 (by rfl))
theorem e77 {d : Nat} {h : mHeap} {K : Int32 → mHeap → Prop} {a0 : Nat} {x1 : Int32} : GoCi (d + 1) 77 [.ref a0, .int x1] h K ↔ Go d 77 0 [some (.ref a0), some (.int x1), none] [] h (rI K) := GoCi_entry rfl rfl
set_option maxRecDepth 20000 in
theorem fc78 : mCodes[78]? = some mc78 := rfl
theorem b78_0 {d : Nat} {h : mHeap} {Q : Option Value → mHeap → Prop} {a0 : Nat} {x1 : Int32} : Go d 78 0 [some (.ref a0), some (.int x1)] [] h Q ↔ (if x1 = (ii (-1)) then (Q none h) else (okF h a0 6 2 0 ∧ okF h a0 6 1 2 ∧ okL h (fR h a0 1) ∧ (if (ii (nL h (fR h a0 1))) ≤ (fI h a0 2) then (Q none h) else (okF h a0 6 1 2 ∧ okF h a0 6 2 0 ∧ (64 ≤ (fR h a0 1) ∧ okA h (fR h a0 1) .int (fI h a0 2)) ∧ okF (sI h (fR h a0 1) (fI h a0 2) x1) a0 6 2 0 ∧ okP (sI h (fR h a0 1) (fI h a0 2) x1) a0 6 2 ∧ Q none (sF (sI h (fR h a0 1) (fI h a0 2) x1) a0 2 (.int ((fI (sI h (fR h a0 1) (fI h a0 2) x1) a0 2) + (ii 1)))))))) := by
  refine (G_iload rfl (mF fc78 (by rfl))).trans ?_
  refine (G_iconst (mF fc78 (by rfl))).trans ?_
  refine (G_ieq (mF fc78 (by rfl))).trans (gi ?_ ?_)
  ·
    exact G_return rfl (mF fc78 (by rfl))
  ·
    refine (G_aload rfl (mF fc78 (by rfl))).trans ?_
    refine (G_getI (c := 6) (k := 2) rfl rfl rfl (mF fc78 (by rfl))).trans (andR ?_)
    refine (G_aload rfl (mF fc78 (by rfl))).trans ?_
    refine (G_getR (c := 6) (k := 1) rfl rfl rfl (mF fc78 (by rfl))).trans (andR ?_)
    refine (G_arraylength (mF fc78 (by rfl))).trans (andR ?_)
    refine (G_ige (mF fc78 (by rfl))).trans (gi ?_ ?_)
    ·
      exact G_return rfl (mF fc78 (by rfl))
    ·
      refine (G_aload rfl (mF fc78 (by rfl))).trans ?_
      refine (G_getR (c := 6) (k := 1) rfl rfl rfl (mF fc78 (by rfl))).trans (andR ?_)
      refine (G_aload rfl (mF fc78 (by rfl))).trans ?_
      refine (G_getI (c := 6) (k := 2) rfl rfl rfl (mF fc78 (by rfl))).trans (andR ?_)
      refine (G_iload rfl (mF fc78 (by rfl))).trans ?_
      refine (G_iastore (mF fc78 (by rfl))).trans (andR ?_)
      refine (G_aload rfl (mF fc78 (by rfl))).trans ?_
      refine (G_dupr (mF fc78 (by rfl))).trans ?_
      refine (G_getI (c := 6) (k := 2) rfl rfl rfl (mF fc78 (by rfl))).trans (andR ?_)
      refine (G_iconst (mF fc78 (by rfl))).trans ?_
      refine (G_iadd (mF fc78 (by rfl))).trans ?_
      refine (G_putT (c := 6) (k := 2) rfl rfl rfl (mF fc78 (by rfl))).trans (andR ?_)
      exact G_return rfl (mF fc78 (by rfl))
theorem e78 {d : Nat} {h : mHeap} {K : mHeap → Prop} {a0 : Nat} {x1 : Int32} : GoCv (d + 1) 78 [.ref a0, .int x1] h K ↔ Go d 78 0 [some (.ref a0), some (.int x1)] [] h (rV K) := GoCv_entry rfl rfl
set_option maxRecDepth 20000 in
theorem fc79 : mCodes[79]? = some mc79 := rfl
theorem b79_0 {d : Nat} {h : mHeap} {Q : Option Value → mHeap → Prop} {a0 : Nat} {a1 : Nat} : Go d 79 0 [some (.ref a0), some (.ref a1)] [] h Q ↔ 64 ≤ a0 ∧ okP h a0 7 0 ∧ Q none (sF h a0 0 (.ref a1)) := by
  refine (G_aload rfl (mF fc79 (by rfl))).trans ?_
  refine (G_objinit (Nat.le_of_ble_eq_true rfl) (mF fc79 (by rfl))).trans (andR ?_)
  refine (G_aload rfl (mF fc79 (by rfl))).trans ?_
  refine (G_aload rfl (mF fc79 (by rfl))).trans ?_
  refine (G_putT (c := 7) (k := 0) rfl rfl rfl (mF fc79 (by rfl))).trans (andR ?_)
  exact G_return rfl (mF fc79 (by rfl))
theorem e79 {d : Nat} {h : mHeap} {K : mHeap → Prop} {a0 : Nat} {a1 : Nat} : GoCv (d + 1) 79 [.ref a0, .ref a1] h K ↔ Go d 79 0 [some (.ref a0), some (.ref a1)] [] h (rV K) := GoCv_entry rfl rfl
set_option maxRecDepth 20000 in
theorem fc80 : mCodes[80]? = some mc80 := rfl
theorem b80_0 {d : Nat} {h : mHeap} {Q : Option Value → mHeap → Prop} {a0 : Nat} : Go d 80 0 [some (.ref a0), none] [] h Q ↔ okF h a0 7 0 2 ∧ oC h (fR h a0 0) = 9 ∧ GoCv d 99 [.ref (fR h a0 0)] h (fun h1 => okP h1 a0 7 1 ∧ oC (sF h1 a0 1 (.int (ii 0))) a0 = 7 ∧ GoCr d 81 [.ref a0, .int (ii 0)] (sF h1 a0 1 (.int (ii 0))) (fun v2 h2 => okF h2 a0 7 0 2 ∧ oC h2 (fR h2 a0 0) = 9 ∧ GoCv d 111 [.ref (fR h2 a0 0)] h2 (fun h3 => Q (some (.ref v2)) h3))) := by
  refine (G_aload rfl (mF fc80 (by rfl))).trans ?_
  refine (G_getR (c := 7) (k := 0) rfl rfl rfl (mF fc80 (by rfl))).trans (andR ?_)
  refine (G_Vv (q := 50833) (y := 99) (a := fR h a0 0) (c := 9) rfl rfl rfl rfl (by decide) rfl (as := [.ref (fR h a0 0)]) (rest := []) rfl rfl (mF fc80 (by rfl))).trans (andR (GoCv_congr fun h1 => ?_))
  refine (G_aload rfl (mF fc80 (by rfl))).trans ?_
  refine (G_iconst (mF fc80 (by rfl))).trans ?_
  refine (G_putT (c := 7) (k := 1) rfl rfl rfl (mF fc80 (by rfl))).trans (andR ?_)
  refine (G_aload rfl (mF fc80 (by rfl))).trans ?_
  refine (G_iconst (mF fc80 (by rfl))).trans ?_
  refine (G_Vr (q := 41586) (y := 81) (a := a0) (c := 7) rfl rfl rfl rfl (by decide) rfl (as := [.ref a0, .int (ii 0)]) (rest := []) rfl rfl (mF fc80 (by rfl))).trans (andR (GoCr_congr fun v2 h2 => ?_))
  refine (G_astore (k := 1) (L' := [some (.ref a0), some (.ref v2)]) rfl (ltb rfl) rfl (mF fc80 (by rfl))).trans ?_
  refine (G_aload rfl (mF fc80 (by rfl))).trans ?_
  refine (G_getR (c := 7) (k := 0) rfl rfl rfl (mF fc80 (by rfl))).trans (andR ?_)
  refine (G_Vv (q := 56977) (y := 111) (a := fR h2 a0 0) (c := 9) rfl rfl rfl rfl (by decide) rfl (as := [.ref (fR h2 a0 0)]) (rest := []) rfl rfl (mF fc80 (by rfl))).trans (andR (GoCv_congr fun h3 => ?_))
  refine (G_aload rfl (mF fc80 (by rfl))).trans ?_
  exact G_areturn rfl (mF fc80 (by rfl))
theorem e80 {d : Nat} {h : mHeap} {K : Nat → mHeap → Prop} {a0 : Nat} : GoCr (d + 1) 80 [.ref a0] h K ↔ Go d 80 0 [some (.ref a0), none] [] h (rR K) := GoCr_entry rfl rfl
set_option maxRecDepth 20000 in
theorem fc81 : mCodes[81]? = some mc81 := rfl
theorem b81_0 {d : Nat} {h : mHeap} {Q : Option Value → mHeap → Prop} {a0 : Nat} {x1 : Int32} : Go d 81 0 [some (.ref a0), some (.int x1), none, none, none] [] h Q ↔ (∃ h1 : mHeap, h1 = nO h 10 ∧ 64 ≤ h.length ∧ GoCv d 115 [.ref h.length] h1 (fun h2 => oC h2 a0 = 7 ∧ GoCr d 82 [.ref a0, .int x1] h2 (fun v3 h3 => Go d 81 17 [some (.ref a0), some (.int x1), some (.ref h.length), some (.ref v3), some (.int (ii 0))] [] h3 Q))) := by
  refine (G_new (mF fc81 (by rfl))).trans ?_
  refine (exN (A := fun x => Go d 81 3 [some (.ref a0), some (.int x1), none, none, none] [.ref h.length] x Q) (e := nO h 10) fun h1 => ?_)
  refine (G_dupr (mF fc81 (by rfl))).trans ?_
  refine (G_Nv (q := 59041) (y := 115) (a := h.length) rfl rfl rfl rfl (as := [.ref h.length]) (rest := [.ref h.length]) rfl rfl (mF fc81 (by rfl))).trans (andR (GoCv_congr fun h2 => ?_))
  refine (G_astore (k := 2) (L' := [some (.ref a0), some (.int x1), some (.ref h.length), none, none]) rfl (ltb rfl) rfl (mF fc81 (by rfl))).trans ?_
  refine (G_aload rfl (mF fc81 (by rfl))).trans ?_
  refine (G_iload rfl (mF fc81 (by rfl))).trans ?_
  refine (G_Vr (q := 42098) (y := 82) (a := a0) (c := 7) rfl rfl rfl rfl (by decide) rfl (as := [.ref a0, .int x1]) (rest := []) rfl rfl (mF fc81 (by rfl))).trans (andR (GoCr_congr fun v3 h3 => ?_))
  refine (G_astore (k := 3) (L' := [some (.ref a0), some (.int x1), some (.ref h.length), some (.ref v3), none]) rfl (ltb rfl) rfl (mF fc81 (by rfl))).trans ?_
  refine (G_iconst (mF fc81 (by rfl))).trans ?_
  refine (G_istore (k := 4) (L' := [some (.ref a0), some (.int x1), some (.ref h.length), some (.ref v3), some (.int (ii 0))]) rfl (ltb rfl) rfl (mF fc81 (by rfl))).trans ?_
  exact Iff.rfl
theorem b81_17 {d : Nat} {h : mHeap} {Q : Option Value → mHeap → Prop} {a0 : Nat} {x1 : Int32} {a2 : Nat} {a3 : Nat} {x4 : Int32} : Go d 81 17 [some (.ref a0), some (.int x1), some (.ref a2), some (.ref a3), some (.int x4)] [] h Q ↔ (if (ii 400) ≤ x4 then (Go d 81 80 [some (.ref a0), some (.int x1), some (.ref a2), some (.ref a3), some (.int x4)] [] h Q) else (okF h a0 7 0 2 ∧ oC h (fR h a0 0) = 9 ∧ GoCi d 109 [.ref (fR h a0 0), .int (ii 315)] h (fun v1 h1 => (if v1 = ii 0 then (okF h1 a0 7 0 2 ∧ oC h1 (fR h1 a0 0) = 9 ∧ GoCi d 109 [.ref (fR h1 a0 0), .int (ii 316)] h1 (fun v2 h2 => (if v2 = ii 0 then (Go d 81 80 [some (.ref a0), some (.int x1), some (.ref a2), some (.ref a3), some (.int x4)] [] h2 Q) else (oC h2 a2 = 10 ∧ GoCv d 122 [.ref a2, .ref a3] h2 (fun h3 => oC h3 a0 = 7 ∧ GoCr d 82 [.ref a0, .int x1] h3 (fun v4 h4 => Go d 81 74 [some (.ref a0), some (.int x1), some (.ref a2), some (.ref v4), some (.int x4)] [] h4 Q)))))) else (oC h1 a0 = 7 ∧ GoCr d 82 [.ref a0, .int x1] h1 (fun v5 h5 => oC h5 a3 = 10 ∧ GoCv d 121 [.ref a3, .ref v5] h5 (fun h6 => Go d 81 74 [some (.ref a0), some (.int x1), some (.ref a2), some (.ref a3), some (.int x4)] [] h6 Q))))))) := by
  refine (G_iload rfl (mF fc81 (by rfl))).trans ?_
  refine (G_iconst (mF fc81 (by rfl))).trans ?_
  refine (G_ige (mF fc81 (by rfl))).trans (gi ?_ ?_)
  ·
    exact Iff.rfl
  ·
    refine (G_aload rfl (mF fc81 (by rfl))).trans ?_
    refine (G_getR (c := 7) (k := 0) rfl rfl rfl (mF fc81 (by rfl))).trans (andR ?_)
    refine (G_iconst (mF fc81 (by rfl))).trans ?_
    refine (G_Vi (q := 55954) (y := 109) (a := fR h a0 0) (c := 9) rfl rfl rfl rfl (by decide) rfl (as := [.ref (fR h a0 0), .int (ii 315)]) (rest := []) rfl rfl (mF fc81 (by rfl))).trans (andR (GoCi_congr fun v1 h1 => ?_))
    refine (G_eq (mF fc81 (by rfl))).trans (gi ?_ ?_)
    ·
      refine (G_aload rfl (mF fc81 (by rfl))).trans ?_
      refine (G_getR (c := 7) (k := 0) rfl rfl rfl (mF fc81 (by rfl))).trans (andR ?_)
      refine (G_iconst (mF fc81 (by rfl))).trans ?_
      refine (G_Vi (q := 55954) (y := 109) (a := fR h1 a0 0) (c := 9) rfl rfl rfl rfl (by decide) rfl (as := [.ref (fR h1 a0 0), .int (ii 316)]) (rest := []) rfl rfl (mF fc81 (by rfl))).trans (andR (GoCi_congr fun v2 h2 => ?_))
      refine (G_eq (mF fc81 (by rfl))).trans (gi ?_ ?_)
      ·
        exact Iff.rfl
      ·
        refine (G_aload rfl (mF fc81 (by rfl))).trans ?_
        refine (G_aload rfl (mF fc81 (by rfl))).trans ?_
        refine (G_Vv (q := 62626) (y := 122) (a := a2) (c := 10) rfl rfl rfl rfl (by decide) rfl (as := [.ref a2, .ref a3]) (rest := []) rfl rfl (mF fc81 (by rfl))).trans (andR (GoCv_congr fun h3 => ?_))
        refine (G_aload rfl (mF fc81 (by rfl))).trans ?_
        refine (G_iload rfl (mF fc81 (by rfl))).trans ?_
        refine (G_Vr (q := 42098) (y := 82) (a := a0) (c := 7) rfl rfl rfl rfl (by decide) rfl (as := [.ref a0, .int x1]) (rest := []) rfl rfl (mF fc81 (by rfl))).trans (andR (GoCr_congr fun v4 h4 => ?_))
        refine (G_astore (k := 3) (L' := [some (.ref a0), some (.int x1), some (.ref a2), some (.ref v4), some (.int x4)]) rfl (ltb rfl) rfl (mF fc81 (by rfl))).trans ?_
        exact Iff.rfl
    ·
      refine (G_aload rfl (mF fc81 (by rfl))).trans ?_
      refine (G_aload rfl (mF fc81 (by rfl))).trans ?_
      refine (G_iload rfl (mF fc81 (by rfl))).trans ?_
      refine (G_Vr (q := 42098) (y := 82) (a := a0) (c := 7) rfl rfl rfl rfl (by decide) rfl (as := [.ref a0, .int x1]) (rest := [.ref a3]) rfl rfl (mF fc81 (by rfl))).trans (andR (GoCr_congr fun v5 h5 => ?_))
      refine (G_Vv (q := 62114) (y := 121) (a := a3) (c := 10) rfl rfl rfl rfl (by decide) rfl (as := [.ref a3, .ref v5]) (rest := []) rfl rfl (mF fc81 (by rfl))).trans (andR (GoCv_congr fun h6 => ?_))
      refine (G_goto (mF fc81 (by rfl))).trans ?_
      exact Iff.rfl
theorem b81_74 {d : Nat} {h : mHeap} {Q : Option Value → mHeap → Prop} {a0 : Nat} {x1 : Int32} {a2 : Nat} {a3 : Nat} {x4 : Int32} : Go d 81 74 [some (.ref a0), some (.int x1), some (.ref a2), some (.ref a3), some (.int x4)] [] h Q ↔ Go d 81 17 [some (.ref a0), some (.int x1), some (.ref a2), some (.ref a3), some (.int (x4 + ii 1))] [] h Q := by
  refine (G_iinc (k := 4) (L' := [some (.ref a0), some (.int x1), some (.ref a2), some (.ref a3), some (.int (x4 + ii 1))]) rfl rfl rfl (mF fc81 (by rfl))).trans ?_
  refine (G_goto (mF fc81 (by rfl))).trans ?_
  exact Iff.rfl
theorem b81_80 {d : Nat} {h : mHeap} {Q : Option Value → mHeap → Prop} {l0 : Option Value} {l1 : Option Value} {a2 : Nat} {a3 : Nat} {l4 : Option Value} : Go d 81 80 [l0, l1, some (.ref a2), some (.ref a3), l4] [] h Q ↔ oC h a2 = 10 ∧ GoCv d 122 [.ref a2, .ref a3] h (fun h1 => Q (some (.ref a2)) h1) := by
  refine (G_aload rfl (mF fc81 (by rfl))).trans ?_
  refine (G_aload rfl (mF fc81 (by rfl))).trans ?_
  refine (G_Vv (q := 62626) (y := 122) (a := a2) (c := 10) rfl rfl rfl rfl (by decide) rfl (as := [.ref a2, .ref a3]) (rest := []) rfl rfl (mF fc81 (by rfl))).trans (andR (GoCv_congr fun h1 => ?_))
  refine (G_aload rfl (mF fc81 (by rfl))).trans ?_
  exact G_areturn rfl (mF fc81 (by rfl))
theorem e81 {d : Nat} {h : mHeap} {K : Nat → mHeap → Prop} {a0 : Nat} {x1 : Int32} : GoCr (d + 1) 81 [.ref a0, .int x1] h K ↔ Go d 81 0 [some (.ref a0), some (.int x1), none, none, none] [] h (rR K) := GoCr_entry rfl rfl
set_option maxRecDepth 20000 in
theorem fc82 : mCodes[82]? = some mc82 := rfl
theorem b82_0 {d : Nat} {h : mHeap} {Q : Option Value → mHeap → Prop} {a0 : Nat} {x1 : Int32} : Go d 82 0 [some (.ref a0), some (.int x1), none, none] [] h Q ↔ okF h a0 7 0 2 ∧ oC h (fR h a0 0) = 9 ∧ GoCi d 107 [.ref (fR h a0 0)] h (fun v1 h1 => (if v1 = (ii 314) then (Go d 82 27 [some (.ref a0), some (.int x1), some (.int v1), none] [] h1 Q) else ((if v1 = (ii 91) then (Go d 82 27 [some (.ref a0), some (.int x1), some (.int v1), none] [] h1 Q) else (oC h1 a0 = 7 ∧ GoCr d 83 [.ref a0, .int v1] h1 (fun v2 h2 => Q (some (.ref v2)) h2)))))) := by
  refine (G_aload rfl (mF fc82 (by rfl))).trans ?_
  refine (G_getR (c := 7) (k := 0) rfl rfl rfl (mF fc82 (by rfl))).trans (andR ?_)
  refine (G_Vi (q := 54929) (y := 107) (a := fR h a0 0) (c := 9) rfl rfl rfl rfl (by decide) rfl (as := [.ref (fR h a0 0)]) (rest := []) rfl rfl (mF fc82 (by rfl))).trans (andR (GoCi_congr fun v1 h1 => ?_))
  refine (G_istore (k := 2) (L' := [some (.ref a0), some (.int x1), some (.int v1), none]) rfl (ltb rfl) rfl (mF fc82 (by rfl))).trans ?_
  refine (G_iload rfl (mF fc82 (by rfl))).trans ?_
  refine (G_iconst (mF fc82 (by rfl))).trans ?_
  refine (G_ieq (mF fc82 (by rfl))).trans (gi ?_ ?_)
  ·
    exact Iff.rfl
  ·
    refine (G_iload rfl (mF fc82 (by rfl))).trans ?_
    refine (G_iconst (mF fc82 (by rfl))).trans ?_
    refine (G_ieq (mF fc82 (by rfl))).trans (gi ?_ ?_)
    ·
      exact Iff.rfl
    ·
      refine (G_aload rfl (mF fc82 (by rfl))).trans ?_
      refine (G_iload rfl (mF fc82 (by rfl))).trans ?_
      refine (G_Vr (q := 42610) (y := 83) (a := a0) (c := 7) rfl rfl rfl rfl (by decide) rfl (as := [.ref a0, .int v1]) (rest := []) rfl rfl (mF fc82 (by rfl))).trans (andR (GoCr_congr fun v2 h2 => ?_))
      exact G_areturn rfl (mF fc82 (by rfl))
theorem b82_27 {d : Nat} {h : mHeap} {Q : Option Value → mHeap → Prop} {a0 : Nat} {x1 : Int32} {x2 : Int32} {l3 : Option Value} : Go d 82 27 [some (.ref a0), some (.int x1), some (.int x2), l3] [] h Q ↔ (if x1 < (ii 10) then (okF h a0 7 0 2 ∧ oC h (fR h a0 0) = 9 ∧ GoCv d 108 [.ref (fR h a0 0)] h (fun h1 => (if ¬ x2 = (ii 314) then (oC h1 a0 = 7 ∧ GoCr d 81 [.ref a0, .int (x1 + (ii 1))] h1 (fun v2 h2 => okF h2 a0 7 0 2 ∧ oC h2 (fR h2 a0 0) = 9 ∧ GoCv d 110 [.ref (fR h2 a0 0), .int (ii 93)] h2 (fun h3 => Q (some (.ref v2)) h3))) else (oC h1 a0 = 7 ∧ GoCr d 82 [.ref a0, .int (x1 + (ii 1))] h1 (fun v4 h4 => oC h4 v4 = 10 ∧ GoCv d 120 [.ref v4] h4 (fun h5 => Q (some (.ref v4)) h5)))))) else (okF h a0 7 0 2 ∧ oC h (fR h a0 0) = 9 ∧ GoCv d 112 [.ref (fR h a0 0), .int (ii 2)] h (fun h6 => (∃ h7 : mHeap, h7 = nO h6 10 ∧ 64 ≤ h6.length ∧ GoCv d 115 [.ref h6.length] h7 (fun h8 => Q (some (.ref h6.length)) h8))))) := by
  refine (G_iload rfl (mF fc82 (by rfl))).trans ?_
  refine (G_iconst (mF fc82 (by rfl))).trans ?_
  refine (G_ilt (mF fc82 (by rfl))).trans (gi ?_ ?_)
  ·
    refine (G_aload rfl (mF fc82 (by rfl))).trans ?_
    refine (G_getR (c := 7) (k := 0) rfl rfl rfl (mF fc82 (by rfl))).trans (andR ?_)
    refine (G_Vv (q := 55441) (y := 108) (a := fR h a0 0) (c := 9) rfl rfl rfl rfl (by decide) rfl (as := [.ref (fR h a0 0)]) (rest := []) rfl rfl (mF fc82 (by rfl))).trans (andR (GoCv_congr fun h1 => ?_))
    refine (G_iload rfl (mF fc82 (by rfl))).trans ?_
    refine (G_iconst (mF fc82 (by rfl))).trans ?_
    refine (G_ine (mF fc82 (by rfl))).trans (gi ?_ ?_)
    ·
      refine (G_aload rfl (mF fc82 (by rfl))).trans ?_
      refine (G_iload rfl (mF fc82 (by rfl))).trans ?_
      refine (G_iconst (mF fc82 (by rfl))).trans ?_
      refine (G_iadd (mF fc82 (by rfl))).trans ?_
      refine (G_Vr (q := 41586) (y := 81) (a := a0) (c := 7) rfl rfl rfl rfl (by decide) rfl (as := [.ref a0, .int (x1 + (ii 1))]) (rest := []) rfl rfl (mF fc82 (by rfl))).trans (andR (GoCr_congr fun v2 h2 => ?_))
      refine (G_astore (k := 3) (L' := [some (.ref a0), some (.int x1), some (.int x2), some (.ref v2)]) rfl (ltb rfl) rfl (mF fc82 (by rfl))).trans ?_
      refine (G_aload rfl (mF fc82 (by rfl))).trans ?_
      refine (G_getR (c := 7) (k := 0) rfl rfl rfl (mF fc82 (by rfl))).trans (andR ?_)
      refine (G_iconst (mF fc82 (by rfl))).trans ?_
      refine (G_Vv (q := 56466) (y := 110) (a := fR h2 a0 0) (c := 9) rfl rfl rfl rfl (by decide) rfl (as := [.ref (fR h2 a0 0), .int (ii 93)]) (rest := []) rfl rfl (mF fc82 (by rfl))).trans (andR (GoCv_congr fun h3 => ?_))
      refine (G_aload rfl (mF fc82 (by rfl))).trans ?_
      exact G_areturn rfl (mF fc82 (by rfl))
    ·
      refine (G_aload rfl (mF fc82 (by rfl))).trans ?_
      refine (G_iload rfl (mF fc82 (by rfl))).trans ?_
      refine (G_iconst (mF fc82 (by rfl))).trans ?_
      refine (G_iadd (mF fc82 (by rfl))).trans ?_
      refine (G_Vr (q := 42098) (y := 82) (a := a0) (c := 7) rfl rfl rfl rfl (by decide) rfl (as := [.ref a0, .int (x1 + (ii 1))]) (rest := []) rfl rfl (mF fc82 (by rfl))).trans (andR (GoCr_congr fun v4 h4 => ?_))
      refine (G_astore (k := 3) (L' := [some (.ref a0), some (.int x1), some (.int x2), some (.ref v4)]) rfl (ltb rfl) rfl (mF fc82 (by rfl))).trans ?_
      refine (G_aload rfl (mF fc82 (by rfl))).trans ?_
      refine (G_Vv (q := 61601) (y := 120) (a := v4) (c := 10) rfl rfl rfl rfl (by decide) rfl (as := [.ref v4]) (rest := []) rfl rfl (mF fc82 (by rfl))).trans (andR (GoCv_congr fun h5 => ?_))
      refine (G_aload rfl (mF fc82 (by rfl))).trans ?_
      exact G_areturn rfl (mF fc82 (by rfl))
  ·
    refine (G_aload rfl (mF fc82 (by rfl))).trans ?_
    refine (G_getR (c := 7) (k := 0) rfl rfl rfl (mF fc82 (by rfl))).trans (andR ?_)
    refine (G_iconst (mF fc82 (by rfl))).trans ?_
    refine (G_Vv (q := 57490) (y := 112) (a := fR h a0 0) (c := 9) rfl rfl rfl rfl (by decide) rfl (as := [.ref (fR h a0 0), .int (ii 2)]) (rest := []) rfl rfl (mF fc82 (by rfl))).trans (andR (GoCv_congr fun h6 => ?_))
    refine (G_new (mF fc82 (by rfl))).trans ?_
    refine (exN (A := fun x => Go d 82 44 [some (.ref a0), some (.int x1), some (.int x2), l3] [.ref h6.length] x Q) (e := nO h6 10) fun h7 => ?_)
    refine (G_dupr (mF fc82 (by rfl))).trans ?_
    refine (G_Nv (q := 59041) (y := 115) (a := h6.length) rfl rfl rfl rfl (as := [.ref h6.length]) (rest := [.ref h6.length]) rfl rfl (mF fc82 (by rfl))).trans (andR (GoCv_congr fun h8 => ?_))
    exact G_areturn rfl (mF fc82 (by rfl))
theorem e82 {d : Nat} {h : mHeap} {K : Nat → mHeap → Prop} {a0 : Nat} {x1 : Int32} : GoCr (d + 1) 82 [.ref a0, .int x1] h K ↔ Go d 82 0 [some (.ref a0), some (.int x1), none, none] [] h (rR K) := GoCr_entry rfl rfl
set_option maxRecDepth 20000 in
theorem fc83 : mCodes[83]? = some mc83 := rfl
theorem b83_0 {d : Nat} {h : mHeap} {Q : Option Value → mHeap → Prop} {a0 : Nat} {x1 : Int32} : Go d 83 0 [some (.ref a0), some (.int x1), none, none] [] h Q ↔ (∃ h1 : mHeap, h1 = nO h 10 ∧ 64 ≤ h.length ∧ GoCv d 115 [.ref h.length] h1 (fun h2 => (if (x1 - (ii 260)) < ii 0 then (Go d 83 24 [some (.ref a0), some (.int x1), some (.ref h.length), some (.int (x1 - (ii 260)))] [] h2 Q) else ((if (x1 - (ii 260)) < (ii 8) then (okF h2 a0 7 1 0 ∧ (if (fI h2 a0 1) < (ii 24) then (okF h2 a0 7 0 2 ∧ oC h2 (fR h2 a0 0) = 9 ∧ GoCv d 108 [.ref (fR h2 a0 0)] h2 (fun h3 => okF h3 a0 7 1 0 ∧ okP h3 a0 7 1 ∧ oC (sF h3 a0 1 (.int ((fI h3 a0 1) + (ii 1)))) h.length = 10 ∧ GoCv d 119 [.ref h.length, .int (x1 - (ii 260))] (sF h3 a0 1 (.int ((fI h3 a0 1) + (ii 1)))) (fun h4 => Q (some (.ref h.length)) h4))) else (okF h2 a0 7 0 2 ∧ oC h2 (fR h2 a0 0) = 9 ∧ GoCv d 112 [.ref (fR h2 a0 0), .int (ii 3)] h2 (fun h5 => Q (some (.ref h.length)) h5)))) else (Go d 83 24 [some (.ref a0), some (.int x1), some (.ref h.length), some (.int (x1 - (ii 260)))] [] h2 Q)))))) := by
  refine (G_new (mF fc83 (by rfl))).trans ?_
  refine (exN (A := fun x => Go d 83 3 [some (.ref a0), some (.int x1), none, none] [.ref h.length] x Q) (e := nO h 10) fun h1 => ?_)
  refine (G_dupr (mF fc83 (by rfl))).trans ?_
  refine (G_Nv (q := 59041) (y := 115) (a := h.length) rfl rfl rfl rfl (as := [.ref h.length]) (rest := [.ref h.length]) rfl rfl (mF fc83 (by rfl))).trans (andR (GoCv_congr fun h2 => ?_))
  refine (G_astore (k := 2) (L' := [some (.ref a0), some (.int x1), some (.ref h.length), none]) rfl (ltb rfl) rfl (mF fc83 (by rfl))).trans ?_
  refine (G_iload rfl (mF fc83 (by rfl))).trans ?_
  refine (G_iconst (mF fc83 (by rfl))).trans ?_
  refine (G_isub (mF fc83 (by rfl))).trans ?_
  refine (G_istore (k := 3) (L' := [some (.ref a0), some (.int x1), some (.ref h.length), some (.int (x1 - (ii 260)))]) rfl (ltb rfl) rfl (mF fc83 (by rfl))).trans ?_
  refine (G_iload rfl (mF fc83 (by rfl))).trans ?_
  refine (G_lt (mF fc83 (by rfl))).trans (gi ?_ ?_)
  ·
    exact Iff.rfl
  ·
    refine (G_iload rfl (mF fc83 (by rfl))).trans ?_
    refine (G_iconst (mF fc83 (by rfl))).trans ?_
    refine (G_ilt (mF fc83 (by rfl))).trans (gi ?_ ?_)
    ·
      refine (G_aload rfl (mF fc83 (by rfl))).trans ?_
      refine (G_getI (c := 7) (k := 1) rfl rfl rfl (mF fc83 (by rfl))).trans (andR ?_)
      refine (G_iconst (mF fc83 (by rfl))).trans ?_
      refine (G_ilt (mF fc83 (by rfl))).trans (gi ?_ ?_)
      ·
        refine (G_aload rfl (mF fc83 (by rfl))).trans ?_
        refine (G_getR (c := 7) (k := 0) rfl rfl rfl (mF fc83 (by rfl))).trans (andR ?_)
        refine (G_Vv (q := 55441) (y := 108) (a := fR h2 a0 0) (c := 9) rfl rfl rfl rfl (by decide) rfl (as := [.ref (fR h2 a0 0)]) (rest := []) rfl rfl (mF fc83 (by rfl))).trans (andR (GoCv_congr fun h3 => ?_))
        refine (G_aload rfl (mF fc83 (by rfl))).trans ?_
        refine (G_dupr (mF fc83 (by rfl))).trans ?_
        refine (G_getI (c := 7) (k := 1) rfl rfl rfl (mF fc83 (by rfl))).trans (andR ?_)
        refine (G_iconst (mF fc83 (by rfl))).trans ?_
        refine (G_iadd (mF fc83 (by rfl))).trans ?_
        refine (G_putT (c := 7) (k := 1) rfl rfl rfl (mF fc83 (by rfl))).trans (andR ?_)
        refine (G_aload rfl (mF fc83 (by rfl))).trans ?_
        refine (G_iload rfl (mF fc83 (by rfl))).trans ?_
        refine (G_Vv (q := 61090) (y := 119) (a := h.length) (c := 10) rfl rfl rfl rfl (by decide) rfl (as := [.ref h.length, .int (x1 - (ii 260))]) (rest := []) rfl rfl (mF fc83 (by rfl))).trans (andR (GoCv_congr fun h4 => ?_))
        refine (G_aload rfl (mF fc83 (by rfl))).trans ?_
        exact G_areturn rfl (mF fc83 (by rfl))
      ·
        refine (G_aload rfl (mF fc83 (by rfl))).trans ?_
        refine (G_getR (c := 7) (k := 0) rfl rfl rfl (mF fc83 (by rfl))).trans (andR ?_)
        refine (G_iconst (mF fc83 (by rfl))).trans ?_
        refine (G_Vv (q := 57490) (y := 112) (a := fR h2 a0 0) (c := 9) rfl rfl rfl rfl (by decide) rfl (as := [.ref (fR h2 a0 0), .int (ii 3)]) (rest := []) rfl rfl (mF fc83 (by rfl))).trans (andR (GoCv_congr fun h5 => ?_))
        refine (G_goto (mF fc83 (by rfl))).trans ?_
        refine (G_aload rfl (mF fc83 (by rfl))).trans ?_
        exact G_areturn rfl (mF fc83 (by rfl))
    ·
      exact Iff.rfl
theorem b83_24 {d : Nat} {h : mHeap} {Q : Option Value → mHeap → Prop} {a0 : Nat} {l1 : Option Value} {a2 : Nat} {l3 : Option Value} : Go d 83 24 [some (.ref a0), l1, some (.ref a2), l3] [] h Q ↔ okF h a0 7 0 2 ∧ oC h (fR h a0 0) = 9 ∧ GoCv d 112 [.ref (fR h a0 0), .int (ii 0)] h (fun h1 => Q (some (.ref a2)) h1) := by
  refine (G_aload rfl (mF fc83 (by rfl))).trans ?_
  refine (G_getR (c := 7) (k := 0) rfl rfl rfl (mF fc83 (by rfl))).trans (andR ?_)
  refine (G_iconst (mF fc83 (by rfl))).trans ?_
  refine (G_Vv (q := 57490) (y := 112) (a := fR h a0 0) (c := 9) rfl rfl rfl rfl (by decide) rfl (as := [.ref (fR h a0 0), .int (ii 0)]) (rest := []) rfl rfl (mF fc83 (by rfl))).trans (andR (GoCv_congr fun h1 => ?_))
  refine (G_goto (mF fc83 (by rfl))).trans ?_
  refine (G_aload rfl (mF fc83 (by rfl))).trans ?_
  exact G_areturn rfl (mF fc83 (by rfl))
theorem e83 {d : Nat} {h : mHeap} {K : Nat → mHeap → Prop} {a0 : Nat} {x1 : Int32} : GoCr (d + 1) 83 [.ref a0, .int x1] h K ↔ Go d 83 0 [some (.ref a0), some (.int x1), none, none] [] h (rR K) := GoCr_entry rfl rfl
set_option maxRecDepth 20000 in
theorem fc84 : mCodes[84]? = some mc84 := rfl
theorem b84_0 {d : Nat} {h : mHeap} {Q : Option Value → mHeap → Prop} {a0 : Nat} : Go d 84 0 [some (.ref a0), none] [] h Q ↔ 64 ≤ a0 ∧ okN (ii 24) ∧ (∃ h1 : mHeap, h1 = nR h 10 (ii 24) ∧ okP h1 a0 8 0 ∧ (∃ h2 : mHeap, h2 = nO (sF h1 a0 0 (.ref h.length)) 10 ∧ 64 ≤ ((sF h1 a0 0 (.ref h.length)).length) ∧ GoCv d 115 [.ref ((sF h1 a0 0 (.ref h.length)).length)] h2 (fun h3 => okP h3 a0 8 2 ∧ okN (ii 24) ∧ (∃ h4 : mHeap, h4 = nA (sF h3 a0 2 (.ref ((sF h1 a0 0 (.ref h.length)).length))) .int (ii 24) ∧ okP h4 a0 8 3 ∧ Go d 84 34 [some (.ref a0), some (.int (ii 0))] [] (sF h4 a0 3 (.ref ((sF h3 a0 2 (.ref ((sF h1 a0 0 (.ref h.length)).length))).length))) Q)))) := by
  refine (G_aload rfl (mF fc84 (by rfl))).trans ?_
  refine (G_objinit (Nat.le_of_ble_eq_true rfl) (mF fc84 (by rfl))).trans (andR ?_)
  refine (G_aload rfl (mF fc84 (by rfl))).trans ?_
  refine (G_iconst (mF fc84 (by rfl))).trans ?_
  refine (G_anewarray rfl (mF fc84 (by rfl))).trans (andR ?_)
  refine (exN (A := fun x => Go d 84 10 [some (.ref a0), none] [.ref h.length, .ref a0] x Q) (e := nR h 10 (ii 24)) fun h1 => ?_)
  refine (G_putT (c := 8) (k := 0) rfl rfl rfl (mF fc84 (by rfl))).trans (andR ?_)
  refine (G_aload rfl (mF fc84 (by rfl))).trans ?_
  refine (G_new (mF fc84 (by rfl))).trans ?_
  refine (exN (A := fun x => Go d 84 17 [some (.ref a0), none] [.ref ((sF h1 a0 0 (.ref h.length)).length), .ref a0] x Q) (e := nO (sF h1 a0 0 (.ref h.length)) 10) fun h2 => ?_)
  refine (G_dupr (mF fc84 (by rfl))).trans ?_
  refine (G_Nv (q := 59041) (y := 115) (a := (sF h1 a0 0 (.ref h.length)).length) rfl rfl rfl rfl (as := [.ref ((sF h1 a0 0 (.ref h.length)).length)]) (rest := [.ref ((sF h1 a0 0 (.ref h.length)).length), .ref a0]) rfl rfl (mF fc84 (by rfl))).trans (andR (GoCv_congr fun h3 => ?_))
  refine (G_putT (c := 8) (k := 2) rfl rfl rfl (mF fc84 (by rfl))).trans (andR ?_)
  refine (G_aload rfl (mF fc84 (by rfl))).trans ?_
  refine (G_iconst (mF fc84 (by rfl))).trans ?_
  refine (G_newarrayI (mF fc84 (by rfl))).trans (andR ?_)
  refine (exN (A := fun x => Go d 84 29 [some (.ref a0), none] [.ref ((sF h3 a0 2 (.ref ((sF h1 a0 0 (.ref h.length)).length))).length), .ref a0] x Q) (e := nA (sF h3 a0 2 (.ref ((sF h1 a0 0 (.ref h.length)).length))) .int (ii 24)) fun h4 => ?_)
  refine (G_putT (c := 8) (k := 3) rfl rfl rfl (mF fc84 (by rfl))).trans (andR ?_)
  refine (G_iconst (mF fc84 (by rfl))).trans ?_
  refine (G_istore (k := 1) (L' := [some (.ref a0), some (.int (ii 0))]) rfl (ltb rfl) rfl (mF fc84 (by rfl))).trans ?_
  exact Iff.rfl
theorem b84_34 {d : Nat} {h : mHeap} {Q : Option Value → mHeap → Prop} {a0 : Nat} {x1 : Int32} : Go d 84 34 [some (.ref a0), some (.int x1)] [] h Q ↔ (if (ii 24) ≤ x1 then (Q none h) else (okF h a0 8 0 2 ∧ (∃ h1 : mHeap, h1 = nO h 10 ∧ 64 ≤ h.length ∧ GoCv d 115 [.ref h.length] h1 (fun h2 => okS h2 (fR h a0 0) x1 h.length ∧ Go d 84 34 [some (.ref a0), some (.int (x1 + ii 1))] [] (sR h2 (fR h a0 0) x1 h.length) Q)))) := by
  refine (G_iload rfl (mF fc84 (by rfl))).trans ?_
  refine (G_iconst (mF fc84 (by rfl))).trans ?_
  refine (G_ige (mF fc84 (by rfl))).trans (gi ?_ ?_)
  ·
    exact G_return rfl (mF fc84 (by rfl))
  ·
    refine (G_aload rfl (mF fc84 (by rfl))).trans ?_
    refine (G_getR (c := 8) (k := 0) rfl rfl rfl (mF fc84 (by rfl))).trans (andR ?_)
    refine (G_iload rfl (mF fc84 (by rfl))).trans ?_
    refine (G_new (mF fc84 (by rfl))).trans ?_
    refine (exN (A := fun x => Go d 84 48 [some (.ref a0), some (.int x1)] [.ref h.length, .int x1, .ref (fR h a0 0)] x Q) (e := nO h 10) fun h1 => ?_)
    refine (G_dupr (mF fc84 (by rfl))).trans ?_
    refine (G_Nv (q := 59041) (y := 115) (a := h.length) rfl rfl rfl rfl (as := [.ref h.length]) (rest := [.ref h.length, .int x1, .ref (fR h a0 0)]) rfl rfl (mF fc84 (by rfl))).trans (andR (GoCv_congr fun h2 => ?_))
    refine (G_aastore (mF fc84 (by rfl))).trans (andR ?_)
    refine (G_iinc (k := 1) (L' := [some (.ref a0), some (.int (x1 + ii 1))]) rfl rfl rfl (mF fc84 (by rfl))).trans ?_
    refine (G_goto (mF fc84 (by rfl))).trans ?_
    exact Iff.rfl
theorem e84 {d : Nat} {h : mHeap} {K : mHeap → Prop} {a0 : Nat} : GoCv (d + 1) 84 [.ref a0] h K ↔ Go d 84 0 [some (.ref a0), none] [] h (rV K) := GoCv_entry rfl rfl
set_option maxRecDepth 20000 in
theorem fc85 : mCodes[85]? = some mc85 := rfl
theorem b85_0 {d : Nat} {h : mHeap} {Q : Option Value → mHeap → Prop} {a0 : Nat} {a1 : Nat} : Go d 85 0 [some (.ref a0), some (.ref a1)] [] h Q ↔ okF h a0 8 0 2 ∧ okF h a0 8 1 0 ∧ okR h (fR h a0 0) (fI h a0 1) ∧ oC h (eR h (fR h a0 0) (fI h a0 1)) = 10 ∧ GoCv d 117 [.ref (eR h (fR h a0 0) (fI h a0 1)), .ref a1] h (fun h1 => okF h1 a0 8 1 0 ∧ okP h1 a0 8 1 ∧ okF (sF h1 a0 1 (.int ((fI h1 a0 1) + (ii 1)))) a0 8 1 0 ∧ Q (some (.int ((fI (sF h1 a0 1 (.int ((fI h1 a0 1) + (ii 1)))) a0 1) - (ii 1)))) (sF h1 a0 1 (.int ((fI h1 a0 1) + (ii 1))))) := by
  refine (G_aload rfl (mF fc85 (by rfl))).trans ?_
  refine (G_getR (c := 8) (k := 0) rfl rfl rfl (mF fc85 (by rfl))).trans (andR ?_)
  refine (G_aload rfl (mF fc85 (by rfl))).trans ?_
  refine (G_getI (c := 8) (k := 1) rfl rfl rfl (mF fc85 (by rfl))).trans (andR ?_)
  refine (G_aaloadR rfl (mF fc85 (by rfl))).trans (andR ?_)
  refine (G_aload rfl (mF fc85 (by rfl))).trans ?_
  refine (G_Vv (q := 60066) (y := 117) (a := eR h (fR h a0 0) (fI h a0 1)) (c := 10) rfl rfl rfl rfl (by decide) rfl (as := [.ref (eR h (fR h a0 0) (fI h a0 1)), .ref a1]) (rest := []) rfl rfl (mF fc85 (by rfl))).trans (andR (GoCv_congr fun h1 => ?_))
  refine (G_aload rfl (mF fc85 (by rfl))).trans ?_
  refine (G_dupr (mF fc85 (by rfl))).trans ?_
  refine (G_getI (c := 8) (k := 1) rfl rfl rfl (mF fc85 (by rfl))).trans (andR ?_)
  refine (G_iconst (mF fc85 (by rfl))).trans ?_
  refine (G_iadd (mF fc85 (by rfl))).trans ?_
  refine (G_putT (c := 8) (k := 1) rfl rfl rfl (mF fc85 (by rfl))).trans (andR ?_)
  refine (G_aload rfl (mF fc85 (by rfl))).trans ?_
  refine (G_getI (c := 8) (k := 1) rfl rfl rfl (mF fc85 (by rfl))).trans (andR ?_)
  refine (G_iconst (mF fc85 (by rfl))).trans ?_
  refine (G_isub (mF fc85 (by rfl))).trans ?_
  exact G_ireturnI rfl (mF fc85 (by rfl))
theorem e85 {d : Nat} {h : mHeap} {K : Int32 → mHeap → Prop} {a0 : Nat} {a1 : Nat} : GoCi (d + 1) 85 [.ref a0, .ref a1] h K ↔ Go d 85 0 [some (.ref a0), some (.ref a1)] [] h (rI K) := GoCi_entry rfl rfl
set_option maxRecDepth 20000 in
theorem fc86 : mCodes[86]? = some mc86 := rfl
theorem b86_0 {d : Nat} {h : mHeap} {Q : Option Value → mHeap → Prop} {a0 : Nat} {x1 : Int32} {x2 : Int32} : Go d 86 0 [some (.ref a0), some (.int x1), some (.int x2), none] [] h Q ↔ okF h a0 8 2 2 ∧ oC h (fR h a0 2) = 10 ∧ GoCv d 118 [.ref (fR h a0 2), .int x1] h (fun h1 => Go d 86 10 [some (.ref a0), some (.int x1), some (.int x2), some (.int (ii 0))] [] h1 Q) := by
  refine (G_aload rfl (mF fc86 (by rfl))).trans ?_
  refine (G_getR (c := 8) (k := 2) rfl rfl rfl (mF fc86 (by rfl))).trans (andR ?_)
  refine (G_iload rfl (mF fc86 (by rfl))).trans ?_
  refine (G_Vv (q := 60578) (y := 118) (a := fR h a0 2) (c := 10) rfl rfl rfl rfl (by decide) rfl (as := [.ref (fR h a0 2), .int x1]) (rest := []) rfl rfl (mF fc86 (by rfl))).trans (andR (GoCv_congr fun h1 => ?_))
  refine (G_iconst (mF fc86 (by rfl))).trans ?_
  refine (G_istore (k := 3) (L' := [some (.ref a0), some (.int x1), some (.int x2), some (.int (ii 0))]) rfl (ltb rfl) rfl (mF fc86 (by rfl))).trans ?_
  exact Iff.rfl
theorem b86_10 {d : Nat} {h : mHeap} {Q : Option Value → mHeap → Prop} {a0 : Nat} {l1 : Option Value} {x2 : Int32} {x3 : Int32} : Go d 86 10 [some (.ref a0), l1, some (.int x2), some (.int x3)] [] h Q ↔ okF h a0 8 1 0 ∧ (if (fI h a0 1) ≤ x3 then (Q none h) else ((if (shr x2 x3) = ii 0 then (Q none h) else ((if ((shr x2 x3) &&& (ii 1)) = ii 0 then (Go d 86 45 [some (.ref a0), l1, some (.int x2), some (.int x3)] [] h Q) else (okF h a0 8 2 2 ∧ okF h a0 8 0 2 ∧ okR h (fR h a0 0) x3 ∧ oC h (fR h a0 2) = 10 ∧ GoCv d 121 [.ref (fR h a0 2), .ref (eR h (fR h a0 0) x3)] h (fun h1 => Go d 86 45 [some (.ref a0), l1, some (.int x2), some (.int x3)] [] h1 Q))))))) := by
  refine (G_iload rfl (mF fc86 (by rfl))).trans ?_
  refine (G_aload rfl (mF fc86 (by rfl))).trans ?_
  refine (G_getI (c := 8) (k := 1) rfl rfl rfl (mF fc86 (by rfl))).trans (andR ?_)
  refine (G_ige (mF fc86 (by rfl))).trans (gi ?_ ?_)
  ·
    exact G_return rfl (mF fc86 (by rfl))
  ·
    refine (G_iload rfl (mF fc86 (by rfl))).trans ?_
    refine (G_iload rfl (mF fc86 (by rfl))).trans ?_
    refine (G_ishr (mF fc86 (by rfl))).trans ?_
    refine (G_eq (mF fc86 (by rfl))).trans (gi ?_ ?_)
    ·
      exact G_return rfl (mF fc86 (by rfl))
    ·
      refine (G_iload rfl (mF fc86 (by rfl))).trans ?_
      refine (G_iload rfl (mF fc86 (by rfl))).trans ?_
      refine (G_ishr (mF fc86 (by rfl))).trans ?_
      refine (G_iconst (mF fc86 (by rfl))).trans ?_
      refine (G_iand (mF fc86 (by rfl))).trans ?_
      refine (G_eq (mF fc86 (by rfl))).trans (gi ?_ ?_)
      ·
        exact Iff.rfl
      ·
        refine (G_aload rfl (mF fc86 (by rfl))).trans ?_
        refine (G_getR (c := 8) (k := 2) rfl rfl rfl (mF fc86 (by rfl))).trans (andR ?_)
        refine (G_aload rfl (mF fc86 (by rfl))).trans ?_
        refine (G_getR (c := 8) (k := 0) rfl rfl rfl (mF fc86 (by rfl))).trans (andR ?_)
        refine (G_iload rfl (mF fc86 (by rfl))).trans ?_
        refine (G_aaloadR rfl (mF fc86 (by rfl))).trans (andR ?_)
        refine (G_Vv (q := 62114) (y := 121) (a := fR h a0 2) (c := 10) rfl rfl rfl rfl (by decide) rfl (as := [.ref (fR h a0 2), .ref (eR h (fR h a0 0) x3)]) (rest := []) rfl rfl (mF fc86 (by rfl))).trans (andR (GoCv_congr fun h1 => ?_))
        exact Iff.rfl
theorem b86_45 {d : Nat} {h : mHeap} {Q : Option Value → mHeap → Prop} {a0 : Nat} {l1 : Option Value} {x2 : Int32} {x3 : Int32} : Go d 86 45 [some (.ref a0), l1, some (.int x2), some (.int x3)] [] h Q ↔ Go d 86 10 [some (.ref a0), l1, some (.int x2), some (.int (x3 + ii 1))] [] h Q := by
  refine (G_iinc (k := 3) (L' := [some (.ref a0), l1, some (.int x2), some (.int (x3 + ii 1))]) rfl rfl rfl (mF fc86 (by rfl))).trans ?_
  refine (G_goto (mF fc86 (by rfl))).trans ?_
  exact Iff.rfl
theorem e86 {d : Nat} {h : mHeap} {K : mHeap → Prop} {a0 : Nat} {x1 : Int32} {x2 : Int32} : GoCv (d + 1) 86 [.ref a0, .int x1, .int x2] h K ↔ Go d 86 0 [some (.ref a0), some (.int x1), some (.int x2), none] [] h (rV K) := GoCv_entry rfl rfl
set_option maxRecDepth 20000 in
theorem fc87 : mCodes[87]? = some mc87 := rfl
theorem b87_0 {d : Nat} {h : mHeap} {Q : Option Value → mHeap → Prop} {a0 : Nat} {x1 : Int32} {x2 : Int32} {x3 : Int32} : Go d 87 0 [some (.ref a0), some (.int x1), some (.int x2), some (.int x3)] [] h Q ↔ oC h a0 = 8 ∧ GoCv d 86 [.ref a0, .int x1, .int x2] h (fun h1 => okF h1 a0 8 2 2 ∧ okF h1 a0 8 0 2 ∧ okR h1 (fR h1 a0 0) x3 ∧ oC h1 (fR h1 a0 2) = 10 ∧ GoCi d 128 [.ref (fR h1 a0 2), .ref (eR h1 (fR h1 a0 0) x3)] h1 (fun v2 h2 => (v2 = ii 0 ∨ v2 = ii 1) ∧ Q (some (.int v2)) h2)) := by
  refine (G_aload rfl (mF fc87 (by rfl))).trans ?_
  refine (G_iload rfl (mF fc87 (by rfl))).trans ?_
  refine (G_iload rfl (mF fc87 (by rfl))).trans ?_
  refine (G_Vv (q := 44163) (y := 86) (a := a0) (c := 8) rfl rfl rfl rfl (by decide) rfl (as := [.ref a0, .int x1, .int x2]) (rest := []) rfl rfl (mF fc87 (by rfl))).trans (andR (GoCv_congr fun h1 => ?_))
  refine (G_aload rfl (mF fc87 (by rfl))).trans ?_
  refine (G_getR (c := 8) (k := 2) rfl rfl rfl (mF fc87 (by rfl))).trans (andR ?_)
  refine (G_aload rfl (mF fc87 (by rfl))).trans ?_
  refine (G_getR (c := 8) (k := 0) rfl rfl rfl (mF fc87 (by rfl))).trans (andR ?_)
  refine (G_iload rfl (mF fc87 (by rfl))).trans ?_
  refine (G_aaloadR rfl (mF fc87 (by rfl))).trans (andR ?_)
  refine (G_Vi (q := 65698) (y := 128) (a := fR h1 a0 2) (c := 10) rfl rfl rfl rfl (by decide) rfl (as := [.ref (fR h1 a0 2), .ref (eR h1 (fR h1 a0 0) x3)]) (rest := []) rfl rfl (mF fc87 (by rfl))).trans (andR (GoCi_congr fun v2 h2 => ?_))
  exact G_ireturnZ rfl (mF fc87 (by rfl))
theorem e87 {d : Nat} {h : mHeap} {K : Int32 → mHeap → Prop} {a0 : Nat} {x1 : Int32} {x2 : Int32} {x3 : Int32} : GoCi (d + 1) 87 [.ref a0, .int x1, .int x2, .int x3] h K ↔ Go d 87 0 [some (.ref a0), some (.int x1), some (.int x2), some (.int x3)] [] h (rI K) := GoCi_entry rfl rfl
set_option maxRecDepth 20000 in
theorem fc88 : mCodes[88]? = some mc88 := rfl
theorem b88_0 {d : Nat} {h : mHeap} {Q : Option Value → mHeap → Prop} {a0 : Nat} {x1 : Int32} {x2 : Int32} {x3 : Int32} : Go d 88 0 [some (.ref a0), some (.int x1), some (.int x2), some (.int x3), none, none, none, none, none, none] [] h Q ↔ oC h a0 = 8 ∧ GoCi d 87 [.ref a0, .int x1, .int x2, .int x3] h (fun v1 h1 => (if ¬ v1 = ii 0 then (GoCi d 317 [.int x2] h1 (fun v2 h2 => Go d 88 34 [some (.ref a0), some (.int x1), some (.int x2), some (.int x3), some (.int x2), some (.int v2), some (.int (shl (ii 1) v2)), some (.int (ii 0)), some (.int (ii 0)), none] [] h2 Q)) else (Q (some (.int (ii (-2)))) h1))) := by
  refine (G_aload rfl (mF fc88 (by rfl))).trans ?_
  refine (G_iload rfl (mF fc88 (by rfl))).trans ?_
  refine (G_iload rfl (mF fc88 (by rfl))).trans ?_
  refine (G_iload rfl (mF fc88 (by rfl))).trans ?_
  refine (G_Vi (q := 44676) (y := 87) (a := a0) (c := 8) rfl rfl rfl rfl (by decide) rfl (as := [.ref a0, .int x1, .int x2, .int x3]) (rest := []) rfl rfl (mF fc88 (by rfl))).trans (andR (GoCi_congr fun v1 h1 => ?_))
  refine (G_ne (mF fc88 (by rfl))).trans (gi ?_ ?_)
  ·
    refine (G_iload rfl (mF fc88 (by rfl))).trans ?_
    refine (G_istore (k := 4) (L' := [some (.ref a0), some (.int x1), some (.int x2), some (.int x3), some (.int x2), none, none, none, none, none]) rfl (ltb rfl) rfl (mF fc88 (by rfl))).trans ?_
    refine (G_iload rfl (mF fc88 (by rfl))).trans ?_
    refine (G_Ti (q := 162513) (y := 317) rfl rfl rfl (as := [.int x2]) (rest := []) rfl rfl (mF fc88 (by rfl))).trans (GoCi_congr fun v2 h2 => ?_)
    refine (G_istore (k := 5) (L' := [some (.ref a0), some (.int x1), some (.int x2), some (.int x3), some (.int x2), some (.int v2), none, none, none, none]) rfl (ltb rfl) rfl (mF fc88 (by rfl))).trans ?_
    refine (G_iconst (mF fc88 (by rfl))).trans ?_
    refine (G_iload rfl (mF fc88 (by rfl))).trans ?_
    refine (G_ishl (mF fc88 (by rfl))).trans ?_
    refine (G_istore (k := 6) (L' := [some (.ref a0), some (.int x1), some (.int x2), some (.int x3), some (.int x2), some (.int v2), some (.int (shl (ii 1) v2)), none, none, none]) rfl (ltb rfl) rfl (mF fc88 (by rfl))).trans ?_
    refine (G_iconst (mF fc88 (by rfl))).trans ?_
    refine (G_istore (k := 7) (L' := [some (.ref a0), some (.int x1), some (.int x2), some (.int x3), some (.int x2), some (.int v2), some (.int (shl (ii 1) v2)), some (.int (ii 0)), none, none]) rfl (ltb rfl) rfl (mF fc88 (by rfl))).trans ?_
    refine (G_iconst (mF fc88 (by rfl))).trans ?_
    refine (G_istore (k := 8) (L' := [some (.ref a0), some (.int x1), some (.int x2), some (.int x3), some (.int x2), some (.int v2), some (.int (shl (ii 1) v2)), some (.int (ii 0)), some (.int (ii 0)), none]) rfl (ltb rfl) rfl (mF fc88 (by rfl))).trans ?_
    exact Iff.rfl
  ·
    refine (G_iconst (mF fc88 (by rfl))).trans ?_
    exact G_ireturnI rfl (mF fc88 (by rfl))
theorem b88_34 {d : Nat} {h : mHeap} {Q : Option Value → mHeap → Prop} {a0 : Nat} {x1 : Int32} {x2 : Int32} {x3 : Int32} {x4 : Int32} {x5 : Int32} {x6 : Int32} {x7 : Int32} {x8 : Int32} {l9 : Option Value} : Go d 88 34 [some (.ref a0), some (.int x1), some (.int x2), some (.int x3), some (.int x4), some (.int x5), some (.int x6), some (.int x7), some (.int x8), l9] [] h Q ↔ (if x6 ≤ x8 then (Q (some (.int x4)) h) else (GoCi d 317 [.int x7] h (fun v1 h1 => (if x5 ≤ v1 then (Go d 88 74 [some (.ref a0), some (.int x1), some (.int x2), some (.int x3), some (.int x4), some (.int x5), some (.int x6), some (.int x7), some (.int x8), some (.int v1)] [] h1 Q) else (oC h1 a0 = 8 ∧ GoCi d 87 [.ref a0, .int x1, .int x7, .int x3] h1 (fun v2 h2 => (if v2 = ii 0 then (Go d 88 74 [some (.ref a0), some (.int x1), some (.int x2), some (.int x3), some (.int x4), some (.int x5), some (.int x6), some (.int x7), some (.int x8), some (.int v1)] [] h2 Q) else (Go d 88 74 [some (.ref a0), some (.int x1), some (.int x2), some (.int x3), some (.int x7), some (.int v1), some (.int x6), some (.int x7), some (.int x8), some (.int v1)] [] h2 Q)))))))) := by
  refine (G_iload rfl (mF fc88 (by rfl))).trans ?_
  refine (G_iload rfl (mF fc88 (by rfl))).trans ?_
  refine (G_ige (mF fc88 (by rfl))).trans (gi ?_ ?_)
  ·
    refine (G_iload rfl (mF fc88 (by rfl))).trans ?_
    exact G_ireturnI rfl (mF fc88 (by rfl))
  ·
    refine (G_iload rfl (mF fc88 (by rfl))).trans ?_
    refine (G_Ti (q := 162513) (y := 317) rfl rfl rfl (as := [.int x7]) (rest := []) rfl rfl (mF fc88 (by rfl))).trans (GoCi_congr fun v1 h1 => ?_)
    refine (G_istore (k := 9) (L' := [some (.ref a0), some (.int x1), some (.int x2), some (.int x3), some (.int x4), some (.int x5), some (.int x6), some (.int x7), some (.int x8), some (.int v1)]) rfl (ltb rfl) rfl (mF fc88 (by rfl))).trans ?_
    refine (G_iload rfl (mF fc88 (by rfl))).trans ?_
    refine (G_iload rfl (mF fc88 (by rfl))).trans ?_
    refine (G_ige (mF fc88 (by rfl))).trans (gi ?_ ?_)
    ·
      exact Iff.rfl
    ·
      refine (G_aload rfl (mF fc88 (by rfl))).trans ?_
      refine (G_iload rfl (mF fc88 (by rfl))).trans ?_
      refine (G_iload rfl (mF fc88 (by rfl))).trans ?_
      refine (G_iload rfl (mF fc88 (by rfl))).trans ?_
      refine (G_Vi (q := 44676) (y := 87) (a := a0) (c := 8) rfl rfl rfl rfl (by decide) rfl (as := [.ref a0, .int x1, .int x7, .int x3]) (rest := []) rfl rfl (mF fc88 (by rfl))).trans (andR (GoCi_congr fun v2 h2 => ?_))
      refine (G_eq (mF fc88 (by rfl))).trans (gi ?_ ?_)
      ·
        exact Iff.rfl
      ·
        refine (G_iload rfl (mF fc88 (by rfl))).trans ?_
        refine (G_istore (k := 4) (L' := [some (.ref a0), some (.int x1), some (.int x2), some (.int x3), some (.int x7), some (.int x5), some (.int x6), some (.int x7), some (.int x8), some (.int v1)]) rfl (ltb rfl) rfl (mF fc88 (by rfl))).trans ?_
        refine (G_iload rfl (mF fc88 (by rfl))).trans ?_
        refine (G_istore (k := 5) (L' := [some (.ref a0), some (.int x1), some (.int x2), some (.int x3), some (.int x7), some (.int v1), some (.int x6), some (.int x7), some (.int x8), some (.int v1)]) rfl (ltb rfl) rfl (mF fc88 (by rfl))).trans ?_
        exact Iff.rfl
theorem b88_74 {d : Nat} {h : mHeap} {Q : Option Value → mHeap → Prop} {a0 : Nat} {x1 : Int32} {x2 : Int32} {x3 : Int32} {x4 : Int32} {x5 : Int32} {x6 : Int32} {x7 : Int32} {x8 : Int32} {l9 : Option Value} : Go d 88 74 [some (.ref a0), some (.int x1), some (.int x2), some (.int x3), some (.int x4), some (.int x5), some (.int x6), some (.int x7), some (.int x8), l9] [] h Q ↔ Go d 88 34 [some (.ref a0), some (.int x1), some (.int x2), some (.int x3), some (.int x4), some (.int x5), some (.int x6), some (.int ((x7 - x2) &&& x2)), some (.int (x8 + ii 1)), l9] [] h Q := by
  refine (G_iload rfl (mF fc88 (by rfl))).trans ?_
  refine (G_iload rfl (mF fc88 (by rfl))).trans ?_
  refine (G_isub (mF fc88 (by rfl))).trans ?_
  refine (G_iload rfl (mF fc88 (by rfl))).trans ?_
  refine (G_iand (mF fc88 (by rfl))).trans ?_
  refine (G_istore (k := 7) (L' := [some (.ref a0), some (.int x1), some (.int x2), some (.int x3), some (.int x4), some (.int x5), some (.int x6), some (.int ((x7 - x2) &&& x2)), some (.int x8), l9]) rfl (ltb rfl) rfl (mF fc88 (by rfl))).trans ?_
  refine (G_iinc (k := 8) (L' := [some (.ref a0), some (.int x1), some (.int x2), some (.int x3), some (.int x4), some (.int x5), some (.int x6), some (.int ((x7 - x2) &&& x2)), some (.int (x8 + ii 1)), l9]) rfl rfl rfl (mF fc88 (by rfl))).trans ?_
  refine (G_goto (mF fc88 (by rfl))).trans ?_
  exact Iff.rfl
theorem e88 {d : Nat} {h : mHeap} {K : Int32 → mHeap → Prop} {a0 : Nat} {x1 : Int32} {x2 : Int32} {x3 : Int32} : GoCi (d + 1) 88 [.ref a0, .int x1, .int x2, .int x3] h K ↔ Go d 88 0 [some (.ref a0), some (.int x1), some (.int x2), some (.int x3), none, none, none, none, none, none] [] h (rI K) := GoCi_entry rfl rfl
set_option maxRecDepth 20000 in
theorem fc89 : mCodes[89]? = some mc89 := rfl
theorem b89_0 {d : Nat} {h : mHeap} {Q : Option Value → mHeap → Prop} {a0 : Nat} {x1 : Int32} {x2 : Int32} {x3 : Int32} : Go d 89 0 [some (.ref a0), some (.int x1), some (.int x2), some (.int x3)] [] h Q ↔ okF h a0 8 2 2 ∧ oC h (fR h a0 2) = 10 ∧ GoCv d 118 [.ref (fR h a0 2), .int x1] h (fun h1 => okF h1 a0 8 2 2 ∧ okF h1 a0 8 0 2 ∧ okR h1 (fR h1 a0 0) x2 ∧ oC h1 (fR h1 a0 2) = 10 ∧ GoCv d 121 [.ref (fR h1 a0 2), .ref (eR h1 (fR h1 a0 0) x2)] h1 (fun h2 => okF h2 a0 8 2 2 ∧ okF h2 a0 8 0 2 ∧ okR h2 (fR h2 a0 0) x3 ∧ oC h2 (fR h2 a0 2) = 10 ∧ GoCi d 129 [.ref (fR h2 a0 2), .ref (eR h2 (fR h2 a0 0) x3)] h2 (fun v3 h3 => (v3 = ii 0 ∨ v3 = ii 1) ∧ Q (some (.int v3)) h3))) := by
  refine (G_aload rfl (mF fc89 (by rfl))).trans ?_
  refine (G_getR (c := 8) (k := 2) rfl rfl rfl (mF fc89 (by rfl))).trans (andR ?_)
  refine (G_iload rfl (mF fc89 (by rfl))).trans ?_
  refine (G_Vv (q := 60578) (y := 118) (a := fR h a0 2) (c := 10) rfl rfl rfl rfl (by decide) rfl (as := [.ref (fR h a0 2), .int x1]) (rest := []) rfl rfl (mF fc89 (by rfl))).trans (andR (GoCv_congr fun h1 => ?_))
  refine (G_aload rfl (mF fc89 (by rfl))).trans ?_
  refine (G_getR (c := 8) (k := 2) rfl rfl rfl (mF fc89 (by rfl))).trans (andR ?_)
  refine (G_aload rfl (mF fc89 (by rfl))).trans ?_
  refine (G_getR (c := 8) (k := 0) rfl rfl rfl (mF fc89 (by rfl))).trans (andR ?_)
  refine (G_iload rfl (mF fc89 (by rfl))).trans ?_
  refine (G_aaloadR rfl (mF fc89 (by rfl))).trans (andR ?_)
  refine (G_Vv (q := 62114) (y := 121) (a := fR h1 a0 2) (c := 10) rfl rfl rfl rfl (by decide) rfl (as := [.ref (fR h1 a0 2), .ref (eR h1 (fR h1 a0 0) x2)]) (rest := []) rfl rfl (mF fc89 (by rfl))).trans (andR (GoCv_congr fun h2 => ?_))
  refine (G_aload rfl (mF fc89 (by rfl))).trans ?_
  refine (G_getR (c := 8) (k := 2) rfl rfl rfl (mF fc89 (by rfl))).trans (andR ?_)
  refine (G_aload rfl (mF fc89 (by rfl))).trans ?_
  refine (G_getR (c := 8) (k := 0) rfl rfl rfl (mF fc89 (by rfl))).trans (andR ?_)
  refine (G_iload rfl (mF fc89 (by rfl))).trans ?_
  refine (G_aaloadR rfl (mF fc89 (by rfl))).trans (andR ?_)
  refine (G_Vi (q := 66210) (y := 129) (a := fR h2 a0 2) (c := 10) rfl rfl rfl rfl (by decide) rfl (as := [.ref (fR h2 a0 2), .ref (eR h2 (fR h2 a0 0) x3)]) (rest := []) rfl rfl (mF fc89 (by rfl))).trans (andR (GoCi_congr fun v3 h3 => ?_))
  exact G_ireturnZ rfl (mF fc89 (by rfl))
theorem e89 {d : Nat} {h : mHeap} {K : Int32 → mHeap → Prop} {a0 : Nat} {x1 : Int32} {x2 : Int32} {x3 : Int32} : GoCi (d + 1) 89 [.ref a0, .int x1, .int x2, .int x3] h K ↔ Go d 89 0 [some (.ref a0), some (.int x1), some (.int x2), some (.int x3)] [] h (rI K) := GoCi_entry rfl rfl
set_option maxRecDepth 20000 in
theorem fc90 : mCodes[90]? = some mc90 := rfl
theorem b90_0 {d : Nat} {h : mHeap} {Q : Option Value → mHeap → Prop} {a0 : Nat} {a1 : Nat} {x2 : Int32} : Go d 90 0 [some (.ref a0), some (.ref a1), some (.int x2)] [] h Q ↔ oC h a0 = 8 ∧ GoCv d 93 [.ref a0, .ref a1] h (fun h1 => (if x2 = ii 0 then (okF h1 a0 8 4 0 ∧ Q (some (.int (fI h1 a0 4))) h1) else (okF h1 a0 8 4 0 ∧ (if ¬ (fI h1 a0 4) = ii 0 then ((if ¬ x2 = (ii 1) then (oC h1 a0 = 8 ∧ GoCi d 92 [.ref a0] h1 (fun v2 h2 => okF h2 a0 8 6 0 ∧ Q (some (.int (v2 &&& ((fI h2 a0 6) ^^^ (ii (-1)))))) h2)) else (okF h1 a0 8 5 0 ∧ Q (some (.int (fI h1 a0 5))) h1))) else (okF h1 a0 8 4 0 ∧ Q (some (.int (fI h1 a0 4))) h1))))) := by
  refine (G_aload rfl (mF fc90 (by rfl))).trans ?_
  refine (G_aload rfl (mF fc90 (by rfl))).trans ?_
  refine (G_Vv (q := 47746) (y := 93) (a := a0) (c := 8) rfl rfl rfl rfl (by decide) rfl (as := [.ref a0, .ref a1]) (rest := []) rfl rfl (mF fc90 (by rfl))).trans (andR (GoCv_congr fun h1 => ?_))
  refine (G_iload rfl (mF fc90 (by rfl))).trans ?_
  refine (G_eq (mF fc90 (by rfl))).trans (gi ?_ ?_)
  ·
    refine (G_aload rfl (mF fc90 (by rfl))).trans ?_
    refine (G_getI (c := 8) (k := 4) rfl rfl rfl (mF fc90 (by rfl))).trans (andR ?_)
    exact G_ireturnI rfl (mF fc90 (by rfl))
  ·
    refine (G_aload rfl (mF fc90 (by rfl))).trans ?_
    refine (G_getI (c := 8) (k := 4) rfl rfl rfl (mF fc90 (by rfl))).trans (andR ?_)
    refine (G_ne (mF fc90 (by rfl))).trans (gi ?_ ?_)
    ·
      refine (G_iload rfl (mF fc90 (by rfl))).trans ?_
      refine (G_iconst (mF fc90 (by rfl))).trans ?_
      refine (G_ine (mF fc90 (by rfl))).trans (gi ?_ ?_)
      ·
        refine (G_aload rfl (mF fc90 (by rfl))).trans ?_
        refine (G_Vi (q := 47233) (y := 92) (a := a0) (c := 8) rfl rfl rfl rfl (by decide) rfl (as := [.ref a0]) (rest := []) rfl rfl (mF fc90 (by rfl))).trans (andR (GoCi_congr fun v2 h2 => ?_))
        refine (G_aload rfl (mF fc90 (by rfl))).trans ?_
        refine (G_getI (c := 8) (k := 6) rfl rfl rfl (mF fc90 (by rfl))).trans (andR ?_)
        refine (G_iconst (mF fc90 (by rfl))).trans ?_
        refine (G_ixor (mF fc90 (by rfl))).trans ?_
        refine (G_iand (mF fc90 (by rfl))).trans ?_
        exact G_ireturnI rfl (mF fc90 (by rfl))
      ·
        refine (G_aload rfl (mF fc90 (by rfl))).trans ?_
        refine (G_getI (c := 8) (k := 5) rfl rfl rfl (mF fc90 (by rfl))).trans (andR ?_)
        refine (G_goto (mF fc90 (by rfl))).trans ?_
        exact G_ireturnI rfl (mF fc90 (by rfl))
    ·
      refine (G_aload rfl (mF fc90 (by rfl))).trans ?_
      refine (G_getI (c := 8) (k := 4) rfl rfl rfl (mF fc90 (by rfl))).trans (andR ?_)
      exact G_ireturnI rfl (mF fc90 (by rfl))
theorem e90 {d : Nat} {h : mHeap} {K : Int32 → mHeap → Prop} {a0 : Nat} {a1 : Nat} {x2 : Int32} : GoCi (d + 1) 90 [.ref a0, .ref a1, .int x2] h K ↔ Go d 90 0 [some (.ref a0), some (.ref a1), some (.int x2)] [] h (rI K) := GoCi_entry rfl rfl
set_option maxRecDepth 20000 in
theorem fc91 : mCodes[91]? = some mc91 := rfl
theorem b91_0 {d : Nat} {h : mHeap} {Q : Option Value → mHeap → Prop} {a0 : Nat} {a1 : Nat} {x2 : Int32} : Go d 91 0 [some (.ref a0), some (.ref a1), some (.int x2), none, none, none, none] [] h Q ↔ oC h a0 = 8 ∧ GoCv d 93 [.ref a0, .ref a1] h (fun h1 => Go d 91 14 [some (.ref a0), some (.ref a1), some (.int x2), some (.int (ii (-2))), some (.int (ii 0)), some (.int (ii 0)), none] [] h1 Q) := by
  refine (G_aload rfl (mF fc91 (by rfl))).trans ?_
  refine (G_aload rfl (mF fc91 (by rfl))).trans ?_
  refine (G_Vv (q := 47746) (y := 93) (a := a0) (c := 8) rfl rfl rfl rfl (by decide) rfl (as := [.ref a0, .ref a1]) (rest := []) rfl rfl (mF fc91 (by rfl))).trans (andR (GoCv_congr fun h1 => ?_))
  refine (G_iconst (mF fc91 (by rfl))).trans ?_
  refine (G_istore (k := 3) (L' := [some (.ref a0), some (.ref a1), some (.int x2), some (.int (ii (-2))), none, none, none]) rfl (ltb rfl) rfl (mF fc91 (by rfl))).trans ?_
  refine (G_iconst (mF fc91 (by rfl))).trans ?_
  refine (G_istore (k := 4) (L' := [some (.ref a0), some (.ref a1), some (.int x2), some (.int (ii (-2))), some (.int (ii 0)), none, none]) rfl (ltb rfl) rfl (mF fc91 (by rfl))).trans ?_
  refine (G_iconst (mF fc91 (by rfl))).trans ?_
  refine (G_istore (k := 5) (L' := [some (.ref a0), some (.ref a1), some (.int x2), some (.int (ii (-2))), some (.int (ii 0)), some (.int (ii 0)), none]) rfl (ltb rfl) rfl (mF fc91 (by rfl))).trans ?_
  exact Iff.rfl
theorem b91_14 {d : Nat} {h : mHeap} {Q : Option Value → mHeap → Prop} {a0 : Nat} {l1 : Option Value} {x2 : Int32} {x3 : Int32} {x4 : Int32} {x5 : Int32} {l6 : Option Value} : Go d 91 14 [some (.ref a0), l1, some (.int x2), some (.int x3), some (.int x4), some (.int x5), l6] [] h Q ↔ okF h a0 8 1 0 ∧ (if (fI h a0 1) ≤ x5 then (Go d 91 80 [some (.ref a0), l1, some (.int x2), some (.int x3), some (.int x4), some (.int x5), l6] [] h Q) else (okF h a0 8 4 0 ∧ (if (fI h a0 4) ≤ ii 0 then (Go d 91 80 [some (.ref a0), l1, some (.int x2), some (.int x3), some (.int x4), some (.int x5), l6] [] h Q) else (okF h a0 8 3 2 ∧ okA h (fR h a0 3) .int x5 ∧ okF h a0 8 4 0 ∧ okF h a0 8 3 2 ∧ okA h (fR h a0 3) .int x5 ∧ (if x3 = (ii (-2)) then (Go d 91 67 [some (.ref a0), l1, some (.int x2), some (.int x3), some (.int x4), some (.int x5), some (.int (if (eI h (fR h a0 3) x5) < ((fI h a0 4) - (eI h (fR h a0 3) x5)) then ((fI h a0 4) - (eI h (fR h a0 3) x5)) else (eI h (fR h a0 3) x5)))] [] h Q) else ((if x4 ≤ (if (eI h (fR h a0 3) x5) < ((fI h a0 4) - (eI h (fR h a0 3) x5)) then ((fI h a0 4) - (eI h (fR h a0 3) x5)) else (eI h (fR h a0 3) x5)) then (Go d 91 74 [some (.ref a0), l1, some (.int x2), some (.int x3), some (.int x4), some (.int x5), some (.int (if (eI h (fR h a0 3) x5) < ((fI h a0 4) - (eI h (fR h a0 3) x5)) then ((fI h a0 4) - (eI h (fR h a0 3) x5)) else (eI h (fR h a0 3) x5)))] [] h Q) else (Go d 91 67 [some (.ref a0), l1, some (.int x2), some (.int x3), some (.int x4), some (.int x5), some (.int (if (eI h (fR h a0 3) x5) < ((fI h a0 4) - (eI h (fR h a0 3) x5)) then ((fI h a0 4) - (eI h (fR h a0 3) x5)) else (eI h (fR h a0 3) x5)))] [] h Q)))))))) := by
  refine (G_iload rfl (mF fc91 (by rfl))).trans ?_
  refine (G_aload rfl (mF fc91 (by rfl))).trans ?_
  refine (G_getI (c := 8) (k := 1) rfl rfl rfl (mF fc91 (by rfl))).trans (andR ?_)
  refine (G_ige (mF fc91 (by rfl))).trans (gi ?_ ?_)
  ·
    exact Iff.rfl
  ·
    refine (G_aload rfl (mF fc91 (by rfl))).trans ?_
    refine (G_getI (c := 8) (k := 4) rfl rfl rfl (mF fc91 (by rfl))).trans (andR ?_)
    refine (G_le (mF fc91 (by rfl))).trans (gi ?_ ?_)
    ·
      exact Iff.rfl
    ·
      refine (G_aload rfl (mF fc91 (by rfl))).trans ?_
      refine (G_getR (c := 8) (k := 3) rfl rfl rfl (mF fc91 (by rfl))).trans (andR ?_)
      refine (G_iload rfl (mF fc91 (by rfl))).trans ?_
      refine (G_iaload (mF fc91 (by rfl))).trans (andR ?_)
      refine (G_aload rfl (mF fc91 (by rfl))).trans ?_
      refine (G_getI (c := 8) (k := 4) rfl rfl rfl (mF fc91 (by rfl))).trans (andR ?_)
      refine (G_aload rfl (mF fc91 (by rfl))).trans ?_
      refine (G_getR (c := 8) (k := 3) rfl rfl rfl (mF fc91 (by rfl))).trans (andR ?_)
      refine (G_iload rfl (mF fc91 (by rfl))).trans ?_
      refine (G_iaload (mF fc91 (by rfl))).trans (andR ?_)
      refine (G_isub (mF fc91 (by rfl))).trans ?_
      refine (G_max (Nat.le_of_ble_eq_true rfl) (mF fc91 (by rfl))).trans ?_
      refine (G_istore (k := 6) (L' := [some (.ref a0), l1, some (.int x2), some (.int x3), some (.int x4), some (.int x5), some (.int (if (eI h (fR h a0 3) x5) < ((fI h a0 4) - (eI h (fR h a0 3) x5)) then ((fI h a0 4) - (eI h (fR h a0 3) x5)) else (eI h (fR h a0 3) x5)))]) rfl (ltb rfl) rfl (mF fc91 (by rfl))).trans ?_
      refine (G_iload rfl (mF fc91 (by rfl))).trans ?_
      refine (G_iconst (mF fc91 (by rfl))).trans ?_
      refine (G_ieq (mF fc91 (by rfl))).trans (gi ?_ ?_)
      ·
        exact Iff.rfl
      ·
        refine (G_iload rfl (mF fc91 (by rfl))).trans ?_
        refine (G_iload rfl (mF fc91 (by rfl))).trans ?_
        refine (G_ige (mF fc91 (by rfl))).trans (gi ?_ ?_)
        ·
          exact Iff.rfl
        ·
          exact Iff.rfl
theorem b91_67 {d : Nat} {h : mHeap} {Q : Option Value → mHeap → Prop} {a0 : Nat} {l1 : Option Value} {x2 : Int32} {l3 : Option Value} {l4 : Option Value} {x5 : Int32} {x6 : Int32} : Go d 91 67 [some (.ref a0), l1, some (.int x2), l3, l4, some (.int x5), some (.int x6)] [] h Q ↔ Go d 91 74 [some (.ref a0), l1, some (.int x2), some (.int x5), some (.int x6), some (.int x5), some (.int x6)] [] h Q := by
  refine (G_iload rfl (mF fc91 (by rfl))).trans ?_
  refine (G_istore (k := 3) (L' := [some (.ref a0), l1, some (.int x2), some (.int x5), l4, some (.int x5), some (.int x6)]) rfl (ltb rfl) rfl (mF fc91 (by rfl))).trans ?_
  refine (G_iload rfl (mF fc91 (by rfl))).trans ?_
  refine (G_istore (k := 4) (L' := [some (.ref a0), l1, some (.int x2), some (.int x5), some (.int x6), some (.int x5), some (.int x6)]) rfl (ltb rfl) rfl (mF fc91 (by rfl))).trans ?_
  exact Iff.rfl
theorem b91_74 {d : Nat} {h : mHeap} {Q : Option Value → mHeap → Prop} {a0 : Nat} {l1 : Option Value} {x2 : Int32} {x3 : Int32} {x4 : Int32} {x5 : Int32} {l6 : Option Value} : Go d 91 74 [some (.ref a0), l1, some (.int x2), some (.int x3), some (.int x4), some (.int x5), l6] [] h Q ↔ Go d 91 14 [some (.ref a0), l1, some (.int x2), some (.int x3), some (.int x4), some (.int (x5 + ii 1)), l6] [] h Q := by
  refine (G_iinc (k := 5) (L' := [some (.ref a0), l1, some (.int x2), some (.int x3), some (.int x4), some (.int (x5 + ii 1)), l6]) rfl rfl rfl (mF fc91 (by rfl))).trans ?_
  refine (G_goto (mF fc91 (by rfl))).trans ?_
  exact Iff.rfl
theorem b91_80 {d : Nat} {h : mHeap} {Q : Option Value → mHeap → Prop} {l0 : Option Value} {l1 : Option Value} {x2 : Int32} {x3 : Int32} {x4 : Int32} {l5 : Option Value} {l6 : Option Value} : Go d 91 80 [l0, l1, some (.int x2), some (.int x3), some (.int x4), l5, l6] [] h Q ↔ (if x2 = ii 0 then (Q (some (.int x3)) h) else ((if ¬ x3 = (ii (-2)) then (Q (some (.int x4)) h) else (Q (some (.int x3)) h)))) := by
  refine (G_iload rfl (mF fc91 (by rfl))).trans ?_
  refine (G_eq (mF fc91 (by rfl))).trans (gi ?_ ?_)
  ·
    refine (G_iload rfl (mF fc91 (by rfl))).trans ?_
    refine (G_goto (mF fc91 (by rfl))).trans ?_
    exact G_ireturnI rfl (mF fc91 (by rfl))
  ·
    refine (G_iload rfl (mF fc91 (by rfl))).trans ?_
    refine (G_iconst (mF fc91 (by rfl))).trans ?_
    refine (G_ine (mF fc91 (by rfl))).trans (gi ?_ ?_)
    ·
      refine (G_iload rfl (mF fc91 (by rfl))).trans ?_
      exact G_ireturnI rfl (mF fc91 (by rfl))
    ·
      refine (G_iload rfl (mF fc91 (by rfl))).trans ?_
      refine (G_goto (mF fc91 (by rfl))).trans ?_
      exact G_ireturnI rfl (mF fc91 (by rfl))
theorem e91 {d : Nat} {h : mHeap} {K : Int32 → mHeap → Prop} {a0 : Nat} {a1 : Nat} {x2 : Int32} : GoCi (d + 1) 91 [.ref a0, .ref a1, .int x2] h K ↔ Go d 91 0 [some (.ref a0), some (.ref a1), some (.int x2), none, none, none, none] [] h (rI K) := GoCi_entry rfl rfl
set_option maxRecDepth 20000 in
theorem fc92 : mCodes[92]? = some mc92 := rfl
theorem b92_0 {d : Nat} {h : mHeap} {Q : Option Value → mHeap → Prop} {a0 : Nat} : Go d 92 0 [some (.ref a0)] [] h Q ↔ okF h a0 8 1 0 ∧ Q (some (.int ((shl (ii 1) (if (ii 8) < (fI h a0 1) then (ii 8) else (fI h a0 1))) - (ii 1)))) h := by
  refine (G_iconst (mF fc92 (by rfl))).trans ?_
  refine (G_aload rfl (mF fc92 (by rfl))).trans ?_
  refine (G_getI (c := 8) (k := 1) rfl rfl rfl (mF fc92 (by rfl))).trans (andR ?_)
  refine (G_iconst (mF fc92 (by rfl))).trans ?_
  refine (G_min (Nat.le_of_ble_eq_true rfl) (mF fc92 (by rfl))).trans ?_
  refine (G_ishl (mF fc92 (by rfl))).trans ?_
  refine (G_iconst (mF fc92 (by rfl))).trans ?_
  refine (G_isub (mF fc92 (by rfl))).trans ?_
  exact G_ireturnI rfl (mF fc92 (by rfl))
theorem e92 {d : Nat} {h : mHeap} {K : Int32 → mHeap → Prop} {a0 : Nat} : GoCi (d + 1) 92 [.ref a0] h K ↔ Go d 92 0 [some (.ref a0)] [] h (rI K) := GoCi_entry rfl rfl
set_option maxRecDepth 20000 in
theorem fc93 : mCodes[93]? = some mc93 := rfl
theorem b93_0 {d : Nat} {h : mHeap} {Q : Option Value → mHeap → Prop} {a0 : Nat} {a1 : Nat} : Go d 93 0 [some (.ref a0), some (.ref a1), none, none] [] h Q ↔ oC h a0 = 8 ∧ GoCi d 92 [.ref a0] h (fun v1 h1 => okP h1 a0 8 4 ∧ okP (sF h1 a0 4 (.int (ii 0))) a0 8 5 ∧ okP (sF (sF h1 a0 4 (.int (ii 0))) a0 5 (.int v1)) a0 8 6 ∧ okF (sF (sF (sF h1 a0 4 (.int (ii 0))) a0 5 (.int v1)) a0 6 (.int (ii 0))) a0 8 3 2 ∧ GoCv d 325 [.ref (fR (sF (sF (sF h1 a0 4 (.int (ii 0))) a0 5 (.int v1)) a0 6 (.int (ii 0))) a0 3), .int (ii 0)] (sF (sF (sF h1 a0 4 (.int (ii 0))) a0 5 (.int v1)) a0 6 (.int (ii 0))) (fun h2 => Go d 93 30 [some (.ref a0), some (.ref a1), some (.int v1), some (.int (ii 0))] [] h2 Q)) := by
  refine (G_aload rfl (mF fc93 (by rfl))).trans ?_
  refine (G_Vi (q := 47233) (y := 92) (a := a0) (c := 8) rfl rfl rfl rfl (by decide) rfl (as := [.ref a0]) (rest := []) rfl rfl (mF fc93 (by rfl))).trans (andR (GoCi_congr fun v1 h1 => ?_))
  refine (G_istore (k := 2) (L' := [some (.ref a0), some (.ref a1), some (.int v1), none]) rfl (ltb rfl) rfl (mF fc93 (by rfl))).trans ?_
  refine (G_aload rfl (mF fc93 (by rfl))).trans ?_
  refine (G_iconst (mF fc93 (by rfl))).trans ?_
  refine (G_putT (c := 8) (k := 4) rfl rfl rfl (mF fc93 (by rfl))).trans (andR ?_)
  refine (G_aload rfl (mF fc93 (by rfl))).trans ?_
  refine (G_iload rfl (mF fc93 (by rfl))).trans ?_
  refine (G_putT (c := 8) (k := 5) rfl rfl rfl (mF fc93 (by rfl))).trans (andR ?_)
  refine (G_aload rfl (mF fc93 (by rfl))).trans ?_
  refine (G_iconst (mF fc93 (by rfl))).trans ?_
  refine (G_putT (c := 8) (k := 6) rfl rfl rfl (mF fc93 (by rfl))).trans (andR ?_)
  refine (G_aload rfl (mF fc93 (by rfl))).trans ?_
  refine (G_getR (c := 8) (k := 3) rfl rfl rfl (mF fc93 (by rfl))).trans (andR ?_)
  refine (G_iconst (mF fc93 (by rfl))).trans ?_
  refine (G_Tv (q := 166690) (y := 325) rfl rfl rfl (as := [.ref (fR (sF (sF (sF h1 a0 4 (.int (ii 0))) a0 5 (.int v1)) a0 6 (.int (ii 0))) a0 3), .int (ii 0)]) (rest := []) rfl rfl (mF fc93 (by rfl))).trans (GoCv_congr fun h2 => ?_)
  refine (G_iconst (mF fc93 (by rfl))).trans ?_
  refine (G_istore (k := 3) (L' := [some (.ref a0), some (.ref a1), some (.int v1), some (.int (ii 0))]) rfl (ltb rfl) rfl (mF fc93 (by rfl))).trans ?_
  exact Iff.rfl
theorem b93_30 {d : Nat} {h : mHeap} {Q : Option Value → mHeap → Prop} {a0 : Nat} {a1 : Nat} {x2 : Int32} {x3 : Int32} : Go d 93 30 [some (.ref a0), some (.ref a1), some (.int x2), some (.int x3)] [] h Q ↔ (if x2 < x3 then (Q none h) else (okF h a1 4 0 2 ∧ okF h (fR h a1 0) 2 0 0 ∧ oC h a0 = 8 ∧ GoCv d 86 [.ref a0, .int (fI h (fR h a1 0) 0), .int x3] h (fun h1 => oC h1 a0 = 8 ∧ GoCi d 94 [.ref a0, .ref a1] h1 (fun v2 h2 => (if v2 = ii 0 then (Go d 93 89 [some (.ref a0), some (.ref a1), some (.int x2), some (.int x3)] [] h2 Q) else (okF h2 a0 8 4 0 ∧ okP h2 a0 8 4 ∧ okF (sF h2 a0 4 (.int ((fI h2 a0 4) + (ii 1)))) a0 8 5 0 ∧ okP (sF h2 a0 4 (.int ((fI h2 a0 4) + (ii 1)))) a0 8 5 ∧ okF (sF (sF h2 a0 4 (.int ((fI h2 a0 4) + (ii 1)))) a0 5 (.int ((fI (sF h2 a0 4 (.int ((fI h2 a0 4) + (ii 1)))) a0 5) &&& x3))) a0 8 6 0 ∧ okP (sF (sF h2 a0 4 (.int ((fI h2 a0 4) + (ii 1)))) a0 5 (.int ((fI (sF h2 a0 4 (.int ((fI h2 a0 4) + (ii 1)))) a0 5) &&& x3))) a0 8 6 ∧ oC (sF (sF (sF h2 a0 4 (.int ((fI h2 a0 4) + (ii 1)))) a0 5 (.int ((fI (sF h2 a0 4 (.int ((fI h2 a0 4) + (ii 1)))) a0 5) &&& x3))) a0 6 (.int ((fI (sF (sF h2 a0 4 (.int ((fI h2 a0 4) + (ii 1)))) a0 5 (.int ((fI (sF h2 a0 4 (.int ((fI h2 a0 4) + (ii 1)))) a0 5) &&& x3))) a0 6) ||| x3))) a0 = 8 ∧ GoCv d 95 [.ref a0] (sF (sF (sF h2 a0 4 (.int ((fI h2 a0 4) + (ii 1)))) a0 5 (.int ((fI (sF h2 a0 4 (.int ((fI h2 a0 4) + (ii 1)))) a0 5) &&& x3))) a0 6 (.int ((fI (sF (sF h2 a0 4 (.int ((fI h2 a0 4) + (ii 1)))) a0 5 (.int ((fI (sF h2 a0 4 (.int ((fI h2 a0 4) + (ii 1)))) a0 5) &&& x3))) a0 6) ||| x3))) (fun h3 => Go d 93 89 [some (.ref a0), some (.ref a1), some (.int x2), some (.int x3)] [] h3 Q))))))) := by
  refine (G_iload rfl (mF fc93 (by rfl))).trans ?_
  refine (G_iload rfl (mF fc93 (by rfl))).trans ?_
  refine (G_igt (mF fc93 (by rfl))).trans (gi ?_ ?_)
  ·
    exact G_return rfl (mF fc93 (by rfl))
  ·
    refine (G_aload rfl (mF fc93 (by rfl))).trans ?_
    refine (G_aload rfl (mF fc93 (by rfl))).trans ?_
    refine (G_getR (c := 4) (k := 0) rfl rfl rfl (mF fc93 (by rfl))).trans (andR ?_)
    refine (G_getI (c := 2) (k := 0) rfl rfl rfl (mF fc93 (by rfl))).trans (andR ?_)
    refine (G_iload rfl (mF fc93 (by rfl))).trans ?_
    refine (G_Vv (q := 44163) (y := 86) (a := a0) (c := 8) rfl rfl rfl rfl (by decide) rfl (as := [.ref a0, .int (fI h (fR h a1 0) 0), .int x3]) (rest := []) rfl rfl (mF fc93 (by rfl))).trans (andR (GoCv_congr fun h1 => ?_))
    refine (G_aload rfl (mF fc93 (by rfl))).trans ?_
    refine (G_aload rfl (mF fc93 (by rfl))).trans ?_
    refine (G_Vi (q := 48258) (y := 94) (a := a0) (c := 8) rfl rfl rfl rfl (by decide) rfl (as := [.ref a0, .ref a1]) (rest := []) rfl rfl (mF fc93 (by rfl))).trans (andR (GoCi_congr fun v2 h2 => ?_))
    refine (G_eq (mF fc93 (by rfl))).trans (gi ?_ ?_)
    ·
      exact Iff.rfl
    ·
      refine (G_aload rfl (mF fc93 (by rfl))).trans ?_
      refine (G_dupr (mF fc93 (by rfl))).trans ?_
      refine (G_getI (c := 8) (k := 4) rfl rfl rfl (mF fc93 (by rfl))).trans (andR ?_)
      refine (G_iconst (mF fc93 (by rfl))).trans ?_
      refine (G_iadd (mF fc93 (by rfl))).trans ?_
      refine (G_putT (c := 8) (k := 4) rfl rfl rfl (mF fc93 (by rfl))).trans (andR ?_)
      refine (G_aload rfl (mF fc93 (by rfl))).trans ?_
      refine (G_dupr (mF fc93 (by rfl))).trans ?_
      refine (G_getI (c := 8) (k := 5) rfl rfl rfl (mF fc93 (by rfl))).trans (andR ?_)
      refine (G_iload rfl (mF fc93 (by rfl))).trans ?_
      refine (G_iand (mF fc93 (by rfl))).trans ?_
      refine (G_putT (c := 8) (k := 5) rfl rfl rfl (mF fc93 (by rfl))).trans (andR ?_)
      refine (G_aload rfl (mF fc93 (by rfl))).trans ?_
      refine (G_dupr (mF fc93 (by rfl))).trans ?_
      refine (G_getI (c := 8) (k := 6) rfl rfl rfl (mF fc93 (by rfl))).trans (andR ?_)
      refine (G_iload rfl (mF fc93 (by rfl))).trans ?_
      refine (G_ior (mF fc93 (by rfl))).trans ?_
      refine (G_putT (c := 8) (k := 6) rfl rfl rfl (mF fc93 (by rfl))).trans (andR ?_)
      refine (G_aload rfl (mF fc93 (by rfl))).trans ?_
      refine (G_Vv (q := 48769) (y := 95) (a := a0) (c := 8) rfl rfl rfl rfl (by decide) rfl (as := [.ref a0]) (rest := []) rfl rfl (mF fc93 (by rfl))).trans (andR (GoCv_congr fun h3 => ?_))
      exact Iff.rfl
theorem b93_89 {d : Nat} {h : mHeap} {Q : Option Value → mHeap → Prop} {a0 : Nat} {a1 : Nat} {x2 : Int32} {x3 : Int32} : Go d 93 89 [some (.ref a0), some (.ref a1), some (.int x2), some (.int x3)] [] h Q ↔ Go d 93 30 [some (.ref a0), some (.ref a1), some (.int x2), some (.int (x3 + ii 1))] [] h Q := by
  refine (G_iinc (k := 3) (L' := [some (.ref a0), some (.ref a1), some (.int x2), some (.int (x3 + ii 1))]) rfl rfl rfl (mF fc93 (by rfl))).trans ?_
  refine (G_goto (mF fc93 (by rfl))).trans ?_
  exact Iff.rfl
theorem e93 {d : Nat} {h : mHeap} {K : mHeap → Prop} {a0 : Nat} {a1 : Nat} : GoCv (d + 1) 93 [.ref a0, .ref a1] h K ↔ Go d 93 0 [some (.ref a0), some (.ref a1), none, none] [] h (rV K) := GoCv_entry rfl rfl
set_option maxRecDepth 20000 in
theorem fc94 : mCodes[94]? = some mc94 := rfl
theorem b94_0 {d : Nat} {h : mHeap} {Q : Option Value → mHeap → Prop} {a0 : Nat} {a1 : Nat} : Go d 94 0 [some (.ref a0), some (.ref a1), none] [] h Q ↔ Go d 94 2 [some (.ref a0), some (.ref a1), some (.int (ii 0))] [] h Q := by
  refine (G_iconst (mF fc94 (by rfl))).trans ?_
  refine (G_istore (k := 2) (L' := [some (.ref a0), some (.ref a1), some (.int (ii 0))]) rfl (ltb rfl) rfl (mF fc94 (by rfl))).trans ?_
  exact Iff.rfl
theorem b94_2 {d : Nat} {h : mHeap} {Q : Option Value → mHeap → Prop} {a0 : Nat} {a1 : Nat} {x2 : Int32} : Go d 94 2 [some (.ref a0), some (.ref a1), some (.int x2)] [] h Q ↔ okF h a1 4 4 0 ∧ (if (fI h a1 4) ≤ x2 then (((ii 1) = ii 0 ∨ (ii 1) = ii 1) ∧ Q (some (.int (ii 1))) h) else (okF h a0 8 2 2 ∧ okF h a0 8 0 2 ∧ okF h a1 4 5 2 ∧ okA h (fR h a1 5) .int x2 ∧ okR h (fR h a0 0) (eI h (fR h a1 5) x2) ∧ oC h (fR h a0 2) = 10 ∧ GoCi d 128 [.ref (fR h a0 2), .ref (eR h (fR h a0 0) (eI h (fR h a1 5) x2))] h (fun v1 h1 => oC h1 a1 = 4 ∧ GoCi d 62 [.ref a1, .int x2] h1 (fun v2 h2 => (if v1 = v2 then (Go d 94 2 [some (.ref a0), some (.ref a1), some (.int (x2 + ii 1))] [] h2 Q) else (((ii 0) = ii 0 ∨ (ii 0) = ii 1) ∧ Q (some (.int (ii 0))) h2)))))) := by
  refine (G_iload rfl (mF fc94 (by rfl))).trans ?_
  refine (G_aload rfl (mF fc94 (by rfl))).trans ?_
  refine (G_getI (c := 4) (k := 4) rfl rfl rfl (mF fc94 (by rfl))).trans (andR ?_)
  refine (G_ige (mF fc94 (by rfl))).trans (gi ?_ ?_)
  ·
    refine (G_iconst (mF fc94 (by rfl))).trans ?_
    exact G_ireturnZ rfl (mF fc94 (by rfl))
  ·
    refine (G_aload rfl (mF fc94 (by rfl))).trans ?_
    refine (G_getR (c := 8) (k := 2) rfl rfl rfl (mF fc94 (by rfl))).trans (andR ?_)
    refine (G_aload rfl (mF fc94 (by rfl))).trans ?_
    refine (G_getR (c := 8) (k := 0) rfl rfl rfl (mF fc94 (by rfl))).trans (andR ?_)
    refine (G_aload rfl (mF fc94 (by rfl))).trans ?_
    refine (G_getR (c := 4) (k := 5) rfl rfl rfl (mF fc94 (by rfl))).trans (andR ?_)
    refine (G_iload rfl (mF fc94 (by rfl))).trans ?_
    refine (G_iaload (mF fc94 (by rfl))).trans (andR ?_)
    refine (G_aaloadR rfl (mF fc94 (by rfl))).trans (andR ?_)
    refine (G_Vi (q := 65698) (y := 128) (a := fR h a0 2) (c := 10) rfl rfl rfl rfl (by decide) rfl (as := [.ref (fR h a0 2), .ref (eR h (fR h a0 0) (eI h (fR h a1 5) x2))]) (rest := []) rfl rfl (mF fc94 (by rfl))).trans (andR (GoCi_congr fun v1 h1 => ?_))
    refine (G_aload rfl (mF fc94 (by rfl))).trans ?_
    refine (G_iload rfl (mF fc94 (by rfl))).trans ?_
    refine (G_Vi (q := 31810) (y := 62) (a := a1) (c := 4) rfl rfl rfl rfl (by decide) rfl (as := [.ref a1, .int x2]) (rest := [.int v1]) rfl rfl (mF fc94 (by rfl))).trans (andR (GoCi_congr fun v2 h2 => ?_))
    refine (G_ieq (mF fc94 (by rfl))).trans (gi ?_ ?_)
    ·
      refine (G_iinc (k := 2) (L' := [some (.ref a0), some (.ref a1), some (.int (x2 + ii 1))]) rfl rfl rfl (mF fc94 (by rfl))).trans ?_
      refine (G_goto (mF fc94 (by rfl))).trans ?_
      exact Iff.rfl
    ·
      refine (G_iconst (mF fc94 (by rfl))).trans ?_
      exact G_ireturnZ rfl (mF fc94 (by rfl))
theorem e94 {d : Nat} {h : mHeap} {K : Int32 → mHeap → Prop} {a0 : Nat} {a1 : Nat} : GoCi (d + 1) 94 [.ref a0, .ref a1] h K ↔ Go d 94 0 [some (.ref a0), some (.ref a1), none] [] h (rI K) := GoCi_entry rfl rfl
set_option maxRecDepth 20000 in
theorem fc95 : mCodes[95]? = some mc95 := rfl
theorem b95_0 {d : Nat} {h : mHeap} {Q : Option Value → mHeap → Prop} {a0 : Nat} : Go d 95 0 [some (.ref a0), none] [] h Q ↔ Go d 95 2 [some (.ref a0), some (.int (ii 0))] [] h Q := by
  refine (G_iconst (mF fc95 (by rfl))).trans ?_
  refine (G_istore (k := 1) (L' := [some (.ref a0), some (.int (ii 0))]) rfl (ltb rfl) rfl (mF fc95 (by rfl))).trans ?_
  exact Iff.rfl
theorem b95_2 {d : Nat} {h : mHeap} {Q : Option Value → mHeap → Prop} {a0 : Nat} {x1 : Int32} : Go d 95 2 [some (.ref a0), some (.int x1)] [] h Q ↔ okF h a0 8 1 0 ∧ (if (fI h a0 1) ≤ x1 then (Q none h) else (okF h a0 8 2 2 ∧ okF h a0 8 0 2 ∧ okR h (fR h a0 0) x1 ∧ oC h (fR h a0 2) = 10 ∧ GoCi d 128 [.ref (fR h a0 2), .ref (eR h (fR h a0 0) x1)] h (fun v1 h1 => (if v1 = ii 0 then (Go d 95 36 [some (.ref a0), some (.int x1)] [] h1 Q) else (okF h1 a0 8 3 2 ∧ okA h1 (fR h1 a0 3) .int x1 ∧ (64 ≤ (fR h1 a0 3) ∧ okA h1 (fR h1 a0 3) .int x1) ∧ Go d 95 36 [some (.ref a0), some (.int x1)] [] (sI h1 (fR h1 a0 3) x1 ((eI h1 (fR h1 a0 3) x1) + (ii 1))) Q))))) := by
  refine (G_iload rfl (mF fc95 (by rfl))).trans ?_
  refine (G_aload rfl (mF fc95 (by rfl))).trans ?_
  refine (G_getI (c := 8) (k := 1) rfl rfl rfl (mF fc95 (by rfl))).trans (andR ?_)
  refine (G_ige (mF fc95 (by rfl))).trans (gi ?_ ?_)
  ·
    exact G_return rfl (mF fc95 (by rfl))
  ·
    refine (G_aload rfl (mF fc95 (by rfl))).trans ?_
    refine (G_getR (c := 8) (k := 2) rfl rfl rfl (mF fc95 (by rfl))).trans (andR ?_)
    refine (G_aload rfl (mF fc95 (by rfl))).trans ?_
    refine (G_getR (c := 8) (k := 0) rfl rfl rfl (mF fc95 (by rfl))).trans (andR ?_)
    refine (G_iload rfl (mF fc95 (by rfl))).trans ?_
    refine (G_aaloadR rfl (mF fc95 (by rfl))).trans (andR ?_)
    refine (G_Vi (q := 65698) (y := 128) (a := fR h a0 2) (c := 10) rfl rfl rfl rfl (by decide) rfl (as := [.ref (fR h a0 2), .ref (eR h (fR h a0 0) x1)]) (rest := []) rfl rfl (mF fc95 (by rfl))).trans (andR (GoCi_congr fun v1 h1 => ?_))
    refine (G_eq (mF fc95 (by rfl))).trans (gi ?_ ?_)
    ·
      exact Iff.rfl
    ·
      refine (G_aload rfl (mF fc95 (by rfl))).trans ?_
      refine (G_getR (c := 8) (k := 3) rfl rfl rfl (mF fc95 (by rfl))).trans (andR ?_)
      refine (G_iload rfl (mF fc95 (by rfl))).trans ?_
      refine (G_dup2r (mF fc95 (by rfl))).trans ?_
      refine (G_iaload (mF fc95 (by rfl))).trans (andR ?_)
      refine (G_iconst (mF fc95 (by rfl))).trans ?_
      refine (G_iadd (mF fc95 (by rfl))).trans ?_
      refine (G_iastore (mF fc95 (by rfl))).trans (andR ?_)
      exact Iff.rfl
theorem b95_36 {d : Nat} {h : mHeap} {Q : Option Value → mHeap → Prop} {a0 : Nat} {x1 : Int32} : Go d 95 36 [some (.ref a0), some (.int x1)] [] h Q ↔ Go d 95 2 [some (.ref a0), some (.int (x1 + ii 1))] [] h Q := by
  refine (G_iinc (k := 1) (L' := [some (.ref a0), some (.int (x1 + ii 1))]) rfl rfl rfl (mF fc95 (by rfl))).trans ?_
  refine (G_goto (mF fc95 (by rfl))).trans ?_
  exact Iff.rfl
theorem e95 {d : Nat} {h : mHeap} {K : mHeap → Prop} {a0 : Nat} : GoCv (d + 1) 95 [.ref a0] h K ↔ Go d 95 0 [some (.ref a0), none] [] h (rV K) := GoCv_entry rfl rfl
