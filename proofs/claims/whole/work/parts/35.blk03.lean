set_option maxRecDepth 20000 in
theorem fc96 : mCodes[96]? = some mc96 := rfl
theorem b96_0 {d : Nat} {h : mHeap} {Q : Option Value → mHeap → Prop} {a0 : Nat} : Go d 96 0 [some (.ref a0)] [] h Q ↔ 64 ≤ a0 ∧ okN (ii 400) ∧ (∃ h1 : mHeap, h1 = nA h .byte (ii 400) ∧ okP h1 a0 9 0 ∧ okN (ii 401) ∧ (∃ h2 : mHeap, h2 = nA (sF h1 a0 0 (.ref h.length)) .int (ii 401) ∧ okP h2 a0 9 3 ∧ okN (ii 401) ∧ (∃ h3 : mHeap, h3 = nA (sF h2 a0 3 (.ref ((sF h1 a0 0 (.ref h.length)).length))) .int (ii 401) ∧ okP h3 a0 9 4 ∧ Q none (sF h3 a0 4 (.ref ((sF h2 a0 3 (.ref ((sF h1 a0 0 (.ref h.length)).length))).length)))))) := by
  refine (G_aload rfl (mF fc96 (by rfl))).trans ?_
  refine (G_objinit (Nat.le_of_ble_eq_true rfl) (mF fc96 (by rfl))).trans (andR ?_)
  refine (G_aload rfl (mF fc96 (by rfl))).trans ?_
  refine (G_iconst (mF fc96 (by rfl))).trans ?_
  refine (G_newarrayB (mF fc96 (by rfl))).trans (andR ?_)
  refine (exN (A := fun x => Go d 96 10 [some (.ref a0)] [.ref h.length, .ref a0] x Q) (e := nA h .byte (ii 400)) fun h1 => ?_)
  refine (G_putT (c := 9) (k := 0) rfl rfl rfl (mF fc96 (by rfl))).trans (andR ?_)
  refine (G_aload rfl (mF fc96 (by rfl))).trans ?_
  refine (G_iconst (mF fc96 (by rfl))).trans ?_
  refine (G_newarrayI (mF fc96 (by rfl))).trans (andR ?_)
  refine (exN (A := fun x => Go d 96 19 [some (.ref a0)] [.ref ((sF h1 a0 0 (.ref h.length)).length), .ref a0] x Q) (e := nA (sF h1 a0 0 (.ref h.length)) .int (ii 401)) fun h2 => ?_)
  refine (G_putT (c := 9) (k := 3) rfl rfl rfl (mF fc96 (by rfl))).trans (andR ?_)
  refine (G_aload rfl (mF fc96 (by rfl))).trans ?_
  refine (G_iconst (mF fc96 (by rfl))).trans ?_
  refine (G_newarrayI (mF fc96 (by rfl))).trans (andR ?_)
  refine (exN (A := fun x => Go d 96 28 [some (.ref a0)] [.ref ((sF h2 a0 3 (.ref ((sF h1 a0 0 (.ref h.length)).length))).length), .ref a0] x Q) (e := nA (sF h2 a0 3 (.ref ((sF h1 a0 0 (.ref h.length)).length))) .int (ii 401)) fun h3 => ?_)
  refine (G_putT (c := 9) (k := 4) rfl rfl rfl (mF fc96 (by rfl))).trans (andR ?_)
  exact G_return rfl (mF fc96 (by rfl))
theorem e96 {d : Nat} {h : mHeap} {K : mHeap → Prop} {a0 : Nat} : GoCv (d + 1) 96 [.ref a0] h K ↔ Go d 96 0 [some (.ref a0)] [] h (rV K) := GoCv_entry rfl rfl
set_option maxRecDepth 20000 in
theorem fc97 : mCodes[97]? = some mc97 := rfl
theorem b97_0 {d : Nat} {h : mHeap} {Q : Option Value → mHeap → Prop} {a0 : Nat} {x1 : Int32} : Go d 97 0 [some (.ref a0), some (.int x1)] [] h Q ↔ okF h a0 9 1 0 ∧ (if ((ii 400) - x1) < (fI h a0 1) then (((ii 0) = ii 0 ∨ (ii 0) = ii 1) ∧ Q (some (.int (ii 0))) h) else (((ii 1) = ii 0 ∨ (ii 1) = ii 1) ∧ Q (some (.int (ii 1))) h)) := by
  refine (G_aload rfl (mF fc97 (by rfl))).trans ?_
  refine (G_getI (c := 9) (k := 1) rfl rfl rfl (mF fc97 (by rfl))).trans (andR ?_)
  refine (G_iconst (mF fc97 (by rfl))).trans ?_
  refine (G_iload rfl (mF fc97 (by rfl))).trans ?_
  refine (G_isub (mF fc97 (by rfl))).trans ?_
  refine (G_igt (mF fc97 (by rfl))).trans (gi ?_ ?_)
  ·
    refine (G_iconst (mF fc97 (by rfl))).trans ?_
    exact G_ireturnZ rfl (mF fc97 (by rfl))
  ·
    refine (G_iconst (mF fc97 (by rfl))).trans ?_
    refine (G_goto (mF fc97 (by rfl))).trans ?_
    exact G_ireturnZ rfl (mF fc97 (by rfl))
theorem e97 {d : Nat} {h : mHeap} {K : Int32 → mHeap → Prop} {a0 : Nat} {x1 : Int32} : GoCi (d + 1) 97 [.ref a0, .int x1] h K ↔ Go d 97 0 [some (.ref a0), some (.int x1)] [] h (rI K) := GoCi_entry rfl rfl
set_option maxRecDepth 20000 in
theorem fc98 : mCodes[98]? = some mc98 := rfl
theorem b98_0 {d : Nat} {h : mHeap} {Q : Option Value → mHeap → Prop} {a0 : Nat} {x1 : Int32} : Go d 98 0 [some (.ref a0), some (.int x1), none] [] h Q ↔ Go d 98 3 [some (.ref a0), some (.int x1), some (.int (ii 24))] [] h Q := by
  refine (G_iconst (mF fc98 (by rfl))).trans ?_
  refine (G_istore (k := 2) (L' := [some (.ref a0), some (.int x1), some (.int (ii 24))]) rfl (ltb rfl) rfl (mF fc98 (by rfl))).trans ?_
  exact Iff.rfl
theorem b98_3 {d : Nat} {h : mHeap} {Q : Option Value → mHeap → Prop} {a0 : Nat} {x1 : Int32} {x2 : Int32} : Go d 98 3 [some (.ref a0), some (.int x1), some (.int x2)] [] h Q ↔ (if x2 < ii 0 then (Q none h) else (okF h a0 9 1 0 ∧ (if (ii 400) ≤ (fI h a0 1) then (Q none h) else (okF h a0 9 0 2 ∧ okF h a0 9 1 0 ∧ (64 ≤ (fR h a0 0) ∧ okB h (fR h a0 0) (fI h a0 1)) ∧ okF (sB h (fR h a0 0) (fI h a0 1) ((shr x1 x2).toInt8.toInt32)) a0 9 1 0 ∧ okP (sB h (fR h a0 0) (fI h a0 1) ((shr x1 x2).toInt8.toInt32)) a0 9 1 ∧ Go d 98 3 [some (.ref a0), some (.int x1), some (.int (x2 + ii (-8)))] [] (sF (sB h (fR h a0 0) (fI h a0 1) ((shr x1 x2).toInt8.toInt32)) a0 1 (.int ((fI (sB h (fR h a0 0) (fI h a0 1) ((shr x1 x2).toInt8.toInt32)) a0 1) + (ii 1)))) Q)))) := by
  refine (G_iload rfl (mF fc98 (by rfl))).trans ?_
  refine (G_lt (mF fc98 (by rfl))).trans (gi ?_ ?_)
  ·
    exact G_return rfl (mF fc98 (by rfl))
  ·
    refine (G_aload rfl (mF fc98 (by rfl))).trans ?_
    refine (G_getI (c := 9) (k := 1) rfl rfl rfl (mF fc98 (by rfl))).trans (andR ?_)
    refine (G_iconst (mF fc98 (by rfl))).trans ?_
    refine (G_ige (mF fc98 (by rfl))).trans (gi ?_ ?_)
    ·
      exact G_return rfl (mF fc98 (by rfl))
    ·
      refine (G_aload rfl (mF fc98 (by rfl))).trans ?_
      refine (G_getR (c := 9) (k := 0) rfl rfl rfl (mF fc98 (by rfl))).trans (andR ?_)
      refine (G_aload rfl (mF fc98 (by rfl))).trans ?_
      refine (G_getI (c := 9) (k := 1) rfl rfl rfl (mF fc98 (by rfl))).trans (andR ?_)
      refine (G_iload rfl (mF fc98 (by rfl))).trans ?_
      refine (G_iload rfl (mF fc98 (by rfl))).trans ?_
      refine (G_ishr (mF fc98 (by rfl))).trans ?_
      refine (G_i2b (mF fc98 (by rfl))).trans ?_
      refine (G_bastore (mF fc98 (by rfl))).trans (andR ?_)
      refine (G_aload rfl (mF fc98 (by rfl))).trans ?_
      refine (G_dupr (mF fc98 (by rfl))).trans ?_
      refine (G_getI (c := 9) (k := 1) rfl rfl rfl (mF fc98 (by rfl))).trans (andR ?_)
      refine (G_iconst (mF fc98 (by rfl))).trans ?_
      refine (G_iadd (mF fc98 (by rfl))).trans ?_
      refine (G_putT (c := 9) (k := 1) rfl rfl rfl (mF fc98 (by rfl))).trans (andR ?_)
      refine (G_iinc (k := 2) (L' := [some (.ref a0), some (.int x1), some (.int (x2 + ii (-8)))]) rfl rfl rfl (mF fc98 (by rfl))).trans ?_
      refine (G_goto (mF fc98 (by rfl))).trans ?_
      exact Iff.rfl
theorem e98 {d : Nat} {h : mHeap} {K : mHeap → Prop} {a0 : Nat} {x1 : Int32} : GoCv (d + 1) 98 [.ref a0, .int x1] h K ↔ Go d 98 0 [some (.ref a0), some (.int x1), none] [] h (rV K) := GoCv_entry rfl rfl
set_option maxRecDepth 20000 in
theorem fc99 : mCodes[99]? = some mc99 := rfl
theorem b99_0 {d : Nat} {h : mHeap} {Q : Option Value → mHeap → Prop} {a0 : Nat} : Go d 99 0 [some (.ref a0), none, none] [] h Q ↔ okP h a0 9 2 ∧ okP (sF h a0 2 (.int (ii 0))) a0 9 5 ∧ okP (sF (sF h a0 2 (.int (ii 0))) a0 5 (.int (ii 0))) a0 9 6 ∧ Go d 99 19 [some (.ref a0), some (.int (ii 0)), some (.int (ii 0))] [] (sF (sF (sF h a0 2 (.int (ii 0))) a0 5 (.int (ii 0))) a0 6 (.int (ii 0))) Q := by
  refine (G_aload rfl (mF fc99 (by rfl))).trans ?_
  refine (G_iconst (mF fc99 (by rfl))).trans ?_
  refine (G_putT (c := 9) (k := 2) rfl rfl rfl (mF fc99 (by rfl))).trans (andR ?_)
  refine (G_aload rfl (mF fc99 (by rfl))).trans ?_
  refine (G_iconst (mF fc99 (by rfl))).trans ?_
  refine (G_putT (c := 9) (k := 5) rfl rfl rfl (mF fc99 (by rfl))).trans (andR ?_)
  refine (G_aload rfl (mF fc99 (by rfl))).trans ?_
  refine (G_iconst (mF fc99 (by rfl))).trans ?_
  refine (G_putT (c := 9) (k := 6) rfl rfl rfl (mF fc99 (by rfl))).trans (andR ?_)
  refine (G_iconst (mF fc99 (by rfl))).trans ?_
  refine (G_istore (k := 1) (L' := [some (.ref a0), some (.int (ii 0)), none]) rfl (ltb rfl) rfl (mF fc99 (by rfl))).trans ?_
  refine (G_iconst (mF fc99 (by rfl))).trans ?_
  refine (G_istore (k := 2) (L' := [some (.ref a0), some (.int (ii 0)), some (.int (ii 0))]) rfl (ltb rfl) rfl (mF fc99 (by rfl))).trans ?_
  exact Iff.rfl
theorem b99_19 {d : Nat} {h : mHeap} {Q : Option Value → mHeap → Prop} {a0 : Nat} {x1 : Int32} {x2 : Int32} : Go d 99 19 [some (.ref a0), some (.int x1), some (.int x2)] [] h Q ↔ okF h a0 9 1 0 ∧ (if (fI h a0 1) ≤ x2 then (okF h a0 9 1 0 ∧ oC h a0 = 9 ∧ GoCv d 100 [.ref a0, .int (ii (-1)), .int (fI h a0 1)] h (fun h1 => Q none h1)) else ((if x2 < x1 then (Go d 99 49 [some (.ref a0), some (.int x1), some (.int x2)] [] h Q) else (okF h a0 9 0 2 ∧ okB h (fR h a0 0) x2 ∧ (if (eI h (fR h a0 0) x2) = (ii 32) then (Go d 99 49 [some (.ref a0), some (.int x1), some (.int x2)] [] h Q) else (oC h a0 = 9 ∧ GoCi d 101 [.ref a0, .int x2] h (fun v2 h2 => Go d 99 49 [some (.ref a0), some (.int v2), some (.int x2)] [] h2 Q))))))) := by
  refine (G_iload rfl (mF fc99 (by rfl))).trans ?_
  refine (G_aload rfl (mF fc99 (by rfl))).trans ?_
  refine (G_getI (c := 9) (k := 1) rfl rfl rfl (mF fc99 (by rfl))).trans (andR ?_)
  refine (G_ige (mF fc99 (by rfl))).trans (gi ?_ ?_)
  ·
    refine (G_aload rfl (mF fc99 (by rfl))).trans ?_
    refine (G_iconst (mF fc99 (by rfl))).trans ?_
    refine (G_aload rfl (mF fc99 (by rfl))).trans ?_
    refine (G_getI (c := 9) (k := 1) rfl rfl rfl (mF fc99 (by rfl))).trans (andR ?_)
    refine (G_Vv (q := 51347) (y := 100) (a := a0) (c := 9) rfl rfl rfl rfl (by decide) rfl (as := [.ref a0, .int (ii (-1)), .int (fI h a0 1)]) (rest := []) rfl rfl (mF fc99 (by rfl))).trans (andR (GoCv_congr fun h1 => ?_))
    exact G_return rfl (mF fc99 (by rfl))
  ·
    refine (G_iload rfl (mF fc99 (by rfl))).trans ?_
    refine (G_iload rfl (mF fc99 (by rfl))).trans ?_
    refine (G_ilt (mF fc99 (by rfl))).trans (gi ?_ ?_)
    ·
      exact Iff.rfl
    ·
      refine (G_aload rfl (mF fc99 (by rfl))).trans ?_
      refine (G_getR (c := 9) (k := 0) rfl rfl rfl (mF fc99 (by rfl))).trans (andR ?_)
      refine (G_iload rfl (mF fc99 (by rfl))).trans ?_
      refine (G_baload (mF fc99 (by rfl))).trans (andR ?_)
      refine (G_iconst (mF fc99 (by rfl))).trans ?_
      refine (G_ieq (mF fc99 (by rfl))).trans (gi ?_ ?_)
      ·
        exact Iff.rfl
      ·
        refine (G_aload rfl (mF fc99 (by rfl))).trans ?_
        refine (G_iload rfl (mF fc99 (by rfl))).trans ?_
        refine (G_Vi (q := 51858) (y := 101) (a := a0) (c := 9) rfl rfl rfl rfl (by decide) rfl (as := [.ref a0, .int x2]) (rest := []) rfl rfl (mF fc99 (by rfl))).trans (andR (GoCi_congr fun v2 h2 => ?_))
        refine (G_istore (k := 1) (L' := [some (.ref a0), some (.int v2), some (.int x2)]) rfl (ltb rfl) rfl (mF fc99 (by rfl))).trans ?_
        exact Iff.rfl
theorem b99_49 {d : Nat} {h : mHeap} {Q : Option Value → mHeap → Prop} {a0 : Nat} {x1 : Int32} {x2 : Int32} : Go d 99 49 [some (.ref a0), some (.int x1), some (.int x2)] [] h Q ↔ Go d 99 19 [some (.ref a0), some (.int x1), some (.int (x2 + ii 1))] [] h Q := by
  refine (G_iinc (k := 2) (L' := [some (.ref a0), some (.int x1), some (.int (x2 + ii 1))]) rfl rfl rfl (mF fc99 (by rfl))).trans ?_
  refine (G_goto (mF fc99 (by rfl))).trans ?_
  exact Iff.rfl
theorem e99 {d : Nat} {h : mHeap} {K : mHeap → Prop} {a0 : Nat} : GoCv (d + 1) 99 [.ref a0] h K ↔ Go d 99 0 [some (.ref a0), none, none] [] h (rV K) := GoCv_entry rfl rfl
set_option maxRecDepth 20000 in
theorem fc100 : mCodes[100]? = some mc100 := rfl
theorem b100_0 {d : Nat} {h : mHeap} {Q : Option Value → mHeap → Prop} {a0 : Nat} {x1 : Int32} {x2 : Int32} : Go d 100 0 [some (.ref a0), some (.int x1), some (.int x2)] [] h Q ↔ okF h a0 9 3 2 ∧ okF h a0 9 5 0 ∧ (64 ≤ (fR h a0 3) ∧ okA h (fR h a0 3) .int (fI h a0 5)) ∧ okF (sI h (fR h a0 3) (fI h a0 5) x1) a0 9 4 2 ∧ okF (sI h (fR h a0 3) (fI h a0 5) x1) a0 9 5 0 ∧ (64 ≤ (fR (sI h (fR h a0 3) (fI h a0 5) x1) a0 4) ∧ okA (sI h (fR h a0 3) (fI h a0 5) x1) (fR (sI h (fR h a0 3) (fI h a0 5) x1) a0 4) .int (fI (sI h (fR h a0 3) (fI h a0 5) x1) a0 5)) ∧ okF (sI (sI h (fR h a0 3) (fI h a0 5) x1) (fR (sI h (fR h a0 3) (fI h a0 5) x1) a0 4) (fI (sI h (fR h a0 3) (fI h a0 5) x1) a0 5) x2) a0 9 5 0 ∧ okP (sI (sI h (fR h a0 3) (fI h a0 5) x1) (fR (sI h (fR h a0 3) (fI h a0 5) x1) a0 4) (fI (sI h (fR h a0 3) (fI h a0 5) x1) a0 5) x2) a0 9 5 ∧ Q none (sF (sI (sI h (fR h a0 3) (fI h a0 5) x1) (fR (sI h (fR h a0 3) (fI h a0 5) x1) a0 4) (fI (sI h (fR h a0 3) (fI h a0 5) x1) a0 5) x2) a0 5 (.int ((fI (sI (sI h (fR h a0 3) (fI h a0 5) x1) (fR (sI h (fR h a0 3) (fI h a0 5) x1) a0 4) (fI (sI h (fR h a0 3) (fI h a0 5) x1) a0 5) x2) a0 5) + (ii 1)))) := by
  refine (G_aload rfl (mF fc100 (by rfl))).trans ?_
  refine (G_getR (c := 9) (k := 3) rfl rfl rfl (mF fc100 (by rfl))).trans (andR ?_)
  refine (G_aload rfl (mF fc100 (by rfl))).trans ?_
  refine (G_getI (c := 9) (k := 5) rfl rfl rfl (mF fc100 (by rfl))).trans (andR ?_)
  refine (G_iload rfl (mF fc100 (by rfl))).trans ?_
  refine (G_iastore (mF fc100 (by rfl))).trans (andR ?_)
  refine (G_aload rfl (mF fc100 (by rfl))).trans ?_
  refine (G_getR (c := 9) (k := 4) rfl rfl rfl (mF fc100 (by rfl))).trans (andR ?_)
  refine (G_aload rfl (mF fc100 (by rfl))).trans ?_
  refine (G_getI (c := 9) (k := 5) rfl rfl rfl (mF fc100 (by rfl))).trans (andR ?_)
  refine (G_iload rfl (mF fc100 (by rfl))).trans ?_
  refine (G_iastore (mF fc100 (by rfl))).trans (andR ?_)
  refine (G_aload rfl (mF fc100 (by rfl))).trans ?_
  refine (G_dupr (mF fc100 (by rfl))).trans ?_
  refine (G_getI (c := 9) (k := 5) rfl rfl rfl (mF fc100 (by rfl))).trans (andR ?_)
  refine (G_iconst (mF fc100 (by rfl))).trans ?_
  refine (G_iadd (mF fc100 (by rfl))).trans ?_
  refine (G_putT (c := 9) (k := 5) rfl rfl rfl (mF fc100 (by rfl))).trans (andR ?_)
  exact G_return rfl (mF fc100 (by rfl))
theorem e100 {d : Nat} {h : mHeap} {K : mHeap → Prop} {a0 : Nat} {x1 : Int32} {x2 : Int32} : GoCv (d + 1) 100 [.ref a0, .int x1, .int x2] h K ↔ Go d 100 0 [some (.ref a0), some (.int x1), some (.int x2)] [] h (rV K) := GoCv_entry rfl rfl
set_option maxRecDepth 20000 in
theorem fc101 : mCodes[101]? = some mc101 := rfl
theorem b101_0 {d : Nat} {h : mHeap} {Q : Option Value → mHeap → Prop} {a0 : Nat} {x1 : Int32} : Go d 101 0 [some (.ref a0), some (.int x1), none, none] [] h Q ↔ oC h a0 = 9 ∧ GoCi d 105 [.ref a0, .int x1] h (fun v1 h1 => (if v1 = ii 0 then (oC h1 a0 = 9 ∧ GoCi d 106 [.ref a0, .int x1] h1 (fun v2 h2 => (if v2 = ii 0 then (okF h2 a0 9 0 2 ∧ okB h2 (fR h2 a0 0) x1 ∧ okF h2 a0 9 1 0 ∧ (if (fI h2 a0 1) ≤ (x1 + (ii 1)) then (Go d 101 66 [some (.ref a0), some (.int x1), some (.int ((eI h2 (fR h2 a0 0) x1) &&& (ii 255))), none] [] h2 Q) else (okF h2 a0 9 0 2 ∧ okB h2 (fR h2 a0 0) (x1 + (ii 1)) ∧ (if ¬ (eI h2 (fR h2 a0 0) (x1 + (ii 1))) = (ii 61) then (Go d 101 66 [some (.ref a0), some (.int x1), some (.int ((eI h2 (fR h2 a0 0) x1) &&& (ii 255))), none] [] h2 Q) else (Go d 101 67 [some (.ref a0), some (.int x1), some (.int ((eI h2 (fR h2 a0 0) x1) &&& (ii 255))), none] [.int (ii 1)] h2 Q))))) else (oC h2 a0 = 9 ∧ GoCi d 104 [.ref a0, .int x1] h2 (fun v3 h3 => Q (some (.int v3)) h3))))) else (oC h1 a0 = 9 ∧ GoCi d 102 [.ref a0, .int x1] h1 (fun v4 h4 => Q (some (.int v4)) h4)))) := by
  refine (G_aload rfl (mF fc101 (by rfl))).trans ?_
  refine (G_iload rfl (mF fc101 (by rfl))).trans ?_
  refine (G_Vi (q := 53906) (y := 105) (a := a0) (c := 9) rfl rfl rfl rfl (by decide) rfl (as := [.ref a0, .int x1]) (rest := []) rfl rfl (mF fc101 (by rfl))).trans (andR (GoCi_congr fun v1 h1 => ?_))
  refine (G_eq (mF fc101 (by rfl))).trans (gi ?_ ?_)
  ·
    refine (G_aload rfl (mF fc101 (by rfl))).trans ?_
    refine (G_iload rfl (mF fc101 (by rfl))).trans ?_
    refine (G_Vi (q := 54418) (y := 106) (a := a0) (c := 9) rfl rfl rfl rfl (by decide) rfl (as := [.ref a0, .int x1]) (rest := []) rfl rfl (mF fc101 (by rfl))).trans (andR (GoCi_congr fun v2 h2 => ?_))
    refine (G_eq (mF fc101 (by rfl))).trans (gi ?_ ?_)
    ·
      refine (G_aload rfl (mF fc101 (by rfl))).trans ?_
      refine (G_getR (c := 9) (k := 0) rfl rfl rfl (mF fc101 (by rfl))).trans (andR ?_)
      refine (G_iload rfl (mF fc101 (by rfl))).trans ?_
      refine (G_baload (mF fc101 (by rfl))).trans (andR ?_)
      refine (G_iconst (mF fc101 (by rfl))).trans ?_
      refine (G_iand (mF fc101 (by rfl))).trans ?_
      refine (G_istore (k := 2) (L' := [some (.ref a0), some (.int x1), some (.int ((eI h2 (fR h2 a0 0) x1) &&& (ii 255))), none]) rfl (ltb rfl) rfl (mF fc101 (by rfl))).trans ?_
      refine (G_iload rfl (mF fc101 (by rfl))).trans ?_
      refine (G_iconst (mF fc101 (by rfl))).trans ?_
      refine (G_iadd (mF fc101 (by rfl))).trans ?_
      refine (G_aload rfl (mF fc101 (by rfl))).trans ?_
      refine (G_getI (c := 9) (k := 1) rfl rfl rfl (mF fc101 (by rfl))).trans (andR ?_)
      refine (G_ige (mF fc101 (by rfl))).trans (gi ?_ ?_)
      ·
        exact Iff.rfl
      ·
        refine (G_aload rfl (mF fc101 (by rfl))).trans ?_
        refine (G_getR (c := 9) (k := 0) rfl rfl rfl (mF fc101 (by rfl))).trans (andR ?_)
        refine (G_iload rfl (mF fc101 (by rfl))).trans ?_
        refine (G_iconst (mF fc101 (by rfl))).trans ?_
        refine (G_iadd (mF fc101 (by rfl))).trans ?_
        refine (G_baload (mF fc101 (by rfl))).trans (andR ?_)
        refine (G_iconst (mF fc101 (by rfl))).trans ?_
        refine (G_ine (mF fc101 (by rfl))).trans (gi ?_ ?_)
        ·
          exact Iff.rfl
        ·
          refine (G_iconst (mF fc101 (by rfl))).trans ?_
          refine (G_goto (mF fc101 (by rfl))).trans ?_
          exact Iff.rfl
    ·
      refine (G_aload rfl (mF fc101 (by rfl))).trans ?_
      refine (G_iload rfl (mF fc101 (by rfl))).trans ?_
      refine (G_Vi (q := 53394) (y := 104) (a := a0) (c := 9) rfl rfl rfl rfl (by decide) rfl (as := [.ref a0, .int x1]) (rest := []) rfl rfl (mF fc101 (by rfl))).trans (andR (GoCi_congr fun v3 h3 => ?_))
      exact G_ireturnI rfl (mF fc101 (by rfl))
  ·
    refine (G_aload rfl (mF fc101 (by rfl))).trans ?_
    refine (G_iload rfl (mF fc101 (by rfl))).trans ?_
    refine (G_Vi (q := 52370) (y := 102) (a := a0) (c := 9) rfl rfl rfl rfl (by decide) rfl (as := [.ref a0, .int x1]) (rest := []) rfl rfl (mF fc101 (by rfl))).trans (andR (GoCi_congr fun v4 h4 => ?_))
    exact G_ireturnI rfl (mF fc101 (by rfl))
theorem b101_66 {d : Nat} {h : mHeap} {Q : Option Value → mHeap → Prop} {a0 : Nat} {x1 : Int32} {x2 : Int32} {l3 : Option Value} : Go d 101 66 [some (.ref a0), some (.int x1), some (.int x2), l3] [] h Q ↔ Go d 101 67 [some (.ref a0), some (.int x1), some (.int x2), l3] [.int (ii 0)] h Q := by
  refine (G_iconst (mF fc101 (by rfl))).trans ?_
  exact Iff.rfl
theorem b101_67 {d : Nat} {h : mHeap} {Q : Option Value → mHeap → Prop} {a0 : Nat} {x1 : Int32} {x2 : Int32} {l3 : Option Value} {s0 : Int32} : Go d 101 67 [some (.ref a0), some (.int x1), some (.int x2), l3] [.int s0] h Q ↔ (if s0 = ii 0 then (Go d 101 108 [some (.ref a0), some (.int x1), some (.int x2), some (.int s0)] [] h Q) else ((if x2 = (ii 60) then (Go d 101 84 [some (.ref a0), some (.int x1), some (.int x2), some (.int s0)] [] h Q) else ((if ¬ x2 = (ii 62) then (Go d 101 108 [some (.ref a0), some (.int x1), some (.int x2), some (.int s0)] [] h Q) else (Go d 101 84 [some (.ref a0), some (.int x1), some (.int x2), some (.int s0)] [] h Q)))))) := by
  refine (G_istore (k := 3) (L' := [some (.ref a0), some (.int x1), some (.int x2), some (.int s0)]) rfl (ltb rfl) rfl (mF fc101 (by rfl))).trans ?_
  refine (G_iload rfl (mF fc101 (by rfl))).trans ?_
  refine (G_eq (mF fc101 (by rfl))).trans (gi ?_ ?_)
  ·
    exact Iff.rfl
  ·
    refine (G_iload rfl (mF fc101 (by rfl))).trans ?_
    refine (G_iconst (mF fc101 (by rfl))).trans ?_
    refine (G_ieq (mF fc101 (by rfl))).trans (gi ?_ ?_)
    ·
      exact Iff.rfl
    ·
      refine (G_iload rfl (mF fc101 (by rfl))).trans ?_
      refine (G_iconst (mF fc101 (by rfl))).trans ?_
      refine (G_ine (mF fc101 (by rfl))).trans (gi ?_ ?_)
      ·
        exact Iff.rfl
      ·
        exact Iff.rfl
theorem b101_84 {d : Nat} {h : mHeap} {Q : Option Value → mHeap → Prop} {a0 : Nat} {x1 : Int32} {x2 : Int32} {l3 : Option Value} : Go d 101 84 [some (.ref a0), some (.int x1), some (.int x2), l3] [] h Q ↔ (if ¬ x2 = (ii 60) then (Go d 101 100 [some (.ref a0), some (.int x1), some (.int x2), l3] [.int (ii 257), .ref a0] h Q) else (Go d 101 100 [some (.ref a0), some (.int x1), some (.int x2), l3] [.int (ii 256), .ref a0] h Q)) := by
  refine (G_aload rfl (mF fc101 (by rfl))).trans ?_
  refine (G_iload rfl (mF fc101 (by rfl))).trans ?_
  refine (G_iconst (mF fc101 (by rfl))).trans ?_
  refine (G_ine (mF fc101 (by rfl))).trans (gi ?_ ?_)
  ·
    refine (G_iconst (mF fc101 (by rfl))).trans ?_
    exact Iff.rfl
  ·
    refine (G_iconst (mF fc101 (by rfl))).trans ?_
    refine (G_goto (mF fc101 (by rfl))).trans ?_
    exact Iff.rfl
theorem b101_100 {d : Nat} {h : mHeap} {Q : Option Value → mHeap → Prop} {l0 : Option Value} {x1 : Int32} {l2 : Option Value} {l3 : Option Value} {r0 : Nat} {s1 : Int32} : Go d 101 100 [l0, some (.int x1), l2, l3] [.int s1, .ref r0] h Q ↔ oC h r0 = 9 ∧ GoCv d 100 [.ref r0, .int s1, .int x1] h (fun h1 => Q (some (.int (x1 + (ii 2)))) h1) := by
  refine (G_iload rfl (mF fc101 (by rfl))).trans ?_
  refine (G_Vv (q := 51347) (y := 100) (a := r0) (c := 9) rfl rfl rfl rfl (by decide) rfl (as := [.ref r0, .int s1, .int x1]) (rest := []) rfl rfl (mF fc101 (by rfl))).trans (andR (GoCv_congr fun h1 => ?_))
  refine (G_iload rfl (mF fc101 (by rfl))).trans ?_
  refine (G_iconst (mF fc101 (by rfl))).trans ?_
  refine (G_iadd (mF fc101 (by rfl))).trans ?_
  exact G_ireturnI rfl (mF fc101 (by rfl))
theorem b101_108 {d : Nat} {h : mHeap} {Q : Option Value → mHeap → Prop} {a0 : Nat} {x1 : Int32} {x2 : Int32} {l3 : Option Value} : Go d 101 108 [some (.ref a0), some (.int x1), some (.int x2), l3] [] h Q ↔ oC h a0 = 9 ∧ GoCv d 100 [.ref a0, .int x2, .int x1] h (fun h1 => Q (some (.int (x1 + (ii 1)))) h1) := by
  refine (G_aload rfl (mF fc101 (by rfl))).trans ?_
  refine (G_iload rfl (mF fc101 (by rfl))).trans ?_
  refine (G_iload rfl (mF fc101 (by rfl))).trans ?_
  refine (G_Vv (q := 51347) (y := 100) (a := a0) (c := 9) rfl rfl rfl rfl (by decide) rfl (as := [.ref a0, .int x2, .int x1]) (rest := []) rfl rfl (mF fc101 (by rfl))).trans (andR (GoCv_congr fun h1 => ?_))
  refine (G_iload rfl (mF fc101 (by rfl))).trans ?_
  refine (G_iconst (mF fc101 (by rfl))).trans ?_
  refine (G_iadd (mF fc101 (by rfl))).trans ?_
  exact G_ireturnI rfl (mF fc101 (by rfl))
theorem e101 {d : Nat} {h : mHeap} {K : Int32 → mHeap → Prop} {a0 : Nat} {x1 : Int32} : GoCi (d + 1) 101 [.ref a0, .int x1] h K ↔ Go d 101 0 [some (.ref a0), some (.int x1), none, none] [] h (rI K) := GoCi_entry rfl rfl
set_option maxRecDepth 20000 in
theorem fc102 : mCodes[102]? = some mc102 := rfl
theorem b102_0 {d : Nat} {h : mHeap} {Q : Option Value → mHeap → Prop} {a0 : Nat} {x1 : Int32} : Go d 102 0 [some (.ref a0), some (.int x1), none, none] [] h Q ↔ Go d 102 4 [some (.ref a0), some (.int x1), some (.int (x1 + (ii 1))), none] [] h Q := by
  refine (G_iload rfl (mF fc102 (by rfl))).trans ?_
  refine (G_iconst (mF fc102 (by rfl))).trans ?_
  refine (G_iadd (mF fc102 (by rfl))).trans ?_
  refine (G_istore (k := 2) (L' := [some (.ref a0), some (.int x1), some (.int (x1 + (ii 1))), none]) rfl (ltb rfl) rfl (mF fc102 (by rfl))).trans ?_
  exact Iff.rfl
theorem b102_4 {d : Nat} {h : mHeap} {Q : Option Value → mHeap → Prop} {a0 : Nat} {x1 : Int32} {x2 : Int32} {l3 : Option Value} : Go d 102 4 [some (.ref a0), some (.int x1), some (.int x2), l3] [] h Q ↔ okF h a0 9 1 0 ∧ (if (fI h a0 1) ≤ x2 then (Go d 102 26 [some (.ref a0), some (.int x1), some (.int x2), l3] [] h Q) else (oC h a0 = 9 ∧ GoCi d 105 [.ref a0, .int x2] h (fun v1 h1 => (if v1 = ii 0 then (Go d 102 26 [some (.ref a0), some (.int x1), some (.int x2), l3] [] h1 Q) else (Go d 102 4 [some (.ref a0), some (.int x1), some (.int (x2 + ii 1)), l3] [] h1 Q))))) := by
  refine (G_iload rfl (mF fc102 (by rfl))).trans ?_
  refine (G_aload rfl (mF fc102 (by rfl))).trans ?_
  refine (G_getI (c := 9) (k := 1) rfl rfl rfl (mF fc102 (by rfl))).trans (andR ?_)
  refine (G_ige (mF fc102 (by rfl))).trans (gi ?_ ?_)
  ·
    exact Iff.rfl
  ·
    refine (G_aload rfl (mF fc102 (by rfl))).trans ?_
    refine (G_iload rfl (mF fc102 (by rfl))).trans ?_
    refine (G_Vi (q := 53906) (y := 105) (a := a0) (c := 9) rfl rfl rfl rfl (by decide) rfl (as := [.ref a0, .int x2]) (rest := []) rfl rfl (mF fc102 (by rfl))).trans (andR (GoCi_congr fun v1 h1 => ?_))
    refine (G_eq (mF fc102 (by rfl))).trans (gi ?_ ?_)
    ·
      exact Iff.rfl
    ·
      refine (G_iinc (k := 2) (L' := [some (.ref a0), some (.int x1), some (.int (x2 + ii 1)), l3]) rfl rfl rfl (mF fc102 (by rfl))).trans ?_
      refine (G_goto (mF fc102 (by rfl))).trans ?_
      exact Iff.rfl
theorem b102_26 {d : Nat} {h : mHeap} {Q : Option Value → mHeap → Prop} {a0 : Nat} {x1 : Int32} {x2 : Int32} {l3 : Option Value} : Go d 102 26 [some (.ref a0), some (.int x1), some (.int x2), l3] [] h Q ↔ okF h a0 9 0 2 ∧ okB h (fR h a0 0) x1 ∧ (if (x2 - x1) ≤ (ii 1) then ((if (ii 8) ≤ ((eI h (fR h a0 0) x1) - (ii 97)) then (Go d 102 77 [some (.ref a0), some (.int x1), some (.int x2), some (.int ((eI h (fR h a0 0) x1) - (ii 97)))] [.int (ii 258), .ref a0] h Q) else (Go d 102 77 [some (.ref a0), some (.int x1), some (.int x2), some (.int ((eI h (fR h a0 0) x1) - (ii 97)))] [.int ((ii 260) + ((eI h (fR h a0 0) x1) - (ii 97))), .ref a0] h Q))) else (oC h a0 = 9 ∧ GoCi d 103 [.ref a0, .int x1, .int (x2 - x1)] h (fun v1 h1 => oC h1 a0 = 9 ∧ GoCv d 100 [.ref a0, .int v1, .int x1] h1 (fun h2 => Q (some (.int x2)) h2)))) := by
  refine (G_aload rfl (mF fc102 (by rfl))).trans ?_
  refine (G_getR (c := 9) (k := 0) rfl rfl rfl (mF fc102 (by rfl))).trans (andR ?_)
  refine (G_iload rfl (mF fc102 (by rfl))).trans ?_
  refine (G_baload (mF fc102 (by rfl))).trans (andR ?_)
  refine (G_iconst (mF fc102 (by rfl))).trans ?_
  refine (G_isub (mF fc102 (by rfl))).trans ?_
  refine (G_istore (k := 3) (L' := [some (.ref a0), some (.int x1), some (.int x2), some (.int ((eI h (fR h a0 0) x1) - (ii 97)))]) rfl (ltb rfl) rfl (mF fc102 (by rfl))).trans ?_
  refine (G_iload rfl (mF fc102 (by rfl))).trans ?_
  refine (G_iload rfl (mF fc102 (by rfl))).trans ?_
  refine (G_isub (mF fc102 (by rfl))).trans ?_
  refine (G_iconst (mF fc102 (by rfl))).trans ?_
  refine (G_ile (mF fc102 (by rfl))).trans (gi ?_ ?_)
  ·
    refine (G_aload rfl (mF fc102 (by rfl))).trans ?_
    refine (G_iload rfl (mF fc102 (by rfl))).trans ?_
    refine (G_iconst (mF fc102 (by rfl))).trans ?_
    refine (G_ige (mF fc102 (by rfl))).trans (gi ?_ ?_)
    ·
      refine (G_iconst (mF fc102 (by rfl))).trans ?_
      exact Iff.rfl
    ·
      refine (G_iconst (mF fc102 (by rfl))).trans ?_
      refine (G_iload rfl (mF fc102 (by rfl))).trans ?_
      refine (G_iadd (mF fc102 (by rfl))).trans ?_
      refine (G_goto (mF fc102 (by rfl))).trans ?_
      exact Iff.rfl
  ·
    refine (G_aload rfl (mF fc102 (by rfl))).trans ?_
    refine (G_aload rfl (mF fc102 (by rfl))).trans ?_
    refine (G_iload rfl (mF fc102 (by rfl))).trans ?_
    refine (G_iload rfl (mF fc102 (by rfl))).trans ?_
    refine (G_iload rfl (mF fc102 (by rfl))).trans ?_
    refine (G_isub (mF fc102 (by rfl))).trans ?_
    refine (G_Vi (q := 52883) (y := 103) (a := a0) (c := 9) rfl rfl rfl rfl (by decide) rfl (as := [.ref a0, .int x1, .int (x2 - x1)]) (rest := [.ref a0]) rfl rfl (mF fc102 (by rfl))).trans (andR (GoCi_congr fun v1 h1 => ?_))
    refine (G_iload rfl (mF fc102 (by rfl))).trans ?_
    refine (G_Vv (q := 51347) (y := 100) (a := a0) (c := 9) rfl rfl rfl rfl (by decide) rfl (as := [.ref a0, .int v1, .int x1]) (rest := []) rfl rfl (mF fc102 (by rfl))).trans (andR (GoCv_congr fun h2 => ?_))
    refine (G_goto (mF fc102 (by rfl))).trans ?_
    refine (G_iload rfl (mF fc102 (by rfl))).trans ?_
    exact G_ireturnI rfl (mF fc102 (by rfl))
theorem b102_77 {d : Nat} {h : mHeap} {Q : Option Value → mHeap → Prop} {l0 : Option Value} {x1 : Int32} {x2 : Int32} {l3 : Option Value} {r0 : Nat} {s1 : Int32} : Go d 102 77 [l0, some (.int x1), some (.int x2), l3] [.int s1, .ref r0] h Q ↔ oC h r0 = 9 ∧ GoCv d 100 [.ref r0, .int s1, .int x1] h (fun h1 => Q (some (.int x2)) h1) := by
  refine (G_iload rfl (mF fc102 (by rfl))).trans ?_
  refine (G_Vv (q := 51347) (y := 100) (a := r0) (c := 9) rfl rfl rfl rfl (by decide) rfl (as := [.ref r0, .int s1, .int x1]) (rest := []) rfl rfl (mF fc102 (by rfl))).trans (andR (GoCv_congr fun h1 => ?_))
  refine (G_iload rfl (mF fc102 (by rfl))).trans ?_
  exact G_ireturnI rfl (mF fc102 (by rfl))
theorem e102 {d : Nat} {h : mHeap} {K : Int32 → mHeap → Prop} {a0 : Nat} {x1 : Int32} : GoCi (d + 1) 102 [.ref a0, .int x1] h K ↔ Go d 102 0 [some (.ref a0), some (.int x1), none, none] [] h (rI K) := GoCi_entry rfl rfl
set_option maxRecDepth 20000 in
theorem fc103 : mCodes[103]? = some mc103 := rfl
theorem b103_0 {d : Nat} {h : mHeap} {Q : Option Value → mHeap → Prop} {a0 : Nat} {x1 : Int32} {x2 : Int32} : Go d 103 0 [some (.ref a0), some (.int x1), some (.int x2), none, none, none, none, none] [] h Q ↔ Go d 103 13 [some (.ref a0), some (.int x1), some (.int x2), some (.int (ii 300)), some (.int (ii 0)), some (.int (ii 1)), some (.int (ii 0)), none] [] h Q := by
  refine (G_iconst (mF fc103 (by rfl))).trans ?_
  refine (G_istore (k := 3) (L' := [some (.ref a0), some (.int x1), some (.int x2), some (.int (ii 300)), none, none, none, none]) rfl (ltb rfl) rfl (mF fc103 (by rfl))).trans ?_
  refine (G_iconst (mF fc103 (by rfl))).trans ?_
  refine (G_istore (k := 4) (L' := [some (.ref a0), some (.int x1), some (.int x2), some (.int (ii 300)), some (.int (ii 0)), none, none, none]) rfl (ltb rfl) rfl (mF fc103 (by rfl))).trans ?_
  refine (G_iconst (mF fc103 (by rfl))).trans ?_
  refine (G_istore (k := 5) (L' := [some (.ref a0), some (.int x1), some (.int x2), some (.int (ii 300)), some (.int (ii 0)), some (.int (ii 1)), none, none]) rfl (ltb rfl) rfl (mF fc103 (by rfl))).trans ?_
  refine (G_iconst (mF fc103 (by rfl))).trans ?_
  refine (G_istore (k := 6) (L' := [some (.ref a0), some (.int x1), some (.int x2), some (.int (ii 300)), some (.int (ii 0)), some (.int (ii 1)), some (.int (ii 0)), none]) rfl (ltb rfl) rfl (mF fc103 (by rfl))).trans ?_
  exact Iff.rfl
theorem b103_13 {d : Nat} {h : mHeap} {Q : Option Value → mHeap → Prop} {a0 : Nat} {x1 : Int32} {x2 : Int32} {x3 : Int32} {x4 : Int32} {x5 : Int32} {x6 : Int32} {l7 : Option Value} : Go d 103 13 [some (.ref a0), some (.int x1), some (.int x2), some (.int x3), some (.int x4), some (.int x5), some (.int x6), l7] [] h Q ↔ oC h 2 = 16 ∧ GoCi d 319 [.ref 2] h (fun v1 h1 => (if v1 ≤ x6 then (Q (some (.int (ii 258))) h1) else (oC h1 2 = 16 ∧ GoCi d 320 [.ref 2, .int x6] h1 (fun v2 h2 => (if v2 = (ii 32) then ((if x5 = ii 0 then (Go d 103 90 [some (.ref a0), some (.int x1), some (.int x2), some (.int x3), some (.int x4), some (.int x5), some (.int x6), some (.int v2)] [] h2 Q) else ((if ¬ x4 = x2 then (Go d 103 90 [some (.ref a0), some (.int x1), some (.int x2), some (.int x3), some (.int x4), some (.int x5), some (.int x6), some (.int v2)] [] h2 Q) else (Q (some (.int x3)) h2))))) else ((if x5 = ii 0 then (Go d 103 68 [some (.ref a0), some (.int x1), some (.int x2), some (.int x3), some (.int x4), some (.int x5), some (.int x6), some (.int v2)] [] h2 Q) else ((if x2 ≤ x4 then (Go d 103 68 [some (.ref a0), some (.int x1), some (.int x2), some (.int x3), some (.int x4), some (.int x5), some (.int x6), some (.int v2)] [] h2 Q) else (okF h2 a0 9 0 2 ∧ okB h2 (fR h2 a0 0) (x1 + x4) ∧ (if ¬ (eI h2 (fR h2 a0 0) (x1 + x4)) = v2 then (Go d 103 68 [some (.ref a0), some (.int x1), some (.int x2), some (.int x3), some (.int x4), some (.int x5), some (.int x6), some (.int v2)] [] h2 Q) else (Go d 103 69 [some (.ref a0), some (.int x1), some (.int x2), some (.int x3), some (.int x4), some (.int x5), some (.int x6), some (.int v2)] [.int (ii 1)] h2 Q)))))))))))) := by
  refine (G_iload rfl (mF fc103 (by rfl))).trans ?_
  refine (G_jsr (mF fc103 (by rfl))).trans ?_
  refine (G_Vi (q := 163585) (y := 319) (a := 2) (c := 16) rfl rfl rfl rfl (by decide) rfl (as := [.ref 2]) (rest := [.int x6]) rfl rfl (mF fc103 (by rfl))).trans (andR (GoCi_congr fun v1 h1 => ?_))
  refine (G_ige (mF fc103 (by rfl))).trans (gi ?_ ?_)
  ·
    refine (G_iconst (mF fc103 (by rfl))).trans ?_
    exact G_ireturnI rfl (mF fc103 (by rfl))
  ·
    refine (G_jsr (mF fc103 (by rfl))).trans ?_
    refine (G_iload rfl (mF fc103 (by rfl))).trans ?_
    refine (G_Vi (q := 164098) (y := 320) (a := 2) (c := 16) rfl rfl rfl rfl (by decide) rfl (as := [.ref 2, .int x6]) (rest := []) rfl rfl (mF fc103 (by rfl))).trans (andR (GoCi_congr fun v2 h2 => ?_))
    refine (G_istore (k := 7) (L' := [some (.ref a0), some (.int x1), some (.int x2), some (.int x3), some (.int x4), some (.int x5), some (.int x6), some (.int v2)]) rfl (ltb rfl) rfl (mF fc103 (by rfl))).trans ?_
    refine (G_iload rfl (mF fc103 (by rfl))).trans ?_
    refine (G_iconst (mF fc103 (by rfl))).trans ?_
    refine (G_ieq (mF fc103 (by rfl))).trans (gi ?_ ?_)
    ·
      refine (G_iload rfl (mF fc103 (by rfl))).trans ?_
      refine (G_eq (mF fc103 (by rfl))).trans (gi ?_ ?_)
      ·
        exact Iff.rfl
      ·
        refine (G_iload rfl (mF fc103 (by rfl))).trans ?_
        refine (G_iload rfl (mF fc103 (by rfl))).trans ?_
        refine (G_ine (mF fc103 (by rfl))).trans (gi ?_ ?_)
        ·
          exact Iff.rfl
        ·
          refine (G_iload rfl (mF fc103 (by rfl))).trans ?_
          exact G_ireturnI rfl (mF fc103 (by rfl))
    ·
      refine (G_iload rfl (mF fc103 (by rfl))).trans ?_
      refine (G_eq (mF fc103 (by rfl))).trans (gi ?_ ?_)
      ·
        exact Iff.rfl
      ·
        refine (G_iload rfl (mF fc103 (by rfl))).trans ?_
        refine (G_iload rfl (mF fc103 (by rfl))).trans ?_
        refine (G_ige (mF fc103 (by rfl))).trans (gi ?_ ?_)
        ·
          exact Iff.rfl
        ·
          refine (G_aload rfl (mF fc103 (by rfl))).trans ?_
          refine (G_getR (c := 9) (k := 0) rfl rfl rfl (mF fc103 (by rfl))).trans (andR ?_)
          refine (G_iload rfl (mF fc103 (by rfl))).trans ?_
          refine (G_iload rfl (mF fc103 (by rfl))).trans ?_
          refine (G_iadd (mF fc103 (by rfl))).trans ?_
          refine (G_baload (mF fc103 (by rfl))).trans (andR ?_)
          refine (G_iload rfl (mF fc103 (by rfl))).trans ?_
          refine (G_ine (mF fc103 (by rfl))).trans (gi ?_ ?_)
          ·
            exact Iff.rfl
          ·
            refine (G_iconst (mF fc103 (by rfl))).trans ?_
            refine (G_goto (mF fc103 (by rfl))).trans ?_
            exact Iff.rfl
theorem b103_68 {d : Nat} {h : mHeap} {Q : Option Value → mHeap → Prop} {a0 : Nat} {x1 : Int32} {x2 : Int32} {x3 : Int32} {x4 : Int32} {l5 : Option Value} {x6 : Int32} {l7 : Option Value} : Go d 103 68 [some (.ref a0), some (.int x1), some (.int x2), some (.int x3), some (.int x4), l5, some (.int x6), l7] [] h Q ↔ Go d 103 69 [some (.ref a0), some (.int x1), some (.int x2), some (.int x3), some (.int x4), l5, some (.int x6), l7] [.int (ii 0)] h Q := by
  refine (G_iconst (mF fc103 (by rfl))).trans ?_
  exact Iff.rfl
theorem b103_69 {d : Nat} {h : mHeap} {Q : Option Value → mHeap → Prop} {a0 : Nat} {x1 : Int32} {x2 : Int32} {x3 : Int32} {x4 : Int32} {l5 : Option Value} {x6 : Int32} {l7 : Option Value} {s0 : Int32} : Go d 103 69 [some (.ref a0), some (.int x1), some (.int x2), some (.int x3), some (.int x4), l5, some (.int x6), l7] [.int s0] h Q ↔ Go d 103 99 [some (.ref a0), some (.int x1), some (.int x2), some (.int x3), some (.int (x4 + ii 1)), some (.int s0), some (.int x6), l7] [] h Q := by
  refine (G_istore (k := 5) (L' := [some (.ref a0), some (.int x1), some (.int x2), some (.int x3), some (.int x4), some (.int s0), some (.int x6), l7]) rfl (ltb rfl) rfl (mF fc103 (by rfl))).trans ?_
  refine (G_iinc (k := 4) (L' := [some (.ref a0), some (.int x1), some (.int x2), some (.int x3), some (.int (x4 + ii 1)), some (.int s0), some (.int x6), l7]) rfl rfl rfl (mF fc103 (by rfl))).trans ?_
  refine (G_goto (mF fc103 (by rfl))).trans ?_
  exact Iff.rfl
theorem b103_90 {d : Nat} {h : mHeap} {Q : Option Value → mHeap → Prop} {a0 : Nat} {x1 : Int32} {x2 : Int32} {x3 : Int32} {l4 : Option Value} {l5 : Option Value} {x6 : Int32} {l7 : Option Value} : Go d 103 90 [some (.ref a0), some (.int x1), some (.int x2), some (.int x3), l4, l5, some (.int x6), l7] [] h Q ↔ Go d 103 99 [some (.ref a0), some (.int x1), some (.int x2), some (.int (x3 + ii 1)), some (.int (ii 0)), some (.int (ii 1)), some (.int x6), l7] [] h Q := by
  refine (G_iinc (k := 3) (L' := [some (.ref a0), some (.int x1), some (.int x2), some (.int (x3 + ii 1)), l4, l5, some (.int x6), l7]) rfl rfl rfl (mF fc103 (by rfl))).trans ?_
  refine (G_iconst (mF fc103 (by rfl))).trans ?_
  refine (G_istore (k := 4) (L' := [some (.ref a0), some (.int x1), some (.int x2), some (.int (x3 + ii 1)), some (.int (ii 0)), l5, some (.int x6), l7]) rfl (ltb rfl) rfl (mF fc103 (by rfl))).trans ?_
  refine (G_iconst (mF fc103 (by rfl))).trans ?_
  refine (G_istore (k := 5) (L' := [some (.ref a0), some (.int x1), some (.int x2), some (.int (x3 + ii 1)), some (.int (ii 0)), some (.int (ii 1)), some (.int x6), l7]) rfl (ltb rfl) rfl (mF fc103 (by rfl))).trans ?_
  exact Iff.rfl
theorem b103_99 {d : Nat} {h : mHeap} {Q : Option Value → mHeap → Prop} {a0 : Nat} {x1 : Int32} {x2 : Int32} {x3 : Int32} {x4 : Int32} {x5 : Int32} {x6 : Int32} {l7 : Option Value} : Go d 103 99 [some (.ref a0), some (.int x1), some (.int x2), some (.int x3), some (.int x4), some (.int x5), some (.int x6), l7] [] h Q ↔ Go d 103 13 [some (.ref a0), some (.int x1), some (.int x2), some (.int x3), some (.int x4), some (.int x5), some (.int (x6 + ii 1)), l7] [] h Q := by
  refine (G_iinc (k := 6) (L' := [some (.ref a0), some (.int x1), some (.int x2), some (.int x3), some (.int x4), some (.int x5), some (.int (x6 + ii 1)), l7]) rfl rfl rfl (mF fc103 (by rfl))).trans ?_
  refine (G_goto (mF fc103 (by rfl))).trans ?_
  exact Iff.rfl
theorem e103 {d : Nat} {h : mHeap} {K : Int32 → mHeap → Prop} {a0 : Nat} {x1 : Int32} {x2 : Int32} : GoCi (d + 1) 103 [.ref a0, .int x1, .int x2] h K ↔ Go d 103 0 [some (.ref a0), some (.int x1), some (.int x2), none, none, none, none, none] [] h (rI K) := GoCi_entry rfl rfl
set_option maxRecDepth 20000 in
theorem fc104 : mCodes[104]? = some mc104 := rfl
theorem b104_0 {d : Nat} {h : mHeap} {Q : Option Value → mHeap → Prop} {a0 : Nat} {x1 : Int32} : Go d 104 0 [some (.ref a0), some (.int x1), none, none] [] h Q ↔ Go d 104 4 [some (.ref a0), some (.int x1), some (.int x1), some (.int (ii 0))] [] h Q := by
  refine (G_iload rfl (mF fc104 (by rfl))).trans ?_
  refine (G_istore (k := 2) (L' := [some (.ref a0), some (.int x1), some (.int x1), none]) rfl (ltb rfl) rfl (mF fc104 (by rfl))).trans ?_
  refine (G_iconst (mF fc104 (by rfl))).trans ?_
  refine (G_istore (k := 3) (L' := [some (.ref a0), some (.int x1), some (.int x1), some (.int (ii 0))]) rfl (ltb rfl) rfl (mF fc104 (by rfl))).trans ?_
  exact Iff.rfl
theorem b104_4 {d : Nat} {h : mHeap} {Q : Option Value → mHeap → Prop} {a0 : Nat} {x1 : Int32} {x2 : Int32} {x3 : Int32} : Go d 104 4 [some (.ref a0), some (.int x1), some (.int x2), some (.int x3)] [] h Q ↔ okF h a0 9 1 0 ∧ (if (fI h a0 1) ≤ x2 then (Go d 104 48 [some (.ref a0), some (.int x1), some (.int x2), some (.int x3)] [] h Q) else (oC h a0 = 9 ∧ GoCi d 106 [.ref a0, .int x2] h (fun v1 h1 => (if v1 = ii 0 then (Go d 104 48 [some (.ref a0), some (.int x1), some (.int x2), some (.int x3)] [] h1 Q) else ((if (ii 5) ≤ (x2 - x1) then (Go d 104 42 [some (.ref a0), some (.int x1), some (.int x2), some (.int x3)] [] h1 Q) else (okF h1 a0 9 0 2 ∧ okB h1 (fR h1 a0 0) x2 ∧ Go d 104 42 [some (.ref a0), some (.int x1), some (.int x2), some (.int (((x3 * (ii 10)) + (eI h1 (fR h1 a0 0) x2)) - (ii 48)))] [] h1 Q))))))) := by
  refine (G_iload rfl (mF fc104 (by rfl))).trans ?_
  refine (G_aload rfl (mF fc104 (by rfl))).trans ?_
  refine (G_getI (c := 9) (k := 1) rfl rfl rfl (mF fc104 (by rfl))).trans (andR ?_)
  refine (G_ige (mF fc104 (by rfl))).trans (gi ?_ ?_)
  ·
    exact Iff.rfl
  ·
    refine (G_aload rfl (mF fc104 (by rfl))).trans ?_
    refine (G_iload rfl (mF fc104 (by rfl))).trans ?_
    refine (G_Vi (q := 54418) (y := 106) (a := a0) (c := 9) rfl rfl rfl rfl (by decide) rfl (as := [.ref a0, .int x2]) (rest := []) rfl rfl (mF fc104 (by rfl))).trans (andR (GoCi_congr fun v1 h1 => ?_))
    refine (G_eq (mF fc104 (by rfl))).trans (gi ?_ ?_)
    ·
      exact Iff.rfl
    ·
      refine (G_iload rfl (mF fc104 (by rfl))).trans ?_
      refine (G_iload rfl (mF fc104 (by rfl))).trans ?_
      refine (G_isub (mF fc104 (by rfl))).trans ?_
      refine (G_iconst (mF fc104 (by rfl))).trans ?_
      refine (G_ige (mF fc104 (by rfl))).trans (gi ?_ ?_)
      ·
        exact Iff.rfl
      ·
        refine (G_iload rfl (mF fc104 (by rfl))).trans ?_
        refine (G_iconst (mF fc104 (by rfl))).trans ?_
        refine (G_imul (mF fc104 (by rfl))).trans ?_
        refine (G_aload rfl (mF fc104 (by rfl))).trans ?_
        refine (G_getR (c := 9) (k := 0) rfl rfl rfl (mF fc104 (by rfl))).trans (andR ?_)
        refine (G_iload rfl (mF fc104 (by rfl))).trans ?_
        refine (G_baload (mF fc104 (by rfl))).trans (andR ?_)
        refine (G_iadd (mF fc104 (by rfl))).trans ?_
        refine (G_iconst (mF fc104 (by rfl))).trans ?_
        refine (G_isub (mF fc104 (by rfl))).trans ?_
        refine (G_istore (k := 3) (L' := [some (.ref a0), some (.int x1), some (.int x2), some (.int (((x3 * (ii 10)) + (eI h1 (fR h1 a0 0) x2)) - (ii 48)))]) rfl (ltb rfl) rfl (mF fc104 (by rfl))).trans ?_
        exact Iff.rfl
theorem b104_42 {d : Nat} {h : mHeap} {Q : Option Value → mHeap → Prop} {a0 : Nat} {x1 : Int32} {x2 : Int32} {x3 : Int32} : Go d 104 42 [some (.ref a0), some (.int x1), some (.int x2), some (.int x3)] [] h Q ↔ Go d 104 4 [some (.ref a0), some (.int x1), some (.int (x2 + ii 1)), some (.int x3)] [] h Q := by
  refine (G_iinc (k := 2) (L' := [some (.ref a0), some (.int x1), some (.int (x2 + ii 1)), some (.int x3)]) rfl rfl rfl (mF fc104 (by rfl))).trans ?_
  refine (G_goto (mF fc104 (by rfl))).trans ?_
  exact Iff.rfl
theorem b104_48 {d : Nat} {h : mHeap} {Q : Option Value → mHeap → Prop} {a0 : Nat} {x1 : Int32} {x2 : Int32} {x3 : Int32} : Go d 104 48 [some (.ref a0), some (.int x1), some (.int x2), some (.int x3)] [] h Q ↔ (if (x2 - x1) ≤ (ii 5) then (Go d 104 66 [some (.ref a0), some (.int x1), some (.int x2), some (.int x3)] [.int ((ii 1000) + x3), .ref a0] h Q) else (Go d 104 66 [some (.ref a0), some (.int x1), some (.int x2), some (.int x3)] [.int (ii 101000), .ref a0] h Q)) := by
  refine (G_aload rfl (mF fc104 (by rfl))).trans ?_
  refine (G_iload rfl (mF fc104 (by rfl))).trans ?_
  refine (G_iload rfl (mF fc104 (by rfl))).trans ?_
  refine (G_isub (mF fc104 (by rfl))).trans ?_
  refine (G_iconst (mF fc104 (by rfl))).trans ?_
  refine (G_ile (mF fc104 (by rfl))).trans (gi ?_ ?_)
  ·
    refine (G_iconst (mF fc104 (by rfl))).trans ?_
    refine (G_iload rfl (mF fc104 (by rfl))).trans ?_
    refine (G_iadd (mF fc104 (by rfl))).trans ?_
    exact Iff.rfl
  ·
    refine (G_iconst (mF fc104 (by rfl))).trans ?_
    refine (G_goto (mF fc104 (by rfl))).trans ?_
    exact Iff.rfl
theorem b104_66 {d : Nat} {h : mHeap} {Q : Option Value → mHeap → Prop} {l0 : Option Value} {x1 : Int32} {x2 : Int32} {l3 : Option Value} {r0 : Nat} {s1 : Int32} : Go d 104 66 [l0, some (.int x1), some (.int x2), l3] [.int s1, .ref r0] h Q ↔ oC h r0 = 9 ∧ GoCv d 100 [.ref r0, .int s1, .int x1] h (fun h1 => Q (some (.int x2)) h1) := by
  refine (G_iload rfl (mF fc104 (by rfl))).trans ?_
  refine (G_Vv (q := 51347) (y := 100) (a := r0) (c := 9) rfl rfl rfl rfl (by decide) rfl (as := [.ref r0, .int s1, .int x1]) (rest := []) rfl rfl (mF fc104 (by rfl))).trans (andR (GoCv_congr fun h1 => ?_))
  refine (G_iload rfl (mF fc104 (by rfl))).trans ?_
  exact G_ireturnI rfl (mF fc104 (by rfl))
theorem e104 {d : Nat} {h : mHeap} {K : Int32 → mHeap → Prop} {a0 : Nat} {x1 : Int32} : GoCi (d + 1) 104 [.ref a0, .int x1] h K ↔ Go d 104 0 [some (.ref a0), some (.int x1), none, none] [] h (rI K) := GoCi_entry rfl rfl
set_option maxRecDepth 20000 in
theorem fc105 : mCodes[105]? = some mc105 := rfl
theorem b105_0 {d : Nat} {h : mHeap} {Q : Option Value → mHeap → Prop} {a0 : Nat} {x1 : Int32} : Go d 105 0 [some (.ref a0), some (.int x1)] [] h Q ↔ okF h a0 9 0 2 ∧ okB h (fR h a0 0) x1 ∧ (if (eI h (fR h a0 0) x1) < (ii 97) then (((ii 0) = ii 0 ∨ (ii 0) = ii 1) ∧ Q (some (.int (ii 0))) h) else (okF h a0 9 0 2 ∧ okB h (fR h a0 0) x1 ∧ (if (ii 122) < (eI h (fR h a0 0) x1) then (((ii 0) = ii 0 ∨ (ii 0) = ii 1) ∧ Q (some (.int (ii 0))) h) else (((ii 1) = ii 0 ∨ (ii 1) = ii 1) ∧ Q (some (.int (ii 1))) h)))) := by
  refine (G_aload rfl (mF fc105 (by rfl))).trans ?_
  refine (G_getR (c := 9) (k := 0) rfl rfl rfl (mF fc105 (by rfl))).trans (andR ?_)
  refine (G_iload rfl (mF fc105 (by rfl))).trans ?_
  refine (G_baload (mF fc105 (by rfl))).trans (andR ?_)
  refine (G_iconst (mF fc105 (by rfl))).trans ?_
  refine (G_ilt (mF fc105 (by rfl))).trans (gi ?_ ?_)
  ·
    refine (G_iconst (mF fc105 (by rfl))).trans ?_
    exact G_ireturnZ rfl (mF fc105 (by rfl))
  ·
    refine (G_aload rfl (mF fc105 (by rfl))).trans ?_
    refine (G_getR (c := 9) (k := 0) rfl rfl rfl (mF fc105 (by rfl))).trans (andR ?_)
    refine (G_iload rfl (mF fc105 (by rfl))).trans ?_
    refine (G_baload (mF fc105 (by rfl))).trans (andR ?_)
    refine (G_iconst (mF fc105 (by rfl))).trans ?_
    refine (G_igt (mF fc105 (by rfl))).trans (gi ?_ ?_)
    ·
      refine (G_iconst (mF fc105 (by rfl))).trans ?_
      exact G_ireturnZ rfl (mF fc105 (by rfl))
    ·
      refine (G_iconst (mF fc105 (by rfl))).trans ?_
      refine (G_goto (mF fc105 (by rfl))).trans ?_
      exact G_ireturnZ rfl (mF fc105 (by rfl))
theorem e105 {d : Nat} {h : mHeap} {K : Int32 → mHeap → Prop} {a0 : Nat} {x1 : Int32} : GoCi (d + 1) 105 [.ref a0, .int x1] h K ↔ Go d 105 0 [some (.ref a0), some (.int x1)] [] h (rI K) := GoCi_entry rfl rfl
set_option maxRecDepth 20000 in
theorem fc106 : mCodes[106]? = some mc106 := rfl
theorem b106_0 {d : Nat} {h : mHeap} {Q : Option Value → mHeap → Prop} {a0 : Nat} {x1 : Int32} : Go d 106 0 [some (.ref a0), some (.int x1)] [] h Q ↔ okF h a0 9 0 2 ∧ okB h (fR h a0 0) x1 ∧ (if (eI h (fR h a0 0) x1) < (ii 48) then (((ii 0) = ii 0 ∨ (ii 0) = ii 1) ∧ Q (some (.int (ii 0))) h) else (okF h a0 9 0 2 ∧ okB h (fR h a0 0) x1 ∧ (if (ii 57) < (eI h (fR h a0 0) x1) then (((ii 0) = ii 0 ∨ (ii 0) = ii 1) ∧ Q (some (.int (ii 0))) h) else (((ii 1) = ii 0 ∨ (ii 1) = ii 1) ∧ Q (some (.int (ii 1))) h)))) := by
  refine (G_aload rfl (mF fc106 (by rfl))).trans ?_
  refine (G_getR (c := 9) (k := 0) rfl rfl rfl (mF fc106 (by rfl))).trans (andR ?_)
  refine (G_iload rfl (mF fc106 (by rfl))).trans ?_
  refine (G_baload (mF fc106 (by rfl))).trans (andR ?_)
  refine (G_iconst (mF fc106 (by rfl))).trans ?_
  refine (G_ilt (mF fc106 (by rfl))).trans (gi ?_ ?_)
  ·
    refine (G_iconst (mF fc106 (by rfl))).trans ?_
    exact G_ireturnZ rfl (mF fc106 (by rfl))
  ·
    refine (G_aload rfl (mF fc106 (by rfl))).trans ?_
    refine (G_getR (c := 9) (k := 0) rfl rfl rfl (mF fc106 (by rfl))).trans (andR ?_)
    refine (G_iload rfl (mF fc106 (by rfl))).trans ?_
    refine (G_baload (mF fc106 (by rfl))).trans (andR ?_)
    refine (G_iconst (mF fc106 (by rfl))).trans ?_
    refine (G_igt (mF fc106 (by rfl))).trans (gi ?_ ?_)
    ·
      refine (G_iconst (mF fc106 (by rfl))).trans ?_
      exact G_ireturnZ rfl (mF fc106 (by rfl))
    ·
      refine (G_iconst (mF fc106 (by rfl))).trans ?_
      refine (G_goto (mF fc106 (by rfl))).trans ?_
      exact G_ireturnZ rfl (mF fc106 (by rfl))
theorem e106 {d : Nat} {h : mHeap} {K : Int32 → mHeap → Prop} {a0 : Nat} {x1 : Int32} : GoCi (d + 1) 106 [.ref a0, .int x1] h K ↔ Go d 106 0 [some (.ref a0), some (.int x1)] [] h (rI K) := GoCi_entry rfl rfl
set_option maxRecDepth 20000 in
theorem fc107 : mCodes[107]? = some mc107 := rfl
theorem b107_0 {d : Nat} {h : mHeap} {Q : Option Value → mHeap → Prop} {a0 : Nat} : Go d 107 0 [some (.ref a0)] [] h Q ↔ okF h a0 9 3 2 ∧ okF h a0 9 6 0 ∧ okA h (fR h a0 3) .int (fI h a0 6) ∧ Q (some (.int (eI h (fR h a0 3) (fI h a0 6)))) h := by
  refine (G_aload rfl (mF fc107 (by rfl))).trans ?_
  refine (G_getR (c := 9) (k := 3) rfl rfl rfl (mF fc107 (by rfl))).trans (andR ?_)
  refine (G_aload rfl (mF fc107 (by rfl))).trans ?_
  refine (G_getI (c := 9) (k := 6) rfl rfl rfl (mF fc107 (by rfl))).trans (andR ?_)
  refine (G_iaload (mF fc107 (by rfl))).trans (andR ?_)
  exact G_ireturnI rfl (mF fc107 (by rfl))
theorem e107 {d : Nat} {h : mHeap} {K : Int32 → mHeap → Prop} {a0 : Nat} : GoCi (d + 1) 107 [.ref a0] h K ↔ Go d 107 0 [some (.ref a0)] [] h (rI K) := GoCi_entry rfl rfl
set_option maxRecDepth 20000 in
theorem fc108 : mCodes[108]? = some mc108 := rfl
theorem b108_0 {d : Nat} {h : mHeap} {Q : Option Value → mHeap → Prop} {a0 : Nat} : Go d 108 0 [some (.ref a0)] [] h Q ↔ okF h a0 9 6 0 ∧ okF h a0 9 5 0 ∧ (if ((fI h a0 5) - (ii 1)) ≤ (fI h a0 6) then (Q none h) else (okF h a0 9 6 0 ∧ okP h a0 9 6 ∧ Q none (sF h a0 6 (.int ((fI h a0 6) + (ii 1)))))) := by
  refine (G_aload rfl (mF fc108 (by rfl))).trans ?_
  refine (G_getI (c := 9) (k := 6) rfl rfl rfl (mF fc108 (by rfl))).trans (andR ?_)
  refine (G_aload rfl (mF fc108 (by rfl))).trans ?_
  refine (G_getI (c := 9) (k := 5) rfl rfl rfl (mF fc108 (by rfl))).trans (andR ?_)
  refine (G_iconst (mF fc108 (by rfl))).trans ?_
  refine (G_isub (mF fc108 (by rfl))).trans ?_
  refine (G_ige (mF fc108 (by rfl))).trans (gi ?_ ?_)
  ·
    exact G_return rfl (mF fc108 (by rfl))
  ·
    refine (G_aload rfl (mF fc108 (by rfl))).trans ?_
    refine (G_dupr (mF fc108 (by rfl))).trans ?_
    refine (G_getI (c := 9) (k := 6) rfl rfl rfl (mF fc108 (by rfl))).trans (andR ?_)
    refine (G_iconst (mF fc108 (by rfl))).trans ?_
    refine (G_iadd (mF fc108 (by rfl))).trans ?_
    refine (G_putT (c := 9) (k := 6) rfl rfl rfl (mF fc108 (by rfl))).trans (andR ?_)
    exact G_return rfl (mF fc108 (by rfl))
theorem e108 {d : Nat} {h : mHeap} {K : mHeap → Prop} {a0 : Nat} : GoCv (d + 1) 108 [.ref a0] h K ↔ Go d 108 0 [some (.ref a0)] [] h (rV K) := GoCv_entry rfl rfl
set_option maxRecDepth 20000 in
theorem fc109 : mCodes[109]? = some mc109 := rfl
theorem b109_0 {d : Nat} {h : mHeap} {Q : Option Value → mHeap → Prop} {a0 : Nat} {x1 : Int32} : Go d 109 0 [some (.ref a0), some (.int x1)] [] h Q ↔ okF h a0 9 3 2 ∧ okF h a0 9 6 0 ∧ okA h (fR h a0 3) .int (fI h a0 6) ∧ (if (eI h (fR h a0 3) (fI h a0 6)) = x1 then (oC h a0 = 9 ∧ GoCv d 108 [.ref a0] h (fun h1 => ((ii 1) = ii 0 ∨ (ii 1) = ii 1) ∧ Q (some (.int (ii 1))) h1)) else (((ii 0) = ii 0 ∨ (ii 0) = ii 1) ∧ Q (some (.int (ii 0))) h)) := by
  refine (G_aload rfl (mF fc109 (by rfl))).trans ?_
  refine (G_getR (c := 9) (k := 3) rfl rfl rfl (mF fc109 (by rfl))).trans (andR ?_)
  refine (G_aload rfl (mF fc109 (by rfl))).trans ?_
  refine (G_getI (c := 9) (k := 6) rfl rfl rfl (mF fc109 (by rfl))).trans (andR ?_)
  refine (G_iaload (mF fc109 (by rfl))).trans (andR ?_)
  refine (G_iload rfl (mF fc109 (by rfl))).trans ?_
  refine (G_ieq (mF fc109 (by rfl))).trans (gi ?_ ?_)
  ·
    refine (G_aload rfl (mF fc109 (by rfl))).trans ?_
    refine (G_Vv (q := 55441) (y := 108) (a := a0) (c := 9) rfl rfl rfl rfl (by decide) rfl (as := [.ref a0]) (rest := []) rfl rfl (mF fc109 (by rfl))).trans (andR (GoCv_congr fun h1 => ?_))
    refine (G_iconst (mF fc109 (by rfl))).trans ?_
    exact G_ireturnZ rfl (mF fc109 (by rfl))
  ·
    refine (G_iconst (mF fc109 (by rfl))).trans ?_
    exact G_ireturnZ rfl (mF fc109 (by rfl))
theorem e109 {d : Nat} {h : mHeap} {K : Int32 → mHeap → Prop} {a0 : Nat} {x1 : Int32} : GoCi (d + 1) 109 [.ref a0, .int x1] h K ↔ Go d 109 0 [some (.ref a0), some (.int x1)] [] h (rI K) := GoCi_entry rfl rfl
set_option maxRecDepth 20000 in
theorem fc110 : mCodes[110]? = some mc110 := rfl
theorem b110_0 {d : Nat} {h : mHeap} {Q : Option Value → mHeap → Prop} {a0 : Nat} {x1 : Int32} : Go d 110 0 [some (.ref a0), some (.int x1)] [] h Q ↔ oC h a0 = 9 ∧ GoCi d 109 [.ref a0, .int x1] h (fun v1 h1 => (if ¬ v1 = ii 0 then (Q none h1) else (oC h1 a0 = 9 ∧ GoCv d 112 [.ref a0, .int (ii 0)] h1 (fun h2 => Q none h2)))) := by
  refine (G_aload rfl (mF fc110 (by rfl))).trans ?_
  refine (G_iload rfl (mF fc110 (by rfl))).trans ?_
  refine (G_Vi (q := 55954) (y := 109) (a := a0) (c := 9) rfl rfl rfl rfl (by decide) rfl (as := [.ref a0, .int x1]) (rest := []) rfl rfl (mF fc110 (by rfl))).trans (andR (GoCi_congr fun v1 h1 => ?_))
  refine (G_ne (mF fc110 (by rfl))).trans (gi ?_ ?_)
  ·
    exact G_return rfl (mF fc110 (by rfl))
  ·
    refine (G_aload rfl (mF fc110 (by rfl))).trans ?_
    refine (G_iconst (mF fc110 (by rfl))).trans ?_
    refine (G_Vv (q := 57490) (y := 112) (a := a0) (c := 9) rfl rfl rfl rfl (by decide) rfl (as := [.ref a0, .int (ii 0)]) (rest := []) rfl rfl (mF fc110 (by rfl))).trans (andR (GoCv_congr fun h2 => ?_))
    exact G_return rfl (mF fc110 (by rfl))
theorem e110 {d : Nat} {h : mHeap} {K : mHeap → Prop} {a0 : Nat} {x1 : Int32} : GoCv (d + 1) 110 [.ref a0, .int x1] h K ↔ Go d 110 0 [some (.ref a0), some (.int x1)] [] h (rV K) := GoCv_entry rfl rfl
set_option maxRecDepth 20000 in
theorem fc111 : mCodes[111]? = some mc111 := rfl
theorem b111_0 {d : Nat} {h : mHeap} {Q : Option Value → mHeap → Prop} {a0 : Nat} : Go d 111 0 [some (.ref a0)] [] h Q ↔ okF h a0 9 3 2 ∧ okF h a0 9 6 0 ∧ okA h (fR h a0 3) .int (fI h a0 6) ∧ (if (eI h (fR h a0 3) (fI h a0 6)) = (ii (-1)) then (Q none h) else (oC h a0 = 9 ∧ GoCv d 112 [.ref a0, .int (ii 0)] h (fun h1 => Q none h1))) := by
  refine (G_aload rfl (mF fc111 (by rfl))).trans ?_
  refine (G_getR (c := 9) (k := 3) rfl rfl rfl (mF fc111 (by rfl))).trans (andR ?_)
  refine (G_aload rfl (mF fc111 (by rfl))).trans ?_
  refine (G_getI (c := 9) (k := 6) rfl rfl rfl (mF fc111 (by rfl))).trans (andR ?_)
  refine (G_iaload (mF fc111 (by rfl))).trans (andR ?_)
  refine (G_iconst (mF fc111 (by rfl))).trans ?_
  refine (G_ieq (mF fc111 (by rfl))).trans (gi ?_ ?_)
  ·
    exact G_return rfl (mF fc111 (by rfl))
  ·
    refine (G_aload rfl (mF fc111 (by rfl))).trans ?_
    refine (G_iconst (mF fc111 (by rfl))).trans ?_
    refine (G_Vv (q := 57490) (y := 112) (a := a0) (c := 9) rfl rfl rfl rfl (by decide) rfl (as := [.ref a0, .int (ii 0)]) (rest := []) rfl rfl (mF fc111 (by rfl))).trans (andR (GoCv_congr fun h1 => ?_))
    exact G_return rfl (mF fc111 (by rfl))
theorem e111 {d : Nat} {h : mHeap} {K : mHeap → Prop} {a0 : Nat} : GoCv (d + 1) 111 [.ref a0] h K ↔ Go d 111 0 [some (.ref a0)] [] h (rV K) := GoCv_entry rfl rfl
set_option maxRecDepth 20000 in
theorem fc112 : mCodes[112]? = some mc112 := rfl
theorem b112_0 {d : Nat} {h : mHeap} {Q : Option Value → mHeap → Prop} {a0 : Nat} {x1 : Int32} : Go d 112 0 [some (.ref a0), some (.int x1)] [] h Q ↔ okF h a0 9 2 0 ∧ (if ¬ (fI h a0 2) = ii 0 then (okF h a0 9 5 0 ∧ okP h a0 9 6 ∧ Q none (sF h a0 6 (.int ((fI h a0 5) - (ii 1))))) else (okF h a0 9 4 2 ∧ okF h a0 9 6 0 ∧ okA h (fR h a0 4) .int (fI h a0 6) ∧ okP h a0 9 2 ∧ okF (sF h a0 2 (.int (((ii 1) + ((ii 8) * (eI h (fR h a0 4) (fI h a0 6)))) + x1))) a0 9 5 0 ∧ okP (sF h a0 2 (.int (((ii 1) + ((ii 8) * (eI h (fR h a0 4) (fI h a0 6)))) + x1))) a0 9 6 ∧ Q none (sF (sF h a0 2 (.int (((ii 1) + ((ii 8) * (eI h (fR h a0 4) (fI h a0 6)))) + x1))) a0 6 (.int ((fI (sF h a0 2 (.int (((ii 1) + ((ii 8) * (eI h (fR h a0 4) (fI h a0 6)))) + x1))) a0 5) - (ii 1)))))) := by
  refine (G_aload rfl (mF fc112 (by rfl))).trans ?_
  refine (G_getI (c := 9) (k := 2) rfl rfl rfl (mF fc112 (by rfl))).trans (andR ?_)
  refine (G_ne (mF fc112 (by rfl))).trans (gi ?_ ?_)
  ·
    refine (G_aload rfl (mF fc112 (by rfl))).trans ?_
    refine (G_aload rfl (mF fc112 (by rfl))).trans ?_
    refine (G_getI (c := 9) (k := 5) rfl rfl rfl (mF fc112 (by rfl))).trans (andR ?_)
    refine (G_iconst (mF fc112 (by rfl))).trans ?_
    refine (G_isub (mF fc112 (by rfl))).trans ?_
    refine (G_putT (c := 9) (k := 6) rfl rfl rfl (mF fc112 (by rfl))).trans (andR ?_)
    exact G_return rfl (mF fc112 (by rfl))
  ·
    refine (G_aload rfl (mF fc112 (by rfl))).trans ?_
    refine (G_iconst (mF fc112 (by rfl))).trans ?_
    refine (G_iconst (mF fc112 (by rfl))).trans ?_
    refine (G_aload rfl (mF fc112 (by rfl))).trans ?_
    refine (G_getR (c := 9) (k := 4) rfl rfl rfl (mF fc112 (by rfl))).trans (andR ?_)
    refine (G_aload rfl (mF fc112 (by rfl))).trans ?_
    refine (G_getI (c := 9) (k := 6) rfl rfl rfl (mF fc112 (by rfl))).trans (andR ?_)
    refine (G_iaload (mF fc112 (by rfl))).trans (andR ?_)
    refine (G_imul (mF fc112 (by rfl))).trans ?_
    refine (G_iadd (mF fc112 (by rfl))).trans ?_
    refine (G_iload rfl (mF fc112 (by rfl))).trans ?_
    refine (G_iadd (mF fc112 (by rfl))).trans ?_
    refine (G_putT (c := 9) (k := 2) rfl rfl rfl (mF fc112 (by rfl))).trans (andR ?_)
    refine (G_aload rfl (mF fc112 (by rfl))).trans ?_
    refine (G_aload rfl (mF fc112 (by rfl))).trans ?_
    refine (G_getI (c := 9) (k := 5) rfl rfl rfl (mF fc112 (by rfl))).trans (andR ?_)
    refine (G_iconst (mF fc112 (by rfl))).trans ?_
    refine (G_isub (mF fc112 (by rfl))).trans ?_
    refine (G_putT (c := 9) (k := 6) rfl rfl rfl (mF fc112 (by rfl))).trans (andR ?_)
    exact G_return rfl (mF fc112 (by rfl))
theorem e112 {d : Nat} {h : mHeap} {K : mHeap → Prop} {a0 : Nat} {x1 : Int32} : GoCv (d + 1) 112 [.ref a0, .int x1] h K ↔ Go d 112 0 [some (.ref a0), some (.int x1)] [] h (rV K) := GoCv_entry rfl rfl
set_option maxRecDepth 20000 in
theorem fc113 : mCodes[113]? = some mc113 := rfl
theorem b113_0 {d : Nat} {h : mHeap} {Q : Option Value → mHeap → Prop} {a0 : Nat} : Go d 113 0 [some (.ref a0)] [] h Q ↔ okF h a0 9 2 0 ∧ (if (fI h a0 2) = ii 0 then (((ii 0) = ii 0 ∨ (ii 0) = ii 1) ∧ Q (some (.int (ii 0))) h) else (((ii 1) = ii 0 ∨ (ii 1) = ii 1) ∧ Q (some (.int (ii 1))) h)) := by
  refine (G_aload rfl (mF fc113 (by rfl))).trans ?_
  refine (G_getI (c := 9) (k := 2) rfl rfl rfl (mF fc113 (by rfl))).trans (andR ?_)
  refine (G_eq (mF fc113 (by rfl))).trans (gi ?_ ?_)
  ·
    refine (G_iconst (mF fc113 (by rfl))).trans ?_
    exact G_ireturnZ rfl (mF fc113 (by rfl))
  ·
    refine (G_iconst (mF fc113 (by rfl))).trans ?_
    refine (G_goto (mF fc113 (by rfl))).trans ?_
    exact G_ireturnZ rfl (mF fc113 (by rfl))
theorem e113 {d : Nat} {h : mHeap} {K : Int32 → mHeap → Prop} {a0 : Nat} : GoCi (d + 1) 113 [.ref a0] h K ↔ Go d 113 0 [some (.ref a0)] [] h (rI K) := GoCi_entry rfl rfl
set_option maxRecDepth 20000 in
theorem fc114 : mCodes[114]? = some mc114 := rfl
theorem b114_0 {d : Nat} {h : mHeap} {Q : Option Value → mHeap → Prop} {a0 : Nat} {x1 : Int32} {x2 : Int32} : Go d 114 0 [some (.ref a0), some (.int x1), some (.int x2), none] [] h Q ↔ okF h a0 9 3 2 ∧ okF h a0 9 6 0 ∧ okA h (fR h a0 3) .int (fI h a0 6) ∧ (if ii 0 ≤ ((eI h (fR h a0 3) (fI h a0 6)) - (ii 1000)) then (okF h a0 9 3 2 ∧ okF h a0 9 6 0 ∧ okA h (fR h a0 3) .int (fI h a0 6) ∧ (if (eI h (fR h a0 3) (fI h a0 6)) = (ii 101000) then (Go d 114 50 [some (.ref a0), some (.int x1), some (.int x2), some (.int ((eI h (fR h a0 3) (fI h a0 6)) - (ii 1000)))] [] h Q) else ((if ((eI h (fR h a0 3) (fI h a0 6)) - (ii 1000)) < x1 then (Go d 114 50 [some (.ref a0), some (.int x1), some (.int x2), some (.int ((eI h (fR h a0 3) (fI h a0 6)) - (ii 1000)))] [] h Q) else ((if ((eI h (fR h a0 3) (fI h a0 6)) - (ii 1000)) ≤ x2 then (oC h a0 = 9 ∧ GoCv d 108 [.ref a0] h (fun h1 => Q (some (.int ((eI h (fR h a0 3) (fI h a0 6)) - (ii 1000)))) h1)) else (Go d 114 50 [some (.ref a0), some (.int x1), some (.int x2), some (.int ((eI h (fR h a0 3) (fI h a0 6)) - (ii 1000)))] [] h Q))))))) else (oC h a0 = 9 ∧ GoCv d 112 [.ref a0, .int (ii 0)] h (fun h2 => Q (some (.int ((eI h (fR h a0 3) (fI h a0 6)) - (ii 1000)))) h2))) := by
  refine (G_aload rfl (mF fc114 (by rfl))).trans ?_
  refine (G_getR (c := 9) (k := 3) rfl rfl rfl (mF fc114 (by rfl))).trans (andR ?_)
  refine (G_aload rfl (mF fc114 (by rfl))).trans ?_
  refine (G_getI (c := 9) (k := 6) rfl rfl rfl (mF fc114 (by rfl))).trans (andR ?_)
  refine (G_iaload (mF fc114 (by rfl))).trans (andR ?_)
  refine (G_iconst (mF fc114 (by rfl))).trans ?_
  refine (G_isub (mF fc114 (by rfl))).trans ?_
  refine (G_istore (k := 3) (L' := [some (.ref a0), some (.int x1), some (.int x2), some (.int ((eI h (fR h a0 3) (fI h a0 6)) - (ii 1000)))]) rfl (ltb rfl) rfl (mF fc114 (by rfl))).trans ?_
  refine (G_iload rfl (mF fc114 (by rfl))).trans ?_
  refine (G_ge (mF fc114 (by rfl))).trans (gi ?_ ?_)
  ·
    refine (G_aload rfl (mF fc114 (by rfl))).trans ?_
    refine (G_getR (c := 9) (k := 3) rfl rfl rfl (mF fc114 (by rfl))).trans (andR ?_)
    refine (G_aload rfl (mF fc114 (by rfl))).trans ?_
    refine (G_getI (c := 9) (k := 6) rfl rfl rfl (mF fc114 (by rfl))).trans (andR ?_)
    refine (G_iaload (mF fc114 (by rfl))).trans (andR ?_)
    refine (G_iconst (mF fc114 (by rfl))).trans ?_
    refine (G_ieq (mF fc114 (by rfl))).trans (gi ?_ ?_)
    ·
      exact Iff.rfl
    ·
      refine (G_iload rfl (mF fc114 (by rfl))).trans ?_
      refine (G_iload rfl (mF fc114 (by rfl))).trans ?_
      refine (G_ilt (mF fc114 (by rfl))).trans (gi ?_ ?_)
      ·
        exact Iff.rfl
      ·
        refine (G_iload rfl (mF fc114 (by rfl))).trans ?_
        refine (G_iload rfl (mF fc114 (by rfl))).trans ?_
        refine (G_ile (mF fc114 (by rfl))).trans (gi ?_ ?_)
        ·
          refine (G_aload rfl (mF fc114 (by rfl))).trans ?_
          refine (G_Vv (q := 55441) (y := 108) (a := a0) (c := 9) rfl rfl rfl rfl (by decide) rfl (as := [.ref a0]) (rest := []) rfl rfl (mF fc114 (by rfl))).trans (andR (GoCv_congr fun h1 => ?_))
          refine (G_iload rfl (mF fc114 (by rfl))).trans ?_
          exact G_ireturnI rfl (mF fc114 (by rfl))
        ·
          exact Iff.rfl
  ·
    refine (G_aload rfl (mF fc114 (by rfl))).trans ?_
    refine (G_iconst (mF fc114 (by rfl))).trans ?_
    refine (G_Vv (q := 57490) (y := 112) (a := a0) (c := 9) rfl rfl rfl rfl (by decide) rfl (as := [.ref a0, .int (ii 0)]) (rest := []) rfl rfl (mF fc114 (by rfl))).trans (andR (GoCv_congr fun h2 => ?_))
    refine (G_goto (mF fc114 (by rfl))).trans ?_
    refine (G_iload rfl (mF fc114 (by rfl))).trans ?_
    exact G_ireturnI rfl (mF fc114 (by rfl))
theorem b114_50 {d : Nat} {h : mHeap} {Q : Option Value → mHeap → Prop} {a0 : Nat} {l1 : Option Value} {l2 : Option Value} {x3 : Int32} : Go d 114 50 [some (.ref a0), l1, l2, some (.int x3)] [] h Q ↔ oC h a0 = 9 ∧ GoCv d 112 [.ref a0, .int (ii 1)] h (fun h1 => Q (some (.int x3)) h1) := by
  refine (G_aload rfl (mF fc114 (by rfl))).trans ?_
  refine (G_iconst (mF fc114 (by rfl))).trans ?_
  refine (G_Vv (q := 57490) (y := 112) (a := a0) (c := 9) rfl rfl rfl rfl (by decide) rfl (as := [.ref a0, .int (ii 1)]) (rest := []) rfl rfl (mF fc114 (by rfl))).trans (andR (GoCv_congr fun h1 => ?_))
  refine (G_goto (mF fc114 (by rfl))).trans ?_
  refine (G_iload rfl (mF fc114 (by rfl))).trans ?_
  exact G_ireturnI rfl (mF fc114 (by rfl))
theorem e114 {d : Nat} {h : mHeap} {K : Int32 → mHeap → Prop} {a0 : Nat} {x1 : Int32} {x2 : Int32} : GoCi (d + 1) 114 [.ref a0, .int x1, .int x2] h K ↔ Go d 114 0 [some (.ref a0), some (.int x1), some (.int x2), none] [] h (rI K) := GoCi_entry rfl rfl
set_option maxRecDepth 20000 in
theorem fc115 : mCodes[115]? = some mc115 := rfl
theorem b115_0 {d : Nat} {h : mHeap} {Q : Option Value → mHeap → Prop} {a0 : Nat} : Go d 115 0 [some (.ref a0)] [] h Q ↔ 64 ≤ a0 ∧ Q none h := by
  refine (G_aload rfl (mF fc115 (by rfl))).trans ?_
  refine (G_objinit (Nat.le_of_ble_eq_true rfl) (mF fc115 (by rfl))).trans (andR ?_)
  exact G_return rfl (mF fc115 (by rfl))
theorem e115 {d : Nat} {h : mHeap} {K : mHeap → Prop} {a0 : Nat} : GoCv (d + 1) 115 [.ref a0] h K ↔ Go d 115 0 [some (.ref a0)] [] h (rV K) := GoCv_entry rfl rfl
set_option maxRecDepth 20000 in
theorem fc116 : mCodes[116]? = some mc116 := rfl
theorem b116_0 {d : Nat} {h : mHeap} {Q : Option Value → mHeap → Prop} {a0 : Nat} {y1 : Int64} {y3 : Int64} {y5 : Int64} {y7 : Int64} : Go d 116 0 [some (.ref a0), some (.long y1), none, some (.long y3), none, some (.long y5), none, some (.long y7), none] [] h Q ↔ okP h a0 10 0 ∧ okP (sF h a0 0 (.long y1)) a0 10 1 ∧ okP (sF (sF h a0 0 (.long y1)) a0 1 (.long y3)) a0 10 2 ∧ okP (sF (sF (sF h a0 0 (.long y1)) a0 1 (.long y3)) a0 2 (.long y5)) a0 10 3 ∧ Q none (sF (sF (sF (sF h a0 0 (.long y1)) a0 1 (.long y3)) a0 2 (.long y5)) a0 3 (.long y7)) := by
  refine (G_aload rfl (mF fc116 (by rfl))).trans ?_
  refine (G_lload rfl (mF fc116 (by rfl))).trans ?_
  refine (G_putT (c := 10) (k := 0) rfl rfl rfl (mF fc116 (by rfl))).trans (andR ?_)
  refine (G_aload rfl (mF fc116 (by rfl))).trans ?_
  refine (G_lload rfl (mF fc116 (by rfl))).trans ?_
  refine (G_putT (c := 10) (k := 1) rfl rfl rfl (mF fc116 (by rfl))).trans (andR ?_)
  refine (G_aload rfl (mF fc116 (by rfl))).trans ?_
  refine (G_lload rfl (mF fc116 (by rfl))).trans ?_
  refine (G_putT (c := 10) (k := 2) rfl rfl rfl (mF fc116 (by rfl))).trans (andR ?_)
  refine (G_aload rfl (mF fc116 (by rfl))).trans ?_
  refine (G_lload rfl (mF fc116 (by rfl))).trans ?_
  refine (G_putT (c := 10) (k := 3) rfl rfl rfl (mF fc116 (by rfl))).trans (andR ?_)
  exact G_return rfl (mF fc116 (by rfl))
theorem e116 {d : Nat} {h : mHeap} {K : mHeap → Prop} {a0 : Nat} {y1 : Int64} {y3 : Int64} {y5 : Int64} {y7 : Int64} : GoCv (d + 1) 116 [.ref a0, .long y1, .long y3, .long y5, .long y7] h K ↔ Go d 116 0 [some (.ref a0), some (.long y1), none, some (.long y3), none, some (.long y5), none, some (.long y7), none] [] h (rV K) := GoCv_entry rfl rfl
set_option maxRecDepth 20000 in
theorem fc117 : mCodes[117]? = some mc117 := rfl
theorem b117_0 {d : Nat} {h : mHeap} {Q : Option Value → mHeap → Prop} {a0 : Nat} {a1 : Nat} : Go d 117 0 [some (.ref a0), some (.ref a1)] [] h Q ↔ okF h a1 10 0 1 ∧ okF h a1 10 1 1 ∧ okF h a1 10 2 1 ∧ okF h a1 10 3 1 ∧ oC h a0 = 10 ∧ GoCv d 116 [.ref a0, .long (fJ h a1 0), .long (fJ h a1 1), .long (fJ h a1 2), .long (fJ h a1 3)] h (fun h1 => Q none h1) := by
  refine (G_aload rfl (mF fc117 (by rfl))).trans ?_
  refine (G_aload rfl (mF fc117 (by rfl))).trans ?_
  refine (G_getJ (c := 10) (k := 0) rfl rfl rfl (mF fc117 (by rfl))).trans (andR ?_)
  refine (G_aload rfl (mF fc117 (by rfl))).trans ?_
  refine (G_getJ (c := 10) (k := 1) rfl rfl rfl (mF fc117 (by rfl))).trans (andR ?_)
  refine (G_aload rfl (mF fc117 (by rfl))).trans ?_
  refine (G_getJ (c := 10) (k := 2) rfl rfl rfl (mF fc117 (by rfl))).trans (andR ?_)
  refine (G_aload rfl (mF fc117 (by rfl))).trans ?_
  refine (G_getJ (c := 10) (k := 3) rfl rfl rfl (mF fc117 (by rfl))).trans (andR ?_)
  refine (G_Vv (q := 59557) (y := 116) (a := a0) (c := 10) rfl rfl rfl rfl (by decide) rfl (as := [.ref a0, .long (fJ h a1 0), .long (fJ h a1 1), .long (fJ h a1 2), .long (fJ h a1 3)]) (rest := []) rfl rfl (mF fc117 (by rfl))).trans (andR (GoCv_congr fun h1 => ?_))
  exact G_return rfl (mF fc117 (by rfl))
theorem e117 {d : Nat} {h : mHeap} {K : mHeap → Prop} {a0 : Nat} {a1 : Nat} : GoCv (d + 1) 117 [.ref a0, .ref a1] h K ↔ Go d 117 0 [some (.ref a0), some (.ref a1)] [] h (rV K) := GoCv_entry rfl rfl
set_option maxRecDepth 20000 in
theorem fc118 : mCodes[118]? = some mc118 := rfl
theorem b118_0 {d : Nat} {h : mHeap} {Q : Option Value → mHeap → Prop} {a0 : Nat} {x1 : Int32} : Go d 118 0 [some (.ref a0), some (.int x1), none, none, none, none] [] h Q ↔ okL h 1 ∧ (if (ii (nL h 1)) ≤ x1 then ((if x1 ≤ (ii 6) then (Go d 118 38 [some (.ref a0), some (.int x1), none, none, none, none] [.long (jj 0)] h Q) else (Go d 118 38 [some (.ref a0), some (.int x1), none, none, none, none] [.long (jj (-1))] h Q))) else (oC h a0 = 10 ∧ GoCv d 116 [.ref a0, .long ((lshl (jj 1) (shl (ii 1) x1)) - (jj 1)), .long (jj 0), .long (jj 0), .long (jj 0)] h (fun h1 => Q none h1))) := by
  refine (G_iload rfl (mF fc118 (by rfl))).trans ?_
  refine (G_jsr (mF fc118 (by rfl))).trans ?_
  refine (G_arraylength (mF fc118 (by rfl))).trans (andR ?_)
  refine (G_ige (mF fc118 (by rfl))).trans (gi ?_ ?_)
  ·
    refine (G_iload rfl (mF fc118 (by rfl))).trans ?_
    refine (G_iconst (mF fc118 (by rfl))).trans ?_
    refine (G_ile (mF fc118 (by rfl))).trans (gi ?_ ?_)
    ·
      refine (G_jsr_w (mF fc118 (by rfl))).trans ?_
      exact Iff.rfl
    ·
      refine (G_jsr_w (mF fc118 (by rfl))).trans ?_
      refine (G_goto (mF fc118 (by rfl))).trans ?_
      exact Iff.rfl
  ·
    refine (G_aload rfl (mF fc118 (by rfl))).trans ?_
    refine (G_jsr_w (mF fc118 (by rfl))).trans ?_
    refine (G_iconst (mF fc118 (by rfl))).trans ?_
    refine (G_iload rfl (mF fc118 (by rfl))).trans ?_
    refine (G_ishl (mF fc118 (by rfl))).trans ?_
    refine (G_lshl (mF fc118 (by rfl))).trans ?_
    refine (G_jsr_w (mF fc118 (by rfl))).trans ?_
    refine (G_lsub (mF fc118 (by rfl))).trans ?_
    refine (G_jsr_w (mF fc118 (by rfl))).trans ?_
    refine (G_jsr_w (mF fc118 (by rfl))).trans ?_
    refine (G_jsr_w (mF fc118 (by rfl))).trans ?_
    refine (G_Vv (q := 59557) (y := 116) (a := a0) (c := 10) rfl rfl rfl rfl (by decide) rfl (as := [.ref a0, .long ((lshl (jj 1) (shl (ii 1) x1)) - (jj 1)), .long (jj 0), .long (jj 0), .long (jj 0)]) (rest := []) rfl rfl (mF fc118 (by rfl))).trans (andR (GoCv_congr fun h1 => ?_))
    refine (G_goto (mF fc118 (by rfl))).trans ?_
    exact G_return rfl (mF fc118 (by rfl))
theorem b118_38 {d : Nat} {h : mHeap} {Q : Option Value → mHeap → Prop} {a0 : Nat} {x1 : Int32} {l2 : Option Value} {l3 : Option Value} {l4 : Option Value} {l5 : Option Value} {t0 : Int64} : Go d 118 38 [some (.ref a0), some (.int x1), l2, l3, l4, l5] [.long t0] h Q ↔ (if x1 ≤ (ii 7) then (Go d 118 52 [some (.ref a0), some (.int x1), some (.long t0), none, l4, l5] [.long (jj 0)] h Q) else (Go d 118 52 [some (.ref a0), some (.int x1), some (.long t0), none, l4, l5] [.long (jj (-1))] h Q)) := by
  refine (G_lstore (k := 2) (L' := [some (.ref a0), some (.int x1), some (.long t0), none, l4, l5]) rfl (ltb rfl) rfl (mF fc118 (by rfl))).trans ?_
  refine (G_iload rfl (mF fc118 (by rfl))).trans ?_
  refine (G_iconst (mF fc118 (by rfl))).trans ?_
  refine (G_ile (mF fc118 (by rfl))).trans (gi ?_ ?_)
  ·
    refine (G_jsr_w (mF fc118 (by rfl))).trans ?_
    exact Iff.rfl
  ·
    refine (G_jsr_w (mF fc118 (by rfl))).trans ?_
    refine (G_goto (mF fc118 (by rfl))).trans ?_
    exact Iff.rfl
theorem b118_52 {d : Nat} {h : mHeap} {Q : Option Value → mHeap → Prop} {a0 : Nat} {l1 : Option Value} {y2 : Int64} {l4 : Option Value} {l5 : Option Value} {t0 : Int64} : Go d 118 52 [some (.ref a0), l1, some (.long y2), none, l4, l5] [.long t0] h Q ↔ oC h a0 = 10 ∧ GoCv d 116 [.ref a0, .long (jj (-1)), .long y2, .long t0, .long t0] h (fun h1 => Q none h1) := by
  refine (G_lstore (k := 4) (L' := [some (.ref a0), l1, some (.long y2), none, some (.long t0), none]) rfl (ltb rfl) rfl (mF fc118 (by rfl))).trans ?_
  refine (G_aload rfl (mF fc118 (by rfl))).trans ?_
  refine (G_jsr_w (mF fc118 (by rfl))).trans ?_
  refine (G_lload rfl (mF fc118 (by rfl))).trans ?_
  refine (G_lload rfl (mF fc118 (by rfl))).trans ?_
  refine (G_lload rfl (mF fc118 (by rfl))).trans ?_
  refine (G_Vv (q := 59557) (y := 116) (a := a0) (c := 10) rfl rfl rfl rfl (by decide) rfl (as := [.ref a0, .long (jj (-1)), .long y2, .long t0, .long t0]) (rest := []) rfl rfl (mF fc118 (by rfl))).trans (andR (GoCv_congr fun h1 => ?_))
  exact G_return rfl (mF fc118 (by rfl))
theorem e118 {d : Nat} {h : mHeap} {K : mHeap → Prop} {a0 : Nat} {x1 : Int32} : GoCv (d + 1) 118 [.ref a0, .int x1] h K ↔ Go d 118 0 [some (.ref a0), some (.int x1), none, none, none, none] [] h (rV K) := GoCv_entry rfl rfl
set_option maxRecDepth 20000 in
theorem fc119 : mCodes[119]? = some mc119 := rfl
theorem b119_0 {d : Nat} {h : mHeap} {Q : Option Value → mHeap → Prop} {a0 : Nat} {x1 : Int32} : Go d 119 0 [some (.ref a0), some (.int x1), none, none] [] h Q ↔ (if x1 < ii 0 then (Go d 119 29 [some (.ref a0), some (.int x1), none, none] [] h Q) else (okL h 1 ∧ (if (ii (nL h 1)) ≤ x1 then (Go d 119 29 [some (.ref a0), some (.int x1), none, none] [] h Q) else (okJ h 1 x1 ∧ oC h a0 = 10 ∧ GoCv d 116 [.ref a0, .long (eJ h 1 x1), .long (eJ h 1 x1), .long (eJ h 1 x1), .long (eJ h 1 x1)] h (fun h1 => Q none h1))))) := by
  refine (G_iload rfl (mF fc119 (by rfl))).trans ?_
  refine (G_lt (mF fc119 (by rfl))).trans (gi ?_ ?_)
  ·
    exact Iff.rfl
  ·
    refine (G_iload rfl (mF fc119 (by rfl))).trans ?_
    refine (G_jsr (mF fc119 (by rfl))).trans ?_
    refine (G_arraylength (mF fc119 (by rfl))).trans (andR ?_)
    refine (G_ige (mF fc119 (by rfl))).trans (gi ?_ ?_)
    ·
      exact Iff.rfl
    ·
      refine (G_jsr (mF fc119 (by rfl))).trans ?_
      refine (G_iload rfl (mF fc119 (by rfl))).trans ?_
      refine (G_laload (mF fc119 (by rfl))).trans (andR ?_)
      refine (G_lstore (k := 2) (L' := [some (.ref a0), some (.int x1), some (.long (eJ h 1 x1)), none]) rfl (ltb rfl) rfl (mF fc119 (by rfl))).trans ?_
      refine (G_aload rfl (mF fc119 (by rfl))).trans ?_
      refine (G_lload rfl (mF fc119 (by rfl))).trans ?_
      refine (G_lload rfl (mF fc119 (by rfl))).trans ?_
      refine (G_lload rfl (mF fc119 (by rfl))).trans ?_
      refine (G_lload rfl (mF fc119 (by rfl))).trans ?_
      refine (G_Vv (q := 59557) (y := 116) (a := a0) (c := 10) rfl rfl rfl rfl (by decide) rfl (as := [.ref a0, .long (eJ h 1 x1), .long (eJ h 1 x1), .long (eJ h 1 x1), .long (eJ h 1 x1)]) (rest := []) rfl rfl (mF fc119 (by rfl))).trans (andR (GoCv_congr fun h1 => ?_))
      refine (G_goto (mF fc119 (by rfl))).trans ?_
      exact G_return rfl (mF fc119 (by rfl))
theorem b119_29 {d : Nat} {h : mHeap} {Q : Option Value → mHeap → Prop} {a0 : Nat} {x1 : Int32} {l2 : Option Value} {l3 : Option Value} : Go d 119 29 [some (.ref a0), some (.int x1), l2, l3] [] h Q ↔ (if ¬ x1 = (ii 6) then (oC h a0 = 10 ∧ GoCv d 116 [.ref a0, .long (jj 0), .long (jj 0), .long (jj (-1)), .long (jj (-1))] h (fun h1 => Q none h1)) else (oC h a0 = 10 ∧ GoCv d 116 [.ref a0, .long (jj 0), .long (jj (-1)), .long (jj 0), .long (jj (-1))] h (fun h2 => Q none h2))) := by
  refine (G_iload rfl (mF fc119 (by rfl))).trans ?_
  refine (G_iconst (mF fc119 (by rfl))).trans ?_
  refine (G_ine (mF fc119 (by rfl))).trans (gi ?_ ?_)
  ·
    refine (G_aload rfl (mF fc119 (by rfl))).trans ?_
    refine (G_jsr_w (mF fc119 (by rfl))).trans ?_
    refine (G_jsr_w (mF fc119 (by rfl))).trans ?_
    refine (G_jsr_w (mF fc119 (by rfl))).trans ?_
    refine (G_jsr_w (mF fc119 (by rfl))).trans ?_
    refine (G_Vv (q := 59557) (y := 116) (a := a0) (c := 10) rfl rfl rfl rfl (by decide) rfl (as := [.ref a0, .long (jj 0), .long (jj 0), .long (jj (-1)), .long (jj (-1))]) (rest := []) rfl rfl (mF fc119 (by rfl))).trans (andR (GoCv_congr fun h1 => ?_))
    exact G_return rfl (mF fc119 (by rfl))
  ·
    refine (G_aload rfl (mF fc119 (by rfl))).trans ?_
    refine (G_jsr_w (mF fc119 (by rfl))).trans ?_
    refine (G_jsr_w (mF fc119 (by rfl))).trans ?_
    refine (G_jsr_w (mF fc119 (by rfl))).trans ?_
    refine (G_jsr_w (mF fc119 (by rfl))).trans ?_
    refine (G_Vv (q := 59557) (y := 116) (a := a0) (c := 10) rfl rfl rfl rfl (by decide) rfl (as := [.ref a0, .long (jj 0), .long (jj (-1)), .long (jj 0), .long (jj (-1))]) (rest := []) rfl rfl (mF fc119 (by rfl))).trans (andR (GoCv_congr fun h2 => ?_))
    refine (G_goto (mF fc119 (by rfl))).trans ?_
    exact G_return rfl (mF fc119 (by rfl))
theorem e119 {d : Nat} {h : mHeap} {K : mHeap → Prop} {a0 : Nat} {x1 : Int32} : GoCv (d + 1) 119 [.ref a0, .int x1] h K ↔ Go d 119 0 [some (.ref a0), some (.int x1), none, none] [] h (rV K) := GoCv_entry rfl rfl
set_option maxRecDepth 20000 in
theorem fc120 : mCodes[120]? = some mc120 := rfl
theorem b120_0 {d : Nat} {h : mHeap} {Q : Option Value → mHeap → Prop} {a0 : Nat} : Go d 120 0 [some (.ref a0)] [] h Q ↔ okF h a0 10 0 1 ∧ okF h a0 10 1 1 ∧ okF h a0 10 2 1 ∧ okF h a0 10 3 1 ∧ oC h a0 = 10 ∧ GoCv d 116 [.ref a0, .long ((fJ h a0 0) ^^^ (jj (-1))), .long ((fJ h a0 1) ^^^ (jj (-1))), .long ((fJ h a0 2) ^^^ (jj (-1))), .long ((fJ h a0 3) ^^^ (jj (-1)))] h (fun h1 => Q none h1) := by
  refine (G_aload rfl (mF fc120 (by rfl))).trans ?_
  refine (G_aload rfl (mF fc120 (by rfl))).trans ?_
  refine (G_getJ (c := 10) (k := 0) rfl rfl rfl (mF fc120 (by rfl))).trans (andR ?_)
  refine (G_jsr_w (mF fc120 (by rfl))).trans ?_
  refine (G_lxor (mF fc120 (by rfl))).trans ?_
  refine (G_aload rfl (mF fc120 (by rfl))).trans ?_
  refine (G_getJ (c := 10) (k := 1) rfl rfl rfl (mF fc120 (by rfl))).trans (andR ?_)
  refine (G_jsr_w (mF fc120 (by rfl))).trans ?_
  refine (G_lxor (mF fc120 (by rfl))).trans ?_
  refine (G_aload rfl (mF fc120 (by rfl))).trans ?_
  refine (G_getJ (c := 10) (k := 2) rfl rfl rfl (mF fc120 (by rfl))).trans (andR ?_)
  refine (G_jsr_w (mF fc120 (by rfl))).trans ?_
  refine (G_lxor (mF fc120 (by rfl))).trans ?_
  refine (G_aload rfl (mF fc120 (by rfl))).trans ?_
  refine (G_getJ (c := 10) (k := 3) rfl rfl rfl (mF fc120 (by rfl))).trans (andR ?_)
  refine (G_jsr_w (mF fc120 (by rfl))).trans ?_
  refine (G_lxor (mF fc120 (by rfl))).trans ?_
  refine (G_Vv (q := 59557) (y := 116) (a := a0) (c := 10) rfl rfl rfl rfl (by decide) rfl (as := [.ref a0, .long ((fJ h a0 0) ^^^ (jj (-1))), .long ((fJ h a0 1) ^^^ (jj (-1))), .long ((fJ h a0 2) ^^^ (jj (-1))), .long ((fJ h a0 3) ^^^ (jj (-1)))]) (rest := []) rfl rfl (mF fc120 (by rfl))).trans (andR (GoCv_congr fun h1 => ?_))
  exact G_return rfl (mF fc120 (by rfl))
theorem e120 {d : Nat} {h : mHeap} {K : mHeap → Prop} {a0 : Nat} : GoCv (d + 1) 120 [.ref a0] h K ↔ Go d 120 0 [some (.ref a0)] [] h (rV K) := GoCv_entry rfl rfl
set_option maxRecDepth 20000 in
theorem fc121 : mCodes[121]? = some mc121 := rfl
theorem b121_0 {d : Nat} {h : mHeap} {Q : Option Value → mHeap → Prop} {a0 : Nat} {a1 : Nat} : Go d 121 0 [some (.ref a0), some (.ref a1)] [] h Q ↔ okF h a0 10 0 1 ∧ okF h a1 10 0 1 ∧ okF h a0 10 1 1 ∧ okF h a1 10 1 1 ∧ okF h a0 10 2 1 ∧ okF h a1 10 2 1 ∧ okF h a0 10 3 1 ∧ okF h a1 10 3 1 ∧ oC h a0 = 10 ∧ GoCv d 116 [.ref a0, .long ((fJ h a0 0) &&& (fJ h a1 0)), .long ((fJ h a0 1) &&& (fJ h a1 1)), .long ((fJ h a0 2) &&& (fJ h a1 2)), .long ((fJ h a0 3) &&& (fJ h a1 3))] h (fun h1 => Q none h1) := by
  refine (G_aload rfl (mF fc121 (by rfl))).trans ?_
  refine (G_aload rfl (mF fc121 (by rfl))).trans ?_
  refine (G_getJ (c := 10) (k := 0) rfl rfl rfl (mF fc121 (by rfl))).trans (andR ?_)
  refine (G_aload rfl (mF fc121 (by rfl))).trans ?_
  refine (G_getJ (c := 10) (k := 0) rfl rfl rfl (mF fc121 (by rfl))).trans (andR ?_)
  refine (G_land (mF fc121 (by rfl))).trans ?_
  refine (G_aload rfl (mF fc121 (by rfl))).trans ?_
  refine (G_getJ (c := 10) (k := 1) rfl rfl rfl (mF fc121 (by rfl))).trans (andR ?_)
  refine (G_aload rfl (mF fc121 (by rfl))).trans ?_
  refine (G_getJ (c := 10) (k := 1) rfl rfl rfl (mF fc121 (by rfl))).trans (andR ?_)
  refine (G_land (mF fc121 (by rfl))).trans ?_
  refine (G_aload rfl (mF fc121 (by rfl))).trans ?_
  refine (G_getJ (c := 10) (k := 2) rfl rfl rfl (mF fc121 (by rfl))).trans (andR ?_)
  refine (G_aload rfl (mF fc121 (by rfl))).trans ?_
  refine (G_getJ (c := 10) (k := 2) rfl rfl rfl (mF fc121 (by rfl))).trans (andR ?_)
  refine (G_land (mF fc121 (by rfl))).trans ?_
  refine (G_aload rfl (mF fc121 (by rfl))).trans ?_
  refine (G_getJ (c := 10) (k := 3) rfl rfl rfl (mF fc121 (by rfl))).trans (andR ?_)
  refine (G_aload rfl (mF fc121 (by rfl))).trans ?_
  refine (G_getJ (c := 10) (k := 3) rfl rfl rfl (mF fc121 (by rfl))).trans (andR ?_)
  refine (G_land (mF fc121 (by rfl))).trans ?_
  refine (G_Vv (q := 59557) (y := 116) (a := a0) (c := 10) rfl rfl rfl rfl (by decide) rfl (as := [.ref a0, .long ((fJ h a0 0) &&& (fJ h a1 0)), .long ((fJ h a0 1) &&& (fJ h a1 1)), .long ((fJ h a0 2) &&& (fJ h a1 2)), .long ((fJ h a0 3) &&& (fJ h a1 3))]) (rest := []) rfl rfl (mF fc121 (by rfl))).trans (andR (GoCv_congr fun h1 => ?_))
  exact G_return rfl (mF fc121 (by rfl))
theorem e121 {d : Nat} {h : mHeap} {K : mHeap → Prop} {a0 : Nat} {a1 : Nat} : GoCv (d + 1) 121 [.ref a0, .ref a1] h K ↔ Go d 121 0 [some (.ref a0), some (.ref a1)] [] h (rV K) := GoCv_entry rfl rfl
set_option maxRecDepth 20000 in
theorem fc122 : mCodes[122]? = some mc122 := rfl
theorem b122_0 {d : Nat} {h : mHeap} {Q : Option Value → mHeap → Prop} {a0 : Nat} {a1 : Nat} : Go d 122 0 [some (.ref a0), some (.ref a1)] [] h Q ↔ okF h a0 10 0 1 ∧ okF h a1 10 0 1 ∧ okF h a0 10 1 1 ∧ okF h a1 10 1 1 ∧ okF h a0 10 2 1 ∧ okF h a1 10 2 1 ∧ okF h a0 10 3 1 ∧ okF h a1 10 3 1 ∧ oC h a0 = 10 ∧ GoCv d 116 [.ref a0, .long ((fJ h a0 0) ||| (fJ h a1 0)), .long ((fJ h a0 1) ||| (fJ h a1 1)), .long ((fJ h a0 2) ||| (fJ h a1 2)), .long ((fJ h a0 3) ||| (fJ h a1 3))] h (fun h1 => Q none h1) := by
  refine (G_aload rfl (mF fc122 (by rfl))).trans ?_
  refine (G_aload rfl (mF fc122 (by rfl))).trans ?_
  refine (G_getJ (c := 10) (k := 0) rfl rfl rfl (mF fc122 (by rfl))).trans (andR ?_)
  refine (G_aload rfl (mF fc122 (by rfl))).trans ?_
  refine (G_getJ (c := 10) (k := 0) rfl rfl rfl (mF fc122 (by rfl))).trans (andR ?_)
  refine (G_lor (mF fc122 (by rfl))).trans ?_
  refine (G_aload rfl (mF fc122 (by rfl))).trans ?_
  refine (G_getJ (c := 10) (k := 1) rfl rfl rfl (mF fc122 (by rfl))).trans (andR ?_)
  refine (G_aload rfl (mF fc122 (by rfl))).trans ?_
  refine (G_getJ (c := 10) (k := 1) rfl rfl rfl (mF fc122 (by rfl))).trans (andR ?_)
  refine (G_lor (mF fc122 (by rfl))).trans ?_
  refine (G_aload rfl (mF fc122 (by rfl))).trans ?_
  refine (G_getJ (c := 10) (k := 2) rfl rfl rfl (mF fc122 (by rfl))).trans (andR ?_)
  refine (G_aload rfl (mF fc122 (by rfl))).trans ?_
  refine (G_getJ (c := 10) (k := 2) rfl rfl rfl (mF fc122 (by rfl))).trans (andR ?_)
  refine (G_lor (mF fc122 (by rfl))).trans ?_
  refine (G_aload rfl (mF fc122 (by rfl))).trans ?_
  refine (G_getJ (c := 10) (k := 3) rfl rfl rfl (mF fc122 (by rfl))).trans (andR ?_)
  refine (G_aload rfl (mF fc122 (by rfl))).trans ?_
  refine (G_getJ (c := 10) (k := 3) rfl rfl rfl (mF fc122 (by rfl))).trans (andR ?_)
  refine (G_lor (mF fc122 (by rfl))).trans ?_
  refine (G_Vv (q := 59557) (y := 116) (a := a0) (c := 10) rfl rfl rfl rfl (by decide) rfl (as := [.ref a0, .long ((fJ h a0 0) ||| (fJ h a1 0)), .long ((fJ h a0 1) ||| (fJ h a1 1)), .long ((fJ h a0 2) ||| (fJ h a1 2)), .long ((fJ h a0 3) ||| (fJ h a1 3))]) (rest := []) rfl rfl (mF fc122 (by rfl))).trans (andR (GoCv_congr fun h1 => ?_))
  exact G_return rfl (mF fc122 (by rfl))
theorem e122 {d : Nat} {h : mHeap} {K : mHeap → Prop} {a0 : Nat} {a1 : Nat} : GoCv (d + 1) 122 [.ref a0, .ref a1] h K ↔ Go d 122 0 [some (.ref a0), some (.ref a1)] [] h (rV K) := GoCv_entry rfl rfl
set_option maxRecDepth 20000 in
theorem fc123 : mCodes[123]? = some mc123 := rfl
theorem b123_0 {d : Nat} {h : mHeap} {Q : Option Value → mHeap → Prop} {a0 : Nat} {x1 : Int32} {x2 : Int32} : Go d 123 0 [some (.ref a0), some (.int x1), some (.int x2), none, none] [] h Q ↔ (if x1 < ii 0 then (Go d 123 65 [some (.ref a0), some (.int x1), some (.int x2), none, none] [] h Q) else (okL h 1 ∧ (if (ii (nL h 1)) ≤ x1 then (Go d 123 65 [some (.ref a0), some (.int x1), some (.int x2), none, none] [] h Q) else ((if x2 = ii 0 then (okJ h 1 x1 ∧ Go d 123 33 [some (.ref a0), some (.int x1), some (.int x2), none, none] [.long ((eJ h 1 x1) ^^^ (jj (-1)))] h Q) else (okJ h 1 x1 ∧ Go d 123 33 [some (.ref a0), some (.int x1), some (.int x2), none, none] [.long (eJ h 1 x1)] h Q)))))) := by
  refine (G_iload rfl (mF fc123 (by rfl))).trans ?_
  refine (G_lt (mF fc123 (by rfl))).trans (gi ?_ ?_)
  ·
    exact Iff.rfl
  ·
    refine (G_iload rfl (mF fc123 (by rfl))).trans ?_
    refine (G_jsr (mF fc123 (by rfl))).trans ?_
    refine (G_arraylength (mF fc123 (by rfl))).trans (andR ?_)
    refine (G_ige (mF fc123 (by rfl))).trans (gi ?_ ?_)
    ·
      exact Iff.rfl
    ·
      refine (G_iload rfl (mF fc123 (by rfl))).trans ?_
      refine (G_eq (mF fc123 (by rfl))).trans (gi ?_ ?_)
      ·
        refine (G_jsr (mF fc123 (by rfl))).trans ?_
        refine (G_iload rfl (mF fc123 (by rfl))).trans ?_
        refine (G_laload (mF fc123 (by rfl))).trans (andR ?_)
        refine (G_jsr_w (mF fc123 (by rfl))).trans ?_
        refine (G_lxor (mF fc123 (by rfl))).trans ?_
        exact Iff.rfl
      ·
        refine (G_jsr (mF fc123 (by rfl))).trans ?_
        refine (G_iload rfl (mF fc123 (by rfl))).trans ?_
        refine (G_laload (mF fc123 (by rfl))).trans (andR ?_)
        refine (G_goto (mF fc123 (by rfl))).trans ?_
        exact Iff.rfl
theorem b123_33 {d : Nat} {h : mHeap} {Q : Option Value → mHeap → Prop} {a0 : Nat} {l1 : Option Value} {l2 : Option Value} {l3 : Option Value} {l4 : Option Value} {t0 : Int64} (hl2 : mNo l2 = true) : Go d 123 33 [some (.ref a0), l1, l2, l3, l4] [.long t0] h Q ↔ okF h a0 10 0 1 ∧ okF h a0 10 1 1 ∧ okF h a0 10 2 1 ∧ okF h a0 10 3 1 ∧ oC h a0 = 10 ∧ GoCv d 116 [.ref a0, .long ((fJ h a0 0) &&& t0), .long ((fJ h a0 1) &&& t0), .long ((fJ h a0 2) &&& t0), .long ((fJ h a0 3) &&& t0)] h (fun h1 => Q none h1) := by
  refine (G_lstore (k := 3) (L' := [some (.ref a0), l1, l2, some (.long t0), none]) rfl (ltb rfl) (by exact hl2) (mF fc123 (by rfl))).trans ?_
  refine (G_aload rfl (mF fc123 (by rfl))).trans ?_
  refine (G_aload rfl (mF fc123 (by rfl))).trans ?_
  refine (G_getJ (c := 10) (k := 0) rfl rfl rfl (mF fc123 (by rfl))).trans (andR ?_)
  refine (G_lload rfl (mF fc123 (by rfl))).trans ?_
  refine (G_land (mF fc123 (by rfl))).trans ?_
  refine (G_aload rfl (mF fc123 (by rfl))).trans ?_
  refine (G_getJ (c := 10) (k := 1) rfl rfl rfl (mF fc123 (by rfl))).trans (andR ?_)
  refine (G_lload rfl (mF fc123 (by rfl))).trans ?_
  refine (G_land (mF fc123 (by rfl))).trans ?_
  refine (G_aload rfl (mF fc123 (by rfl))).trans ?_
  refine (G_getJ (c := 10) (k := 2) rfl rfl rfl (mF fc123 (by rfl))).trans (andR ?_)
  refine (G_lload rfl (mF fc123 (by rfl))).trans ?_
  refine (G_land (mF fc123 (by rfl))).trans ?_
  refine (G_aload rfl (mF fc123 (by rfl))).trans ?_
  refine (G_getJ (c := 10) (k := 3) rfl rfl rfl (mF fc123 (by rfl))).trans (andR ?_)
  refine (G_lload rfl (mF fc123 (by rfl))).trans ?_
  refine (G_land (mF fc123 (by rfl))).trans ?_
  refine (G_Vv (q := 59557) (y := 116) (a := a0) (c := 10) rfl rfl rfl rfl (by decide) rfl (as := [.ref a0, .long ((fJ h a0 0) &&& t0), .long ((fJ h a0 1) &&& t0), .long ((fJ h a0 2) &&& t0), .long ((fJ h a0 3) &&& t0)]) (rest := []) rfl rfl (mF fc123 (by rfl))).trans (andR (GoCv_congr fun h1 => ?_))
  refine (G_goto (mF fc123 (by rfl))).trans ?_
  exact G_return rfl (mF fc123 (by rfl))
theorem b123_65 {d : Nat} {h : mHeap} {Q : Option Value → mHeap → Prop} {a0 : Nat} {x1 : Int32} {x2 : Int32} {l3 : Option Value} {l4 : Option Value} : Go d 123 65 [some (.ref a0), some (.int x1), some (.int x2), l3, l4] [] h Q ↔ (if ¬ x1 = (ii 6) then ((if x2 = ii 0 then (okF h a0 10 0 1 ∧ Go d 123 139 [some (.ref a0), some (.int x1), some (.int x2), l3, l4] [.long (fJ h a0 0), .ref a0] h Q) else (Go d 123 139 [some (.ref a0), some (.int x1), some (.int x2), l3, l4] [.long (jj 0), .ref a0] h Q))) else ((if x2 = ii 0 then (okF h a0 10 0 1 ∧ Go d 123 84 [some (.ref a0), some (.int x1), some (.int x2), l3, l4] [.long (fJ h a0 0), .ref a0] h Q) else (Go d 123 84 [some (.ref a0), some (.int x1), some (.int x2), l3, l4] [.long (jj 0), .ref a0] h Q)))) := by
  refine (G_iload rfl (mF fc123 (by rfl))).trans ?_
  refine (G_iconst (mF fc123 (by rfl))).trans ?_
  refine (G_ine (mF fc123 (by rfl))).trans (gi ?_ ?_)
  ·
    refine (G_aload rfl (mF fc123 (by rfl))).trans ?_
    refine (G_iload rfl (mF fc123 (by rfl))).trans ?_
    refine (G_eq (mF fc123 (by rfl))).trans (gi ?_ ?_)
    ·
      refine (G_aload rfl (mF fc123 (by rfl))).trans ?_
      refine (G_getJ (c := 10) (k := 0) rfl rfl rfl (mF fc123 (by rfl))).trans (andR ?_)
      exact Iff.rfl
    ·
      refine (G_jsr_w (mF fc123 (by rfl))).trans ?_
      refine (G_goto (mF fc123 (by rfl))).trans ?_
      exact Iff.rfl
  ·
    refine (G_aload rfl (mF fc123 (by rfl))).trans ?_
    refine (G_iload rfl (mF fc123 (by rfl))).trans ?_
    refine (G_eq (mF fc123 (by rfl))).trans (gi ?_ ?_)
    ·
      refine (G_aload rfl (mF fc123 (by rfl))).trans ?_
      refine (G_getJ (c := 10) (k := 0) rfl rfl rfl (mF fc123 (by rfl))).trans (andR ?_)
      exact Iff.rfl
    ·
      refine (G_jsr_w (mF fc123 (by rfl))).trans ?_
      refine (G_goto (mF fc123 (by rfl))).trans ?_
      exact Iff.rfl
theorem b123_84 {d : Nat} {h : mHeap} {Q : Option Value → mHeap → Prop} {a0 : Nat} {l1 : Option Value} {x2 : Int32} {l3 : Option Value} {l4 : Option Value} {r0 : Nat} {t1 : Int64} : Go d 123 84 [some (.ref a0), l1, some (.int x2), l3, l4] [.long t1, .ref r0] h Q ↔ (if x2 = ii 0 then (Go d 123 96 [some (.ref a0), l1, some (.int x2), l3, l4] [.long (jj 0), .long t1, .ref r0] h Q) else (okF h a0 10 1 1 ∧ Go d 123 96 [some (.ref a0), l1, some (.int x2), l3, l4] [.long (fJ h a0 1), .long t1, .ref r0] h Q)) := by
  refine (G_iload rfl (mF fc123 (by rfl))).trans ?_
  refine (G_eq (mF fc123 (by rfl))).trans (gi ?_ ?_)
  ·
    refine (G_jsr_w (mF fc123 (by rfl))).trans ?_
    exact Iff.rfl
  ·
    refine (G_aload rfl (mF fc123 (by rfl))).trans ?_
    refine (G_getJ (c := 10) (k := 1) rfl rfl rfl (mF fc123 (by rfl))).trans (andR ?_)
    refine (G_goto (mF fc123 (by rfl))).trans ?_
    exact Iff.rfl
theorem b123_96 {d : Nat} {h : mHeap} {Q : Option Value → mHeap → Prop} {a0 : Nat} {l1 : Option Value} {x2 : Int32} {l3 : Option Value} {l4 : Option Value} {r0 : Nat} {t1 : Int64} {t2 : Int64} : Go d 123 96 [some (.ref a0), l1, some (.int x2), l3, l4] [.long t2, .long t1, .ref r0] h Q ↔ (if x2 = ii 0 then (okF h a0 10 2 1 ∧ Go d 123 108 [some (.ref a0), l1, some (.int x2), l3, l4] [.long (fJ h a0 2), .long t2, .long t1, .ref r0] h Q) else (Go d 123 108 [some (.ref a0), l1, some (.int x2), l3, l4] [.long (jj 0), .long t2, .long t1, .ref r0] h Q)) := by
  refine (G_iload rfl (mF fc123 (by rfl))).trans ?_
  refine (G_eq (mF fc123 (by rfl))).trans (gi ?_ ?_)
  ·
    refine (G_aload rfl (mF fc123 (by rfl))).trans ?_
    refine (G_getJ (c := 10) (k := 2) rfl rfl rfl (mF fc123 (by rfl))).trans (andR ?_)
    exact Iff.rfl
  ·
    refine (G_jsr_w (mF fc123 (by rfl))).trans ?_
    refine (G_goto (mF fc123 (by rfl))).trans ?_
    exact Iff.rfl
theorem b123_108 {d : Nat} {h : mHeap} {Q : Option Value → mHeap → Prop} {a0 : Nat} {l1 : Option Value} {x2 : Int32} {l3 : Option Value} {l4 : Option Value} {r0 : Nat} {t1 : Int64} {t2 : Int64} {t3 : Int64} : Go d 123 108 [some (.ref a0), l1, some (.int x2), l3, l4] [.long t3, .long t2, .long t1, .ref r0] h Q ↔ (if x2 = ii 0 then (Go d 123 120 [some (.ref a0), l1, some (.int x2), l3, l4] [.long (jj 0), .long t3, .long t2, .long t1, .ref r0] h Q) else (okF h a0 10 3 1 ∧ Go d 123 120 [some (.ref a0), l1, some (.int x2), l3, l4] [.long (fJ h a0 3), .long t3, .long t2, .long t1, .ref r0] h Q)) := by
  refine (G_iload rfl (mF fc123 (by rfl))).trans ?_
  refine (G_eq (mF fc123 (by rfl))).trans (gi ?_ ?_)
  ·
    refine (G_jsr_w (mF fc123 (by rfl))).trans ?_
    exact Iff.rfl
  ·
    refine (G_aload rfl (mF fc123 (by rfl))).trans ?_
    refine (G_getJ (c := 10) (k := 3) rfl rfl rfl (mF fc123 (by rfl))).trans (andR ?_)
    refine (G_goto (mF fc123 (by rfl))).trans ?_
    exact Iff.rfl
theorem b123_120 {d : Nat} {h : mHeap} {Q : Option Value → mHeap → Prop} {l0 : Option Value} {l1 : Option Value} {l2 : Option Value} {l3 : Option Value} {l4 : Option Value} {r0 : Nat} {t1 : Int64} {t2 : Int64} {t3 : Int64} {t4 : Int64} : Go d 123 120 [l0, l1, l2, l3, l4] [.long t4, .long t3, .long t2, .long t1, .ref r0] h Q ↔ oC h r0 = 10 ∧ GoCv d 116 [.ref r0, .long t1, .long t2, .long t3, .long t4] h (fun h1 => Q none h1) := by
  refine (G_Vv (q := 59557) (y := 116) (a := r0) (c := 10) rfl rfl rfl rfl (by decide) rfl (as := [.ref r0, .long t1, .long t2, .long t3, .long t4]) (rest := []) rfl rfl (mF fc123 (by rfl))).trans (andR (GoCv_congr fun h1 => ?_))
  refine (G_goto (mF fc123 (by rfl))).trans ?_
  exact G_return rfl (mF fc123 (by rfl))
theorem b123_139 {d : Nat} {h : mHeap} {Q : Option Value → mHeap → Prop} {a0 : Nat} {l1 : Option Value} {x2 : Int32} {l3 : Option Value} {l4 : Option Value} {r0 : Nat} {t1 : Int64} : Go d 123 139 [some (.ref a0), l1, some (.int x2), l3, l4] [.long t1, .ref r0] h Q ↔ (if x2 = ii 0 then (okF h a0 10 1 1 ∧ Go d 123 151 [some (.ref a0), l1, some (.int x2), l3, l4] [.long (fJ h a0 1), .long t1, .ref r0] h Q) else (Go d 123 151 [some (.ref a0), l1, some (.int x2), l3, l4] [.long (jj 0), .long t1, .ref r0] h Q)) := by
  refine (G_iload rfl (mF fc123 (by rfl))).trans ?_
  refine (G_eq (mF fc123 (by rfl))).trans (gi ?_ ?_)
  ·
    refine (G_aload rfl (mF fc123 (by rfl))).trans ?_
    refine (G_getJ (c := 10) (k := 1) rfl rfl rfl (mF fc123 (by rfl))).trans (andR ?_)
    exact Iff.rfl
  ·
    refine (G_jsr_w (mF fc123 (by rfl))).trans ?_
    refine (G_goto (mF fc123 (by rfl))).trans ?_
    exact Iff.rfl
theorem b123_151 {d : Nat} {h : mHeap} {Q : Option Value → mHeap → Prop} {a0 : Nat} {l1 : Option Value} {x2 : Int32} {l3 : Option Value} {l4 : Option Value} {r0 : Nat} {t1 : Int64} {t2 : Int64} : Go d 123 151 [some (.ref a0), l1, some (.int x2), l3, l4] [.long t2, .long t1, .ref r0] h Q ↔ (if x2 = ii 0 then (Go d 123 163 [some (.ref a0), l1, some (.int x2), l3, l4] [.long (jj 0), .long t2, .long t1, .ref r0] h Q) else (okF h a0 10 2 1 ∧ Go d 123 163 [some (.ref a0), l1, some (.int x2), l3, l4] [.long (fJ h a0 2), .long t2, .long t1, .ref r0] h Q)) := by
  refine (G_iload rfl (mF fc123 (by rfl))).trans ?_
  refine (G_eq (mF fc123 (by rfl))).trans (gi ?_ ?_)
  ·
    refine (G_jsr_w (mF fc123 (by rfl))).trans ?_
    exact Iff.rfl
  ·
    refine (G_aload rfl (mF fc123 (by rfl))).trans ?_
    refine (G_getJ (c := 10) (k := 2) rfl rfl rfl (mF fc123 (by rfl))).trans (andR ?_)
    refine (G_goto (mF fc123 (by rfl))).trans ?_
    exact Iff.rfl
theorem b123_163 {d : Nat} {h : mHeap} {Q : Option Value → mHeap → Prop} {a0 : Nat} {l1 : Option Value} {x2 : Int32} {l3 : Option Value} {l4 : Option Value} {r0 : Nat} {t1 : Int64} {t2 : Int64} {t3 : Int64} : Go d 123 163 [some (.ref a0), l1, some (.int x2), l3, l4] [.long t3, .long t2, .long t1, .ref r0] h Q ↔ (if x2 = ii 0 then (Go d 123 175 [some (.ref a0), l1, some (.int x2), l3, l4] [.long (jj 0), .long t3, .long t2, .long t1, .ref r0] h Q) else (okF h a0 10 3 1 ∧ Go d 123 175 [some (.ref a0), l1, some (.int x2), l3, l4] [.long (fJ h a0 3), .long t3, .long t2, .long t1, .ref r0] h Q)) := by
  refine (G_iload rfl (mF fc123 (by rfl))).trans ?_
  refine (G_eq (mF fc123 (by rfl))).trans (gi ?_ ?_)
  ·
    refine (G_jsr_w (mF fc123 (by rfl))).trans ?_
    exact Iff.rfl
  ·
    refine (G_aload rfl (mF fc123 (by rfl))).trans ?_
    refine (G_getJ (c := 10) (k := 3) rfl rfl rfl (mF fc123 (by rfl))).trans (andR ?_)
    refine (G_goto (mF fc123 (by rfl))).trans ?_
    exact Iff.rfl
theorem b123_175 {d : Nat} {h : mHeap} {Q : Option Value → mHeap → Prop} {l0 : Option Value} {l1 : Option Value} {l2 : Option Value} {l3 : Option Value} {l4 : Option Value} {r0 : Nat} {t1 : Int64} {t2 : Int64} {t3 : Int64} {t4 : Int64} : Go d 123 175 [l0, l1, l2, l3, l4] [.long t4, .long t3, .long t2, .long t1, .ref r0] h Q ↔ oC h r0 = 10 ∧ GoCv d 116 [.ref r0, .long t1, .long t2, .long t3, .long t4] h (fun h1 => Q none h1) := by
  refine (G_Vv (q := 59557) (y := 116) (a := r0) (c := 10) rfl rfl rfl rfl (by decide) rfl (as := [.ref r0, .long t1, .long t2, .long t3, .long t4]) (rest := []) rfl rfl (mF fc123 (by rfl))).trans (andR (GoCv_congr fun h1 => ?_))
  exact G_return rfl (mF fc123 (by rfl))
theorem e123 {d : Nat} {h : mHeap} {K : mHeap → Prop} {a0 : Nat} {x1 : Int32} {x2 : Int32} : GoCv (d + 1) 123 [.ref a0, .int x1, .int x2] h K ↔ Go d 123 0 [some (.ref a0), some (.int x1), some (.int x2), none, none] [] h (rV K) := GoCv_entry rfl rfl
set_option maxRecDepth 20000 in
theorem fc124 : mCodes[124]? = some mc124 := rfl
theorem b124_0 {d : Nat} {h : mHeap} {Q : Option Value → mHeap → Prop} {a0 : Nat} {x1 : Int32} : Go d 124 0 [some (.ref a0), some (.int x1), none, none, none] [] h Q ↔ (if x1 < ii 0 then (Go d 124 70 [some (.ref a0), some (.int x1), none, none, none] [] h Q) else (okL h 1 ∧ (if (ii (nL h 1)) ≤ x1 then (Go d 124 70 [some (.ref a0), some (.int x1), none, none, none] [] h Q) else (okJ h 1 x1 ∧ okF h a0 10 0 1 ∧ GoCj d 125 [.long (fJ h a0 0), .long (eJ h 1 x1), .int (shl (ii 1) x1)] h (fun v1 h1 => okF h1 a0 10 1 1 ∧ GoCj d 125 [.long (fJ h1 a0 1), .long (eJ h 1 x1), .int (shl (ii 1) x1)] h1 (fun v2 h2 => okF h2 a0 10 2 1 ∧ GoCj d 125 [.long (fJ h2 a0 2), .long (eJ h 1 x1), .int (shl (ii 1) x1)] h2 (fun v3 h3 => okF h3 a0 10 3 1 ∧ GoCj d 125 [.long (fJ h3 a0 3), .long (eJ h 1 x1), .int (shl (ii 1) x1)] h3 (fun v4 h4 => oC h4 a0 = 10 ∧ GoCv d 116 [.ref a0, .long v1, .long v2, .long v3, .long v4] h4 (fun h5 => Q none h5))))))))) := by
  refine (G_iload rfl (mF fc124 (by rfl))).trans ?_
  refine (G_lt (mF fc124 (by rfl))).trans (gi ?_ ?_)
  ·
    exact Iff.rfl
  ·
    refine (G_iload rfl (mF fc124 (by rfl))).trans ?_
    refine (G_jsr (mF fc124 (by rfl))).trans ?_
    refine (G_arraylength (mF fc124 (by rfl))).trans (andR ?_)
    refine (G_ige (mF fc124 (by rfl))).trans (gi ?_ ?_)
    ·
      exact Iff.rfl
    ·
      refine (G_jsr (mF fc124 (by rfl))).trans ?_
      refine (G_iload rfl (mF fc124 (by rfl))).trans ?_
      refine (G_laload (mF fc124 (by rfl))).trans (andR ?_)
      refine (G_lstore (k := 2) (L' := [some (.ref a0), some (.int x1), some (.long (eJ h 1 x1)), none, none]) rfl (ltb rfl) rfl (mF fc124 (by rfl))).trans ?_
      refine (G_iconst (mF fc124 (by rfl))).trans ?_
      refine (G_iload rfl (mF fc124 (by rfl))).trans ?_
      refine (G_ishl (mF fc124 (by rfl))).trans ?_
      refine (G_istore (k := 4) (L' := [some (.ref a0), some (.int x1), some (.long (eJ h 1 x1)), none, some (.int (shl (ii 1) x1))]) rfl (ltb rfl) rfl (mF fc124 (by rfl))).trans ?_
      refine (G_aload rfl (mF fc124 (by rfl))).trans ?_
      refine (G_aload rfl (mF fc124 (by rfl))).trans ?_
      refine (G_getJ (c := 10) (k := 0) rfl rfl rfl (mF fc124 (by rfl))).trans (andR ?_)
      refine (G_lload rfl (mF fc124 (by rfl))).trans ?_
      refine (G_iload rfl (mF fc124 (by rfl))).trans ?_
      refine (G_Tj (q := 64163) (y := 125) rfl rfl rfl (as := [.long (fJ h a0 0), .long (eJ h 1 x1), .int (shl (ii 1) x1)]) (rest := [.ref a0]) rfl rfl (mF fc124 (by rfl))).trans (GoCj_congr fun v1 h1 => ?_)
      refine (G_aload rfl (mF fc124 (by rfl))).trans ?_
      refine (G_getJ (c := 10) (k := 1) rfl rfl rfl (mF fc124 (by rfl))).trans (andR ?_)
      refine (G_lload rfl (mF fc124 (by rfl))).trans ?_
      refine (G_iload rfl (mF fc124 (by rfl))).trans ?_
      refine (G_Tj (q := 64163) (y := 125) rfl rfl rfl (as := [.long (fJ h1 a0 1), .long (eJ h 1 x1), .int (shl (ii 1) x1)]) (rest := [.long v1, .ref a0]) rfl rfl (mF fc124 (by rfl))).trans (GoCj_congr fun v2 h2 => ?_)
      refine (G_aload rfl (mF fc124 (by rfl))).trans ?_
      refine (G_getJ (c := 10) (k := 2) rfl rfl rfl (mF fc124 (by rfl))).trans (andR ?_)
      refine (G_lload rfl (mF fc124 (by rfl))).trans ?_
      refine (G_iload rfl (mF fc124 (by rfl))).trans ?_
      refine (G_Tj (q := 64163) (y := 125) rfl rfl rfl (as := [.long (fJ h2 a0 2), .long (eJ h 1 x1), .int (shl (ii 1) x1)]) (rest := [.long v2, .long v1, .ref a0]) rfl rfl (mF fc124 (by rfl))).trans (GoCj_congr fun v3 h3 => ?_)
      refine (G_aload rfl (mF fc124 (by rfl))).trans ?_
      refine (G_getJ (c := 10) (k := 3) rfl rfl rfl (mF fc124 (by rfl))).trans (andR ?_)
      refine (G_lload rfl (mF fc124 (by rfl))).trans ?_
      refine (G_iload rfl (mF fc124 (by rfl))).trans ?_
      refine (G_Tj (q := 64163) (y := 125) rfl rfl rfl (as := [.long (fJ h3 a0 3), .long (eJ h 1 x1), .int (shl (ii 1) x1)]) (rest := [.long v3, .long v2, .long v1, .ref a0]) rfl rfl (mF fc124 (by rfl))).trans (GoCj_congr fun v4 h4 => ?_)
      refine (G_Vv (q := 59557) (y := 116) (a := a0) (c := 10) rfl rfl rfl rfl (by decide) rfl (as := [.ref a0, .long v1, .long v2, .long v3, .long v4]) (rest := []) rfl rfl (mF fc124 (by rfl))).trans (andR (GoCv_congr fun h5 => ?_))
      refine (G_goto (mF fc124 (by rfl))).trans ?_
      exact G_return rfl (mF fc124 (by rfl))
theorem b124_70 {d : Nat} {h : mHeap} {Q : Option Value → mHeap → Prop} {a0 : Nat} {x1 : Int32} {l2 : Option Value} {l3 : Option Value} {l4 : Option Value} : Go d 124 70 [some (.ref a0), some (.int x1), l2, l3, l4] [] h Q ↔ (if ¬ x1 = (ii 6) then (okF h a0 10 0 1 ∧ okF h a0 10 2 1 ∧ okF h a0 10 1 1 ∧ okF h a0 10 3 1 ∧ okF h a0 10 0 1 ∧ okF h a0 10 2 1 ∧ okF h a0 10 1 1 ∧ okF h a0 10 3 1 ∧ oC h a0 = 10 ∧ GoCv d 116 [.ref a0, .long ((fJ h a0 0) ||| (fJ h a0 2)), .long ((fJ h a0 1) ||| (fJ h a0 3)), .long ((fJ h a0 0) ||| (fJ h a0 2)), .long ((fJ h a0 1) ||| (fJ h a0 3))] h (fun h1 => Q none h1)) else (okF h a0 10 0 1 ∧ okF h a0 10 1 1 ∧ okF h a0 10 0 1 ∧ okF h a0 10 1 1 ∧ okF h a0 10 2 1 ∧ okF h a0 10 3 1 ∧ okF h a0 10 2 1 ∧ okF h a0 10 3 1 ∧ oC h a0 = 10 ∧ GoCv d 116 [.ref a0, .long ((fJ h a0 0) ||| (fJ h a0 1)), .long ((fJ h a0 0) ||| (fJ h a0 1)), .long ((fJ h a0 2) ||| (fJ h a0 3)), .long ((fJ h a0 2) ||| (fJ h a0 3))] h (fun h2 => Q none h2))) := by
  refine (G_iload rfl (mF fc124 (by rfl))).trans ?_
  refine (G_iconst (mF fc124 (by rfl))).trans ?_
  refine (G_ine (mF fc124 (by rfl))).trans (gi ?_ ?_)
  ·
    refine (G_aload rfl (mF fc124 (by rfl))).trans ?_
    refine (G_aload rfl (mF fc124 (by rfl))).trans ?_
    refine (G_getJ (c := 10) (k := 0) rfl rfl rfl (mF fc124 (by rfl))).trans (andR ?_)
    refine (G_aload rfl (mF fc124 (by rfl))).trans ?_
    refine (G_getJ (c := 10) (k := 2) rfl rfl rfl (mF fc124 (by rfl))).trans (andR ?_)
    refine (G_lor (mF fc124 (by rfl))).trans ?_
    refine (G_aload rfl (mF fc124 (by rfl))).trans ?_
    refine (G_getJ (c := 10) (k := 1) rfl rfl rfl (mF fc124 (by rfl))).trans (andR ?_)
    refine (G_aload rfl (mF fc124 (by rfl))).trans ?_
    refine (G_getJ (c := 10) (k := 3) rfl rfl rfl (mF fc124 (by rfl))).trans (andR ?_)
    refine (G_lor (mF fc124 (by rfl))).trans ?_
    refine (G_aload rfl (mF fc124 (by rfl))).trans ?_
    refine (G_getJ (c := 10) (k := 0) rfl rfl rfl (mF fc124 (by rfl))).trans (andR ?_)
    refine (G_aload rfl (mF fc124 (by rfl))).trans ?_
    refine (G_getJ (c := 10) (k := 2) rfl rfl rfl (mF fc124 (by rfl))).trans (andR ?_)
    refine (G_lor (mF fc124 (by rfl))).trans ?_
    refine (G_aload rfl (mF fc124 (by rfl))).trans ?_
    refine (G_getJ (c := 10) (k := 1) rfl rfl rfl (mF fc124 (by rfl))).trans (andR ?_)
    refine (G_aload rfl (mF fc124 (by rfl))).trans ?_
    refine (G_getJ (c := 10) (k := 3) rfl rfl rfl (mF fc124 (by rfl))).trans (andR ?_)
    refine (G_lor (mF fc124 (by rfl))).trans ?_
    refine (G_Vv (q := 59557) (y := 116) (a := a0) (c := 10) rfl rfl rfl rfl (by decide) rfl (as := [.ref a0, .long ((fJ h a0 0) ||| (fJ h a0 2)), .long ((fJ h a0 1) ||| (fJ h a0 3)), .long ((fJ h a0 0) ||| (fJ h a0 2)), .long ((fJ h a0 1) ||| (fJ h a0 3))]) (rest := []) rfl rfl (mF fc124 (by rfl))).trans (andR (GoCv_congr fun h1 => ?_))
    exact G_return rfl (mF fc124 (by rfl))
  ·
    refine (G_aload rfl (mF fc124 (by rfl))).trans ?_
    refine (G_aload rfl (mF fc124 (by rfl))).trans ?_
    refine (G_getJ (c := 10) (k := 0) rfl rfl rfl (mF fc124 (by rfl))).trans (andR ?_)
    refine (G_aload rfl (mF fc124 (by rfl))).trans ?_
    refine (G_getJ (c := 10) (k := 1) rfl rfl rfl (mF fc124 (by rfl))).trans (andR ?_)
    refine (G_lor (mF fc124 (by rfl))).trans ?_
    refine (G_aload rfl (mF fc124 (by rfl))).trans ?_
    refine (G_getJ (c := 10) (k := 0) rfl rfl rfl (mF fc124 (by rfl))).trans (andR ?_)
    refine (G_aload rfl (mF fc124 (by rfl))).trans ?_
    refine (G_getJ (c := 10) (k := 1) rfl rfl rfl (mF fc124 (by rfl))).trans (andR ?_)
    refine (G_lor (mF fc124 (by rfl))).trans ?_
    refine (G_aload rfl (mF fc124 (by rfl))).trans ?_
    refine (G_getJ (c := 10) (k := 2) rfl rfl rfl (mF fc124 (by rfl))).trans (andR ?_)
    refine (G_aload rfl (mF fc124 (by rfl))).trans ?_
    refine (G_getJ (c := 10) (k := 3) rfl rfl rfl (mF fc124 (by rfl))).trans (andR ?_)
    refine (G_lor (mF fc124 (by rfl))).trans ?_
    refine (G_aload rfl (mF fc124 (by rfl))).trans ?_
    refine (G_getJ (c := 10) (k := 2) rfl rfl rfl (mF fc124 (by rfl))).trans (andR ?_)
    refine (G_aload rfl (mF fc124 (by rfl))).trans ?_
    refine (G_getJ (c := 10) (k := 3) rfl rfl rfl (mF fc124 (by rfl))).trans (andR ?_)
    refine (G_lor (mF fc124 (by rfl))).trans ?_
    refine (G_Vv (q := 59557) (y := 116) (a := a0) (c := 10) rfl rfl rfl rfl (by decide) rfl (as := [.ref a0, .long ((fJ h a0 0) ||| (fJ h a0 1)), .long ((fJ h a0 0) ||| (fJ h a0 1)), .long ((fJ h a0 2) ||| (fJ h a0 3)), .long ((fJ h a0 2) ||| (fJ h a0 3))]) (rest := []) rfl rfl (mF fc124 (by rfl))).trans (andR (GoCv_congr fun h2 => ?_))
    refine (G_goto (mF fc124 (by rfl))).trans ?_
    exact G_return rfl (mF fc124 (by rfl))
theorem e124 {d : Nat} {h : mHeap} {K : mHeap → Prop} {a0 : Nat} {x1 : Int32} : GoCv (d + 1) 124 [.ref a0, .int x1] h K ↔ Go d 124 0 [some (.ref a0), some (.int x1), none, none, none] [] h (rV K) := GoCv_entry rfl rfl
set_option maxRecDepth 20000 in
theorem fc125 : mCodes[125]? = some mc125 := rfl
theorem b125_0 {d : Nat} {h : mHeap} {Q : Option Value → mHeap → Prop} {y0 : Int64} {y2 : Int64} {x4 : Int32} : Go d 125 0 [some (.long y0), none, some (.long y2), none, some (.int x4)] [] h Q ↔ Q (some (.long ((y0 ||| (lushr (y0 &&& y2) x4)) ||| ((lshl y0 x4) &&& y2)))) h := by
  refine (G_lload rfl (mF fc125 (by rfl))).trans ?_
  refine (G_lload rfl (mF fc125 (by rfl))).trans ?_
  refine (G_lload rfl (mF fc125 (by rfl))).trans ?_
  refine (G_land (mF fc125 (by rfl))).trans ?_
  refine (G_iload rfl (mF fc125 (by rfl))).trans ?_
  refine (G_lushr (mF fc125 (by rfl))).trans ?_
  refine (G_lor (mF fc125 (by rfl))).trans ?_
  refine (G_lload rfl (mF fc125 (by rfl))).trans ?_
  refine (G_iload rfl (mF fc125 (by rfl))).trans ?_
  refine (G_lshl (mF fc125 (by rfl))).trans ?_
  refine (G_lload rfl (mF fc125 (by rfl))).trans ?_
  refine (G_land (mF fc125 (by rfl))).trans ?_
  refine (G_lor (mF fc125 (by rfl))).trans ?_
  exact G_lreturn rfl (mF fc125 (by rfl))
theorem e125 {d : Nat} {h : mHeap} {K : Int64 → mHeap → Prop} {y0 : Int64} {y2 : Int64} {x4 : Int32} : GoCj (d + 1) 125 [.long y0, .long y2, .int x4] h K ↔ Go d 125 0 [some (.long y0), none, some (.long y2), none, some (.int x4)] [] h (rJ K) := GoCj_entry rfl rfl
set_option maxRecDepth 20000 in
theorem fc126 : mCodes[126]? = some mc126 := rfl
theorem b126_0 {d : Nat} {h : mHeap} {Q : Option Value → mHeap → Prop} {a0 : Nat} : Go d 126 0 [some (.ref a0)] [] h Q ↔ okF h a0 10 0 1 ∧ GoCi d 318 [.long (fJ h a0 0)] h (fun v1 h1 => okF h1 a0 10 1 1 ∧ GoCi d 318 [.long (fJ h1 a0 1)] h1 (fun v2 h2 => okF h2 a0 10 2 1 ∧ GoCi d 318 [.long (fJ h2 a0 2)] h2 (fun v3 h3 => okF h3 a0 10 3 1 ∧ GoCi d 318 [.long (fJ h3 a0 3)] h3 (fun v4 h4 => Q (some (.int (((v1 + v2) + v3) + v4))) h4)))) := by
  refine (G_aload rfl (mF fc126 (by rfl))).trans ?_
  refine (G_getJ (c := 10) (k := 0) rfl rfl rfl (mF fc126 (by rfl))).trans (andR ?_)
  refine (G_Ti (q := 163041) (y := 318) rfl rfl rfl (as := [.long (fJ h a0 0)]) (rest := []) rfl rfl (mF fc126 (by rfl))).trans (GoCi_congr fun v1 h1 => ?_)
  refine (G_aload rfl (mF fc126 (by rfl))).trans ?_
  refine (G_getJ (c := 10) (k := 1) rfl rfl rfl (mF fc126 (by rfl))).trans (andR ?_)
  refine (G_Ti (q := 163041) (y := 318) rfl rfl rfl (as := [.long (fJ h1 a0 1)]) (rest := [.int v1]) rfl rfl (mF fc126 (by rfl))).trans (GoCi_congr fun v2 h2 => ?_)
  refine (G_iadd (mF fc126 (by rfl))).trans ?_
  refine (G_aload rfl (mF fc126 (by rfl))).trans ?_
  refine (G_getJ (c := 10) (k := 2) rfl rfl rfl (mF fc126 (by rfl))).trans (andR ?_)
  refine (G_Ti (q := 163041) (y := 318) rfl rfl rfl (as := [.long (fJ h2 a0 2)]) (rest := [.int (v1 + v2)]) rfl rfl (mF fc126 (by rfl))).trans (GoCi_congr fun v3 h3 => ?_)
  refine (G_iadd (mF fc126 (by rfl))).trans ?_
  refine (G_aload rfl (mF fc126 (by rfl))).trans ?_
  refine (G_getJ (c := 10) (k := 3) rfl rfl rfl (mF fc126 (by rfl))).trans (andR ?_)
  refine (G_Ti (q := 163041) (y := 318) rfl rfl rfl (as := [.long (fJ h3 a0 3)]) (rest := [.int ((v1 + v2) + v3)]) rfl rfl (mF fc126 (by rfl))).trans (GoCi_congr fun v4 h4 => ?_)
  refine (G_iadd (mF fc126 (by rfl))).trans ?_
  exact G_ireturnI rfl (mF fc126 (by rfl))
theorem e126 {d : Nat} {h : mHeap} {K : Int32 → mHeap → Prop} {a0 : Nat} : GoCi (d + 1) 126 [.ref a0] h K ↔ Go d 126 0 [some (.ref a0)] [] h (rI K) := GoCi_entry rfl rfl
set_option maxRecDepth 20000 in
theorem fc127 : mCodes[127]? = some mc127 := rfl
theorem b127_0 {d : Nat} {h : mHeap} {Q : Option Value → mHeap → Prop} {a0 : Nat} {a1 : Nat} : Go d 127 0 [some (.ref a0), some (.ref a1)] [] h Q ↔ okF h a0 10 0 1 ∧ okF h a1 10 0 1 ∧ GoCi d 318 [.long ((fJ h a0 0) &&& ((fJ h a1 0) ^^^ (jj (-1))))] h (fun v1 h1 => okF h1 a0 10 1 1 ∧ okF h1 a1 10 1 1 ∧ GoCi d 318 [.long ((fJ h1 a0 1) &&& ((fJ h1 a1 1) ^^^ (jj (-1))))] h1 (fun v2 h2 => okF h2 a0 10 2 1 ∧ okF h2 a1 10 2 1 ∧ GoCi d 318 [.long ((fJ h2 a0 2) &&& ((fJ h2 a1 2) ^^^ (jj (-1))))] h2 (fun v3 h3 => okF h3 a0 10 3 1 ∧ okF h3 a1 10 3 1 ∧ GoCi d 318 [.long ((fJ h3 a0 3) &&& ((fJ h3 a1 3) ^^^ (jj (-1))))] h3 (fun v4 h4 => Q (some (.int (((v1 + v2) + v3) + v4))) h4)))) := by
  refine (G_aload rfl (mF fc127 (by rfl))).trans ?_
  refine (G_getJ (c := 10) (k := 0) rfl rfl rfl (mF fc127 (by rfl))).trans (andR ?_)
  refine (G_aload rfl (mF fc127 (by rfl))).trans ?_
  refine (G_getJ (c := 10) (k := 0) rfl rfl rfl (mF fc127 (by rfl))).trans (andR ?_)
  refine (G_jsr_w (mF fc127 (by rfl))).trans ?_
  refine (G_lxor (mF fc127 (by rfl))).trans ?_
  refine (G_land (mF fc127 (by rfl))).trans ?_
  refine (G_Ti (q := 163041) (y := 318) rfl rfl rfl (as := [.long ((fJ h a0 0) &&& ((fJ h a1 0) ^^^ (jj (-1))))]) (rest := []) rfl rfl (mF fc127 (by rfl))).trans (GoCi_congr fun v1 h1 => ?_)
  refine (G_aload rfl (mF fc127 (by rfl))).trans ?_
  refine (G_getJ (c := 10) (k := 1) rfl rfl rfl (mF fc127 (by rfl))).trans (andR ?_)
  refine (G_aload rfl (mF fc127 (by rfl))).trans ?_
  refine (G_getJ (c := 10) (k := 1) rfl rfl rfl (mF fc127 (by rfl))).trans (andR ?_)
  refine (G_jsr_w (mF fc127 (by rfl))).trans ?_
  refine (G_lxor (mF fc127 (by rfl))).trans ?_
  refine (G_land (mF fc127 (by rfl))).trans ?_
  refine (G_Ti (q := 163041) (y := 318) rfl rfl rfl (as := [.long ((fJ h1 a0 1) &&& ((fJ h1 a1 1) ^^^ (jj (-1))))]) (rest := [.int v1]) rfl rfl (mF fc127 (by rfl))).trans (GoCi_congr fun v2 h2 => ?_)
  refine (G_iadd (mF fc127 (by rfl))).trans ?_
  refine (G_aload rfl (mF fc127 (by rfl))).trans ?_
  refine (G_getJ (c := 10) (k := 2) rfl rfl rfl (mF fc127 (by rfl))).trans (andR ?_)
  refine (G_aload rfl (mF fc127 (by rfl))).trans ?_
  refine (G_getJ (c := 10) (k := 2) rfl rfl rfl (mF fc127 (by rfl))).trans (andR ?_)
  refine (G_jsr_w (mF fc127 (by rfl))).trans ?_
  refine (G_lxor (mF fc127 (by rfl))).trans ?_
  refine (G_land (mF fc127 (by rfl))).trans ?_
  refine (G_Ti (q := 163041) (y := 318) rfl rfl rfl (as := [.long ((fJ h2 a0 2) &&& ((fJ h2 a1 2) ^^^ (jj (-1))))]) (rest := [.int (v1 + v2)]) rfl rfl (mF fc127 (by rfl))).trans (GoCi_congr fun v3 h3 => ?_)
  refine (G_iadd (mF fc127 (by rfl))).trans ?_
  refine (G_aload rfl (mF fc127 (by rfl))).trans ?_
  refine (G_getJ (c := 10) (k := 3) rfl rfl rfl (mF fc127 (by rfl))).trans (andR ?_)
  refine (G_aload rfl (mF fc127 (by rfl))).trans ?_
  refine (G_getJ (c := 10) (k := 3) rfl rfl rfl (mF fc127 (by rfl))).trans (andR ?_)
  refine (G_jsr_w (mF fc127 (by rfl))).trans ?_
  refine (G_lxor (mF fc127 (by rfl))).trans ?_
  refine (G_land (mF fc127 (by rfl))).trans ?_
  refine (G_Ti (q := 163041) (y := 318) rfl rfl rfl (as := [.long ((fJ h3 a0 3) &&& ((fJ h3 a1 3) ^^^ (jj (-1))))]) (rest := [.int ((v1 + v2) + v3)]) rfl rfl (mF fc127 (by rfl))).trans (GoCi_congr fun v4 h4 => ?_)
  refine (G_iadd (mF fc127 (by rfl))).trans ?_
  exact G_ireturnI rfl (mF fc127 (by rfl))
theorem e127 {d : Nat} {h : mHeap} {K : Int32 → mHeap → Prop} {a0 : Nat} {a1 : Nat} : GoCi (d + 1) 127 [.ref a0, .ref a1] h K ↔ Go d 127 0 [some (.ref a0), some (.ref a1)] [] h (rI K) := GoCi_entry rfl rfl
set_option maxRecDepth 20000 in
theorem fc128 : mCodes[128]? = some mc128 := rfl
theorem b128_0 {d : Nat} {h : mHeap} {Q : Option Value → mHeap → Prop} {a0 : Nat} {a1 : Nat} : Go d 128 0 [some (.ref a0), some (.ref a1)] [] h Q ↔ okF h a0 10 0 1 ∧ okF h a1 10 0 1 ∧ okF h a0 10 1 1 ∧ okF h a1 10 1 1 ∧ okF h a0 10 2 1 ∧ okF h a1 10 2 1 ∧ okF h a0 10 3 1 ∧ okF h a1 10 3 1 ∧ (if ¬ (lg_cmp (((((fJ h a0 0) &&& ((fJ h a1 0) ^^^ (jj (-1)))) ||| ((fJ h a0 1) &&& ((fJ h a1 1) ^^^ (jj (-1))))) ||| ((fJ h a0 2) &&& ((fJ h a1 2) ^^^ (jj (-1))))) ||| ((fJ h a0 3) &&& ((fJ h a1 3) ^^^ (jj (-1))))) (jj 0)) = ii 0 then (((ii 0) = ii 0 ∨ (ii 0) = ii 1) ∧ Q (some (.int (ii 0))) h) else (((ii 1) = ii 0 ∨ (ii 1) = ii 1) ∧ Q (some (.int (ii 1))) h)) := by
  refine (G_aload rfl (mF fc128 (by rfl))).trans ?_
  refine (G_getJ (c := 10) (k := 0) rfl rfl rfl (mF fc128 (by rfl))).trans (andR ?_)
  refine (G_aload rfl (mF fc128 (by rfl))).trans ?_
  refine (G_getJ (c := 10) (k := 0) rfl rfl rfl (mF fc128 (by rfl))).trans (andR ?_)
  refine (G_jsr_w (mF fc128 (by rfl))).trans ?_
  refine (G_lxor (mF fc128 (by rfl))).trans ?_
  refine (G_land (mF fc128 (by rfl))).trans ?_
  refine (G_aload rfl (mF fc128 (by rfl))).trans ?_
  refine (G_getJ (c := 10) (k := 1) rfl rfl rfl (mF fc128 (by rfl))).trans (andR ?_)
  refine (G_aload rfl (mF fc128 (by rfl))).trans ?_
  refine (G_getJ (c := 10) (k := 1) rfl rfl rfl (mF fc128 (by rfl))).trans (andR ?_)
  refine (G_jsr_w (mF fc128 (by rfl))).trans ?_
  refine (G_lxor (mF fc128 (by rfl))).trans ?_
  refine (G_land (mF fc128 (by rfl))).trans ?_
  refine (G_lor (mF fc128 (by rfl))).trans ?_
  refine (G_aload rfl (mF fc128 (by rfl))).trans ?_
  refine (G_getJ (c := 10) (k := 2) rfl rfl rfl (mF fc128 (by rfl))).trans (andR ?_)
  refine (G_aload rfl (mF fc128 (by rfl))).trans ?_
  refine (G_getJ (c := 10) (k := 2) rfl rfl rfl (mF fc128 (by rfl))).trans (andR ?_)
  refine (G_jsr_w (mF fc128 (by rfl))).trans ?_
  refine (G_lxor (mF fc128 (by rfl))).trans ?_
  refine (G_land (mF fc128 (by rfl))).trans ?_
  refine (G_lor (mF fc128 (by rfl))).trans ?_
  refine (G_aload rfl (mF fc128 (by rfl))).trans ?_
  refine (G_getJ (c := 10) (k := 3) rfl rfl rfl (mF fc128 (by rfl))).trans (andR ?_)
  refine (G_aload rfl (mF fc128 (by rfl))).trans ?_
  refine (G_getJ (c := 10) (k := 3) rfl rfl rfl (mF fc128 (by rfl))).trans (andR ?_)
  refine (G_jsr_w (mF fc128 (by rfl))).trans ?_
  refine (G_lxor (mF fc128 (by rfl))).trans ?_
  refine (G_land (mF fc128 (by rfl))).trans ?_
  refine (G_lor (mF fc128 (by rfl))).trans ?_
  refine (G_jsr_w (mF fc128 (by rfl))).trans ?_
  refine (G_lcmp (mF fc128 (by rfl))).trans ?_
  refine (G_ne (mF fc128 (by rfl))).trans (gi ?_ ?_)
  ·
    refine (G_iconst (mF fc128 (by rfl))).trans ?_
    exact G_ireturnZ rfl (mF fc128 (by rfl))
  ·
    refine (G_iconst (mF fc128 (by rfl))).trans ?_
    refine (G_goto (mF fc128 (by rfl))).trans ?_
    exact G_ireturnZ rfl (mF fc128 (by rfl))
theorem e128 {d : Nat} {h : mHeap} {K : Int32 → mHeap → Prop} {a0 : Nat} {a1 : Nat} : GoCi (d + 1) 128 [.ref a0, .ref a1] h K ↔ Go d 128 0 [some (.ref a0), some (.ref a1)] [] h (rI K) := GoCi_entry rfl rfl
set_option maxRecDepth 20000 in
theorem fc129 : mCodes[129]? = some mc129 := rfl
theorem b129_0 {d : Nat} {h : mHeap} {Q : Option Value → mHeap → Prop} {a0 : Nat} {a1 : Nat} : Go d 129 0 [some (.ref a0), some (.ref a1)] [] h Q ↔ okF h a0 10 0 1 ∧ okF h a1 10 0 1 ∧ okF h a0 10 1 1 ∧ okF h a1 10 1 1 ∧ okF h a0 10 2 1 ∧ okF h a1 10 2 1 ∧ okF h a0 10 3 1 ∧ okF h a1 10 3 1 ∧ (if ¬ (lg_cmp (((((fJ h a0 0) &&& (fJ h a1 0)) ||| ((fJ h a0 1) &&& (fJ h a1 1))) ||| ((fJ h a0 2) &&& (fJ h a1 2))) ||| ((fJ h a0 3) &&& (fJ h a1 3))) (jj 0)) = ii 0 then (((ii 0) = ii 0 ∨ (ii 0) = ii 1) ∧ Q (some (.int (ii 0))) h) else (((ii 1) = ii 0 ∨ (ii 1) = ii 1) ∧ Q (some (.int (ii 1))) h)) := by
  refine (G_aload rfl (mF fc129 (by rfl))).trans ?_
  refine (G_getJ (c := 10) (k := 0) rfl rfl rfl (mF fc129 (by rfl))).trans (andR ?_)
  refine (G_aload rfl (mF fc129 (by rfl))).trans ?_
  refine (G_getJ (c := 10) (k := 0) rfl rfl rfl (mF fc129 (by rfl))).trans (andR ?_)
  refine (G_land (mF fc129 (by rfl))).trans ?_
  refine (G_aload rfl (mF fc129 (by rfl))).trans ?_
  refine (G_getJ (c := 10) (k := 1) rfl rfl rfl (mF fc129 (by rfl))).trans (andR ?_)
  refine (G_aload rfl (mF fc129 (by rfl))).trans ?_
  refine (G_getJ (c := 10) (k := 1) rfl rfl rfl (mF fc129 (by rfl))).trans (andR ?_)
  refine (G_land (mF fc129 (by rfl))).trans ?_
  refine (G_lor (mF fc129 (by rfl))).trans ?_
  refine (G_aload rfl (mF fc129 (by rfl))).trans ?_
  refine (G_getJ (c := 10) (k := 2) rfl rfl rfl (mF fc129 (by rfl))).trans (andR ?_)
  refine (G_aload rfl (mF fc129 (by rfl))).trans ?_
  refine (G_getJ (c := 10) (k := 2) rfl rfl rfl (mF fc129 (by rfl))).trans (andR ?_)
  refine (G_land (mF fc129 (by rfl))).trans ?_
  refine (G_lor (mF fc129 (by rfl))).trans ?_
  refine (G_aload rfl (mF fc129 (by rfl))).trans ?_
  refine (G_getJ (c := 10) (k := 3) rfl rfl rfl (mF fc129 (by rfl))).trans (andR ?_)
  refine (G_aload rfl (mF fc129 (by rfl))).trans ?_
  refine (G_getJ (c := 10) (k := 3) rfl rfl rfl (mF fc129 (by rfl))).trans (andR ?_)
  refine (G_land (mF fc129 (by rfl))).trans ?_
  refine (G_lor (mF fc129 (by rfl))).trans ?_
  refine (G_jsr_w (mF fc129 (by rfl))).trans ?_
  refine (G_lcmp (mF fc129 (by rfl))).trans ?_
  refine (G_ne (mF fc129 (by rfl))).trans (gi ?_ ?_)
  ·
    refine (G_iconst (mF fc129 (by rfl))).trans ?_
    exact G_ireturnZ rfl (mF fc129 (by rfl))
  ·
    refine (G_iconst (mF fc129 (by rfl))).trans ?_
    refine (G_goto (mF fc129 (by rfl))).trans ?_
    exact G_ireturnZ rfl (mF fc129 (by rfl))
theorem e129 {d : Nat} {h : mHeap} {K : Int32 → mHeap → Prop} {a0 : Nat} {a1 : Nat} : GoCi (d + 1) 129 [.ref a0, .ref a1] h K ↔ Go d 129 0 [some (.ref a0), some (.ref a1)] [] h (rI K) := GoCi_entry rfl rfl
set_option maxRecDepth 20000 in
theorem fc130 : mCodes[130]? = some mc130 := rfl
theorem b130_0 {d : Nat} {h : mHeap} {Q : Option Value → mHeap → Prop} {a0 : Nat} {x1 : Int32} : Go d 130 0 [some (.ref a0), some (.int x1), none, none] [] h Q ↔ (if (ii 128) ≤ x1 then ((if (ii 192) ≤ x1 then (okF h a0 10 3 1 ∧ Go d 130 45 [some (.ref a0), some (.int x1), none, none] [.long (fJ h a0 3)] h Q) else (okF h a0 10 2 1 ∧ Go d 130 45 [some (.ref a0), some (.int x1), none, none] [.long (fJ h a0 2)] h Q))) else ((if (ii 64) ≤ x1 then (okF h a0 10 1 1 ∧ Go d 130 45 [some (.ref a0), some (.int x1), none, none] [.long (fJ h a0 1)] h Q) else (okF h a0 10 0 1 ∧ Go d 130 45 [some (.ref a0), some (.int x1), none, none] [.long (fJ h a0 0)] h Q)))) := by
  refine (G_iload rfl (mF fc130 (by rfl))).trans ?_
  refine (G_iconst (mF fc130 (by rfl))).trans ?_
  refine (G_ige (mF fc130 (by rfl))).trans (gi ?_ ?_)
  ·
    refine (G_iload rfl (mF fc130 (by rfl))).trans ?_
    refine (G_iconst (mF fc130 (by rfl))).trans ?_
    refine (G_ige (mF fc130 (by rfl))).trans (gi ?_ ?_)
    ·
      refine (G_aload rfl (mF fc130 (by rfl))).trans ?_
      refine (G_getJ (c := 10) (k := 3) rfl rfl rfl (mF fc130 (by rfl))).trans (andR ?_)
      exact Iff.rfl
    ·
      refine (G_aload rfl (mF fc130 (by rfl))).trans ?_
      refine (G_getJ (c := 10) (k := 2) rfl rfl rfl (mF fc130 (by rfl))).trans (andR ?_)
      refine (G_goto (mF fc130 (by rfl))).trans ?_
      exact Iff.rfl
  ·
    refine (G_iload rfl (mF fc130 (by rfl))).trans ?_
    refine (G_iconst (mF fc130 (by rfl))).trans ?_
    refine (G_ige (mF fc130 (by rfl))).trans (gi ?_ ?_)
    ·
      refine (G_aload rfl (mF fc130 (by rfl))).trans ?_
      refine (G_getJ (c := 10) (k := 1) rfl rfl rfl (mF fc130 (by rfl))).trans (andR ?_)
      refine (G_goto (mF fc130 (by rfl))).trans ?_
      exact Iff.rfl
    ·
      refine (G_aload rfl (mF fc130 (by rfl))).trans ?_
      refine (G_getJ (c := 10) (k := 0) rfl rfl rfl (mF fc130 (by rfl))).trans (andR ?_)
      refine (G_goto (mF fc130 (by rfl))).trans ?_
      exact Iff.rfl
theorem b130_45 {d : Nat} {h : mHeap} {Q : Option Value → mHeap → Prop} {l0 : Option Value} {x1 : Int32} {l2 : Option Value} {l3 : Option Value} {t0 : Int64} : Go d 130 45 [l0, some (.int x1), l2, l3] [.long t0] h Q ↔ (if (lg_cmp ((lushr t0 (x1 &&& (ii 63))) &&& (jj 1)) (jj 0)) = ii 0 then (((ii 0) = ii 0 ∨ (ii 0) = ii 1) ∧ Q (some (.int (ii 0))) h) else (((ii 1) = ii 0 ∨ (ii 1) = ii 1) ∧ Q (some (.int (ii 1))) h)) := by
  refine (G_lstore (k := 2) (L' := [l0, some (.int x1), some (.long t0), none]) rfl (ltb rfl) rfl (mF fc130 (by rfl))).trans ?_
  refine (G_lload rfl (mF fc130 (by rfl))).trans ?_
  refine (G_iload rfl (mF fc130 (by rfl))).trans ?_
  refine (G_iconst (mF fc130 (by rfl))).trans ?_
  refine (G_iand (mF fc130 (by rfl))).trans ?_
  refine (G_lushr (mF fc130 (by rfl))).trans ?_
  refine (G_jsr_w (mF fc130 (by rfl))).trans ?_
  refine (G_land (mF fc130 (by rfl))).trans ?_
  refine (G_jsr_w (mF fc130 (by rfl))).trans ?_
  refine (G_lcmp (mF fc130 (by rfl))).trans ?_
  refine (G_eq (mF fc130 (by rfl))).trans (gi ?_ ?_)
  ·
    refine (G_iconst (mF fc130 (by rfl))).trans ?_
    exact G_ireturnZ rfl (mF fc130 (by rfl))
  ·
    refine (G_iconst (mF fc130 (by rfl))).trans ?_
    refine (G_goto (mF fc130 (by rfl))).trans ?_
    exact G_ireturnZ rfl (mF fc130 (by rfl))
theorem e130 {d : Nat} {h : mHeap} {K : Int32 → mHeap → Prop} {a0 : Nat} {x1 : Int32} : GoCi (d + 1) 130 [.ref a0, .int x1] h K ↔ Go d 130 0 [some (.ref a0), some (.int x1), none, none] [] h (rI K) := GoCi_entry rfl rfl
set_option maxRecDepth 20000 in
theorem fc131 : mCodes[131]? = some mc131 := rfl
theorem b131_0 {d : Nat} {h : mHeap} {Q : Option Value → mHeap → Prop} {a0 : Nat} {a1 : Nat} : Go d 131 0 [some (.ref a0), some (.ref a1)] [] h Q ↔ okF h a0 10 0 1 ∧ okF h a1 10 0 1 ∧ (if (lg_cmp ((fJ h a0 0) &&& ((fJ h a1 0) ^^^ (jj (-1)))) (jj 0)) = ii 0 then (okF h a0 10 1 1 ∧ okF h a1 10 1 1 ∧ (if (lg_cmp ((fJ h a0 1) &&& ((fJ h a1 1) ^^^ (jj (-1)))) (jj 0)) = ii 0 then (okF h a0 10 2 1 ∧ okF h a1 10 2 1 ∧ (if (lg_cmp ((fJ h a0 2) &&& ((fJ h a1 2) ^^^ (jj (-1)))) (jj 0)) = ii 0 then (okF h a0 10 3 1 ∧ okF h a1 10 3 1 ∧ (if (lg_cmp ((fJ h a0 3) &&& ((fJ h a1 3) ^^^ (jj (-1)))) (jj 0)) = ii 0 then (Q (some (.int (ii (-2)))) h) else (okF h a0 10 3 1 ∧ okF h a1 10 3 1 ∧ GoCi d 132 [.long ((fJ h a0 3) &&& ((fJ h a1 3) ^^^ (jj (-1))))] h (fun v1 h1 => Q (some (.int ((ii 192) + v1))) h1)))) else (okF h a0 10 2 1 ∧ okF h a1 10 2 1 ∧ GoCi d 132 [.long ((fJ h a0 2) &&& ((fJ h a1 2) ^^^ (jj (-1))))] h (fun v2 h2 => Q (some (.int ((ii 128) + v2))) h2)))) else (okF h a0 10 1 1 ∧ okF h a1 10 1 1 ∧ GoCi d 132 [.long ((fJ h a0 1) &&& ((fJ h a1 1) ^^^ (jj (-1))))] h (fun v3 h3 => Q (some (.int ((ii 64) + v3))) h3)))) else (okF h a0 10 0 1 ∧ okF h a1 10 0 1 ∧ GoCi d 132 [.long ((fJ h a0 0) &&& ((fJ h a1 0) ^^^ (jj (-1))))] h (fun v4 h4 => Q (some (.int v4)) h4))) := by
  refine (G_aload rfl (mF fc131 (by rfl))).trans ?_
  refine (G_getJ (c := 10) (k := 0) rfl rfl rfl (mF fc131 (by rfl))).trans (andR ?_)
  refine (G_aload rfl (mF fc131 (by rfl))).trans ?_
  refine (G_getJ (c := 10) (k := 0) rfl rfl rfl (mF fc131 (by rfl))).trans (andR ?_)
  refine (G_jsr_w (mF fc131 (by rfl))).trans ?_
  refine (G_lxor (mF fc131 (by rfl))).trans ?_
  refine (G_land (mF fc131 (by rfl))).trans ?_
  refine (G_jsr_w (mF fc131 (by rfl))).trans ?_
  refine (G_lcmp (mF fc131 (by rfl))).trans ?_
  refine (G_eq (mF fc131 (by rfl))).trans (gi ?_ ?_)
  ·
    refine (G_aload rfl (mF fc131 (by rfl))).trans ?_
    refine (G_getJ (c := 10) (k := 1) rfl rfl rfl (mF fc131 (by rfl))).trans (andR ?_)
    refine (G_aload rfl (mF fc131 (by rfl))).trans ?_
    refine (G_getJ (c := 10) (k := 1) rfl rfl rfl (mF fc131 (by rfl))).trans (andR ?_)
    refine (G_jsr_w (mF fc131 (by rfl))).trans ?_
    refine (G_lxor (mF fc131 (by rfl))).trans ?_
    refine (G_land (mF fc131 (by rfl))).trans ?_
    refine (G_jsr_w (mF fc131 (by rfl))).trans ?_
    refine (G_lcmp (mF fc131 (by rfl))).trans ?_
    refine (G_eq (mF fc131 (by rfl))).trans (gi ?_ ?_)
    ·
      refine (G_aload rfl (mF fc131 (by rfl))).trans ?_
      refine (G_getJ (c := 10) (k := 2) rfl rfl rfl (mF fc131 (by rfl))).trans (andR ?_)
      refine (G_aload rfl (mF fc131 (by rfl))).trans ?_
      refine (G_getJ (c := 10) (k := 2) rfl rfl rfl (mF fc131 (by rfl))).trans (andR ?_)
      refine (G_jsr_w (mF fc131 (by rfl))).trans ?_
      refine (G_lxor (mF fc131 (by rfl))).trans ?_
      refine (G_land (mF fc131 (by rfl))).trans ?_
      refine (G_jsr_w (mF fc131 (by rfl))).trans ?_
      refine (G_lcmp (mF fc131 (by rfl))).trans ?_
      refine (G_eq (mF fc131 (by rfl))).trans (gi ?_ ?_)
      ·
        refine (G_aload rfl (mF fc131 (by rfl))).trans ?_
        refine (G_getJ (c := 10) (k := 3) rfl rfl rfl (mF fc131 (by rfl))).trans (andR ?_)
        refine (G_aload rfl (mF fc131 (by rfl))).trans ?_
        refine (G_getJ (c := 10) (k := 3) rfl rfl rfl (mF fc131 (by rfl))).trans (andR ?_)
        refine (G_jsr_w (mF fc131 (by rfl))).trans ?_
        refine (G_lxor (mF fc131 (by rfl))).trans ?_
        refine (G_land (mF fc131 (by rfl))).trans ?_
        refine (G_jsr_w (mF fc131 (by rfl))).trans ?_
        refine (G_lcmp (mF fc131 (by rfl))).trans ?_
        refine (G_eq (mF fc131 (by rfl))).trans (gi ?_ ?_)
        ·
          refine (G_iconst (mF fc131 (by rfl))).trans ?_
          exact G_ireturnI rfl (mF fc131 (by rfl))
        ·
          refine (G_iconst (mF fc131 (by rfl))).trans ?_
          refine (G_aload rfl (mF fc131 (by rfl))).trans ?_
          refine (G_getJ (c := 10) (k := 3) rfl rfl rfl (mF fc131 (by rfl))).trans (andR ?_)
          refine (G_aload rfl (mF fc131 (by rfl))).trans ?_
          refine (G_getJ (c := 10) (k := 3) rfl rfl rfl (mF fc131 (by rfl))).trans (andR ?_)
          refine (G_jsr_w (mF fc131 (by rfl))).trans ?_
          refine (G_lxor (mF fc131 (by rfl))).trans ?_
          refine (G_land (mF fc131 (by rfl))).trans ?_
          refine (G_Ti (q := 67745) (y := 132) rfl rfl rfl (as := [.long ((fJ h a0 3) &&& ((fJ h a1 3) ^^^ (jj (-1))))]) (rest := [.int (ii 192)]) rfl rfl (mF fc131 (by rfl))).trans (GoCi_congr fun v1 h1 => ?_)
          refine (G_iadd (mF fc131 (by rfl))).trans ?_
          exact G_ireturnI rfl (mF fc131 (by rfl))
      ·
        refine (G_iconst (mF fc131 (by rfl))).trans ?_
        refine (G_aload rfl (mF fc131 (by rfl))).trans ?_
        refine (G_getJ (c := 10) (k := 2) rfl rfl rfl (mF fc131 (by rfl))).trans (andR ?_)
        refine (G_aload rfl (mF fc131 (by rfl))).trans ?_
        refine (G_getJ (c := 10) (k := 2) rfl rfl rfl (mF fc131 (by rfl))).trans (andR ?_)
        refine (G_jsr_w (mF fc131 (by rfl))).trans ?_
        refine (G_lxor (mF fc131 (by rfl))).trans ?_
        refine (G_land (mF fc131 (by rfl))).trans ?_
        refine (G_Ti (q := 67745) (y := 132) rfl rfl rfl (as := [.long ((fJ h a0 2) &&& ((fJ h a1 2) ^^^ (jj (-1))))]) (rest := [.int (ii 128)]) rfl rfl (mF fc131 (by rfl))).trans (GoCi_congr fun v2 h2 => ?_)
        refine (G_iadd (mF fc131 (by rfl))).trans ?_
        exact G_ireturnI rfl (mF fc131 (by rfl))
    ·
      refine (G_iconst (mF fc131 (by rfl))).trans ?_
      refine (G_aload rfl (mF fc131 (by rfl))).trans ?_
      refine (G_getJ (c := 10) (k := 1) rfl rfl rfl (mF fc131 (by rfl))).trans (andR ?_)
      refine (G_aload rfl (mF fc131 (by rfl))).trans ?_
      refine (G_getJ (c := 10) (k := 1) rfl rfl rfl (mF fc131 (by rfl))).trans (andR ?_)
      refine (G_jsr_w (mF fc131 (by rfl))).trans ?_
      refine (G_lxor (mF fc131 (by rfl))).trans ?_
      refine (G_land (mF fc131 (by rfl))).trans ?_
      refine (G_Ti (q := 67745) (y := 132) rfl rfl rfl (as := [.long ((fJ h a0 1) &&& ((fJ h a1 1) ^^^ (jj (-1))))]) (rest := [.int (ii 64)]) rfl rfl (mF fc131 (by rfl))).trans (GoCi_congr fun v3 h3 => ?_)
      refine (G_iadd (mF fc131 (by rfl))).trans ?_
      exact G_ireturnI rfl (mF fc131 (by rfl))
  ·
    refine (G_aload rfl (mF fc131 (by rfl))).trans ?_
    refine (G_getJ (c := 10) (k := 0) rfl rfl rfl (mF fc131 (by rfl))).trans (andR ?_)
    refine (G_aload rfl (mF fc131 (by rfl))).trans ?_
    refine (G_getJ (c := 10) (k := 0) rfl rfl rfl (mF fc131 (by rfl))).trans (andR ?_)
    refine (G_jsr_w (mF fc131 (by rfl))).trans ?_
    refine (G_lxor (mF fc131 (by rfl))).trans ?_
    refine (G_land (mF fc131 (by rfl))).trans ?_
    refine (G_Ti (q := 67745) (y := 132) rfl rfl rfl (as := [.long ((fJ h a0 0) &&& ((fJ h a1 0) ^^^ (jj (-1))))]) (rest := []) rfl rfl (mF fc131 (by rfl))).trans (GoCi_congr fun v4 h4 => ?_)
    exact G_ireturnI rfl (mF fc131 (by rfl))
theorem e131 {d : Nat} {h : mHeap} {K : Int32 → mHeap → Prop} {a0 : Nat} {a1 : Nat} : GoCi (d + 1) 131 [.ref a0, .ref a1] h K ↔ Go d 131 0 [some (.ref a0), some (.ref a1)] [] h (rI K) := GoCi_entry rfl rfl
set_option maxRecDepth 20000 in
theorem fc132 : mCodes[132]? = some mc132 := rfl
theorem b132_0 {d : Nat} {h : mHeap} {Q : Option Value → mHeap → Prop} {y0 : Int64} : Go d 132 0 [some (.long y0), none] [] h Q ↔ GoCi d 318 [.long ((y0 &&& (-y0)) - (jj 1))] h (fun v1 h1 => Q (some (.int v1)) h1) := by
  refine (G_lload rfl (mF fc132 (by rfl))).trans ?_
  refine (G_lload rfl (mF fc132 (by rfl))).trans ?_
  refine (G_lneg (mF fc132 (by rfl))).trans ?_
  refine (G_land (mF fc132 (by rfl))).trans ?_
  refine (G_jsr_w (mF fc132 (by rfl))).trans ?_
  refine (G_lsub (mF fc132 (by rfl))).trans ?_
  refine (G_Ti (q := 163041) (y := 318) rfl rfl rfl (as := [.long ((y0 &&& (-y0)) - (jj 1))]) (rest := []) rfl rfl (mF fc132 (by rfl))).trans (GoCi_congr fun v1 h1 => ?_)
  exact G_ireturnI rfl (mF fc132 (by rfl))
theorem e132 {d : Nat} {h : mHeap} {K : Int32 → mHeap → Prop} {y0 : Int64} : GoCi (d + 1) 132 [.long y0] h K ↔ Go d 132 0 [some (.long y0), none] [] h (rI K) := GoCi_entry rfl rfl
set_option maxRecDepth 20000 in
theorem fc133 : mCodes[133]? = some mc133 := rfl
theorem b133_0 {d : Nat} {h : mHeap} {Q : Option Value → mHeap → Prop} {a0 : Nat} {x1 : Int32} : Go d 133 0 [some (.ref a0), some (.int x1), none, none, none] [] h Q ↔ (∃ h1 : mHeap, h1 = nO h 10 ∧ 64 ≤ h.length ∧ GoCv d 115 [.ref h.length] h1 (fun h2 => Go d 133 13 [some (.ref a0), some (.int x1), some (.ref h.length), some (.int (ii 0)), some (.int (ii 0))] [] h2 Q)) := by
  refine (G_new (mF fc133 (by rfl))).trans ?_
  refine (exN (A := fun x => Go d 133 3 [some (.ref a0), some (.int x1), none, none, none] [.ref h.length] x Q) (e := nO h 10) fun h1 => ?_)
  refine (G_dupr (mF fc133 (by rfl))).trans ?_
  refine (G_Nv (q := 59041) (y := 115) (a := h.length) rfl rfl rfl rfl (as := [.ref h.length]) (rest := [.ref h.length]) rfl rfl (mF fc133 (by rfl))).trans (andR (GoCv_congr fun h2 => ?_))
  refine (G_astore (k := 2) (L' := [some (.ref a0), some (.int x1), some (.ref h.length), none, none]) rfl (ltb rfl) rfl (mF fc133 (by rfl))).trans ?_
  refine (G_iconst (mF fc133 (by rfl))).trans ?_
  refine (G_istore (k := 3) (L' := [some (.ref a0), some (.int x1), some (.ref h.length), some (.int (ii 0)), none]) rfl (ltb rfl) rfl (mF fc133 (by rfl))).trans ?_
  refine (G_iconst (mF fc133 (by rfl))).trans ?_
  refine (G_istore (k := 4) (L' := [some (.ref a0), some (.int x1), some (.ref h.length), some (.int (ii 0)), some (.int (ii 0))]) rfl (ltb rfl) rfl (mF fc133 (by rfl))).trans ?_
  exact Iff.rfl
theorem b133_13 {d : Nat} {h : mHeap} {Q : Option Value → mHeap → Prop} {a0 : Nat} {x1 : Int32} {a2 : Nat} {x3 : Int32} {x4 : Int32} : Go d 133 13 [some (.ref a0), some (.int x1), some (.ref a2), some (.int x3), some (.int x4)] [] h Q ↔ (if x1 ≤ x4 then (Q (some (.int x3)) h) else (oC h a2 = 10 ∧ GoCv d 119 [.ref a2, .int x4] h (fun h1 => oC h1 a0 = 10 ∧ GoCi d 128 [.ref a0, .ref a2] h1 (fun v2 h2 => (if ¬ v2 = ii 0 then (Go d 133 41 [some (.ref a0), some (.int x1), some (.ref a2), some (.int x3), some (.int x4)] [] h2 Q) else (oC h2 a0 = 10 ∧ GoCi d 129 [.ref a0, .ref a2] h2 (fun v3 h3 => (if v3 = ii 0 then (Go d 133 48 [some (.ref a0), some (.int x1), some (.ref a2), some (.int x3), some (.int x4)] [] h3 Q) else (Go d 133 41 [some (.ref a0), some (.int x1), some (.ref a2), some (.int x3), some (.int x4)] [] h3 Q))))))))) := by
  refine (G_iload rfl (mF fc133 (by rfl))).trans ?_
  refine (G_iload rfl (mF fc133 (by rfl))).trans ?_
  refine (G_ige (mF fc133 (by rfl))).trans (gi ?_ ?_)
  ·
    refine (G_iload rfl (mF fc133 (by rfl))).trans ?_
    exact G_ireturnI rfl (mF fc133 (by rfl))
  ·
    refine (G_aload rfl (mF fc133 (by rfl))).trans ?_
    refine (G_iload rfl (mF fc133 (by rfl))).trans ?_
    refine (G_Vv (q := 61090) (y := 119) (a := a2) (c := 10) rfl rfl rfl rfl (by decide) rfl (as := [.ref a2, .int x4]) (rest := []) rfl rfl (mF fc133 (by rfl))).trans (andR (GoCv_congr fun h1 => ?_))
    refine (G_aload rfl (mF fc133 (by rfl))).trans ?_
    refine (G_aload rfl (mF fc133 (by rfl))).trans ?_
    refine (G_Vi (q := 65698) (y := 128) (a := a0) (c := 10) rfl rfl rfl rfl (by decide) rfl (as := [.ref a0, .ref a2]) (rest := []) rfl rfl (mF fc133 (by rfl))).trans (andR (GoCi_congr fun v2 h2 => ?_))
    refine (G_ne (mF fc133 (by rfl))).trans (gi ?_ ?_)
    ·
      exact Iff.rfl
    ·
      refine (G_aload rfl (mF fc133 (by rfl))).trans ?_
      refine (G_aload rfl (mF fc133 (by rfl))).trans ?_
      refine (G_Vi (q := 66210) (y := 129) (a := a0) (c := 10) rfl rfl rfl rfl (by decide) rfl (as := [.ref a0, .ref a2]) (rest := []) rfl rfl (mF fc133 (by rfl))).trans (andR (GoCi_congr fun v3 h3 => ?_))
      refine (G_eq (mF fc133 (by rfl))).trans (gi ?_ ?_)
      ·
        exact Iff.rfl
      ·
        exact Iff.rfl
theorem b133_41 {d : Nat} {h : mHeap} {Q : Option Value → mHeap → Prop} {a0 : Nat} {x1 : Int32} {a2 : Nat} {x3 : Int32} {x4 : Int32} : Go d 133 41 [some (.ref a0), some (.int x1), some (.ref a2), some (.int x3), some (.int x4)] [] h Q ↔ Go d 133 48 [some (.ref a0), some (.int x1), some (.ref a2), some (.int (x3 ||| (shl (ii 1) x4))), some (.int x4)] [] h Q := by
  refine (G_iload rfl (mF fc133 (by rfl))).trans ?_
  refine (G_iconst (mF fc133 (by rfl))).trans ?_
  refine (G_iload rfl (mF fc133 (by rfl))).trans ?_
  refine (G_ishl (mF fc133 (by rfl))).trans ?_
  refine (G_ior (mF fc133 (by rfl))).trans ?_
  refine (G_istore (k := 3) (L' := [some (.ref a0), some (.int x1), some (.ref a2), some (.int (x3 ||| (shl (ii 1) x4))), some (.int x4)]) rfl (ltb rfl) rfl (mF fc133 (by rfl))).trans ?_
  exact Iff.rfl
theorem b133_48 {d : Nat} {h : mHeap} {Q : Option Value → mHeap → Prop} {a0 : Nat} {x1 : Int32} {a2 : Nat} {x3 : Int32} {x4 : Int32} : Go d 133 48 [some (.ref a0), some (.int x1), some (.ref a2), some (.int x3), some (.int x4)] [] h Q ↔ Go d 133 13 [some (.ref a0), some (.int x1), some (.ref a2), some (.int x3), some (.int (x4 + ii 1))] [] h Q := by
  refine (G_iinc (k := 4) (L' := [some (.ref a0), some (.int x1), some (.ref a2), some (.int x3), some (.int (x4 + ii 1))]) rfl rfl rfl (mF fc133 (by rfl))).trans ?_
  refine (G_goto (mF fc133 (by rfl))).trans ?_
  exact Iff.rfl
theorem e133 {d : Nat} {h : mHeap} {K : Int32 → mHeap → Prop} {a0 : Nat} {x1 : Int32} : GoCi (d + 1) 133 [.ref a0, .int x1] h K ↔ Go d 133 0 [some (.ref a0), some (.int x1), none, none, none] [] h (rI K) := GoCi_entry rfl rfl
