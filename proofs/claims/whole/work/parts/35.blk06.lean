set_option maxRecDepth 20000 in
theorem fc227 : mCodes[227]? = some mc227 := rfl
theorem b227_0 {d : Nat} {h : mHeap} {Q : Option Value → mHeap → Prop} {a0 : Nat} : Go d 227 0 [some (.ref a0), none] [] h Q ↔ Go d 227 2 [some (.ref a0), some (.int (ii 0))] [] h Q := by
  refine (G_iconst (mF fc227 (by rfl))).trans ?_
  refine (G_istore (k := 1) (L' := [some (.ref a0), some (.int (ii 0))]) rfl (ltb rfl) rfl (mF fc227 (by rfl))).trans ?_
  exact Iff.rfl
theorem b227_2 {d : Nat} {h : mHeap} {Q : Option Value → mHeap → Prop} {a0 : Nat} {x1 : Int32} : Go d 227 2 [some (.ref a0), some (.int x1)] [] h Q ↔ (if (ii 8) ≤ x1 then (Q none h) else (okF h a0 12 47 2 ∧ okF h a0 12 52 0 ∧ (64 ≤ (fR h a0 47) ∧ okA h (fR h a0 47) .int (((ii 8) * (fI h a0 52)) + x1)) ∧ okF (sI h (fR h a0 47) (((ii 8) * (fI h a0 52)) + x1) (ii 0)) a0 12 48 2 ∧ okF (sI h (fR h a0 47) (((ii 8) * (fI h a0 52)) + x1) (ii 0)) a0 12 52 0 ∧ (64 ≤ (fR (sI h (fR h a0 47) (((ii 8) * (fI h a0 52)) + x1) (ii 0)) a0 48) ∧ okA (sI h (fR h a0 47) (((ii 8) * (fI h a0 52)) + x1) (ii 0)) (fR (sI h (fR h a0 47) (((ii 8) * (fI h a0 52)) + x1) (ii 0)) a0 48) .int (((ii 8) * (fI (sI h (fR h a0 47) (((ii 8) * (fI h a0 52)) + x1) (ii 0)) a0 52)) + x1)) ∧ Go d 227 2 [some (.ref a0), some (.int (x1 + ii 1))] [] (sI (sI h (fR h a0 47) (((ii 8) * (fI h a0 52)) + x1) (ii 0)) (fR (sI h (fR h a0 47) (((ii 8) * (fI h a0 52)) + x1) (ii 0)) a0 48) (((ii 8) * (fI (sI h (fR h a0 47) (((ii 8) * (fI h a0 52)) + x1) (ii 0)) a0 52)) + x1) (ii (-1))) Q)) := by
  refine (G_iload rfl (mF fc227 (by rfl))).trans ?_
  refine (G_iconst (mF fc227 (by rfl))).trans ?_
  refine (G_ige (mF fc227 (by rfl))).trans (gi ?_ ?_)
  ·
    exact G_return rfl (mF fc227 (by rfl))
  ·
    refine (G_aload rfl (mF fc227 (by rfl))).trans ?_
    refine (G_getR (c := 12) (k := 47) rfl rfl rfl (mF fc227 (by rfl))).trans (andR ?_)
    refine (G_iconst (mF fc227 (by rfl))).trans ?_
    refine (G_aload rfl (mF fc227 (by rfl))).trans ?_
    refine (G_getI (c := 12) (k := 52) rfl rfl rfl (mF fc227 (by rfl))).trans (andR ?_)
    refine (G_imul (mF fc227 (by rfl))).trans ?_
    refine (G_iload rfl (mF fc227 (by rfl))).trans ?_
    refine (G_iadd (mF fc227 (by rfl))).trans ?_
    refine (G_iconst (mF fc227 (by rfl))).trans ?_
    refine (G_iastore (mF fc227 (by rfl))).trans (andR ?_)
    refine (G_aload rfl (mF fc227 (by rfl))).trans ?_
    refine (G_getR (c := 12) (k := 48) rfl rfl rfl (mF fc227 (by rfl))).trans (andR ?_)
    refine (G_iconst (mF fc227 (by rfl))).trans ?_
    refine (G_aload rfl (mF fc227 (by rfl))).trans ?_
    refine (G_getI (c := 12) (k := 52) rfl rfl rfl (mF fc227 (by rfl))).trans (andR ?_)
    refine (G_imul (mF fc227 (by rfl))).trans ?_
    refine (G_iload rfl (mF fc227 (by rfl))).trans ?_
    refine (G_iadd (mF fc227 (by rfl))).trans ?_
    refine (G_iconst (mF fc227 (by rfl))).trans ?_
    refine (G_iastore (mF fc227 (by rfl))).trans (andR ?_)
    refine (G_iinc (k := 1) (L' := [some (.ref a0), some (.int (x1 + ii 1))]) rfl rfl rfl (mF fc227 (by rfl))).trans ?_
    refine (G_goto (mF fc227 (by rfl))).trans ?_
    exact Iff.rfl
theorem e227 {d : Nat} {h : mHeap} {K : mHeap → Prop} {a0 : Nat} : GoCv (d + 1) 227 [.ref a0] h K ↔ Go d 227 0 [some (.ref a0), none] [] h (rV K) := GoCv_entry rfl rfl
set_option maxRecDepth 20000 in
theorem fc228 : mCodes[228]? = some mc228 := rfl
theorem b228_0 {d : Nat} {h : mHeap} {Q : Option Value → mHeap → Prop} {a0 : Nat} : Go d 228 0 [some (.ref a0), none] [] h Q ↔ Go d 228 2 [some (.ref a0), some (.int (ii 0))] [] h Q := by
  refine (G_iconst (mF fc228 (by rfl))).trans ?_
  refine (G_istore (k := 1) (L' := [some (.ref a0), some (.int (ii 0))]) rfl (ltb rfl) rfl (mF fc228 (by rfl))).trans ?_
  exact Iff.rfl
theorem b228_2 {d : Nat} {h : mHeap} {Q : Option Value → mHeap → Prop} {a0 : Nat} {x1 : Int32} : Go d 228 2 [some (.ref a0), some (.int x1)] [] h Q ↔ (if (ii 8) ≤ x1 then (Q none h) else (okF h a0 12 47 2 ∧ okF h a0 12 52 0 ∧ okA h (fR h a0 47) .int (((ii 8) * (fI h a0 52)) + x1) ∧ okF h a0 12 48 2 ∧ okF h a0 12 52 0 ∧ okA h (fR h a0 48) .int (((ii 8) * (fI h a0 52)) + x1) ∧ (64 ≤ (fR h a0 47) ∧ okA h (fR h a0 47) .int (((ii 8) * (fI h a0 52)) + x1)) ∧ okF (sI h (fR h a0 47) (((ii 8) * (fI h a0 52)) + x1) ((eI h (fR h a0 47) (((ii 8) * (fI h a0 52)) + x1)) ||| (eI h (fR h a0 48) (((ii 8) * (fI h a0 52)) + x1)))) a0 12 48 2 ∧ okF (sI h (fR h a0 47) (((ii 8) * (fI h a0 52)) + x1) ((eI h (fR h a0 47) (((ii 8) * (fI h a0 52)) + x1)) ||| (eI h (fR h a0 48) (((ii 8) * (fI h a0 52)) + x1)))) a0 12 52 0 ∧ (64 ≤ (fR (sI h (fR h a0 47) (((ii 8) * (fI h a0 52)) + x1) ((eI h (fR h a0 47) (((ii 8) * (fI h a0 52)) + x1)) ||| (eI h (fR h a0 48) (((ii 8) * (fI h a0 52)) + x1)))) a0 48) ∧ okA (sI h (fR h a0 47) (((ii 8) * (fI h a0 52)) + x1) ((eI h (fR h a0 47) (((ii 8) * (fI h a0 52)) + x1)) ||| (eI h (fR h a0 48) (((ii 8) * (fI h a0 52)) + x1)))) (fR (sI h (fR h a0 47) (((ii 8) * (fI h a0 52)) + x1) ((eI h (fR h a0 47) (((ii 8) * (fI h a0 52)) + x1)) ||| (eI h (fR h a0 48) (((ii 8) * (fI h a0 52)) + x1)))) a0 48) .int (((ii 8) * (fI (sI h (fR h a0 47) (((ii 8) * (fI h a0 52)) + x1) ((eI h (fR h a0 47) (((ii 8) * (fI h a0 52)) + x1)) ||| (eI h (fR h a0 48) (((ii 8) * (fI h a0 52)) + x1)))) a0 52)) + x1)) ∧ Go d 228 2 [some (.ref a0), some (.int (x1 + ii 1))] [] (sI (sI h (fR h a0 47) (((ii 8) * (fI h a0 52)) + x1) ((eI h (fR h a0 47) (((ii 8) * (fI h a0 52)) + x1)) ||| (eI h (fR h a0 48) (((ii 8) * (fI h a0 52)) + x1)))) (fR (sI h (fR h a0 47) (((ii 8) * (fI h a0 52)) + x1) ((eI h (fR h a0 47) (((ii 8) * (fI h a0 52)) + x1)) ||| (eI h (fR h a0 48) (((ii 8) * (fI h a0 52)) + x1)))) a0 48) (((ii 8) * (fI (sI h (fR h a0 47) (((ii 8) * (fI h a0 52)) + x1) ((eI h (fR h a0 47) (((ii 8) * (fI h a0 52)) + x1)) ||| (eI h (fR h a0 48) (((ii 8) * (fI h a0 52)) + x1)))) a0 52)) + x1) (ii (-1))) Q)) := by
  refine (G_iload rfl (mF fc228 (by rfl))).trans ?_
  refine (G_iconst (mF fc228 (by rfl))).trans ?_
  refine (G_ige (mF fc228 (by rfl))).trans (gi ?_ ?_)
  ·
    exact G_return rfl (mF fc228 (by rfl))
  ·
    refine (G_aload rfl (mF fc228 (by rfl))).trans ?_
    refine (G_getR (c := 12) (k := 47) rfl rfl rfl (mF fc228 (by rfl))).trans (andR ?_)
    refine (G_iconst (mF fc228 (by rfl))).trans ?_
    refine (G_aload rfl (mF fc228 (by rfl))).trans ?_
    refine (G_getI (c := 12) (k := 52) rfl rfl rfl (mF fc228 (by rfl))).trans (andR ?_)
    refine (G_imul (mF fc228 (by rfl))).trans ?_
    refine (G_iload rfl (mF fc228 (by rfl))).trans ?_
    refine (G_iadd (mF fc228 (by rfl))).trans ?_
    refine (G_dup2r (mF fc228 (by rfl))).trans ?_
    refine (G_iaload (mF fc228 (by rfl))).trans (andR ?_)
    refine (G_aload rfl (mF fc228 (by rfl))).trans ?_
    refine (G_getR (c := 12) (k := 48) rfl rfl rfl (mF fc228 (by rfl))).trans (andR ?_)
    refine (G_iconst (mF fc228 (by rfl))).trans ?_
    refine (G_aload rfl (mF fc228 (by rfl))).trans ?_
    refine (G_getI (c := 12) (k := 52) rfl rfl rfl (mF fc228 (by rfl))).trans (andR ?_)
    refine (G_imul (mF fc228 (by rfl))).trans ?_
    refine (G_iload rfl (mF fc228 (by rfl))).trans ?_
    refine (G_iadd (mF fc228 (by rfl))).trans ?_
    refine (G_iaload (mF fc228 (by rfl))).trans (andR ?_)
    refine (G_ior (mF fc228 (by rfl))).trans ?_
    refine (G_iastore (mF fc228 (by rfl))).trans (andR ?_)
    refine (G_aload rfl (mF fc228 (by rfl))).trans ?_
    refine (G_getR (c := 12) (k := 48) rfl rfl rfl (mF fc228 (by rfl))).trans (andR ?_)
    refine (G_iconst (mF fc228 (by rfl))).trans ?_
    refine (G_aload rfl (mF fc228 (by rfl))).trans ?_
    refine (G_getI (c := 12) (k := 52) rfl rfl rfl (mF fc228 (by rfl))).trans (andR ?_)
    refine (G_imul (mF fc228 (by rfl))).trans ?_
    refine (G_iload rfl (mF fc228 (by rfl))).trans ?_
    refine (G_iadd (mF fc228 (by rfl))).trans ?_
    refine (G_iconst (mF fc228 (by rfl))).trans ?_
    refine (G_iastore (mF fc228 (by rfl))).trans (andR ?_)
    refine (G_iinc (k := 1) (L' := [some (.ref a0), some (.int (x1 + ii 1))]) rfl rfl rfl (mF fc228 (by rfl))).trans ?_
    refine (G_goto (mF fc228 (by rfl))).trans ?_
    exact Iff.rfl
theorem e228 {d : Nat} {h : mHeap} {K : mHeap → Prop} {a0 : Nat} : GoCv (d + 1) 228 [.ref a0] h K ↔ Go d 228 0 [some (.ref a0), none] [] h (rV K) := GoCv_entry rfl rfl
set_option maxRecDepth 20000 in
theorem fc229 : mCodes[229]? = some mc229 := rfl
theorem b229_0 {d : Nat} {h : mHeap} {Q : Option Value → mHeap → Prop} {a0 : Nat} : Go d 229 0 [some (.ref a0), none] [] h Q ↔ okF h a0 12 51 0 ∧ (if (fI h a0 51) ≤ ii 0 then (Go d 229 63 [some (.ref a0), none] [] h Q) else (okF h a0 12 50 2 ∧ okF h a0 12 51 0 ∧ okA h (fR h a0 50) .int ((fI h a0 51) - (ii 1)) ∧ (if ¬ (eI h (fR h a0 50) ((fI h a0 51) - (ii 1))) = (ii 1) then (Go d 229 63 [some (.ref a0), none] [] h Q) else (okF h a0 12 51 0 ∧ okP h a0 12 51 ∧ Go d 229 34 [some (.ref a0), some (.int (ii 0))] [] (sF h a0 51 (.int ((fI h a0 51) - (ii 1)))) Q)))) := by
  refine (G_aload rfl (mF fc229 (by rfl))).trans ?_
  refine (G_getI (c := 12) (k := 51) rfl rfl rfl (mF fc229 (by rfl))).trans (andR ?_)
  refine (G_le (mF fc229 (by rfl))).trans (gi ?_ ?_)
  ·
    exact Iff.rfl
  ·
    refine (G_aload rfl (mF fc229 (by rfl))).trans ?_
    refine (G_getR (c := 12) (k := 50) rfl rfl rfl (mF fc229 (by rfl))).trans (andR ?_)
    refine (G_aload rfl (mF fc229 (by rfl))).trans ?_
    refine (G_getI (c := 12) (k := 51) rfl rfl rfl (mF fc229 (by rfl))).trans (andR ?_)
    refine (G_iconst (mF fc229 (by rfl))).trans ?_
    refine (G_isub (mF fc229 (by rfl))).trans ?_
    refine (G_iaload (mF fc229 (by rfl))).trans (andR ?_)
    refine (G_iconst (mF fc229 (by rfl))).trans ?_
    refine (G_ine (mF fc229 (by rfl))).trans (gi ?_ ?_)
    ·
      exact Iff.rfl
    ·
      refine (G_aload rfl (mF fc229 (by rfl))).trans ?_
      refine (G_dupr (mF fc229 (by rfl))).trans ?_
      refine (G_getI (c := 12) (k := 51) rfl rfl rfl (mF fc229 (by rfl))).trans (andR ?_)
      refine (G_iconst (mF fc229 (by rfl))).trans ?_
      refine (G_isub (mF fc229 (by rfl))).trans ?_
      refine (G_putT (c := 12) (k := 51) rfl rfl rfl (mF fc229 (by rfl))).trans (andR ?_)
      refine (G_iconst (mF fc229 (by rfl))).trans ?_
      refine (G_istore (k := 1) (L' := [some (.ref a0), some (.int (ii 0))]) rfl (ltb rfl) rfl (mF fc229 (by rfl))).trans ?_
      exact Iff.rfl
theorem b229_34 {d : Nat} {h : mHeap} {Q : Option Value → mHeap → Prop} {a0 : Nat} {x1 : Int32} : Go d 229 34 [some (.ref a0), some (.int x1)] [] h Q ↔ (if (ii 8) ≤ x1 then (Go d 229 0 [some (.ref a0), some (.int x1)] [] h Q) else (okF h a0 12 49 2 ∧ okF h a0 12 49 2 ∧ okA h (fR h a0 49) .int x1 ∧ (64 ≤ (fR h a0 49) ∧ okA h (fR h a0 49) .int x1) ∧ Go d 229 34 [some (.ref a0), some (.int (x1 + ii 1))] [] (sI h (fR h a0 49) x1 ((eI h (fR h a0 49) x1) ^^^ (ii (-1)))) Q)) := by
  refine (G_iload rfl (mF fc229 (by rfl))).trans ?_
  refine (G_iconst (mF fc229 (by rfl))).trans ?_
  refine (G_ige (mF fc229 (by rfl))).trans (gi ?_ ?_)
  ·
    refine (G_goto (mF fc229 (by rfl))).trans ?_
    exact Iff.rfl
  ·
    refine (G_aload rfl (mF fc229 (by rfl))).trans ?_
    refine (G_getR (c := 12) (k := 49) rfl rfl rfl (mF fc229 (by rfl))).trans (andR ?_)
    refine (G_iload rfl (mF fc229 (by rfl))).trans ?_
    refine (G_aload rfl (mF fc229 (by rfl))).trans ?_
    refine (G_getR (c := 12) (k := 49) rfl rfl rfl (mF fc229 (by rfl))).trans (andR ?_)
    refine (G_iload rfl (mF fc229 (by rfl))).trans ?_
    refine (G_iaload (mF fc229 (by rfl))).trans (andR ?_)
    refine (G_iconst (mF fc229 (by rfl))).trans ?_
    refine (G_ixor (mF fc229 (by rfl))).trans ?_
    refine (G_iastore (mF fc229 (by rfl))).trans (andR ?_)
    refine (G_iinc (k := 1) (L' := [some (.ref a0), some (.int (x1 + ii 1))]) rfl rfl rfl (mF fc229 (by rfl))).trans ?_
    refine (G_goto (mF fc229 (by rfl))).trans ?_
    exact Iff.rfl
theorem b229_63 {d : Nat} {h : mHeap} {Q : Option Value → mHeap → Prop} {a0 : Nat} {l1 : Option Value} : Go d 229 63 [some (.ref a0), l1] [] h Q ↔ Go d 229 65 [some (.ref a0), some (.int (ii 0))] [] h Q := by
  refine (G_iconst (mF fc229 (by rfl))).trans ?_
  refine (G_istore (k := 1) (L' := [some (.ref a0), some (.int (ii 0))]) rfl (ltb rfl) rfl (mF fc229 (by rfl))).trans ?_
  exact Iff.rfl
theorem b229_65 {d : Nat} {h : mHeap} {Q : Option Value → mHeap → Prop} {a0 : Nat} {x1 : Int32} : Go d 229 65 [some (.ref a0), some (.int x1)] [] h Q ↔ (if (ii 8) ≤ x1 then (Q none h) else (okF h a0 12 48 2 ∧ okF h a0 12 52 0 ∧ okA h (fR h a0 48) .int (((ii 8) * (fI h a0 52)) + x1) ∧ okF h a0 12 49 2 ∧ okA h (fR h a0 49) .int x1 ∧ (64 ≤ (fR h a0 48) ∧ okA h (fR h a0 48) .int (((ii 8) * (fI h a0 52)) + x1)) ∧ Go d 229 65 [some (.ref a0), some (.int (x1 + ii 1))] [] (sI h (fR h a0 48) (((ii 8) * (fI h a0 52)) + x1) ((eI h (fR h a0 48) (((ii 8) * (fI h a0 52)) + x1)) &&& (eI h (fR h a0 49) x1))) Q)) := by
  refine (G_iload rfl (mF fc229 (by rfl))).trans ?_
  refine (G_iconst (mF fc229 (by rfl))).trans ?_
  refine (G_ige (mF fc229 (by rfl))).trans (gi ?_ ?_)
  ·
    exact G_return rfl (mF fc229 (by rfl))
  ·
    refine (G_aload rfl (mF fc229 (by rfl))).trans ?_
    refine (G_getR (c := 12) (k := 48) rfl rfl rfl (mF fc229 (by rfl))).trans (andR ?_)
    refine (G_iconst (mF fc229 (by rfl))).trans ?_
    refine (G_aload rfl (mF fc229 (by rfl))).trans ?_
    refine (G_getI (c := 12) (k := 52) rfl rfl rfl (mF fc229 (by rfl))).trans (andR ?_)
    refine (G_imul (mF fc229 (by rfl))).trans ?_
    refine (G_iload rfl (mF fc229 (by rfl))).trans ?_
    refine (G_iadd (mF fc229 (by rfl))).trans ?_
    refine (G_dup2r (mF fc229 (by rfl))).trans ?_
    refine (G_iaload (mF fc229 (by rfl))).trans (andR ?_)
    refine (G_aload rfl (mF fc229 (by rfl))).trans ?_
    refine (G_getR (c := 12) (k := 49) rfl rfl rfl (mF fc229 (by rfl))).trans (andR ?_)
    refine (G_iload rfl (mF fc229 (by rfl))).trans ?_
    refine (G_iaload (mF fc229 (by rfl))).trans (andR ?_)
    refine (G_iand (mF fc229 (by rfl))).trans ?_
    refine (G_iastore (mF fc229 (by rfl))).trans (andR ?_)
    refine (G_iinc (k := 1) (L' := [some (.ref a0), some (.int (x1 + ii 1))]) rfl rfl rfl (mF fc229 (by rfl))).trans ?_
    refine (G_goto (mF fc229 (by rfl))).trans ?_
    exact Iff.rfl
theorem e229 {d : Nat} {h : mHeap} {K : mHeap → Prop} {a0 : Nat} : GoCv (d + 1) 229 [.ref a0] h K ↔ Go d 229 0 [some (.ref a0), none] [] h (rV K) := GoCv_entry rfl rfl
set_option maxRecDepth 20000 in
theorem fc230 : mCodes[230]? = some mc230 := rfl
theorem b230_0 {d : Nat} {h : mHeap} {Q : Option Value → mHeap → Prop} {a0 : Nat} {x1 : Int32} {x2 : Int32} : Go d 230 0 [some (.ref a0), some (.int x1), some (.int x2)] [] h Q ↔ okF h a0 12 51 0 ∧ (if ¬ (fI h a0 51) = (ii 10) then (okF h a0 12 50 2 ∧ okF h a0 12 51 0 ∧ (64 ≤ (fR h a0 50) ∧ okA h (fR h a0 50) .int (fI h a0 51)) ∧ okF (sI h (fR h a0 50) (fI h a0 51) x1) a0 12 51 0 ∧ okP (sI h (fR h a0 50) (fI h a0 51) x1) a0 12 51 ∧ okF (sF (sI h (fR h a0 50) (fI h a0 51) x1) a0 51 (.int ((fI (sI h (fR h a0 50) (fI h a0 51) x1) a0 51) + (ii 1)))) a0 12 28 0 ∧ okP (sF (sI h (fR h a0 50) (fI h a0 51) x1) a0 51 (.int ((fI (sI h (fR h a0 50) (fI h a0 51) x1) a0 51) + (ii 1)))) a0 12 28 ∧ (if ¬ x1 = ii 0 then (Q none (sF (sF (sI h (fR h a0 50) (fI h a0 51) x1) a0 51 (.int ((fI (sI h (fR h a0 50) (fI h a0 51) x1) a0 51) + (ii 1)))) a0 28 (.int ((fI (sF (sI h (fR h a0 50) (fI h a0 51) x1) a0 51 (.int ((fI (sI h (fR h a0 50) (fI h a0 51) x1) a0 51) + (ii 1)))) a0 28) + x2)))) else (okF (sF (sF (sI h (fR h a0 50) (fI h a0 51) x1) a0 51 (.int ((fI (sI h (fR h a0 50) (fI h a0 51) x1) a0 51) + (ii 1)))) a0 28 (.int ((fI (sF (sI h (fR h a0 50) (fI h a0 51) x1) a0 51 (.int ((fI (sI h (fR h a0 50) (fI h a0 51) x1) a0 51) + (ii 1)))) a0 28) + x2))) a0 12 52 0 ∧ okP (sF (sF (sI h (fR h a0 50) (fI h a0 51) x1) a0 51 (.int ((fI (sI h (fR h a0 50) (fI h a0 51) x1) a0 51) + (ii 1)))) a0 28 (.int ((fI (sF (sI h (fR h a0 50) (fI h a0 51) x1) a0 51 (.int ((fI (sI h (fR h a0 50) (fI h a0 51) x1) a0 51) + (ii 1)))) a0 28) + x2))) a0 12 52 ∧ oC (sF (sF (sF (sI h (fR h a0 50) (fI h a0 51) x1) a0 51 (.int ((fI (sI h (fR h a0 50) (fI h a0 51) x1) a0 51) + (ii 1)))) a0 28 (.int ((fI (sF (sI h (fR h a0 50) (fI h a0 51) x1) a0 51 (.int ((fI (sI h (fR h a0 50) (fI h a0 51) x1) a0 51) + (ii 1)))) a0 28) + x2))) a0 52 (.int ((fI (sF (sF (sI h (fR h a0 50) (fI h a0 51) x1) a0 51 (.int ((fI (sI h (fR h a0 50) (fI h a0 51) x1) a0 51) + (ii 1)))) a0 28 (.int ((fI (sF (sI h (fR h a0 50) (fI h a0 51) x1) a0 51 (.int ((fI (sI h (fR h a0 50) (fI h a0 51) x1) a0 51) + (ii 1)))) a0 28) + x2))) a0 52) + (ii 1)))) a0 = 12 ∧ GoCv d 227 [.ref a0] (sF (sF (sF (sI h (fR h a0 50) (fI h a0 51) x1) a0 51 (.int ((fI (sI h (fR h a0 50) (fI h a0 51) x1) a0 51) + (ii 1)))) a0 28 (.int ((fI (sF (sI h (fR h a0 50) (fI h a0 51) x1) a0 51 (.int ((fI (sI h (fR h a0 50) (fI h a0 51) x1) a0 51) + (ii 1)))) a0 28) + x2))) a0 52 (.int ((fI (sF (sF (sI h (fR h a0 50) (fI h a0 51) x1) a0 51 (.int ((fI (sI h (fR h a0 50) (fI h a0 51) x1) a0 51) + (ii 1)))) a0 28 (.int ((fI (sF (sI h (fR h a0 50) (fI h a0 51) x1) a0 51 (.int ((fI (sI h (fR h a0 50) (fI h a0 51) x1) a0 51) + (ii 1)))) a0 28) + x2))) a0 52) + (ii 1)))) (fun h1 => Q none h1)))) else (okF h a0 12 28 0 ∧ oC h a0 = 12 ∧ GoCv d 197 [.ref a0, .int (ii 2), .int (fI h a0 28)] h (fun h2 => Q none h2))) := by
  refine (G_aload rfl (mF fc230 (by rfl))).trans ?_
  refine (G_getI (c := 12) (k := 51) rfl rfl rfl (mF fc230 (by rfl))).trans (andR ?_)
  refine (G_iconst (mF fc230 (by rfl))).trans ?_
  refine (G_ine (mF fc230 (by rfl))).trans (gi ?_ ?_)
  ·
    refine (G_aload rfl (mF fc230 (by rfl))).trans ?_
    refine (G_getR (c := 12) (k := 50) rfl rfl rfl (mF fc230 (by rfl))).trans (andR ?_)
    refine (G_aload rfl (mF fc230 (by rfl))).trans ?_
    refine (G_getI (c := 12) (k := 51) rfl rfl rfl (mF fc230 (by rfl))).trans (andR ?_)
    refine (G_iload rfl (mF fc230 (by rfl))).trans ?_
    refine (G_iastore (mF fc230 (by rfl))).trans (andR ?_)
    refine (G_aload rfl (mF fc230 (by rfl))).trans ?_
    refine (G_dupr (mF fc230 (by rfl))).trans ?_
    refine (G_getI (c := 12) (k := 51) rfl rfl rfl (mF fc230 (by rfl))).trans (andR ?_)
    refine (G_iconst (mF fc230 (by rfl))).trans ?_
    refine (G_iadd (mF fc230 (by rfl))).trans ?_
    refine (G_putT (c := 12) (k := 51) rfl rfl rfl (mF fc230 (by rfl))).trans (andR ?_)
    refine (G_aload rfl (mF fc230 (by rfl))).trans ?_
    refine (G_dupr (mF fc230 (by rfl))).trans ?_
    refine (G_getI (c := 12) (k := 28) rfl rfl rfl (mF fc230 (by rfl))).trans (andR ?_)
    refine (G_iload rfl (mF fc230 (by rfl))).trans ?_
    refine (G_iadd (mF fc230 (by rfl))).trans ?_
    refine (G_putT (c := 12) (k := 28) rfl rfl rfl (mF fc230 (by rfl))).trans (andR ?_)
    refine (G_iload rfl (mF fc230 (by rfl))).trans ?_
    refine (G_ne (mF fc230 (by rfl))).trans (gi ?_ ?_)
    ·
      exact G_return rfl (mF fc230 (by rfl))
    ·
      refine (G_aload rfl (mF fc230 (by rfl))).trans ?_
      refine (G_dupr (mF fc230 (by rfl))).trans ?_
      refine (G_getI (c := 12) (k := 52) rfl rfl rfl (mF fc230 (by rfl))).trans (andR ?_)
      refine (G_iconst (mF fc230 (by rfl))).trans ?_
      refine (G_iadd (mF fc230 (by rfl))).trans ?_
      refine (G_putT (c := 12) (k := 52) rfl rfl rfl (mF fc230 (by rfl))).trans (andR ?_)
      refine (G_aload rfl (mF fc230 (by rfl))).trans ?_
      refine (G_Vv (q := 116417) (y := 227) (a := a0) (c := 12) rfl rfl rfl rfl (by decide) rfl (as := [.ref a0]) (rest := []) rfl rfl (mF fc230 (by rfl))).trans (andR (GoCv_congr fun h1 => ?_))
      exact G_return rfl (mF fc230 (by rfl))
  ·
    refine (G_aload rfl (mF fc230 (by rfl))).trans ?_
    refine (G_iconst (mF fc230 (by rfl))).trans ?_
    refine (G_aload rfl (mF fc230 (by rfl))).trans ?_
    refine (G_getI (c := 12) (k := 28) rfl rfl rfl (mF fc230 (by rfl))).trans (andR ?_)
    refine (G_Vv (q := 101059) (y := 197) (a := a0) (c := 12) rfl rfl rfl rfl (by decide) rfl (as := [.ref a0, .int (ii 2), .int (fI h a0 28)]) (rest := []) rfl rfl (mF fc230 (by rfl))).trans (andR (GoCv_congr fun h2 => ?_))
    exact G_return rfl (mF fc230 (by rfl))
theorem e230 {d : Nat} {h : mHeap} {K : mHeap → Prop} {a0 : Nat} {x1 : Int32} {x2 : Int32} : GoCv (d + 1) 230 [.ref a0, .int x1, .int x2] h K ↔ Go d 230 0 [some (.ref a0), some (.int x1), some (.int x2)] [] h (rV K) := GoCv_entry rfl rfl
set_option maxRecDepth 20000 in
theorem fc231 : mCodes[231]? = some mc231 := rfl
theorem b231_0 {d : Nat} {h : mHeap} {Q : Option Value → mHeap → Prop} {a0 : Nat} {x1 : Int32} : Go d 231 0 [some (.ref a0), some (.int x1), none, none] [] h Q ↔ Go d 231 2 [some (.ref a0), some (.int x1), some (.int (ii 0)), none] [] h Q := by
  refine (G_iconst (mF fc231 (by rfl))).trans ?_
  refine (G_istore (k := 2) (L' := [some (.ref a0), some (.int x1), some (.int (ii 0)), none]) rfl (ltb rfl) rfl (mF fc231 (by rfl))).trans ?_
  exact Iff.rfl
theorem b231_2 {d : Nat} {h : mHeap} {Q : Option Value → mHeap → Prop} {a0 : Nat} {x1 : Int32} {x2 : Int32} {l3 : Option Value} : Go d 231 2 [some (.ref a0), some (.int x1), some (.int x2), l3] [] h Q ↔ (if (ii 8) ≤ x2 then (Q none h) else (okF h a0 12 49 2 ∧ (64 ≤ (fR h a0 49) ∧ okA h (fR h a0 49) .int x2) ∧ Go d 231 17 [some (.ref a0), some (.int x1), some (.int x2), some (.int (ii 0))] [] (sI h (fR h a0 49) x2 (ii 0)) Q)) := by
  refine (G_iload rfl (mF fc231 (by rfl))).trans ?_
  refine (G_iconst (mF fc231 (by rfl))).trans ?_
  refine (G_ige (mF fc231 (by rfl))).trans (gi ?_ ?_)
  ·
    exact G_return rfl (mF fc231 (by rfl))
  ·
    refine (G_aload rfl (mF fc231 (by rfl))).trans ?_
    refine (G_getR (c := 12) (k := 49) rfl rfl rfl (mF fc231 (by rfl))).trans (andR ?_)
    refine (G_iload rfl (mF fc231 (by rfl))).trans ?_
    refine (G_iconst (mF fc231 (by rfl))).trans ?_
    refine (G_iastore (mF fc231 (by rfl))).trans (andR ?_)
    refine (G_iconst (mF fc231 (by rfl))).trans ?_
    refine (G_istore (k := 3) (L' := [some (.ref a0), some (.int x1), some (.int x2), some (.int (ii 0))]) rfl (ltb rfl) rfl (mF fc231 (by rfl))).trans ?_
    exact Iff.rfl
theorem b231_17 {d : Nat} {h : mHeap} {Q : Option Value → mHeap → Prop} {a0 : Nat} {x1 : Int32} {x2 : Int32} {x3 : Int32} : Go d 231 17 [some (.ref a0), some (.int x1), some (.int x2), some (.int x3)] [] h Q ↔ (if (ii 32) ≤ x3 then (Go d 231 2 [some (.ref a0), some (.int x1), some (.int (x2 + ii 1)), some (.int x3)] [] h Q) else (okF h a0 12 49 2 ∧ okA h (fR h a0 49) .int x2 ∧ GoCi d 185 [.int (((ii 32) * x2) + x3), .int x1] h (fun v1 h1 => (if v1 = ii 0 then (Go d 231 50 [some (.ref a0), some (.int x1), some (.int x2), some (.int x3)] [.int (ii 0), .int (eI h (fR h a0 49) x2), .int x2, .ref (fR h a0 49)] h1 Q) else (Go d 231 50 [some (.ref a0), some (.int x1), some (.int x2), some (.int x3)] [.int (shl (ii 1) x3), .int (eI h (fR h a0 49) x2), .int x2, .ref (fR h a0 49)] h1 Q))))) := by
  refine (G_iload rfl (mF fc231 (by rfl))).trans ?_
  refine (G_iconst (mF fc231 (by rfl))).trans ?_
  refine (G_ige (mF fc231 (by rfl))).trans (gi ?_ ?_)
  ·
    refine (G_iinc (k := 2) (L' := [some (.ref a0), some (.int x1), some (.int (x2 + ii 1)), some (.int x3)]) rfl rfl rfl (mF fc231 (by rfl))).trans ?_
    refine (G_goto (mF fc231 (by rfl))).trans ?_
    exact Iff.rfl
  ·
    refine (G_aload rfl (mF fc231 (by rfl))).trans ?_
    refine (G_getR (c := 12) (k := 49) rfl rfl rfl (mF fc231 (by rfl))).trans (andR ?_)
    refine (G_iload rfl (mF fc231 (by rfl))).trans ?_
    refine (G_dup2r (mF fc231 (by rfl))).trans ?_
    refine (G_iaload (mF fc231 (by rfl))).trans (andR ?_)
    refine (G_iconst (mF fc231 (by rfl))).trans ?_
    refine (G_iload rfl (mF fc231 (by rfl))).trans ?_
    refine (G_imul (mF fc231 (by rfl))).trans ?_
    refine (G_iload rfl (mF fc231 (by rfl))).trans ?_
    refine (G_iadd (mF fc231 (by rfl))).trans ?_
    refine (G_iload rfl (mF fc231 (by rfl))).trans ?_
    refine (G_Ti (q := 94914) (y := 185) rfl rfl rfl (as := [.int (((ii 32) * x2) + x3), .int x1]) (rest := [.int (eI h (fR h a0 49) x2), .int x2, .ref (fR h a0 49)]) rfl rfl (mF fc231 (by rfl))).trans (GoCi_congr fun v1 h1 => ?_)
    refine (G_eq (mF fc231 (by rfl))).trans (gi ?_ ?_)
    ·
      refine (G_iconst (mF fc231 (by rfl))).trans ?_
      exact Iff.rfl
    ·
      refine (G_iconst (mF fc231 (by rfl))).trans ?_
      refine (G_iload rfl (mF fc231 (by rfl))).trans ?_
      refine (G_ishl (mF fc231 (by rfl))).trans ?_
      refine (G_goto (mF fc231 (by rfl))).trans ?_
      exact Iff.rfl
theorem b231_50 {d : Nat} {h : mHeap} {Q : Option Value → mHeap → Prop} {a0 : Nat} {x1 : Int32} {x2 : Int32} {x3 : Int32} {r0 : Nat} {s1 : Int32} {s2 : Int32} {s3 : Int32} : Go d 231 50 [some (.ref a0), some (.int x1), some (.int x2), some (.int x3)] [.int s3, .int s2, .int s1, .ref r0] h Q ↔ (64 ≤ r0 ∧ okA h r0 .int s1) ∧ Go d 231 17 [some (.ref a0), some (.int x1), some (.int x2), some (.int (x3 + ii 1))] [] (sI h r0 s1 (s2 ||| s3)) Q := by
  refine (G_ior (mF fc231 (by rfl))).trans ?_
  refine (G_iastore (mF fc231 (by rfl))).trans (andR ?_)
  refine (G_iinc (k := 3) (L' := [some (.ref a0), some (.int x1), some (.int x2), some (.int (x3 + ii 1))]) rfl rfl rfl (mF fc231 (by rfl))).trans ?_
  refine (G_goto (mF fc231 (by rfl))).trans ?_
  exact Iff.rfl
theorem e231 {d : Nat} {h : mHeap} {K : mHeap → Prop} {a0 : Nat} {x1 : Int32} : GoCv (d + 1) 231 [.ref a0, .int x1] h K ↔ Go d 231 0 [some (.ref a0), some (.int x1), none, none] [] h (rV K) := GoCv_entry rfl rfl
set_option maxRecDepth 20000 in
theorem fc232 : mCodes[232]? = some mc232 := rfl
theorem b232_0 {d : Nat} {h : mHeap} {Q : Option Value → mHeap → Prop} {a0 : Nat} : Go d 232 0 [some (.ref a0), none] [] h Q ↔ Go d 232 2 [some (.ref a0), some (.int (ii 0))] [] h Q := by
  refine (G_iconst (mF fc232 (by rfl))).trans ?_
  refine (G_istore (k := 1) (L' := [some (.ref a0), some (.int (ii 0))]) rfl (ltb rfl) rfl (mF fc232 (by rfl))).trans ?_
  exact Iff.rfl
theorem b232_2 {d : Nat} {h : mHeap} {Q : Option Value → mHeap → Prop} {a0 : Nat} {x1 : Int32} : Go d 232 2 [some (.ref a0), some (.int x1)] [] h Q ↔ (if (ii 8) ≤ x1 then (Q (some (.int (ii (-1)))) h) else (GoCr d 233 [.int x1] h (fun v1 h1 => oC h1 a0 = 12 ∧ GoCi d 201 [.ref a0, .ref v1] h1 (fun v2 h2 => (if v2 = ii 0 then (Go d 232 2 [some (.ref a0), some (.int (x1 + ii 1))] [] h2 Q) else (Q (some (.int x1)) h2)))))) := by
  refine (G_iload rfl (mF fc232 (by rfl))).trans ?_
  refine (G_iconst (mF fc232 (by rfl))).trans ?_
  refine (G_ige (mF fc232 (by rfl))).trans (gi ?_ ?_)
  ·
    refine (G_iconst (mF fc232 (by rfl))).trans ?_
    exact G_ireturnI rfl (mF fc232 (by rfl))
  ·
    refine (G_aload rfl (mF fc232 (by rfl))).trans ?_
    refine (G_iload rfl (mF fc232 (by rfl))).trans ?_
    refine (G_Tr (q := 119489) (y := 233) rfl rfl rfl (as := [.int x1]) (rest := [.ref a0]) rfl rfl (mF fc232 (by rfl))).trans (GoCr_congr fun v1 h1 => ?_)
    refine (G_Vi (q := 103106) (y := 201) (a := a0) (c := 12) rfl rfl rfl rfl (by decide) rfl (as := [.ref a0, .ref v1]) (rest := []) rfl rfl (mF fc232 (by rfl))).trans (andR (GoCi_congr fun v2 h2 => ?_))
    refine (G_eq (mF fc232 (by rfl))).trans (gi ?_ ?_)
    ·
      refine (G_iinc (k := 1) (L' := [some (.ref a0), some (.int (x1 + ii 1))]) rfl rfl rfl (mF fc232 (by rfl))).trans ?_
      refine (G_goto (mF fc232 (by rfl))).trans ?_
      exact Iff.rfl
    ·
      refine (G_iload rfl (mF fc232 (by rfl))).trans ?_
      exact G_ireturnI rfl (mF fc232 (by rfl))
theorem e232 {d : Nat} {h : mHeap} {K : Int32 → mHeap → Prop} {a0 : Nat} : GoCi (d + 1) 232 [.ref a0] h K ↔ Go d 232 0 [some (.ref a0), none] [] h (rI K) := GoCi_entry rfl rfl
set_option maxRecDepth 20000 in
theorem fc233 : mCodes[233]? = some mc233 := rfl
theorem b233_0 {d : Nat} {h : mHeap} {Q : Option Value → mHeap → Prop} {x0 : Int32} : Go d 233 0 [some (.int x0)] [] h Q ↔ (if x0 = ii 0 then (Q (some (.ref 9)) h) else (if x0 = ii 1 then (Q (some (.ref 10)) h) else (if x0 = ii 2 then (Q (some (.ref 11)) h) else (if x0 = ii 3 then (Q (some (.ref 12)) h) else (if x0 = ii 4 then (Q (some (.ref 13)) h) else (if x0 = ii 5 then (Q (some (.ref 14)) h) else (if x0 = ii 6 then (Q (some (.ref 15)) h) else (Q (some (.ref 16)) h)))))))) := by
  refine (G_iload rfl (mF fc233 (by rfl))).trans ?_
  refine (G_tableswitch (lo := 0) (hi := 6) [44, 48, 52, 56, 60, 64, 68] rfl (by decide) (by decide) (by decide) (mF fc233 (by rfl))).trans ?_
  refine gi ?_ ?_
  ·
    refine (G_jsr (mF fc233 (by rfl))).trans ?_
    exact G_areturn rfl (mF fc233 (by rfl))
  ·
    refine gi ?_ ?_
    ·
      refine (G_jsr (mF fc233 (by rfl))).trans ?_
      exact G_areturn rfl (mF fc233 (by rfl))
    ·
      refine gi ?_ ?_
      ·
        refine (G_jsr (mF fc233 (by rfl))).trans ?_
        exact G_areturn rfl (mF fc233 (by rfl))
      ·
        refine gi ?_ ?_
        ·
          refine (G_jsr (mF fc233 (by rfl))).trans ?_
          exact G_areturn rfl (mF fc233 (by rfl))
        ·
          refine gi ?_ ?_
          ·
            refine (G_jsr (mF fc233 (by rfl))).trans ?_
            exact G_areturn rfl (mF fc233 (by rfl))
          ·
            refine gi ?_ ?_
            ·
              refine (G_jsr (mF fc233 (by rfl))).trans ?_
              exact G_areturn rfl (mF fc233 (by rfl))
            ·
              refine gi ?_ ?_
              ·
                refine (G_jsr (mF fc233 (by rfl))).trans ?_
                exact G_areturn rfl (mF fc233 (by rfl))
              ·
                refine (G_jsr (mF fc233 (by rfl))).trans ?_
                exact G_areturn rfl (mF fc233 (by rfl))
theorem e233 {d : Nat} {h : mHeap} {K : Nat → mHeap → Prop} {x0 : Int32} : GoCr (d + 1) 233 [.int x0] h K ↔ Go d 233 0 [some (.int x0)] [] h (rR K) := GoCr_entry rfl rfl
set_option maxRecDepth 20000 in
theorem fc234 : mCodes[234]? = some mc234 := rfl
theorem b234_0 {d : Nat} {h : mHeap} {Q : Option Value → mHeap → Prop} {a0 : Nat} : Go d 234 0 [some (.ref a0), none] [] h Q ↔ okF h a0 12 28 0 ∧ okF h a0 12 27 0 ∧ (if (fI h a0 27) ≤ (fI h a0 28) then (Go d 234 28 [some (.ref a0), none] [] h Q) else (oC h a0 = 12 ∧ GoCi d 198 [.ref a0] h (fun v1 h1 => (if ¬ v1 = (ii 91) then (Go d 234 28 [some (.ref a0), none] [] h1 Q) else (oC h1 a0 = 12 ∧ GoCv d 230 [.ref a0, .int (ii 0), .int (ii 1)] h1 (fun h2 => ((ii 0) = ii 0 ∨ (ii 0) = ii 1) ∧ Q (some (.int (ii 0))) h2)))))) := by
  refine (G_aload rfl (mF fc234 (by rfl))).trans ?_
  refine (G_getI (c := 12) (k := 28) rfl rfl rfl (mF fc234 (by rfl))).trans (andR ?_)
  refine (G_aload rfl (mF fc234 (by rfl))).trans ?_
  refine (G_getI (c := 12) (k := 27) rfl rfl rfl (mF fc234 (by rfl))).trans (andR ?_)
  refine (G_ige (mF fc234 (by rfl))).trans (gi ?_ ?_)
  ·
    exact Iff.rfl
  ·
    refine (G_aload rfl (mF fc234 (by rfl))).trans ?_
    refine (G_Vi (q := 101569) (y := 198) (a := a0) (c := 12) rfl rfl rfl rfl (by decide) rfl (as := [.ref a0]) (rest := []) rfl rfl (mF fc234 (by rfl))).trans (andR (GoCi_congr fun v1 h1 => ?_))
    refine (G_iconst (mF fc234 (by rfl))).trans ?_
    refine (G_ine (mF fc234 (by rfl))).trans (gi ?_ ?_)
    ·
      exact Iff.rfl
    ·
      refine (G_aload rfl (mF fc234 (by rfl))).trans ?_
      refine (G_iconst (mF fc234 (by rfl))).trans ?_
      refine (G_iconst (mF fc234 (by rfl))).trans ?_
      refine (G_Vv (q := 117955) (y := 230) (a := a0) (c := 12) rfl rfl rfl rfl (by decide) rfl (as := [.ref a0, .int (ii 0), .int (ii 1)]) (rest := []) rfl rfl (mF fc234 (by rfl))).trans (andR (GoCv_congr fun h2 => ?_))
      refine (G_iconst (mF fc234 (by rfl))).trans ?_
      exact G_ireturnZ rfl (mF fc234 (by rfl))
theorem b234_28 {d : Nat} {h : mHeap} {Q : Option Value → mHeap → Prop} {a0 : Nat} {l1 : Option Value} : Go d 234 28 [some (.ref a0), l1] [] h Q ↔ oC h a0 = 12 ∧ GoCi d 201 [.ref a0, .ref 8] h (fun v1 h1 => (if v1 = ii 0 then (oC h1 a0 = 12 ∧ GoCi d 232 [.ref a0] h1 (fun v2 h2 => (if v2 = (ii (-1)) then (Go d 234 65 [some (.ref a0), some (.int v2)] [] h2 Q) else (okF h2 a0 12 53 0 ∧ (if ¬ (fI h2 a0 53) = (ii 24) then (okF h2 a0 12 53 0 ∧ okP h2 a0 12 53 ∧ okF (sF h2 a0 53 (.int ((fI h2 a0 53) + (ii 1)))) a0 12 28 0 ∧ okP (sF h2 a0 53 (.int ((fI h2 a0 53) + (ii 1)))) a0 12 28 ∧ oC (sF (sF h2 a0 53 (.int ((fI h2 a0 53) + (ii 1)))) a0 28 (.int ((fI (sF h2 a0 53 (.int ((fI h2 a0 53) + (ii 1)))) a0 28) + (ii 1)))) a0 = 12 ∧ GoCv d 231 [.ref a0, .int v2] (sF (sF h2 a0 53 (.int ((fI h2 a0 53) + (ii 1)))) a0 28 (.int ((fI (sF h2 a0 53 (.int ((fI h2 a0 53) + (ii 1)))) a0 28) + (ii 1)))) (fun h3 => oC h3 a0 = 12 ∧ GoCv d 229 [.ref a0] h3 (fun h4 => ((ii 1) = ii 0 ∨ (ii 1) = ii 1) ∧ Q (some (.int (ii 1))) h4))) else (Go d 234 65 [some (.ref a0), some (.int v2)] [] h2 Q)))))) else (oC h1 a0 = 12 ∧ GoCv d 230 [.ref a0, .int (ii 1), .int (ii 3)] h1 (fun h5 => ((ii 0) = ii 0 ∨ (ii 0) = ii 1) ∧ Q (some (.int (ii 0))) h5)))) := by
  refine (G_aload rfl (mF fc234 (by rfl))).trans ?_
  refine (G_jsr (mF fc234 (by rfl))).trans ?_
  refine (G_Vi (q := 103106) (y := 201) (a := a0) (c := 12) rfl rfl rfl rfl (by decide) rfl (as := [.ref a0, .ref 8]) (rest := []) rfl rfl (mF fc234 (by rfl))).trans (andR (GoCi_congr fun v1 h1 => ?_))
  refine (G_eq (mF fc234 (by rfl))).trans (gi ?_ ?_)
  ·
    refine (G_aload rfl (mF fc234 (by rfl))).trans ?_
    refine (G_Vi (q := 118977) (y := 232) (a := a0) (c := 12) rfl rfl rfl rfl (by decide) rfl (as := [.ref a0]) (rest := []) rfl rfl (mF fc234 (by rfl))).trans (andR (GoCi_congr fun v2 h2 => ?_))
    refine (G_istore (k := 1) (L' := [some (.ref a0), some (.int v2)]) rfl (ltb rfl) rfl (mF fc234 (by rfl))).trans ?_
    refine (G_iload rfl (mF fc234 (by rfl))).trans ?_
    refine (G_iconst (mF fc234 (by rfl))).trans ?_
    refine (G_ieq (mF fc234 (by rfl))).trans (gi ?_ ?_)
    ·
      exact Iff.rfl
    ·
      refine (G_aload rfl (mF fc234 (by rfl))).trans ?_
      refine (G_getI (c := 12) (k := 53) rfl rfl rfl (mF fc234 (by rfl))).trans (andR ?_)
      refine (G_iconst (mF fc234 (by rfl))).trans ?_
      refine (G_ine (mF fc234 (by rfl))).trans (gi ?_ ?_)
      ·
        refine (G_aload rfl (mF fc234 (by rfl))).trans ?_
        refine (G_dupr (mF fc234 (by rfl))).trans ?_
        refine (G_getI (c := 12) (k := 53) rfl rfl rfl (mF fc234 (by rfl))).trans (andR ?_)
        refine (G_iconst (mF fc234 (by rfl))).trans ?_
        refine (G_iadd (mF fc234 (by rfl))).trans ?_
        refine (G_putT (c := 12) (k := 53) rfl rfl rfl (mF fc234 (by rfl))).trans (andR ?_)
        refine (G_aload rfl (mF fc234 (by rfl))).trans ?_
        refine (G_dupr (mF fc234 (by rfl))).trans ?_
        refine (G_getI (c := 12) (k := 28) rfl rfl rfl (mF fc234 (by rfl))).trans (andR ?_)
        refine (G_iconst (mF fc234 (by rfl))).trans ?_
        refine (G_iadd (mF fc234 (by rfl))).trans ?_
        refine (G_putT (c := 12) (k := 28) rfl rfl rfl (mF fc234 (by rfl))).trans (andR ?_)
        refine (G_aload rfl (mF fc234 (by rfl))).trans ?_
        refine (G_iload rfl (mF fc234 (by rfl))).trans ?_
        refine (G_Vv (q := 118466) (y := 231) (a := a0) (c := 12) rfl rfl rfl rfl (by decide) rfl (as := [.ref a0, .int v2]) (rest := []) rfl rfl (mF fc234 (by rfl))).trans (andR (GoCv_congr fun h3 => ?_))
        refine (G_aload rfl (mF fc234 (by rfl))).trans ?_
        refine (G_Vv (q := 117441) (y := 229) (a := a0) (c := 12) rfl rfl rfl rfl (by decide) rfl (as := [.ref a0]) (rest := []) rfl rfl (mF fc234 (by rfl))).trans (andR (GoCv_congr fun h4 => ?_))
        refine (G_iconst (mF fc234 (by rfl))).trans ?_
        exact G_ireturnZ rfl (mF fc234 (by rfl))
      ·
        exact Iff.rfl
  ·
    refine (G_aload rfl (mF fc234 (by rfl))).trans ?_
    refine (G_iconst (mF fc234 (by rfl))).trans ?_
    refine (G_iconst (mF fc234 (by rfl))).trans ?_
    refine (G_Vv (q := 117955) (y := 230) (a := a0) (c := 12) rfl rfl rfl rfl (by decide) rfl (as := [.ref a0, .int (ii 1), .int (ii 3)]) (rest := []) rfl rfl (mF fc234 (by rfl))).trans (andR (GoCv_congr fun h5 => ?_))
    refine (G_iconst (mF fc234 (by rfl))).trans ?_
    exact G_ireturnZ rfl (mF fc234 (by rfl))
theorem b234_65 {d : Nat} {h : mHeap} {Q : Option Value → mHeap → Prop} {a0 : Nat} {x1 : Int32} : Go d 234 65 [some (.ref a0), some (.int x1)] [] h Q ↔ (if ¬ x1 = (ii (-1)) then (Go d 234 76 [some (.ref a0), some (.int x1)] [.int (ii 3), .ref a0] h Q) else (Go d 234 76 [some (.ref a0), some (.int x1)] [.int (ii 0), .ref a0] h Q)) := by
  refine (G_aload rfl (mF fc234 (by rfl))).trans ?_
  refine (G_iload rfl (mF fc234 (by rfl))).trans ?_
  refine (G_iconst (mF fc234 (by rfl))).trans ?_
  refine (G_ine (mF fc234 (by rfl))).trans (gi ?_ ?_)
  ·
    refine (G_iconst (mF fc234 (by rfl))).trans ?_
    exact Iff.rfl
  ·
    refine (G_iconst (mF fc234 (by rfl))).trans ?_
    refine (G_goto (mF fc234 (by rfl))).trans ?_
    exact Iff.rfl
theorem b234_76 {d : Nat} {h : mHeap} {Q : Option Value → mHeap → Prop} {a0 : Nat} {l1 : Option Value} {r0 : Nat} {s1 : Int32} : Go d 234 76 [some (.ref a0), l1] [.int s1, .ref r0] h Q ↔ okF h a0 12 28 0 ∧ oC h r0 = 12 ∧ GoCv d 197 [.ref r0, .int s1, .int (fI h a0 28)] h (fun h1 => ((ii 0) = ii 0 ∨ (ii 0) = ii 1) ∧ Q (some (.int (ii 0))) h1) := by
  refine (G_aload rfl (mF fc234 (by rfl))).trans ?_
  refine (G_getI (c := 12) (k := 28) rfl rfl rfl (mF fc234 (by rfl))).trans (andR ?_)
  refine (G_Vv (q := 101059) (y := 197) (a := r0) (c := 12) rfl rfl rfl rfl (by decide) rfl (as := [.ref r0, .int s1, .int (fI h a0 28)]) (rest := []) rfl rfl (mF fc234 (by rfl))).trans (andR (GoCv_congr fun h1 => ?_))
  refine (G_iconst (mF fc234 (by rfl))).trans ?_
  exact G_ireturnZ rfl (mF fc234 (by rfl))
theorem e234 {d : Nat} {h : mHeap} {K : Int32 → mHeap → Prop} {a0 : Nat} : GoCi (d + 1) 234 [.ref a0] h K ↔ Go d 234 0 [some (.ref a0), none] [] h (rI K) := GoCi_entry rfl rfl
set_option maxRecDepth 20000 in
theorem fc235 : mCodes[235]? = some mc235 := rfl
theorem b235_0 {d : Nat} {h : mHeap} {Q : Option Value → mHeap → Prop} {a0 : Nat} : Go d 235 0 [some (.ref a0), none] [] h Q ↔ oC h a0 = 12 ∧ GoCv d 228 [.ref a0] h (fun h1 => Go d 235 6 [some (.ref a0), some (.int (ii 0))] [] h1 Q) := by
  refine (G_aload rfl (mF fc235 (by rfl))).trans ?_
  refine (G_Vv (q := 116929) (y := 228) (a := a0) (c := 12) rfl rfl rfl rfl (by decide) rfl (as := [.ref a0]) (rest := []) rfl rfl (mF fc235 (by rfl))).trans (andR (GoCv_congr fun h1 => ?_))
  refine (G_iconst (mF fc235 (by rfl))).trans ?_
  refine (G_istore (k := 1) (L' := [some (.ref a0), some (.int (ii 0))]) rfl (ltb rfl) rfl (mF fc235 (by rfl))).trans ?_
  exact Iff.rfl
theorem b235_6 {d : Nat} {h : mHeap} {Q : Option Value → mHeap → Prop} {a0 : Nat} {x1 : Int32} : Go d 235 6 [some (.ref a0), some (.int x1)] [] h Q ↔ (if (ii 8) ≤ x1 then (okF h a0 12 52 0 ∧ okP h a0 12 52 ∧ okF (sF h a0 52 (.int ((fI h a0 52) - (ii 1)))) a0 12 51 0 ∧ okP (sF h a0 52 (.int ((fI h a0 52) - (ii 1)))) a0 12 51 ∧ oC (sF (sF h a0 52 (.int ((fI h a0 52) - (ii 1)))) a0 51 (.int ((fI (sF h a0 52 (.int ((fI h a0 52) - (ii 1)))) a0 51) - (ii 1)))) a0 = 12 ∧ GoCv d 229 [.ref a0] (sF (sF h a0 52 (.int ((fI h a0 52) - (ii 1)))) a0 51 (.int ((fI (sF h a0 52 (.int ((fI h a0 52) - (ii 1)))) a0 51) - (ii 1)))) (fun h1 => Q none h1)) else (okF h a0 12 49 2 ∧ okF h a0 12 47 2 ∧ okF h a0 12 52 0 ∧ okA h (fR h a0 47) .int (((ii 8) * (fI h a0 52)) + x1) ∧ (64 ≤ (fR h a0 49) ∧ okA h (fR h a0 49) .int x1) ∧ Go d 235 6 [some (.ref a0), some (.int (x1 + ii 1))] [] (sI h (fR h a0 49) x1 (eI h (fR h a0 47) (((ii 8) * (fI h a0 52)) + x1))) Q)) := by
  refine (G_iload rfl (mF fc235 (by rfl))).trans ?_
  refine (G_iconst (mF fc235 (by rfl))).trans ?_
  refine (G_ige (mF fc235 (by rfl))).trans (gi ?_ ?_)
  ·
    refine (G_aload rfl (mF fc235 (by rfl))).trans ?_
    refine (G_dupr (mF fc235 (by rfl))).trans ?_
    refine (G_getI (c := 12) (k := 52) rfl rfl rfl (mF fc235 (by rfl))).trans (andR ?_)
    refine (G_iconst (mF fc235 (by rfl))).trans ?_
    refine (G_isub (mF fc235 (by rfl))).trans ?_
    refine (G_putT (c := 12) (k := 52) rfl rfl rfl (mF fc235 (by rfl))).trans (andR ?_)
    refine (G_aload rfl (mF fc235 (by rfl))).trans ?_
    refine (G_dupr (mF fc235 (by rfl))).trans ?_
    refine (G_getI (c := 12) (k := 51) rfl rfl rfl (mF fc235 (by rfl))).trans (andR ?_)
    refine (G_iconst (mF fc235 (by rfl))).trans ?_
    refine (G_isub (mF fc235 (by rfl))).trans ?_
    refine (G_putT (c := 12) (k := 51) rfl rfl rfl (mF fc235 (by rfl))).trans (andR ?_)
    refine (G_aload rfl (mF fc235 (by rfl))).trans ?_
    refine (G_Vv (q := 117441) (y := 229) (a := a0) (c := 12) rfl rfl rfl rfl (by decide) rfl (as := [.ref a0]) (rest := []) rfl rfl (mF fc235 (by rfl))).trans (andR (GoCv_congr fun h1 => ?_))
    exact G_return rfl (mF fc235 (by rfl))
  ·
    refine (G_aload rfl (mF fc235 (by rfl))).trans ?_
    refine (G_getR (c := 12) (k := 49) rfl rfl rfl (mF fc235 (by rfl))).trans (andR ?_)
    refine (G_iload rfl (mF fc235 (by rfl))).trans ?_
    refine (G_aload rfl (mF fc235 (by rfl))).trans ?_
    refine (G_getR (c := 12) (k := 47) rfl rfl rfl (mF fc235 (by rfl))).trans (andR ?_)
    refine (G_iconst (mF fc235 (by rfl))).trans ?_
    refine (G_aload rfl (mF fc235 (by rfl))).trans ?_
    refine (G_getI (c := 12) (k := 52) rfl rfl rfl (mF fc235 (by rfl))).trans (andR ?_)
    refine (G_imul (mF fc235 (by rfl))).trans ?_
    refine (G_iload rfl (mF fc235 (by rfl))).trans ?_
    refine (G_iadd (mF fc235 (by rfl))).trans ?_
    refine (G_iaload (mF fc235 (by rfl))).trans (andR ?_)
    refine (G_iastore (mF fc235 (by rfl))).trans (andR ?_)
    refine (G_iinc (k := 1) (L' := [some (.ref a0), some (.int (x1 + ii 1))]) rfl rfl rfl (mF fc235 (by rfl))).trans ?_
    refine (G_goto (mF fc235 (by rfl))).trans ?_
    exact Iff.rfl
theorem e235 {d : Nat} {h : mHeap} {K : mHeap → Prop} {a0 : Nat} : GoCv (d + 1) 235 [.ref a0] h K ↔ Go d 235 0 [some (.ref a0), none] [] h (rV K) := GoCv_entry rfl rfl
set_option maxRecDepth 20000 in
theorem fc236 : mCodes[236]? = some mc236 := rfl
theorem b236_0 {d : Nat} {h : mHeap} {Q : Option Value → mHeap → Prop} {a0 : Nat} : Go d 236 0 [some (.ref a0)] [] h Q ↔ okF h a0 12 28 0 ∧ okF h a0 12 27 0 ∧ (if (fI h a0 27) ≤ (fI h a0 28) then (Go d 236 43 [some (.ref a0)] [] h Q) else (oC h a0 = 12 ∧ GoCi d 198 [.ref a0] h (fun v1 h1 => (if ¬ v1 = (ii 93) then (Go d 236 43 [some (.ref a0)] [] h1 Q) else (okF h1 a0 12 51 0 ∧ (if (fI h1 a0 51) ≤ ii 0 then (Go d 236 43 [some (.ref a0)] [] h1 Q) else (okF h1 a0 12 28 0 ∧ okP h1 a0 12 28 ∧ oC (sF h1 a0 28 (.int ((fI h1 a0 28) + (ii 1)))) a0 = 12 ∧ GoCv d 235 [.ref a0] (sF h1 a0 28 (.int ((fI h1 a0 28) + (ii 1)))) (fun h2 => ((ii 0) = ii 0 ∨ (ii 0) = ii 1) ∧ Q (some (.int (ii 0))) h2)))))))) := by
  refine (G_aload rfl (mF fc236 (by rfl))).trans ?_
  refine (G_getI (c := 12) (k := 28) rfl rfl rfl (mF fc236 (by rfl))).trans (andR ?_)
  refine (G_aload rfl (mF fc236 (by rfl))).trans ?_
  refine (G_getI (c := 12) (k := 27) rfl rfl rfl (mF fc236 (by rfl))).trans (andR ?_)
  refine (G_ige (mF fc236 (by rfl))).trans (gi ?_ ?_)
  ·
    exact Iff.rfl
  ·
    refine (G_aload rfl (mF fc236 (by rfl))).trans ?_
    refine (G_Vi (q := 101569) (y := 198) (a := a0) (c := 12) rfl rfl rfl rfl (by decide) rfl (as := [.ref a0]) (rest := []) rfl rfl (mF fc236 (by rfl))).trans (andR (GoCi_congr fun v1 h1 => ?_))
    refine (G_iconst (mF fc236 (by rfl))).trans ?_
    refine (G_ine (mF fc236 (by rfl))).trans (gi ?_ ?_)
    ·
      exact Iff.rfl
    ·
      refine (G_aload rfl (mF fc236 (by rfl))).trans ?_
      refine (G_getI (c := 12) (k := 51) rfl rfl rfl (mF fc236 (by rfl))).trans (andR ?_)
      refine (G_le (mF fc236 (by rfl))).trans (gi ?_ ?_)
      ·
        exact Iff.rfl
      ·
        refine (G_aload rfl (mF fc236 (by rfl))).trans ?_
        refine (G_dupr (mF fc236 (by rfl))).trans ?_
        refine (G_getI (c := 12) (k := 28) rfl rfl rfl (mF fc236 (by rfl))).trans (andR ?_)
        refine (G_iconst (mF fc236 (by rfl))).trans ?_
        refine (G_iadd (mF fc236 (by rfl))).trans ?_
        refine (G_putT (c := 12) (k := 28) rfl rfl rfl (mF fc236 (by rfl))).trans (andR ?_)
        refine (G_aload rfl (mF fc236 (by rfl))).trans ?_
        refine (G_Vv (q := 120513) (y := 235) (a := a0) (c := 12) rfl rfl rfl rfl (by decide) rfl (as := [.ref a0]) (rest := []) rfl rfl (mF fc236 (by rfl))).trans (andR (GoCv_congr fun h2 => ?_))
        refine (G_iconst (mF fc236 (by rfl))).trans ?_
        exact G_ireturnZ rfl (mF fc236 (by rfl))
theorem b236_43 {d : Nat} {h : mHeap} {Q : Option Value → mHeap → Prop} {a0 : Nat} : Go d 236 43 [some (.ref a0)] [] h Q ↔ oC h a0 = 12 ∧ GoCi d 201 [.ref a0, .ref 17] h (fun v1 h1 => (if v1 = ii 0 then (oC h1 a0 = 12 ∧ GoCi d 201 [.ref a0, .ref 18] h1 (fun v2 h2 => (if v2 = ii 0 then (okF h2 a0 12 28 0 ∧ oC h2 a0 = 12 ∧ GoCv d 197 [.ref a0, .int (ii 0), .int (fI h2 a0 28)] h2 (fun h3 => ((ii 0) = ii 0 ∨ (ii 0) = ii 1) ∧ Q (some (.int (ii 0))) h3)) else (okF h2 a0 12 28 0 ∧ okP h2 a0 12 28 ∧ oC (sF h2 a0 28 (.int ((fI h2 a0 28) + (ii 2)))) a0 = 12 ∧ GoCv d 228 [.ref a0] (sF h2 a0 28 (.int ((fI h2 a0 28) + (ii 2)))) (fun h4 => ((ii 1) = ii 0 ∨ (ii 1) = ii 1) ∧ Q (some (.int (ii 1))) h4))))) else (okF h1 a0 12 28 0 ∧ okP h1 a0 12 28 ∧ ((ii 1) = ii 0 ∨ (ii 1) = ii 1) ∧ Q (some (.int (ii 1))) (sF h1 a0 28 (.int ((fI h1 a0 28) + (ii 3))))))) := by
  refine (G_aload rfl (mF fc236 (by rfl))).trans ?_
  refine (G_jsr (mF fc236 (by rfl))).trans ?_
  refine (G_Vi (q := 103106) (y := 201) (a := a0) (c := 12) rfl rfl rfl rfl (by decide) rfl (as := [.ref a0, .ref 17]) (rest := []) rfl rfl (mF fc236 (by rfl))).trans (andR (GoCi_congr fun v1 h1 => ?_))
  refine (G_eq (mF fc236 (by rfl))).trans (gi ?_ ?_)
  ·
    refine (G_aload rfl (mF fc236 (by rfl))).trans ?_
    refine (G_jsr (mF fc236 (by rfl))).trans ?_
    refine (G_Vi (q := 103106) (y := 201) (a := a0) (c := 12) rfl rfl rfl rfl (by decide) rfl (as := [.ref a0, .ref 18]) (rest := []) rfl rfl (mF fc236 (by rfl))).trans (andR (GoCi_congr fun v2 h2 => ?_))
    refine (G_eq (mF fc236 (by rfl))).trans (gi ?_ ?_)
    ·
      refine (G_aload rfl (mF fc236 (by rfl))).trans ?_
      refine (G_iconst (mF fc236 (by rfl))).trans ?_
      refine (G_aload rfl (mF fc236 (by rfl))).trans ?_
      refine (G_getI (c := 12) (k := 28) rfl rfl rfl (mF fc236 (by rfl))).trans (andR ?_)
      refine (G_Vv (q := 101059) (y := 197) (a := a0) (c := 12) rfl rfl rfl rfl (by decide) rfl (as := [.ref a0, .int (ii 0), .int (fI h2 a0 28)]) (rest := []) rfl rfl (mF fc236 (by rfl))).trans (andR (GoCv_congr fun h3 => ?_))
      refine (G_iconst (mF fc236 (by rfl))).trans ?_
      exact G_ireturnZ rfl (mF fc236 (by rfl))
    ·
      refine (G_aload rfl (mF fc236 (by rfl))).trans ?_
      refine (G_dupr (mF fc236 (by rfl))).trans ?_
      refine (G_getI (c := 12) (k := 28) rfl rfl rfl (mF fc236 (by rfl))).trans (andR ?_)
      refine (G_iconst (mF fc236 (by rfl))).trans ?_
      refine (G_iadd (mF fc236 (by rfl))).trans ?_
      refine (G_putT (c := 12) (k := 28) rfl rfl rfl (mF fc236 (by rfl))).trans (andR ?_)
      refine (G_aload rfl (mF fc236 (by rfl))).trans ?_
      refine (G_Vv (q := 116929) (y := 228) (a := a0) (c := 12) rfl rfl rfl rfl (by decide) rfl (as := [.ref a0]) (rest := []) rfl rfl (mF fc236 (by rfl))).trans (andR (GoCv_congr fun h4 => ?_))
      refine (G_iconst (mF fc236 (by rfl))).trans ?_
      exact G_ireturnZ rfl (mF fc236 (by rfl))
  ·
    refine (G_aload rfl (mF fc236 (by rfl))).trans ?_
    refine (G_dupr (mF fc236 (by rfl))).trans ?_
    refine (G_getI (c := 12) (k := 28) rfl rfl rfl (mF fc236 (by rfl))).trans (andR ?_)
    refine (G_iconst (mF fc236 (by rfl))).trans ?_
    refine (G_iadd (mF fc236 (by rfl))).trans ?_
    refine (G_putT (c := 12) (k := 28) rfl rfl rfl (mF fc236 (by rfl))).trans (andR ?_)
    refine (G_iconst (mF fc236 (by rfl))).trans ?_
    exact G_ireturnZ rfl (mF fc236 (by rfl))
theorem e236 {d : Nat} {h : mHeap} {K : Int32 → mHeap → Prop} {a0 : Nat} : GoCi (d + 1) 236 [.ref a0] h K ↔ Go d 236 0 [some (.ref a0)] [] h (rI K) := GoCi_entry rfl rfl
set_option maxRecDepth 20000 in
theorem fc237 : mCodes[237]? = some mc237 := rfl
theorem b237_0 {d : Nat} {h : mHeap} {Q : Option Value → mHeap → Prop} {a0 : Nat} : Go d 237 0 [some (.ref a0), none, none] [] h Q ↔ okF h a0 12 32 0 ∧ (if ¬ (fI h a0 32) = (ii 24) then (oC h a0 = 12 ∧ GoCv d 224 [.ref a0] h (fun h1 => okP h1 a0 12 51 ∧ okP (sF h1 a0 51 (.int (ii 0))) a0 12 52 ∧ okP (sF (sF h1 a0 51 (.int (ii 0))) a0 52 (.int (ii 0))) a0 12 53 ∧ oC (sF (sF (sF h1 a0 51 (.int (ii 0))) a0 52 (.int (ii 0))) a0 53 (.int (ii 0))) a0 = 12 ∧ GoCv d 227 [.ref a0] (sF (sF (sF h1 a0 51 (.int (ii 0))) a0 52 (.int (ii 0))) a0 53 (.int (ii 0))) (fun h2 => oC h2 a0 = 12 ∧ GoCv d 199 [.ref a0] h2 (fun h3 => Go d 237 40 [some (.ref a0), some (.int (ii 1)), none] [] h3 Q)))) else (Q (some (.int (ii (-1)))) h)) := by
  refine (G_aload rfl (mF fc237 (by rfl))).trans ?_
  refine (G_getI (c := 12) (k := 32) rfl rfl rfl (mF fc237 (by rfl))).trans (andR ?_)
  refine (G_iconst (mF fc237 (by rfl))).trans ?_
  refine (G_ine (mF fc237 (by rfl))).trans (gi ?_ ?_)
  ·
    refine (G_aload rfl (mF fc237 (by rfl))).trans ?_
    refine (G_Vv (q := 114881) (y := 224) (a := a0) (c := 12) rfl rfl rfl rfl (by decide) rfl (as := [.ref a0]) (rest := []) rfl rfl (mF fc237 (by rfl))).trans (andR (GoCv_congr fun h1 => ?_))
    refine (G_aload rfl (mF fc237 (by rfl))).trans ?_
    refine (G_iconst (mF fc237 (by rfl))).trans ?_
    refine (G_putT (c := 12) (k := 51) rfl rfl rfl (mF fc237 (by rfl))).trans (andR ?_)
    refine (G_aload rfl (mF fc237 (by rfl))).trans ?_
    refine (G_iconst (mF fc237 (by rfl))).trans ?_
    refine (G_putT (c := 12) (k := 52) rfl rfl rfl (mF fc237 (by rfl))).trans (andR ?_)
    refine (G_aload rfl (mF fc237 (by rfl))).trans ?_
    refine (G_iconst (mF fc237 (by rfl))).trans ?_
    refine (G_putT (c := 12) (k := 53) rfl rfl rfl (mF fc237 (by rfl))).trans (andR ?_)
    refine (G_aload rfl (mF fc237 (by rfl))).trans ?_
    refine (G_Vv (q := 116417) (y := 227) (a := a0) (c := 12) rfl rfl rfl rfl (by decide) rfl (as := [.ref a0]) (rest := []) rfl rfl (mF fc237 (by rfl))).trans (andR (GoCv_congr fun h2 => ?_))
    refine (G_iconst (mF fc237 (by rfl))).trans ?_
    refine (G_istore (k := 1) (L' := [some (.ref a0), some (.int (ii 1)), none]) rfl (ltb rfl) rfl (mF fc237 (by rfl))).trans ?_
    refine (G_aload rfl (mF fc237 (by rfl))).trans ?_
    refine (G_Vv (q := 102081) (y := 199) (a := a0) (c := 12) rfl rfl rfl rfl (by decide) rfl (as := [.ref a0]) (rest := []) rfl rfl (mF fc237 (by rfl))).trans (andR (GoCv_congr fun h3 => ?_))
    exact Iff.rfl
  ·
    refine (G_iconst (mF fc237 (by rfl))).trans ?_
    exact G_ireturnI rfl (mF fc237 (by rfl))
theorem b237_40 {d : Nat} {h : mHeap} {Q : Option Value → mHeap → Prop} {a0 : Nat} {x1 : Int32} {l2 : Option Value} : Go d 237 40 [some (.ref a0), some (.int x1), l2] [] h Q ↔ okF h a0 12 29 0 ∧ (if ¬ (fI h a0 29) = ii 0 then (Go d 237 101 [some (.ref a0), some (.int x1), l2] [] h Q) else ((if ¬ x1 = ii 0 then (Go d 237 69 [some (.ref a0), some (.int x1), l2] [] h Q) else (okF h a0 12 51 0 ∧ (if ii 0 < (fI h a0 51) then (Go d 237 69 [some (.ref a0), some (.int x1), l2] [] h Q) else (okF h a0 12 28 0 ∧ okF h a0 12 27 0 ∧ (if (fI h a0 27) ≤ (fI h a0 28) then (Go d 237 101 [some (.ref a0), some (.int x1), l2] [] h Q) else (Go d 237 69 [some (.ref a0), some (.int x1), l2] [] h Q)))))))) := by
  refine (G_aload rfl (mF fc237 (by rfl))).trans ?_
  refine (G_getI (c := 12) (k := 29) rfl rfl rfl (mF fc237 (by rfl))).trans (andR ?_)
  refine (G_ne (mF fc237 (by rfl))).trans (gi ?_ ?_)
  ·
    exact Iff.rfl
  ·
    refine (G_iload rfl (mF fc237 (by rfl))).trans ?_
    refine (G_ne (mF fc237 (by rfl))).trans (gi ?_ ?_)
    ·
      exact Iff.rfl
    ·
      refine (G_aload rfl (mF fc237 (by rfl))).trans ?_
      refine (G_getI (c := 12) (k := 51) rfl rfl rfl (mF fc237 (by rfl))).trans (andR ?_)
      refine (G_gt (mF fc237 (by rfl))).trans (gi ?_ ?_)
      ·
        exact Iff.rfl
      ·
        refine (G_aload rfl (mF fc237 (by rfl))).trans ?_
        refine (G_getI (c := 12) (k := 28) rfl rfl rfl (mF fc237 (by rfl))).trans (andR ?_)
        refine (G_aload rfl (mF fc237 (by rfl))).trans ?_
        refine (G_getI (c := 12) (k := 27) rfl rfl rfl (mF fc237 (by rfl))).trans (andR ?_)
        refine (G_ige (mF fc237 (by rfl))).trans (gi ?_ ?_)
        ·
          exact Iff.rfl
        ·
          exact Iff.rfl
theorem b237_69 {d : Nat} {h : mHeap} {Q : Option Value → mHeap → Prop} {a0 : Nat} {x1 : Int32} {l2 : Option Value} : Go d 237 69 [some (.ref a0), some (.int x1), l2] [] h Q ↔ (if x1 = ii 0 then (oC h a0 = 12 ∧ GoCi d 236 [.ref a0] h (fun v1 h1 => Go d 237 94 [some (.ref a0), some (.int v1), l2] [] h1 Q)) else (oC h a0 = 12 ∧ GoCi d 234 [.ref a0] h (fun v2 h2 => (if ¬ v2 = ii 0 then (Go d 237 85 [some (.ref a0), some (.int x1), l2] [.int (ii 0)] h2 Q) else (Go d 237 85 [some (.ref a0), some (.int x1), l2] [.int (ii 1)] h2 Q))))) := by
  refine (G_iload rfl (mF fc237 (by rfl))).trans ?_
  refine (G_eq (mF fc237 (by rfl))).trans (gi ?_ ?_)
  ·
    refine (G_aload rfl (mF fc237 (by rfl))).trans ?_
    refine (G_Vi (q := 121025) (y := 236) (a := a0) (c := 12) rfl rfl rfl rfl (by decide) rfl (as := [.ref a0]) (rest := []) rfl rfl (mF fc237 (by rfl))).trans (andR (GoCi_congr fun v1 h1 => ?_))
    refine (G_istore (k := 1) (L' := [some (.ref a0), some (.int v1), l2]) rfl (ltb rfl) rfl (mF fc237 (by rfl))).trans ?_
    exact Iff.rfl
  ·
    refine (G_aload rfl (mF fc237 (by rfl))).trans ?_
    refine (G_Vi (q := 120001) (y := 234) (a := a0) (c := 12) rfl rfl rfl rfl (by decide) rfl (as := [.ref a0]) (rest := []) rfl rfl (mF fc237 (by rfl))).trans (andR (GoCi_congr fun v2 h2 => ?_))
    refine (G_ne (mF fc237 (by rfl))).trans (gi ?_ ?_)
    ·
      refine (G_iconst (mF fc237 (by rfl))).trans ?_
      exact Iff.rfl
    ·
      refine (G_iconst (mF fc237 (by rfl))).trans ?_
      refine (G_goto (mF fc237 (by rfl))).trans ?_
      exact Iff.rfl
theorem b237_85 {d : Nat} {h : mHeap} {Q : Option Value → mHeap → Prop} {a0 : Nat} {l1 : Option Value} {l2 : Option Value} {s0 : Int32} : Go d 237 85 [some (.ref a0), l1, l2] [.int s0] h Q ↔ Go d 237 94 [some (.ref a0), some (.int s0), l2] [] h Q := by
  refine (G_istore (k := 1) (L' := [some (.ref a0), some (.int s0), l2]) rfl (ltb rfl) rfl (mF fc237 (by rfl))).trans ?_
  refine (G_goto (mF fc237 (by rfl))).trans ?_
  exact Iff.rfl
theorem b237_94 {d : Nat} {h : mHeap} {Q : Option Value → mHeap → Prop} {a0 : Nat} {x1 : Int32} {l2 : Option Value} : Go d 237 94 [some (.ref a0), some (.int x1), l2] [] h Q ↔ oC h a0 = 12 ∧ GoCv d 199 [.ref a0] h (fun h1 => Go d 237 40 [some (.ref a0), some (.int x1), l2] [] h1 Q) := by
  refine (G_aload rfl (mF fc237 (by rfl))).trans ?_
  refine (G_Vv (q := 102081) (y := 199) (a := a0) (c := 12) rfl rfl rfl rfl (by decide) rfl (as := [.ref a0]) (rest := []) rfl rfl (mF fc237 (by rfl))).trans (andR (GoCv_congr fun h1 => ?_))
  refine (G_goto (mF fc237 (by rfl))).trans ?_
  exact Iff.rfl
theorem b237_101 {d : Nat} {h : mHeap} {Q : Option Value → mHeap → Prop} {a0 : Nat} {l1 : Option Value} {l2 : Option Value} (hl1 : mNo l1 = true) : Go d 237 101 [some (.ref a0), l1, l2] [] h Q ↔ okP h a0 12 27 ∧ okF (sF h a0 27 (.int (ii 0))) a0 12 29 0 ∧ (if (fI (sF h a0 27 (.int (ii 0))) a0 29) ≤ ii 0 then (oC (sF h a0 27 (.int (ii 0))) a0 = 12 ∧ GoCv d 228 [.ref a0] (sF h a0 27 (.int (ii 0))) (fun h1 => Go d 237 127 [some (.ref a0), l1, some (.int (ii 0))] [] h1 Q)) else (okF (sF h a0 27 (.int (ii 0))) a0 12 29 0 ∧ Q (some (.int ((ii (-2)) - (fI (sF h a0 27 (.int (ii 0))) a0 29)))) (sF h a0 27 (.int (ii 0))))) := by
  refine (G_aload rfl (mF fc237 (by rfl))).trans ?_
  refine (G_iconst (mF fc237 (by rfl))).trans ?_
  refine (G_putT (c := 12) (k := 27) rfl rfl rfl (mF fc237 (by rfl))).trans (andR ?_)
  refine (G_aload rfl (mF fc237 (by rfl))).trans ?_
  refine (G_getI (c := 12) (k := 29) rfl rfl rfl (mF fc237 (by rfl))).trans (andR ?_)
  refine (G_le (mF fc237 (by rfl))).trans (gi ?_ ?_)
  ·
    refine (G_aload rfl (mF fc237 (by rfl))).trans ?_
    refine (G_Vv (q := 116929) (y := 228) (a := a0) (c := 12) rfl rfl rfl rfl (by decide) rfl (as := [.ref a0]) (rest := []) rfl rfl (mF fc237 (by rfl))).trans (andR (GoCv_congr fun h1 => ?_))
    refine (G_iconst (mF fc237 (by rfl))).trans ?_
    refine (G_istore (k := 2) (L' := [some (.ref a0), l1, some (.int (ii 0))]) rfl (ltb rfl) (by exact hl1) (mF fc237 (by rfl))).trans ?_
    exact Iff.rfl
  ·
    refine (G_iconst (mF fc237 (by rfl))).trans ?_
    refine (G_aload rfl (mF fc237 (by rfl))).trans ?_
    refine (G_getI (c := 12) (k := 29) rfl rfl rfl (mF fc237 (by rfl))).trans (andR ?_)
    refine (G_isub (mF fc237 (by rfl))).trans ?_
    exact G_ireturnI rfl (mF fc237 (by rfl))
theorem b237_127 {d : Nat} {h : mHeap} {Q : Option Value → mHeap → Prop} {a0 : Nat} {l1 : Option Value} {x2 : Int32} (hl1 : mNo l1 = true) : Go d 237 127 [some (.ref a0), l1, some (.int x2)] [] h Q ↔ (if (ii 8) ≤ x2 then (okF h a0 12 32 0 ∧ okP h a0 12 32 ∧ okF (sF h a0 32 (.int ((fI h a0 32) + (ii 1)))) a0 12 32 0 ∧ Q (some (.int ((fI (sF h a0 32 (.int ((fI h a0 32) + (ii 1)))) a0 32) - (ii 1)))) (sF h a0 32 (.int ((fI h a0 32) + (ii 1))))) else (okF h a0 12 46 2 ∧ okF h a0 12 32 0 ∧ okF h a0 12 47 2 ∧ okA h (fR h a0 47) .int x2 ∧ (64 ≤ (fR h a0 46) ∧ okA h (fR h a0 46) .int (((ii 8) * (fI h a0 32)) + x2)) ∧ Go d 237 127 [some (.ref a0), l1, some (.int (x2 + ii 1))] [] (sI h (fR h a0 46) (((ii 8) * (fI h a0 32)) + x2) (eI h (fR h a0 47) x2)) Q)) := by
  refine (G_iload rfl (mF fc237 (by rfl))).trans ?_
  refine (G_iconst (mF fc237 (by rfl))).trans ?_
  refine (G_ige (mF fc237 (by rfl))).trans (gi ?_ ?_)
  ·
    refine (G_aload rfl (mF fc237 (by rfl))).trans ?_
    refine (G_dupr (mF fc237 (by rfl))).trans ?_
    refine (G_getI (c := 12) (k := 32) rfl rfl rfl (mF fc237 (by rfl))).trans (andR ?_)
    refine (G_iconst (mF fc237 (by rfl))).trans ?_
    refine (G_iadd (mF fc237 (by rfl))).trans ?_
    refine (G_putT (c := 12) (k := 32) rfl rfl rfl (mF fc237 (by rfl))).trans (andR ?_)
    refine (G_aload rfl (mF fc237 (by rfl))).trans ?_
    refine (G_getI (c := 12) (k := 32) rfl rfl rfl (mF fc237 (by rfl))).trans (andR ?_)
    refine (G_iconst (mF fc237 (by rfl))).trans ?_
    refine (G_isub (mF fc237 (by rfl))).trans ?_
    exact G_ireturnI rfl (mF fc237 (by rfl))
  ·
    refine (G_aload rfl (mF fc237 (by rfl))).trans ?_
    refine (G_getR (c := 12) (k := 46) rfl rfl rfl (mF fc237 (by rfl))).trans (andR ?_)
    refine (G_iconst (mF fc237 (by rfl))).trans ?_
    refine (G_aload rfl (mF fc237 (by rfl))).trans ?_
    refine (G_getI (c := 12) (k := 32) rfl rfl rfl (mF fc237 (by rfl))).trans (andR ?_)
    refine (G_imul (mF fc237 (by rfl))).trans ?_
    refine (G_iload rfl (mF fc237 (by rfl))).trans ?_
    refine (G_iadd (mF fc237 (by rfl))).trans ?_
    refine (G_aload rfl (mF fc237 (by rfl))).trans ?_
    refine (G_getR (c := 12) (k := 47) rfl rfl rfl (mF fc237 (by rfl))).trans (andR ?_)
    refine (G_iload rfl (mF fc237 (by rfl))).trans ?_
    refine (G_iaload (mF fc237 (by rfl))).trans (andR ?_)
    refine (G_iastore (mF fc237 (by rfl))).trans (andR ?_)
    refine (G_iinc (k := 2) (L' := [some (.ref a0), l1, some (.int (x2 + ii 1))]) rfl rfl (by exact hl1) (mF fc237 (by rfl))).trans ?_
    refine (G_goto (mF fc237 (by rfl))).trans ?_
    exact Iff.rfl
theorem e237 {d : Nat} {h : mHeap} {K : Int32 → mHeap → Prop} {a0 : Nat} : GoCi (d + 1) 237 [.ref a0] h K ↔ Go d 237 0 [some (.ref a0), none, none] [] h (rI K) := GoCi_entry rfl rfl
set_option maxRecDepth 20000 in
theorem fc238 : mCodes[238]? = some mc238 := rfl
theorem b238_0 {d : Nat} {h : mHeap} {Q : Option Value → mHeap → Prop} {a0 : Nat} {x1 : Int32} : Go d 238 0 [some (.ref a0), some (.int x1), none, none] [] h Q ↔ oC h a0 = 12 ∧ GoCv d 199 [.ref a0] h (fun h1 => okF h1 a0 12 28 0 ∧ oC h1 a0 = 12 ∧ GoCi d 201 [.ref a0, .ref 19] h1 (fun v2 h2 => (if ¬ v2 = ii 0 then ((if ¬ x1 = (ii 12) then (okF h2 a0 12 28 0 ∧ okP h2 a0 12 28 ∧ okF (sF h2 a0 28 (.int ((fI h2 a0 28) + (ii 3)))) a0 12 30 0 ∧ okF (sF h2 a0 28 (.int ((fI h2 a0 28) + (ii 3)))) a0 12 42 2 ∧ okF (sF h2 a0 28 (.int ((fI h2 a0 28) + (ii 3)))) a0 12 33 0 ∧ (64 ≤ (fR (sF h2 a0 28 (.int ((fI h2 a0 28) + (ii 3)))) a0 42) ∧ okA (sF h2 a0 28 (.int ((fI h2 a0 28) + (ii 3)))) (fR (sF h2 a0 28 (.int ((fI h2 a0 28) + (ii 3)))) a0 42) .int (((ii 12) * (fI (sF h2 a0 28 (.int ((fI h2 a0 28) + (ii 3)))) a0 30)) + x1)) ∧ oC (sI (sF h2 a0 28 (.int ((fI h2 a0 28) + (ii 3)))) (fR (sF h2 a0 28 (.int ((fI h2 a0 28) + (ii 3)))) a0 42) (((ii 12) * (fI (sF h2 a0 28 (.int ((fI h2 a0 28) + (ii 3)))) a0 30)) + x1) (fI (sF h2 a0 28 (.int ((fI h2 a0 28) + (ii 3)))) a0 33)) a0 = 12 ∧ GoCv d 208 [.ref a0] (sI (sF h2 a0 28 (.int ((fI h2 a0 28) + (ii 3)))) (fR (sF h2 a0 28 (.int ((fI h2 a0 28) + (ii 3)))) a0 42) (((ii 12) * (fI (sF h2 a0 28 (.int ((fI h2 a0 28) + (ii 3)))) a0 30)) + x1) (fI (sF h2 a0 28 (.int ((fI h2 a0 28) + (ii 3)))) a0 33)) (fun h3 => okF h3 a0 12 43 2 ∧ okF h3 a0 12 33 0 ∧ (64 ≤ (fR h3 a0 43) ∧ okA h3 (fR h3 a0 43) .int (((ii 12) * (fI (sF h2 a0 28 (.int ((fI h2 a0 28) + (ii 3)))) a0 30)) + x1)) ∧ okF (sI h3 (fR h3 a0 43) (((ii 12) * (fI (sF h2 a0 28 (.int ((fI h2 a0 28) + (ii 3)))) a0 30)) + x1) (fI h3 a0 33)) a0 12 29 0 ∧ (if ¬ (fI (sI h3 (fR h3 a0 43) (((ii 12) * (fI (sF h2 a0 28 (.int ((fI h2 a0 28) + (ii 3)))) a0 30)) + x1) (fI h3 a0 33)) a0 29) = ii 0 then (okF (sI h3 (fR h3 a0 43) (((ii 12) * (fI (sF h2 a0 28 (.int ((fI h2 a0 28) + (ii 3)))) a0 30)) + x1) (fI h3 a0 33)) a0 12 44 2 ∧ okF (sI h3 (fR h3 a0 43) (((ii 12) * (fI (sF h2 a0 28 (.int ((fI h2 a0 28) + (ii 3)))) a0 30)) + x1) (fI h3 a0 33)) a0 12 33 0 ∧ (64 ≤ (fR (sI h3 (fR h3 a0 43) (((ii 12) * (fI (sF h2 a0 28 (.int ((fI h2 a0 28) + (ii 3)))) a0 30)) + x1) (fI h3 a0 33)) a0 44) ∧ okA (sI h3 (fR h3 a0 43) (((ii 12) * (fI (sF h2 a0 28 (.int ((fI h2 a0 28) + (ii 3)))) a0 30)) + x1) (fI h3 a0 33)) (fR (sI h3 (fR h3 a0 43) (((ii 12) * (fI (sF h2 a0 28 (.int ((fI h2 a0 28) + (ii 3)))) a0 30)) + x1) (fI h3 a0 33)) a0 44) .int (((ii 12) * (fI (sF h2 a0 28 (.int ((fI h2 a0 28) + (ii 3)))) a0 30)) + x1)) ∧ Q none (sI (sI h3 (fR h3 a0 43) (((ii 12) * (fI (sF h2 a0 28 (.int ((fI h2 a0 28) + (ii 3)))) a0 30)) + x1) (fI h3 a0 33)) (fR (sI h3 (fR h3 a0 43) (((ii 12) * (fI (sF h2 a0 28 (.int ((fI h2 a0 28) + (ii 3)))) a0 30)) + x1) (fI h3 a0 33)) a0 44) (((ii 12) * (fI (sF h2 a0 28 (.int ((fI h2 a0 28) + (ii 3)))) a0 30)) + x1) (fI (sI h3 (fR h3 a0 43) (((ii 12) * (fI (sF h2 a0 28 (.int ((fI h2 a0 28) + (ii 3)))) a0 30)) + x1) (fI h3 a0 33)) a0 33))) else (oC (sI h3 (fR h3 a0 43) (((ii 12) * (fI (sF h2 a0 28 (.int ((fI h2 a0 28) + (ii 3)))) a0 30)) + x1) (fI h3 a0 33)) a0 = 12 ∧ GoCi d 202 [.ref a0, .ref 29] (sI h3 (fR h3 a0 43) (((ii 12) * (fI (sF h2 a0 28 (.int ((fI h2 a0 28) + (ii 3)))) a0 30)) + x1) (fI h3 a0 33)) (fun v4 h4 => (if v4 = ii 0 then (okF h4 a0 12 44 2 ∧ okF h4 a0 12 33 0 ∧ (64 ≤ (fR h4 a0 44) ∧ okA h4 (fR h4 a0 44) .int (((ii 12) * (fI (sF h2 a0 28 (.int ((fI h2 a0 28) + (ii 3)))) a0 30)) + x1)) ∧ Q none (sI h4 (fR h4 a0 44) (((ii 12) * (fI (sF h2 a0 28 (.int ((fI h2 a0 28) + (ii 3)))) a0 30)) + x1) (fI h4 a0 33))) else (oC h4 a0 = 12 ∧ GoCv d 214 [.ref a0] h4 (fun h5 => okF h5 a0 12 44 2 ∧ okF h5 a0 12 33 0 ∧ (64 ≤ (fR h5 a0 44) ∧ okA h5 (fR h5 a0 44) .int (((ii 12) * (fI (sF h2 a0 28 (.int ((fI h2 a0 28) + (ii 3)))) a0 30)) + x1)) ∧ Q none (sI h5 (fR h5 a0 44) (((ii 12) * (fI (sF h2 a0 28 (.int ((fI h2 a0 28) + (ii 3)))) a0 30)) + x1) (fI h5 a0 33)))))))))) else (oC h2 a0 = 12 ∧ GoCv d 197 [.ref a0, .int (ii 4), .int (fI h1 a0 28)] h2 (fun h6 => Q none h6)))) else (oC h2 a0 = 12 ∧ GoCv d 197 [.ref a0, .int (ii 0), .int (fI h1 a0 28)] h2 (fun h7 => Q none h7))))) := by
  refine (G_aload rfl (mF fc238 (by rfl))).trans ?_
  refine (G_Vv (q := 102081) (y := 199) (a := a0) (c := 12) rfl rfl rfl rfl (by decide) rfl (as := [.ref a0]) (rest := []) rfl rfl (mF fc238 (by rfl))).trans (andR (GoCv_congr fun h1 => ?_))
  refine (G_aload rfl (mF fc238 (by rfl))).trans ?_
  refine (G_getI (c := 12) (k := 28) rfl rfl rfl (mF fc238 (by rfl))).trans (andR ?_)
  refine (G_istore (k := 2) (L' := [some (.ref a0), some (.int x1), some (.int (fI h1 a0 28)), none]) rfl (ltb rfl) rfl (mF fc238 (by rfl))).trans ?_
  refine (G_aload rfl (mF fc238 (by rfl))).trans ?_
  refine (G_jsr (mF fc238 (by rfl))).trans ?_
  refine (G_Vi (q := 103106) (y := 201) (a := a0) (c := 12) rfl rfl rfl rfl (by decide) rfl (as := [.ref a0, .ref 19]) (rest := []) rfl rfl (mF fc238 (by rfl))).trans (andR (GoCi_congr fun v2 h2 => ?_))
  refine (G_ne (mF fc238 (by rfl))).trans (gi ?_ ?_)
  ·
    refine (G_iload rfl (mF fc238 (by rfl))).trans ?_
    refine (G_iconst (mF fc238 (by rfl))).trans ?_
    refine (G_ine (mF fc238 (by rfl))).trans (gi ?_ ?_)
    ·
      refine (G_aload rfl (mF fc238 (by rfl))).trans ?_
      refine (G_dupr (mF fc238 (by rfl))).trans ?_
      refine (G_getI (c := 12) (k := 28) rfl rfl rfl (mF fc238 (by rfl))).trans (andR ?_)
      refine (G_iconst (mF fc238 (by rfl))).trans ?_
      refine (G_iadd (mF fc238 (by rfl))).trans ?_
      refine (G_putT (c := 12) (k := 28) rfl rfl rfl (mF fc238 (by rfl))).trans (andR ?_)
      refine (G_iconst (mF fc238 (by rfl))).trans ?_
      refine (G_aload rfl (mF fc238 (by rfl))).trans ?_
      refine (G_getI (c := 12) (k := 30) rfl rfl rfl (mF fc238 (by rfl))).trans (andR ?_)
      refine (G_imul (mF fc238 (by rfl))).trans ?_
      refine (G_iload rfl (mF fc238 (by rfl))).trans ?_
      refine (G_iadd (mF fc238 (by rfl))).trans ?_
      refine (G_istore (k := 3) (L' := [some (.ref a0), some (.int x1), some (.int (fI h1 a0 28)), some (.int (((ii 12) * (fI (sF h2 a0 28 (.int ((fI h2 a0 28) + (ii 3)))) a0 30)) + x1))]) rfl (ltb rfl) rfl (mF fc238 (by rfl))).trans ?_
      refine (G_aload rfl (mF fc238 (by rfl))).trans ?_
      refine (G_getR (c := 12) (k := 42) rfl rfl rfl (mF fc238 (by rfl))).trans (andR ?_)
      refine (G_iload rfl (mF fc238 (by rfl))).trans ?_
      refine (G_aload rfl (mF fc238 (by rfl))).trans ?_
      refine (G_getI (c := 12) (k := 33) rfl rfl rfl (mF fc238 (by rfl))).trans (andR ?_)
      refine (G_iastore (mF fc238 (by rfl))).trans (andR ?_)
      refine (G_aload rfl (mF fc238 (by rfl))).trans ?_
      refine (G_Vv (q := 106689) (y := 208) (a := a0) (c := 12) rfl rfl rfl rfl (by decide) rfl (as := [.ref a0]) (rest := []) rfl rfl (mF fc238 (by rfl))).trans (andR (GoCv_congr fun h3 => ?_))
      refine (G_aload rfl (mF fc238 (by rfl))).trans ?_
      refine (G_getR (c := 12) (k := 43) rfl rfl rfl (mF fc238 (by rfl))).trans (andR ?_)
      refine (G_iload rfl (mF fc238 (by rfl))).trans ?_
      refine (G_aload rfl (mF fc238 (by rfl))).trans ?_
      refine (G_getI (c := 12) (k := 33) rfl rfl rfl (mF fc238 (by rfl))).trans (andR ?_)
      refine (G_iastore (mF fc238 (by rfl))).trans (andR ?_)
      refine (G_aload rfl (mF fc238 (by rfl))).trans ?_
      refine (G_getI (c := 12) (k := 29) rfl rfl rfl (mF fc238 (by rfl))).trans (andR ?_)
      refine (G_ne (mF fc238 (by rfl))).trans (gi ?_ ?_)
      ·
        refine (G_aload rfl (mF fc238 (by rfl))).trans ?_
        refine (G_getR (c := 12) (k := 44) rfl rfl rfl (mF fc238 (by rfl))).trans (andR ?_)
        refine (G_iload rfl (mF fc238 (by rfl))).trans ?_
        refine (G_aload rfl (mF fc238 (by rfl))).trans ?_
        refine (G_getI (c := 12) (k := 33) rfl rfl rfl (mF fc238 (by rfl))).trans (andR ?_)
        refine (G_iastore (mF fc238 (by rfl))).trans (andR ?_)
        exact G_return rfl (mF fc238 (by rfl))
      ·
        refine (G_aload rfl (mF fc238 (by rfl))).trans ?_
        refine (G_jsr (mF fc238 (by rfl))).trans ?_
        refine (G_Vi (q := 103618) (y := 202) (a := a0) (c := 12) rfl rfl rfl rfl (by decide) rfl (as := [.ref a0, .ref 29]) (rest := []) rfl rfl (mF fc238 (by rfl))).trans (andR (GoCi_congr fun v4 h4 => ?_))
        refine (G_eq (mF fc238 (by rfl))).trans (gi ?_ ?_)
        ·
          refine (G_aload rfl (mF fc238 (by rfl))).trans ?_
          refine (G_getR (c := 12) (k := 44) rfl rfl rfl (mF fc238 (by rfl))).trans (andR ?_)
          refine (G_iload rfl (mF fc238 (by rfl))).trans ?_
          refine (G_aload rfl (mF fc238 (by rfl))).trans ?_
          refine (G_getI (c := 12) (k := 33) rfl rfl rfl (mF fc238 (by rfl))).trans (andR ?_)
          refine (G_iastore (mF fc238 (by rfl))).trans (andR ?_)
          exact G_return rfl (mF fc238 (by rfl))
        ·
          refine (G_aload rfl (mF fc238 (by rfl))).trans ?_
          refine (G_Vv (q := 109761) (y := 214) (a := a0) (c := 12) rfl rfl rfl rfl (by decide) rfl (as := [.ref a0]) (rest := []) rfl rfl (mF fc238 (by rfl))).trans (andR (GoCv_congr fun h5 => ?_))
          refine (G_aload rfl (mF fc238 (by rfl))).trans ?_
          refine (G_getR (c := 12) (k := 44) rfl rfl rfl (mF fc238 (by rfl))).trans (andR ?_)
          refine (G_iload rfl (mF fc238 (by rfl))).trans ?_
          refine (G_aload rfl (mF fc238 (by rfl))).trans ?_
          refine (G_getI (c := 12) (k := 33) rfl rfl rfl (mF fc238 (by rfl))).trans (andR ?_)
          refine (G_iastore (mF fc238 (by rfl))).trans (andR ?_)
          exact G_return rfl (mF fc238 (by rfl))
    ·
      refine (G_aload rfl (mF fc238 (by rfl))).trans ?_
      refine (G_iconst (mF fc238 (by rfl))).trans ?_
      refine (G_iload rfl (mF fc238 (by rfl))).trans ?_
      refine (G_Vv (q := 101059) (y := 197) (a := a0) (c := 12) rfl rfl rfl rfl (by decide) rfl (as := [.ref a0, .int (ii 4), .int (fI h1 a0 28)]) (rest := []) rfl rfl (mF fc238 (by rfl))).trans (andR (GoCv_congr fun h6 => ?_))
      exact G_return rfl (mF fc238 (by rfl))
  ·
    refine (G_aload rfl (mF fc238 (by rfl))).trans ?_
    refine (G_iconst (mF fc238 (by rfl))).trans ?_
    refine (G_iload rfl (mF fc238 (by rfl))).trans ?_
    refine (G_Vv (q := 101059) (y := 197) (a := a0) (c := 12) rfl rfl rfl rfl (by decide) rfl (as := [.ref a0, .int (ii 0), .int (fI h1 a0 28)]) (rest := []) rfl rfl (mF fc238 (by rfl))).trans (andR (GoCv_congr fun h7 => ?_))
    exact G_return rfl (mF fc238 (by rfl))
theorem e238 {d : Nat} {h : mHeap} {K : mHeap → Prop} {a0 : Nat} {x1 : Int32} : GoCv (d + 1) 238 [.ref a0, .int x1] h K ↔ Go d 238 0 [some (.ref a0), some (.int x1), none, none] [] h (rV K) := GoCv_entry rfl rfl
set_option maxRecDepth 20000 in
theorem fc239 : mCodes[239]? = some mc239 := rfl
theorem b239_0 {d : Nat} {h : mHeap} {Q : Option Value → mHeap → Prop} {a0 : Nat} : Go d 239 0 [some (.ref a0), none, none] [] h Q ↔ okF h a0 12 31 0 ∧ (if ¬ (fI h a0 31) = (ii 6) then (okF h a0 12 31 0 ∧ okP h a0 12 30 ∧ oC (sF h a0 30 (.int (fI h a0 31))) a0 = 12 ∧ GoCv d 224 [.ref a0] (sF h a0 30 (.int (fI h a0 31))) (fun h1 => Go d 239 27 [some (.ref a0), some (.int (ii 0)), some (.int (ii 1))] [] h1 Q)) else (Q (some (.int (ii (-1)))) h)) := by
  refine (G_aload rfl (mF fc239 (by rfl))).trans ?_
  refine (G_getI (c := 12) (k := 31) rfl rfl rfl (mF fc239 (by rfl))).trans (andR ?_)
  refine (G_iconst (mF fc239 (by rfl))).trans ?_
  refine (G_ine (mF fc239 (by rfl))).trans (gi ?_ ?_)
  ·
    refine (G_aload rfl (mF fc239 (by rfl))).trans ?_
    refine (G_aload rfl (mF fc239 (by rfl))).trans ?_
    refine (G_getI (c := 12) (k := 31) rfl rfl rfl (mF fc239 (by rfl))).trans (andR ?_)
    refine (G_putT (c := 12) (k := 30) rfl rfl rfl (mF fc239 (by rfl))).trans (andR ?_)
    refine (G_aload rfl (mF fc239 (by rfl))).trans ?_
    refine (G_Vv (q := 114881) (y := 224) (a := a0) (c := 12) rfl rfl rfl rfl (by decide) rfl (as := [.ref a0]) (rest := []) rfl rfl (mF fc239 (by rfl))).trans (andR (GoCv_congr fun h1 => ?_))
    refine (G_iconst (mF fc239 (by rfl))).trans ?_
    refine (G_istore (k := 1) (L' := [some (.ref a0), some (.int (ii 0)), none]) rfl (ltb rfl) rfl (mF fc239 (by rfl))).trans ?_
    refine (G_iconst (mF fc239 (by rfl))).trans ?_
    refine (G_istore (k := 2) (L' := [some (.ref a0), some (.int (ii 0)), some (.int (ii 1))]) rfl (ltb rfl) rfl (mF fc239 (by rfl))).trans ?_
    exact Iff.rfl
  ·
    refine (G_iconst (mF fc239 (by rfl))).trans ?_
    exact G_ireturnI rfl (mF fc239 (by rfl))
theorem b239_27 {d : Nat} {h : mHeap} {Q : Option Value → mHeap → Prop} {a0 : Nat} {x1 : Int32} {x2 : Int32} : Go d 239 27 [some (.ref a0), some (.int x1), some (.int x2)] [] h Q ↔ (if x2 = ii 0 then (okP h a0 12 27 ∧ okF (sF h a0 27 (.int (ii 0))) a0 12 41 2 ∧ okF (sF h a0 27 (.int (ii 0))) a0 12 30 0 ∧ (64 ≤ (fR (sF h a0 27 (.int (ii 0))) a0 41) ∧ okA (sF h a0 27 (.int (ii 0))) (fR (sF h a0 27 (.int (ii 0))) a0 41) .int (fI (sF h a0 27 (.int (ii 0))) a0 30)) ∧ okF (sI (sF h a0 27 (.int (ii 0))) (fR (sF h a0 27 (.int (ii 0))) a0 41) (fI (sF h a0 27 (.int (ii 0))) a0 30) x1) a0 12 31 0 ∧ okF (sI (sF h a0 27 (.int (ii 0))) (fR (sF h a0 27 (.int (ii 0))) a0 41) (fI (sF h a0 27 (.int (ii 0))) a0 30) x1) a0 12 29 0 ∧ (if ¬ (fI (sI (sF h a0 27 (.int (ii 0))) (fR (sF h a0 27 (.int (ii 0))) a0 41) (fI (sF h a0 27 (.int (ii 0))) a0 30) x1) a0 29) = ii 0 then (Go d 239 79 [some (.ref a0), some (.int x1), some (.int x2)] [.int (ii 0), .int (fI (sI (sF h a0 27 (.int (ii 0))) (fR (sF h a0 27 (.int (ii 0))) a0 41) (fI (sF h a0 27 (.int (ii 0))) a0 30) x1) a0 31), .ref a0] (sI (sF h a0 27 (.int (ii 0))) (fR (sF h a0 27 (.int (ii 0))) a0 41) (fI (sF h a0 27 (.int (ii 0))) a0 30) x1) Q) else (Go d 239 79 [some (.ref a0), some (.int x1), some (.int x2)] [.int (ii 1), .int (fI (sI (sF h a0 27 (.int (ii 0))) (fR (sF h a0 27 (.int (ii 0))) a0 41) (fI (sF h a0 27 (.int (ii 0))) a0 30) x1) a0 31), .ref a0] (sI (sF h a0 27 (.int (ii 0))) (fR (sF h a0 27 (.int (ii 0))) a0 41) (fI (sF h a0 27 (.int (ii 0))) a0 30) x1) Q))) else (oC h a0 = 12 ∧ GoCv d 238 [.ref a0, .int x1] h (fun h1 => oC h1 a0 = 12 ∧ GoCi d 223 [.ref a0] h1 (fun v2 h2 => Go d 239 27 [some (.ref a0), some (.int (x1 + ii 1)), some (.int v2)] [] h2 Q)))) := by
  refine (G_iload rfl (mF fc239 (by rfl))).trans ?_
  refine (G_eq (mF fc239 (by rfl))).trans (gi ?_ ?_)
  ·
    refine (G_aload rfl (mF fc239 (by rfl))).trans ?_
    refine (G_iconst (mF fc239 (by rfl))).trans ?_
    refine (G_putT (c := 12) (k := 27) rfl rfl rfl (mF fc239 (by rfl))).trans (andR ?_)
    refine (G_aload rfl (mF fc239 (by rfl))).trans ?_
    refine (G_getR (c := 12) (k := 41) rfl rfl rfl (mF fc239 (by rfl))).trans (andR ?_)
    refine (G_aload rfl (mF fc239 (by rfl))).trans ?_
    refine (G_getI (c := 12) (k := 30) rfl rfl rfl (mF fc239 (by rfl))).trans (andR ?_)
    refine (G_iload rfl (mF fc239 (by rfl))).trans ?_
    refine (G_iastore (mF fc239 (by rfl))).trans (andR ?_)
    refine (G_aload rfl (mF fc239 (by rfl))).trans ?_
    refine (G_dupr (mF fc239 (by rfl))).trans ?_
    refine (G_getI (c := 12) (k := 31) rfl rfl rfl (mF fc239 (by rfl))).trans (andR ?_)
    refine (G_aload rfl (mF fc239 (by rfl))).trans ?_
    refine (G_getI (c := 12) (k := 29) rfl rfl rfl (mF fc239 (by rfl))).trans (andR ?_)
    refine (G_ne (mF fc239 (by rfl))).trans (gi ?_ ?_)
    ·
      refine (G_iconst (mF fc239 (by rfl))).trans ?_
      exact Iff.rfl
    ·
      refine (G_iconst (mF fc239 (by rfl))).trans ?_
      refine (G_goto (mF fc239 (by rfl))).trans ?_
      exact Iff.rfl
  ·
    refine (G_aload rfl (mF fc239 (by rfl))).trans ?_
    refine (G_iload rfl (mF fc239 (by rfl))).trans ?_
    refine (G_Vv (q := 122050) (y := 238) (a := a0) (c := 12) rfl rfl rfl rfl (by decide) rfl (as := [.ref a0, .int x1]) (rest := []) rfl rfl (mF fc239 (by rfl))).trans (andR (GoCv_congr fun h1 => ?_))
    refine (G_iinc (k := 1) (L' := [some (.ref a0), some (.int (x1 + ii 1)), some (.int x2)]) rfl rfl rfl (mF fc239 (by rfl))).trans ?_
    refine (G_aload rfl (mF fc239 (by rfl))).trans ?_
    refine (G_Vi (q := 114369) (y := 223) (a := a0) (c := 12) rfl rfl rfl rfl (by decide) rfl (as := [.ref a0]) (rest := []) rfl rfl (mF fc239 (by rfl))).trans (andR (GoCi_congr fun v2 h2 => ?_))
    refine (G_istore (k := 2) (L' := [some (.ref a0), some (.int (x1 + ii 1)), some (.int v2)]) rfl (ltb rfl) rfl (mF fc239 (by rfl))).trans ?_
    refine (G_goto (mF fc239 (by rfl))).trans ?_
    exact Iff.rfl
theorem b239_79 {d : Nat} {h : mHeap} {Q : Option Value → mHeap → Prop} {a0 : Nat} {l1 : Option Value} {l2 : Option Value} {r0 : Nat} {s1 : Int32} {s2 : Int32} : Go d 239 79 [some (.ref a0), l1, l2] [.int s2, .int s1, .ref r0] h Q ↔ okP h r0 12 31 ∧ okF (sF h r0 31 (.int (s1 + s2))) a0 12 29 0 ∧ (if (fI (sF h r0 31 (.int (s1 + s2))) a0 29) ≤ ii 0 then (okF (sF h r0 31 (.int (s1 + s2))) a0 12 31 0 ∧ Q (some (.int ((fI (sF h r0 31 (.int (s1 + s2))) a0 31) - (ii 1)))) (sF h r0 31 (.int (s1 + s2)))) else (okF (sF h r0 31 (.int (s1 + s2))) a0 12 29 0 ∧ Q (some (.int ((ii (-2)) - (fI (sF h r0 31 (.int (s1 + s2))) a0 29)))) (sF h r0 31 (.int (s1 + s2))))) := by
  refine (G_iadd (mF fc239 (by rfl))).trans ?_
  refine (G_putT (c := 12) (k := 31) rfl rfl rfl (mF fc239 (by rfl))).trans (andR ?_)
  refine (G_aload rfl (mF fc239 (by rfl))).trans ?_
  refine (G_getI (c := 12) (k := 29) rfl rfl rfl (mF fc239 (by rfl))).trans (andR ?_)
  refine (G_le (mF fc239 (by rfl))).trans (gi ?_ ?_)
  ·
    refine (G_aload rfl (mF fc239 (by rfl))).trans ?_
    refine (G_getI (c := 12) (k := 31) rfl rfl rfl (mF fc239 (by rfl))).trans (andR ?_)
    refine (G_iconst (mF fc239 (by rfl))).trans ?_
    refine (G_isub (mF fc239 (by rfl))).trans ?_
    exact G_ireturnI rfl (mF fc239 (by rfl))
  ·
    refine (G_iconst (mF fc239 (by rfl))).trans ?_
    refine (G_aload rfl (mF fc239 (by rfl))).trans ?_
    refine (G_getI (c := 12) (k := 29) rfl rfl rfl (mF fc239 (by rfl))).trans (andR ?_)
    refine (G_isub (mF fc239 (by rfl))).trans ?_
    refine (G_goto (mF fc239 (by rfl))).trans ?_
    exact G_ireturnI rfl (mF fc239 (by rfl))
theorem e239 {d : Nat} {h : mHeap} {K : Int32 → mHeap → Prop} {a0 : Nat} : GoCi (d + 1) 239 [.ref a0] h K ↔ Go d 239 0 [some (.ref a0), none, none] [] h (rI K) := GoCi_entry rfl rfl
set_option maxRecDepth 20000 in
theorem fc240 : mCodes[240]? = some mc240 := rfl
theorem b240_0 {d : Nat} {h : mHeap} {Q : Option Value → mHeap → Prop} {a0 : Nat} {x1 : Int32} : Go d 240 0 [some (.ref a0), some (.int x1), none] [] h Q ↔ Go d 240 5 [some (.ref a0), some (.int x1), some (.int ((ii 12) * x1))] [] h Q := by
  refine (G_iconst (mF fc240 (by rfl))).trans ?_
  refine (G_iload rfl (mF fc240 (by rfl))).trans ?_
  refine (G_imul (mF fc240 (by rfl))).trans ?_
  refine (G_istore (k := 2) (L' := [some (.ref a0), some (.int x1), some (.int ((ii 12) * x1))]) rfl (ltb rfl) rfl (mF fc240 (by rfl))).trans ?_
  exact Iff.rfl
theorem b240_5 {d : Nat} {h : mHeap} {Q : Option Value → mHeap → Prop} {a0 : Nat} {x1 : Int32} {x2 : Int32} : Go d 240 5 [some (.ref a0), some (.int x1), some (.int x2)] [] h Q ↔ okF h a0 12 41 2 ∧ okA h (fR h a0 41) .int x1 ∧ (if (((ii 12) * x1) + (eI h (fR h a0 41) x1)) ≤ x2 then (Q (some (.long (jj 0))) h) else (okF h a0 12 43 2 ∧ okA h (fR h a0 43) .int x2 ∧ okF h a0 12 44 2 ∧ okA h (fR h a0 44) .int x2 ∧ (if (eI h (fR h a0 43) x2) = (eI h (fR h a0 44) x2) then (Go d 240 57 [some (.ref a0), some (.int x1), some (.int x2)] [] h Q) else (okF h a0 12 43 2 ∧ okA h (fR h a0 43) .int x2 ∧ okF h a0 12 44 2 ∧ okA h (fR h a0 44) .int x2 ∧ oC h a0 = 12 ∧ GoCj d 244 [.ref a0, .int x1, .int (eI h (fR h a0 43) x2), .int (eI h (fR h a0 44) x2)] h (fun v1 h1 => (if ¬ (lg_cmp v1 (jj 1)) = ii 0 then (Go d 240 5 [some (.ref a0), some (.int x1), some (.int (x2 + ii 1))] [] h1 Q) else (Go d 240 57 [some (.ref a0), some (.int x1), some (.int x2)] [] h1 Q))))))) := by
  refine (G_iload rfl (mF fc240 (by rfl))).trans ?_
  refine (G_iconst (mF fc240 (by rfl))).trans ?_
  refine (G_iload rfl (mF fc240 (by rfl))).trans ?_
  refine (G_imul (mF fc240 (by rfl))).trans ?_
  refine (G_aload rfl (mF fc240 (by rfl))).trans ?_
  refine (G_getR (c := 12) (k := 41) rfl rfl rfl (mF fc240 (by rfl))).trans (andR ?_)
  refine (G_iload rfl (mF fc240 (by rfl))).trans ?_
  refine (G_iaload (mF fc240 (by rfl))).trans (andR ?_)
  refine (G_iadd (mF fc240 (by rfl))).trans ?_
  refine (G_ige (mF fc240 (by rfl))).trans (gi ?_ ?_)
  ·
    refine (G_jsr_w (mF fc240 (by rfl))).trans ?_
    exact G_lreturn rfl (mF fc240 (by rfl))
  ·
    refine (G_aload rfl (mF fc240 (by rfl))).trans ?_
    refine (G_getR (c := 12) (k := 43) rfl rfl rfl (mF fc240 (by rfl))).trans (andR ?_)
    refine (G_iload rfl (mF fc240 (by rfl))).trans ?_
    refine (G_iaload (mF fc240 (by rfl))).trans (andR ?_)
    refine (G_aload rfl (mF fc240 (by rfl))).trans ?_
    refine (G_getR (c := 12) (k := 44) rfl rfl rfl (mF fc240 (by rfl))).trans (andR ?_)
    refine (G_iload rfl (mF fc240 (by rfl))).trans ?_
    refine (G_iaload (mF fc240 (by rfl))).trans (andR ?_)
    refine (G_ieq (mF fc240 (by rfl))).trans (gi ?_ ?_)
    ·
      exact Iff.rfl
    ·
      refine (G_aload rfl (mF fc240 (by rfl))).trans ?_
      refine (G_iload rfl (mF fc240 (by rfl))).trans ?_
      refine (G_aload rfl (mF fc240 (by rfl))).trans ?_
      refine (G_getR (c := 12) (k := 43) rfl rfl rfl (mF fc240 (by rfl))).trans (andR ?_)
      refine (G_iload rfl (mF fc240 (by rfl))).trans ?_
      refine (G_iaload (mF fc240 (by rfl))).trans (andR ?_)
      refine (G_aload rfl (mF fc240 (by rfl))).trans ?_
      refine (G_getR (c := 12) (k := 44) rfl rfl rfl (mF fc240 (by rfl))).trans (andR ?_)
      refine (G_iload rfl (mF fc240 (by rfl))).trans ?_
      refine (G_iaload (mF fc240 (by rfl))).trans (andR ?_)
      refine (G_Vj (q := 125124) (y := 244) (a := a0) (c := 12) rfl rfl rfl rfl (by decide) rfl (as := [.ref a0, .int x1, .int (eI h (fR h a0 43) x2), .int (eI h (fR h a0 44) x2)]) (rest := []) rfl rfl (mF fc240 (by rfl))).trans (andR (GoCj_congr fun v1 h1 => ?_))
      refine (G_jsr_w (mF fc240 (by rfl))).trans ?_
      refine (G_lcmp (mF fc240 (by rfl))).trans ?_
      refine (G_ne (mF fc240 (by rfl))).trans (gi ?_ ?_)
      ·
        refine (G_iinc (k := 2) (L' := [some (.ref a0), some (.int x1), some (.int (x2 + ii 1))]) rfl rfl rfl (mF fc240 (by rfl))).trans ?_
        refine (G_goto (mF fc240 (by rfl))).trans ?_
        exact Iff.rfl
      ·
        exact Iff.rfl
theorem b240_57 {d : Nat} {h : mHeap} {Q : Option Value → mHeap → Prop} {a0 : Nat} {x1 : Int32} {x2 : Int32} : Go d 240 57 [some (.ref a0), some (.int x1), some (.int x2)] [] h Q ↔ okF h a0 12 42 2 ∧ okA h (fR h a0 42) .int x2 ∧ okF h a0 12 43 2 ∧ okA h (fR h a0 43) .int x2 ∧ oC h a0 = 12 ∧ GoCj d 244 [.ref a0, .int x1, .int (eI h (fR h a0 42) x2), .int (eI h (fR h a0 43) x2)] h (fun v1 h1 => Q (some (.long v1)) h1) := by
  refine (G_aload rfl (mF fc240 (by rfl))).trans ?_
  refine (G_iload rfl (mF fc240 (by rfl))).trans ?_
  refine (G_aload rfl (mF fc240 (by rfl))).trans ?_
  refine (G_getR (c := 12) (k := 42) rfl rfl rfl (mF fc240 (by rfl))).trans (andR ?_)
  refine (G_iload rfl (mF fc240 (by rfl))).trans ?_
  refine (G_iaload (mF fc240 (by rfl))).trans (andR ?_)
  refine (G_aload rfl (mF fc240 (by rfl))).trans ?_
  refine (G_getR (c := 12) (k := 43) rfl rfl rfl (mF fc240 (by rfl))).trans (andR ?_)
  refine (G_iload rfl (mF fc240 (by rfl))).trans ?_
  refine (G_iaload (mF fc240 (by rfl))).trans (andR ?_)
  refine (G_Vj (q := 125124) (y := 244) (a := a0) (c := 12) rfl rfl rfl rfl (by decide) rfl (as := [.ref a0, .int x1, .int (eI h (fR h a0 42) x2), .int (eI h (fR h a0 43) x2)]) (rest := []) rfl rfl (mF fc240 (by rfl))).trans (andR (GoCj_congr fun v1 h1 => ?_))
  exact G_lreturn rfl (mF fc240 (by rfl))
theorem e240 {d : Nat} {h : mHeap} {K : Int64 → mHeap → Prop} {a0 : Nat} {x1 : Int32} : GoCj (d + 1) 240 [.ref a0, .int x1] h K ↔ Go d 240 0 [some (.ref a0), some (.int x1), none] [] h (rJ K) := GoCj_entry rfl rfl
set_option maxRecDepth 20000 in
theorem fc241 : mCodes[241]? = some mc241 := rfl
theorem b241_0 {d : Nat} {h : mHeap} {Q : Option Value → mHeap → Prop} {a0 : Nat} {x1 : Int32} : Go d 241 0 [some (.ref a0), some (.int x1)] [] h Q ↔ okF h a0 12 31 0 ∧ GoCi d 183 [.long x1.toInt64, .long (jj 0), .long (((fI h a0 31) - (ii 1)).toInt64)] h (fun v1 h1 => (v1 = ii 0 ∨ v1 = ii 1) ∧ Q (some (.int v1)) h1) := by
  refine (G_iload rfl (mF fc241 (by rfl))).trans ?_
  refine (G_i2l (mF fc241 (by rfl))).trans ?_
  refine (G_jsr_w (mF fc241 (by rfl))).trans ?_
  refine (G_aload rfl (mF fc241 (by rfl))).trans ?_
  refine (G_getI (c := 12) (k := 31) rfl rfl rfl (mF fc241 (by rfl))).trans (andR ?_)
  refine (G_iconst (mF fc241 (by rfl))).trans ?_
  refine (G_isub (mF fc241 (by rfl))).trans ?_
  refine (G_i2l (mF fc241 (by rfl))).trans ?_
  refine (G_Ti (q := 93891) (y := 183) rfl rfl rfl (as := [.long x1.toInt64, .long (jj 0), .long (((fI h a0 31) - (ii 1)).toInt64)]) (rest := []) rfl rfl (mF fc241 (by rfl))).trans (GoCi_congr fun v1 h1 => ?_)
  exact G_ireturnZ rfl (mF fc241 (by rfl))
theorem e241 {d : Nat} {h : mHeap} {K : Int32 → mHeap → Prop} {a0 : Nat} {x1 : Int32} : GoCi (d + 1) 241 [.ref a0, .int x1] h K ↔ Go d 241 0 [some (.ref a0), some (.int x1)] [] h (rI K) := GoCi_entry rfl rfl
set_option maxRecDepth 20000 in
theorem fc242 : mCodes[242]? = some mc242 := rfl
theorem b242_0 {d : Nat} {h : mHeap} {Q : Option Value → mHeap → Prop} {x0 : Int32} : Go d 242 0 [some (.int x0)] [] h Q ↔ (if x0 = ii 0 then (Q (some (.long (jj 0))) h) else (Q (some (.long (jj 1))) h)) := by
  refine (G_iload rfl (mF fc242 (by rfl))).trans ?_
  refine (G_eq (mF fc242 (by rfl))).trans (gi ?_ ?_)
  ·
    refine (G_jsr_w (mF fc242 (by rfl))).trans ?_
    exact G_lreturn rfl (mF fc242 (by rfl))
  ·
    refine (G_jsr_w (mF fc242 (by rfl))).trans ?_
    refine (G_goto (mF fc242 (by rfl))).trans ?_
    exact G_lreturn rfl (mF fc242 (by rfl))
theorem e242 {d : Nat} {h : mHeap} {K : Int64 → mHeap → Prop} {x0 : Int32} : GoCj (d + 1) 242 [.int x0] h K ↔ Go d 242 0 [some (.int x0)] [] h (rJ K) := GoCj_entry rfl rfl
set_option maxRecDepth 20000 in
theorem fc243 : mCodes[243]? = some mc243 := rfl
theorem b243_0 {d : Nat} {h : mHeap} {Q : Option Value → mHeap → Prop} {x0 : Int32} {y1 : Int64} {y3 : Int64} : Go d 243 0 [some (.int x0), some (.long y1), none, some (.long y3), none] [] h Q ↔ (if x0 = ii 2 then (Q (some (.long (y1 + y3))) h) else (if x0 = ii 3 then (Q (some (.long (y1 - y3))) h) else (if x0 = ii 4 then ((if ii 0 ≤ (lg_cmp y1 y3) then (Go d 243 123 [some (.int x0), some (.long y1), none, some (.long y3), none] [.int (ii 0)] h Q) else (Go d 243 123 [some (.int x0), some (.long y1), none, some (.long y3), none] [.int (ii 1)] h Q))) else (if x0 = ii 5 then ((if ii 0 < (lg_cmp y1 y3) then (Go d 243 138 [some (.int x0), some (.long y1), none, some (.long y3), none] [.int (ii 0)] h Q) else (Go d 243 138 [some (.int x0), some (.long y1), none, some (.long y3), none] [.int (ii 1)] h Q))) else (if x0 = ii 6 then ((if ¬ (lg_cmp y1 y3) = ii 0 then (Go d 243 153 [some (.int x0), some (.long y1), none, some (.long y3), none] [.int (ii 0)] h Q) else (Go d 243 153 [some (.int x0), some (.long y1), none, some (.long y3), none] [.int (ii 1)] h Q))) else (if x0 = ii 7 then ((if (lg_cmp y1 y3) < ii 0 then (Go d 243 168 [some (.int x0), some (.long y1), none, some (.long y3), none] [.int (ii 0)] h Q) else (Go d 243 168 [some (.int x0), some (.long y1), none, some (.long y3), none] [.int (ii 1)] h Q))) else (if x0 = ii 8 then ((if (lg_cmp y1 y3) ≤ ii 0 then (Go d 243 183 [some (.int x0), some (.long y1), none, some (.long y3), none] [.int (ii 0)] h Q) else (Go d 243 183 [some (.int x0), some (.long y1), none, some (.long y3), none] [.int (ii 1)] h Q))) else (if x0 = ii 9 then (Q (some (.long (y1 ||| y3))) h) else (if x0 = ii 10 then (Q (some (.long (y1 &&& y3))) h) else (if x0 = ii 11 then (Q (some (.long (y1 ||| y3))) h) else (if x0 = ii 12 then (Q (some (.long (y1 ||| y3))) h) else (if x0 = ii 13 then (Q (some (.long (y1 * y3))) h) else (if x0 = ii 14 then ((if ¬ (lg_cmp y3 (jj 0)) = ii 0 then ((¬ y3 = jj 0) ∧ Q (some (.long (y1 / y3))) h) else (Q (some (.long (jj 0))) h))) else (if x0 = ii 15 then ((if ¬ (lg_cmp y3 (jj 0)) = ii 0 then ((¬ y3 = jj 0) ∧ Q (some (.long (lrm y1 y3))) h) else (Q (some (.long (jj 0))) h))) else (Q (some (.long (y1 ||| y3))) h))))))))))))))) := by
  refine (G_iload rfl (mF fc243 (by rfl))).trans ?_
  refine (G_tableswitch (lo := 2) (hi := 15) [72, 76, 112, 127, 142, 157, 172, 191, 187, 191, 191, 80, 84, 98] rfl (by decide) (by decide) (by decide) (mF fc243 (by rfl))).trans ?_
  refine gi ?_ ?_
  ·
    refine (G_lload rfl (mF fc243 (by rfl))).trans ?_
    refine (G_lload rfl (mF fc243 (by rfl))).trans ?_
    refine (G_ladd (mF fc243 (by rfl))).trans ?_
    exact G_lreturn rfl (mF fc243 (by rfl))
  ·
    refine gi ?_ ?_
    ·
      refine (G_lload rfl (mF fc243 (by rfl))).trans ?_
      refine (G_lload rfl (mF fc243 (by rfl))).trans ?_
      refine (G_lsub (mF fc243 (by rfl))).trans ?_
      exact G_lreturn rfl (mF fc243 (by rfl))
    ·
      refine gi ?_ ?_
      ·
        refine (G_lload rfl (mF fc243 (by rfl))).trans ?_
        refine (G_lload rfl (mF fc243 (by rfl))).trans ?_
        refine (G_lcmp (mF fc243 (by rfl))).trans ?_
        refine (G_ge (mF fc243 (by rfl))).trans (gi ?_ ?_)
        ·
          refine (G_iconst (mF fc243 (by rfl))).trans ?_
          exact Iff.rfl
        ·
          refine (G_iconst (mF fc243 (by rfl))).trans ?_
          refine (G_goto (mF fc243 (by rfl))).trans ?_
          exact Iff.rfl
      ·
        refine gi ?_ ?_
        ·
          refine (G_lload rfl (mF fc243 (by rfl))).trans ?_
          refine (G_lload rfl (mF fc243 (by rfl))).trans ?_
          refine (G_lcmp (mF fc243 (by rfl))).trans ?_
          refine (G_gt (mF fc243 (by rfl))).trans (gi ?_ ?_)
          ·
            refine (G_iconst (mF fc243 (by rfl))).trans ?_
            exact Iff.rfl
          ·
            refine (G_iconst (mF fc243 (by rfl))).trans ?_
            refine (G_goto (mF fc243 (by rfl))).trans ?_
            exact Iff.rfl
        ·
          refine gi ?_ ?_
          ·
            refine (G_lload rfl (mF fc243 (by rfl))).trans ?_
            refine (G_lload rfl (mF fc243 (by rfl))).trans ?_
            refine (G_lcmp (mF fc243 (by rfl))).trans ?_
            refine (G_ne (mF fc243 (by rfl))).trans (gi ?_ ?_)
            ·
              refine (G_iconst (mF fc243 (by rfl))).trans ?_
              exact Iff.rfl
            ·
              refine (G_iconst (mF fc243 (by rfl))).trans ?_
              refine (G_goto (mF fc243 (by rfl))).trans ?_
              exact Iff.rfl
          ·
            refine gi ?_ ?_
            ·
              refine (G_lload rfl (mF fc243 (by rfl))).trans ?_
              refine (G_lload rfl (mF fc243 (by rfl))).trans ?_
              refine (G_lcmp (mF fc243 (by rfl))).trans ?_
              refine (G_lt (mF fc243 (by rfl))).trans (gi ?_ ?_)
              ·
                refine (G_iconst (mF fc243 (by rfl))).trans ?_
                exact Iff.rfl
              ·
                refine (G_iconst (mF fc243 (by rfl))).trans ?_
                refine (G_goto (mF fc243 (by rfl))).trans ?_
                exact Iff.rfl
            ·
              refine gi ?_ ?_
              ·
                refine (G_lload rfl (mF fc243 (by rfl))).trans ?_
                refine (G_lload rfl (mF fc243 (by rfl))).trans ?_
                refine (G_lcmp (mF fc243 (by rfl))).trans ?_
                refine (G_le (mF fc243 (by rfl))).trans (gi ?_ ?_)
                ·
                  refine (G_iconst (mF fc243 (by rfl))).trans ?_
                  exact Iff.rfl
                ·
                  refine (G_iconst (mF fc243 (by rfl))).trans ?_
                  refine (G_goto (mF fc243 (by rfl))).trans ?_
                  exact Iff.rfl
              ·
                refine gi ?_ ?_
                ·
                  refine (G_lload rfl (mF fc243 (by rfl))).trans ?_
                  refine (G_lload rfl (mF fc243 (by rfl))).trans ?_
                  refine (G_lor (mF fc243 (by rfl))).trans ?_
                  exact G_lreturn rfl (mF fc243 (by rfl))
                ·
                  refine gi ?_ ?_
                  ·
                    refine (G_lload rfl (mF fc243 (by rfl))).trans ?_
                    refine (G_lload rfl (mF fc243 (by rfl))).trans ?_
                    refine (G_land (mF fc243 (by rfl))).trans ?_
                    exact G_lreturn rfl (mF fc243 (by rfl))
                  ·
                    refine gi ?_ ?_
                    ·
                      refine (G_lload rfl (mF fc243 (by rfl))).trans ?_
                      refine (G_lload rfl (mF fc243 (by rfl))).trans ?_
                      refine (G_lor (mF fc243 (by rfl))).trans ?_
                      exact G_lreturn rfl (mF fc243 (by rfl))
                    ·
                      refine gi ?_ ?_
                      ·
                        refine (G_lload rfl (mF fc243 (by rfl))).trans ?_
                        refine (G_lload rfl (mF fc243 (by rfl))).trans ?_
                        refine (G_lor (mF fc243 (by rfl))).trans ?_
                        exact G_lreturn rfl (mF fc243 (by rfl))
                      ·
                        refine gi ?_ ?_
                        ·
                          refine (G_lload rfl (mF fc243 (by rfl))).trans ?_
                          refine (G_lload rfl (mF fc243 (by rfl))).trans ?_
                          refine (G_lmul (mF fc243 (by rfl))).trans ?_
                          exact G_lreturn rfl (mF fc243 (by rfl))
                        ·
                          refine gi ?_ ?_
                          ·
                            refine (G_lload rfl (mF fc243 (by rfl))).trans ?_
                            refine (G_jsr_w (mF fc243 (by rfl))).trans ?_
                            refine (G_lcmp (mF fc243 (by rfl))).trans ?_
                            refine (G_ne (mF fc243 (by rfl))).trans (gi ?_ ?_)
                            ·
                              refine (G_lload rfl (mF fc243 (by rfl))).trans ?_
                              refine (G_lload rfl (mF fc243 (by rfl))).trans ?_
                              refine (G_ldiv (mF fc243 (by rfl))).trans (andR ?_)
                              exact G_lreturn rfl (mF fc243 (by rfl))
                            ·
                              refine (G_jsr_w (mF fc243 (by rfl))).trans ?_
                              refine (G_goto (mF fc243 (by rfl))).trans ?_
                              exact G_lreturn rfl (mF fc243 (by rfl))
                          ·
                            refine gi ?_ ?_
                            ·
                              refine (G_lload rfl (mF fc243 (by rfl))).trans ?_
                              refine (G_jsr_w (mF fc243 (by rfl))).trans ?_
                              refine (G_lcmp (mF fc243 (by rfl))).trans ?_
                              refine (G_ne (mF fc243 (by rfl))).trans (gi ?_ ?_)
                              ·
                                refine (G_lload rfl (mF fc243 (by rfl))).trans ?_
                                refine (G_lload rfl (mF fc243 (by rfl))).trans ?_
                                refine (G_lrem (mF fc243 (by rfl))).trans (andR ?_)
                                exact G_lreturn rfl (mF fc243 (by rfl))
                              ·
                                refine (G_jsr_w (mF fc243 (by rfl))).trans ?_
                                refine (G_goto (mF fc243 (by rfl))).trans ?_
                                exact G_lreturn rfl (mF fc243 (by rfl))
                            ·
                              refine (G_lload rfl (mF fc243 (by rfl))).trans ?_
                              refine (G_lload rfl (mF fc243 (by rfl))).trans ?_
                              refine (G_lor (mF fc243 (by rfl))).trans ?_
                              exact G_lreturn rfl (mF fc243 (by rfl))
theorem b243_123 {d : Nat} {h : mHeap} {Q : Option Value → mHeap → Prop} {l0 : Option Value} {l1 : Option Value} {l2 : Option Value} {l3 : Option Value} {l4 : Option Value} {s0 : Int32} : Go d 243 123 [l0, l1, l2, l3, l4] [.int s0] h Q ↔ GoCj d 242 [.int s0] h (fun v1 h1 => Q (some (.long v1)) h1) := by
  refine (G_Tj (q := 124097) (y := 242) rfl rfl rfl (as := [.int s0]) (rest := []) rfl rfl (mF fc243 (by rfl))).trans (GoCj_congr fun v1 h1 => ?_)
  exact G_lreturn rfl (mF fc243 (by rfl))
theorem b243_138 {d : Nat} {h : mHeap} {Q : Option Value → mHeap → Prop} {l0 : Option Value} {l1 : Option Value} {l2 : Option Value} {l3 : Option Value} {l4 : Option Value} {s0 : Int32} : Go d 243 138 [l0, l1, l2, l3, l4] [.int s0] h Q ↔ GoCj d 242 [.int s0] h (fun v1 h1 => Q (some (.long v1)) h1) := by
  refine (G_Tj (q := 124097) (y := 242) rfl rfl rfl (as := [.int s0]) (rest := []) rfl rfl (mF fc243 (by rfl))).trans (GoCj_congr fun v1 h1 => ?_)
  exact G_lreturn rfl (mF fc243 (by rfl))
theorem b243_153 {d : Nat} {h : mHeap} {Q : Option Value → mHeap → Prop} {l0 : Option Value} {l1 : Option Value} {l2 : Option Value} {l3 : Option Value} {l4 : Option Value} {s0 : Int32} : Go d 243 153 [l0, l1, l2, l3, l4] [.int s0] h Q ↔ GoCj d 242 [.int s0] h (fun v1 h1 => Q (some (.long v1)) h1) := by
  refine (G_Tj (q := 124097) (y := 242) rfl rfl rfl (as := [.int s0]) (rest := []) rfl rfl (mF fc243 (by rfl))).trans (GoCj_congr fun v1 h1 => ?_)
  exact G_lreturn rfl (mF fc243 (by rfl))
theorem b243_168 {d : Nat} {h : mHeap} {Q : Option Value → mHeap → Prop} {l0 : Option Value} {l1 : Option Value} {l2 : Option Value} {l3 : Option Value} {l4 : Option Value} {s0 : Int32} : Go d 243 168 [l0, l1, l2, l3, l4] [.int s0] h Q ↔ GoCj d 242 [.int s0] h (fun v1 h1 => Q (some (.long v1)) h1) := by
  refine (G_Tj (q := 124097) (y := 242) rfl rfl rfl (as := [.int s0]) (rest := []) rfl rfl (mF fc243 (by rfl))).trans (GoCj_congr fun v1 h1 => ?_)
  exact G_lreturn rfl (mF fc243 (by rfl))
theorem b243_183 {d : Nat} {h : mHeap} {Q : Option Value → mHeap → Prop} {l0 : Option Value} {l1 : Option Value} {l2 : Option Value} {l3 : Option Value} {l4 : Option Value} {s0 : Int32} : Go d 243 183 [l0, l1, l2, l3, l4] [.int s0] h Q ↔ GoCj d 242 [.int s0] h (fun v1 h1 => Q (some (.long v1)) h1) := by
  refine (G_Tj (q := 124097) (y := 242) rfl rfl rfl (as := [.int s0]) (rest := []) rfl rfl (mF fc243 (by rfl))).trans (GoCj_congr fun v1 h1 => ?_)
  exact G_lreturn rfl (mF fc243 (by rfl))
theorem e243 {d : Nat} {h : mHeap} {K : Int64 → mHeap → Prop} {x0 : Int32} {y1 : Int64} {y3 : Int64} : GoCj (d + 1) 243 [.int x0, .long y1, .long y3] h K ↔ Go d 243 0 [some (.int x0), some (.long y1), none, some (.long y3), none] [] h (rJ K) := GoCj_entry rfl rfl
set_option maxRecDepth 20000 in
theorem fc244 : mCodes[244]? = some mc244 := rfl
theorem b244_0 {d : Nat} {h : mHeap} {Q : Option Value → mHeap → Prop} {a0 : Nat} {x1 : Int32} {x2 : Int32} {x3 : Int32} : Go d 244 0 [some (.ref a0), some (.int x1), some (.int x2), some (.int x3), none, none, none, none] [] h Q ↔ Go d 244 6 [some (.ref a0), some (.int x1), some (.int x2), some (.int x3), some (.int (ii 0)), some (.int x2), none, none] [] h Q := by
  refine (G_iconst (mF fc244 (by rfl))).trans ?_
  refine (G_istore (k := 4) (L' := [some (.ref a0), some (.int x1), some (.int x2), some (.int x3), some (.int (ii 0)), none, none, none]) rfl (ltb rfl) rfl (mF fc244 (by rfl))).trans ?_
  refine (G_iload rfl (mF fc244 (by rfl))).trans ?_
  refine (G_istore (k := 5) (L' := [some (.ref a0), some (.int x1), some (.int x2), some (.int x3), some (.int (ii 0)), some (.int x2), none, none]) rfl (ltb rfl) rfl (mF fc244 (by rfl))).trans ?_
  exact Iff.rfl
theorem b244_6 {d : Nat} {h : mHeap} {Q : Option Value → mHeap → Prop} {a0 : Nat} {x1 : Int32} {l2 : Option Value} {x3 : Int32} {x4 : Int32} {x5 : Int32} {l6 : Option Value} {l7 : Option Value} : Go d 244 6 [some (.ref a0), some (.int x1), l2, some (.int x3), some (.int x4), some (.int x5), l6, l7] [] h Q ↔ (if x3 ≤ x5 then (okF h a0 12 55 2 ∧ okJ h (fR h a0 55) (ii 0) ∧ Q (some (.long (eJ h (fR h a0 55) (ii 0)))) h) else (okF h a0 12 39 2 ∧ okA h (fR h a0 39) .int (((ii 300) * x1) + x5) ∧ okF h a0 12 40 2 ∧ okA h (fR h a0 40) .int (((ii 300) * x1) + x5) ∧ (if (eI h (fR h a0 39) (((ii 300) * x1) + x5)) = ii 0 then (Go d 244 53 [some (.ref a0), some (.int x1), l2, some (.int x3), some (.int x4), some (.int x5), some (.int (eI h (fR h a0 39) (((ii 300) * x1) + x5))), some (.int (eI h (fR h a0 40) (((ii 300) * x1) + x5)))] [] h Q) else ((if ¬ (eI h (fR h a0 39) (((ii 300) * x1) + x5)) = (ii 1) then ((if ¬ (eI h (fR h a0 39) (((ii 300) * x1) + x5)) = (ii 9) then (okF h a0 12 55 2 ∧ okF h a0 12 55 2 ∧ okJ h (fR h a0 55) ((x4 + ii (-1)) - (ii 1)) ∧ okF h a0 12 55 2 ∧ okJ h (fR h a0 55) (x4 + ii (-1)) ∧ GoCj d 243 [.int (eI h (fR h a0 39) (((ii 300) * x1) + x5)), .long (eJ h (fR h a0 55) ((x4 + ii (-1)) - (ii 1))), .long (eJ h (fR h a0 55) (x4 + ii (-1)))] h (fun v1 h1 => (64 ≤ (fR h a0 55) ∧ okJ h1 (fR h a0 55) ((x4 + ii (-1)) - (ii 1))) ∧ Go d 244 147 [some (.ref a0), some (.int x1), l2, some (.int x3), some (.int (x4 + ii (-1))), some (.int x5), some (.int (eI h (fR h a0 39) (((ii 300) * x1) + x5))), some (.int (eI h (fR h a0 40) (((ii 300) * x1) + x5)))] [] (sJ h1 (fR h a0 55) ((x4 + ii (-1)) - (ii 1)) v1) Q)) else (okF h a0 12 55 2 ∧ okF h a0 12 55 2 ∧ okJ h (fR h a0 55) (x4 - (ii 1)) ∧ (64 ≤ (fR h a0 55) ∧ okJ h (fR h a0 55) (x4 - (ii 1))) ∧ Go d 244 147 [some (.ref a0), some (.int x1), l2, some (.int x3), some (.int x4), some (.int x5), some (.int (eI h (fR h a0 39) (((ii 300) * x1) + x5))), some (.int (eI h (fR h a0 40) (((ii 300) * x1) + x5)))] [] (sJ h (fR h a0 55) (x4 - (ii 1)) ((jj 1) - (eJ h (fR h a0 55) (x4 - (ii 1))))) Q))) else (Go d 244 53 [some (.ref a0), some (.int x1), l2, some (.int x3), some (.int x4), some (.int x5), some (.int (eI h (fR h a0 39) (((ii 300) * x1) + x5))), some (.int (eI h (fR h a0 40) (((ii 300) * x1) + x5)))] [] h Q)))))) := by
  refine (G_iload rfl (mF fc244 (by rfl))).trans ?_
  refine (G_iload rfl (mF fc244 (by rfl))).trans ?_
  refine (G_ige (mF fc244 (by rfl))).trans (gi ?_ ?_)
  ·
    refine (G_aload rfl (mF fc244 (by rfl))).trans ?_
    refine (G_getR (c := 12) (k := 55) rfl rfl rfl (mF fc244 (by rfl))).trans (andR ?_)
    refine (G_iconst (mF fc244 (by rfl))).trans ?_
    refine (G_laload (mF fc244 (by rfl))).trans (andR ?_)
    exact G_lreturn rfl (mF fc244 (by rfl))
  ·
    refine (G_aload rfl (mF fc244 (by rfl))).trans ?_
    refine (G_getR (c := 12) (k := 39) rfl rfl rfl (mF fc244 (by rfl))).trans (andR ?_)
    refine (G_iconst (mF fc244 (by rfl))).trans ?_
    refine (G_iload rfl (mF fc244 (by rfl))).trans ?_
    refine (G_imul (mF fc244 (by rfl))).trans ?_
    refine (G_iload rfl (mF fc244 (by rfl))).trans ?_
    refine (G_iadd (mF fc244 (by rfl))).trans ?_
    refine (G_iaload (mF fc244 (by rfl))).trans (andR ?_)
    refine (G_istore (k := 6) (L' := [some (.ref a0), some (.int x1), l2, some (.int x3), some (.int x4), some (.int x5), some (.int (eI h (fR h a0 39) (((ii 300) * x1) + x5))), l7]) rfl (ltb rfl) rfl (mF fc244 (by rfl))).trans ?_
    refine (G_aload rfl (mF fc244 (by rfl))).trans ?_
    refine (G_getR (c := 12) (k := 40) rfl rfl rfl (mF fc244 (by rfl))).trans (andR ?_)
    refine (G_iconst (mF fc244 (by rfl))).trans ?_
    refine (G_iload rfl (mF fc244 (by rfl))).trans ?_
    refine (G_imul (mF fc244 (by rfl))).trans ?_
    refine (G_iload rfl (mF fc244 (by rfl))).trans ?_
    refine (G_iadd (mF fc244 (by rfl))).trans ?_
    refine (G_iaload (mF fc244 (by rfl))).trans (andR ?_)
    refine (G_istore (k := 7) (L' := [some (.ref a0), some (.int x1), l2, some (.int x3), some (.int x4), some (.int x5), some (.int (eI h (fR h a0 39) (((ii 300) * x1) + x5))), some (.int (eI h (fR h a0 40) (((ii 300) * x1) + x5)))]) rfl (ltb rfl) rfl (mF fc244 (by rfl))).trans ?_
    refine (G_iload rfl (mF fc244 (by rfl))).trans ?_
    refine (G_eq (mF fc244 (by rfl))).trans (gi ?_ ?_)
    ·
      exact Iff.rfl
    ·
      refine (G_iload rfl (mF fc244 (by rfl))).trans ?_
      refine (G_iconst (mF fc244 (by rfl))).trans ?_
      refine (G_ine (mF fc244 (by rfl))).trans (gi ?_ ?_)
      ·
        refine (G_iload rfl (mF fc244 (by rfl))).trans ?_
        refine (G_iconst (mF fc244 (by rfl))).trans ?_
        refine (G_ine (mF fc244 (by rfl))).trans (gi ?_ ?_)
        ·
          refine (G_iinc (k := 4) (L' := [some (.ref a0), some (.int x1), l2, some (.int x3), some (.int (x4 + ii (-1))), some (.int x5), some (.int (eI h (fR h a0 39) (((ii 300) * x1) + x5))), some (.int (eI h (fR h a0 40) (((ii 300) * x1) + x5)))]) rfl rfl rfl (mF fc244 (by rfl))).trans ?_
          refine (G_aload rfl (mF fc244 (by rfl))).trans ?_
          refine (G_getR (c := 12) (k := 55) rfl rfl rfl (mF fc244 (by rfl))).trans (andR ?_)
          refine (G_iload rfl (mF fc244 (by rfl))).trans ?_
          refine (G_iconst (mF fc244 (by rfl))).trans ?_
          refine (G_isub (mF fc244 (by rfl))).trans ?_
          refine (G_iload rfl (mF fc244 (by rfl))).trans ?_
          refine (G_aload rfl (mF fc244 (by rfl))).trans ?_
          refine (G_getR (c := 12) (k := 55) rfl rfl rfl (mF fc244 (by rfl))).trans (andR ?_)
          refine (G_iload rfl (mF fc244 (by rfl))).trans ?_
          refine (G_iconst (mF fc244 (by rfl))).trans ?_
          refine (G_isub (mF fc244 (by rfl))).trans ?_
          refine (G_laload (mF fc244 (by rfl))).trans (andR ?_)
          refine (G_aload rfl (mF fc244 (by rfl))).trans ?_
          refine (G_getR (c := 12) (k := 55) rfl rfl rfl (mF fc244 (by rfl))).trans (andR ?_)
          refine (G_iload rfl (mF fc244 (by rfl))).trans ?_
          refine (G_laload (mF fc244 (by rfl))).trans (andR ?_)
          refine (G_Tj (q := 124611) (y := 243) rfl rfl rfl (as := [.int (eI h (fR h a0 39) (((ii 300) * x1) + x5)), .long (eJ h (fR h a0 55) ((x4 + ii (-1)) - (ii 1))), .long (eJ h (fR h a0 55) (x4 + ii (-1)))]) (rest := [.int ((x4 + ii (-1)) - (ii 1)), .ref (fR h a0 55)]) rfl rfl (mF fc244 (by rfl))).trans (GoCj_congr fun v1 h1 => ?_)
          refine (G_lastore (mF fc244 (by rfl))).trans (andR ?_)
          exact Iff.rfl
        ·
          refine (G_aload rfl (mF fc244 (by rfl))).trans ?_
          refine (G_getR (c := 12) (k := 55) rfl rfl rfl (mF fc244 (by rfl))).trans (andR ?_)
          refine (G_iload rfl (mF fc244 (by rfl))).trans ?_
          refine (G_iconst (mF fc244 (by rfl))).trans ?_
          refine (G_isub (mF fc244 (by rfl))).trans ?_
          refine (G_jsr_w (mF fc244 (by rfl))).trans ?_
          refine (G_aload rfl (mF fc244 (by rfl))).trans ?_
          refine (G_getR (c := 12) (k := 55) rfl rfl rfl (mF fc244 (by rfl))).trans (andR ?_)
          refine (G_iload rfl (mF fc244 (by rfl))).trans ?_
          refine (G_iconst (mF fc244 (by rfl))).trans ?_
          refine (G_isub (mF fc244 (by rfl))).trans ?_
          refine (G_laload (mF fc244 (by rfl))).trans (andR ?_)
          refine (G_lsub (mF fc244 (by rfl))).trans ?_
          refine (G_lastore (mF fc244 (by rfl))).trans (andR ?_)
          refine (G_goto (mF fc244 (by rfl))).trans ?_
          exact Iff.rfl
      ·
        exact Iff.rfl
theorem b244_53 {d : Nat} {h : mHeap} {Q : Option Value → mHeap → Prop} {a0 : Nat} {x1 : Int32} {l2 : Option Value} {x3 : Int32} {x4 : Int32} {x5 : Int32} {x6 : Int32} {x7 : Int32} : Go d 244 53 [some (.ref a0), some (.int x1), l2, some (.int x3), some (.int x4), some (.int x5), some (.int x6), some (.int x7)] [] h Q ↔ okF h a0 12 55 2 ∧ (if ¬ x6 = ii 0 then (okF h a0 12 54 2 ∧ okJ h (fR h a0 54) x7 ∧ Go d 244 77 [some (.ref a0), some (.int x1), l2, some (.int x3), some (.int x4), some (.int x5), some (.int x6), some (.int x7)] [.long (eJ h (fR h a0 54) x7), .int x4, .ref (fR h a0 55)] h Q) else (Go d 244 77 [some (.ref a0), some (.int x1), l2, some (.int x3), some (.int x4), some (.int x5), some (.int x6), some (.int x7)] [.long x7.toInt64, .int x4, .ref (fR h a0 55)] h Q)) := by
  refine (G_aload rfl (mF fc244 (by rfl))).trans ?_
  refine (G_getR (c := 12) (k := 55) rfl rfl rfl (mF fc244 (by rfl))).trans (andR ?_)
  refine (G_iload rfl (mF fc244 (by rfl))).trans ?_
  refine (G_iload rfl (mF fc244 (by rfl))).trans ?_
  refine (G_ne (mF fc244 (by rfl))).trans (gi ?_ ?_)
  ·
    refine (G_aload rfl (mF fc244 (by rfl))).trans ?_
    refine (G_getR (c := 12) (k := 54) rfl rfl rfl (mF fc244 (by rfl))).trans (andR ?_)
    refine (G_iload rfl (mF fc244 (by rfl))).trans ?_
    refine (G_laload (mF fc244 (by rfl))).trans (andR ?_)
    exact Iff.rfl
  ·
    refine (G_iload rfl (mF fc244 (by rfl))).trans ?_
    refine (G_i2l (mF fc244 (by rfl))).trans ?_
    refine (G_goto (mF fc244 (by rfl))).trans ?_
    exact Iff.rfl
theorem b244_77 {d : Nat} {h : mHeap} {Q : Option Value → mHeap → Prop} {a0 : Nat} {x1 : Int32} {l2 : Option Value} {x3 : Int32} {x4 : Int32} {x5 : Int32} {l6 : Option Value} {l7 : Option Value} {r0 : Nat} {s1 : Int32} {t2 : Int64} : Go d 244 77 [some (.ref a0), some (.int x1), l2, some (.int x3), some (.int x4), some (.int x5), l6, l7] [.long t2, .int s1, .ref r0] h Q ↔ (64 ≤ r0 ∧ okJ h r0 s1) ∧ Go d 244 147 [some (.ref a0), some (.int x1), l2, some (.int x3), some (.int (x4 + ii 1)), some (.int x5), l6, l7] [] (sJ h r0 s1 t2) Q := by
  refine (G_lastore (mF fc244 (by rfl))).trans (andR ?_)
  refine (G_iinc (k := 4) (L' := [some (.ref a0), some (.int x1), l2, some (.int x3), some (.int (x4 + ii 1)), some (.int x5), l6, l7]) rfl rfl rfl (mF fc244 (by rfl))).trans ?_
  refine (G_goto (mF fc244 (by rfl))).trans ?_
  exact Iff.rfl
theorem b244_147 {d : Nat} {h : mHeap} {Q : Option Value → mHeap → Prop} {a0 : Nat} {x1 : Int32} {l2 : Option Value} {x3 : Int32} {x4 : Int32} {x5 : Int32} {l6 : Option Value} {l7 : Option Value} : Go d 244 147 [some (.ref a0), some (.int x1), l2, some (.int x3), some (.int x4), some (.int x5), l6, l7] [] h Q ↔ Go d 244 6 [some (.ref a0), some (.int x1), l2, some (.int x3), some (.int x4), some (.int (x5 + ii 1)), l6, l7] [] h Q := by
  refine (G_iinc (k := 5) (L' := [some (.ref a0), some (.int x1), l2, some (.int x3), some (.int x4), some (.int (x5 + ii 1)), l6, l7]) rfl rfl rfl (mF fc244 (by rfl))).trans ?_
  refine (G_goto (mF fc244 (by rfl))).trans ?_
  exact Iff.rfl
theorem e244 {d : Nat} {h : mHeap} {K : Int64 → mHeap → Prop} {a0 : Nat} {x1 : Int32} {x2 : Int32} {x3 : Int32} : GoCj (d + 1) 244 [.ref a0, .int x1, .int x2, .int x3] h K ↔ Go d 244 0 [some (.ref a0), some (.int x1), some (.int x2), some (.int x3), none, none, none, none] [] h (rJ K) := GoCj_entry rfl rfl
set_option maxRecDepth 20000 in
theorem fc245 : mCodes[245]? = some mc245 := rfl
theorem b245_0 {d : Nat} {h : mHeap} {Q : Option Value → mHeap → Prop} {a0 : Nat} {x1 : Int32} : Go d 245 0 [some (.ref a0), some (.int x1)] [] h Q ↔ (if ¬ x1 = (ii (-1)) then (Q (some (.int x1)) h) else (Q (some (.int (ii 6))) h)) := by
  refine (G_iload rfl (mF fc245 (by rfl))).trans ?_
  refine (G_iconst (mF fc245 (by rfl))).trans ?_
  refine (G_ine (mF fc245 (by rfl))).trans (gi ?_ ?_)
  ·
    refine (G_iload rfl (mF fc245 (by rfl))).trans ?_
    exact G_ireturnI rfl (mF fc245 (by rfl))
  ·
    refine (G_iconst (mF fc245 (by rfl))).trans ?_
    refine (G_goto (mF fc245 (by rfl))).trans ?_
    exact G_ireturnI rfl (mF fc245 (by rfl))
theorem e245 {d : Nat} {h : mHeap} {K : Int32 → mHeap → Prop} {a0 : Nat} {x1 : Int32} : GoCi (d + 1) 245 [.ref a0, .int x1] h K ↔ Go d 245 0 [some (.ref a0), some (.int x1)] [] h (rI K) := GoCi_entry rfl rfl
set_option maxRecDepth 20000 in
theorem fc246 : mCodes[246]? = some mc246 := rfl
theorem b246_0 {d : Nat} {h : mHeap} {Q : Option Value → mHeap → Prop} {a0 : Nat} {x1 : Int32} : Go d 246 0 [some (.ref a0), some (.int x1), none, none] [] h Q ↔ Go d 246 4 [some (.ref a0), some (.int x1), some (.int (ii 0)), some (.int (ii 0))] [] h Q := by
  refine (G_iconst (mF fc246 (by rfl))).trans ?_
  refine (G_istore (k := 2) (L' := [some (.ref a0), some (.int x1), some (.int (ii 0)), none]) rfl (ltb rfl) rfl (mF fc246 (by rfl))).trans ?_
  refine (G_iconst (mF fc246 (by rfl))).trans ?_
  refine (G_istore (k := 3) (L' := [some (.ref a0), some (.int x1), some (.int (ii 0)), some (.int (ii 0))]) rfl (ltb rfl) rfl (mF fc246 (by rfl))).trans ?_
  exact Iff.rfl
theorem b246_4 {d : Nat} {h : mHeap} {Q : Option Value → mHeap → Prop} {a0 : Nat} {x1 : Int32} {x2 : Int32} {x3 : Int32} : Go d 246 4 [some (.ref a0), some (.int x1), some (.int x2), some (.int x3)] [] h Q ↔ (if (ii 8) ≤ x3 then (Q (some (.int x2)) h) else (okF h a0 12 15 2 ∧ okA h (fR h a0 15) .int (((ii 8) * x1) + x3) ∧ GoCi d 184 [.int (eI h (fR h a0 15) (((ii 8) * x1) + x3))] h (fun v1 h1 => Go d 246 4 [some (.ref a0), some (.int x1), some (.int (x2 + v1)), some (.int (x3 + ii 1))] [] h1 Q))) := by
  refine (G_iload rfl (mF fc246 (by rfl))).trans ?_
  refine (G_iconst (mF fc246 (by rfl))).trans ?_
  refine (G_ige (mF fc246 (by rfl))).trans (gi ?_ ?_)
  ·
    refine (G_iload rfl (mF fc246 (by rfl))).trans ?_
    exact G_ireturnI rfl (mF fc246 (by rfl))
  ·
    refine (G_iload rfl (mF fc246 (by rfl))).trans ?_
    refine (G_aload rfl (mF fc246 (by rfl))).trans ?_
    refine (G_getR (c := 12) (k := 15) rfl rfl rfl (mF fc246 (by rfl))).trans (andR ?_)
    refine (G_iconst (mF fc246 (by rfl))).trans ?_
    refine (G_iload rfl (mF fc246 (by rfl))).trans ?_
    refine (G_imul (mF fc246 (by rfl))).trans ?_
    refine (G_iload rfl (mF fc246 (by rfl))).trans ?_
    refine (G_iadd (mF fc246 (by rfl))).trans ?_
    refine (G_iaload (mF fc246 (by rfl))).trans (andR ?_)
    refine (G_Ti (q := 94401) (y := 184) rfl rfl rfl (as := [.int (eI h (fR h a0 15) (((ii 8) * x1) + x3))]) (rest := [.int x2]) rfl rfl (mF fc246 (by rfl))).trans (GoCi_congr fun v1 h1 => ?_)
    refine (G_iadd (mF fc246 (by rfl))).trans ?_
    refine (G_istore (k := 2) (L' := [some (.ref a0), some (.int x1), some (.int (x2 + v1)), some (.int x3)]) rfl (ltb rfl) rfl (mF fc246 (by rfl))).trans ?_
    refine (G_iinc (k := 3) (L' := [some (.ref a0), some (.int x1), some (.int (x2 + v1)), some (.int (x3 + ii 1))]) rfl rfl rfl (mF fc246 (by rfl))).trans ?_
    refine (G_goto (mF fc246 (by rfl))).trans ?_
    exact Iff.rfl
theorem e246 {d : Nat} {h : mHeap} {K : Int32 → mHeap → Prop} {a0 : Nat} {x1 : Int32} : GoCi (d + 1) 246 [.ref a0, .int x1] h K ↔ Go d 246 0 [some (.ref a0), some (.int x1), none, none] [] h (rI K) := GoCi_entry rfl rfl
set_option maxRecDepth 20000 in
theorem fc247 : mCodes[247]? = some mc247 := rfl
theorem b247_0 {d : Nat} {h : mHeap} {Q : Option Value → mHeap → Prop} {a0 : Nat} {x1 : Int32} {x2 : Int32} : Go d 247 0 [some (.ref a0), some (.int x1), some (.int x2), none, none] [] h Q ↔ Go d 247 5 [some (.ref a0), some (.int x1), some (.int x2), some (.int (ii 1)), some (.int (ii 0))] [] h Q := by
  refine (G_iconst (mF fc247 (by rfl))).trans ?_
  refine (G_istore (k := 3) (L' := [some (.ref a0), some (.int x1), some (.int x2), some (.int (ii 1)), none]) rfl (ltb rfl) rfl (mF fc247 (by rfl))).trans ?_
  refine (G_iconst (mF fc247 (by rfl))).trans ?_
  refine (G_istore (k := 4) (L' := [some (.ref a0), some (.int x1), some (.int x2), some (.int (ii 1)), some (.int (ii 0))]) rfl (ltb rfl) rfl (mF fc247 (by rfl))).trans ?_
  exact Iff.rfl
theorem b247_5 {d : Nat} {h : mHeap} {Q : Option Value → mHeap → Prop} {a0 : Nat} {x1 : Int32} {x2 : Int32} {x3 : Int32} {x4 : Int32} : Go d 247 5 [some (.ref a0), some (.int x1), some (.int x2), some (.int x3), some (.int x4)] [] h Q ↔ (if (ii 8) ≤ x4 then ((x3 = ii 0 ∨ x3 = ii 1) ∧ Q (some (.int x3)) h) else ((if x3 = ii 0 then (Go d 247 50 [some (.ref a0), some (.int x1), some (.int x2), some (.int x3), some (.int x4)] [] h Q) else (okF h a0 12 15 2 ∧ okA h (fR h a0 15) .int (((ii 8) * x1) + x4) ∧ okF h a0 12 46 2 ∧ okA h (fR h a0 46) .int (((ii 8) * x2) + x4) ∧ (if ¬ ((eI h (fR h a0 15) (((ii 8) * x1) + x4)) &&& ((eI h (fR h a0 46) (((ii 8) * x2) + x4)) ^^^ (ii (-1)))) = ii 0 then (Go d 247 50 [some (.ref a0), some (.int x1), some (.int x2), some (.int x3), some (.int x4)] [] h Q) else (Go d 247 51 [some (.ref a0), some (.int x1), some (.int x2), some (.int x3), some (.int x4)] [.int (ii 1)] h Q)))))) := by
  refine (G_iload rfl (mF fc247 (by rfl))).trans ?_
  refine (G_iconst (mF fc247 (by rfl))).trans ?_
  refine (G_ige (mF fc247 (by rfl))).trans (gi ?_ ?_)
  ·
    refine (G_iload rfl (mF fc247 (by rfl))).trans ?_
    exact G_ireturnZ rfl (mF fc247 (by rfl))
  ·
    refine (G_iload rfl (mF fc247 (by rfl))).trans ?_
    refine (G_eq (mF fc247 (by rfl))).trans (gi ?_ ?_)
    ·
      exact Iff.rfl
    ·
      refine (G_aload rfl (mF fc247 (by rfl))).trans ?_
      refine (G_getR (c := 12) (k := 15) rfl rfl rfl (mF fc247 (by rfl))).trans (andR ?_)
      refine (G_iconst (mF fc247 (by rfl))).trans ?_
      refine (G_iload rfl (mF fc247 (by rfl))).trans ?_
      refine (G_imul (mF fc247 (by rfl))).trans ?_
      refine (G_iload rfl (mF fc247 (by rfl))).trans ?_
      refine (G_iadd (mF fc247 (by rfl))).trans ?_
      refine (G_iaload (mF fc247 (by rfl))).trans (andR ?_)
      refine (G_aload rfl (mF fc247 (by rfl))).trans ?_
      refine (G_getR (c := 12) (k := 46) rfl rfl rfl (mF fc247 (by rfl))).trans (andR ?_)
      refine (G_iconst (mF fc247 (by rfl))).trans ?_
      refine (G_iload rfl (mF fc247 (by rfl))).trans ?_
      refine (G_imul (mF fc247 (by rfl))).trans ?_
      refine (G_iload rfl (mF fc247 (by rfl))).trans ?_
      refine (G_iadd (mF fc247 (by rfl))).trans ?_
      refine (G_iaload (mF fc247 (by rfl))).trans (andR ?_)
      refine (G_iconst (mF fc247 (by rfl))).trans ?_
      refine (G_ixor (mF fc247 (by rfl))).trans ?_
      refine (G_iand (mF fc247 (by rfl))).trans ?_
      refine (G_ne (mF fc247 (by rfl))).trans (gi ?_ ?_)
      ·
        exact Iff.rfl
      ·
        refine (G_iconst (mF fc247 (by rfl))).trans ?_
        refine (G_goto (mF fc247 (by rfl))).trans ?_
        exact Iff.rfl
theorem b247_50 {d : Nat} {h : mHeap} {Q : Option Value → mHeap → Prop} {a0 : Nat} {x1 : Int32} {x2 : Int32} {l3 : Option Value} {x4 : Int32} : Go d 247 50 [some (.ref a0), some (.int x1), some (.int x2), l3, some (.int x4)] [] h Q ↔ Go d 247 51 [some (.ref a0), some (.int x1), some (.int x2), l3, some (.int x4)] [.int (ii 0)] h Q := by
  refine (G_iconst (mF fc247 (by rfl))).trans ?_
  exact Iff.rfl
theorem b247_51 {d : Nat} {h : mHeap} {Q : Option Value → mHeap → Prop} {a0 : Nat} {x1 : Int32} {x2 : Int32} {l3 : Option Value} {x4 : Int32} {s0 : Int32} : Go d 247 51 [some (.ref a0), some (.int x1), some (.int x2), l3, some (.int x4)] [.int s0] h Q ↔ Go d 247 5 [some (.ref a0), some (.int x1), some (.int x2), some (.int s0), some (.int (x4 + ii 1))] [] h Q := by
  refine (G_istore (k := 3) (L' := [some (.ref a0), some (.int x1), some (.int x2), some (.int s0), some (.int x4)]) rfl (ltb rfl) rfl (mF fc247 (by rfl))).trans ?_
  refine (G_iinc (k := 4) (L' := [some (.ref a0), some (.int x1), some (.int x2), some (.int s0), some (.int (x4 + ii 1))]) rfl rfl rfl (mF fc247 (by rfl))).trans ?_
  refine (G_goto (mF fc247 (by rfl))).trans ?_
  exact Iff.rfl
theorem e247 {d : Nat} {h : mHeap} {K : Int32 → mHeap → Prop} {a0 : Nat} {x1 : Int32} {x2 : Int32} : GoCi (d + 1) 247 [.ref a0, .int x1, .int x2] h K ↔ Go d 247 0 [some (.ref a0), some (.int x1), some (.int x2), none, none] [] h (rI K) := GoCi_entry rfl rfl
set_option maxRecDepth 20000 in
theorem fc248 : mCodes[248]? = some mc248 := rfl
theorem b248_0 {d : Nat} {h : mHeap} {Q : Option Value → mHeap → Prop} {a0 : Nat} {x1 : Int32} : Go d 248 0 [some (.ref a0), some (.int x1), none, none] [] h Q ↔ Go d 248 4 [some (.ref a0), some (.int x1), some (.int (ii 0)), some (.int (ii 0))] [] h Q := by
  refine (G_iconst (mF fc248 (by rfl))).trans ?_
  refine (G_istore (k := 2) (L' := [some (.ref a0), some (.int x1), some (.int (ii 0)), none]) rfl (ltb rfl) rfl (mF fc248 (by rfl))).trans ?_
  refine (G_iconst (mF fc248 (by rfl))).trans ?_
  refine (G_istore (k := 3) (L' := [some (.ref a0), some (.int x1), some (.int (ii 0)), some (.int (ii 0))]) rfl (ltb rfl) rfl (mF fc248 (by rfl))).trans ?_
  exact Iff.rfl
theorem b248_4 {d : Nat} {h : mHeap} {Q : Option Value → mHeap → Prop} {a0 : Nat} {x1 : Int32} {x2 : Int32} {x3 : Int32} : Go d 248 4 [some (.ref a0), some (.int x1), some (.int x2), some (.int x3)] [] h Q ↔ (if (ii 8) ≤ x3 then (Q (some (.int x2)) h) else (okF h a0 12 15 2 ∧ okA h (fR h a0 15) .int ((ii 48) + x3) ∧ okF h a0 12 46 2 ∧ okA h (fR h a0 46) .int (((ii 8) * x1) + x3) ∧ GoCi d 184 [.int ((eI h (fR h a0 15) ((ii 48) + x3)) &&& ((eI h (fR h a0 46) (((ii 8) * x1) + x3)) ^^^ (ii (-1))))] h (fun v1 h1 => Go d 248 4 [some (.ref a0), some (.int x1), some (.int (x2 + v1)), some (.int (x3 + ii 1))] [] h1 Q))) := by
  refine (G_iload rfl (mF fc248 (by rfl))).trans ?_
  refine (G_iconst (mF fc248 (by rfl))).trans ?_
  refine (G_ige (mF fc248 (by rfl))).trans (gi ?_ ?_)
  ·
    refine (G_iload rfl (mF fc248 (by rfl))).trans ?_
    exact G_ireturnI rfl (mF fc248 (by rfl))
  ·
    refine (G_iload rfl (mF fc248 (by rfl))).trans ?_
    refine (G_aload rfl (mF fc248 (by rfl))).trans ?_
    refine (G_getR (c := 12) (k := 15) rfl rfl rfl (mF fc248 (by rfl))).trans (andR ?_)
    refine (G_iconst (mF fc248 (by rfl))).trans ?_
    refine (G_iload rfl (mF fc248 (by rfl))).trans ?_
    refine (G_iadd (mF fc248 (by rfl))).trans ?_
    refine (G_iaload (mF fc248 (by rfl))).trans (andR ?_)
    refine (G_aload rfl (mF fc248 (by rfl))).trans ?_
    refine (G_getR (c := 12) (k := 46) rfl rfl rfl (mF fc248 (by rfl))).trans (andR ?_)
    refine (G_iconst (mF fc248 (by rfl))).trans ?_
    refine (G_iload rfl (mF fc248 (by rfl))).trans ?_
    refine (G_imul (mF fc248 (by rfl))).trans ?_
    refine (G_iload rfl (mF fc248 (by rfl))).trans ?_
    refine (G_iadd (mF fc248 (by rfl))).trans ?_
    refine (G_iaload (mF fc248 (by rfl))).trans (andR ?_)
    refine (G_iconst (mF fc248 (by rfl))).trans ?_
    refine (G_ixor (mF fc248 (by rfl))).trans ?_
    refine (G_iand (mF fc248 (by rfl))).trans ?_
    refine (G_Ti (q := 94401) (y := 184) rfl rfl rfl (as := [.int ((eI h (fR h a0 15) ((ii 48) + x3)) &&& ((eI h (fR h a0 46) (((ii 8) * x1) + x3)) ^^^ (ii (-1))))]) (rest := [.int x2]) rfl rfl (mF fc248 (by rfl))).trans (GoCi_congr fun v1 h1 => ?_)
    refine (G_iadd (mF fc248 (by rfl))).trans ?_
    refine (G_istore (k := 2) (L' := [some (.ref a0), some (.int x1), some (.int (x2 + v1)), some (.int x3)]) rfl (ltb rfl) rfl (mF fc248 (by rfl))).trans ?_
    refine (G_iinc (k := 3) (L' := [some (.ref a0), some (.int x1), some (.int (x2 + v1)), some (.int (x3 + ii 1))]) rfl rfl rfl (mF fc248 (by rfl))).trans ?_
    refine (G_goto (mF fc248 (by rfl))).trans ?_
    exact Iff.rfl
theorem e248 {d : Nat} {h : mHeap} {K : Int32 → mHeap → Prop} {a0 : Nat} {x1 : Int32} : GoCi (d + 1) 248 [.ref a0, .int x1] h K ↔ Go d 248 0 [some (.ref a0), some (.int x1), none, none] [] h (rI K) := GoCi_entry rfl rfl
set_option maxRecDepth 20000 in
theorem fc249 : mCodes[249]? = some mc249 := rfl
theorem b249_0 {d : Nat} {h : mHeap} {Q : Option Value → mHeap → Prop} {a0 : Nat} {x1 : Int32} {x2 : Int32} : Go d 249 0 [some (.ref a0), some (.int x1), some (.int x2), none] [] h Q ↔ Go d 249 2 [some (.ref a0), some (.int x1), some (.int x2), some (.int (ii 0))] [] h Q := by
  refine (G_iconst (mF fc249 (by rfl))).trans ?_
  refine (G_istore (k := 3) (L' := [some (.ref a0), some (.int x1), some (.int x2), some (.int (ii 0))]) rfl (ltb rfl) rfl (mF fc249 (by rfl))).trans ?_
  exact Iff.rfl
theorem b249_2 {d : Nat} {h : mHeap} {Q : Option Value → mHeap → Prop} {a0 : Nat} {x1 : Int32} {x2 : Int32} {x3 : Int32} : Go d 249 2 [some (.ref a0), some (.int x1), some (.int x2), some (.int x3)] [] h Q ↔ (if (ii 8) ≤ x3 then (Q none h) else (okF h a0 12 15 2 ∧ okA h (fR h a0 15) .int (((ii 8) * x1) + x3) ∧ okF h a0 12 46 2 ∧ okA h (fR h a0 46) .int (((ii 8) * x2) + x3) ∧ (64 ≤ (fR h a0 15) ∧ okA h (fR h a0 15) .int (((ii 8) * x1) + x3)) ∧ Go d 249 2 [some (.ref a0), some (.int x1), some (.int x2), some (.int (x3 + ii 1))] [] (sI h (fR h a0 15) (((ii 8) * x1) + x3) ((eI h (fR h a0 15) (((ii 8) * x1) + x3)) &&& (eI h (fR h a0 46) (((ii 8) * x2) + x3)))) Q)) := by
  refine (G_iload rfl (mF fc249 (by rfl))).trans ?_
  refine (G_iconst (mF fc249 (by rfl))).trans ?_
  refine (G_ige (mF fc249 (by rfl))).trans (gi ?_ ?_)
  ·
    exact G_return rfl (mF fc249 (by rfl))
  ·
    refine (G_aload rfl (mF fc249 (by rfl))).trans ?_
    refine (G_getR (c := 12) (k := 15) rfl rfl rfl (mF fc249 (by rfl))).trans (andR ?_)
    refine (G_iconst (mF fc249 (by rfl))).trans ?_
    refine (G_iload rfl (mF fc249 (by rfl))).trans ?_
    refine (G_imul (mF fc249 (by rfl))).trans ?_
    refine (G_iload rfl (mF fc249 (by rfl))).trans ?_
    refine (G_iadd (mF fc249 (by rfl))).trans ?_
    refine (G_dup2r (mF fc249 (by rfl))).trans ?_
    refine (G_iaload (mF fc249 (by rfl))).trans (andR ?_)
    refine (G_aload rfl (mF fc249 (by rfl))).trans ?_
    refine (G_getR (c := 12) (k := 46) rfl rfl rfl (mF fc249 (by rfl))).trans (andR ?_)
    refine (G_iconst (mF fc249 (by rfl))).trans ?_
    refine (G_iload rfl (mF fc249 (by rfl))).trans ?_
    refine (G_imul (mF fc249 (by rfl))).trans ?_
    refine (G_iload rfl (mF fc249 (by rfl))).trans ?_
    refine (G_iadd (mF fc249 (by rfl))).trans ?_
    refine (G_iaload (mF fc249 (by rfl))).trans (andR ?_)
    refine (G_iand (mF fc249 (by rfl))).trans ?_
    refine (G_iastore (mF fc249 (by rfl))).trans (andR ?_)
    refine (G_iinc (k := 3) (L' := [some (.ref a0), some (.int x1), some (.int x2), some (.int (x3 + ii 1))]) rfl rfl rfl (mF fc249 (by rfl))).trans ?_
    refine (G_goto (mF fc249 (by rfl))).trans ?_
    exact Iff.rfl
theorem e249 {d : Nat} {h : mHeap} {K : mHeap → Prop} {a0 : Nat} {x1 : Int32} {x2 : Int32} : GoCv (d + 1) 249 [.ref a0, .int x1, .int x2] h K ↔ Go d 249 0 [some (.ref a0), some (.int x1), some (.int x2), none] [] h (rV K) := GoCv_entry rfl rfl
set_option maxRecDepth 20000 in
theorem fc250 : mCodes[250]? = some mc250 := rfl
theorem b250_0 {d : Nat} {h : mHeap} {Q : Option Value → mHeap → Prop} {a0 : Nat} {x1 : Int32} {x2 : Int32} : Go d 250 0 [some (.ref a0), some (.int x1), some (.int x2)] [] h Q ↔ okF h a0 12 46 2 ∧ (¬ (ii 32) = ii 0) ∧ okA h (fR h a0 46) .int (((ii 8) * x1) + (x2 / (ii 32))) ∧ (¬ (ii 32) = ii 0) ∧ GoCi d 185 [.int (eI h (fR h a0 46) (((ii 8) * x1) + (x2 / (ii 32)))), .int (irm x2 (ii 32))] h (fun v1 h1 => (v1 = ii 0 ∨ v1 = ii 1) ∧ Q (some (.int v1)) h1) := by
  refine (G_aload rfl (mF fc250 (by rfl))).trans ?_
  refine (G_getR (c := 12) (k := 46) rfl rfl rfl (mF fc250 (by rfl))).trans (andR ?_)
  refine (G_iconst (mF fc250 (by rfl))).trans ?_
  refine (G_iload rfl (mF fc250 (by rfl))).trans ?_
  refine (G_imul (mF fc250 (by rfl))).trans ?_
  refine (G_iload rfl (mF fc250 (by rfl))).trans ?_
  refine (G_iconst (mF fc250 (by rfl))).trans ?_
  refine (G_idiv (mF fc250 (by rfl))).trans (andR ?_)
  refine (G_iadd (mF fc250 (by rfl))).trans ?_
  refine (G_iaload (mF fc250 (by rfl))).trans (andR ?_)
  refine (G_iload rfl (mF fc250 (by rfl))).trans ?_
  refine (G_iconst (mF fc250 (by rfl))).trans ?_
  refine (G_irem (mF fc250 (by rfl))).trans (andR ?_)
  refine (G_Ti (q := 94914) (y := 185) rfl rfl rfl (as := [.int (eI h (fR h a0 46) (((ii 8) * x1) + (x2 / (ii 32)))), .int (irm x2 (ii 32))]) (rest := []) rfl rfl (mF fc250 (by rfl))).trans (GoCi_congr fun v1 h1 => ?_)
  exact G_ireturnZ rfl (mF fc250 (by rfl))
theorem e250 {d : Nat} {h : mHeap} {K : Int32 → mHeap → Prop} {a0 : Nat} {x1 : Int32} {x2 : Int32} : GoCi (d + 1) 250 [.ref a0, .int x1, .int x2] h K ↔ Go d 250 0 [some (.ref a0), some (.int x1), some (.int x2)] [] h (rI K) := GoCi_entry rfl rfl
set_option maxRecDepth 20000 in
theorem fc251 : mCodes[251]? = some mc251 := rfl
theorem b251_0 {d : Nat} {h : mHeap} {Q : Option Value → mHeap → Prop} {a0 : Nat} {x1 : Int32} {x2 : Int32} : Go d 251 0 [some (.ref a0), some (.int x1), some (.int x2)] [] h Q ↔ okF h a0 12 15 2 ∧ (¬ (ii 32) = ii 0) ∧ okA h (fR h a0 15) .int (((ii 8) * x1) + (x2 / (ii 32))) ∧ (¬ (ii 32) = ii 0) ∧ GoCi d 185 [.int (eI h (fR h a0 15) (((ii 8) * x1) + (x2 / (ii 32)))), .int (irm x2 (ii 32))] h (fun v1 h1 => (v1 = ii 0 ∨ v1 = ii 1) ∧ Q (some (.int v1)) h1) := by
  refine (G_aload rfl (mF fc251 (by rfl))).trans ?_
  refine (G_getR (c := 12) (k := 15) rfl rfl rfl (mF fc251 (by rfl))).trans (andR ?_)
  refine (G_iconst (mF fc251 (by rfl))).trans ?_
  refine (G_iload rfl (mF fc251 (by rfl))).trans ?_
  refine (G_imul (mF fc251 (by rfl))).trans ?_
  refine (G_iload rfl (mF fc251 (by rfl))).trans ?_
  refine (G_iconst (mF fc251 (by rfl))).trans ?_
  refine (G_idiv (mF fc251 (by rfl))).trans (andR ?_)
  refine (G_iadd (mF fc251 (by rfl))).trans ?_
  refine (G_iaload (mF fc251 (by rfl))).trans (andR ?_)
  refine (G_iload rfl (mF fc251 (by rfl))).trans ?_
  refine (G_iconst (mF fc251 (by rfl))).trans ?_
  refine (G_irem (mF fc251 (by rfl))).trans (andR ?_)
  refine (G_Ti (q := 94914) (y := 185) rfl rfl rfl (as := [.int (eI h (fR h a0 15) (((ii 8) * x1) + (x2 / (ii 32)))), .int (irm x2 (ii 32))]) (rest := []) rfl rfl (mF fc251 (by rfl))).trans (GoCi_congr fun v1 h1 => ?_)
  exact G_ireturnZ rfl (mF fc251 (by rfl))
theorem e251 {d : Nat} {h : mHeap} {K : Int32 → mHeap → Prop} {a0 : Nat} {x1 : Int32} {x2 : Int32} : GoCi (d + 1) 251 [.ref a0, .int x1, .int x2] h K ↔ Go d 251 0 [some (.ref a0), some (.int x1), some (.int x2)] [] h (rI K) := GoCi_entry rfl rfl
set_option maxRecDepth 20000 in
theorem fc252 : mCodes[252]? = some mc252 := rfl
theorem b252_0 {d : Nat} {h : mHeap} {Q : Option Value → mHeap → Prop} {a0 : Nat} {x1 : Int32} {x2 : Int32} : Go d 252 0 [some (.ref a0), some (.int x1), some (.int x2), none, none] [] h Q ↔ Go d 252 5 [some (.ref a0), some (.int x1), some (.int x2), some (.int (ii 1)), some (.int (ii 0))] [] h Q := by
  refine (G_iconst (mF fc252 (by rfl))).trans ?_
  refine (G_istore (k := 3) (L' := [some (.ref a0), some (.int x1), some (.int x2), some (.int (ii 1)), none]) rfl (ltb rfl) rfl (mF fc252 (by rfl))).trans ?_
  refine (G_iconst (mF fc252 (by rfl))).trans ?_
  refine (G_istore (k := 4) (L' := [some (.ref a0), some (.int x1), some (.int x2), some (.int (ii 1)), some (.int (ii 0))]) rfl (ltb rfl) rfl (mF fc252 (by rfl))).trans ?_
  exact Iff.rfl
theorem b252_5 {d : Nat} {h : mHeap} {Q : Option Value → mHeap → Prop} {a0 : Nat} {x1 : Int32} {x2 : Int32} {x3 : Int32} {x4 : Int32} : Go d 252 5 [some (.ref a0), some (.int x1), some (.int x2), some (.int x3), some (.int x4)] [] h Q ↔ oC h a0 = 12 ∧ GoCi d 191 [.ref a0] h (fun v1 h1 => (if v1 ≤ x4 then ((x3 = ii 0 ∨ x3 = ii 1) ∧ Q (some (.int x3)) h1) else ((if x3 = ii 0 then (Go d 252 51 [some (.ref a0), some (.int x1), some (.int x2), some (.int x3), some (.int x4)] [] h1 Q) else (oC h1 a0 = 12 ∧ GoCi d 251 [.ref a0, .int x1, .int x4] h1 (fun v2 h2 => (if v2 = ii 0 then (Go d 252 47 [some (.ref a0), some (.int x1), some (.int x2), some (.int x3), some (.int x4)] [] h2 Q) else (GoCi d 185 [.int x4, .int x2] h2 (fun v3 h3 => okF h3 a0 12 1 2 ∧ okA h3 (fR h3 a0 1) .int (ii 1) ∧ GoCi d 185 [.int (eI h3 (fR h3 a0 1) (ii 1)), .int x2] h3 (fun v4 h4 => (if ¬ v3 = v4 then (Go d 252 51 [some (.ref a0), some (.int x1), some (.int x2), some (.int x3), some (.int x4)] [] h4 Q) else (Go d 252 47 [some (.ref a0), some (.int x1), some (.int x2), some (.int x3), some (.int x4)] [] h4 Q)))))))))))) := by
  refine (G_iload rfl (mF fc252 (by rfl))).trans ?_
  refine (G_aload rfl (mF fc252 (by rfl))).trans ?_
  refine (G_Vi (q := 97985) (y := 191) (a := a0) (c := 12) rfl rfl rfl rfl (by decide) rfl (as := [.ref a0]) (rest := [.int x4]) rfl rfl (mF fc252 (by rfl))).trans (andR (GoCi_congr fun v1 h1 => ?_))
  refine (G_ige (mF fc252 (by rfl))).trans (gi ?_ ?_)
  ·
    refine (G_iload rfl (mF fc252 (by rfl))).trans ?_
    exact G_ireturnZ rfl (mF fc252 (by rfl))
  ·
    refine (G_iload rfl (mF fc252 (by rfl))).trans ?_
    refine (G_eq (mF fc252 (by rfl))).trans (gi ?_ ?_)
    ·
      exact Iff.rfl
    ·
      refine (G_aload rfl (mF fc252 (by rfl))).trans ?_
      refine (G_iload rfl (mF fc252 (by rfl))).trans ?_
      refine (G_iload rfl (mF fc252 (by rfl))).trans ?_
      refine (G_Vi (q := 128707) (y := 251) (a := a0) (c := 12) rfl rfl rfl rfl (by decide) rfl (as := [.ref a0, .int x1, .int x4]) (rest := []) rfl rfl (mF fc252 (by rfl))).trans (andR (GoCi_congr fun v2 h2 => ?_))
      refine (G_eq (mF fc252 (by rfl))).trans (gi ?_ ?_)
      ·
        exact Iff.rfl
      ·
        refine (G_iload rfl (mF fc252 (by rfl))).trans ?_
        refine (G_iload rfl (mF fc252 (by rfl))).trans ?_
        refine (G_Ti (q := 94914) (y := 185) rfl rfl rfl (as := [.int x4, .int x2]) (rest := []) rfl rfl (mF fc252 (by rfl))).trans (GoCi_congr fun v3 h3 => ?_)
        refine (G_aload rfl (mF fc252 (by rfl))).trans ?_
        refine (G_getR (c := 12) (k := 1) rfl rfl rfl (mF fc252 (by rfl))).trans (andR ?_)
        refine (G_iconst (mF fc252 (by rfl))).trans ?_
        refine (G_iaload (mF fc252 (by rfl))).trans (andR ?_)
        refine (G_iload rfl (mF fc252 (by rfl))).trans ?_
        refine (G_Ti (q := 94914) (y := 185) rfl rfl rfl (as := [.int (eI h3 (fR h3 a0 1) (ii 1)), .int x2]) (rest := [.int v3]) rfl rfl (mF fc252 (by rfl))).trans (GoCi_congr fun v4 h4 => ?_)
        refine (G_ine (mF fc252 (by rfl))).trans (gi ?_ ?_)
        ·
          exact Iff.rfl
        ·
          exact Iff.rfl
theorem b252_47 {d : Nat} {h : mHeap} {Q : Option Value → mHeap → Prop} {a0 : Nat} {x1 : Int32} {x2 : Int32} {l3 : Option Value} {x4 : Int32} : Go d 252 47 [some (.ref a0), some (.int x1), some (.int x2), l3, some (.int x4)] [] h Q ↔ Go d 252 52 [some (.ref a0), some (.int x1), some (.int x2), l3, some (.int x4)] [.int (ii 1)] h Q := by
  refine (G_iconst (mF fc252 (by rfl))).trans ?_
  refine (G_goto (mF fc252 (by rfl))).trans ?_
  exact Iff.rfl
theorem b252_51 {d : Nat} {h : mHeap} {Q : Option Value → mHeap → Prop} {a0 : Nat} {x1 : Int32} {x2 : Int32} {l3 : Option Value} {x4 : Int32} : Go d 252 51 [some (.ref a0), some (.int x1), some (.int x2), l3, some (.int x4)] [] h Q ↔ Go d 252 52 [some (.ref a0), some (.int x1), some (.int x2), l3, some (.int x4)] [.int (ii 0)] h Q := by
  refine (G_iconst (mF fc252 (by rfl))).trans ?_
  exact Iff.rfl
theorem b252_52 {d : Nat} {h : mHeap} {Q : Option Value → mHeap → Prop} {a0 : Nat} {x1 : Int32} {x2 : Int32} {l3 : Option Value} {x4 : Int32} {s0 : Int32} : Go d 252 52 [some (.ref a0), some (.int x1), some (.int x2), l3, some (.int x4)] [.int s0] h Q ↔ Go d 252 5 [some (.ref a0), some (.int x1), some (.int x2), some (.int s0), some (.int (x4 + ii 1))] [] h Q := by
  refine (G_istore (k := 3) (L' := [some (.ref a0), some (.int x1), some (.int x2), some (.int s0), some (.int x4)]) rfl (ltb rfl) rfl (mF fc252 (by rfl))).trans ?_
  refine (G_iinc (k := 4) (L' := [some (.ref a0), some (.int x1), some (.int x2), some (.int s0), some (.int (x4 + ii 1))]) rfl rfl rfl (mF fc252 (by rfl))).trans ?_
  refine (G_goto (mF fc252 (by rfl))).trans ?_
  exact Iff.rfl
theorem e252 {d : Nat} {h : mHeap} {K : Int32 → mHeap → Prop} {a0 : Nat} {x1 : Int32} {x2 : Int32} : GoCi (d + 1) 252 [.ref a0, .int x1, .int x2] h K ↔ Go d 252 0 [some (.ref a0), some (.int x1), some (.int x2), none, none] [] h (rI K) := GoCi_entry rfl rfl
set_option maxRecDepth 20000 in
theorem fc253 : mCodes[253]? = some mc253 := rfl
theorem b253_0 {d : Nat} {h : mHeap} {Q : Option Value → mHeap → Prop} {a0 : Nat} {x1 : Int32} {x2 : Int32} : Go d 253 0 [some (.ref a0), some (.int x1), some (.int x2), none] [] h Q ↔ Go d 253 2 [some (.ref a0), some (.int x1), some (.int x2), some (.int (ii 0))] [] h Q := by
  refine (G_iconst (mF fc253 (by rfl))).trans ?_
  refine (G_istore (k := 3) (L' := [some (.ref a0), some (.int x1), some (.int x2), some (.int (ii 0))]) rfl (ltb rfl) rfl (mF fc253 (by rfl))).trans ?_
  exact Iff.rfl
theorem b253_2 {d : Nat} {h : mHeap} {Q : Option Value → mHeap → Prop} {a0 : Nat} {x1 : Int32} {x2 : Int32} {x3 : Int32} : Go d 253 2 [some (.ref a0), some (.int x1), some (.int x2), some (.int x3)] [] h Q ↔ oC h a0 = 12 ∧ GoCi d 191 [.ref a0] h (fun v1 h1 => (if v1 ≤ x3 then (Q none h1) else (GoCi d 185 [.int x3, .int x2] h1 (fun v2 h2 => okF h2 a0 12 1 2 ∧ okA h2 (fR h2 a0 1) .int (ii 1) ∧ GoCi d 185 [.int (eI h2 (fR h2 a0 1) (ii 1)), .int x2] h2 (fun v3 h3 => (if v2 = v3 then (Go d 253 53 [some (.ref a0), some (.int x1), some (.int x2), some (.int x3)] [] h3 Q) else (okF h3 a0 12 15 2 ∧ (¬ (ii 32) = ii 0) ∧ okA h3 (fR h3 a0 15) .int (((ii 8) * x1) + (x3 / (ii 32))) ∧ (¬ (ii 32) = ii 0) ∧ (64 ≤ (fR h3 a0 15) ∧ okA h3 (fR h3 a0 15) .int (((ii 8) * x1) + (x3 / (ii 32)))) ∧ Go d 253 53 [some (.ref a0), some (.int x1), some (.int x2), some (.int x3)] [] (sI h3 (fR h3 a0 15) (((ii 8) * x1) + (x3 / (ii 32))) ((eI h3 (fR h3 a0 15) (((ii 8) * x1) + (x3 / (ii 32)))) &&& ((shl (ii 1) (irm x3 (ii 32))) ^^^ (ii (-1))))) Q))))))) := by
  refine (G_iload rfl (mF fc253 (by rfl))).trans ?_
  refine (G_aload rfl (mF fc253 (by rfl))).trans ?_
  refine (G_Vi (q := 97985) (y := 191) (a := a0) (c := 12) rfl rfl rfl rfl (by decide) rfl (as := [.ref a0]) (rest := [.int x3]) rfl rfl (mF fc253 (by rfl))).trans (andR (GoCi_congr fun v1 h1 => ?_))
  refine (G_ige (mF fc253 (by rfl))).trans (gi ?_ ?_)
  ·
    exact G_return rfl (mF fc253 (by rfl))
  ·
    refine (G_iload rfl (mF fc253 (by rfl))).trans ?_
    refine (G_iload rfl (mF fc253 (by rfl))).trans ?_
    refine (G_Ti (q := 94914) (y := 185) rfl rfl rfl (as := [.int x3, .int x2]) (rest := []) rfl rfl (mF fc253 (by rfl))).trans (GoCi_congr fun v2 h2 => ?_)
    refine (G_aload rfl (mF fc253 (by rfl))).trans ?_
    refine (G_getR (c := 12) (k := 1) rfl rfl rfl (mF fc253 (by rfl))).trans (andR ?_)
    refine (G_iconst (mF fc253 (by rfl))).trans ?_
    refine (G_iaload (mF fc253 (by rfl))).trans (andR ?_)
    refine (G_iload rfl (mF fc253 (by rfl))).trans ?_
    refine (G_Ti (q := 94914) (y := 185) rfl rfl rfl (as := [.int (eI h2 (fR h2 a0 1) (ii 1)), .int x2]) (rest := [.int v2]) rfl rfl (mF fc253 (by rfl))).trans (GoCi_congr fun v3 h3 => ?_)
    refine (G_ieq (mF fc253 (by rfl))).trans (gi ?_ ?_)
    ·
      exact Iff.rfl
    ·
      refine (G_aload rfl (mF fc253 (by rfl))).trans ?_
      refine (G_getR (c := 12) (k := 15) rfl rfl rfl (mF fc253 (by rfl))).trans (andR ?_)
      refine (G_iconst (mF fc253 (by rfl))).trans ?_
      refine (G_iload rfl (mF fc253 (by rfl))).trans ?_
      refine (G_imul (mF fc253 (by rfl))).trans ?_
      refine (G_iload rfl (mF fc253 (by rfl))).trans ?_
      refine (G_iconst (mF fc253 (by rfl))).trans ?_
      refine (G_idiv (mF fc253 (by rfl))).trans (andR ?_)
      refine (G_iadd (mF fc253 (by rfl))).trans ?_
      refine (G_dup2r (mF fc253 (by rfl))).trans ?_
      refine (G_iaload (mF fc253 (by rfl))).trans (andR ?_)
      refine (G_iconst (mF fc253 (by rfl))).trans ?_
      refine (G_iload rfl (mF fc253 (by rfl))).trans ?_
      refine (G_iconst (mF fc253 (by rfl))).trans ?_
      refine (G_irem (mF fc253 (by rfl))).trans (andR ?_)
      refine (G_ishl (mF fc253 (by rfl))).trans ?_
      refine (G_iconst (mF fc253 (by rfl))).trans ?_
      refine (G_ixor (mF fc253 (by rfl))).trans ?_
      refine (G_iand (mF fc253 (by rfl))).trans ?_
      refine (G_iastore (mF fc253 (by rfl))).trans (andR ?_)
      exact Iff.rfl
theorem b253_53 {d : Nat} {h : mHeap} {Q : Option Value → mHeap → Prop} {a0 : Nat} {x1 : Int32} {x2 : Int32} {x3 : Int32} : Go d 253 53 [some (.ref a0), some (.int x1), some (.int x2), some (.int x3)] [] h Q ↔ Go d 253 2 [some (.ref a0), some (.int x1), some (.int x2), some (.int (x3 + ii 1))] [] h Q := by
  refine (G_iinc (k := 3) (L' := [some (.ref a0), some (.int x1), some (.int x2), some (.int (x3 + ii 1))]) rfl rfl rfl (mF fc253 (by rfl))).trans ?_
  refine (G_goto (mF fc253 (by rfl))).trans ?_
  exact Iff.rfl
theorem e253 {d : Nat} {h : mHeap} {K : mHeap → Prop} {a0 : Nat} {x1 : Int32} {x2 : Int32} : GoCv (d + 1) 253 [.ref a0, .int x1, .int x2] h K ↔ Go d 253 0 [some (.ref a0), some (.int x1), some (.int x2), none] [] h (rV K) := GoCv_entry rfl rfl
set_option maxRecDepth 20000 in
theorem fc254 : mCodes[254]? = some mc254 := rfl
theorem b254_0 {d : Nat} {h : mHeap} {Q : Option Value → mHeap → Prop} {a0 : Nat} {x1 : Int32} {x2 : Int32} : Go d 254 0 [some (.ref a0), some (.int x1), some (.int x2), none, none] [] h Q ↔ oC h a0 = 12 ∧ GoCi d 187 [.ref a0, .int x1] h (fun v1 h1 => (if ¬ v1 = ii 0 then ((if x2 = ii 0 then (okF h1 a0 12 2 2 ∧ okA h1 (fR h1 a0 2) .int x1 ∧ Q (some (.int (eI h1 (fR h1 a0 2) x1))) h1) else (if x2 = ii 1 then (okF h1 a0 12 3 2 ∧ okA h1 (fR h1 a0 3) .int x1 ∧ Q (some (.int (eI h1 (fR h1 a0 3) x1))) h1) else (if x2 = ii 2 then (okF h1 a0 12 4 2 ∧ okA h1 (fR h1 a0 4) .int x1 ∧ Q (some (.int (eI h1 (fR h1 a0 4) x1))) h1) else (if x2 = ii 3 then (okF h1 a0 12 5 2 ∧ okA h1 (fR h1 a0 5) .int x1 ∧ Q (some (.int (eI h1 (fR h1 a0 5) x1))) h1) else (if x2 = ii 4 then (okF h1 a0 12 6 2 ∧ okA h1 (fR h1 a0 6) .int x1 ∧ Q (some (.int (eI h1 (fR h1 a0 6) x1))) h1) else (if x2 = ii 5 then (oC h1 a0 = 12 ∧ GoCi d 246 [.ref a0, .int x1] h1 (fun v2 h2 => Q (some (.int v2)) h2)) else (if x2 = ii 6 then (Go d 254 98 [some (.ref a0), some (.int x1), some (.int x2), some (.int (ii 0)), some (.int (ii 0))] [] h1 Q) else (Q (some (.int (ii (-1)))) h1))))))))) else (Q (some (.int (ii (-1)))) h1))) := by
  refine (G_aload rfl (mF fc254 (by rfl))).trans ?_
  refine (G_iload rfl (mF fc254 (by rfl))).trans ?_
  refine (G_Vi (q := 95938) (y := 187) (a := a0) (c := 12) rfl rfl rfl rfl (by decide) rfl (as := [.ref a0, .int x1]) (rest := []) rfl rfl (mF fc254 (by rfl))).trans (andR (GoCi_congr fun v1 h1 => ?_))
  refine (G_ne (mF fc254 (by rfl))).trans (gi ?_ ?_)
  ·
    refine (G_iload rfl (mF fc254 (by rfl))).trans ?_
    refine (G_tableswitch (lo := 0) (hi := 6) [52, 59, 66, 73, 80, 87, 93] rfl (by decide) (by decide) (by decide) (mF fc254 (by rfl))).trans ?_
    refine gi ?_ ?_
    ·
      refine (G_aload rfl (mF fc254 (by rfl))).trans ?_
      refine (G_getR (c := 12) (k := 2) rfl rfl rfl (mF fc254 (by rfl))).trans (andR ?_)
      refine (G_iload rfl (mF fc254 (by rfl))).trans ?_
      refine (G_iaload (mF fc254 (by rfl))).trans (andR ?_)
      exact G_ireturnI rfl (mF fc254 (by rfl))
    ·
      refine gi ?_ ?_
      ·
        refine (G_aload rfl (mF fc254 (by rfl))).trans ?_
        refine (G_getR (c := 12) (k := 3) rfl rfl rfl (mF fc254 (by rfl))).trans (andR ?_)
        refine (G_iload rfl (mF fc254 (by rfl))).trans ?_
        refine (G_iaload (mF fc254 (by rfl))).trans (andR ?_)
        exact G_ireturnI rfl (mF fc254 (by rfl))
      ·
        refine gi ?_ ?_
        ·
          refine (G_aload rfl (mF fc254 (by rfl))).trans ?_
          refine (G_getR (c := 12) (k := 4) rfl rfl rfl (mF fc254 (by rfl))).trans (andR ?_)
          refine (G_iload rfl (mF fc254 (by rfl))).trans ?_
          refine (G_iaload (mF fc254 (by rfl))).trans (andR ?_)
          exact G_ireturnI rfl (mF fc254 (by rfl))
        ·
          refine gi ?_ ?_
          ·
            refine (G_aload rfl (mF fc254 (by rfl))).trans ?_
            refine (G_getR (c := 12) (k := 5) rfl rfl rfl (mF fc254 (by rfl))).trans (andR ?_)
            refine (G_iload rfl (mF fc254 (by rfl))).trans ?_
            refine (G_iaload (mF fc254 (by rfl))).trans (andR ?_)
            exact G_ireturnI rfl (mF fc254 (by rfl))
          ·
            refine gi ?_ ?_
            ·
              refine (G_aload rfl (mF fc254 (by rfl))).trans ?_
              refine (G_getR (c := 12) (k := 6) rfl rfl rfl (mF fc254 (by rfl))).trans (andR ?_)
              refine (G_iload rfl (mF fc254 (by rfl))).trans ?_
              refine (G_iaload (mF fc254 (by rfl))).trans (andR ?_)
              exact G_ireturnI rfl (mF fc254 (by rfl))
            ·
              refine gi ?_ ?_
              ·
                refine (G_aload rfl (mF fc254 (by rfl))).trans ?_
                refine (G_iload rfl (mF fc254 (by rfl))).trans ?_
                refine (G_Vi (q := 126146) (y := 246) (a := a0) (c := 12) rfl rfl rfl rfl (by decide) rfl (as := [.ref a0, .int x1]) (rest := []) rfl rfl (mF fc254 (by rfl))).trans (andR (GoCi_congr fun v2 h2 => ?_))
                exact G_ireturnI rfl (mF fc254 (by rfl))
              ·
                refine gi ?_ ?_
                ·
                  refine (G_iconst (mF fc254 (by rfl))).trans ?_
                  refine (G_istore (k := 3) (L' := [some (.ref a0), some (.int x1), some (.int x2), some (.int (ii 0)), none]) rfl (ltb rfl) rfl (mF fc254 (by rfl))).trans ?_
                  refine (G_iconst (mF fc254 (by rfl))).trans ?_
                  refine (G_istore (k := 4) (L' := [some (.ref a0), some (.int x1), some (.int x2), some (.int (ii 0)), some (.int (ii 0))]) rfl (ltb rfl) rfl (mF fc254 (by rfl))).trans ?_
                  exact Iff.rfl
                ·
                  refine (G_iconst (mF fc254 (by rfl))).trans ?_
                  exact G_ireturnI rfl (mF fc254 (by rfl))
  ·
    refine (G_iconst (mF fc254 (by rfl))).trans ?_
    exact G_ireturnI rfl (mF fc254 (by rfl))
theorem b254_98 {d : Nat} {h : mHeap} {Q : Option Value → mHeap → Prop} {a0 : Nat} {x1 : Int32} {l2 : Option Value} {x3 : Int32} {x4 : Int32} : Go d 254 98 [some (.ref a0), some (.int x1), l2, some (.int x3), some (.int x4)] [] h Q ↔ okF h a0 12 1 2 ∧ okA h (fR h a0 1) .int (ii 0) ∧ (if (eI h (fR h a0 1) (ii 0)) ≤ x4 then (Q (some (.int x3)) h) else (oC h a0 = 12 ∧ GoCi d 252 [.ref a0, .int x1, .int x4] h (fun v1 h1 => (if v1 = ii 0 then (Go d 254 128 [some (.ref a0), some (.int x1), l2, some (.int x3), some (.int x4)] [.int (ii 0), .int x3] h1 Q) else (Go d 254 128 [some (.ref a0), some (.int x1), l2, some (.int x3), some (.int x4)] [.int (shl (ii 1) x4), .int x3] h1 Q))))) := by
  refine (G_iload rfl (mF fc254 (by rfl))).trans ?_
  refine (G_aload rfl (mF fc254 (by rfl))).trans ?_
  refine (G_getR (c := 12) (k := 1) rfl rfl rfl (mF fc254 (by rfl))).trans (andR ?_)
  refine (G_iconst (mF fc254 (by rfl))).trans ?_
  refine (G_iaload (mF fc254 (by rfl))).trans (andR ?_)
  refine (G_ige (mF fc254 (by rfl))).trans (gi ?_ ?_)
  ·
    refine (G_iload rfl (mF fc254 (by rfl))).trans ?_
    exact G_ireturnI rfl (mF fc254 (by rfl))
  ·
    refine (G_iload rfl (mF fc254 (by rfl))).trans ?_
    refine (G_aload rfl (mF fc254 (by rfl))).trans ?_
    refine (G_iload rfl (mF fc254 (by rfl))).trans ?_
    refine (G_iload rfl (mF fc254 (by rfl))).trans ?_
    refine (G_Vi (q := 129219) (y := 252) (a := a0) (c := 12) rfl rfl rfl rfl (by decide) rfl (as := [.ref a0, .int x1, .int x4]) (rest := [.int x3]) rfl rfl (mF fc254 (by rfl))).trans (andR (GoCi_congr fun v1 h1 => ?_))
    refine (G_eq (mF fc254 (by rfl))).trans (gi ?_ ?_)
    ·
      refine (G_iconst (mF fc254 (by rfl))).trans ?_
      exact Iff.rfl
    ·
      refine (G_iconst (mF fc254 (by rfl))).trans ?_
      refine (G_iload rfl (mF fc254 (by rfl))).trans ?_
      refine (G_ishl (mF fc254 (by rfl))).trans ?_
      refine (G_goto (mF fc254 (by rfl))).trans ?_
      exact Iff.rfl
theorem b254_128 {d : Nat} {h : mHeap} {Q : Option Value → mHeap → Prop} {a0 : Nat} {x1 : Int32} {l2 : Option Value} {l3 : Option Value} {x4 : Int32} {s0 : Int32} {s1 : Int32} (hl2 : mNo l2 = true) : Go d 254 128 [some (.ref a0), some (.int x1), l2, l3, some (.int x4)] [.int s1, .int s0] h Q ↔ Go d 254 98 [some (.ref a0), some (.int x1), l2, some (.int (s0 ||| s1)), some (.int (x4 + ii 1))] [] h Q := by
  refine (G_ior (mF fc254 (by rfl))).trans ?_
  refine (G_istore (k := 3) (L' := [some (.ref a0), some (.int x1), l2, some (.int (s0 ||| s1)), some (.int x4)]) rfl (ltb rfl) (by exact hl2) (mF fc254 (by rfl))).trans ?_
  refine (G_iinc (k := 4) (L' := [some (.ref a0), some (.int x1), l2, some (.int (s0 ||| s1)), some (.int (x4 + ii 1))]) rfl rfl rfl (mF fc254 (by rfl))).trans ?_
  refine (G_goto (mF fc254 (by rfl))).trans ?_
  exact Iff.rfl
theorem e254 {d : Nat} {h : mHeap} {K : Int32 → mHeap → Prop} {a0 : Nat} {x1 : Int32} {x2 : Int32} : GoCi (d + 1) 254 [.ref a0, .int x1, .int x2] h K ↔ Go d 254 0 [some (.ref a0), some (.int x1), some (.int x2), none, none] [] h (rI K) := GoCi_entry rfl rfl
set_option maxRecDepth 20000 in
theorem fc255 : mCodes[255]? = some mc255 := rfl
theorem b255_0 {d : Nat} {h : mHeap} {Q : Option Value → mHeap → Prop} {a0 : Nat} {x1 : Int32} : Go d 255 0 [some (.ref a0), some (.int x1)] [] h Q ↔ oC h a0 = 12 ∧ GoCi d 189 [.ref a0, .int x1] h (fun v1 h1 => (if v1 = ii 0 then (Q (some (.int (ii (-1)))) h1) else (okF h1 a0 12 1 2 ∧ okA h1 (fR h1 a0 1) .int (ii 1) ∧ Q (some (.int ((shr (eI h1 (fR h1 a0 1) (ii 1)) x1) &&& (ii 1)))) h1))) := by
  refine (G_aload rfl (mF fc255 (by rfl))).trans ?_
  refine (G_iload rfl (mF fc255 (by rfl))).trans ?_
  refine (G_Vi (q := 96962) (y := 189) (a := a0) (c := 12) rfl rfl rfl rfl (by decide) rfl (as := [.ref a0, .int x1]) (rest := []) rfl rfl (mF fc255 (by rfl))).trans (andR (GoCi_congr fun v1 h1 => ?_))
  refine (G_eq (mF fc255 (by rfl))).trans (gi ?_ ?_)
  ·
    refine (G_iconst (mF fc255 (by rfl))).trans ?_
    exact G_ireturnI rfl (mF fc255 (by rfl))
  ·
    refine (G_aload rfl (mF fc255 (by rfl))).trans ?_
    refine (G_getR (c := 12) (k := 1) rfl rfl rfl (mF fc255 (by rfl))).trans (andR ?_)
    refine (G_iconst (mF fc255 (by rfl))).trans ?_
    refine (G_iaload (mF fc255 (by rfl))).trans (andR ?_)
    refine (G_iload rfl (mF fc255 (by rfl))).trans ?_
    refine (G_ishr (mF fc255 (by rfl))).trans ?_
    refine (G_iconst (mF fc255 (by rfl))).trans ?_
    refine (G_iand (mF fc255 (by rfl))).trans ?_
    refine (G_goto (mF fc255 (by rfl))).trans ?_
    exact G_ireturnI rfl (mF fc255 (by rfl))
theorem e255 {d : Nat} {h : mHeap} {K : Int32 → mHeap → Prop} {a0 : Nat} {x1 : Int32} : GoCi (d + 1) 255 [.ref a0, .int x1] h K ↔ Go d 255 0 [some (.ref a0), some (.int x1)] [] h (rI K) := GoCi_entry rfl rfl
set_option maxRecDepth 20000 in
theorem fc256 : mCodes[256]? = some mc256 := rfl
theorem b256_0 {d : Nat} {h : mHeap} {Q : Option Value → mHeap → Prop} {a0 : Nat} {x1 : Int32} : Go d 256 0 [some (.ref a0), some (.int x1)] [] h Q ↔ oC h a0 = 12 ∧ GoCi d 188 [.ref a0, .int x1] h (fun v1 h1 => (if v1 = ii 0 then (Q (some (.int (ii (-1)))) h1) else (okF h1 a0 12 7 2 ∧ okA h1 (fR h1 a0 7) .int x1 ∧ Q (some (.int (eI h1 (fR h1 a0 7) x1))) h1))) := by
  refine (G_aload rfl (mF fc256 (by rfl))).trans ?_
  refine (G_iload rfl (mF fc256 (by rfl))).trans ?_
  refine (G_Vi (q := 96450) (y := 188) (a := a0) (c := 12) rfl rfl rfl rfl (by decide) rfl (as := [.ref a0, .int x1]) (rest := []) rfl rfl (mF fc256 (by rfl))).trans (andR (GoCi_congr fun v1 h1 => ?_))
  refine (G_eq (mF fc256 (by rfl))).trans (gi ?_ ?_)
  ·
    refine (G_iconst (mF fc256 (by rfl))).trans ?_
    exact G_ireturnI rfl (mF fc256 (by rfl))
  ·
    refine (G_aload rfl (mF fc256 (by rfl))).trans ?_
    refine (G_getR (c := 12) (k := 7) rfl rfl rfl (mF fc256 (by rfl))).trans (andR ?_)
    refine (G_iload rfl (mF fc256 (by rfl))).trans ?_
    refine (G_iaload (mF fc256 (by rfl))).trans (andR ?_)
    refine (G_goto (mF fc256 (by rfl))).trans ?_
    exact G_ireturnI rfl (mF fc256 (by rfl))
theorem e256 {d : Nat} {h : mHeap} {K : Int32 → mHeap → Prop} {a0 : Nat} {x1 : Int32} : GoCi (d + 1) 256 [.ref a0, .int x1] h K ↔ Go d 256 0 [some (.ref a0), some (.int x1)] [] h (rI K) := GoCi_entry rfl rfl
set_option maxRecDepth 20000 in
theorem fc257 : mCodes[257]? = some mc257 := rfl
theorem b257_0 {d : Nat} {h : mHeap} {Q : Option Value → mHeap → Prop} {a0 : Nat} : Go d 257 0 [some (.ref a0), none, none, none, none] [] h Q ↔ Go d 257 2 [some (.ref a0), some (.int (ii 0)), none, none, none] [] h Q := by
  refine (G_iconst (mF fc257 (by rfl))).trans ?_
  refine (G_istore (k := 1) (L' := [some (.ref a0), some (.int (ii 0)), none, none, none]) rfl (ltb rfl) rfl (mF fc257 (by rfl))).trans ?_
  exact Iff.rfl
theorem b257_2 {d : Nat} {h : mHeap} {Q : Option Value → mHeap → Prop} {a0 : Nat} {x1 : Int32} {l2 : Option Value} {l3 : Option Value} {l4 : Option Value} : Go d 257 2 [some (.ref a0), some (.int x1), l2, l3, l4] [] h Q ↔ (if (ii 6) ≤ x1 then (Go d 257 53 [some (.ref a0), some (.int (ii 0)), l2, l3, l4] [] h Q) else (Go d 257 10 [some (.ref a0), some (.int x1), some (.int (ii 0)), l3, l4] [] h Q)) := by
  refine (G_iload rfl (mF fc257 (by rfl))).trans ?_
  refine (G_iconst (mF fc257 (by rfl))).trans ?_
  refine (G_ige (mF fc257 (by rfl))).trans (gi ?_ ?_)
  ·
    refine (G_iconst (mF fc257 (by rfl))).trans ?_
    refine (G_istore (k := 1) (L' := [some (.ref a0), some (.int (ii 0)), l2, l3, l4]) rfl (ltb rfl) rfl (mF fc257 (by rfl))).trans ?_
    exact Iff.rfl
  ·
    refine (G_iconst (mF fc257 (by rfl))).trans ?_
    refine (G_istore (k := 2) (L' := [some (.ref a0), some (.int x1), some (.int (ii 0)), l3, l4]) rfl (ltb rfl) rfl (mF fc257 (by rfl))).trans ?_
    exact Iff.rfl
theorem b257_10 {d : Nat} {h : mHeap} {Q : Option Value → mHeap → Prop} {a0 : Nat} {x1 : Int32} {x2 : Int32} {l3 : Option Value} {l4 : Option Value} : Go d 257 10 [some (.ref a0), some (.int x1), some (.int x2), l3, l4] [] h Q ↔ (if (ii 6) ≤ x2 then (Go d 257 2 [some (.ref a0), some (.int (x1 + ii 1)), some (.int x2), l3, l4] [] h Q) else (okF h a0 12 56 2 ∧ (if ¬ x1 = x2 then (Go d 257 38 [some (.ref a0), some (.int x1), some (.int x2), l3, l4] [.int (ii 100000), .int (((ii 6) * x1) + x2), .ref (fR h a0 56)] h Q) else (Go d 257 38 [some (.ref a0), some (.int x1), some (.int x2), l3, l4] [.int (ii 0), .int (((ii 6) * x1) + x2), .ref (fR h a0 56)] h Q)))) := by
  refine (G_iload rfl (mF fc257 (by rfl))).trans ?_
  refine (G_iconst (mF fc257 (by rfl))).trans ?_
  refine (G_ige (mF fc257 (by rfl))).trans (gi ?_ ?_)
  ·
    refine (G_iinc (k := 1) (L' := [some (.ref a0), some (.int (x1 + ii 1)), some (.int x2), l3, l4]) rfl rfl rfl (mF fc257 (by rfl))).trans ?_
    refine (G_goto (mF fc257 (by rfl))).trans ?_
    exact Iff.rfl
  ·
    refine (G_aload rfl (mF fc257 (by rfl))).trans ?_
    refine (G_getR (c := 12) (k := 56) rfl rfl rfl (mF fc257 (by rfl))).trans (andR ?_)
    refine (G_iconst (mF fc257 (by rfl))).trans ?_
    refine (G_iload rfl (mF fc257 (by rfl))).trans ?_
    refine (G_imul (mF fc257 (by rfl))).trans ?_
    refine (G_iload rfl (mF fc257 (by rfl))).trans ?_
    refine (G_iadd (mF fc257 (by rfl))).trans ?_
    refine (G_iload rfl (mF fc257 (by rfl))).trans ?_
    refine (G_iload rfl (mF fc257 (by rfl))).trans ?_
    refine (G_ine (mF fc257 (by rfl))).trans (gi ?_ ?_)
    ·
      refine (G_iconst (mF fc257 (by rfl))).trans ?_
      exact Iff.rfl
    ·
      refine (G_iconst (mF fc257 (by rfl))).trans ?_
      refine (G_goto (mF fc257 (by rfl))).trans ?_
      exact Iff.rfl
theorem b257_38 {d : Nat} {h : mHeap} {Q : Option Value → mHeap → Prop} {a0 : Nat} {x1 : Int32} {x2 : Int32} {l3 : Option Value} {l4 : Option Value} {r0 : Nat} {s1 : Int32} {s2 : Int32} : Go d 257 38 [some (.ref a0), some (.int x1), some (.int x2), l3, l4] [.int s2, .int s1, .ref r0] h Q ↔ (64 ≤ r0 ∧ okA h r0 .int s1) ∧ Go d 257 10 [some (.ref a0), some (.int x1), some (.int (x2 + ii 1)), l3, l4] [] (sI h r0 s1 s2) Q := by
  refine (G_iastore (mF fc257 (by rfl))).trans (andR ?_)
  refine (G_iinc (k := 2) (L' := [some (.ref a0), some (.int x1), some (.int (x2 + ii 1)), l3, l4]) rfl rfl rfl (mF fc257 (by rfl))).trans ?_
  refine (G_goto (mF fc257 (by rfl))).trans ?_
  exact Iff.rfl
theorem b257_53 {d : Nat} {h : mHeap} {Q : Option Value → mHeap → Prop} {a0 : Nat} {x1 : Int32} {l2 : Option Value} {l3 : Option Value} {l4 : Option Value} : Go d 257 53 [some (.ref a0), some (.int x1), l2, l3, l4] [] h Q ↔ okF h a0 12 1 2 ∧ okA h (fR h a0 1) .int (ii 4) ∧ (if (eI h (fR h a0 1) (ii 4)) ≤ x1 then (Go d 257 153 [some (.ref a0), some (.int (ii 0)), l2, l3, l4] [] h Q) else (okF h a0 12 8 2 ∧ okA h (fR h a0 8) .int x1 ∧ okF h a0 12 9 2 ∧ okA h (fR h a0 9) .int x1 ∧ okF h a0 12 9 2 ∧ okA h (fR h a0 9) .int x1 ∧ okF h a0 12 8 2 ∧ okA h (fR h a0 8) .int x1 ∧ okF h a0 12 56 2 ∧ okF h a0 12 10 2 ∧ okA h (fR h a0 10) .int x1 ∧ okF h a0 12 56 2 ∧ okA h (fR h a0 56) .int (((ii 6) * (eI h (fR h a0 8) x1)) + (eI h (fR h a0 9) x1)) ∧ (if (eI h (fR h a0 56) (((ii 6) * (eI h (fR h a0 8) x1)) + (eI h (fR h a0 9) x1))) ≤ (eI h (fR h a0 10) x1) then (okF h a0 12 56 2 ∧ okA h (fR h a0 56) .int (((ii 6) * (eI h (fR h a0 8) x1)) + (eI h (fR h a0 9) x1)) ∧ Go d 257 132 [some (.ref a0), some (.int x1), some (.int (((ii 6) * (eI h (fR h a0 8) x1)) + (eI h (fR h a0 9) x1))), some (.int (((ii 6) * (eI h (fR h a0 9) x1)) + (eI h (fR h a0 8) x1))), l4] [.int (eI h (fR h a0 56) (((ii 6) * (eI h (fR h a0 8) x1)) + (eI h (fR h a0 9) x1))), .int (((ii 6) * (eI h (fR h a0 8) x1)) + (eI h (fR h a0 9) x1)), .ref (fR h a0 56)] h Q) else (okF h a0 12 10 2 ∧ okA h (fR h a0 10) .int x1 ∧ Go d 257 132 [some (.ref a0), some (.int x1), some (.int (((ii 6) * (eI h (fR h a0 8) x1)) + (eI h (fR h a0 9) x1))), some (.int (((ii 6) * (eI h (fR h a0 9) x1)) + (eI h (fR h a0 8) x1))), l4] [.int (eI h (fR h a0 10) x1), .int (((ii 6) * (eI h (fR h a0 8) x1)) + (eI h (fR h a0 9) x1)), .ref (fR h a0 56)] h Q)))) := by
  refine (G_iload rfl (mF fc257 (by rfl))).trans ?_
  refine (G_aload rfl (mF fc257 (by rfl))).trans ?_
  refine (G_getR (c := 12) (k := 1) rfl rfl rfl (mF fc257 (by rfl))).trans (andR ?_)
  refine (G_iconst (mF fc257 (by rfl))).trans ?_
  refine (G_iaload (mF fc257 (by rfl))).trans (andR ?_)
  refine (G_ige (mF fc257 (by rfl))).trans (gi ?_ ?_)
  ·
    refine (G_iconst (mF fc257 (by rfl))).trans ?_
    refine (G_istore (k := 1) (L' := [some (.ref a0), some (.int (ii 0)), l2, l3, l4]) rfl (ltb rfl) rfl (mF fc257 (by rfl))).trans ?_
    exact Iff.rfl
  ·
    refine (G_iconst (mF fc257 (by rfl))).trans ?_
    refine (G_aload rfl (mF fc257 (by rfl))).trans ?_
    refine (G_getR (c := 12) (k := 8) rfl rfl rfl (mF fc257 (by rfl))).trans (andR ?_)
    refine (G_iload rfl (mF fc257 (by rfl))).trans ?_
    refine (G_iaload (mF fc257 (by rfl))).trans (andR ?_)
    refine (G_imul (mF fc257 (by rfl))).trans ?_
    refine (G_aload rfl (mF fc257 (by rfl))).trans ?_
    refine (G_getR (c := 12) (k := 9) rfl rfl rfl (mF fc257 (by rfl))).trans (andR ?_)
    refine (G_iload rfl (mF fc257 (by rfl))).trans ?_
    refine (G_iaload (mF fc257 (by rfl))).trans (andR ?_)
    refine (G_iadd (mF fc257 (by rfl))).trans ?_
    refine (G_istore (k := 2) (L' := [some (.ref a0), some (.int x1), some (.int (((ii 6) * (eI h (fR h a0 8) x1)) + (eI h (fR h a0 9) x1))), l3, l4]) rfl (ltb rfl) rfl (mF fc257 (by rfl))).trans ?_
    refine (G_iconst (mF fc257 (by rfl))).trans ?_
    refine (G_aload rfl (mF fc257 (by rfl))).trans ?_
    refine (G_getR (c := 12) (k := 9) rfl rfl rfl (mF fc257 (by rfl))).trans (andR ?_)
    refine (G_iload rfl (mF fc257 (by rfl))).trans ?_
    refine (G_iaload (mF fc257 (by rfl))).trans (andR ?_)
    refine (G_imul (mF fc257 (by rfl))).trans ?_
    refine (G_aload rfl (mF fc257 (by rfl))).trans ?_
    refine (G_getR (c := 12) (k := 8) rfl rfl rfl (mF fc257 (by rfl))).trans (andR ?_)
    refine (G_iload rfl (mF fc257 (by rfl))).trans ?_
    refine (G_iaload (mF fc257 (by rfl))).trans (andR ?_)
    refine (G_iadd (mF fc257 (by rfl))).trans ?_
    refine (G_istore (k := 3) (L' := [some (.ref a0), some (.int x1), some (.int (((ii 6) * (eI h (fR h a0 8) x1)) + (eI h (fR h a0 9) x1))), some (.int (((ii 6) * (eI h (fR h a0 9) x1)) + (eI h (fR h a0 8) x1))), l4]) rfl (ltb rfl) rfl (mF fc257 (by rfl))).trans ?_
    refine (G_aload rfl (mF fc257 (by rfl))).trans ?_
    refine (G_getR (c := 12) (k := 56) rfl rfl rfl (mF fc257 (by rfl))).trans (andR ?_)
    refine (G_iload rfl (mF fc257 (by rfl))).trans ?_
    refine (G_aload rfl (mF fc257 (by rfl))).trans ?_
    refine (G_getR (c := 12) (k := 10) rfl rfl rfl (mF fc257 (by rfl))).trans (andR ?_)
    refine (G_iload rfl (mF fc257 (by rfl))).trans ?_
    refine (G_iaload (mF fc257 (by rfl))).trans (andR ?_)
    refine (G_aload rfl (mF fc257 (by rfl))).trans ?_
    refine (G_getR (c := 12) (k := 56) rfl rfl rfl (mF fc257 (by rfl))).trans (andR ?_)
    refine (G_iload rfl (mF fc257 (by rfl))).trans ?_
    refine (G_iaload (mF fc257 (by rfl))).trans (andR ?_)
    refine (G_ige (mF fc257 (by rfl))).trans (gi ?_ ?_)
    ·
      refine (G_aload rfl (mF fc257 (by rfl))).trans ?_
      refine (G_getR (c := 12) (k := 56) rfl rfl rfl (mF fc257 (by rfl))).trans (andR ?_)
      refine (G_iload rfl (mF fc257 (by rfl))).trans ?_
      refine (G_iaload (mF fc257 (by rfl))).trans (andR ?_)
      exact Iff.rfl
    ·
      refine (G_aload rfl (mF fc257 (by rfl))).trans ?_
      refine (G_getR (c := 12) (k := 10) rfl rfl rfl (mF fc257 (by rfl))).trans (andR ?_)
      refine (G_iload rfl (mF fc257 (by rfl))).trans ?_
      refine (G_iaload (mF fc257 (by rfl))).trans (andR ?_)
      refine (G_goto (mF fc257 (by rfl))).trans ?_
      exact Iff.rfl
theorem b257_132 {d : Nat} {h : mHeap} {Q : Option Value → mHeap → Prop} {a0 : Nat} {x1 : Int32} {x2 : Int32} {x3 : Int32} {l4 : Option Value} {r0 : Nat} {s1 : Int32} {s2 : Int32} : Go d 257 132 [some (.ref a0), some (.int x1), some (.int x2), some (.int x3), l4] [.int s2, .int s1, .ref r0] h Q ↔ (64 ≤ r0 ∧ okA h r0 .int s1) ∧ okF (sI h r0 s1 s2) a0 12 56 2 ∧ okF (sI h r0 s1 s2) a0 12 56 2 ∧ okA (sI h r0 s1 s2) (fR (sI h r0 s1 s2) a0 56) .int x2 ∧ (64 ≤ (fR (sI h r0 s1 s2) a0 56) ∧ okA (sI h r0 s1 s2) (fR (sI h r0 s1 s2) a0 56) .int x3) ∧ Go d 257 53 [some (.ref a0), some (.int (x1 + ii 1)), some (.int x2), some (.int x3), l4] [] (sI (sI h r0 s1 s2) (fR (sI h r0 s1 s2) a0 56) x3 (eI (sI h r0 s1 s2) (fR (sI h r0 s1 s2) a0 56) x2)) Q := by
  refine (G_iastore (mF fc257 (by rfl))).trans (andR ?_)
  refine (G_aload rfl (mF fc257 (by rfl))).trans ?_
  refine (G_getR (c := 12) (k := 56) rfl rfl rfl (mF fc257 (by rfl))).trans (andR ?_)
  refine (G_iload rfl (mF fc257 (by rfl))).trans ?_
  refine (G_aload rfl (mF fc257 (by rfl))).trans ?_
  refine (G_getR (c := 12) (k := 56) rfl rfl rfl (mF fc257 (by rfl))).trans (andR ?_)
  refine (G_iload rfl (mF fc257 (by rfl))).trans ?_
  refine (G_iaload (mF fc257 (by rfl))).trans (andR ?_)
  refine (G_iastore (mF fc257 (by rfl))).trans (andR ?_)
  refine (G_iinc (k := 1) (L' := [some (.ref a0), some (.int (x1 + ii 1)), some (.int x2), some (.int x3), l4]) rfl rfl rfl (mF fc257 (by rfl))).trans ?_
  refine (G_goto (mF fc257 (by rfl))).trans ?_
  exact Iff.rfl
theorem b257_153 {d : Nat} {h : mHeap} {Q : Option Value → mHeap → Prop} {a0 : Nat} {x1 : Int32} {l2 : Option Value} {l3 : Option Value} {l4 : Option Value} : Go d 257 153 [some (.ref a0), some (.int x1), l2, l3, l4] [] h Q ↔ (if (ii 6) ≤ x1 then (Q none h) else (Go d 257 161 [some (.ref a0), some (.int x1), some (.int (ii 0)), l3, l4] [] h Q)) := by
  refine (G_iload rfl (mF fc257 (by rfl))).trans ?_
  refine (G_iconst (mF fc257 (by rfl))).trans ?_
  refine (G_ige (mF fc257 (by rfl))).trans (gi ?_ ?_)
  ·
    exact G_return rfl (mF fc257 (by rfl))
  ·
    refine (G_iconst (mF fc257 (by rfl))).trans ?_
    refine (G_istore (k := 2) (L' := [some (.ref a0), some (.int x1), some (.int (ii 0)), l3, l4]) rfl (ltb rfl) rfl (mF fc257 (by rfl))).trans ?_
    exact Iff.rfl
theorem b257_161 {d : Nat} {h : mHeap} {Q : Option Value → mHeap → Prop} {a0 : Nat} {x1 : Int32} {x2 : Int32} {l3 : Option Value} {l4 : Option Value} : Go d 257 161 [some (.ref a0), some (.int x1), some (.int x2), l3, l4] [] h Q ↔ (if (ii 6) ≤ x2 then (Go d 257 153 [some (.ref a0), some (.int (x1 + ii 1)), some (.int x2), l3, l4] [] h Q) else (Go d 257 169 [some (.ref a0), some (.int x1), some (.int x2), some (.int (ii 0)), l4] [] h Q)) := by
  refine (G_iload rfl (mF fc257 (by rfl))).trans ?_
  refine (G_iconst (mF fc257 (by rfl))).trans ?_
  refine (G_ige (mF fc257 (by rfl))).trans (gi ?_ ?_)
  ·
    refine (G_iinc (k := 1) (L' := [some (.ref a0), some (.int (x1 + ii 1)), some (.int x2), l3, l4]) rfl rfl rfl (mF fc257 (by rfl))).trans ?_
    refine (G_goto (mF fc257 (by rfl))).trans ?_
    exact Iff.rfl
  ·
    refine (G_iconst (mF fc257 (by rfl))).trans ?_
    refine (G_istore (k := 3) (L' := [some (.ref a0), some (.int x1), some (.int x2), some (.int (ii 0)), l4]) rfl (ltb rfl) rfl (mF fc257 (by rfl))).trans ?_
    exact Iff.rfl
theorem b257_169 {d : Nat} {h : mHeap} {Q : Option Value → mHeap → Prop} {a0 : Nat} {x1 : Int32} {x2 : Int32} {x3 : Int32} {l4 : Option Value} : Go d 257 169 [some (.ref a0), some (.int x1), some (.int x2), some (.int x3), l4] [] h Q ↔ (if (ii 6) ≤ x3 then (Go d 257 161 [some (.ref a0), some (.int x1), some (.int (x2 + ii 1)), some (.int x3), l4] [] h Q) else (okF h a0 12 56 2 ∧ okA h (fR h a0 56) .int (((ii 6) * x2) + x1) ∧ okF h a0 12 56 2 ∧ okA h (fR h a0 56) .int (((ii 6) * x1) + x3) ∧ okF h a0 12 56 2 ∧ okF h a0 12 56 2 ∧ okA h (fR h a0 56) .int (((ii 6) * x2) + x3) ∧ (if (eI h (fR h a0 56) (((ii 6) * x2) + x3)) ≤ ((eI h (fR h a0 56) (((ii 6) * x2) + x1)) + (eI h (fR h a0 56) (((ii 6) * x1) + x3))) then (okF h a0 12 56 2 ∧ okA h (fR h a0 56) .int (((ii 6) * x2) + x3) ∧ Go d 257 242 [some (.ref a0), some (.int x1), some (.int x2), some (.int x3), some (.int ((eI h (fR h a0 56) (((ii 6) * x2) + x1)) + (eI h (fR h a0 56) (((ii 6) * x1) + x3))))] [.int (eI h (fR h a0 56) (((ii 6) * x2) + x3)), .int (((ii 6) * x2) + x3), .ref (fR h a0 56)] h Q) else (Go d 257 242 [some (.ref a0), some (.int x1), some (.int x2), some (.int x3), some (.int ((eI h (fR h a0 56) (((ii 6) * x2) + x1)) + (eI h (fR h a0 56) (((ii 6) * x1) + x3))))] [.int ((eI h (fR h a0 56) (((ii 6) * x2) + x1)) + (eI h (fR h a0 56) (((ii 6) * x1) + x3))), .int (((ii 6) * x2) + x3), .ref (fR h a0 56)] h Q)))) := by
  refine (G_iload rfl (mF fc257 (by rfl))).trans ?_
  refine (G_iconst (mF fc257 (by rfl))).trans ?_
  refine (G_ige (mF fc257 (by rfl))).trans (gi ?_ ?_)
  ·
    refine (G_iinc (k := 2) (L' := [some (.ref a0), some (.int x1), some (.int (x2 + ii 1)), some (.int x3), l4]) rfl rfl rfl (mF fc257 (by rfl))).trans ?_
    refine (G_goto (mF fc257 (by rfl))).trans ?_
    exact Iff.rfl
  ·
    refine (G_aload rfl (mF fc257 (by rfl))).trans ?_
    refine (G_getR (c := 12) (k := 56) rfl rfl rfl (mF fc257 (by rfl))).trans (andR ?_)
    refine (G_iconst (mF fc257 (by rfl))).trans ?_
    refine (G_iload rfl (mF fc257 (by rfl))).trans ?_
    refine (G_imul (mF fc257 (by rfl))).trans ?_
    refine (G_iload rfl (mF fc257 (by rfl))).trans ?_
    refine (G_iadd (mF fc257 (by rfl))).trans ?_
    refine (G_iaload (mF fc257 (by rfl))).trans (andR ?_)
    refine (G_aload rfl (mF fc257 (by rfl))).trans ?_
    refine (G_getR (c := 12) (k := 56) rfl rfl rfl (mF fc257 (by rfl))).trans (andR ?_)
    refine (G_iconst (mF fc257 (by rfl))).trans ?_
    refine (G_iload rfl (mF fc257 (by rfl))).trans ?_
    refine (G_imul (mF fc257 (by rfl))).trans ?_
    refine (G_iload rfl (mF fc257 (by rfl))).trans ?_
    refine (G_iadd (mF fc257 (by rfl))).trans ?_
    refine (G_iaload (mF fc257 (by rfl))).trans (andR ?_)
    refine (G_iadd (mF fc257 (by rfl))).trans ?_
    refine (G_istore (k := 4) (L' := [some (.ref a0), some (.int x1), some (.int x2), some (.int x3), some (.int ((eI h (fR h a0 56) (((ii 6) * x2) + x1)) + (eI h (fR h a0 56) (((ii 6) * x1) + x3))))]) rfl (ltb rfl) rfl (mF fc257 (by rfl))).trans ?_
    refine (G_aload rfl (mF fc257 (by rfl))).trans ?_
    refine (G_getR (c := 12) (k := 56) rfl rfl rfl (mF fc257 (by rfl))).trans (andR ?_)
    refine (G_iconst (mF fc257 (by rfl))).trans ?_
    refine (G_iload rfl (mF fc257 (by rfl))).trans ?_
    refine (G_imul (mF fc257 (by rfl))).trans ?_
    refine (G_iload rfl (mF fc257 (by rfl))).trans ?_
    refine (G_iadd (mF fc257 (by rfl))).trans ?_
    refine (G_iload rfl (mF fc257 (by rfl))).trans ?_
    refine (G_aload rfl (mF fc257 (by rfl))).trans ?_
    refine (G_getR (c := 12) (k := 56) rfl rfl rfl (mF fc257 (by rfl))).trans (andR ?_)
    refine (G_iconst (mF fc257 (by rfl))).trans ?_
    refine (G_iload rfl (mF fc257 (by rfl))).trans ?_
    refine (G_imul (mF fc257 (by rfl))).trans ?_
    refine (G_iload rfl (mF fc257 (by rfl))).trans ?_
    refine (G_iadd (mF fc257 (by rfl))).trans ?_
    refine (G_iaload (mF fc257 (by rfl))).trans (andR ?_)
    refine (G_ige (mF fc257 (by rfl))).trans (gi ?_ ?_)
    ·
      refine (G_aload rfl (mF fc257 (by rfl))).trans ?_
      refine (G_getR (c := 12) (k := 56) rfl rfl rfl (mF fc257 (by rfl))).trans (andR ?_)
      refine (G_iconst (mF fc257 (by rfl))).trans ?_
      refine (G_iload rfl (mF fc257 (by rfl))).trans ?_
      refine (G_imul (mF fc257 (by rfl))).trans ?_
      refine (G_iload rfl (mF fc257 (by rfl))).trans ?_
      refine (G_iadd (mF fc257 (by rfl))).trans ?_
      refine (G_iaload (mF fc257 (by rfl))).trans (andR ?_)
      exact Iff.rfl
    ·
      refine (G_iload rfl (mF fc257 (by rfl))).trans ?_
      refine (G_goto (mF fc257 (by rfl))).trans ?_
      exact Iff.rfl
theorem b257_242 {d : Nat} {h : mHeap} {Q : Option Value → mHeap → Prop} {a0 : Nat} {x1 : Int32} {x2 : Int32} {x3 : Int32} {l4 : Option Value} {r0 : Nat} {s1 : Int32} {s2 : Int32} : Go d 257 242 [some (.ref a0), some (.int x1), some (.int x2), some (.int x3), l4] [.int s2, .int s1, .ref r0] h Q ↔ (64 ≤ r0 ∧ okA h r0 .int s1) ∧ Go d 257 169 [some (.ref a0), some (.int x1), some (.int x2), some (.int (x3 + ii 1)), l4] [] (sI h r0 s1 s2) Q := by
  refine (G_iastore (mF fc257 (by rfl))).trans (andR ?_)
  refine (G_iinc (k := 3) (L' := [some (.ref a0), some (.int x1), some (.int x2), some (.int (x3 + ii 1)), l4]) rfl rfl rfl (mF fc257 (by rfl))).trans ?_
  refine (G_goto (mF fc257 (by rfl))).trans ?_
  exact Iff.rfl
theorem e257 {d : Nat} {h : mHeap} {K : mHeap → Prop} {a0 : Nat} : GoCv (d + 1) 257 [.ref a0] h K ↔ Go d 257 0 [some (.ref a0), none, none, none, none] [] h (rV K) := GoCv_entry rfl rfl
set_option maxRecDepth 20000 in
theorem fc258 : mCodes[258]? = some mc258 := rfl
theorem b258_0 {d : Nat} {h : mHeap} {Q : Option Value → mHeap → Prop} {a0 : Nat} {x1 : Int32} {x2 : Int32} : Go d 258 0 [some (.ref a0), some (.int x1), some (.int x2)] [] h Q ↔ okF h a0 12 56 2 ∧ okA h (fR h a0 56) .int (((ii 6) * x1) + x2) ∧ (if (ii 100000) ≤ (eI h (fR h a0 56) (((ii 6) * x1) + x2)) then (Q (some (.int (ii 100000))) h) else (okF h a0 12 56 2 ∧ okA h (fR h a0 56) .int (((ii 6) * x1) + x2) ∧ Q (some (.int (eI h (fR h a0 56) (((ii 6) * x1) + x2)))) h)) := by
  refine (G_aload rfl (mF fc258 (by rfl))).trans ?_
  refine (G_getR (c := 12) (k := 56) rfl rfl rfl (mF fc258 (by rfl))).trans (andR ?_)
  refine (G_iconst (mF fc258 (by rfl))).trans ?_
  refine (G_iload rfl (mF fc258 (by rfl))).trans ?_
  refine (G_imul (mF fc258 (by rfl))).trans ?_
  refine (G_iload rfl (mF fc258 (by rfl))).trans ?_
  refine (G_iadd (mF fc258 (by rfl))).trans ?_
  refine (G_iaload (mF fc258 (by rfl))).trans (andR ?_)
  refine (G_iconst (mF fc258 (by rfl))).trans ?_
  refine (G_ige (mF fc258 (by rfl))).trans (gi ?_ ?_)
  ·
    refine (G_iconst (mF fc258 (by rfl))).trans ?_
    exact G_ireturnI rfl (mF fc258 (by rfl))
  ·
    refine (G_aload rfl (mF fc258 (by rfl))).trans ?_
    refine (G_getR (c := 12) (k := 56) rfl rfl rfl (mF fc258 (by rfl))).trans (andR ?_)
    refine (G_iconst (mF fc258 (by rfl))).trans ?_
    refine (G_iload rfl (mF fc258 (by rfl))).trans ?_
    refine (G_imul (mF fc258 (by rfl))).trans ?_
    refine (G_iload rfl (mF fc258 (by rfl))).trans ?_
    refine (G_iadd (mF fc258 (by rfl))).trans ?_
    refine (G_iaload (mF fc258 (by rfl))).trans (andR ?_)
    refine (G_goto (mF fc258 (by rfl))).trans ?_
    exact G_ireturnI rfl (mF fc258 (by rfl))
theorem e258 {d : Nat} {h : mHeap} {K : Int32 → mHeap → Prop} {a0 : Nat} {x1 : Int32} {x2 : Int32} : GoCi (d + 1) 258 [.ref a0, .int x1, .int x2] h K ↔ Go d 258 0 [some (.ref a0), some (.int x1), some (.int x2)] [] h (rI K) := GoCi_entry rfl rfl
set_option maxRecDepth 20000 in
theorem fc259 : mCodes[259]? = some mc259 := rfl
theorem b259_0 {d : Nat} {h : mHeap} {Q : Option Value → mHeap → Prop} {a0 : Nat} {x1 : Int32} {x2 : Int32} : Go d 259 0 [some (.ref a0), some (.int x1), some (.int x2)] [] h Q ↔ oC h a0 = 12 ∧ GoCi d 188 [.ref a0, .int x1] h (fun v1 h1 => (if v1 = ii 0 then (Q (some (.int (ii (-1)))) h1) else (oC h1 a0 = 12 ∧ GoCi d 188 [.ref a0, .int x2] h1 (fun v2 h2 => (if ¬ v2 = ii 0 then (oC h2 a0 = 12 ∧ GoCv d 257 [.ref a0] h2 (fun h3 => oC h3 a0 = 12 ∧ GoCi d 258 [.ref a0, .int x1, .int x2] h3 (fun v4 h4 => (if ¬ v4 = (ii 100000) then (oC h4 a0 = 12 ∧ GoCi d 258 [.ref a0, .int x1, .int x2] h4 (fun v5 h5 => Q (some (.int v5)) h5)) else (Q (some (.int (ii (-2)))) h4))))) else (Q (some (.int (ii (-1)))) h2)))))) := by
  refine (G_aload rfl (mF fc259 (by rfl))).trans ?_
  refine (G_iload rfl (mF fc259 (by rfl))).trans ?_
  refine (G_Vi (q := 96450) (y := 188) (a := a0) (c := 12) rfl rfl rfl rfl (by decide) rfl (as := [.ref a0, .int x1]) (rest := []) rfl rfl (mF fc259 (by rfl))).trans (andR (GoCi_congr fun v1 h1 => ?_))
  refine (G_eq (mF fc259 (by rfl))).trans (gi ?_ ?_)
  ·
    refine (G_iconst (mF fc259 (by rfl))).trans ?_
    exact G_ireturnI rfl (mF fc259 (by rfl))
  ·
    refine (G_aload rfl (mF fc259 (by rfl))).trans ?_
    refine (G_iload rfl (mF fc259 (by rfl))).trans ?_
    refine (G_Vi (q := 96450) (y := 188) (a := a0) (c := 12) rfl rfl rfl rfl (by decide) rfl (as := [.ref a0, .int x2]) (rest := []) rfl rfl (mF fc259 (by rfl))).trans (andR (GoCi_congr fun v2 h2 => ?_))
    refine (G_ne (mF fc259 (by rfl))).trans (gi ?_ ?_)
    ·
      refine (G_aload rfl (mF fc259 (by rfl))).trans ?_
      refine (G_Vv (q := 131777) (y := 257) (a := a0) (c := 12) rfl rfl rfl rfl (by decide) rfl (as := [.ref a0]) (rest := []) rfl rfl (mF fc259 (by rfl))).trans (andR (GoCv_congr fun h3 => ?_))
      refine (G_aload rfl (mF fc259 (by rfl))).trans ?_
      refine (G_iload rfl (mF fc259 (by rfl))).trans ?_
      refine (G_iload rfl (mF fc259 (by rfl))).trans ?_
      refine (G_Vi (q := 132291) (y := 258) (a := a0) (c := 12) rfl rfl rfl rfl (by decide) rfl (as := [.ref a0, .int x1, .int x2]) (rest := []) rfl rfl (mF fc259 (by rfl))).trans (andR (GoCi_congr fun v4 h4 => ?_))
      refine (G_iconst (mF fc259 (by rfl))).trans ?_
      refine (G_ine (mF fc259 (by rfl))).trans (gi ?_ ?_)
      ·
        refine (G_aload rfl (mF fc259 (by rfl))).trans ?_
        refine (G_iload rfl (mF fc259 (by rfl))).trans ?_
        refine (G_iload rfl (mF fc259 (by rfl))).trans ?_
        refine (G_Vi (q := 132291) (y := 258) (a := a0) (c := 12) rfl rfl rfl rfl (by decide) rfl (as := [.ref a0, .int x1, .int x2]) (rest := []) rfl rfl (mF fc259 (by rfl))).trans (andR (GoCi_congr fun v5 h5 => ?_))
        exact G_ireturnI rfl (mF fc259 (by rfl))
      ·
        refine (G_iconst (mF fc259 (by rfl))).trans ?_
        refine (G_goto (mF fc259 (by rfl))).trans ?_
        exact G_ireturnI rfl (mF fc259 (by rfl))
    ·
      refine (G_iconst (mF fc259 (by rfl))).trans ?_
      exact G_ireturnI rfl (mF fc259 (by rfl))
theorem e259 {d : Nat} {h : mHeap} {K : Int32 → mHeap → Prop} {a0 : Nat} {x1 : Int32} {x2 : Int32} : GoCi (d + 1) 259 [.ref a0, .int x1, .int x2] h K ↔ Go d 259 0 [some (.ref a0), some (.int x1), some (.int x2)] [] h (rI K) := GoCi_entry rfl rfl
set_option maxRecDepth 20000 in
theorem fc260 : mCodes[260]? = some mc260 := rfl
theorem b260_0 {d : Nat} {h : mHeap} {Q : Option Value → mHeap → Prop} {a0 : Nat} {x1 : Int32} {x2 : Int32} : Go d 260 0 [some (.ref a0), some (.int x1), some (.int x2)] [] h Q ↔ oC h a0 = 12 ∧ GoCi d 190 [.ref a0, .int x1] h (fun v1 h1 => (if v1 = ii 0 then (Q (some (.int (ii (-1)))) h1) else (oC h1 a0 = 12 ∧ GoCi d 192 [.ref a0, .int x2] h1 (fun v2 h2 => (if v2 = ii 0 then (Q (some (.int (ii (-1)))) h2) else (oC h2 a0 = 12 ∧ GoCi d 250 [.ref a0, .int x1, .int x2] h2 (fun v3 h3 => (if v3 = ii 0 then (Q (some (.int (ii 0))) h3) else (Q (some (.int (ii 1))) h3))))))))) := by
  refine (G_aload rfl (mF fc260 (by rfl))).trans ?_
  refine (G_iload rfl (mF fc260 (by rfl))).trans ?_
  refine (G_Vi (q := 97474) (y := 190) (a := a0) (c := 12) rfl rfl rfl rfl (by decide) rfl (as := [.ref a0, .int x1]) (rest := []) rfl rfl (mF fc260 (by rfl))).trans (andR (GoCi_congr fun v1 h1 => ?_))
  refine (G_eq (mF fc260 (by rfl))).trans (gi ?_ ?_)
  ·
    refine (G_iconst (mF fc260 (by rfl))).trans ?_
    exact G_ireturnI rfl (mF fc260 (by rfl))
  ·
    refine (G_aload rfl (mF fc260 (by rfl))).trans ?_
    refine (G_iload rfl (mF fc260 (by rfl))).trans ?_
    refine (G_Vi (q := 98498) (y := 192) (a := a0) (c := 12) rfl rfl rfl rfl (by decide) rfl (as := [.ref a0, .int x2]) (rest := []) rfl rfl (mF fc260 (by rfl))).trans (andR (GoCi_congr fun v2 h2 => ?_))
    refine (G_eq (mF fc260 (by rfl))).trans (gi ?_ ?_)
    ·
      refine (G_iconst (mF fc260 (by rfl))).trans ?_
      exact G_ireturnI rfl (mF fc260 (by rfl))
    ·
      refine (G_aload rfl (mF fc260 (by rfl))).trans ?_
      refine (G_iload rfl (mF fc260 (by rfl))).trans ?_
      refine (G_iload rfl (mF fc260 (by rfl))).trans ?_
      refine (G_Vi (q := 128195) (y := 250) (a := a0) (c := 12) rfl rfl rfl rfl (by decide) rfl (as := [.ref a0, .int x1, .int x2]) (rest := []) rfl rfl (mF fc260 (by rfl))).trans (andR (GoCi_congr fun v3 h3 => ?_))
      refine (G_eq (mF fc260 (by rfl))).trans (gi ?_ ?_)
      ·
        refine (G_iconst (mF fc260 (by rfl))).trans ?_
        refine (G_goto (mF fc260 (by rfl))).trans ?_
        exact G_ireturnI rfl (mF fc260 (by rfl))
      ·
        refine (G_iconst (mF fc260 (by rfl))).trans ?_
        refine (G_goto (mF fc260 (by rfl))).trans ?_
        exact G_ireturnI rfl (mF fc260 (by rfl))
theorem e260 {d : Nat} {h : mHeap} {K : Int32 → mHeap → Prop} {a0 : Nat} {x1 : Int32} {x2 : Int32} : GoCi (d + 1) 260 [.ref a0, .int x1, .int x2] h K ↔ Go d 260 0 [some (.ref a0), some (.int x1), some (.int x2)] [] h (rI K) := GoCi_entry rfl rfl
set_option maxRecDepth 20000 in
theorem fc261 : mCodes[261]? = some mc261 := rfl
theorem b261_0 {d : Nat} {h : mHeap} {Q : Option Value → mHeap → Prop} {a0 : Nat} {x1 : Int32} : Go d 261 0 [some (.ref a0), some (.int x1)] [] h Q ↔ oC h a0 = 12 ∧ GoCi d 190 [.ref a0, .int x1] h (fun v1 h1 => (if v1 = ii 0 then (Q (some (.int (ii (-1)))) h1) else (oC h1 a0 = 12 ∧ GoCi d 186 [.ref a0] h1 (fun v2 h2 => (if v2 = ii 0 then (Q (some (.int (ii (-1)))) h2) else (okF h2 a0 12 1 2 ∧ okA h2 (fR h2 a0 1) .int (ii 1) ∧ oC h2 a0 = 12 ∧ GoCi d 250 [.ref a0, .int x1, .int (eI h2 (fR h2 a0 1) (ii 1))] h2 (fun v3 h3 => (if v3 = ii 0 then (Q (some (.int (ii 0))) h3) else (Q (some (.int (ii 1))) h3))))))))) := by
  refine (G_aload rfl (mF fc261 (by rfl))).trans ?_
  refine (G_iload rfl (mF fc261 (by rfl))).trans ?_
  refine (G_Vi (q := 97474) (y := 190) (a := a0) (c := 12) rfl rfl rfl rfl (by decide) rfl (as := [.ref a0, .int x1]) (rest := []) rfl rfl (mF fc261 (by rfl))).trans (andR (GoCi_congr fun v1 h1 => ?_))
  refine (G_eq (mF fc261 (by rfl))).trans (gi ?_ ?_)
  ·
    refine (G_iconst (mF fc261 (by rfl))).trans ?_
    exact G_ireturnI rfl (mF fc261 (by rfl))
  ·
    refine (G_aload rfl (mF fc261 (by rfl))).trans ?_
    refine (G_Vi (q := 95425) (y := 186) (a := a0) (c := 12) rfl rfl rfl rfl (by decide) rfl (as := [.ref a0]) (rest := []) rfl rfl (mF fc261 (by rfl))).trans (andR (GoCi_congr fun v2 h2 => ?_))
    refine (G_eq (mF fc261 (by rfl))).trans (gi ?_ ?_)
    ·
      refine (G_iconst (mF fc261 (by rfl))).trans ?_
      exact G_ireturnI rfl (mF fc261 (by rfl))
    ·
      refine (G_aload rfl (mF fc261 (by rfl))).trans ?_
      refine (G_iload rfl (mF fc261 (by rfl))).trans ?_
      refine (G_aload rfl (mF fc261 (by rfl))).trans ?_
      refine (G_getR (c := 12) (k := 1) rfl rfl rfl (mF fc261 (by rfl))).trans (andR ?_)
      refine (G_iconst (mF fc261 (by rfl))).trans ?_
      refine (G_iaload (mF fc261 (by rfl))).trans (andR ?_)
      refine (G_Vi (q := 128195) (y := 250) (a := a0) (c := 12) rfl rfl rfl rfl (by decide) rfl (as := [.ref a0, .int x1, .int (eI h2 (fR h2 a0 1) (ii 1))]) (rest := []) rfl rfl (mF fc261 (by rfl))).trans (andR (GoCi_congr fun v3 h3 => ?_))
      refine (G_eq (mF fc261 (by rfl))).trans (gi ?_ ?_)
      ·
        refine (G_iconst (mF fc261 (by rfl))).trans ?_
        refine (G_goto (mF fc261 (by rfl))).trans ?_
        exact G_ireturnI rfl (mF fc261 (by rfl))
      ·
        refine (G_iconst (mF fc261 (by rfl))).trans ?_
        refine (G_goto (mF fc261 (by rfl))).trans ?_
        exact G_ireturnI rfl (mF fc261 (by rfl))
theorem e261 {d : Nat} {h : mHeap} {K : Int32 → mHeap → Prop} {a0 : Nat} {x1 : Int32} : GoCi (d + 1) 261 [.ref a0, .int x1] h K ↔ Go d 261 0 [some (.ref a0), some (.int x1)] [] h (rI K) := GoCi_entry rfl rfl
set_option maxRecDepth 20000 in
theorem fc262 : mCodes[262]? = some mc262 := rfl
theorem b262_0 {d : Nat} {h : mHeap} {Q : Option Value → mHeap → Prop} {a0 : Nat} {x1 : Int32} : Go d 262 0 [some (.ref a0), some (.int x1)] [] h Q ↔ oC h a0 = 12 ∧ GoCi d 186 [.ref a0] h (fun v1 h1 => (if v1 = ii 0 then (((ii 0) = ii 0 ∨ (ii 0) = ii 1) ∧ Q (some (.int (ii 0))) h1) else ((if x1 = (ii (-1)) then (((ii 1) = ii 0 ∨ (ii 1) = ii 1) ∧ Q (some (.int (ii 1))) h1) else (oC h1 a0 = 12 ∧ GoCi d 187 [.ref a0, .int x1] h1 (fun v2 h2 => (if v2 = ii 0 then (((ii 0) = ii 0 ∨ (ii 0) = ii 1) ∧ Q (some (.int (ii 0))) h2) else (((ii 1) = ii 0 ∨ (ii 1) = ii 1) ∧ Q (some (.int (ii 1))) h2)))))))) := by
  refine (G_aload rfl (mF fc262 (by rfl))).trans ?_
  refine (G_Vi (q := 95425) (y := 186) (a := a0) (c := 12) rfl rfl rfl rfl (by decide) rfl (as := [.ref a0]) (rest := []) rfl rfl (mF fc262 (by rfl))).trans (andR (GoCi_congr fun v1 h1 => ?_))
  refine (G_eq (mF fc262 (by rfl))).trans (gi ?_ ?_)
  ·
    refine (G_iconst (mF fc262 (by rfl))).trans ?_
    exact G_ireturnZ rfl (mF fc262 (by rfl))
  ·
    refine (G_iload rfl (mF fc262 (by rfl))).trans ?_
    refine (G_iconst (mF fc262 (by rfl))).trans ?_
    refine (G_ieq (mF fc262 (by rfl))).trans (gi ?_ ?_)
    ·
      refine (G_iconst (mF fc262 (by rfl))).trans ?_
      refine (G_goto (mF fc262 (by rfl))).trans ?_
      exact G_ireturnZ rfl (mF fc262 (by rfl))
    ·
      refine (G_aload rfl (mF fc262 (by rfl))).trans ?_
      refine (G_iload rfl (mF fc262 (by rfl))).trans ?_
      refine (G_Vi (q := 95938) (y := 187) (a := a0) (c := 12) rfl rfl rfl rfl (by decide) rfl (as := [.ref a0, .int x1]) (rest := []) rfl rfl (mF fc262 (by rfl))).trans (andR (GoCi_congr fun v2 h2 => ?_))
      refine (G_eq (mF fc262 (by rfl))).trans (gi ?_ ?_)
      ·
        refine (G_iconst (mF fc262 (by rfl))).trans ?_
        exact G_ireturnZ rfl (mF fc262 (by rfl))
      ·
        refine (G_iconst (mF fc262 (by rfl))).trans ?_
        refine (G_goto (mF fc262 (by rfl))).trans ?_
        exact G_ireturnZ rfl (mF fc262 (by rfl))
theorem e262 {d : Nat} {h : mHeap} {K : Int32 → mHeap → Prop} {a0 : Nat} {x1 : Int32} : GoCi (d + 1) 262 [.ref a0, .int x1] h K ↔ Go d 262 0 [some (.ref a0), some (.int x1)] [] h (rI K) := GoCi_entry rfl rfl
set_option maxRecDepth 20000 in
theorem fc263 : mCodes[263]? = some mc263 := rfl
theorem b263_0 {d : Nat} {h : mHeap} {Q : Option Value → mHeap → Prop} {a0 : Nat} {x1 : Int32} {x2 : Int32} : Go d 263 0 [some (.ref a0), some (.int x1), some (.int x2)] [] h Q ↔ oC h a0 = 12 ∧ GoCi d 262 [.ref a0, .int x1] h (fun v1 h1 => (if v1 = ii 0 then (Q (some (.int (ii (-2)))) h1) else (oC h1 a0 = 12 ∧ GoCi d 190 [.ref a0, .int x2] h1 (fun v2 h2 => (if v2 = ii 0 then (Q (some (.int (ii (-2)))) h2) else (oC h2 a0 = 12 ∧ GoCi d 245 [.ref a0, .int x1] h2 (fun v3 h3 => oC h3 a0 = 12 ∧ GoCi d 247 [.ref a0, .int v3, .int x2] h3 (fun v4 h4 => (if v4 = ii 0 then (Q (some (.int (ii 0))) h4) else (Q (some (.int (ii 1))) h4)))))))))) := by
  refine (G_aload rfl (mF fc263 (by rfl))).trans ?_
  refine (G_iload rfl (mF fc263 (by rfl))).trans ?_
  refine (G_Vi (q := 134338) (y := 262) (a := a0) (c := 12) rfl rfl rfl rfl (by decide) rfl (as := [.ref a0, .int x1]) (rest := []) rfl rfl (mF fc263 (by rfl))).trans (andR (GoCi_congr fun v1 h1 => ?_))
  refine (G_eq (mF fc263 (by rfl))).trans (gi ?_ ?_)
  ·
    refine (G_iconst (mF fc263 (by rfl))).trans ?_
    exact G_ireturnI rfl (mF fc263 (by rfl))
  ·
    refine (G_aload rfl (mF fc263 (by rfl))).trans ?_
    refine (G_iload rfl (mF fc263 (by rfl))).trans ?_
    refine (G_Vi (q := 97474) (y := 190) (a := a0) (c := 12) rfl rfl rfl rfl (by decide) rfl (as := [.ref a0, .int x2]) (rest := []) rfl rfl (mF fc263 (by rfl))).trans (andR (GoCi_congr fun v2 h2 => ?_))
    refine (G_eq (mF fc263 (by rfl))).trans (gi ?_ ?_)
    ·
      refine (G_iconst (mF fc263 (by rfl))).trans ?_
      exact G_ireturnI rfl (mF fc263 (by rfl))
    ·
      refine (G_aload rfl (mF fc263 (by rfl))).trans ?_
      refine (G_aload rfl (mF fc263 (by rfl))).trans ?_
      refine (G_iload rfl (mF fc263 (by rfl))).trans ?_
      refine (G_Vi (q := 125634) (y := 245) (a := a0) (c := 12) rfl rfl rfl rfl (by decide) rfl (as := [.ref a0, .int x1]) (rest := [.ref a0]) rfl rfl (mF fc263 (by rfl))).trans (andR (GoCi_congr fun v3 h3 => ?_))
      refine (G_iload rfl (mF fc263 (by rfl))).trans ?_
      refine (G_Vi (q := 126659) (y := 247) (a := a0) (c := 12) rfl rfl rfl rfl (by decide) rfl (as := [.ref a0, .int v3, .int x2]) (rest := []) rfl rfl (mF fc263 (by rfl))).trans (andR (GoCi_congr fun v4 h4 => ?_))
      refine (G_eq (mF fc263 (by rfl))).trans (gi ?_ ?_)
      ·
        refine (G_iconst (mF fc263 (by rfl))).trans ?_
        refine (G_goto (mF fc263 (by rfl))).trans ?_
        exact G_ireturnI rfl (mF fc263 (by rfl))
      ·
        refine (G_iconst (mF fc263 (by rfl))).trans ?_
        refine (G_goto (mF fc263 (by rfl))).trans ?_
        exact G_ireturnI rfl (mF fc263 (by rfl))
theorem e263 {d : Nat} {h : mHeap} {K : Int32 → mHeap → Prop} {a0 : Nat} {x1 : Int32} {x2 : Int32} : GoCi (d + 1) 263 [.ref a0, .int x1, .int x2] h K ↔ Go d 263 0 [some (.ref a0), some (.int x1), some (.int x2)] [] h (rI K) := GoCi_entry rfl rfl
set_option maxRecDepth 20000 in
theorem fc264 : mCodes[264]? = some mc264 := rfl
theorem b264_0 {d : Nat} {h : mHeap} {Q : Option Value → mHeap → Prop} {a0 : Nat} {x1 : Int32} {x2 : Int32} : Go d 264 0 [some (.ref a0), some (.int x1), some (.int x2)] [] h Q ↔ oC h a0 = 12 ∧ GoCi d 262 [.ref a0, .int x1] h (fun v1 h1 => (if v1 = ii 0 then (Q (some (.int (ii (-2)))) h1) else (oC h1 a0 = 12 ∧ GoCi d 192 [.ref a0, .int x2] h1 (fun v2 h2 => (if v2 = ii 0 then (Q (some (.int (ii (-2)))) h2) else (oC h2 a0 = 12 ∧ GoCi d 245 [.ref a0, .int x1] h2 (fun v3 h3 => oC h3 a0 = 12 ∧ GoCi d 251 [.ref a0, .int v3, .int x2] h3 (fun v4 h4 => (if v4 = ii 0 then (Q (some (.int (ii 0))) h4) else (Q (some (.int (ii 1))) h4)))))))))) := by
  refine (G_aload rfl (mF fc264 (by rfl))).trans ?_
  refine (G_iload rfl (mF fc264 (by rfl))).trans ?_
  refine (G_Vi (q := 134338) (y := 262) (a := a0) (c := 12) rfl rfl rfl rfl (by decide) rfl (as := [.ref a0, .int x1]) (rest := []) rfl rfl (mF fc264 (by rfl))).trans (andR (GoCi_congr fun v1 h1 => ?_))
  refine (G_eq (mF fc264 (by rfl))).trans (gi ?_ ?_)
  ·
    refine (G_iconst (mF fc264 (by rfl))).trans ?_
    exact G_ireturnI rfl (mF fc264 (by rfl))
  ·
    refine (G_aload rfl (mF fc264 (by rfl))).trans ?_
    refine (G_iload rfl (mF fc264 (by rfl))).trans ?_
    refine (G_Vi (q := 98498) (y := 192) (a := a0) (c := 12) rfl rfl rfl rfl (by decide) rfl (as := [.ref a0, .int x2]) (rest := []) rfl rfl (mF fc264 (by rfl))).trans (andR (GoCi_congr fun v2 h2 => ?_))
    refine (G_eq (mF fc264 (by rfl))).trans (gi ?_ ?_)
    ·
      refine (G_iconst (mF fc264 (by rfl))).trans ?_
      exact G_ireturnI rfl (mF fc264 (by rfl))
    ·
      refine (G_aload rfl (mF fc264 (by rfl))).trans ?_
      refine (G_aload rfl (mF fc264 (by rfl))).trans ?_
      refine (G_iload rfl (mF fc264 (by rfl))).trans ?_
      refine (G_Vi (q := 125634) (y := 245) (a := a0) (c := 12) rfl rfl rfl rfl (by decide) rfl (as := [.ref a0, .int x1]) (rest := [.ref a0]) rfl rfl (mF fc264 (by rfl))).trans (andR (GoCi_congr fun v3 h3 => ?_))
      refine (G_iload rfl (mF fc264 (by rfl))).trans ?_
      refine (G_Vi (q := 128707) (y := 251) (a := a0) (c := 12) rfl rfl rfl rfl (by decide) rfl (as := [.ref a0, .int v3, .int x2]) (rest := []) rfl rfl (mF fc264 (by rfl))).trans (andR (GoCi_congr fun v4 h4 => ?_))
      refine (G_eq (mF fc264 (by rfl))).trans (gi ?_ ?_)
      ·
        refine (G_iconst (mF fc264 (by rfl))).trans ?_
        refine (G_goto (mF fc264 (by rfl))).trans ?_
        exact G_ireturnI rfl (mF fc264 (by rfl))
      ·
        refine (G_iconst (mF fc264 (by rfl))).trans ?_
        refine (G_goto (mF fc264 (by rfl))).trans ?_
        exact G_ireturnI rfl (mF fc264 (by rfl))
theorem e264 {d : Nat} {h : mHeap} {K : Int32 → mHeap → Prop} {a0 : Nat} {x1 : Int32} {x2 : Int32} : GoCi (d + 1) 264 [.ref a0, .int x1, .int x2] h K ↔ Go d 264 0 [some (.ref a0), some (.int x1), some (.int x2)] [] h (rI K) := GoCi_entry rfl rfl
set_option maxRecDepth 20000 in
theorem fc265 : mCodes[265]? = some mc265 := rfl
theorem b265_0 {d : Nat} {h : mHeap} {Q : Option Value → mHeap → Prop} {a0 : Nat} {x1 : Int32} : Go d 265 0 [some (.ref a0), some (.int x1)] [] h Q ↔ oC h a0 = 12 ∧ GoCi d 190 [.ref a0, .int x1] h (fun v1 h1 => (if v1 = ii 0 then (Q (some (.int (ii (-1)))) h1) else (oC h1 a0 = 12 ∧ GoCi d 186 [.ref a0] h1 (fun v2 h2 => (if v2 = ii 0 then (Q (some (.int (ii (-1)))) h2) else (oC h2 a0 = 12 ∧ GoCi d 248 [.ref a0, .int x1] h2 (fun v3 h3 => Q (some (.int v3)) h3))))))) := by
  refine (G_aload rfl (mF fc265 (by rfl))).trans ?_
  refine (G_iload rfl (mF fc265 (by rfl))).trans ?_
  refine (G_Vi (q := 97474) (y := 190) (a := a0) (c := 12) rfl rfl rfl rfl (by decide) rfl (as := [.ref a0, .int x1]) (rest := []) rfl rfl (mF fc265 (by rfl))).trans (andR (GoCi_congr fun v1 h1 => ?_))
  refine (G_eq (mF fc265 (by rfl))).trans (gi ?_ ?_)
  ·
    refine (G_iconst (mF fc265 (by rfl))).trans ?_
    exact G_ireturnI rfl (mF fc265 (by rfl))
  ·
    refine (G_aload rfl (mF fc265 (by rfl))).trans ?_
    refine (G_Vi (q := 95425) (y := 186) (a := a0) (c := 12) rfl rfl rfl rfl (by decide) rfl (as := [.ref a0]) (rest := []) rfl rfl (mF fc265 (by rfl))).trans (andR (GoCi_congr fun v2 h2 => ?_))
    refine (G_eq (mF fc265 (by rfl))).trans (gi ?_ ?_)
    ·
      refine (G_iconst (mF fc265 (by rfl))).trans ?_
      exact G_ireturnI rfl (mF fc265 (by rfl))
    ·
      refine (G_aload rfl (mF fc265 (by rfl))).trans ?_
      refine (G_iload rfl (mF fc265 (by rfl))).trans ?_
      refine (G_Vi (q := 127170) (y := 248) (a := a0) (c := 12) rfl rfl rfl rfl (by decide) rfl (as := [.ref a0, .int x1]) (rest := []) rfl rfl (mF fc265 (by rfl))).trans (andR (GoCi_congr fun v3 h3 => ?_))
      refine (G_goto (mF fc265 (by rfl))).trans ?_
      exact G_ireturnI rfl (mF fc265 (by rfl))
theorem e265 {d : Nat} {h : mHeap} {K : Int32 → mHeap → Prop} {a0 : Nat} {x1 : Int32} : GoCi (d + 1) 265 [.ref a0, .int x1] h K ↔ Go d 265 0 [some (.ref a0), some (.int x1)] [] h (rI K) := GoCi_entry rfl rfl
set_option maxRecDepth 20000 in
theorem fc266 : mCodes[266]? = some mc266 := rfl
theorem b266_0 {d : Nat} {h : mHeap} {Q : Option Value → mHeap → Prop} {a0 : Nat} {x1 : Int32} : Go d 266 0 [some (.ref a0), some (.int x1), none] [] h Q ↔ oC h a0 = 12 ∧ GoCi d 190 [.ref a0, .int x1] h (fun v1 h1 => (if v1 = ii 0 then (Q (some (.int (ii (-1)))) h1) else (oC h1 a0 = 12 ∧ GoCi d 186 [.ref a0] h1 (fun v2 h2 => (if ¬ v2 = ii 0 then (Go d 266 19 [some (.ref a0), some (.int x1), some (.int (ii 0))] [] h2 Q) else (Q (some (.int (ii (-1)))) h2)))))) := by
  refine (G_aload rfl (mF fc266 (by rfl))).trans ?_
  refine (G_iload rfl (mF fc266 (by rfl))).trans ?_
  refine (G_Vi (q := 97474) (y := 190) (a := a0) (c := 12) rfl rfl rfl rfl (by decide) rfl (as := [.ref a0, .int x1]) (rest := []) rfl rfl (mF fc266 (by rfl))).trans (andR (GoCi_congr fun v1 h1 => ?_))
  refine (G_eq (mF fc266 (by rfl))).trans (gi ?_ ?_)
  ·
    refine (G_iconst (mF fc266 (by rfl))).trans ?_
    exact G_ireturnI rfl (mF fc266 (by rfl))
  ·
    refine (G_aload rfl (mF fc266 (by rfl))).trans ?_
    refine (G_Vi (q := 95425) (y := 186) (a := a0) (c := 12) rfl rfl rfl rfl (by decide) rfl (as := [.ref a0]) (rest := []) rfl rfl (mF fc266 (by rfl))).trans (andR (GoCi_congr fun v2 h2 => ?_))
    refine (G_ne (mF fc266 (by rfl))).trans (gi ?_ ?_)
    ·
      refine (G_iconst (mF fc266 (by rfl))).trans ?_
      refine (G_istore (k := 2) (L' := [some (.ref a0), some (.int x1), some (.int (ii 0))]) rfl (ltb rfl) rfl (mF fc266 (by rfl))).trans ?_
      exact Iff.rfl
    ·
      refine (G_iconst (mF fc266 (by rfl))).trans ?_
      exact G_ireturnI rfl (mF fc266 (by rfl))
theorem b266_19 {d : Nat} {h : mHeap} {Q : Option Value → mHeap → Prop} {a0 : Nat} {x1 : Int32} {x2 : Int32} : Go d 266 19 [some (.ref a0), some (.int x1), some (.int x2)] [] h Q ↔ oC h a0 = 12 ∧ GoCi d 191 [.ref a0] h (fun v1 h1 => (if v1 ≤ x2 then (Q (some (.int (ii (-2)))) h1) else (oC h1 a0 = 12 ∧ GoCi d 251 [.ref a0, .int (ii 6), .int x2] h1 (fun v2 h2 => (if v2 = ii 0 then (Go d 266 48 [some (.ref a0), some (.int x1), some (.int x2)] [] h2 Q) else (oC h2 a0 = 12 ∧ GoCi d 250 [.ref a0, .int x1, .int x2] h2 (fun v3 h3 => (if ¬ v3 = ii 0 then (Go d 266 48 [some (.ref a0), some (.int x1), some (.int x2)] [] h3 Q) else (Q (some (.int x2)) h3))))))))) := by
  refine (G_iload rfl (mF fc266 (by rfl))).trans ?_
  refine (G_aload rfl (mF fc266 (by rfl))).trans ?_
  refine (G_Vi (q := 97985) (y := 191) (a := a0) (c := 12) rfl rfl rfl rfl (by decide) rfl (as := [.ref a0]) (rest := [.int x2]) rfl rfl (mF fc266 (by rfl))).trans (andR (GoCi_congr fun v1 h1 => ?_))
  refine (G_ige (mF fc266 (by rfl))).trans (gi ?_ ?_)
  ·
    refine (G_iconst (mF fc266 (by rfl))).trans ?_
    exact G_ireturnI rfl (mF fc266 (by rfl))
  ·
    refine (G_aload rfl (mF fc266 (by rfl))).trans ?_
    refine (G_iconst (mF fc266 (by rfl))).trans ?_
    refine (G_iload rfl (mF fc266 (by rfl))).trans ?_
    refine (G_Vi (q := 128707) (y := 251) (a := a0) (c := 12) rfl rfl rfl rfl (by decide) rfl (as := [.ref a0, .int (ii 6), .int x2]) (rest := []) rfl rfl (mF fc266 (by rfl))).trans (andR (GoCi_congr fun v2 h2 => ?_))
    refine (G_eq (mF fc266 (by rfl))).trans (gi ?_ ?_)
    ·
      exact Iff.rfl
    ·
      refine (G_aload rfl (mF fc266 (by rfl))).trans ?_
      refine (G_iload rfl (mF fc266 (by rfl))).trans ?_
      refine (G_iload rfl (mF fc266 (by rfl))).trans ?_
      refine (G_Vi (q := 128195) (y := 250) (a := a0) (c := 12) rfl rfl rfl rfl (by decide) rfl (as := [.ref a0, .int x1, .int x2]) (rest := []) rfl rfl (mF fc266 (by rfl))).trans (andR (GoCi_congr fun v3 h3 => ?_))
      refine (G_ne (mF fc266 (by rfl))).trans (gi ?_ ?_)
      ·
        exact Iff.rfl
      ·
        refine (G_iload rfl (mF fc266 (by rfl))).trans ?_
        exact G_ireturnI rfl (mF fc266 (by rfl))
theorem b266_48 {d : Nat} {h : mHeap} {Q : Option Value → mHeap → Prop} {a0 : Nat} {x1 : Int32} {x2 : Int32} : Go d 266 48 [some (.ref a0), some (.int x1), some (.int x2)] [] h Q ↔ Go d 266 19 [some (.ref a0), some (.int x1), some (.int (x2 + ii 1))] [] h Q := by
  refine (G_iinc (k := 2) (L' := [some (.ref a0), some (.int x1), some (.int (x2 + ii 1))]) rfl rfl rfl (mF fc266 (by rfl))).trans ?_
  refine (G_goto (mF fc266 (by rfl))).trans ?_
  exact Iff.rfl
theorem e266 {d : Nat} {h : mHeap} {K : Int32 → mHeap → Prop} {a0 : Nat} {x1 : Int32} : GoCi (d + 1) 266 [.ref a0, .int x1] h K ↔ Go d 266 0 [some (.ref a0), some (.int x1), none] [] h (rI K) := GoCi_entry rfl rfl
set_option maxRecDepth 20000 in
theorem fc267 : mCodes[267]? = some mc267 := rfl
theorem b267_0 {d : Nat} {h : mHeap} {Q : Option Value → mHeap → Prop} {a0 : Nat} {x1 : Int32} : Go d 267 0 [some (.ref a0), some (.int x1), none] [] h Q ↔ okF h a0 12 61 0 ∧ (if (fI h a0 61) = ii 0 then (Go d 267 20 [some (.ref a0), some (.int x1), none] [.int x1] h Q) else (okF h a0 12 57 2 ∧ okF h a0 12 60 0 ∧ okA h (fR h a0 57) .int (fI h a0 60) ∧ Go d 267 20 [some (.ref a0), some (.int x1), none] [.int (eI h (fR h a0 57) (fI h a0 60))] h Q)) := by
  refine (G_aload rfl (mF fc267 (by rfl))).trans ?_
  refine (G_getI (c := 12) (k := 61) rfl rfl rfl (mF fc267 (by rfl))).trans (andR ?_)
  refine (G_eq (mF fc267 (by rfl))).trans (gi ?_ ?_)
  ·
    refine (G_iload rfl (mF fc267 (by rfl))).trans ?_
    exact Iff.rfl
  ·
    refine (G_aload rfl (mF fc267 (by rfl))).trans ?_
    refine (G_getR (c := 12) (k := 57) rfl rfl rfl (mF fc267 (by rfl))).trans (andR ?_)
    refine (G_aload rfl (mF fc267 (by rfl))).trans ?_
    refine (G_getI (c := 12) (k := 60) rfl rfl rfl (mF fc267 (by rfl))).trans (andR ?_)
    refine (G_iaload (mF fc267 (by rfl))).trans (andR ?_)
    refine (G_goto (mF fc267 (by rfl))).trans ?_
    exact Iff.rfl
theorem b267_20 {d : Nat} {h : mHeap} {Q : Option Value → mHeap → Prop} {a0 : Nat} {l1 : Option Value} {l2 : Option Value} {s0 : Int32} (hl1 : mNo l1 = true) : Go d 267 20 [some (.ref a0), l1, l2] [.int s0] h Q ↔ okF h a0 12 57 2 ∧ okF h a0 12 60 0 ∧ (64 ≤ (fR h a0 57) ∧ okA h (fR h a0 57) .int (fI h a0 60)) ∧ okF (sI h (fR h a0 57) (fI h a0 60) s0) a0 12 60 0 ∧ okP (sI h (fR h a0 57) (fI h a0 60) s0) a0 12 60 ∧ Q (some (.int s0)) (sF (sI h (fR h a0 57) (fI h a0 60) s0) a0 60 (.int ((fI (sI h (fR h a0 57) (fI h a0 60) s0) a0 60) + (ii 1)))) := by
  refine (G_istore (k := 2) (L' := [some (.ref a0), l1, some (.int s0)]) rfl (ltb rfl) (by exact hl1) (mF fc267 (by rfl))).trans ?_
  refine (G_aload rfl (mF fc267 (by rfl))).trans ?_
  refine (G_getR (c := 12) (k := 57) rfl rfl rfl (mF fc267 (by rfl))).trans (andR ?_)
  refine (G_aload rfl (mF fc267 (by rfl))).trans ?_
  refine (G_getI (c := 12) (k := 60) rfl rfl rfl (mF fc267 (by rfl))).trans (andR ?_)
  refine (G_iload rfl (mF fc267 (by rfl))).trans ?_
  refine (G_iastore (mF fc267 (by rfl))).trans (andR ?_)
  refine (G_aload rfl (mF fc267 (by rfl))).trans ?_
  refine (G_dupr (mF fc267 (by rfl))).trans ?_
  refine (G_getI (c := 12) (k := 60) rfl rfl rfl (mF fc267 (by rfl))).trans (andR ?_)
  refine (G_iconst (mF fc267 (by rfl))).trans ?_
  refine (G_iadd (mF fc267 (by rfl))).trans ?_
  refine (G_putT (c := 12) (k := 60) rfl rfl rfl (mF fc267 (by rfl))).trans (andR ?_)
  refine (G_iload rfl (mF fc267 (by rfl))).trans ?_
  exact G_ireturnI rfl (mF fc267 (by rfl))
theorem e267 {d : Nat} {h : mHeap} {K : Int32 → mHeap → Prop} {a0 : Nat} {x1 : Int32} : GoCi (d + 1) 267 [.ref a0, .int x1] h K ↔ Go d 267 0 [some (.ref a0), some (.int x1), none] [] h (rI K) := GoCi_entry rfl rfl
set_option maxRecDepth 20000 in
theorem fc268 : mCodes[268]? = some mc268 := rfl
theorem b268_0 {d : Nat} {h : mHeap} {Q : Option Value → mHeap → Prop} {a0 : Nat} {a1 : Nat} : Go d 268 0 [some (.ref a0), some (.ref a1), none] [] h Q ↔ Go d 268 2 [some (.ref a0), some (.ref a1), some (.int (ii 0))] [] h Q := by
  refine (G_iconst (mF fc268 (by rfl))).trans ?_
  refine (G_istore (k := 2) (L' := [some (.ref a0), some (.ref a1), some (.int (ii 0))]) rfl (ltb rfl) rfl (mF fc268 (by rfl))).trans ?_
  exact Iff.rfl
theorem b268_2 {d : Nat} {h : mHeap} {Q : Option Value → mHeap → Prop} {a0 : Nat} {a1 : Nat} {x2 : Int32} : Go d 268 2 [some (.ref a0), some (.ref a1), some (.int x2)] [] h Q ↔ okL h a1 ∧ (if (ii (nL h a1)) ≤ x2 then (Q none h) else (okA h a1 .int x2 ∧ oC h a0 = 12 ∧ GoCi d 267 [.ref a0, .int (eI h a1 x2)] h (fun v1 h1 => (64 ≤ a1 ∧ okA h1 a1 .int x2) ∧ Go d 268 2 [some (.ref a0), some (.ref a1), some (.int (x2 + ii 1))] [] (sI h1 a1 x2 v1) Q))) := by
  refine (G_iload rfl (mF fc268 (by rfl))).trans ?_
  refine (G_aload rfl (mF fc268 (by rfl))).trans ?_
  refine (G_arraylength (mF fc268 (by rfl))).trans (andR ?_)
  refine (G_ige (mF fc268 (by rfl))).trans (gi ?_ ?_)
  ·
    exact G_return rfl (mF fc268 (by rfl))
  ·
    refine (G_aload rfl (mF fc268 (by rfl))).trans ?_
    refine (G_iload rfl (mF fc268 (by rfl))).trans ?_
    refine (G_aload rfl (mF fc268 (by rfl))).trans ?_
    refine (G_aload rfl (mF fc268 (by rfl))).trans ?_
    refine (G_iload rfl (mF fc268 (by rfl))).trans ?_
    refine (G_iaload (mF fc268 (by rfl))).trans (andR ?_)
    refine (G_Vi (q := 136898) (y := 267) (a := a0) (c := 12) rfl rfl rfl rfl (by decide) rfl (as := [.ref a0, .int (eI h a1 x2)]) (rest := [.int x2, .ref a1]) rfl rfl (mF fc268 (by rfl))).trans (andR (GoCi_congr fun v1 h1 => ?_))
    refine (G_iastore (mF fc268 (by rfl))).trans (andR ?_)
    refine (G_iinc (k := 2) (L' := [some (.ref a0), some (.ref a1), some (.int (x2 + ii 1))]) rfl rfl rfl (mF fc268 (by rfl))).trans ?_
    refine (G_goto (mF fc268 (by rfl))).trans ?_
    exact Iff.rfl
theorem e268 {d : Nat} {h : mHeap} {K : mHeap → Prop} {a0 : Nat} {a1 : Nat} : GoCv (d + 1) 268 [.ref a0, .ref a1] h K ↔ Go d 268 0 [some (.ref a0), some (.ref a1), none] [] h (rV K) := GoCv_entry rfl rfl
set_option maxRecDepth 20000 in
theorem fc269 : mCodes[269]? = some mc269 := rfl
theorem b269_0 {d : Nat} {h : mHeap} {Q : Option Value → mHeap → Prop} {a0 : Nat} {x1 : Int32} {x2 : Int32} : Go d 269 0 [some (.ref a0), some (.int x1), some (.int x2)] [] h Q ↔ okP h a0 12 60 ∧ okP (sF h a0 60 (.int ((ii 76) * x1))) a0 12 61 ∧ (x2 = ii 0 ∨ x2 = ii 1) ∧ okF (sF (sF h a0 60 (.int ((ii 76) * x1))) a0 61 (.int x2)) a0 12 1 2 ∧ okF (sF (sF h a0 60 (.int ((ii 76) * x1))) a0 61 (.int x2)) a0 12 1 2 ∧ okA (sF (sF h a0 60 (.int ((ii 76) * x1))) a0 61 (.int x2)) (fR (sF (sF h a0 60 (.int ((ii 76) * x1))) a0 61 (.int x2)) a0 1) .int (ii 6) ∧ oC (sF (sF h a0 60 (.int ((ii 76) * x1))) a0 61 (.int x2)) a0 = 12 ∧ GoCi d 267 [.ref a0, .int (eI (sF (sF h a0 60 (.int ((ii 76) * x1))) a0 61 (.int x2)) (fR (sF (sF h a0 60 (.int ((ii 76) * x1))) a0 61 (.int x2)) a0 1) (ii 6))] (sF (sF h a0 60 (.int ((ii 76) * x1))) a0 61 (.int x2)) (fun v1 h1 => (64 ≤ (fR (sF (sF h a0 60 (.int ((ii 76) * x1))) a0 61 (.int x2)) a0 1) ∧ okA h1 (fR (sF (sF h a0 60 (.int ((ii 76) * x1))) a0 61 (.int x2)) a0 1) .int (ii 6)) ∧ okF (sI h1 (fR (sF (sF h a0 60 (.int ((ii 76) * x1))) a0 61 (.int x2)) a0 1) (ii 6) v1) a0 12 1 2 ∧ okF (sI h1 (fR (sF (sF h a0 60 (.int ((ii 76) * x1))) a0 61 (.int x2)) a0 1) (ii 6) v1) a0 12 1 2 ∧ okA (sI h1 (fR (sF (sF h a0 60 (.int ((ii 76) * x1))) a0 61 (.int x2)) a0 1) (ii 6) v1) (fR (sI h1 (fR (sF (sF h a0 60 (.int ((ii 76) * x1))) a0 61 (.int x2)) a0 1) (ii 6) v1) a0 1) .int (ii 1) ∧ oC (sI h1 (fR (sF (sF h a0 60 (.int ((ii 76) * x1))) a0 61 (.int x2)) a0 1) (ii 6) v1) a0 = 12 ∧ GoCi d 267 [.ref a0, .int (eI (sI h1 (fR (sF (sF h a0 60 (.int ((ii 76) * x1))) a0 61 (.int x2)) a0 1) (ii 6) v1) (fR (sI h1 (fR (sF (sF h a0 60 (.int ((ii 76) * x1))) a0 61 (.int x2)) a0 1) (ii 6) v1) a0 1) (ii 1))] (sI h1 (fR (sF (sF h a0 60 (.int ((ii 76) * x1))) a0 61 (.int x2)) a0 1) (ii 6) v1) (fun v2 h2 => (64 ≤ (fR (sI h1 (fR (sF (sF h a0 60 (.int ((ii 76) * x1))) a0 61 (.int x2)) a0 1) (ii 6) v1) a0 1) ∧ okA h2 (fR (sI h1 (fR (sF (sF h a0 60 (.int ((ii 76) * x1))) a0 61 (.int x2)) a0 1) (ii 6) v1) a0 1) .int (ii 1)) ∧ okF (sI h2 (fR (sI h1 (fR (sF (sF h a0 60 (.int ((ii 76) * x1))) a0 61 (.int x2)) a0 1) (ii 6) v1) a0 1) (ii 1) v2) a0 12 2 2 ∧ oC (sI h2 (fR (sI h1 (fR (sF (sF h a0 60 (.int ((ii 76) * x1))) a0 61 (.int x2)) a0 1) (ii 6) v1) a0 1) (ii 1) v2) a0 = 12 ∧ GoCv d 268 [.ref a0, .ref (fR (sI h2 (fR (sI h1 (fR (sF (sF h a0 60 (.int ((ii 76) * x1))) a0 61 (.int x2)) a0 1) (ii 6) v1) a0 1) (ii 1) v2) a0 2)] (sI h2 (fR (sI h1 (fR (sF (sF h a0 60 (.int ((ii 76) * x1))) a0 61 (.int x2)) a0 1) (ii 6) v1) a0 1) (ii 1) v2) (fun h3 => okF h3 a0 12 5 2 ∧ oC h3 a0 = 12 ∧ GoCv d 268 [.ref a0, .ref (fR h3 a0 5)] h3 (fun h4 => okF h4 a0 12 6 2 ∧ oC h4 a0 = 12 ∧ GoCv d 268 [.ref a0, .ref (fR h4 a0 6)] h4 (fun h5 => okF h5 a0 12 15 2 ∧ oC h5 a0 = 12 ∧ GoCv d 268 [.ref a0, .ref (fR h5 a0 15)] h5 (fun h6 => Q none h6)))))) := by
  refine (G_aload rfl (mF fc269 (by rfl))).trans ?_
  refine (G_iconst (mF fc269 (by rfl))).trans ?_
  refine (G_iload rfl (mF fc269 (by rfl))).trans ?_
  refine (G_imul (mF fc269 (by rfl))).trans ?_
  refine (G_putT (c := 12) (k := 60) rfl rfl rfl (mF fc269 (by rfl))).trans (andR ?_)
  refine (G_aload rfl (mF fc269 (by rfl))).trans ?_
  refine (G_iload rfl (mF fc269 (by rfl))).trans ?_
  refine (G_putZ (c := 12) (k := 61) rfl rfl rfl (mF fc269 (by rfl))).trans (andR (andR ?_))
  refine (G_aload rfl (mF fc269 (by rfl))).trans ?_
  refine (G_getR (c := 12) (k := 1) rfl rfl rfl (mF fc269 (by rfl))).trans (andR ?_)
  refine (G_iconst (mF fc269 (by rfl))).trans ?_
  refine (G_aload rfl (mF fc269 (by rfl))).trans ?_
  refine (G_aload rfl (mF fc269 (by rfl))).trans ?_
  refine (G_getR (c := 12) (k := 1) rfl rfl rfl (mF fc269 (by rfl))).trans (andR ?_)
  refine (G_iconst (mF fc269 (by rfl))).trans ?_
  refine (G_iaload (mF fc269 (by rfl))).trans (andR ?_)
  refine (G_Vi (q := 136898) (y := 267) (a := a0) (c := 12) rfl rfl rfl rfl (by decide) rfl (as := [.ref a0, .int (eI (sF (sF h a0 60 (.int ((ii 76) * x1))) a0 61 (.int x2)) (fR (sF (sF h a0 60 (.int ((ii 76) * x1))) a0 61 (.int x2)) a0 1) (ii 6))]) (rest := [.int (ii 6), .ref (fR (sF (sF h a0 60 (.int ((ii 76) * x1))) a0 61 (.int x2)) a0 1)]) rfl rfl (mF fc269 (by rfl))).trans (andR (GoCi_congr fun v1 h1 => ?_))
  refine (G_iastore (mF fc269 (by rfl))).trans (andR ?_)
  refine (G_aload rfl (mF fc269 (by rfl))).trans ?_
  refine (G_getR (c := 12) (k := 1) rfl rfl rfl (mF fc269 (by rfl))).trans (andR ?_)
  refine (G_iconst (mF fc269 (by rfl))).trans ?_
  refine (G_aload rfl (mF fc269 (by rfl))).trans ?_
  refine (G_aload rfl (mF fc269 (by rfl))).trans ?_
  refine (G_getR (c := 12) (k := 1) rfl rfl rfl (mF fc269 (by rfl))).trans (andR ?_)
  refine (G_iconst (mF fc269 (by rfl))).trans ?_
  refine (G_iaload (mF fc269 (by rfl))).trans (andR ?_)
  refine (G_Vi (q := 136898) (y := 267) (a := a0) (c := 12) rfl rfl rfl rfl (by decide) rfl (as := [.ref a0, .int (eI (sI h1 (fR (sF (sF h a0 60 (.int ((ii 76) * x1))) a0 61 (.int x2)) a0 1) (ii 6) v1) (fR (sI h1 (fR (sF (sF h a0 60 (.int ((ii 76) * x1))) a0 61 (.int x2)) a0 1) (ii 6) v1) a0 1) (ii 1))]) (rest := [.int (ii 1), .ref (fR (sI h1 (fR (sF (sF h a0 60 (.int ((ii 76) * x1))) a0 61 (.int x2)) a0 1) (ii 6) v1) a0 1)]) rfl rfl (mF fc269 (by rfl))).trans (andR (GoCi_congr fun v2 h2 => ?_))
  refine (G_iastore (mF fc269 (by rfl))).trans (andR ?_)
  refine (G_aload rfl (mF fc269 (by rfl))).trans ?_
  refine (G_aload rfl (mF fc269 (by rfl))).trans ?_
  refine (G_getR (c := 12) (k := 2) rfl rfl rfl (mF fc269 (by rfl))).trans (andR ?_)
  refine (G_Vv (q := 137410) (y := 268) (a := a0) (c := 12) rfl rfl rfl rfl (by decide) rfl (as := [.ref a0, .ref (fR (sI h2 (fR (sI h1 (fR (sF (sF h a0 60 (.int ((ii 76) * x1))) a0 61 (.int x2)) a0 1) (ii 6) v1) a0 1) (ii 1) v2) a0 2)]) (rest := []) rfl rfl (mF fc269 (by rfl))).trans (andR (GoCv_congr fun h3 => ?_))
  refine (G_aload rfl (mF fc269 (by rfl))).trans ?_
  refine (G_aload rfl (mF fc269 (by rfl))).trans ?_
  refine (G_getR (c := 12) (k := 5) rfl rfl rfl (mF fc269 (by rfl))).trans (andR ?_)
  refine (G_Vv (q := 137410) (y := 268) (a := a0) (c := 12) rfl rfl rfl rfl (by decide) rfl (as := [.ref a0, .ref (fR h3 a0 5)]) (rest := []) rfl rfl (mF fc269 (by rfl))).trans (andR (GoCv_congr fun h4 => ?_))
  refine (G_aload rfl (mF fc269 (by rfl))).trans ?_
  refine (G_aload rfl (mF fc269 (by rfl))).trans ?_
  refine (G_getR (c := 12) (k := 6) rfl rfl rfl (mF fc269 (by rfl))).trans (andR ?_)
  refine (G_Vv (q := 137410) (y := 268) (a := a0) (c := 12) rfl rfl rfl rfl (by decide) rfl (as := [.ref a0, .ref (fR h4 a0 6)]) (rest := []) rfl rfl (mF fc269 (by rfl))).trans (andR (GoCv_congr fun h5 => ?_))
  refine (G_aload rfl (mF fc269 (by rfl))).trans ?_
  refine (G_aload rfl (mF fc269 (by rfl))).trans ?_
  refine (G_getR (c := 12) (k := 15) rfl rfl rfl (mF fc269 (by rfl))).trans (andR ?_)
  refine (G_Vv (q := 137410) (y := 268) (a := a0) (c := 12) rfl rfl rfl rfl (by decide) rfl (as := [.ref a0, .ref (fR h5 a0 15)]) (rest := []) rfl rfl (mF fc269 (by rfl))).trans (andR (GoCv_congr fun h6 => ?_))
  exact G_return rfl (mF fc269 (by rfl))
theorem e269 {d : Nat} {h : mHeap} {K : mHeap → Prop} {a0 : Nat} {x1 : Int32} {x2 : Int32} : GoCv (d + 1) 269 [.ref a0, .int x1, .int x2] h K ↔ Go d 269 0 [some (.ref a0), some (.int x1), some (.int x2)] [] h (rV K) := GoCv_entry rfl rfl
set_option maxRecDepth 20000 in
theorem fc270 : mCodes[270]? = some mc270 := rfl
theorem b270_0 {d : Nat} {h : mHeap} {Q : Option Value → mHeap → Prop} {a0 : Nat} : Go d 270 0 [some (.ref a0), none] [] h Q ↔ okF h a0 12 59 0 ∧ (if ¬ (fI h a0 59) = (ii 20) then (Go d 270 50 [some (.ref a0), none] [] h Q) else (Go d 270 12 [some (.ref a0), some (.int (ii 76))] [] h Q)) := by
  refine (G_aload rfl (mF fc270 (by rfl))).trans ?_
  refine (G_getI (c := 12) (k := 59) rfl rfl rfl (mF fc270 (by rfl))).trans (andR ?_)
  refine (G_iconst (mF fc270 (by rfl))).trans ?_
  refine (G_ine (mF fc270 (by rfl))).trans (gi ?_ ?_)
  ·
    exact Iff.rfl
  ·
    refine (G_iconst (mF fc270 (by rfl))).trans ?_
    refine (G_istore (k := 1) (L' := [some (.ref a0), some (.int (ii 76))]) rfl (ltb rfl) rfl (mF fc270 (by rfl))).trans ?_
    exact Iff.rfl
theorem b270_12 {d : Nat} {h : mHeap} {Q : Option Value → mHeap → Prop} {a0 : Nat} {x1 : Int32} : Go d 270 12 [some (.ref a0), some (.int x1)] [] h Q ↔ (if (ii 1520) ≤ x1 then (okF h a0 12 59 0 ∧ okP h a0 12 59 ∧ Go d 270 50 [some (.ref a0), some (.int x1)] [] (sF h a0 59 (.int ((fI h a0 59) - (ii 1)))) Q) else (okF h a0 12 57 2 ∧ okF h a0 12 57 2 ∧ okA h (fR h a0 57) .int x1 ∧ (64 ≤ (fR h a0 57) ∧ okA h (fR h a0 57) .int (x1 - (ii 76))) ∧ Go d 270 12 [some (.ref a0), some (.int (x1 + ii 1))] [] (sI h (fR h a0 57) (x1 - (ii 76)) (eI h (fR h a0 57) x1)) Q)) := by
  refine (G_iload rfl (mF fc270 (by rfl))).trans ?_
  refine (G_iconst (mF fc270 (by rfl))).trans ?_
  refine (G_ige (mF fc270 (by rfl))).trans (gi ?_ ?_)
  ·
    refine (G_aload rfl (mF fc270 (by rfl))).trans ?_
    refine (G_dupr (mF fc270 (by rfl))).trans ?_
    refine (G_getI (c := 12) (k := 59) rfl rfl rfl (mF fc270 (by rfl))).trans (andR ?_)
    refine (G_iconst (mF fc270 (by rfl))).trans ?_
    refine (G_isub (mF fc270 (by rfl))).trans ?_
    refine (G_putT (c := 12) (k := 59) rfl rfl rfl (mF fc270 (by rfl))).trans (andR ?_)
    exact Iff.rfl
  ·
    refine (G_aload rfl (mF fc270 (by rfl))).trans ?_
    refine (G_getR (c := 12) (k := 57) rfl rfl rfl (mF fc270 (by rfl))).trans (andR ?_)
    refine (G_iload rfl (mF fc270 (by rfl))).trans ?_
    refine (G_iconst (mF fc270 (by rfl))).trans ?_
    refine (G_isub (mF fc270 (by rfl))).trans ?_
    refine (G_aload rfl (mF fc270 (by rfl))).trans ?_
    refine (G_getR (c := 12) (k := 57) rfl rfl rfl (mF fc270 (by rfl))).trans (andR ?_)
    refine (G_iload rfl (mF fc270 (by rfl))).trans ?_
    refine (G_iaload (mF fc270 (by rfl))).trans (andR ?_)
    refine (G_iastore (mF fc270 (by rfl))).trans (andR ?_)
    refine (G_iinc (k := 1) (L' := [some (.ref a0), some (.int (x1 + ii 1))]) rfl rfl rfl (mF fc270 (by rfl))).trans ?_
    refine (G_goto (mF fc270 (by rfl))).trans ?_
    exact Iff.rfl
theorem b270_50 {d : Nat} {h : mHeap} {Q : Option Value → mHeap → Prop} {a0 : Nat} {l1 : Option Value} : Go d 270 50 [some (.ref a0), l1] [] h Q ↔ okF h a0 12 59 0 ∧ oC h a0 = 12 ∧ GoCv d 269 [.ref a0, .int (fI h a0 59), .int (ii 0)] h (fun h1 => okF h1 a0 12 59 0 ∧ okP h1 a0 12 59 ∧ Q none (sF h1 a0 59 (.int ((fI h1 a0 59) + (ii 1))))) := by
  refine (G_aload rfl (mF fc270 (by rfl))).trans ?_
  refine (G_aload rfl (mF fc270 (by rfl))).trans ?_
  refine (G_getI (c := 12) (k := 59) rfl rfl rfl (mF fc270 (by rfl))).trans (andR ?_)
  refine (G_iconst (mF fc270 (by rfl))).trans ?_
  refine (G_Vv (q := 137923) (y := 269) (a := a0) (c := 12) rfl rfl rfl rfl (by decide) rfl (as := [.ref a0, .int (fI h a0 59), .int (ii 0)]) (rest := []) rfl rfl (mF fc270 (by rfl))).trans (andR (GoCv_congr fun h1 => ?_))
  refine (G_aload rfl (mF fc270 (by rfl))).trans ?_
  refine (G_dupr (mF fc270 (by rfl))).trans ?_
  refine (G_getI (c := 12) (k := 59) rfl rfl rfl (mF fc270 (by rfl))).trans (andR ?_)
  refine (G_iconst (mF fc270 (by rfl))).trans ?_
  refine (G_iadd (mF fc270 (by rfl))).trans ?_
  refine (G_putT (c := 12) (k := 59) rfl rfl rfl (mF fc270 (by rfl))).trans (andR ?_)
  exact G_return rfl (mF fc270 (by rfl))
theorem e270 {d : Nat} {h : mHeap} {K : mHeap → Prop} {a0 : Nat} : GoCv (d + 1) 270 [.ref a0] h K ↔ Go d 270 0 [some (.ref a0), none] [] h (rV K) := GoCv_entry rfl rfl
