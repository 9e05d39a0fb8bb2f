set_option maxRecDepth 20000 in
theorem fc29 : mCodes[29]? = some mc29 := rfl
theorem b29_0 {d : Nat} {h : mHeap} {Q : Option Value → mHeap → Prop} {a0 : Nat} : Go d 29 0 [some (.ref a0)] [] h Q ↔ 64 ≤ a0 ∧ okN (ii 6) ∧ (∃ h1 : mHeap, h1 = nA h .int (ii 6) ∧ okP h1 a0 2 4 ∧ okN (ii 6) ∧ (∃ h2 : mHeap, h2 = nA (sF h1 a0 4 (.ref h.length)) .int (ii 6) ∧ okP h2 a0 2 5 ∧ okN (ii 6) ∧ (∃ h3 : mHeap, h3 = nA (sF h2 a0 5 (.ref ((sF h1 a0 4 (.ref h.length)).length))) .int (ii 6) ∧ okP h3 a0 2 6 ∧ okN (ii 6) ∧ (∃ h4 : mHeap, h4 = nA (sF h3 a0 6 (.ref ((sF h2 a0 5 (.ref ((sF h1 a0 4 (.ref h.length)).length))).length))) .int (ii 6) ∧ okP h4 a0 2 8 ∧ okN (ii 36) ∧ (∃ h5 : mHeap, h5 = nA (sF h4 a0 8 (.ref ((sF h3 a0 6 (.ref ((sF h2 a0 5 (.ref ((sF h1 a0 4 (.ref h.length)).length))).length))).length))) .int (ii 36) ∧ okP h5 a0 2 10 ∧ okN (ii 8) ∧ (∃ h6 : mHeap, h6 = nA (sF h5 a0 10 (.ref ((sF h4 a0 8 (.ref ((sF h3 a0 6 (.ref ((sF h2 a0 5 (.ref ((sF h1 a0 4 (.ref h.length)).length))).length))).length))).length))) .int (ii 8) ∧ okP h6 a0 2 12 ∧ okN (ii 8) ∧ (∃ h7 : mHeap, h7 = nA (sF h6 a0 12 (.ref ((sF h5 a0 10 (.ref ((sF h4 a0 8 (.ref ((sF h3 a0 6 (.ref ((sF h2 a0 5 (.ref ((sF h1 a0 4 (.ref h.length)).length))).length))).length))).length))).length))) .int (ii 8) ∧ okP h7 a0 2 13 ∧ Q none (sF h7 a0 13 (.ref ((sF h6 a0 12 (.ref ((sF h5 a0 10 (.ref ((sF h4 a0 8 (.ref ((sF h3 a0 6 (.ref ((sF h2 a0 5 (.ref ((sF h1 a0 4 (.ref h.length)).length))).length))).length))).length))).length))).length)))))))))) := by
  refine (G_aload rfl (mF fc29 (by rfl))).trans ?_
  refine (G_objinit (Nat.le_of_ble_eq_true rfl) (mF fc29 (by rfl))).trans (andR ?_)
  refine (G_aload rfl (mF fc29 (by rfl))).trans ?_
  refine (G_iconst (mF fc29 (by rfl))).trans ?_
  refine (G_newarrayI (mF fc29 (by rfl))).trans (andR ?_)
  refine (exN (A := fun x => Go d 29 9 [some (.ref a0)] [.ref h.length, .ref a0] x Q) (e := nA h .int (ii 6)) fun h1 => ?_)
  refine (G_putT (c := 2) (k := 4) rfl rfl rfl (mF fc29 (by rfl))).trans (andR ?_)
  refine (G_aload rfl (mF fc29 (by rfl))).trans ?_
  refine (G_iconst (mF fc29 (by rfl))).trans ?_
  refine (G_newarrayI (mF fc29 (by rfl))).trans (andR ?_)
  refine (exN (A := fun x => Go d 29 17 [some (.ref a0)] [.ref ((sF h1 a0 4 (.ref h.length)).length), .ref a0] x Q) (e := nA (sF h1 a0 4 (.ref h.length)) .int (ii 6)) fun h2 => ?_)
  refine (G_putT (c := 2) (k := 5) rfl rfl rfl (mF fc29 (by rfl))).trans (andR ?_)
  refine (G_aload rfl (mF fc29 (by rfl))).trans ?_
  refine (G_iconst (mF fc29 (by rfl))).trans ?_
  refine (G_newarrayI (mF fc29 (by rfl))).trans (andR ?_)
  refine (exN (A := fun x => Go d 29 25 [some (.ref a0)] [.ref ((sF h2 a0 5 (.ref ((sF h1 a0 4 (.ref h.length)).length))).length), .ref a0] x Q) (e := nA (sF h2 a0 5 (.ref ((sF h1 a0 4 (.ref h.length)).length))) .int (ii 6)) fun h3 => ?_)
  refine (G_putT (c := 2) (k := 6) rfl rfl rfl (mF fc29 (by rfl))).trans (andR ?_)
  refine (G_aload rfl (mF fc29 (by rfl))).trans ?_
  refine (G_iconst (mF fc29 (by rfl))).trans ?_
  refine (G_newarrayI (mF fc29 (by rfl))).trans (andR ?_)
  refine (exN (A := fun x => Go d 29 33 [some (.ref a0)] [.ref ((sF h3 a0 6 (.ref ((sF h2 a0 5 (.ref ((sF h1 a0 4 (.ref h.length)).length))).length))).length), .ref a0] x Q) (e := nA (sF h3 a0 6 (.ref ((sF h2 a0 5 (.ref ((sF h1 a0 4 (.ref h.length)).length))).length))) .int (ii 6)) fun h4 => ?_)
  refine (G_putT (c := 2) (k := 8) rfl rfl rfl (mF fc29 (by rfl))).trans (andR ?_)
  refine (G_aload rfl (mF fc29 (by rfl))).trans ?_
  refine (G_iconst (mF fc29 (by rfl))).trans ?_
  refine (G_newarrayI (mF fc29 (by rfl))).trans (andR ?_)
  refine (exN (A := fun x => Go d 29 41 [some (.ref a0)] [.ref ((sF h4 a0 8 (.ref ((sF h3 a0 6 (.ref ((sF h2 a0 5 (.ref ((sF h1 a0 4 (.ref h.length)).length))).length))).length))).length), .ref a0] x Q) (e := nA (sF h4 a0 8 (.ref ((sF h3 a0 6 (.ref ((sF h2 a0 5 (.ref ((sF h1 a0 4 (.ref h.length)).length))).length))).length))) .int (ii 36)) fun h5 => ?_)
  refine (G_putT (c := 2) (k := 10) rfl rfl rfl (mF fc29 (by rfl))).trans (andR ?_)
  refine (G_aload rfl (mF fc29 (by rfl))).trans ?_
  refine (G_iconst (mF fc29 (by rfl))).trans ?_
  refine (G_newarrayI (mF fc29 (by rfl))).trans (andR ?_)
  refine (exN (A := fun x => Go d 29 49 [some (.ref a0)] [.ref ((sF h5 a0 10 (.ref ((sF h4 a0 8 (.ref ((sF h3 a0 6 (.ref ((sF h2 a0 5 (.ref ((sF h1 a0 4 (.ref h.length)).length))).length))).length))).length))).length), .ref a0] x Q) (e := nA (sF h5 a0 10 (.ref ((sF h4 a0 8 (.ref ((sF h3 a0 6 (.ref ((sF h2 a0 5 (.ref ((sF h1 a0 4 (.ref h.length)).length))).length))).length))).length))) .int (ii 8)) fun h6 => ?_)
  refine (G_putT (c := 2) (k := 12) rfl rfl rfl (mF fc29 (by rfl))).trans (andR ?_)
  refine (G_aload rfl (mF fc29 (by rfl))).trans ?_
  refine (G_iconst (mF fc29 (by rfl))).trans ?_
  refine (G_newarrayI (mF fc29 (by rfl))).trans (andR ?_)
  refine (exN (A := fun x => Go d 29 57 [some (.ref a0)] [.ref ((sF h6 a0 12 (.ref ((sF h5 a0 10 (.ref ((sF h4 a0 8 (.ref ((sF h3 a0 6 (.ref ((sF h2 a0 5 (.ref ((sF h1 a0 4 (.ref h.length)).length))).length))).length))).length))).length))).length), .ref a0] x Q) (e := nA (sF h6 a0 12 (.ref ((sF h5 a0 10 (.ref ((sF h4 a0 8 (.ref ((sF h3 a0 6 (.ref ((sF h2 a0 5 (.ref ((sF h1 a0 4 (.ref h.length)).length))).length))).length))).length))).length))) .int (ii 8)) fun h7 => ?_)
  refine (G_putT (c := 2) (k := 13) rfl rfl rfl (mF fc29 (by rfl))).trans (andR ?_)
  exact G_return rfl (mF fc29 (by rfl))
theorem e29 {d : Nat} {h : mHeap} {K : mHeap → Prop} {a0 : Nat} : GoCv (d + 1) 29 [.ref a0] h K ↔ Go d 29 0 [some (.ref a0)] [] h (rV K) := GoCv_entry rfl rfl
set_option maxRecDepth 20000 in
theorem fc30 : mCodes[30]? = some mc30 := rfl
theorem b30_0 {d : Nat} {h : mHeap} {Q : Option Value → mHeap → Prop} {a0 : Nat} {a1 : Nat} : Go d 30 0 [some (.ref a0), some (.ref a1), none] [] h Q ↔ oC h a1 = 9 ∧ GoCv d 99 [.ref a1] h (fun h1 => oC h1 a0 = 2 ∧ GoCv d 31 [.ref a0] h1 (fun h2 => oC h2 a0 = 2 ∧ GoCv d 32 [.ref a0, .ref a1, .int (ii 0)] h2 (fun h3 => Go d 30 16 [some (.ref a0), some (.ref a1), some (.int (ii 1))] [] h3 Q))) := by
  refine (G_aload rfl (mF fc30 (by rfl))).trans ?_
  refine (G_Vv (q := 50833) (y := 99) (a := a1) (c := 9) rfl rfl rfl rfl (by decide) rfl (as := [.ref a1]) (rest := []) rfl rfl (mF fc30 (by rfl))).trans (andR (GoCv_congr fun h1 => ?_))
  refine (G_aload rfl (mF fc30 (by rfl))).trans ?_
  refine (G_Vv (q := 15905) (y := 31) (a := a0) (c := 2) rfl rfl rfl rfl (by decide) rfl (as := [.ref a0]) (rest := []) rfl rfl (mF fc30 (by rfl))).trans (andR (GoCv_congr fun h2 => ?_))
  refine (G_aload rfl (mF fc30 (by rfl))).trans ?_
  refine (G_aload rfl (mF fc30 (by rfl))).trans ?_
  refine (G_iconst (mF fc30 (by rfl))).trans ?_
  refine (G_Vv (q := 16419) (y := 32) (a := a0) (c := 2) rfl rfl rfl rfl (by decide) rfl (as := [.ref a0, .ref a1, .int (ii 0)]) (rest := []) rfl rfl (mF fc30 (by rfl))).trans (andR (GoCv_congr fun h3 => ?_))
  refine (G_iconst (mF fc30 (by rfl))).trans ?_
  refine (G_istore (k := 2) (L' := [some (.ref a0), some (.ref a1), some (.int (ii 1))]) rfl (ltb rfl) rfl (mF fc30 (by rfl))).trans ?_
  exact Iff.rfl
theorem b30_16 {d : Nat} {h : mHeap} {Q : Option Value → mHeap → Prop} {a0 : Nat} {a1 : Nat} {x2 : Int32} : Go d 30 16 [some (.ref a0), some (.ref a1), some (.int x2)] [] h Q ↔ (if (ii 400) < x2 then (Go d 30 44 [some (.ref a0), some (.ref a1), some (.int x2)] [] h Q) else (oC h a1 = 9 ∧ GoCi d 109 [.ref a1, .int (ii 59)] h (fun v1 h1 => (if v1 = ii 0 then (Go d 30 44 [some (.ref a0), some (.ref a1), some (.int x2)] [] h1 Q) else (oC h1 a0 = 2 ∧ GoCv d 32 [.ref a0, .ref a1, .int x2] h1 (fun h2 => Go d 30 16 [some (.ref a0), some (.ref a1), some (.int (x2 + ii 1))] [] h2 Q)))))) := by
  refine (G_iload rfl (mF fc30 (by rfl))).trans ?_
  refine (G_iconst (mF fc30 (by rfl))).trans ?_
  refine (G_igt (mF fc30 (by rfl))).trans (gi ?_ ?_)
  ·
    exact Iff.rfl
  ·
    refine (G_aload rfl (mF fc30 (by rfl))).trans ?_
    refine (G_iconst (mF fc30 (by rfl))).trans ?_
    refine (G_Vi (q := 55954) (y := 109) (a := a1) (c := 9) rfl rfl rfl rfl (by decide) rfl (as := [.ref a1, .int (ii 59)]) (rest := []) rfl rfl (mF fc30 (by rfl))).trans (andR (GoCi_congr fun v1 h1 => ?_))
    refine (G_eq (mF fc30 (by rfl))).trans (gi ?_ ?_)
    ·
      exact Iff.rfl
    ·
      refine (G_aload rfl (mF fc30 (by rfl))).trans ?_
      refine (G_aload rfl (mF fc30 (by rfl))).trans ?_
      refine (G_iload rfl (mF fc30 (by rfl))).trans ?_
      refine (G_Vv (q := 16419) (y := 32) (a := a0) (c := 2) rfl rfl rfl rfl (by decide) rfl (as := [.ref a0, .ref a1, .int x2]) (rest := []) rfl rfl (mF fc30 (by rfl))).trans (andR (GoCv_congr fun h2 => ?_))
      refine (G_iinc (k := 2) (L' := [some (.ref a0), some (.ref a1), some (.int (x2 + ii 1))]) rfl rfl rfl (mF fc30 (by rfl))).trans ?_
      refine (G_goto (mF fc30 (by rfl))).trans ?_
      exact Iff.rfl
theorem b30_44 {d : Nat} {h : mHeap} {Q : Option Value → mHeap → Prop} {a0 : Nat} {a1 : Nat} {l2 : Option Value} : Go d 30 44 [some (.ref a0), some (.ref a1), l2] [] h Q ↔ oC h a1 = 9 ∧ GoCv d 111 [.ref a1] h (fun h1 => oC h1 a0 = 2 ∧ GoCv d 40 [.ref a0] h1 (fun h2 => Q none h2)) := by
  refine (G_aload rfl (mF fc30 (by rfl))).trans ?_
  refine (G_Vv (q := 56977) (y := 111) (a := a1) (c := 9) rfl rfl rfl rfl (by decide) rfl (as := [.ref a1]) (rest := []) rfl rfl (mF fc30 (by rfl))).trans (andR (GoCv_congr fun h1 => ?_))
  refine (G_aload rfl (mF fc30 (by rfl))).trans ?_
  refine (G_Vv (q := 20513) (y := 40) (a := a0) (c := 2) rfl rfl rfl rfl (by decide) rfl (as := [.ref a0]) (rest := []) rfl rfl (mF fc30 (by rfl))).trans (andR (GoCv_congr fun h2 => ?_))
  exact G_return rfl (mF fc30 (by rfl))
theorem e30 {d : Nat} {h : mHeap} {K : mHeap → Prop} {a0 : Nat} {a1 : Nat} : GoCv (d + 1) 30 [.ref a0, .ref a1] h K ↔ Go d 30 0 [some (.ref a0), some (.ref a1), none] [] h (rV K) := GoCv_entry rfl rfl
set_option maxRecDepth 20000 in
theorem fc31 : mCodes[31]? = some mc31 := rfl
theorem b31_0 {d : Nat} {h : mHeap} {Q : Option Value → mHeap → Prop} {a0 : Nat} : Go d 31 0 [some (.ref a0), none] [] h Q ↔ okF h a0 2 10 2 ∧ GoCv d 325 [.ref (fR h a0 10), .int (ii 1000)] h (fun h1 => Go d 31 12 [some (.ref a0), some (.int (ii 0))] [] h1 Q) := by
  refine (G_aload rfl (mF fc31 (by rfl))).trans ?_
  refine (G_getR (c := 2) (k := 10) rfl rfl rfl (mF fc31 (by rfl))).trans (andR ?_)
  refine (G_iconst (mF fc31 (by rfl))).trans ?_
  refine (G_Tv (q := 166690) (y := 325) rfl rfl rfl (as := [.ref (fR h a0 10), .int (ii 1000)]) (rest := []) rfl rfl (mF fc31 (by rfl))).trans (GoCv_congr fun h1 => ?_)
  refine (G_iconst (mF fc31 (by rfl))).trans ?_
  refine (G_istore (k := 1) (L' := [some (.ref a0), some (.int (ii 0))]) rfl (ltb rfl) rfl (mF fc31 (by rfl))).trans ?_
  exact Iff.rfl
theorem b31_12 {d : Nat} {h : mHeap} {Q : Option Value → mHeap → Prop} {a0 : Nat} {x1 : Int32} : Go d 31 12 [some (.ref a0), some (.int x1)] [] h Q ↔ (if (ii 6) ≤ x1 then (Q none h) else (okF h a0 2 10 2 ∧ (64 ≤ (fR h a0 10) ∧ okA h (fR h a0 10) .int ((x1 * (ii 6)) + x1)) ∧ Go d 31 12 [some (.ref a0), some (.int (x1 + ii 1))] [] (sI h (fR h a0 10) ((x1 * (ii 6)) + x1) (ii 0)) Q)) := by
  refine (G_iload rfl (mF fc31 (by rfl))).trans ?_
  refine (G_iconst (mF fc31 (by rfl))).trans ?_
  refine (G_ige (mF fc31 (by rfl))).trans (gi ?_ ?_)
  ·
    exact G_return rfl (mF fc31 (by rfl))
  ·
    refine (G_aload rfl (mF fc31 (by rfl))).trans ?_
    refine (G_getR (c := 2) (k := 10) rfl rfl rfl (mF fc31 (by rfl))).trans (andR ?_)
    refine (G_iload rfl (mF fc31 (by rfl))).trans ?_
    refine (G_iconst (mF fc31 (by rfl))).trans ?_
    refine (G_imul (mF fc31 (by rfl))).trans ?_
    refine (G_iload rfl (mF fc31 (by rfl))).trans ?_
    refine (G_iadd (mF fc31 (by rfl))).trans ?_
    refine (G_iconst (mF fc31 (by rfl))).trans ?_
    refine (G_iastore (mF fc31 (by rfl))).trans (andR ?_)
    refine (G_iinc (k := 1) (L' := [some (.ref a0), some (.int (x1 + ii 1))]) rfl rfl rfl (mF fc31 (by rfl))).trans ?_
    refine (G_goto (mF fc31 (by rfl))).trans ?_
    exact Iff.rfl
theorem e31 {d : Nat} {h : mHeap} {K : mHeap → Prop} {a0 : Nat} : GoCv (d + 1) 31 [.ref a0] h K ↔ Go d 31 0 [some (.ref a0), none] [] h (rV K) := GoCv_entry rfl rfl
set_option maxRecDepth 20000 in
theorem fc32 : mCodes[32]? = some mc32 := rfl
theorem b32_0 {d : Nat} {h : mHeap} {Q : Option Value → mHeap → Prop} {a0 : Nat} {a1 : Nat} {x2 : Int32} : Go d 32 0 [some (.ref a0), some (.ref a1), some (.int x2), none] [] h Q ↔ oC h a1 = 9 ∧ GoCi d 107 [.ref a1] h (fun v1 h1 => (if v1 < (ii 300) then (Go d 32 19 [some (.ref a0), some (.ref a1), some (.int x2), some (.int v1)] [] h1 Q) else ((if v1 ≤ (ii 304) then ((if (ii 40) ≤ x2 then (Go d 32 63 [some (.ref a0), some (.ref a1), some (.int x2), some (.int v1)] [] h1 Q) else ((if ¬ v1 = (ii 300) then (Go d 32 43 [some (.ref a0), some (.ref a1), some (.int x2), some (.int v1)] [.int (ii 0)] h1 Q) else (Go d 32 43 [some (.ref a0), some (.ref a1), some (.int x2), some (.int v1)] [.int (ii 1)] h1 Q))))) else (Go d 32 19 [some (.ref a0), some (.ref a1), some (.int x2), some (.int v1)] [] h1 Q))))) := by
  refine (G_aload rfl (mF fc32 (by rfl))).trans ?_
  refine (G_Vi (q := 54929) (y := 107) (a := a1) (c := 9) rfl rfl rfl rfl (by decide) rfl (as := [.ref a1]) (rest := []) rfl rfl (mF fc32 (by rfl))).trans (andR (GoCi_congr fun v1 h1 => ?_))
  refine (G_istore (k := 3) (L' := [some (.ref a0), some (.ref a1), some (.int x2), some (.int v1)]) rfl (ltb rfl) rfl (mF fc32 (by rfl))).trans ?_
  refine (G_iload rfl (mF fc32 (by rfl))).trans ?_
  refine (G_iconst (mF fc32 (by rfl))).trans ?_
  refine (G_ilt (mF fc32 (by rfl))).trans (gi ?_ ?_)
  ·
    exact Iff.rfl
  ·
    refine (G_iload rfl (mF fc32 (by rfl))).trans ?_
    refine (G_iconst (mF fc32 (by rfl))).trans ?_
    refine (G_ile (mF fc32 (by rfl))).trans (gi ?_ ?_)
    ·
      refine (G_iload rfl (mF fc32 (by rfl))).trans ?_
      refine (G_iconst (mF fc32 (by rfl))).trans ?_
      refine (G_ige (mF fc32 (by rfl))).trans (gi ?_ ?_)
      ·
        exact Iff.rfl
      ·
        refine (G_iload rfl (mF fc32 (by rfl))).trans ?_
        refine (G_iconst (mF fc32 (by rfl))).trans ?_
        refine (G_ine (mF fc32 (by rfl))).trans (gi ?_ ?_)
        ·
          refine (G_iconst (mF fc32 (by rfl))).trans ?_
          exact Iff.rfl
        ·
          refine (G_iconst (mF fc32 (by rfl))).trans ?_
          refine (G_goto (mF fc32 (by rfl))).trans ?_
          exact Iff.rfl
    ·
      exact Iff.rfl
theorem b32_19 {d : Nat} {h : mHeap} {Q : Option Value → mHeap → Prop} {l0 : Option Value} {a1 : Nat} {l2 : Option Value} {l3 : Option Value} : Go d 32 19 [l0, some (.ref a1), l2, l3] [] h Q ↔ oC h a1 = 9 ∧ GoCv d 112 [.ref a1, .int (ii 0)] h (fun h1 => Q none h1) := by
  refine (G_aload rfl (mF fc32 (by rfl))).trans ?_
  refine (G_iconst (mF fc32 (by rfl))).trans ?_
  refine (G_Vv (q := 57490) (y := 112) (a := a1) (c := 9) rfl rfl rfl rfl (by decide) rfl (as := [.ref a1, .int (ii 0)]) (rest := []) rfl rfl (mF fc32 (by rfl))).trans (andR (GoCv_congr fun h1 => ?_))
  exact G_return rfl (mF fc32 (by rfl))
theorem b32_43 {d : Nat} {h : mHeap} {Q : Option Value → mHeap → Prop} {a0 : Nat} {a1 : Nat} {x2 : Int32} {x3 : Int32} {s0 : Int32} : Go d 32 43 [some (.ref a0), some (.ref a1), some (.int x2), some (.int x3)] [.int s0] h Q ↔ (if ¬ x2 = ii 0 then (Go d 32 52 [some (.ref a0), some (.ref a1), some (.int x2), some (.int x3)] [.int (ii 0), .int s0] h Q) else (Go d 32 52 [some (.ref a0), some (.ref a1), some (.int x2), some (.int x3)] [.int (ii 1), .int s0] h Q)) := by
  refine (G_iload rfl (mF fc32 (by rfl))).trans ?_
  refine (G_ne (mF fc32 (by rfl))).trans (gi ?_ ?_)
  ·
    refine (G_iconst (mF fc32 (by rfl))).trans ?_
    exact Iff.rfl
  ·
    refine (G_iconst (mF fc32 (by rfl))).trans ?_
    refine (G_goto (mF fc32 (by rfl))).trans ?_
    exact Iff.rfl
theorem b32_52 {d : Nat} {h : mHeap} {Q : Option Value → mHeap → Prop} {a0 : Nat} {a1 : Nat} {l2 : Option Value} {x3 : Int32} {s0 : Int32} {s1 : Int32} : Go d 32 52 [some (.ref a0), some (.ref a1), l2, some (.int x3)] [.int s1, .int s0] h Q ↔ (if ¬ s0 = s1 then (Go d 32 63 [some (.ref a0), some (.ref a1), l2, some (.int x3)] [] h Q) else (oC h a0 = 2 ∧ GoCi d 33 [.ref a0, .int x3] h (fun v1 h1 => (if v1 = ii 0 then (oC h1 a1 = 9 ∧ GoCv d 108 [.ref a1] h1 (fun h2 => (if x3 = ii 300 then (oC h2 a0 = 2 ∧ GoCv d 34 [.ref a0, .ref a1] h2 (fun h3 => Q none h3)) else (if x3 = ii 301 then (oC h2 a0 = 2 ∧ GoCv d 36 [.ref a0, .ref a1] h2 (fun h4 => Q none h4)) else (if x3 = ii 302 then (oC h2 a0 = 2 ∧ GoCv d 37 [.ref a0, .ref a1] h2 (fun h5 => Q none h5)) else (if x3 = ii 303 then (oC h2 a0 = 2 ∧ GoCv d 38 [.ref a0, .ref a1] h2 (fun h6 => Q none h6)) else (if x3 = ii 304 then (oC h2 a0 = 2 ∧ GoCv d 35 [.ref a0, .ref a1] h2 (fun h7 => Q none h7)) else (oC h2 a0 = 2 ∧ GoCv d 38 [.ref a0, .ref a1] h2 (fun h8 => Q none h8))))))))) else (Go d 32 63 [some (.ref a0), some (.ref a1), l2, some (.int x3)] [] h1 Q))))) := by
  refine (G_ine (mF fc32 (by rfl))).trans (gi ?_ ?_)
  ·
    exact Iff.rfl
  ·
    refine (G_aload rfl (mF fc32 (by rfl))).trans ?_
    refine (G_iload rfl (mF fc32 (by rfl))).trans ?_
    refine (G_Vi (q := 16930) (y := 33) (a := a0) (c := 2) rfl rfl rfl rfl (by decide) rfl (as := [.ref a0, .int x3]) (rest := []) rfl rfl (mF fc32 (by rfl))).trans (andR (GoCi_congr fun v1 h1 => ?_))
    refine (G_eq (mF fc32 (by rfl))).trans (gi ?_ ?_)
    ·
      refine (G_aload rfl (mF fc32 (by rfl))).trans ?_
      refine (G_Vv (q := 55441) (y := 108) (a := a1) (c := 9) rfl rfl rfl rfl (by decide) rfl (as := [.ref a1]) (rest := []) rfl rfl (mF fc32 (by rfl))).trans (andR (GoCv_congr fun h2 => ?_))
      refine (G_iload rfl (mF fc32 (by rfl))).trans ?_
      refine (G_tableswitch (lo := 300) (hi := 304) [108, 124, 132, 140, 116] rfl (by decide) (by decide) (by decide) (mF fc32 (by rfl))).trans ?_
      refine gi ?_ ?_
      ·
        refine (G_aload rfl (mF fc32 (by rfl))).trans ?_
        refine (G_aload rfl (mF fc32 (by rfl))).trans ?_
        refine (G_Vv (q := 17442) (y := 34) (a := a0) (c := 2) rfl rfl rfl rfl (by decide) rfl (as := [.ref a0, .ref a1]) (rest := []) rfl rfl (mF fc32 (by rfl))).trans (andR (GoCv_congr fun h3 => ?_))
        refine (G_goto (mF fc32 (by rfl))).trans ?_
        exact G_return rfl (mF fc32 (by rfl))
      ·
        refine gi ?_ ?_
        ·
          refine (G_aload rfl (mF fc32 (by rfl))).trans ?_
          refine (G_aload rfl (mF fc32 (by rfl))).trans ?_
          refine (G_Vv (q := 18466) (y := 36) (a := a0) (c := 2) rfl rfl rfl rfl (by decide) rfl (as := [.ref a0, .ref a1]) (rest := []) rfl rfl (mF fc32 (by rfl))).trans (andR (GoCv_congr fun h4 => ?_))
          refine (G_goto (mF fc32 (by rfl))).trans ?_
          exact G_return rfl (mF fc32 (by rfl))
        ·
          refine gi ?_ ?_
          ·
            refine (G_aload rfl (mF fc32 (by rfl))).trans ?_
            refine (G_aload rfl (mF fc32 (by rfl))).trans ?_
            refine (G_Vv (q := 18978) (y := 37) (a := a0) (c := 2) rfl rfl rfl rfl (by decide) rfl (as := [.ref a0, .ref a1]) (rest := []) rfl rfl (mF fc32 (by rfl))).trans (andR (GoCv_congr fun h5 => ?_))
            refine (G_goto (mF fc32 (by rfl))).trans ?_
            exact G_return rfl (mF fc32 (by rfl))
          ·
            refine gi ?_ ?_
            ·
              refine (G_aload rfl (mF fc32 (by rfl))).trans ?_
              refine (G_aload rfl (mF fc32 (by rfl))).trans ?_
              refine (G_Vv (q := 19490) (y := 38) (a := a0) (c := 2) rfl rfl rfl rfl (by decide) rfl (as := [.ref a0, .ref a1]) (rest := []) rfl rfl (mF fc32 (by rfl))).trans (andR (GoCv_congr fun h6 => ?_))
              exact G_return rfl (mF fc32 (by rfl))
            ·
              refine gi ?_ ?_
              ·
                refine (G_aload rfl (mF fc32 (by rfl))).trans ?_
                refine (G_aload rfl (mF fc32 (by rfl))).trans ?_
                refine (G_Vv (q := 17954) (y := 35) (a := a0) (c := 2) rfl rfl rfl rfl (by decide) rfl (as := [.ref a0, .ref a1]) (rest := []) rfl rfl (mF fc32 (by rfl))).trans (andR (GoCv_congr fun h7 => ?_))
                refine (G_goto (mF fc32 (by rfl))).trans ?_
                exact G_return rfl (mF fc32 (by rfl))
              ·
                refine (G_aload rfl (mF fc32 (by rfl))).trans ?_
                refine (G_aload rfl (mF fc32 (by rfl))).trans ?_
                refine (G_Vv (q := 19490) (y := 38) (a := a0) (c := 2) rfl rfl rfl rfl (by decide) rfl (as := [.ref a0, .ref a1]) (rest := []) rfl rfl (mF fc32 (by rfl))).trans (andR (GoCv_congr fun h8 => ?_))
                exact G_return rfl (mF fc32 (by rfl))
    ·
      exact Iff.rfl
theorem b32_63 {d : Nat} {h : mHeap} {Q : Option Value → mHeap → Prop} {l0 : Option Value} {a1 : Nat} {l2 : Option Value} {l3 : Option Value} : Go d 32 63 [l0, some (.ref a1), l2, l3] [] h Q ↔ oC h a1 = 9 ∧ GoCv d 112 [.ref a1, .int (ii 4)] h (fun h1 => Q none h1) := by
  refine (G_aload rfl (mF fc32 (by rfl))).trans ?_
  refine (G_iconst (mF fc32 (by rfl))).trans ?_
  refine (G_Vv (q := 57490) (y := 112) (a := a1) (c := 9) rfl rfl rfl rfl (by decide) rfl (as := [.ref a1, .int (ii 4)]) (rest := []) rfl rfl (mF fc32 (by rfl))).trans (andR (GoCv_congr fun h1 => ?_))
  exact G_return rfl (mF fc32 (by rfl))
theorem e32 {d : Nat} {h : mHeap} {K : mHeap → Prop} {a0 : Nat} {a1 : Nat} {x2 : Int32} : GoCv (d + 1) 32 [.ref a0, .ref a1, .int x2] h K ↔ Go d 32 0 [some (.ref a0), some (.ref a1), some (.int x2), none] [] h (rV K) := GoCv_entry rfl rfl
set_option maxRecDepth 20000 in
theorem fc33 : mCodes[33]? = some mc33 := rfl
theorem b33_0 {d : Nat} {h : mHeap} {Q : Option Value → mHeap → Prop} {a0 : Nat} {x1 : Int32} : Go d 33 0 [some (.ref a0), some (.int x1)] [] h Q ↔ (if x1 = ii 301 then (okF h a0 2 7 0 ∧ (if (fI h a0 7) < (ii 6) then (((ii 0) = ii 0 ∨ (ii 0) = ii 1) ∧ Q (some (.int (ii 0))) h) else (((ii 1) = ii 0 ∨ (ii 1) = ii 1) ∧ Q (some (.int (ii 1))) h))) else (if x1 = ii 302 then (okF h a0 2 9 0 ∧ (if (fI h a0 9) < (ii 10) then (((ii 0) = ii 0 ∨ (ii 0) = ii 1) ∧ Q (some (.int (ii 0))) h) else (((ii 1) = ii 0 ∨ (ii 1) = ii 1) ∧ Q (some (.int (ii 1))) h))) else (if x1 = ii 303 then (okF h a0 2 11 0 ∧ (if (fI h a0 11) < (ii 8) then (((ii 0) = ii 0 ∨ (ii 0) = ii 1) ∧ Q (some (.int (ii 0))) h) else (((ii 1) = ii 0 ∨ (ii 1) = ii 1) ∧ Q (some (.int (ii 1))) h))) else (if x1 = ii 304 then (okF h a0 2 2 0 ∧ (if (fI h a0 2) < (ii 6) then (((ii 0) = ii 0 ∨ (ii 0) = ii 1) ∧ Q (some (.int (ii 0))) h) else (((ii 1) = ii 0 ∨ (ii 1) = ii 1) ∧ Q (some (.int (ii 1))) h))) else (((ii 0) = ii 0 ∨ (ii 0) = ii 1) ∧ Q (some (.int (ii 0))) h))))) := by
  refine (G_iload rfl (mF fc33 (by rfl))).trans ?_
  refine (G_tableswitch (lo := 301) (hi := 304) [47, 62, 77, 32] rfl (by decide) (by decide) (by decide) (mF fc33 (by rfl))).trans ?_
  refine gi ?_ ?_
  ·
    refine (G_aload rfl (mF fc33 (by rfl))).trans ?_
    refine (G_getI (c := 2) (k := 7) rfl rfl rfl (mF fc33 (by rfl))).trans (andR ?_)
    refine (G_iconst (mF fc33 (by rfl))).trans ?_
    refine (G_ilt (mF fc33 (by rfl))).trans (gi ?_ ?_)
    ·
      refine (G_iconst (mF fc33 (by rfl))).trans ?_
      exact G_ireturnZ rfl (mF fc33 (by rfl))
    ·
      refine (G_iconst (mF fc33 (by rfl))).trans ?_
      refine (G_goto (mF fc33 (by rfl))).trans ?_
      exact G_ireturnZ rfl (mF fc33 (by rfl))
  ·
    refine gi ?_ ?_
    ·
      refine (G_aload rfl (mF fc33 (by rfl))).trans ?_
      refine (G_getI (c := 2) (k := 9) rfl rfl rfl (mF fc33 (by rfl))).trans (andR ?_)
      refine (G_iconst (mF fc33 (by rfl))).trans ?_
      refine (G_ilt (mF fc33 (by rfl))).trans (gi ?_ ?_)
      ·
        refine (G_iconst (mF fc33 (by rfl))).trans ?_
        exact G_ireturnZ rfl (mF fc33 (by rfl))
      ·
        refine (G_iconst (mF fc33 (by rfl))).trans ?_
        refine (G_goto (mF fc33 (by rfl))).trans ?_
        exact G_ireturnZ rfl (mF fc33 (by rfl))
    ·
      refine gi ?_ ?_
      ·
        refine (G_aload rfl (mF fc33 (by rfl))).trans ?_
        refine (G_getI (c := 2) (k := 11) rfl rfl rfl (mF fc33 (by rfl))).trans (andR ?_)
        refine (G_iconst (mF fc33 (by rfl))).trans ?_
        refine (G_ilt (mF fc33 (by rfl))).trans (gi ?_ ?_)
        ·
          refine (G_iconst (mF fc33 (by rfl))).trans ?_
          exact G_ireturnZ rfl (mF fc33 (by rfl))
        ·
          refine (G_iconst (mF fc33 (by rfl))).trans ?_
          refine (G_goto (mF fc33 (by rfl))).trans ?_
          exact G_ireturnZ rfl (mF fc33 (by rfl))
      ·
        refine gi ?_ ?_
        ·
          refine (G_aload rfl (mF fc33 (by rfl))).trans ?_
          refine (G_getI (c := 2) (k := 2) rfl rfl rfl (mF fc33 (by rfl))).trans (andR ?_)
          refine (G_iconst (mF fc33 (by rfl))).trans ?_
          refine (G_ilt (mF fc33 (by rfl))).trans (gi ?_ ?_)
          ·
            refine (G_iconst (mF fc33 (by rfl))).trans ?_
            exact G_ireturnZ rfl (mF fc33 (by rfl))
          ·
            refine (G_iconst (mF fc33 (by rfl))).trans ?_
            refine (G_goto (mF fc33 (by rfl))).trans ?_
            exact G_ireturnZ rfl (mF fc33 (by rfl))
        ·
          refine (G_iconst (mF fc33 (by rfl))).trans ?_
          exact G_ireturnZ rfl (mF fc33 (by rfl))
theorem e33 {d : Nat} {h : mHeap} {K : Int32 → mHeap → Prop} {a0 : Nat} {x1 : Int32} : GoCi (d + 1) 33 [.ref a0, .int x1] h K ↔ Go d 33 0 [some (.ref a0), some (.int x1)] [] h (rI K) := GoCi_entry rfl rfl
set_option maxRecDepth 20000 in
theorem fc34 : mCodes[34]? = some mc34 := rfl
theorem b34_0 {d : Nat} {h : mHeap} {Q : Option Value → mHeap → Prop} {a0 : Nat} {a1 : Nat} : Go d 34 0 [some (.ref a0), some (.ref a1), none, none] [] h Q ↔ oC h a1 = 9 ∧ GoCi d 114 [.ref a1, .int (ii 1), .int (ii 8)] h (fun v1 h1 => oC h1 a1 = 9 ∧ GoCi d 114 [.ref a1, .int (ii 0), .int ((shl (ii 1) v1) - (ii 1))] h1 (fun v2 h2 => oC h2 a1 = 9 ∧ GoCi d 113 [.ref a1] h2 (fun v3 h3 => (if ¬ v3 = ii 0 then (Q none h3) else (okP h3 a0 2 0 ∧ okP (sF h3 a0 0 (.int v1)) a0 2 1 ∧ Q none (sF (sF h3 a0 0 (.int v1)) a0 1 (.int v2))))))) := by
  refine (G_aload rfl (mF fc34 (by rfl))).trans ?_
  refine (G_iconst (mF fc34 (by rfl))).trans ?_
  refine (G_iconst (mF fc34 (by rfl))).trans ?_
  refine (G_Vi (q := 58515) (y := 114) (a := a1) (c := 9) rfl rfl rfl rfl (by decide) rfl (as := [.ref a1, .int (ii 1), .int (ii 8)]) (rest := []) rfl rfl (mF fc34 (by rfl))).trans (andR (GoCi_congr fun v1 h1 => ?_))
  refine (G_istore (k := 2) (L' := [some (.ref a0), some (.ref a1), some (.int v1), none]) rfl (ltb rfl) rfl (mF fc34 (by rfl))).trans ?_
  refine (G_aload rfl (mF fc34 (by rfl))).trans ?_
  refine (G_iconst (mF fc34 (by rfl))).trans ?_
  refine (G_iconst (mF fc34 (by rfl))).trans ?_
  refine (G_iload rfl (mF fc34 (by rfl))).trans ?_
  refine (G_ishl (mF fc34 (by rfl))).trans ?_
  refine (G_iconst (mF fc34 (by rfl))).trans ?_
  refine (G_isub (mF fc34 (by rfl))).trans ?_
  refine (G_Vi (q := 58515) (y := 114) (a := a1) (c := 9) rfl rfl rfl rfl (by decide) rfl (as := [.ref a1, .int (ii 0), .int ((shl (ii 1) v1) - (ii 1))]) (rest := []) rfl rfl (mF fc34 (by rfl))).trans (andR (GoCi_congr fun v2 h2 => ?_))
  refine (G_istore (k := 3) (L' := [some (.ref a0), some (.ref a1), some (.int v1), some (.int v2)]) rfl (ltb rfl) rfl (mF fc34 (by rfl))).trans ?_
  refine (G_aload rfl (mF fc34 (by rfl))).trans ?_
  refine (G_Vi (q := 58001) (y := 113) (a := a1) (c := 9) rfl rfl rfl rfl (by decide) rfl (as := [.ref a1]) (rest := []) rfl rfl (mF fc34 (by rfl))).trans (andR (GoCi_congr fun v3 h3 => ?_))
  refine (G_ne (mF fc34 (by rfl))).trans (gi ?_ ?_)
  ·
    exact G_return rfl (mF fc34 (by rfl))
  ·
    refine (G_aload rfl (mF fc34 (by rfl))).trans ?_
    refine (G_iload rfl (mF fc34 (by rfl))).trans ?_
    refine (G_putT (c := 2) (k := 0) rfl rfl rfl (mF fc34 (by rfl))).trans (andR ?_)
    refine (G_aload rfl (mF fc34 (by rfl))).trans ?_
    refine (G_iload rfl (mF fc34 (by rfl))).trans ?_
    refine (G_putT (c := 2) (k := 1) rfl rfl rfl (mF fc34 (by rfl))).trans (andR ?_)
    exact G_return rfl (mF fc34 (by rfl))
theorem e34 {d : Nat} {h : mHeap} {K : mHeap → Prop} {a0 : Nat} {a1 : Nat} : GoCv (d + 1) 34 [.ref a0, .ref a1] h K ↔ Go d 34 0 [some (.ref a0), some (.ref a1), none, none] [] h (rV K) := GoCv_entry rfl rfl
set_option maxRecDepth 20000 in
theorem fc35 : mCodes[35]? = some mc35 := rfl
theorem b35_0 {d : Nat} {h : mHeap} {Q : Option Value → mHeap → Prop} {a0 : Nat} {a1 : Nat} : Go d 35 0 [some (.ref a0), some (.ref a1), none, none, none, none] [] h Q ↔ oC h a1 = 9 ∧ GoCi d 114 [.ref a1, .int (ii 0), .int (ii 1)] h (fun v1 h1 => oC h1 a1 = 9 ∧ GoCi d 114 [.ref a1, .int (ii 1), .int (ii 128)] h1 (fun v2 h2 => okF h2 a0 2 0 0 ∧ oC h2 a1 = 9 ∧ GoCi d 114 [.ref a1, .int (ii 0), .int ((shl (ii 1) (fI h2 a0 0)) - (ii 1))] h2 (fun v3 h3 => oC h3 a1 = 9 ∧ GoCi d 114 [.ref a1, .int (ii 0), .int (ii 99)] h3 (fun v4 h4 => oC h4 a1 = 9 ∧ GoCi d 113 [.ref a1] h4 (fun v5 h5 => (if ¬ v5 = ii 0 then (Q none h5) else (okF h5 a0 2 3 0 ∧ okF h5 a0 2 2 0 ∧ okP h5 a0 2 3 ∧ okF (sF h5 a0 3 (.int ((fI h5 a0 3) ||| (shl v1 (fI h5 a0 2))))) a0 2 5 2 ∧ okF (sF h5 a0 3 (.int ((fI h5 a0 3) ||| (shl v1 (fI h5 a0 2))))) a0 2 2 0 ∧ (64 ≤ (fR (sF h5 a0 3 (.int ((fI h5 a0 3) ||| (shl v1 (fI h5 a0 2))))) a0 5) ∧ okA (sF h5 a0 3 (.int ((fI h5 a0 3) ||| (shl v1 (fI h5 a0 2))))) (fR (sF h5 a0 3 (.int ((fI h5 a0 3) ||| (shl v1 (fI h5 a0 2))))) a0 5) .int (fI (sF h5 a0 3 (.int ((fI h5 a0 3) ||| (shl v1 (fI h5 a0 2))))) a0 2)) ∧ okF (sI (sF h5 a0 3 (.int ((fI h5 a0 3) ||| (shl v1 (fI h5 a0 2))))) (fR (sF h5 a0 3 (.int ((fI h5 a0 3) ||| (shl v1 (fI h5 a0 2))))) a0 5) (fI (sF h5 a0 3 (.int ((fI h5 a0 3) ||| (shl v1 (fI h5 a0 2))))) a0 2) v2) a0 2 4 2 ∧ okF (sI (sF h5 a0 3 (.int ((fI h5 a0 3) ||| (shl v1 (fI h5 a0 2))))) (fR (sF h5 a0 3 (.int ((fI h5 a0 3) ||| (shl v1 (fI h5 a0 2))))) a0 5) (fI (sF h5 a0 3 (.int ((fI h5 a0 3) ||| (shl v1 (fI h5 a0 2))))) a0 2) v2) a0 2 2 0 ∧ (64 ≤ (fR (sI (sF h5 a0 3 (.int ((fI h5 a0 3) ||| (shl v1 (fI h5 a0 2))))) (fR (sF h5 a0 3 (.int ((fI h5 a0 3) ||| (shl v1 (fI h5 a0 2))))) a0 5) (fI (sF h5 a0 3 (.int ((fI h5 a0 3) ||| (shl v1 (fI h5 a0 2))))) a0 2) v2) a0 4) ∧ okA (sI (sF h5 a0 3 (.int ((fI h5 a0 3) ||| (shl v1 (fI h5 a0 2))))) (fR (sF h5 a0 3 (.int ((fI h5 a0 3) ||| (shl v1 (fI h5 a0 2))))) a0 5) (fI (sF h5 a0 3 (.int ((fI h5 a0 3) ||| (shl v1 (fI h5 a0 2))))) a0 2) v2) (fR (sI (sF h5 a0 3 (.int ((fI h5 a0 3) ||| (shl v1 (fI h5 a0 2))))) (fR (sF h5 a0 3 (.int ((fI h5 a0 3) ||| (shl v1 (fI h5 a0 2))))) a0 5) (fI (sF h5 a0 3 (.int ((fI h5 a0 3) ||| (shl v1 (fI h5 a0 2))))) a0 2) v2) a0 4) .int (fI (sI (sF h5 a0 3 (.int ((fI h5 a0 3) ||| (shl v1 (fI h5 a0 2))))) (fR (sF h5 a0 3 (.int ((fI h5 a0 3) ||| (shl v1 (fI h5 a0 2))))) a0 5) (fI (sF h5 a0 3 (.int ((fI h5 a0 3) ||| (shl v1 (fI h5 a0 2))))) a0 2) v2) a0 2)) ∧ okF (sI (sI (sF h5 a0 3 (.int ((fI h5 a0 3) ||| (shl v1 (fI h5 a0 2))))) (fR (sF h5 a0 3 (.int ((fI h5 a0 3) ||| (shl v1 (fI h5 a0 2))))) a0 5) (fI (sF h5 a0 3 (.int ((fI h5 a0 3) ||| (shl v1 (fI h5 a0 2))))) a0 2) v2) (fR (sI (sF h5 a0 3 (.int ((fI h5 a0 3) ||| (shl v1 (fI h5 a0 2))))) (fR (sF h5 a0 3 (.int ((fI h5 a0 3) ||| (shl v1 (fI h5 a0 2))))) a0 5) (fI (sF h5 a0 3 (.int ((fI h5 a0 3) ||| (shl v1 (fI h5 a0 2))))) a0 2) v2) a0 4) (fI (sI (sF h5 a0 3 (.int ((fI h5 a0 3) ||| (shl v1 (fI h5 a0 2))))) (fR (sF h5 a0 3 (.int ((fI h5 a0 3) ||| (shl v1 (fI h5 a0 2))))) a0 5) (fI (sF h5 a0 3 (.int ((fI h5 a0 3) ||| (shl v1 (fI h5 a0 2))))) a0 2) v2) a0 2) v3) a0 2 6 2 ∧ okF (sI (sI (sF h5 a0 3 (.int ((fI h5 a0 3) ||| (shl v1 (fI h5 a0 2))))) (fR (sF h5 a0 3 (.int ((fI h5 a0 3) ||| (shl v1 (fI h5 a0 2))))) a0 5) (fI (sF h5 a0 3 (.int ((fI h5 a0 3) ||| (shl v1 (fI h5 a0 2))))) a0 2) v2) (fR (sI (sF h5 a0 3 (.int ((fI h5 a0 3) ||| (shl v1 (fI h5 a0 2))))) (fR (sF h5 a0 3 (.int ((fI h5 a0 3) ||| (shl v1 (fI h5 a0 2))))) a0 5) (fI (sF h5 a0 3 (.int ((fI h5 a0 3) ||| (shl v1 (fI h5 a0 2))))) a0 2) v2) a0 4) (fI (sI (sF h5 a0 3 (.int ((fI h5 a0 3) ||| (shl v1 (fI h5 a0 2))))) (fR (sF h5 a0 3 (.int ((fI h5 a0 3) ||| (shl v1 (fI h5 a0 2))))) a0 5) (fI (sF h5 a0 3 (.int ((fI h5 a0 3) ||| (shl v1 (fI h5 a0 2))))) a0 2) v2) a0 2) v3) a0 2 2 0 ∧ (64 ≤ (fR (sI (sI (sF h5 a0 3 (.int ((fI h5 a0 3) ||| (shl v1 (fI h5 a0 2))))) (fR (sF h5 a0 3 (.int ((fI h5 a0 3) ||| (shl v1 (fI h5 a0 2))))) a0 5) (fI (sF h5 a0 3 (.int ((fI h5 a0 3) ||| (shl v1 (fI h5 a0 2))))) a0 2) v2) (fR (sI (sF h5 a0 3 (.int ((fI h5 a0 3) ||| (shl v1 (fI h5 a0 2))))) (fR (sF h5 a0 3 (.int ((fI h5 a0 3) ||| (shl v1 (fI h5 a0 2))))) a0 5) (fI (sF h5 a0 3 (.int ((fI h5 a0 3) ||| (shl v1 (fI h5 a0 2))))) a0 2) v2) a0 4) (fI (sI (sF h5 a0 3 (.int ((fI h5 a0 3) ||| (shl v1 (fI h5 a0 2))))) (fR (sF h5 a0 3 (.int ((fI h5 a0 3) ||| (shl v1 (fI h5 a0 2))))) a0 5) (fI (sF h5 a0 3 (.int ((fI h5 a0 3) ||| (shl v1 (fI h5 a0 2))))) a0 2) v2) a0 2) v3) a0 6) ∧ okA (sI (sI (sF h5 a0 3 (.int ((fI h5 a0 3) ||| (shl v1 (fI h5 a0 2))))) (fR (sF h5 a0 3 (.int ((fI h5 a0 3) ||| (shl v1 (fI h5 a0 2))))) a0 5) (fI (sF h5 a0 3 (.int ((fI h5 a0 3) ||| (shl v1 (fI h5 a0 2))))) a0 2) v2) (fR (sI (sF h5 a0 3 (.int ((fI h5 a0 3) ||| (shl v1 (fI h5 a0 2))))) (fR (sF h5 a0 3 (.int ((fI h5 a0 3) ||| (shl v1 (fI h5 a0 2))))) a0 5) (fI (sF h5 a0 3 (.int ((fI h5 a0 3) ||| (shl v1 (fI h5 a0 2))))) a0 2) v2) a0 4) (fI (sI (sF h5 a0 3 (.int ((fI h5 a0 3) ||| (shl v1 (fI h5 a0 2))))) (fR (sF h5 a0 3 (.int ((fI h5 a0 3) ||| (shl v1 (fI h5 a0 2))))) a0 5) (fI (sF h5 a0 3 (.int ((fI h5 a0 3) ||| (shl v1 (fI h5 a0 2))))) a0 2) v2) a0 2) v3) (fR (sI (sI (sF h5 a0 3 (.int ((fI h5 a0 3) ||| (shl v1 (fI h5 a0 2))))) (fR (sF h5 a0 3 (.int ((fI h5 a0 3) ||| (shl v1 (fI h5 a0 2))))) a0 5) (fI (sF h5 a0 3 (.int ((fI h5 a0 3) ||| (shl v1 (fI h5 a0 2))))) a0 2) v2) (fR (sI (sF h5 a0 3 (.int ((fI h5 a0 3) ||| (shl v1 (fI h5 a0 2))))) (fR (sF h5 a0 3 (.int ((fI h5 a0 3) ||| (shl v1 (fI h5 a0 2))))) a0 5) (fI (sF h5 a0 3 (.int ((fI h5 a0 3) ||| (shl v1 (fI h5 a0 2))))) a0 2) v2) a0 4) (fI (sI (sF h5 a0 3 (.int ((fI h5 a0 3) ||| (shl v1 (fI h5 a0 2))))) (fR (sF h5 a0 3 (.int ((fI h5 a0 3) ||| (shl v1 (fI h5 a0 2))))) a0 5) (fI (sF h5 a0 3 (.int ((fI h5 a0 3) ||| (shl v1 (fI h5 a0 2))))) a0 2) v2) a0 2) v3) a0 6) .int (fI (sI (sI (sF h5 a0 3 (.int ((fI h5 a0 3) ||| (shl v1 (fI h5 a0 2))))) (fR (sF h5 a0 3 (.int ((fI h5 a0 3) ||| (shl v1 (fI h5 a0 2))))) a0 5) (fI (sF h5 a0 3 (.int ((fI h5 a0 3) ||| (shl v1 (fI h5 a0 2))))) a0 2) v2) (fR (sI (sF h5 a0 3 (.int ((fI h5 a0 3) ||| (shl v1 (fI h5 a0 2))))) (fR (sF h5 a0 3 (.int ((fI h5 a0 3) ||| (shl v1 (fI h5 a0 2))))) a0 5) (fI (sF h5 a0 3 (.int ((fI h5 a0 3) ||| (shl v1 (fI h5 a0 2))))) a0 2) v2) a0 4) (fI (sI (sF h5 a0 3 (.int ((fI h5 a0 3) ||| (shl v1 (fI h5 a0 2))))) (fR (sF h5 a0 3 (.int ((fI h5 a0 3) ||| (shl v1 (fI h5 a0 2))))) a0 5) (fI (sF h5 a0 3 (.int ((fI h5 a0 3) ||| (shl v1 (fI h5 a0 2))))) a0 2) v2) a0 2) v3) a0 2)) ∧ okF (sI (sI (sI (sF h5 a0 3 (.int ((fI h5 a0 3) ||| (shl v1 (fI h5 a0 2))))) (fR (sF h5 a0 3 (.int ((fI h5 a0 3) ||| (shl v1 (fI h5 a0 2))))) a0 5) (fI (sF h5 a0 3 (.int ((fI h5 a0 3) ||| (shl v1 (fI h5 a0 2))))) a0 2) v2) (fR (sI (sF h5 a0 3 (.int ((fI h5 a0 3) ||| (shl v1 (fI h5 a0 2))))) (fR (sF h5 a0 3 (.int ((fI h5 a0 3) ||| (shl v1 (fI h5 a0 2))))) a0 5) (fI (sF h5 a0 3 (.int ((fI h5 a0 3) ||| (shl v1 (fI h5 a0 2))))) a0 2) v2) a0 4) (fI (sI (sF h5 a0 3 (.int ((fI h5 a0 3) ||| (shl v1 (fI h5 a0 2))))) (fR (sF h5 a0 3 (.int ((fI h5 a0 3) ||| (shl v1 (fI h5 a0 2))))) a0 5) (fI (sF h5 a0 3 (.int ((fI h5 a0 3) ||| (shl v1 (fI h5 a0 2))))) a0 2) v2) a0 2) v3) (fR (sI (sI (sF h5 a0 3 (.int ((fI h5 a0 3) ||| (shl v1 (fI h5 a0 2))))) (fR (sF h5 a0 3 (.int ((fI h5 a0 3) ||| (shl v1 (fI h5 a0 2))))) a0 5) (fI (sF h5 a0 3 (.int ((fI h5 a0 3) ||| (shl v1 (fI h5 a0 2))))) a0 2) v2) (fR (sI (sF h5 a0 3 (.int ((fI h5 a0 3) ||| (shl v1 (fI h5 a0 2))))) (fR (sF h5 a0 3 (.int ((fI h5 a0 3) ||| (shl v1 (fI h5 a0 2))))) a0 5) (fI (sF h5 a0 3 (.int ((fI h5 a0 3) ||| (shl v1 (fI h5 a0 2))))) a0 2) v2) a0 4) (fI (sI (sF h5 a0 3 (.int ((fI h5 a0 3) ||| (shl v1 (fI h5 a0 2))))) (fR (sF h5 a0 3 (.int ((fI h5 a0 3) ||| (shl v1 (fI h5 a0 2))))) a0 5) (fI (sF h5 a0 3 (.int ((fI h5 a0 3) ||| (shl v1 (fI h5 a0 2))))) a0 2) v2) a0 2) v3) a0 6) (fI (sI (sI (sF h5 a0 3 (.int ((fI h5 a0 3) ||| (shl v1 (fI h5 a0 2))))) (fR (sF h5 a0 3 (.int ((fI h5 a0 3) ||| (shl v1 (fI h5 a0 2))))) a0 5) (fI (sF h5 a0 3 (.int ((fI h5 a0 3) ||| (shl v1 (fI h5 a0 2))))) a0 2) v2) (fR (sI (sF h5 a0 3 (.int ((fI h5 a0 3) ||| (shl v1 (fI h5 a0 2))))) (fR (sF h5 a0 3 (.int ((fI h5 a0 3) ||| (shl v1 (fI h5 a0 2))))) a0 5) (fI (sF h5 a0 3 (.int ((fI h5 a0 3) ||| (shl v1 (fI h5 a0 2))))) a0 2) v2) a0 4) (fI (sI (sF h5 a0 3 (.int ((fI h5 a0 3) ||| (shl v1 (fI h5 a0 2))))) (fR (sF h5 a0 3 (.int ((fI h5 a0 3) ||| (shl v1 (fI h5 a0 2))))) a0 5) (fI (sF h5 a0 3 (.int ((fI h5 a0 3) ||| (shl v1 (fI h5 a0 2))))) a0 2) v2) a0 2) v3) a0 2) v4) a0 2 2 0 ∧ okP (sI (sI (sI (sF h5 a0 3 (.int ((fI h5 a0 3) ||| (shl v1 (fI h5 a0 2))))) (fR (sF h5 a0 3 (.int ((fI h5 a0 3) ||| (shl v1 (fI h5 a0 2))))) a0 5) (fI (sF h5 a0 3 (.int ((fI h5 a0 3) ||| (shl v1 (fI h5 a0 2))))) a0 2) v2) (fR (sI (sF h5 a0 3 (.int ((fI h5 a0 3) ||| (shl v1 (fI h5 a0 2))))) (fR (sF h5 a0 3 (.int ((fI h5 a0 3) ||| (shl v1 (fI h5 a0 2))))) a0 5) (fI (sF h5 a0 3 (.int ((fI h5 a0 3) ||| (shl v1 (fI h5 a0 2))))) a0 2) v2) a0 4) (fI (sI (sF h5 a0 3 (.int ((fI h5 a0 3) ||| (shl v1 (fI h5 a0 2))))) (fR (sF h5 a0 3 (.int ((fI h5 a0 3) ||| (shl v1 (fI h5 a0 2))))) a0 5) (fI (sF h5 a0 3 (.int ((fI h5 a0 3) ||| (shl v1 (fI h5 a0 2))))) a0 2) v2) a0 2) v3) (fR (sI (sI (sF h5 a0 3 (.int ((fI h5 a0 3) ||| (shl v1 (fI h5 a0 2))))) (fR (sF h5 a0 3 (.int ((fI h5 a0 3) ||| (shl v1 (fI h5 a0 2))))) a0 5) (fI (sF h5 a0 3 (.int ((fI h5 a0 3) ||| (shl v1 (fI h5 a0 2))))) a0 2) v2) (fR (sI (sF h5 a0 3 (.int ((fI h5 a0 3) ||| (shl v1 (fI h5 a0 2))))) (fR (sF h5 a0 3 (.int ((fI h5 a0 3) ||| (shl v1 (fI h5 a0 2))))) a0 5) (fI (sF h5 a0 3 (.int ((fI h5 a0 3) ||| (shl v1 (fI h5 a0 2))))) a0 2) v2) a0 4) (fI (sI (sF h5 a0 3 (.int ((fI h5 a0 3) ||| (shl v1 (fI h5 a0 2))))) (fR (sF h5 a0 3 (.int ((fI h5 a0 3) ||| (shl v1 (fI h5 a0 2))))) a0 5) (fI (sF h5 a0 3 (.int ((fI h5 a0 3) ||| (shl v1 (fI h5 a0 2))))) a0 2) v2) a0 2) v3) a0 6) (fI (sI (sI (sF h5 a0 3 (.int ((fI h5 a0 3) ||| (shl v1 (fI h5 a0 2))))) (fR (sF h5 a0 3 (.int ((fI h5 a0 3) ||| (shl v1 (fI h5 a0 2))))) a0 5) (fI (sF h5 a0 3 (.int ((fI h5 a0 3) ||| (shl v1 (fI h5 a0 2))))) a0 2) v2) (fR (sI (sF h5 a0 3 (.int ((fI h5 a0 3) ||| (shl v1 (fI h5 a0 2))))) (fR (sF h5 a0 3 (.int ((fI h5 a0 3) ||| (shl v1 (fI h5 a0 2))))) a0 5) (fI (sF h5 a0 3 (.int ((fI h5 a0 3) ||| (shl v1 (fI h5 a0 2))))) a0 2) v2) a0 4) (fI (sI (sF h5 a0 3 (.int ((fI h5 a0 3) ||| (shl v1 (fI h5 a0 2))))) (fR (sF h5 a0 3 (.int ((fI h5 a0 3) ||| (shl v1 (fI h5 a0 2))))) a0 5) (fI (sF h5 a0 3 (.int ((fI h5 a0 3) ||| (shl v1 (fI h5 a0 2))))) a0 2) v2) a0 2) v3) a0 2) v4) a0 2 2 ∧ Q none (sF (sI (sI (sI (sF h5 a0 3 (.int ((fI h5 a0 3) ||| (shl v1 (fI h5 a0 2))))) (fR (sF h5 a0 3 (.int ((fI h5 a0 3) ||| (shl v1 (fI h5 a0 2))))) a0 5) (fI (sF h5 a0 3 (.int ((fI h5 a0 3) ||| (shl v1 (fI h5 a0 2))))) a0 2) v2) (fR (sI (sF h5 a0 3 (.int ((fI h5 a0 3) ||| (shl v1 (fI h5 a0 2))))) (fR (sF h5 a0 3 (.int ((fI h5 a0 3) ||| (shl v1 (fI h5 a0 2))))) a0 5) (fI (sF h5 a0 3 (.int ((fI h5 a0 3) ||| (shl v1 (fI h5 a0 2))))) a0 2) v2) a0 4) (fI (sI (sF h5 a0 3 (.int ((fI h5 a0 3) ||| (shl v1 (fI h5 a0 2))))) (fR (sF h5 a0 3 (.int ((fI h5 a0 3) ||| (shl v1 (fI h5 a0 2))))) a0 5) (fI (sF h5 a0 3 (.int ((fI h5 a0 3) ||| (shl v1 (fI h5 a0 2))))) a0 2) v2) a0 2) v3) (fR (sI (sI (sF h5 a0 3 (.int ((fI h5 a0 3) ||| (shl v1 (fI h5 a0 2))))) (fR (sF h5 a0 3 (.int ((fI h5 a0 3) ||| (shl v1 (fI h5 a0 2))))) a0 5) (fI (sF h5 a0 3 (.int ((fI h5 a0 3) ||| (shl v1 (fI h5 a0 2))))) a0 2) v2) (fR (sI (sF h5 a0 3 (.int ((fI h5 a0 3) ||| (shl v1 (fI h5 a0 2))))) (fR (sF h5 a0 3 (.int ((fI h5 a0 3) ||| (shl v1 (fI h5 a0 2))))) a0 5) (fI (sF h5 a0 3 (.int ((fI h5 a0 3) ||| (shl v1 (fI h5 a0 2))))) a0 2) v2) a0 4) (fI (sI (sF h5 a0 3 (.int ((fI h5 a0 3) ||| (shl v1 (fI h5 a0 2))))) (fR (sF h5 a0 3 (.int ((fI h5 a0 3) ||| (shl v1 (fI h5 a0 2))))) a0 5) (fI (sF h5 a0 3 (.int ((fI h5 a0 3) ||| (shl v1 (fI h5 a0 2))))) a0 2) v2) a0 2) v3) a0 6) (fI (sI (sI (sF h5 a0 3 (.int ((fI h5 a0 3) ||| (shl v1 (fI h5 a0 2))))) (fR (sF h5 a0 3 (.int ((fI h5 a0 3) ||| (shl v1 (fI h5 a0 2))))) a0 5) (fI (sF h5 a0 3 (.int ((fI h5 a0 3) ||| (shl v1 (fI h5 a0 2))))) a0 2) v2) (fR (sI (sF h5 a0 3 (.int ((fI h5 a0 3) ||| (shl v1 (fI h5 a0 2))))) (fR (sF h5 a0 3 (.int ((fI h5 a0 3) ||| (shl v1 (fI h5 a0 2))))) a0 5) (fI (sF h5 a0 3 (.int ((fI h5 a0 3) ||| (shl v1 (fI h5 a0 2))))) a0 2) v2) a0 4) (fI (sI (sF h5 a0 3 (.int ((fI h5 a0 3) ||| (shl v1 (fI h5 a0 2))))) (fR (sF h5 a0 3 (.int ((fI h5 a0 3) ||| (shl v1 (fI h5 a0 2))))) a0 5) (fI (sF h5 a0 3 (.int ((fI h5 a0 3) ||| (shl v1 (fI h5 a0 2))))) a0 2) v2) a0 2) v3) a0 2) v4) a0 2 (.int ((fI (sI (sI (sI (sF h5 a0 3 (.int ((fI h5 a0 3) ||| (shl v1 (fI h5 a0 2))))) (fR (sF h5 a0 3 (.int ((fI h5 a0 3) ||| (shl v1 (fI h5 a0 2))))) a0 5) (fI (sF h5 a0 3 (.int ((fI h5 a0 3) ||| (shl v1 (fI h5 a0 2))))) a0 2) v2) (fR (sI (sF h5 a0 3 (.int ((fI h5 a0 3) ||| (shl v1 (fI h5 a0 2))))) (fR (sF h5 a0 3 (.int ((fI h5 a0 3) ||| (shl v1 (fI h5 a0 2))))) a0 5) (fI (sF h5 a0 3 (.int ((fI h5 a0 3) ||| (shl v1 (fI h5 a0 2))))) a0 2) v2) a0 4) (fI (sI (sF h5 a0 3 (.int ((fI h5 a0 3) ||| (shl v1 (fI h5 a0 2))))) (fR (sF h5 a0 3 (.int ((fI h5 a0 3) ||| (shl v1 (fI h5 a0 2))))) a0 5) (fI (sF h5 a0 3 (.int ((fI h5 a0 3) ||| (shl v1 (fI h5 a0 2))))) a0 2) v2) a0 2) v3) (fR (sI (sI (sF h5 a0 3 (.int ((fI h5 a0 3) ||| (shl v1 (fI h5 a0 2))))) (fR (sF h5 a0 3 (.int ((fI h5 a0 3) ||| (shl v1 (fI h5 a0 2))))) a0 5) (fI (sF h5 a0 3 (.int ((fI h5 a0 3) ||| (shl v1 (fI h5 a0 2))))) a0 2) v2) (fR (sI (sF h5 a0 3 (.int ((fI h5 a0 3) ||| (shl v1 (fI h5 a0 2))))) (fR (sF h5 a0 3 (.int ((fI h5 a0 3) ||| (shl v1 (fI h5 a0 2))))) a0 5) (fI (sF h5 a0 3 (.int ((fI h5 a0 3) ||| (shl v1 (fI h5 a0 2))))) a0 2) v2) a0 4) (fI (sI (sF h5 a0 3 (.int ((fI h5 a0 3) ||| (shl v1 (fI h5 a0 2))))) (fR (sF h5 a0 3 (.int ((fI h5 a0 3) ||| (shl v1 (fI h5 a0 2))))) a0 5) (fI (sF h5 a0 3 (.int ((fI h5 a0 3) ||| (shl v1 (fI h5 a0 2))))) a0 2) v2) a0 2) v3) a0 6) (fI (sI (sI (sF h5 a0 3 (.int ((fI h5 a0 3) ||| (shl v1 (fI h5 a0 2))))) (fR (sF h5 a0 3 (.int ((fI h5 a0 3) ||| (shl v1 (fI h5 a0 2))))) a0 5) (fI (sF h5 a0 3 (.int ((fI h5 a0 3) ||| (shl v1 (fI h5 a0 2))))) a0 2) v2) (fR (sI (sF h5 a0 3 (.int ((fI h5 a0 3) ||| (shl v1 (fI h5 a0 2))))) (fR (sF h5 a0 3 (.int ((fI h5 a0 3) ||| (shl v1 (fI h5 a0 2))))) a0 5) (fI (sF h5 a0 3 (.int ((fI h5 a0 3) ||| (shl v1 (fI h5 a0 2))))) a0 2) v2) a0 4) (fI (sI (sF h5 a0 3 (.int ((fI h5 a0 3) ||| (shl v1 (fI h5 a0 2))))) (fR (sF h5 a0 3 (.int ((fI h5 a0 3) ||| (shl v1 (fI h5 a0 2))))) a0 5) (fI (sF h5 a0 3 (.int ((fI h5 a0 3) ||| (shl v1 (fI h5 a0 2))))) a0 2) v2) a0 2) v3) a0 2) v4) a0 2) + (ii 1))))))))))) := by
  refine (G_aload rfl (mF fc35 (by rfl))).trans ?_
  refine (G_iconst (mF fc35 (by rfl))).trans ?_
  refine (G_iconst (mF fc35 (by rfl))).trans ?_
  refine (G_Vi (q := 58515) (y := 114) (a := a1) (c := 9) rfl rfl rfl rfl (by decide) rfl (as := [.ref a1, .int (ii 0), .int (ii 1)]) (rest := []) rfl rfl (mF fc35 (by rfl))).trans (andR (GoCi_congr fun v1 h1 => ?_))
  refine (G_istore (k := 2) (L' := [some (.ref a0), some (.ref a1), some (.int v1), none, none, none]) rfl (ltb rfl) rfl (mF fc35 (by rfl))).trans ?_
  refine (G_aload rfl (mF fc35 (by rfl))).trans ?_
  refine (G_iconst (mF fc35 (by rfl))).trans ?_
  refine (G_iconst (mF fc35 (by rfl))).trans ?_
  refine (G_Vi (q := 58515) (y := 114) (a := a1) (c := 9) rfl rfl rfl rfl (by decide) rfl (as := [.ref a1, .int (ii 1), .int (ii 128)]) (rest := []) rfl rfl (mF fc35 (by rfl))).trans (andR (GoCi_congr fun v2 h2 => ?_))
  refine (G_istore (k := 3) (L' := [some (.ref a0), some (.ref a1), some (.int v1), some (.int v2), none, none]) rfl (ltb rfl) rfl (mF fc35 (by rfl))).trans ?_
  refine (G_aload rfl (mF fc35 (by rfl))).trans ?_
  refine (G_iconst (mF fc35 (by rfl))).trans ?_
  refine (G_iconst (mF fc35 (by rfl))).trans ?_
  refine (G_aload rfl (mF fc35 (by rfl))).trans ?_
  refine (G_getI (c := 2) (k := 0) rfl rfl rfl (mF fc35 (by rfl))).trans (andR ?_)
  refine (G_ishl (mF fc35 (by rfl))).trans ?_
  refine (G_iconst (mF fc35 (by rfl))).trans ?_
  refine (G_isub (mF fc35 (by rfl))).trans ?_
  refine (G_Vi (q := 58515) (y := 114) (a := a1) (c := 9) rfl rfl rfl rfl (by decide) rfl (as := [.ref a1, .int (ii 0), .int ((shl (ii 1) (fI h2 a0 0)) - (ii 1))]) (rest := []) rfl rfl (mF fc35 (by rfl))).trans (andR (GoCi_congr fun v3 h3 => ?_))
  refine (G_istore (k := 4) (L' := [some (.ref a0), some (.ref a1), some (.int v1), some (.int v2), some (.int v3), none]) rfl (ltb rfl) rfl (mF fc35 (by rfl))).trans ?_
  refine (G_aload rfl (mF fc35 (by rfl))).trans ?_
  refine (G_iconst (mF fc35 (by rfl))).trans ?_
  refine (G_iconst (mF fc35 (by rfl))).trans ?_
  refine (G_Vi (q := 58515) (y := 114) (a := a1) (c := 9) rfl rfl rfl rfl (by decide) rfl (as := [.ref a1, .int (ii 0), .int (ii 99)]) (rest := []) rfl rfl (mF fc35 (by rfl))).trans (andR (GoCi_congr fun v4 h4 => ?_))
  refine (G_istore (k := 5) (L' := [some (.ref a0), some (.ref a1), some (.int v1), some (.int v2), some (.int v3), some (.int v4)]) rfl (ltb rfl) rfl (mF fc35 (by rfl))).trans ?_
  refine (G_aload rfl (mF fc35 (by rfl))).trans ?_
  refine (G_Vi (q := 58001) (y := 113) (a := a1) (c := 9) rfl rfl rfl rfl (by decide) rfl (as := [.ref a1]) (rest := []) rfl rfl (mF fc35 (by rfl))).trans (andR (GoCi_congr fun v5 h5 => ?_))
  refine (G_ne (mF fc35 (by rfl))).trans (gi ?_ ?_)
  ·
    exact G_return rfl (mF fc35 (by rfl))
  ·
    refine (G_aload rfl (mF fc35 (by rfl))).trans ?_
    refine (G_dupr (mF fc35 (by rfl))).trans ?_
    refine (G_getI (c := 2) (k := 3) rfl rfl rfl (mF fc35 (by rfl))).trans (andR ?_)
    refine (G_iload rfl (mF fc35 (by rfl))).trans ?_
    refine (G_aload rfl (mF fc35 (by rfl))).trans ?_
    refine (G_getI (c := 2) (k := 2) rfl rfl rfl (mF fc35 (by rfl))).trans (andR ?_)
    refine (G_ishl (mF fc35 (by rfl))).trans ?_
    refine (G_ior (mF fc35 (by rfl))).trans ?_
    refine (G_putT (c := 2) (k := 3) rfl rfl rfl (mF fc35 (by rfl))).trans (andR ?_)
    refine (G_aload rfl (mF fc35 (by rfl))).trans ?_
    refine (G_getR (c := 2) (k := 5) rfl rfl rfl (mF fc35 (by rfl))).trans (andR ?_)
    refine (G_aload rfl (mF fc35 (by rfl))).trans ?_
    refine (G_getI (c := 2) (k := 2) rfl rfl rfl (mF fc35 (by rfl))).trans (andR ?_)
    refine (G_iload rfl (mF fc35 (by rfl))).trans ?_
    refine (G_iastore (mF fc35 (by rfl))).trans (andR ?_)
    refine (G_aload rfl (mF fc35 (by rfl))).trans ?_
    refine (G_getR (c := 2) (k := 4) rfl rfl rfl (mF fc35 (by rfl))).trans (andR ?_)
    refine (G_aload rfl (mF fc35 (by rfl))).trans ?_
    refine (G_getI (c := 2) (k := 2) rfl rfl rfl (mF fc35 (by rfl))).trans (andR ?_)
    refine (G_iload rfl (mF fc35 (by rfl))).trans ?_
    refine (G_iastore (mF fc35 (by rfl))).trans (andR ?_)
    refine (G_aload rfl (mF fc35 (by rfl))).trans ?_
    refine (G_getR (c := 2) (k := 6) rfl rfl rfl (mF fc35 (by rfl))).trans (andR ?_)
    refine (G_aload rfl (mF fc35 (by rfl))).trans ?_
    refine (G_getI (c := 2) (k := 2) rfl rfl rfl (mF fc35 (by rfl))).trans (andR ?_)
    refine (G_iload rfl (mF fc35 (by rfl))).trans ?_
    refine (G_iastore (mF fc35 (by rfl))).trans (andR ?_)
    refine (G_aload rfl (mF fc35 (by rfl))).trans ?_
    refine (G_dupr (mF fc35 (by rfl))).trans ?_
    refine (G_getI (c := 2) (k := 2) rfl rfl rfl (mF fc35 (by rfl))).trans (andR ?_)
    refine (G_iconst (mF fc35 (by rfl))).trans ?_
    refine (G_iadd (mF fc35 (by rfl))).trans ?_
    refine (G_putT (c := 2) (k := 2) rfl rfl rfl (mF fc35 (by rfl))).trans (andR ?_)
    exact G_return rfl (mF fc35 (by rfl))
theorem e35 {d : Nat} {h : mHeap} {K : mHeap → Prop} {a0 : Nat} {a1 : Nat} : GoCv (d + 1) 35 [.ref a0, .ref a1] h K ↔ Go d 35 0 [some (.ref a0), some (.ref a1), none, none, none, none] [] h (rV K) := GoCv_entry rfl rfl
set_option maxRecDepth 20000 in
theorem fc36 : mCodes[36]? = some mc36 := rfl
theorem b36_0 {d : Nat} {h : mHeap} {Q : Option Value → mHeap → Prop} {a0 : Nat} {a1 : Nat} : Go d 36 0 [some (.ref a0), some (.ref a1), none] [] h Q ↔ okF h a0 2 0 0 ∧ oC h a1 = 9 ∧ GoCi d 114 [.ref a1, .int (ii 0), .int ((fI h a0 0) - (ii 1))] h (fun v1 h1 => oC h1 a1 = 9 ∧ GoCi d 113 [.ref a1] h1 (fun v2 h2 => (if ¬ v2 = ii 0 then (Q none h2) else (okF h2 a0 2 8 2 ∧ okF h2 a0 2 7 0 ∧ (64 ≤ (fR h2 a0 8) ∧ okA h2 (fR h2 a0 8) .int (fI h2 a0 7)) ∧ okF (sI h2 (fR h2 a0 8) (fI h2 a0 7) v1) a0 2 7 0 ∧ okP (sI h2 (fR h2 a0 8) (fI h2 a0 7) v1) a0 2 7 ∧ Q none (sF (sI h2 (fR h2 a0 8) (fI h2 a0 7) v1) a0 7 (.int ((fI (sI h2 (fR h2 a0 8) (fI h2 a0 7) v1) a0 7) + (ii 1)))))))) := by
  refine (G_aload rfl (mF fc36 (by rfl))).trans ?_
  refine (G_iconst (mF fc36 (by rfl))).trans ?_
  refine (G_aload rfl (mF fc36 (by rfl))).trans ?_
  refine (G_getI (c := 2) (k := 0) rfl rfl rfl (mF fc36 (by rfl))).trans (andR ?_)
  refine (G_iconst (mF fc36 (by rfl))).trans ?_
  refine (G_isub (mF fc36 (by rfl))).trans ?_
  refine (G_Vi (q := 58515) (y := 114) (a := a1) (c := 9) rfl rfl rfl rfl (by decide) rfl (as := [.ref a1, .int (ii 0), .int ((fI h a0 0) - (ii 1))]) (rest := []) rfl rfl (mF fc36 (by rfl))).trans (andR (GoCi_congr fun v1 h1 => ?_))
  refine (G_istore (k := 2) (L' := [some (.ref a0), some (.ref a1), some (.int v1)]) rfl (ltb rfl) rfl (mF fc36 (by rfl))).trans ?_
  refine (G_aload rfl (mF fc36 (by rfl))).trans ?_
  refine (G_Vi (q := 58001) (y := 113) (a := a1) (c := 9) rfl rfl rfl rfl (by decide) rfl (as := [.ref a1]) (rest := []) rfl rfl (mF fc36 (by rfl))).trans (andR (GoCi_congr fun v2 h2 => ?_))
  refine (G_ne (mF fc36 (by rfl))).trans (gi ?_ ?_)
  ·
    exact G_return rfl (mF fc36 (by rfl))
  ·
    refine (G_aload rfl (mF fc36 (by rfl))).trans ?_
    refine (G_getR (c := 2) (k := 8) rfl rfl rfl (mF fc36 (by rfl))).trans (andR ?_)
    refine (G_aload rfl (mF fc36 (by rfl))).trans ?_
    refine (G_getI (c := 2) (k := 7) rfl rfl rfl (mF fc36 (by rfl))).trans (andR ?_)
    refine (G_iload rfl (mF fc36 (by rfl))).trans ?_
    refine (G_iastore (mF fc36 (by rfl))).trans (andR ?_)
    refine (G_aload rfl (mF fc36 (by rfl))).trans ?_
    refine (G_dupr (mF fc36 (by rfl))).trans ?_
    refine (G_getI (c := 2) (k := 7) rfl rfl rfl (mF fc36 (by rfl))).trans (andR ?_)
    refine (G_iconst (mF fc36 (by rfl))).trans ?_
    refine (G_iadd (mF fc36 (by rfl))).trans ?_
    refine (G_putT (c := 2) (k := 7) rfl rfl rfl (mF fc36 (by rfl))).trans (andR ?_)
    exact G_return rfl (mF fc36 (by rfl))
theorem e36 {d : Nat} {h : mHeap} {K : mHeap → Prop} {a0 : Nat} {a1 : Nat} : GoCv (d + 1) 36 [.ref a0, .ref a1] h K ↔ Go d 36 0 [some (.ref a0), some (.ref a1), none] [] h (rV K) := GoCv_entry rfl rfl
set_option maxRecDepth 20000 in
theorem fc37 : mCodes[37]? = some mc37 := rfl
theorem b37_0 {d : Nat} {h : mHeap} {Q : Option Value → mHeap → Prop} {a0 : Nat} {a1 : Nat} : Go d 37 0 [some (.ref a0), some (.ref a1), none, none, none] [] h Q ↔ okF h a0 2 7 0 ∧ oC h a1 = 9 ∧ GoCi d 114 [.ref a1, .int (ii 0), .int ((fI h a0 7) - (ii 1))] h (fun v1 h1 => oC h1 a1 = 9 ∧ GoCi d 107 [.ref a1] h1 (fun v2 h2 => (if ¬ v2 = ((ii 1000) + v1) then (Go d 37 29 [some (.ref a0), some (.ref a1), some (.int v1), none, none] [] h2 Q) else (oC h2 a1 = 9 ∧ GoCv d 112 [.ref a1, .int (ii 1)] h2 (fun h3 => Go d 37 29 [some (.ref a0), some (.ref a1), some (.int v1), none, none] [] h3 Q))))) := by
  refine (G_aload rfl (mF fc37 (by rfl))).trans ?_
  refine (G_iconst (mF fc37 (by rfl))).trans ?_
  refine (G_aload rfl (mF fc37 (by rfl))).trans ?_
  refine (G_getI (c := 2) (k := 7) rfl rfl rfl (mF fc37 (by rfl))).trans (andR ?_)
  refine (G_iconst (mF fc37 (by rfl))).trans ?_
  refine (G_isub (mF fc37 (by rfl))).trans ?_
  refine (G_Vi (q := 58515) (y := 114) (a := a1) (c := 9) rfl rfl rfl rfl (by decide) rfl (as := [.ref a1, .int (ii 0), .int ((fI h a0 7) - (ii 1))]) (rest := []) rfl rfl (mF fc37 (by rfl))).trans (andR (GoCi_congr fun v1 h1 => ?_))
  refine (G_istore (k := 2) (L' := [some (.ref a0), some (.ref a1), some (.int v1), none, none]) rfl (ltb rfl) rfl (mF fc37 (by rfl))).trans ?_
  refine (G_aload rfl (mF fc37 (by rfl))).trans ?_
  refine (G_Vi (q := 54929) (y := 107) (a := a1) (c := 9) rfl rfl rfl rfl (by decide) rfl (as := [.ref a1]) (rest := []) rfl rfl (mF fc37 (by rfl))).trans (andR (GoCi_congr fun v2 h2 => ?_))
  refine (G_iconst (mF fc37 (by rfl))).trans ?_
  refine (G_iload rfl (mF fc37 (by rfl))).trans ?_
  refine (G_iadd (mF fc37 (by rfl))).trans ?_
  refine (G_ine (mF fc37 (by rfl))).trans (gi ?_ ?_)
  ·
    exact Iff.rfl
  ·
    refine (G_aload rfl (mF fc37 (by rfl))).trans ?_
    refine (G_iconst (mF fc37 (by rfl))).trans ?_
    refine (G_Vv (q := 57490) (y := 112) (a := a1) (c := 9) rfl rfl rfl rfl (by decide) rfl (as := [.ref a1, .int (ii 1)]) (rest := []) rfl rfl (mF fc37 (by rfl))).trans (andR (GoCv_congr fun h3 => ?_))
    exact Iff.rfl
theorem b37_29 {d : Nat} {h : mHeap} {Q : Option Value → mHeap → Prop} {a0 : Nat} {a1 : Nat} {x2 : Int32} {l3 : Option Value} {l4 : Option Value} : Go d 37 29 [some (.ref a0), some (.ref a1), some (.int x2), l3, l4] [] h Q ↔ okF h a0 2 7 0 ∧ oC h a1 = 9 ∧ GoCi d 114 [.ref a1, .int (ii 0), .int ((fI h a0 7) - (ii 1))] h (fun v1 h1 => oC h1 a1 = 9 ∧ GoCi d 114 [.ref a1, .int (ii 1), .int (ii 9)] h1 (fun v2 h2 => oC h2 a1 = 9 ∧ GoCi d 113 [.ref a1] h2 (fun v3 h3 => (if ¬ v3 = ii 0 then (Q none h3) else (oC h3 a0 = 2 ∧ GoCv d 39 [.ref a0, .int x2, .int v1, .int v2] h3 (fun h4 => oC h4 a0 = 2 ∧ GoCv d 39 [.ref a0, .int v1, .int x2, .int v2] h4 (fun h5 => okF h5 a0 2 9 0 ∧ okP h5 a0 2 9 ∧ Q none (sF h5 a0 9 (.int ((fI h5 a0 9) + (ii 1))))))))))) := by
  refine (G_aload rfl (mF fc37 (by rfl))).trans ?_
  refine (G_iconst (mF fc37 (by rfl))).trans ?_
  refine (G_aload rfl (mF fc37 (by rfl))).trans ?_
  refine (G_getI (c := 2) (k := 7) rfl rfl rfl (mF fc37 (by rfl))).trans (andR ?_)
  refine (G_iconst (mF fc37 (by rfl))).trans ?_
  refine (G_isub (mF fc37 (by rfl))).trans ?_
  refine (G_Vi (q := 58515) (y := 114) (a := a1) (c := 9) rfl rfl rfl rfl (by decide) rfl (as := [.ref a1, .int (ii 0), .int ((fI h a0 7) - (ii 1))]) (rest := []) rfl rfl (mF fc37 (by rfl))).trans (andR (GoCi_congr fun v1 h1 => ?_))
  refine (G_istore (k := 3) (L' := [some (.ref a0), some (.ref a1), some (.int x2), some (.int v1), l4]) rfl (ltb rfl) rfl (mF fc37 (by rfl))).trans ?_
  refine (G_aload rfl (mF fc37 (by rfl))).trans ?_
  refine (G_iconst (mF fc37 (by rfl))).trans ?_
  refine (G_iconst (mF fc37 (by rfl))).trans ?_
  refine (G_Vi (q := 58515) (y := 114) (a := a1) (c := 9) rfl rfl rfl rfl (by decide) rfl (as := [.ref a1, .int (ii 1), .int (ii 9)]) (rest := []) rfl rfl (mF fc37 (by rfl))).trans (andR (GoCi_congr fun v2 h2 => ?_))
  refine (G_istore (k := 4) (L' := [some (.ref a0), some (.ref a1), some (.int x2), some (.int v1), some (.int v2)]) rfl (ltb rfl) rfl (mF fc37 (by rfl))).trans ?_
  refine (G_aload rfl (mF fc37 (by rfl))).trans ?_
  refine (G_Vi (q := 58001) (y := 113) (a := a1) (c := 9) rfl rfl rfl rfl (by decide) rfl (as := [.ref a1]) (rest := []) rfl rfl (mF fc37 (by rfl))).trans (andR (GoCi_congr fun v3 h3 => ?_))
  refine (G_ne (mF fc37 (by rfl))).trans (gi ?_ ?_)
  ·
    exact G_return rfl (mF fc37 (by rfl))
  ·
    refine (G_aload rfl (mF fc37 (by rfl))).trans ?_
    refine (G_iload rfl (mF fc37 (by rfl))).trans ?_
    refine (G_iload rfl (mF fc37 (by rfl))).trans ?_
    refine (G_iload rfl (mF fc37 (by rfl))).trans ?_
    refine (G_Vv (q := 20004) (y := 39) (a := a0) (c := 2) rfl rfl rfl rfl (by decide) rfl (as := [.ref a0, .int x2, .int v1, .int v2]) (rest := []) rfl rfl (mF fc37 (by rfl))).trans (andR (GoCv_congr fun h4 => ?_))
    refine (G_aload rfl (mF fc37 (by rfl))).trans ?_
    refine (G_iload rfl (mF fc37 (by rfl))).trans ?_
    refine (G_iload rfl (mF fc37 (by rfl))).trans ?_
    refine (G_iload rfl (mF fc37 (by rfl))).trans ?_
    refine (G_Vv (q := 20004) (y := 39) (a := a0) (c := 2) rfl rfl rfl rfl (by decide) rfl (as := [.ref a0, .int v1, .int x2, .int v2]) (rest := []) rfl rfl (mF fc37 (by rfl))).trans (andR (GoCv_congr fun h5 => ?_))
    refine (G_aload rfl (mF fc37 (by rfl))).trans ?_
    refine (G_dupr (mF fc37 (by rfl))).trans ?_
    refine (G_getI (c := 2) (k := 9) rfl rfl rfl (mF fc37 (by rfl))).trans (andR ?_)
    refine (G_iconst (mF fc37 (by rfl))).trans ?_
    refine (G_iadd (mF fc37 (by rfl))).trans ?_
    refine (G_putT (c := 2) (k := 9) rfl rfl rfl (mF fc37 (by rfl))).trans (andR ?_)
    exact G_return rfl (mF fc37 (by rfl))
theorem e37 {d : Nat} {h : mHeap} {K : mHeap → Prop} {a0 : Nat} {a1 : Nat} : GoCv (d + 1) 37 [.ref a0, .ref a1] h K ↔ Go d 37 0 [some (.ref a0), some (.ref a1), none, none, none] [] h (rV K) := GoCv_entry rfl rfl
set_option maxRecDepth 20000 in
theorem fc38 : mCodes[38]? = some mc38 := rfl
theorem b38_0 {d : Nat} {h : mHeap} {Q : Option Value → mHeap → Prop} {a0 : Nat} {a1 : Nat} : Go d 38 0 [some (.ref a0), some (.ref a1), none, none] [] h Q ↔ okF h a0 2 0 0 ∧ oC h a1 = 9 ∧ GoCi d 114 [.ref a1, .int (ii 0), .int ((fI h a0 0) - (ii 1))] h (fun v1 h1 => oC h1 a1 = 9 ∧ GoCi d 114 [.ref a1, .int (ii 1), .int (ii 99)] h1 (fun v2 h2 => oC h2 a1 = 9 ∧ GoCi d 113 [.ref a1] h2 (fun v3 h3 => (if ¬ v3 = ii 0 then (Q none h3) else (okF h3 a0 2 12 2 ∧ okF h3 a0 2 11 0 ∧ (64 ≤ (fR h3 a0 12) ∧ okA h3 (fR h3 a0 12) .int (fI h3 a0 11)) ∧ okF (sI h3 (fR h3 a0 12) (fI h3 a0 11) v1) a0 2 13 2 ∧ okF (sI h3 (fR h3 a0 12) (fI h3 a0 11) v1) a0 2 11 0 ∧ (64 ≤ (fR (sI h3 (fR h3 a0 12) (fI h3 a0 11) v1) a0 13) ∧ okA (sI h3 (fR h3 a0 12) (fI h3 a0 11) v1) (fR (sI h3 (fR h3 a0 12) (fI h3 a0 11) v1) a0 13) .int (fI (sI h3 (fR h3 a0 12) (fI h3 a0 11) v1) a0 11)) ∧ okF (sI (sI h3 (fR h3 a0 12) (fI h3 a0 11) v1) (fR (sI h3 (fR h3 a0 12) (fI h3 a0 11) v1) a0 13) (fI (sI h3 (fR h3 a0 12) (fI h3 a0 11) v1) a0 11) v2) a0 2 11 0 ∧ okP (sI (sI h3 (fR h3 a0 12) (fI h3 a0 11) v1) (fR (sI h3 (fR h3 a0 12) (fI h3 a0 11) v1) a0 13) (fI (sI h3 (fR h3 a0 12) (fI h3 a0 11) v1) a0 11) v2) a0 2 11 ∧ Q none (sF (sI (sI h3 (fR h3 a0 12) (fI h3 a0 11) v1) (fR (sI h3 (fR h3 a0 12) (fI h3 a0 11) v1) a0 13) (fI (sI h3 (fR h3 a0 12) (fI h3 a0 11) v1) a0 11) v2) a0 11 (.int ((fI (sI (sI h3 (fR h3 a0 12) (fI h3 a0 11) v1) (fR (sI h3 (fR h3 a0 12) (fI h3 a0 11) v1) a0 13) (fI (sI h3 (fR h3 a0 12) (fI h3 a0 11) v1) a0 11) v2) a0 11) + (ii 1))))))))) := by
  refine (G_aload rfl (mF fc38 (by rfl))).trans ?_
  refine (G_iconst (mF fc38 (by rfl))).trans ?_
  refine (G_aload rfl (mF fc38 (by rfl))).trans ?_
  refine (G_getI (c := 2) (k := 0) rfl rfl rfl (mF fc38 (by rfl))).trans (andR ?_)
  refine (G_iconst (mF fc38 (by rfl))).trans ?_
  refine (G_isub (mF fc38 (by rfl))).trans ?_
  refine (G_Vi (q := 58515) (y := 114) (a := a1) (c := 9) rfl rfl rfl rfl (by decide) rfl (as := [.ref a1, .int (ii 0), .int ((fI h a0 0) - (ii 1))]) (rest := []) rfl rfl (mF fc38 (by rfl))).trans (andR (GoCi_congr fun v1 h1 => ?_))
  refine (G_istore (k := 2) (L' := [some (.ref a0), some (.ref a1), some (.int v1), none]) rfl (ltb rfl) rfl (mF fc38 (by rfl))).trans ?_
  refine (G_aload rfl (mF fc38 (by rfl))).trans ?_
  refine (G_iconst (mF fc38 (by rfl))).trans ?_
  refine (G_iconst (mF fc38 (by rfl))).trans ?_
  refine (G_Vi (q := 58515) (y := 114) (a := a1) (c := 9) rfl rfl rfl rfl (by decide) rfl (as := [.ref a1, .int (ii 1), .int (ii 99)]) (rest := []) rfl rfl (mF fc38 (by rfl))).trans (andR (GoCi_congr fun v2 h2 => ?_))
  refine (G_istore (k := 3) (L' := [some (.ref a0), some (.ref a1), some (.int v1), some (.int v2)]) rfl (ltb rfl) rfl (mF fc38 (by rfl))).trans ?_
  refine (G_aload rfl (mF fc38 (by rfl))).trans ?_
  refine (G_Vi (q := 58001) (y := 113) (a := a1) (c := 9) rfl rfl rfl rfl (by decide) rfl (as := [.ref a1]) (rest := []) rfl rfl (mF fc38 (by rfl))).trans (andR (GoCi_congr fun v3 h3 => ?_))
  refine (G_ne (mF fc38 (by rfl))).trans (gi ?_ ?_)
  ·
    exact G_return rfl (mF fc38 (by rfl))
  ·
    refine (G_aload rfl (mF fc38 (by rfl))).trans ?_
    refine (G_getR (c := 2) (k := 12) rfl rfl rfl (mF fc38 (by rfl))).trans (andR ?_)
    refine (G_aload rfl (mF fc38 (by rfl))).trans ?_
    refine (G_getI (c := 2) (k := 11) rfl rfl rfl (mF fc38 (by rfl))).trans (andR ?_)
    refine (G_iload rfl (mF fc38 (by rfl))).trans ?_
    refine (G_iastore (mF fc38 (by rfl))).trans (andR ?_)
    refine (G_aload rfl (mF fc38 (by rfl))).trans ?_
    refine (G_getR (c := 2) (k := 13) rfl rfl rfl (mF fc38 (by rfl))).trans (andR ?_)
    refine (G_aload rfl (mF fc38 (by rfl))).trans ?_
    refine (G_getI (c := 2) (k := 11) rfl rfl rfl (mF fc38 (by rfl))).trans (andR ?_)
    refine (G_iload rfl (mF fc38 (by rfl))).trans ?_
    refine (G_iastore (mF fc38 (by rfl))).trans (andR ?_)
    refine (G_aload rfl (mF fc38 (by rfl))).trans ?_
    refine (G_dupr (mF fc38 (by rfl))).trans ?_
    refine (G_getI (c := 2) (k := 11) rfl rfl rfl (mF fc38 (by rfl))).trans (andR ?_)
    refine (G_iconst (mF fc38 (by rfl))).trans ?_
    refine (G_iadd (mF fc38 (by rfl))).trans ?_
    refine (G_putT (c := 2) (k := 11) rfl rfl rfl (mF fc38 (by rfl))).trans (andR ?_)
    exact G_return rfl (mF fc38 (by rfl))
theorem e38 {d : Nat} {h : mHeap} {K : mHeap → Prop} {a0 : Nat} {a1 : Nat} : GoCv (d + 1) 38 [.ref a0, .ref a1] h K ↔ Go d 38 0 [some (.ref a0), some (.ref a1), none, none] [] h (rV K) := GoCv_entry rfl rfl
set_option maxRecDepth 20000 in
theorem fc39 : mCodes[39]? = some mc39 := rfl
theorem b39_0 {d : Nat} {h : mHeap} {Q : Option Value → mHeap → Prop} {a0 : Nat} {x1 : Int32} {x2 : Int32} {x3 : Int32} : Go d 39 0 [some (.ref a0), some (.int x1), some (.int x2), some (.int x3), none] [] h Q ↔ okF h a0 2 10 2 ∧ okA h (fR h a0 10) .int ((x1 * (ii 6)) + x2) ∧ (if (eI h (fR h a0 10) ((x1 * (ii 6)) + x2)) ≤ x3 then (Q none h) else (okF h a0 2 10 2 ∧ (64 ≤ (fR h a0 10) ∧ okA h (fR h a0 10) .int ((x1 * (ii 6)) + x2)) ∧ Q none (sI h (fR h a0 10) ((x1 * (ii 6)) + x2) x3))) := by
  refine (G_iload rfl (mF fc39 (by rfl))).trans ?_
  refine (G_iconst (mF fc39 (by rfl))).trans ?_
  refine (G_imul (mF fc39 (by rfl))).trans ?_
  refine (G_iload rfl (mF fc39 (by rfl))).trans ?_
  refine (G_iadd (mF fc39 (by rfl))).trans ?_
  refine (G_istore (k := 4) (L' := [some (.ref a0), some (.int x1), some (.int x2), some (.int x3), some (.int ((x1 * (ii 6)) + x2))]) rfl (ltb rfl) rfl (mF fc39 (by rfl))).trans ?_
  refine (G_iload rfl (mF fc39 (by rfl))).trans ?_
  refine (G_aload rfl (mF fc39 (by rfl))).trans ?_
  refine (G_getR (c := 2) (k := 10) rfl rfl rfl (mF fc39 (by rfl))).trans (andR ?_)
  refine (G_iload rfl (mF fc39 (by rfl))).trans ?_
  refine (G_iaload (mF fc39 (by rfl))).trans (andR ?_)
  refine (G_ige (mF fc39 (by rfl))).trans (gi ?_ ?_)
  ·
    exact G_return rfl (mF fc39 (by rfl))
  ·
    refine (G_aload rfl (mF fc39 (by rfl))).trans ?_
    refine (G_getR (c := 2) (k := 10) rfl rfl rfl (mF fc39 (by rfl))).trans (andR ?_)
    refine (G_iload rfl (mF fc39 (by rfl))).trans ?_
    refine (G_iload rfl (mF fc39 (by rfl))).trans ?_
    refine (G_iastore (mF fc39 (by rfl))).trans (andR ?_)
    exact G_return rfl (mF fc39 (by rfl))
theorem e39 {d : Nat} {h : mHeap} {K : mHeap → Prop} {a0 : Nat} {x1 : Int32} {x2 : Int32} {x3 : Int32} : GoCv (d + 1) 39 [.ref a0, .int x1, .int x2, .int x3] h K ↔ Go d 39 0 [some (.ref a0), some (.int x1), some (.int x2), some (.int x3), none] [] h (rV K) := GoCv_entry rfl rfl
set_option maxRecDepth 20000 in
theorem fc40 : mCodes[40]? = some mc40 := rfl
theorem b40_0 {d : Nat} {h : mHeap} {Q : Option Value → mHeap → Prop} {a0 : Nat} : Go d 40 0 [some (.ref a0), none, none, none] [] h Q ↔ Go d 40 2 [some (.ref a0), some (.int (ii 0)), none, none] [] h Q := by
  refine (G_iconst (mF fc40 (by rfl))).trans ?_
  refine (G_istore (k := 1) (L' := [some (.ref a0), some (.int (ii 0)), none, none]) rfl (ltb rfl) rfl (mF fc40 (by rfl))).trans ?_
  exact Iff.rfl
theorem b40_2 {d : Nat} {h : mHeap} {Q : Option Value → mHeap → Prop} {a0 : Nat} {x1 : Int32} {l2 : Option Value} {l3 : Option Value} : Go d 40 2 [some (.ref a0), some (.int x1), l2, l3] [] h Q ↔ okF h a0 2 7 0 ∧ (if (fI h a0 7) ≤ x1 then (Q none h) else (Go d 40 12 [some (.ref a0), some (.int x1), some (.int (ii 0)), l3] [] h Q)) := by
  refine (G_iload rfl (mF fc40 (by rfl))).trans ?_
  refine (G_aload rfl (mF fc40 (by rfl))).trans ?_
  refine (G_getI (c := 2) (k := 7) rfl rfl rfl (mF fc40 (by rfl))).trans (andR ?_)
  refine (G_ige (mF fc40 (by rfl))).trans (gi ?_ ?_)
  ·
    exact G_return rfl (mF fc40 (by rfl))
  ·
    refine (G_iconst (mF fc40 (by rfl))).trans ?_
    refine (G_istore (k := 2) (L' := [some (.ref a0), some (.int x1), some (.int (ii 0)), l3]) rfl (ltb rfl) rfl (mF fc40 (by rfl))).trans ?_
    exact Iff.rfl
theorem b40_12 {d : Nat} {h : mHeap} {Q : Option Value → mHeap → Prop} {a0 : Nat} {x1 : Int32} {x2 : Int32} {l3 : Option Value} : Go d 40 12 [some (.ref a0), some (.int x1), some (.int x2), l3] [] h Q ↔ okF h a0 2 7 0 ∧ (if (fI h a0 7) ≤ x2 then (Go d 40 2 [some (.ref a0), some (.int (x1 + ii 1)), some (.int x2), l3] [] h Q) else (Go d 40 22 [some (.ref a0), some (.int x1), some (.int x2), some (.int (ii 0))] [] h Q)) := by
  refine (G_iload rfl (mF fc40 (by rfl))).trans ?_
  refine (G_aload rfl (mF fc40 (by rfl))).trans ?_
  refine (G_getI (c := 2) (k := 7) rfl rfl rfl (mF fc40 (by rfl))).trans (andR ?_)
  refine (G_ige (mF fc40 (by rfl))).trans (gi ?_ ?_)
  ·
    refine (G_iinc (k := 1) (L' := [some (.ref a0), some (.int (x1 + ii 1)), some (.int x2), l3]) rfl rfl rfl (mF fc40 (by rfl))).trans ?_
    refine (G_goto (mF fc40 (by rfl))).trans ?_
    exact Iff.rfl
  ·
    refine (G_iconst (mF fc40 (by rfl))).trans ?_
    refine (G_istore (k := 3) (L' := [some (.ref a0), some (.int x1), some (.int x2), some (.int (ii 0))]) rfl (ltb rfl) rfl (mF fc40 (by rfl))).trans ?_
    exact Iff.rfl
theorem b40_22 {d : Nat} {h : mHeap} {Q : Option Value → mHeap → Prop} {a0 : Nat} {x1 : Int32} {x2 : Int32} {x3 : Int32} : Go d 40 22 [some (.ref a0), some (.int x1), some (.int x2), some (.int x3)] [] h Q ↔ okF h a0 2 7 0 ∧ (if (fI h a0 7) ≤ x3 then (Go d 40 12 [some (.ref a0), some (.int x1), some (.int (x2 + ii 1)), some (.int x3)] [] h Q) else (oC h a0 = 2 ∧ GoCi d 41 [.ref a0, .int x2, .int x1] h (fun v1 h1 => oC h1 a0 = 2 ∧ GoCi d 41 [.ref a0, .int x1, .int x3] h1 (fun v2 h2 => oC h2 a0 = 2 ∧ GoCv d 39 [.ref a0, .int x2, .int x3, .int (v1 + v2)] h2 (fun h3 => Go d 40 22 [some (.ref a0), some (.int x1), some (.int x2), some (.int (x3 + ii 1))] [] h3 Q))))) := by
  refine (G_iload rfl (mF fc40 (by rfl))).trans ?_
  refine (G_aload rfl (mF fc40 (by rfl))).trans ?_
  refine (G_getI (c := 2) (k := 7) rfl rfl rfl (mF fc40 (by rfl))).trans (andR ?_)
  refine (G_ige (mF fc40 (by rfl))).trans (gi ?_ ?_)
  ·
    refine (G_iinc (k := 2) (L' := [some (.ref a0), some (.int x1), some (.int (x2 + ii 1)), some (.int x3)]) rfl rfl rfl (mF fc40 (by rfl))).trans ?_
    refine (G_goto (mF fc40 (by rfl))).trans ?_
    exact Iff.rfl
  ·
    refine (G_aload rfl (mF fc40 (by rfl))).trans ?_
    refine (G_iload rfl (mF fc40 (by rfl))).trans ?_
    refine (G_iload rfl (mF fc40 (by rfl))).trans ?_
    refine (G_aload rfl (mF fc40 (by rfl))).trans ?_
    refine (G_iload rfl (mF fc40 (by rfl))).trans ?_
    refine (G_iload rfl (mF fc40 (by rfl))).trans ?_
    refine (G_Vi (q := 21027) (y := 41) (a := a0) (c := 2) rfl rfl rfl rfl (by decide) rfl (as := [.ref a0, .int x2, .int x1]) (rest := [.int x3, .int x2, .ref a0]) rfl rfl (mF fc40 (by rfl))).trans (andR (GoCi_congr fun v1 h1 => ?_))
    refine (G_aload rfl (mF fc40 (by rfl))).trans ?_
    refine (G_iload rfl (mF fc40 (by rfl))).trans ?_
    refine (G_iload rfl (mF fc40 (by rfl))).trans ?_
    refine (G_Vi (q := 21027) (y := 41) (a := a0) (c := 2) rfl rfl rfl rfl (by decide) rfl (as := [.ref a0, .int x1, .int x3]) (rest := [.int v1, .int x3, .int x2, .ref a0]) rfl rfl (mF fc40 (by rfl))).trans (andR (GoCi_congr fun v2 h2 => ?_))
    refine (G_iadd (mF fc40 (by rfl))).trans ?_
    refine (G_Vv (q := 20004) (y := 39) (a := a0) (c := 2) rfl rfl rfl rfl (by decide) rfl (as := [.ref a0, .int x2, .int x3, .int (v1 + v2)]) (rest := []) rfl rfl (mF fc40 (by rfl))).trans (andR (GoCv_congr fun h3 => ?_))
    refine (G_iinc (k := 3) (L' := [some (.ref a0), some (.int x1), some (.int x2), some (.int (x3 + ii 1))]) rfl rfl rfl (mF fc40 (by rfl))).trans ?_
    refine (G_goto (mF fc40 (by rfl))).trans ?_
    exact Iff.rfl
theorem e40 {d : Nat} {h : mHeap} {K : mHeap → Prop} {a0 : Nat} : GoCv (d + 1) 40 [.ref a0] h K ↔ Go d 40 0 [some (.ref a0), none, none, none] [] h (rV K) := GoCv_entry rfl rfl
set_option maxRecDepth 20000 in
theorem fc41 : mCodes[41]? = some mc41 := rfl
theorem b41_0 {d : Nat} {h : mHeap} {Q : Option Value → mHeap → Prop} {a0 : Nat} {x1 : Int32} {x2 : Int32} : Go d 41 0 [some (.ref a0), some (.int x1), some (.int x2)] [] h Q ↔ okF h a0 2 10 2 ∧ okA h (fR h a0 10) .int ((x1 * (ii 6)) + x2) ∧ Q (some (.int (eI h (fR h a0 10) ((x1 * (ii 6)) + x2)))) h := by
  refine (G_aload rfl (mF fc41 (by rfl))).trans ?_
  refine (G_getR (c := 2) (k := 10) rfl rfl rfl (mF fc41 (by rfl))).trans (andR ?_)
  refine (G_iload rfl (mF fc41 (by rfl))).trans ?_
  refine (G_iconst (mF fc41 (by rfl))).trans ?_
  refine (G_imul (mF fc41 (by rfl))).trans ?_
  refine (G_iload rfl (mF fc41 (by rfl))).trans ?_
  refine (G_iadd (mF fc41 (by rfl))).trans ?_
  refine (G_iaload (mF fc41 (by rfl))).trans (andR ?_)
  exact G_ireturnI rfl (mF fc41 (by rfl))
theorem e41 {d : Nat} {h : mHeap} {K : Int32 → mHeap → Prop} {a0 : Nat} {x1 : Int32} {x2 : Int32} : GoCi (d + 1) 41 [.ref a0, .int x1, .int x2] h K ↔ Go d 41 0 [some (.ref a0), some (.int x1), some (.int x2)] [] h (rI K) := GoCi_entry rfl rfl
set_option maxRecDepth 20000 in
theorem fc42 : mCodes[42]? = some mc42 := rfl
theorem b42_0 {d : Nat} {h : mHeap} {Q : Option Value → mHeap → Prop} {a0 : Nat} {x1 : Int32} : Go d 42 0 [some (.ref a0), some (.int x1), none, none] [] h Q ↔ Go d 42 4 [some (.ref a0), some (.int x1), some (.int (ii 0)), some (.int (ii 0))] [] h Q := by
  refine (G_iconst (mF fc42 (by rfl))).trans ?_
  refine (G_istore (k := 2) (L' := [some (.ref a0), some (.int x1), some (.int (ii 0)), none]) rfl (ltb rfl) rfl (mF fc42 (by rfl))).trans ?_
  refine (G_iconst (mF fc42 (by rfl))).trans ?_
  refine (G_istore (k := 3) (L' := [some (.ref a0), some (.int x1), some (.int (ii 0)), some (.int (ii 0))]) rfl (ltb rfl) rfl (mF fc42 (by rfl))).trans ?_
  exact Iff.rfl
theorem b42_4 {d : Nat} {h : mHeap} {Q : Option Value → mHeap → Prop} {a0 : Nat} {x1 : Int32} {x2 : Int32} {x3 : Int32} : Go d 42 4 [some (.ref a0), some (.int x1), some (.int x2), some (.int x3)] [] h Q ↔ okF h a0 2 11 0 ∧ (if (fI h a0 11) ≤ x3 then (Q (some (.int x2)) h) else (okF h a0 2 13 2 ∧ okA h (fR h a0 13) .int x3 ∧ (if ¬ (eI h (fR h a0 13) x3) = x1 then (Go d 42 33 [some (.ref a0), some (.int x1), some (.int x2), some (.int x3)] [] h Q) else (okF h a0 2 12 2 ∧ okA h (fR h a0 12) .int x3 ∧ Go d 42 33 [some (.ref a0), some (.int x1), some (.int (x2 ^^^ (shl (ii 1) (eI h (fR h a0 12) x3)))), some (.int x3)] [] h Q)))) := by
  refine (G_iload rfl (mF fc42 (by rfl))).trans ?_
  refine (G_aload rfl (mF fc42 (by rfl))).trans ?_
  refine (G_getI (c := 2) (k := 11) rfl rfl rfl (mF fc42 (by rfl))).trans (andR ?_)
  refine (G_ige (mF fc42 (by rfl))).trans (gi ?_ ?_)
  ·
    refine (G_iload rfl (mF fc42 (by rfl))).trans ?_
    exact G_ireturnI rfl (mF fc42 (by rfl))
  ·
    refine (G_aload rfl (mF fc42 (by rfl))).trans ?_
    refine (G_getR (c := 2) (k := 13) rfl rfl rfl (mF fc42 (by rfl))).trans (andR ?_)
    refine (G_iload rfl (mF fc42 (by rfl))).trans ?_
    refine (G_iaload (mF fc42 (by rfl))).trans (andR ?_)
    refine (G_iload rfl (mF fc42 (by rfl))).trans ?_
    refine (G_ine (mF fc42 (by rfl))).trans (gi ?_ ?_)
    ·
      exact Iff.rfl
    ·
      refine (G_iload rfl (mF fc42 (by rfl))).trans ?_
      refine (G_iconst (mF fc42 (by rfl))).trans ?_
      refine (G_aload rfl (mF fc42 (by rfl))).trans ?_
      refine (G_getR (c := 2) (k := 12) rfl rfl rfl (mF fc42 (by rfl))).trans (andR ?_)
      refine (G_iload rfl (mF fc42 (by rfl))).trans ?_
      refine (G_iaload (mF fc42 (by rfl))).trans (andR ?_)
      refine (G_ishl (mF fc42 (by rfl))).trans ?_
      refine (G_ixor (mF fc42 (by rfl))).trans ?_
      refine (G_istore (k := 2) (L' := [some (.ref a0), some (.int x1), some (.int (x2 ^^^ (shl (ii 1) (eI h (fR h a0 12) x3)))), some (.int x3)]) rfl (ltb rfl) rfl (mF fc42 (by rfl))).trans ?_
      exact Iff.rfl
theorem b42_33 {d : Nat} {h : mHeap} {Q : Option Value → mHeap → Prop} {a0 : Nat} {x1 : Int32} {x2 : Int32} {x3 : Int32} : Go d 42 33 [some (.ref a0), some (.int x1), some (.int x2), some (.int x3)] [] h Q ↔ Go d 42 4 [some (.ref a0), some (.int x1), some (.int x2), some (.int (x3 + ii 1))] [] h Q := by
  refine (G_iinc (k := 3) (L' := [some (.ref a0), some (.int x1), some (.int x2), some (.int (x3 + ii 1))]) rfl rfl rfl (mF fc42 (by rfl))).trans ?_
  refine (G_goto (mF fc42 (by rfl))).trans ?_
  exact Iff.rfl
theorem e42 {d : Nat} {h : mHeap} {K : Int32 → mHeap → Prop} {a0 : Nat} {x1 : Int32} : GoCi (d + 1) 42 [.ref a0, .int x1] h K ↔ Go d 42 0 [some (.ref a0), some (.int x1), none, none] [] h (rI K) := GoCi_entry rfl rfl
set_option maxRecDepth 20000 in
theorem fc43 : mCodes[43]? = some mc43 := rfl
theorem b43_0 {d : Nat} {h : mHeap} {Q : Option Value → mHeap → Prop} {a0 : Nat} : Go d 43 0 [some (.ref a0), none] [] h Q ↔ 64 ≤ a0 ∧ okN (ii 6) ∧ (∃ h1 : mHeap, h1 = nA h .int (ii 6) ∧ okP h1 a0 3 4 ∧ okN (ii 7) ∧ (∃ h2 : mHeap, h2 = nR (sF h1 a0 4 (.ref h.length)) 10 (ii 7) ∧ okP h2 a0 3 5 ∧ Go d 43 23 [some (.ref a0), some (.int (ii 0))] [] (sF h2 a0 5 (.ref ((sF h1 a0 4 (.ref h.length)).length))) Q)) := by
  refine (G_aload rfl (mF fc43 (by rfl))).trans ?_
  refine (G_objinit (Nat.le_of_ble_eq_true rfl) (mF fc43 (by rfl))).trans (andR ?_)
  refine (G_aload rfl (mF fc43 (by rfl))).trans ?_
  refine (G_iconst (mF fc43 (by rfl))).trans ?_
  refine (G_newarrayI (mF fc43 (by rfl))).trans (andR ?_)
  refine (exN (A := fun x => Go d 43 9 [some (.ref a0), none] [.ref h.length, .ref a0] x Q) (e := nA h .int (ii 6)) fun h1 => ?_)
  refine (G_putT (c := 3) (k := 4) rfl rfl rfl (mF fc43 (by rfl))).trans (andR ?_)
  refine (G_aload rfl (mF fc43 (by rfl))).trans ?_
  refine (G_iconst (mF fc43 (by rfl))).trans ?_
  refine (G_anewarray rfl (mF fc43 (by rfl))).trans (andR ?_)
  refine (exN (A := fun x => Go d 43 18 [some (.ref a0), none] [.ref ((sF h1 a0 4 (.ref h.length)).length), .ref a0] x Q) (e := nR (sF h1 a0 4 (.ref h.length)) 10 (ii 7)) fun h2 => ?_)
  refine (G_putT (c := 3) (k := 5) rfl rfl rfl (mF fc43 (by rfl))).trans (andR ?_)
  refine (G_iconst (mF fc43 (by rfl))).trans ?_
  refine (G_istore (k := 1) (L' := [some (.ref a0), some (.int (ii 0))]) rfl (ltb rfl) rfl (mF fc43 (by rfl))).trans ?_
  exact Iff.rfl
theorem b43_23 {d : Nat} {h : mHeap} {Q : Option Value → mHeap → Prop} {a0 : Nat} {x1 : Int32} : Go d 43 23 [some (.ref a0), some (.int x1)] [] h Q ↔ okF h a0 3 5 2 ∧ okL h (fR h a0 5) ∧ (if (ii (nL h (fR h a0 5))) ≤ x1 then (Q none h) else (okF h a0 3 5 2 ∧ (∃ h1 : mHeap, h1 = nO h 10 ∧ 64 ≤ h.length ∧ GoCv d 115 [.ref h.length] h1 (fun h2 => okS h2 (fR h a0 5) x1 h.length ∧ Go d 43 23 [some (.ref a0), some (.int (x1 + ii 1))] [] (sR h2 (fR h a0 5) x1 h.length) Q)))) := by
  refine (G_iload rfl (mF fc43 (by rfl))).trans ?_
  refine (G_aload rfl (mF fc43 (by rfl))).trans ?_
  refine (G_getR (c := 3) (k := 5) rfl rfl rfl (mF fc43 (by rfl))).trans (andR ?_)
  refine (G_arraylength (mF fc43 (by rfl))).trans (andR ?_)
  refine (G_ige (mF fc43 (by rfl))).trans (gi ?_ ?_)
  ·
    exact G_return rfl (mF fc43 (by rfl))
  ·
    refine (G_aload rfl (mF fc43 (by rfl))).trans ?_
    refine (G_getR (c := 3) (k := 5) rfl rfl rfl (mF fc43 (by rfl))).trans (andR ?_)
    refine (G_iload rfl (mF fc43 (by rfl))).trans ?_
    refine (G_new (mF fc43 (by rfl))).trans ?_
    refine (exN (A := fun x => Go d 43 40 [some (.ref a0), some (.int x1)] [.ref h.length, .int x1, .ref (fR h a0 5)] x Q) (e := nO h 10) fun h1 => ?_)
    refine (G_dupr (mF fc43 (by rfl))).trans ?_
    refine (G_Nv (q := 59041) (y := 115) (a := h.length) rfl rfl rfl rfl (as := [.ref h.length]) (rest := [.ref h.length, .int x1, .ref (fR h a0 5)]) rfl rfl (mF fc43 (by rfl))).trans (andR (GoCv_congr fun h2 => ?_))
    refine (G_aastore (mF fc43 (by rfl))).trans (andR ?_)
    refine (G_iinc (k := 1) (L' := [some (.ref a0), some (.int (x1 + ii 1))]) rfl rfl rfl (mF fc43 (by rfl))).trans ?_
    refine (G_goto (mF fc43 (by rfl))).trans ?_
    exact Iff.rfl
theorem e43 {d : Nat} {h : mHeap} {K : mHeap → Prop} {a0 : Nat} : GoCv (d + 1) 43 [.ref a0] h K ↔ Go d 43 0 [some (.ref a0), none] [] h (rV K) := GoCv_entry rfl rfl
set_option maxRecDepth 20000 in
theorem fc44 : mCodes[44]? = some mc44 := rfl
theorem b44_0 {d : Nat} {h : mHeap} {Q : Option Value → mHeap → Prop} {a0 : Nat} {a1 : Nat} : Go d 44 0 [some (.ref a0), some (.ref a1), none] [] h Q ↔ okF h a1 3 0 0 ∧ okP h a0 3 0 ∧ okF (sF h a0 0 (.int (fI h a1 0))) a1 3 1 0 ∧ okP (sF h a0 0 (.int (fI h a1 0))) a0 3 1 ∧ okF (sF (sF h a0 0 (.int (fI h a1 0))) a0 1 (.int (fI (sF h a0 0 (.int (fI h a1 0))) a1 1))) a1 3 2 0 ∧ okP (sF (sF h a0 0 (.int (fI h a1 0))) a0 1 (.int (fI (sF h a0 0 (.int (fI h a1 0))) a1 1))) a0 3 2 ∧ okF (sF (sF (sF h a0 0 (.int (fI h a1 0))) a0 1 (.int (fI (sF h a0 0 (.int (fI h a1 0))) a1 1))) a0 2 (.int (fI (sF (sF h a0 0 (.int (fI h a1 0))) a0 1 (.int (fI (sF h a0 0 (.int (fI h a1 0))) a1 1))) a1 2))) a1 3 3 0 ∧ okP (sF (sF (sF h a0 0 (.int (fI h a1 0))) a0 1 (.int (fI (sF h a0 0 (.int (fI h a1 0))) a1 1))) a0 2 (.int (fI (sF (sF h a0 0 (.int (fI h a1 0))) a0 1 (.int (fI (sF h a0 0 (.int (fI h a1 0))) a1 1))) a1 2))) a0 3 3 ∧ Go d 44 34 [some (.ref a0), some (.ref a1), some (.int (ii 0))] [] (sF (sF (sF (sF h a0 0 (.int (fI h a1 0))) a0 1 (.int (fI (sF h a0 0 (.int (fI h a1 0))) a1 1))) a0 2 (.int (fI (sF (sF h a0 0 (.int (fI h a1 0))) a0 1 (.int (fI (sF h a0 0 (.int (fI h a1 0))) a1 1))) a1 2))) a0 3 (.int (fI (sF (sF (sF h a0 0 (.int (fI h a1 0))) a0 1 (.int (fI (sF h a0 0 (.int (fI h a1 0))) a1 1))) a0 2 (.int (fI (sF (sF h a0 0 (.int (fI h a1 0))) a0 1 (.int (fI (sF h a0 0 (.int (fI h a1 0))) a1 1))) a1 2))) a1 3))) Q := by
  refine (G_aload rfl (mF fc44 (by rfl))).trans ?_
  refine (G_aload rfl (mF fc44 (by rfl))).trans ?_
  refine (G_getI (c := 3) (k := 0) rfl rfl rfl (mF fc44 (by rfl))).trans (andR ?_)
  refine (G_putT (c := 3) (k := 0) rfl rfl rfl (mF fc44 (by rfl))).trans (andR ?_)
  refine (G_aload rfl (mF fc44 (by rfl))).trans ?_
  refine (G_aload rfl (mF fc44 (by rfl))).trans ?_
  refine (G_getI (c := 3) (k := 1) rfl rfl rfl (mF fc44 (by rfl))).trans (andR ?_)
  refine (G_putT (c := 3) (k := 1) rfl rfl rfl (mF fc44 (by rfl))).trans (andR ?_)
  refine (G_aload rfl (mF fc44 (by rfl))).trans ?_
  refine (G_aload rfl (mF fc44 (by rfl))).trans ?_
  refine (G_getI (c := 3) (k := 2) rfl rfl rfl (mF fc44 (by rfl))).trans (andR ?_)
  refine (G_putT (c := 3) (k := 2) rfl rfl rfl (mF fc44 (by rfl))).trans (andR ?_)
  refine (G_aload rfl (mF fc44 (by rfl))).trans ?_
  refine (G_aload rfl (mF fc44 (by rfl))).trans ?_
  refine (G_getI (c := 3) (k := 3) rfl rfl rfl (mF fc44 (by rfl))).trans (andR ?_)
  refine (G_putT (c := 3) (k := 3) rfl rfl rfl (mF fc44 (by rfl))).trans (andR ?_)
  refine (G_iconst (mF fc44 (by rfl))).trans ?_
  refine (G_istore (k := 2) (L' := [some (.ref a0), some (.ref a1), some (.int (ii 0))]) rfl (ltb rfl) rfl (mF fc44 (by rfl))).trans ?_
  exact Iff.rfl
theorem b44_34 {d : Nat} {h : mHeap} {Q : Option Value → mHeap → Prop} {a0 : Nat} {a1 : Nat} {x2 : Int32} : Go d 44 34 [some (.ref a0), some (.ref a1), some (.int x2)] [] h Q ↔ (if (ii 6) ≤ x2 then (Go d 44 60 [some (.ref a0), some (.ref a1), some (.int (ii 0))] [] h Q) else (okF h a0 3 4 2 ∧ okF h a1 3 4 2 ∧ okA h (fR h a1 4) .int x2 ∧ (64 ≤ (fR h a0 4) ∧ okA h (fR h a0 4) .int x2) ∧ Go d 44 34 [some (.ref a0), some (.ref a1), some (.int (x2 + ii 1))] [] (sI h (fR h a0 4) x2 (eI h (fR h a1 4) x2)) Q)) := by
  refine (G_iload rfl (mF fc44 (by rfl))).trans ?_
  refine (G_iconst (mF fc44 (by rfl))).trans ?_
  refine (G_ige (mF fc44 (by rfl))).trans (gi ?_ ?_)
  ·
    refine (G_iconst (mF fc44 (by rfl))).trans ?_
    refine (G_istore (k := 2) (L' := [some (.ref a0), some (.ref a1), some (.int (ii 0))]) rfl (ltb rfl) rfl (mF fc44 (by rfl))).trans ?_
    exact Iff.rfl
  ·
    refine (G_aload rfl (mF fc44 (by rfl))).trans ?_
    refine (G_getR (c := 3) (k := 4) rfl rfl rfl (mF fc44 (by rfl))).trans (andR ?_)
    refine (G_iload rfl (mF fc44 (by rfl))).trans ?_
    refine (G_aload rfl (mF fc44 (by rfl))).trans ?_
    refine (G_getR (c := 3) (k := 4) rfl rfl rfl (mF fc44 (by rfl))).trans (andR ?_)
    refine (G_iload rfl (mF fc44 (by rfl))).trans ?_
    refine (G_iaload (mF fc44 (by rfl))).trans (andR ?_)
    refine (G_iastore (mF fc44 (by rfl))).trans (andR ?_)
    refine (G_iinc (k := 2) (L' := [some (.ref a0), some (.ref a1), some (.int (x2 + ii 1))]) rfl rfl rfl (mF fc44 (by rfl))).trans ?_
    refine (G_goto (mF fc44 (by rfl))).trans ?_
    exact Iff.rfl
theorem b44_60 {d : Nat} {h : mHeap} {Q : Option Value → mHeap → Prop} {a0 : Nat} {a1 : Nat} {x2 : Int32} : Go d 44 60 [some (.ref a0), some (.ref a1), some (.int x2)] [] h Q ↔ okF h a0 3 5 2 ∧ okL h (fR h a0 5) ∧ (if (ii (nL h (fR h a0 5))) ≤ x2 then (Q none h) else (okF h a0 3 5 2 ∧ okR h (fR h a0 5) x2 ∧ okF h a1 3 5 2 ∧ okR h (fR h a1 5) x2 ∧ oC h (eR h (fR h a0 5) x2) = 10 ∧ GoCv d 117 [.ref (eR h (fR h a0 5) x2), .ref (eR h (fR h a1 5) x2)] h (fun h1 => Go d 44 60 [some (.ref a0), some (.ref a1), some (.int (x2 + ii 1))] [] h1 Q))) := by
  refine (G_iload rfl (mF fc44 (by rfl))).trans ?_
  refine (G_aload rfl (mF fc44 (by rfl))).trans ?_
  refine (G_getR (c := 3) (k := 5) rfl rfl rfl (mF fc44 (by rfl))).trans (andR ?_)
  refine (G_arraylength (mF fc44 (by rfl))).trans (andR ?_)
  refine (G_ige (mF fc44 (by rfl))).trans (gi ?_ ?_)
  ·
    exact G_return rfl (mF fc44 (by rfl))
  ·
    refine (G_aload rfl (mF fc44 (by rfl))).trans ?_
    refine (G_getR (c := 3) (k := 5) rfl rfl rfl (mF fc44 (by rfl))).trans (andR ?_)
    refine (G_iload rfl (mF fc44 (by rfl))).trans ?_
    refine (G_aaloadR rfl (mF fc44 (by rfl))).trans (andR ?_)
    refine (G_aload rfl (mF fc44 (by rfl))).trans ?_
    refine (G_getR (c := 3) (k := 5) rfl rfl rfl (mF fc44 (by rfl))).trans (andR ?_)
    refine (G_iload rfl (mF fc44 (by rfl))).trans ?_
    refine (G_aaloadR rfl (mF fc44 (by rfl))).trans (andR ?_)
    refine (G_Vv (q := 60066) (y := 117) (a := eR h (fR h a0 5) x2) (c := 10) rfl rfl rfl rfl (by decide) rfl (as := [.ref (eR h (fR h a0 5) x2), .ref (eR h (fR h a1 5) x2)]) (rest := []) rfl rfl (mF fc44 (by rfl))).trans (andR (GoCv_congr fun h1 => ?_))
    refine (G_iinc (k := 2) (L' := [some (.ref a0), some (.ref a1), some (.int (x2 + ii 1))]) rfl rfl rfl (mF fc44 (by rfl))).trans ?_
    refine (G_goto (mF fc44 (by rfl))).trans ?_
    exact Iff.rfl
theorem e44 {d : Nat} {h : mHeap} {K : mHeap → Prop} {a0 : Nat} {a1 : Nat} : GoCv (d + 1) 44 [.ref a0, .ref a1] h K ↔ Go d 44 0 [some (.ref a0), some (.ref a1), none] [] h (rV K) := GoCv_entry rfl rfl
set_option maxRecDepth 20000 in
theorem fc45 : mCodes[45]? = some mc45 := rfl
theorem b45_0 {d : Nat} {h : mHeap} {Q : Option Value → mHeap → Prop} {a0 : Nat} {a1 : Nat} : Go d 45 0 [some (.ref a0), some (.ref a1), none, none] [] h Q ↔ okP h a0 3 0 ∧ okF (sF h a0 0 (.int (ii 0))) a1 2 1 0 ∧ okP (sF h a0 0 (.int (ii 0))) a0 3 1 ∧ okF (sF (sF h a0 0 (.int (ii 0))) a0 1 (.int (fI (sF h a0 0 (.int (ii 0))) a1 1))) a1 2 3 0 ∧ okP (sF (sF h a0 0 (.int (ii 0))) a0 1 (.int (fI (sF h a0 0 (.int (ii 0))) a1 1))) a0 3 2 ∧ okP (sF (sF (sF h a0 0 (.int (ii 0))) a0 1 (.int (fI (sF h a0 0 (.int (ii 0))) a1 1))) a0 2 (.int (fI (sF (sF h a0 0 (.int (ii 0))) a0 1 (.int (fI (sF h a0 0 (.int (ii 0))) a1 1))) a1 3))) a0 3 3 ∧ okF (sF (sF (sF (sF h a0 0 (.int (ii 0))) a0 1 (.int (fI (sF h a0 0 (.int (ii 0))) a1 1))) a0 2 (.int (fI (sF (sF h a0 0 (.int (ii 0))) a0 1 (.int (fI (sF h a0 0 (.int (ii 0))) a1 1))) a1 3))) a0 3 (.int (ii 0))) a0 3 4 2 ∧ GoCv d 325 [.ref (fR (sF (sF (sF (sF h a0 0 (.int (ii 0))) a0 1 (.int (fI (sF h a0 0 (.int (ii 0))) a1 1))) a0 2 (.int (fI (sF (sF h a0 0 (.int (ii 0))) a0 1 (.int (fI (sF h a0 0 (.int (ii 0))) a1 1))) a1 3))) a0 3 (.int (ii 0))) a0 4), .int (ii 0)] (sF (sF (sF (sF h a0 0 (.int (ii 0))) a0 1 (.int (fI (sF h a0 0 (.int (ii 0))) a1 1))) a0 2 (.int (fI (sF (sF h a0 0 (.int (ii 0))) a0 1 (.int (fI (sF h a0 0 (.int (ii 0))) a1 1))) a1 3))) a0 3 (.int (ii 0))) (fun h1 => Go d 45 36 [some (.ref a0), some (.ref a1), some (.int (ii 0)), none] [] h1 Q) := by
  refine (G_aload rfl (mF fc45 (by rfl))).trans ?_
  refine (G_iconst (mF fc45 (by rfl))).trans ?_
  refine (G_putT (c := 3) (k := 0) rfl rfl rfl (mF fc45 (by rfl))).trans (andR ?_)
  refine (G_aload rfl (mF fc45 (by rfl))).trans ?_
  refine (G_aload rfl (mF fc45 (by rfl))).trans ?_
  refine (G_getI (c := 2) (k := 1) rfl rfl rfl (mF fc45 (by rfl))).trans (andR ?_)
  refine (G_putT (c := 3) (k := 1) rfl rfl rfl (mF fc45 (by rfl))).trans (andR ?_)
  refine (G_aload rfl (mF fc45 (by rfl))).trans ?_
  refine (G_aload rfl (mF fc45 (by rfl))).trans ?_
  refine (G_getI (c := 2) (k := 3) rfl rfl rfl (mF fc45 (by rfl))).trans (andR ?_)
  refine (G_putT (c := 3) (k := 2) rfl rfl rfl (mF fc45 (by rfl))).trans (andR ?_)
  refine (G_aload rfl (mF fc45 (by rfl))).trans ?_
  refine (G_iconst (mF fc45 (by rfl))).trans ?_
  refine (G_putT (c := 3) (k := 3) rfl rfl rfl (mF fc45 (by rfl))).trans (andR ?_)
  refine (G_aload rfl (mF fc45 (by rfl))).trans ?_
  refine (G_getR (c := 3) (k := 4) rfl rfl rfl (mF fc45 (by rfl))).trans (andR ?_)
  refine (G_iconst (mF fc45 (by rfl))).trans ?_
  refine (G_Tv (q := 166690) (y := 325) rfl rfl rfl (as := [.ref (fR (sF (sF (sF (sF h a0 0 (.int (ii 0))) a0 1 (.int (fI (sF h a0 0 (.int (ii 0))) a1 1))) a0 2 (.int (fI (sF (sF h a0 0 (.int (ii 0))) a0 1 (.int (fI (sF h a0 0 (.int (ii 0))) a1 1))) a1 3))) a0 3 (.int (ii 0))) a0 4), .int (ii 0)]) (rest := []) rfl rfl (mF fc45 (by rfl))).trans (GoCv_congr fun h1 => ?_)
  refine (G_iconst (mF fc45 (by rfl))).trans ?_
  refine (G_istore (k := 2) (L' := [some (.ref a0), some (.ref a1), some (.int (ii 0)), none]) rfl (ltb rfl) rfl (mF fc45 (by rfl))).trans ?_
  exact Iff.rfl
theorem b45_36 {d : Nat} {h : mHeap} {Q : Option Value → mHeap → Prop} {a0 : Nat} {a1 : Nat} {x2 : Int32} {l3 : Option Value} : Go d 45 36 [some (.ref a0), some (.ref a1), some (.int x2), l3] [] h Q ↔ okF h a0 3 5 2 ∧ okL h (fR h a0 5) ∧ (if (ii (nL h (fR h a0 5))) ≤ x2 then (Go d 45 66 [some (.ref a0), some (.ref a1), some (.int (ii 0)), l3] [] h Q) else (okF h a0 3 5 2 ∧ okR h (fR h a0 5) x2 ∧ okF h a1 2 0 0 ∧ oC h (eR h (fR h a0 5) x2) = 10 ∧ GoCv d 118 [.ref (eR h (fR h a0 5) x2), .int (fI h a1 0)] h (fun h1 => Go d 45 36 [some (.ref a0), some (.ref a1), some (.int (x2 + ii 1)), l3] [] h1 Q))) := by
  refine (G_iload rfl (mF fc45 (by rfl))).trans ?_
  refine (G_aload rfl (mF fc45 (by rfl))).trans ?_
  refine (G_getR (c := 3) (k := 5) rfl rfl rfl (mF fc45 (by rfl))).trans (andR ?_)
  refine (G_arraylength (mF fc45 (by rfl))).trans (andR ?_)
  refine (G_ige (mF fc45 (by rfl))).trans (gi ?_ ?_)
  ·
    refine (G_iconst (mF fc45 (by rfl))).trans ?_
    refine (G_istore (k := 2) (L' := [some (.ref a0), some (.ref a1), some (.int (ii 0)), l3]) rfl (ltb rfl) rfl (mF fc45 (by rfl))).trans ?_
    exact Iff.rfl
  ·
    refine (G_aload rfl (mF fc45 (by rfl))).trans ?_
    refine (G_getR (c := 3) (k := 5) rfl rfl rfl (mF fc45 (by rfl))).trans (andR ?_)
    refine (G_iload rfl (mF fc45 (by rfl))).trans ?_
    refine (G_aaloadR rfl (mF fc45 (by rfl))).trans (andR ?_)
    refine (G_aload rfl (mF fc45 (by rfl))).trans ?_
    refine (G_getI (c := 2) (k := 0) rfl rfl rfl (mF fc45 (by rfl))).trans (andR ?_)
    refine (G_Vv (q := 60578) (y := 118) (a := eR h (fR h a0 5) x2) (c := 10) rfl rfl rfl rfl (by decide) rfl (as := [.ref (eR h (fR h a0 5) x2), .int (fI h a1 0)]) (rest := []) rfl rfl (mF fc45 (by rfl))).trans (andR (GoCv_congr fun h1 => ?_))
    refine (G_iinc (k := 2) (L' := [some (.ref a0), some (.ref a1), some (.int (x2 + ii 1)), l3]) rfl rfl rfl (mF fc45 (by rfl))).trans ?_
    refine (G_goto (mF fc45 (by rfl))).trans ?_
    exact Iff.rfl
theorem b45_66 {d : Nat} {h : mHeap} {Q : Option Value → mHeap → Prop} {a0 : Nat} {a1 : Nat} {x2 : Int32} {l3 : Option Value} : Go d 45 66 [some (.ref a0), some (.ref a1), some (.int x2), l3] [] h Q ↔ okF h a1 2 2 0 ∧ (if (fI h a1 2) ≤ x2 then (Q none h) else (Go d 45 76 [some (.ref a0), some (.ref a1), some (.int x2), some (.int (ii 0))] [] h Q)) := by
  refine (G_iload rfl (mF fc45 (by rfl))).trans ?_
  refine (G_aload rfl (mF fc45 (by rfl))).trans ?_
  refine (G_getI (c := 2) (k := 2) rfl rfl rfl (mF fc45 (by rfl))).trans (andR ?_)
  refine (G_ige (mF fc45 (by rfl))).trans (gi ?_ ?_)
  ·
    exact G_return rfl (mF fc45 (by rfl))
  ·
    refine (G_iconst (mF fc45 (by rfl))).trans ?_
    refine (G_istore (k := 3) (L' := [some (.ref a0), some (.ref a1), some (.int x2), some (.int (ii 0))]) rfl (ltb rfl) rfl (mF fc45 (by rfl))).trans ?_
    exact Iff.rfl
theorem b45_76 {d : Nat} {h : mHeap} {Q : Option Value → mHeap → Prop} {a0 : Nat} {a1 : Nat} {x2 : Int32} {x3 : Int32} : Go d 45 76 [some (.ref a0), some (.ref a1), some (.int x2), some (.int x3)] [] h Q ↔ okF h a1 2 0 0 ∧ (if (fI h a1 0) ≤ x3 then (Go d 45 66 [some (.ref a0), some (.ref a1), some (.int (x2 + ii 1)), some (.int x3)] [] h Q) else (okF h a1 2 4 2 ∧ okA h (fR h a1 4) .int x2 ∧ (if ((shr (eI h (fR h a1 4) x2) x3) &&& (ii 1)) = ii 0 then (Go d 45 111 [some (.ref a0), some (.ref a1), some (.int x2), some (.int x3)] [] h Q) else (oC h a0 = 3 ∧ GoCr d 46 [.ref a0, .int x2] h (fun v1 h1 => oC h1 a0 = 3 ∧ GoCi d 47 [.ref a0, .int x3] h1 (fun v2 h2 => oC h2 v1 = 10 ∧ GoCv d 123 [.ref v1, .int x3, .int v2] h2 (fun h3 => Go d 45 111 [some (.ref a0), some (.ref a1), some (.int x2), some (.int x3)] [] h3 Q))))))) := by
  refine (G_iload rfl (mF fc45 (by rfl))).trans ?_
  refine (G_aload rfl (mF fc45 (by rfl))).trans ?_
  refine (G_getI (c := 2) (k := 0) rfl rfl rfl (mF fc45 (by rfl))).trans (andR ?_)
  refine (G_ige (mF fc45 (by rfl))).trans (gi ?_ ?_)
  ·
    refine (G_iinc (k := 2) (L' := [some (.ref a0), some (.ref a1), some (.int (x2 + ii 1)), some (.int x3)]) rfl rfl rfl (mF fc45 (by rfl))).trans ?_
    refine (G_goto (mF fc45 (by rfl))).trans ?_
    exact Iff.rfl
  ·
    refine (G_aload rfl (mF fc45 (by rfl))).trans ?_
    refine (G_getR (c := 2) (k := 4) rfl rfl rfl (mF fc45 (by rfl))).trans (andR ?_)
    refine (G_iload rfl (mF fc45 (by rfl))).trans ?_
    refine (G_iaload (mF fc45 (by rfl))).trans (andR ?_)
    refine (G_iload rfl (mF fc45 (by rfl))).trans ?_
    refine (G_ishr (mF fc45 (by rfl))).trans ?_
    refine (G_iconst (mF fc45 (by rfl))).trans ?_
    refine (G_iand (mF fc45 (by rfl))).trans ?_
    refine (G_eq (mF fc45 (by rfl))).trans (gi ?_ ?_)
    ·
      exact Iff.rfl
    ·
      refine (G_aload rfl (mF fc45 (by rfl))).trans ?_
      refine (G_iload rfl (mF fc45 (by rfl))).trans ?_
      refine (G_Vr (q := 23602) (y := 46) (a := a0) (c := 3) rfl rfl rfl rfl (by decide) rfl (as := [.ref a0, .int x2]) (rest := []) rfl rfl (mF fc45 (by rfl))).trans (andR (GoCr_congr fun v1 h1 => ?_))
      refine (G_iload rfl (mF fc45 (by rfl))).trans ?_
      refine (G_aload rfl (mF fc45 (by rfl))).trans ?_
      refine (G_iload rfl (mF fc45 (by rfl))).trans ?_
      refine (G_Vi (q := 24114) (y := 47) (a := a0) (c := 3) rfl rfl rfl rfl (by decide) rfl (as := [.ref a0, .int x3]) (rest := [.int x3, .ref v1]) rfl rfl (mF fc45 (by rfl))).trans (andR (GoCi_congr fun v2 h2 => ?_))
      refine (G_Vv (q := 63139) (y := 123) (a := v1) (c := 10) rfl rfl rfl rfl (by decide) rfl (as := [.ref v1, .int x3, .int v2]) (rest := []) rfl rfl (mF fc45 (by rfl))).trans (andR (GoCv_congr fun h3 => ?_))
      exact Iff.rfl
theorem b45_111 {d : Nat} {h : mHeap} {Q : Option Value → mHeap → Prop} {a0 : Nat} {a1 : Nat} {x2 : Int32} {x3 : Int32} : Go d 45 111 [some (.ref a0), some (.ref a1), some (.int x2), some (.int x3)] [] h Q ↔ Go d 45 76 [some (.ref a0), some (.ref a1), some (.int x2), some (.int (x3 + ii 1))] [] h Q := by
  refine (G_iinc (k := 3) (L' := [some (.ref a0), some (.ref a1), some (.int x2), some (.int (x3 + ii 1))]) rfl rfl rfl (mF fc45 (by rfl))).trans ?_
  refine (G_goto (mF fc45 (by rfl))).trans ?_
  exact Iff.rfl
theorem e45 {d : Nat} {h : mHeap} {K : mHeap → Prop} {a0 : Nat} {a1 : Nat} : GoCv (d + 1) 45 [.ref a0, .ref a1] h K ↔ Go d 45 0 [some (.ref a0), some (.ref a1), none, none] [] h (rV K) := GoCv_entry rfl rfl
set_option maxRecDepth 20000 in
theorem fc46 : mCodes[46]? = some mc46 := rfl
theorem b46_0 {d : Nat} {h : mHeap} {Q : Option Value → mHeap → Prop} {a0 : Nat} {x1 : Int32} : Go d 46 0 [some (.ref a0), some (.int x1)] [] h Q ↔ okF h a0 3 5 2 ∧ okR h (fR h a0 5) (x1 + (ii 1)) ∧ Q (some (.ref (eR h (fR h a0 5) (x1 + (ii 1))))) h := by
  refine (G_aload rfl (mF fc46 (by rfl))).trans ?_
  refine (G_getR (c := 3) (k := 5) rfl rfl rfl (mF fc46 (by rfl))).trans (andR ?_)
  refine (G_iload rfl (mF fc46 (by rfl))).trans ?_
  refine (G_iconst (mF fc46 (by rfl))).trans ?_
  refine (G_iadd (mF fc46 (by rfl))).trans ?_
  refine (G_aaloadR rfl (mF fc46 (by rfl))).trans (andR ?_)
  exact G_areturn rfl (mF fc46 (by rfl))
theorem e46 {d : Nat} {h : mHeap} {K : Nat → mHeap → Prop} {a0 : Nat} {x1 : Int32} : GoCr (d + 1) 46 [.ref a0, .int x1] h K ↔ Go d 46 0 [some (.ref a0), some (.int x1)] [] h (rR K) := GoCr_entry rfl rfl
set_option maxRecDepth 20000 in
theorem fc47 : mCodes[47]? = some mc47 := rfl
theorem b47_0 {d : Nat} {h : mHeap} {Q : Option Value → mHeap → Prop} {a0 : Nat} {x1 : Int32} : Go d 47 0 [some (.ref a0), some (.int x1)] [] h Q ↔ okF h a0 3 1 0 ∧ (if ((shr (fI h a0 1) x1) &&& (ii 1)) = ii 0 then (((ii 0) = ii 0 ∨ (ii 0) = ii 1) ∧ Q (some (.int (ii 0))) h) else (((ii 1) = ii 0 ∨ (ii 1) = ii 1) ∧ Q (some (.int (ii 1))) h)) := by
  refine (G_aload rfl (mF fc47 (by rfl))).trans ?_
  refine (G_getI (c := 3) (k := 1) rfl rfl rfl (mF fc47 (by rfl))).trans (andR ?_)
  refine (G_iload rfl (mF fc47 (by rfl))).trans ?_
  refine (G_ishr (mF fc47 (by rfl))).trans ?_
  refine (G_iconst (mF fc47 (by rfl))).trans ?_
  refine (G_iand (mF fc47 (by rfl))).trans ?_
  refine (G_eq (mF fc47 (by rfl))).trans (gi ?_ ?_)
  ·
    refine (G_iconst (mF fc47 (by rfl))).trans ?_
    exact G_ireturnZ rfl (mF fc47 (by rfl))
  ·
    refine (G_iconst (mF fc47 (by rfl))).trans ?_
    refine (G_goto (mF fc47 (by rfl))).trans ?_
    exact G_ireturnZ rfl (mF fc47 (by rfl))
theorem e47 {d : Nat} {h : mHeap} {K : Int32 → mHeap → Prop} {a0 : Nat} {x1 : Int32} : GoCi (d + 1) 47 [.ref a0, .int x1] h K ↔ Go d 47 0 [some (.ref a0), some (.int x1)] [] h (rI K) := GoCi_entry rfl rfl
set_option maxRecDepth 20000 in
theorem fc48 : mCodes[48]? = some mc48 := rfl
theorem b48_0 {d : Nat} {h : mHeap} {Q : Option Value → mHeap → Prop} {a0 : Nat} {x1 : Int32} : Go d 48 0 [some (.ref a0), some (.int x1)] [] h Q ↔ okF h a0 3 2 0 ∧ Q (some (.int ((shr (fI h a0 2) x1) &&& (ii 1)))) h := by
  refine (G_aload rfl (mF fc48 (by rfl))).trans ?_
  refine (G_getI (c := 3) (k := 2) rfl rfl rfl (mF fc48 (by rfl))).trans (andR ?_)
  refine (G_iload rfl (mF fc48 (by rfl))).trans ?_
  refine (G_ishr (mF fc48 (by rfl))).trans ?_
  refine (G_iconst (mF fc48 (by rfl))).trans ?_
  refine (G_iand (mF fc48 (by rfl))).trans ?_
  exact G_ireturnI rfl (mF fc48 (by rfl))
theorem e48 {d : Nat} {h : mHeap} {K : Int32 → mHeap → Prop} {a0 : Nat} {x1 : Int32} : GoCi (d + 1) 48 [.ref a0, .int x1] h K ↔ Go d 48 0 [some (.ref a0), some (.int x1)] [] h (rI K) := GoCi_entry rfl rfl
set_option maxRecDepth 20000 in
theorem fc49 : mCodes[49]? = some mc49 := rfl
theorem b49_0 {d : Nat} {h : mHeap} {Q : Option Value → mHeap → Prop} {a0 : Nat} {x1 : Int32} : Go d 49 0 [some (.ref a0), some (.int x1)] [] h Q ↔ okF h a0 3 3 0 ∧ (if ((shr (fI h a0 3) x1) &&& (ii 1)) = ii 0 then (((ii 0) = ii 0 ∨ (ii 0) = ii 1) ∧ Q (some (.int (ii 0))) h) else (((ii 1) = ii 0 ∨ (ii 1) = ii 1) ∧ Q (some (.int (ii 1))) h)) := by
  refine (G_aload rfl (mF fc49 (by rfl))).trans ?_
  refine (G_getI (c := 3) (k := 3) rfl rfl rfl (mF fc49 (by rfl))).trans (andR ?_)
  refine (G_iload rfl (mF fc49 (by rfl))).trans ?_
  refine (G_ishr (mF fc49 (by rfl))).trans ?_
  refine (G_iconst (mF fc49 (by rfl))).trans ?_
  refine (G_iand (mF fc49 (by rfl))).trans ?_
  refine (G_eq (mF fc49 (by rfl))).trans (gi ?_ ?_)
  ·
    refine (G_iconst (mF fc49 (by rfl))).trans ?_
    exact G_ireturnZ rfl (mF fc49 (by rfl))
  ·
    refine (G_iconst (mF fc49 (by rfl))).trans ?_
    refine (G_goto (mF fc49 (by rfl))).trans ?_
    exact G_ireturnZ rfl (mF fc49 (by rfl))
theorem e49 {d : Nat} {h : mHeap} {K : Int32 → mHeap → Prop} {a0 : Nat} {x1 : Int32} : GoCi (d + 1) 49 [.ref a0, .int x1] h K ↔ Go d 49 0 [some (.ref a0), some (.int x1)] [] h (rI K) := GoCi_entry rfl rfl
set_option maxRecDepth 20000 in
theorem fc50 : mCodes[50]? = some mc50 := rfl
theorem b50_0 {d : Nat} {h : mHeap} {Q : Option Value → mHeap → Prop} {a0 : Nat} {x1 : Int32} {x2 : Int32} {a3 : Nat} : Go d 50 0 [some (.ref a0), some (.int x1), some (.int x2), some (.ref a3), none, none] [] h Q ↔ oC h a0 = 3 ∧ GoCr d 46 [.ref a0, .int (ii (-1))] h (fun v1 h1 => oC h1 v1 = 10 ∧ GoCi d 127 [.ref v1, .ref a3] h1 (fun v2 h2 => okF h2 a0 3 1 0 ∧ oC h2 a3 = 10 ∧ GoCi d 130 [.ref a3, .int (fI h2 a0 1)] h2 (fun v3 h3 => (if v3 = ii 0 then (Go d 50 31 [some (.ref a0), some (.int x1), some (.int x2), some (.ref a3), some (.ref v1), some (.int v2)] [] h3 Q) else ((if ¬ v2 = ii 0 then (oC h3 v1 = 10 ∧ GoCv d 121 [.ref v1, .ref a3] h3 (fun h4 => (if x2 ≤ v2 then (okF h4 a0 3 2 0 ∧ okP h4 a0 3 2 ∧ Q (some (.int (ii 3))) (sF h4 a0 2 (.int ((fI h4 a0 2) ^^^ (shl (ii 1) x1))))) else (Q (some (.int (ii 2))) h4)))) else (Go d 50 31 [some (.ref a0), some (.int x1), some (.int x2), some (.ref a3), some (.ref v1), some (.int v2)] [] h3 Q))))))) := by
  refine (G_aload rfl (mF fc50 (by rfl))).trans ?_
  refine (G_iconst (mF fc50 (by rfl))).trans ?_
  refine (G_Vr (q := 23602) (y := 46) (a := a0) (c := 3) rfl rfl rfl rfl (by decide) rfl (as := [.ref a0, .int (ii (-1))]) (rest := []) rfl rfl (mF fc50 (by rfl))).trans (andR (GoCr_congr fun v1 h1 => ?_))
  refine (G_astore (k := 4) (L' := [some (.ref a0), some (.int x1), some (.int x2), some (.ref a3), some (.ref v1), none]) rfl (ltb rfl) rfl (mF fc50 (by rfl))).trans ?_
  refine (G_aload rfl (mF fc50 (by rfl))).trans ?_
  refine (G_aload rfl (mF fc50 (by rfl))).trans ?_
  refine (G_Vi (q := 65186) (y := 127) (a := v1) (c := 10) rfl rfl rfl rfl (by decide) rfl (as := [.ref v1, .ref a3]) (rest := []) rfl rfl (mF fc50 (by rfl))).trans (andR (GoCi_congr fun v2 h2 => ?_))
  refine (G_istore (k := 5) (L' := [some (.ref a0), some (.int x1), some (.int x2), some (.ref a3), some (.ref v1), some (.int v2)]) rfl (ltb rfl) rfl (mF fc50 (by rfl))).trans ?_
  refine (G_aload rfl (mF fc50 (by rfl))).trans ?_
  refine (G_aload rfl (mF fc50 (by rfl))).trans ?_
  refine (G_getI (c := 3) (k := 1) rfl rfl rfl (mF fc50 (by rfl))).trans (andR ?_)
  refine (G_Vi (q := 66722) (y := 130) (a := a3) (c := 10) rfl rfl rfl rfl (by decide) rfl (as := [.ref a3, .int (fI h2 a0 1)]) (rest := []) rfl rfl (mF fc50 (by rfl))).trans (andR (GoCi_congr fun v3 h3 => ?_))
  refine (G_eq (mF fc50 (by rfl))).trans (gi ?_ ?_)
  ·
    exact Iff.rfl
  ·
    refine (G_iload rfl (mF fc50 (by rfl))).trans ?_
    refine (G_ne (mF fc50 (by rfl))).trans (gi ?_ ?_)
    ·
      refine (G_aload rfl (mF fc50 (by rfl))).trans ?_
      refine (G_aload rfl (mF fc50 (by rfl))).trans ?_
      refine (G_Vv (q := 62114) (y := 121) (a := v1) (c := 10) rfl rfl rfl rfl (by decide) rfl (as := [.ref v1, .ref a3]) (rest := []) rfl rfl (mF fc50 (by rfl))).trans (andR (GoCv_congr fun h4 => ?_))
      refine (G_iload rfl (mF fc50 (by rfl))).trans ?_
      refine (G_iload rfl (mF fc50 (by rfl))).trans ?_
      refine (G_ige (mF fc50 (by rfl))).trans (gi ?_ ?_)
      ·
        refine (G_aload rfl (mF fc50 (by rfl))).trans ?_
        refine (G_dupr (mF fc50 (by rfl))).trans ?_
        refine (G_getI (c := 3) (k := 2) rfl rfl rfl (mF fc50 (by rfl))).trans (andR ?_)
        refine (G_iconst (mF fc50 (by rfl))).trans ?_
        refine (G_iload rfl (mF fc50 (by rfl))).trans ?_
        refine (G_ishl (mF fc50 (by rfl))).trans ?_
        refine (G_ixor (mF fc50 (by rfl))).trans ?_
        refine (G_putT (c := 3) (k := 2) rfl rfl rfl (mF fc50 (by rfl))).trans (andR ?_)
        refine (G_iconst (mF fc50 (by rfl))).trans ?_
        exact G_ireturnI rfl (mF fc50 (by rfl))
      ·
        refine (G_iconst (mF fc50 (by rfl))).trans ?_
        exact G_ireturnI rfl (mF fc50 (by rfl))
    ·
      exact Iff.rfl
theorem b50_31 {d : Nat} {h : mHeap} {Q : Option Value → mHeap → Prop} {a0 : Nat} {x1 : Int32} {l2 : Option Value} {a3 : Nat} {l4 : Option Value} {l5 : Option Value} : Go d 50 31 [some (.ref a0), some (.int x1), l2, some (.ref a3), l4, l5] [] h Q ↔ okF h a0 3 3 0 ∧ okP h a0 3 3 ∧ okF (sF h a0 3 (.int ((fI h a0 3) ||| (shl (ii 1) x1)))) a0 3 1 0 ∧ oC (sF h a0 3 (.int ((fI h a0 3) ||| (shl (ii 1) x1)))) a3 = 10 ∧ GoCi d 130 [.ref a3, .int (fI (sF h a0 3 (.int ((fI h a0 3) ||| (shl (ii 1) x1)))) a0 1)] (sF h a0 3 (.int ((fI h a0 3) ||| (shl (ii 1) x1)))) (fun v1 h1 => (if v1 = ii 0 then (Q (some (.int (ii 0))) h1) else (Q (some (.int (ii 1))) h1))) := by
  refine (G_aload rfl (mF fc50 (by rfl))).trans ?_
  refine (G_dupr (mF fc50 (by rfl))).trans ?_
  refine (G_getI (c := 3) (k := 3) rfl rfl rfl (mF fc50 (by rfl))).trans (andR ?_)
  refine (G_iconst (mF fc50 (by rfl))).trans ?_
  refine (G_iload rfl (mF fc50 (by rfl))).trans ?_
  refine (G_ishl (mF fc50 (by rfl))).trans ?_
  refine (G_ior (mF fc50 (by rfl))).trans ?_
  refine (G_putT (c := 3) (k := 3) rfl rfl rfl (mF fc50 (by rfl))).trans (andR ?_)
  refine (G_aload rfl (mF fc50 (by rfl))).trans ?_
  refine (G_aload rfl (mF fc50 (by rfl))).trans ?_
  refine (G_getI (c := 3) (k := 1) rfl rfl rfl (mF fc50 (by rfl))).trans (andR ?_)
  refine (G_Vi (q := 66722) (y := 130) (a := a3) (c := 10) rfl rfl rfl rfl (by decide) rfl (as := [.ref a3, .int (fI (sF h a0 3 (.int ((fI h a0 3) ||| (shl (ii 1) x1)))) a0 1)]) (rest := []) rfl rfl (mF fc50 (by rfl))).trans (andR (GoCi_congr fun v1 h1 => ?_))
  refine (G_eq (mF fc50 (by rfl))).trans (gi ?_ ?_)
  ·
    refine (G_iconst (mF fc50 (by rfl))).trans ?_
    exact G_ireturnI rfl (mF fc50 (by rfl))
  ·
    refine (G_iconst (mF fc50 (by rfl))).trans ?_
    refine (G_goto (mF fc50 (by rfl))).trans ?_
    exact G_ireturnI rfl (mF fc50 (by rfl))
theorem e50 {d : Nat} {h : mHeap} {K : Int32 → mHeap → Prop} {a0 : Nat} {x1 : Int32} {x2 : Int32} {a3 : Nat} : GoCi (d + 1) 50 [.ref a0, .int x1, .int x2, .ref a3] h K ↔ Go d 50 0 [some (.ref a0), some (.int x1), some (.int x2), some (.ref a3), none, none] [] h (rI K) := GoCi_entry rfl rfl
set_option maxRecDepth 20000 in
theorem fc51 : mCodes[51]? = some mc51 := rfl
theorem b51_0 {d : Nat} {h : mHeap} {Q : Option Value → mHeap → Prop} {a0 : Nat} {a1 : Nat} : Go d 51 0 [some (.ref a0), some (.ref a1), none] [] h Q ↔ okF h a0 3 0 0 ∧ okP h a0 3 0 ∧ okP (sF h a0 0 (.int ((fI h a0 0) + (ii 1)))) a0 3 3 ∧ okF (sF (sF h a0 0 (.int ((fI h a0 0) + (ii 1)))) a0 3 (.int (ii 0))) a0 3 4 2 ∧ GoCv d 325 [.ref (fR (sF (sF h a0 0 (.int ((fI h a0 0) + (ii 1)))) a0 3 (.int (ii 0))) a0 4), .int (ii 0)] (sF (sF h a0 0 (.int ((fI h a0 0) + (ii 1)))) a0 3 (.int (ii 0))) (fun h1 => okF h1 a0 3 1 0 ∧ okF h1 a0 3 0 0 ∧ oC h1 a1 = 2 ∧ GoCi d 42 [.ref a1, .int (fI h1 a0 0)] h1 (fun v2 h2 => okP h2 a0 3 1 ∧ Go d 51 42 [some (.ref a0), some (.ref a1), some (.int (ii 0))] [] (sF h2 a0 1 (.int ((fI h1 a0 1) ^^^ v2))) Q)) := by
  refine (G_aload rfl (mF fc51 (by rfl))).trans ?_
  refine (G_dupr (mF fc51 (by rfl))).trans ?_
  refine (G_getI (c := 3) (k := 0) rfl rfl rfl (mF fc51 (by rfl))).trans (andR ?_)
  refine (G_iconst (mF fc51 (by rfl))).trans ?_
  refine (G_iadd (mF fc51 (by rfl))).trans ?_
  refine (G_putT (c := 3) (k := 0) rfl rfl rfl (mF fc51 (by rfl))).trans (andR ?_)
  refine (G_aload rfl (mF fc51 (by rfl))).trans ?_
  refine (G_iconst (mF fc51 (by rfl))).trans ?_
  refine (G_putT (c := 3) (k := 3) rfl rfl rfl (mF fc51 (by rfl))).trans (andR ?_)
  refine (G_aload rfl (mF fc51 (by rfl))).trans ?_
  refine (G_getR (c := 3) (k := 4) rfl rfl rfl (mF fc51 (by rfl))).trans (andR ?_)
  refine (G_iconst (mF fc51 (by rfl))).trans ?_
  refine (G_Tv (q := 166690) (y := 325) rfl rfl rfl (as := [.ref (fR (sF (sF h a0 0 (.int ((fI h a0 0) + (ii 1)))) a0 3 (.int (ii 0))) a0 4), .int (ii 0)]) (rest := []) rfl rfl (mF fc51 (by rfl))).trans (GoCv_congr fun h1 => ?_)
  refine (G_aload rfl (mF fc51 (by rfl))).trans ?_
  refine (G_dupr (mF fc51 (by rfl))).trans ?_
  refine (G_getI (c := 3) (k := 1) rfl rfl rfl (mF fc51 (by rfl))).trans (andR ?_)
  refine (G_aload rfl (mF fc51 (by rfl))).trans ?_
  refine (G_aload rfl (mF fc51 (by rfl))).trans ?_
  refine (G_getI (c := 3) (k := 0) rfl rfl rfl (mF fc51 (by rfl))).trans (andR ?_)
  refine (G_Vi (q := 21538) (y := 42) (a := a1) (c := 2) rfl rfl rfl rfl (by decide) rfl (as := [.ref a1, .int (fI h1 a0 0)]) (rest := [.int (fI h1 a0 1), .ref a0]) rfl rfl (mF fc51 (by rfl))).trans (andR (GoCi_congr fun v2 h2 => ?_))
  refine (G_ixor (mF fc51 (by rfl))).trans ?_
  refine (G_putT (c := 3) (k := 1) rfl rfl rfl (mF fc51 (by rfl))).trans (andR ?_)
  refine (G_iconst (mF fc51 (by rfl))).trans ?_
  refine (G_istore (k := 2) (L' := [some (.ref a0), some (.ref a1), some (.int (ii 0))]) rfl (ltb rfl) rfl (mF fc51 (by rfl))).trans ?_
  exact Iff.rfl
theorem b51_42 {d : Nat} {h : mHeap} {Q : Option Value → mHeap → Prop} {a0 : Nat} {a1 : Nat} {x2 : Int32} : Go d 51 42 [some (.ref a0), some (.ref a1), some (.int x2)] [] h Q ↔ okF h a1 2 11 0 ∧ (if (fI h a1 11) ≤ x2 then (Q none h) else (okF h a1 2 13 2 ∧ okA h (fR h a1 13) .int x2 ∧ okF h a0 3 0 0 ∧ (if ¬ (eI h (fR h a1 13) x2) = (fI h a0 0) then (Go d 51 77 [some (.ref a0), some (.ref a1), some (.int x2)] [] h Q) else (okF h a1 2 12 2 ∧ okA h (fR h a1 12) .int x2 ∧ okF h a1 2 2 0 ∧ oC h a0 = 3 ∧ GoCv d 52 [.ref a0, .int (eI h (fR h a1 12) x2), .int (fI h a1 2)] h (fun h1 => Go d 51 77 [some (.ref a0), some (.ref a1), some (.int x2)] [] h1 Q))))) := by
  refine (G_iload rfl (mF fc51 (by rfl))).trans ?_
  refine (G_aload rfl (mF fc51 (by rfl))).trans ?_
  refine (G_getI (c := 2) (k := 11) rfl rfl rfl (mF fc51 (by rfl))).trans (andR ?_)
  refine (G_ige (mF fc51 (by rfl))).trans (gi ?_ ?_)
  ·
    exact G_return rfl (mF fc51 (by rfl))
  ·
    refine (G_aload rfl (mF fc51 (by rfl))).trans ?_
    refine (G_getR (c := 2) (k := 13) rfl rfl rfl (mF fc51 (by rfl))).trans (andR ?_)
    refine (G_iload rfl (mF fc51 (by rfl))).trans ?_
    refine (G_iaload (mF fc51 (by rfl))).trans (andR ?_)
    refine (G_aload rfl (mF fc51 (by rfl))).trans ?_
    refine (G_getI (c := 3) (k := 0) rfl rfl rfl (mF fc51 (by rfl))).trans (andR ?_)
    refine (G_ine (mF fc51 (by rfl))).trans (gi ?_ ?_)
    ·
      exact Iff.rfl
    ·
      refine (G_aload rfl (mF fc51 (by rfl))).trans ?_
      refine (G_aload rfl (mF fc51 (by rfl))).trans ?_
      refine (G_getR (c := 2) (k := 12) rfl rfl rfl (mF fc51 (by rfl))).trans (andR ?_)
      refine (G_iload rfl (mF fc51 (by rfl))).trans ?_
      refine (G_iaload (mF fc51 (by rfl))).trans (andR ?_)
      refine (G_aload rfl (mF fc51 (by rfl))).trans ?_
      refine (G_getI (c := 2) (k := 2) rfl rfl rfl (mF fc51 (by rfl))).trans (andR ?_)
      refine (G_Vv (q := 26675) (y := 52) (a := a0) (c := 3) rfl rfl rfl rfl (by decide) rfl (as := [.ref a0, .int (eI h (fR h a1 12) x2), .int (fI h a1 2)]) (rest := []) rfl rfl (mF fc51 (by rfl))).trans (andR (GoCv_congr fun h1 => ?_))
      exact Iff.rfl
theorem b51_77 {d : Nat} {h : mHeap} {Q : Option Value → mHeap → Prop} {a0 : Nat} {a1 : Nat} {x2 : Int32} : Go d 51 77 [some (.ref a0), some (.ref a1), some (.int x2)] [] h Q ↔ Go d 51 42 [some (.ref a0), some (.ref a1), some (.int (x2 + ii 1))] [] h Q := by
  refine (G_iinc (k := 2) (L' := [some (.ref a0), some (.ref a1), some (.int (x2 + ii 1))]) rfl rfl rfl (mF fc51 (by rfl))).trans ?_
  refine (G_goto (mF fc51 (by rfl))).trans ?_
  exact Iff.rfl
theorem e51 {d : Nat} {h : mHeap} {K : mHeap → Prop} {a0 : Nat} {a1 : Nat} : GoCv (d + 1) 51 [.ref a0, .ref a1] h K ↔ Go d 51 0 [some (.ref a0), some (.ref a1), none] [] h (rV K) := GoCv_entry rfl rfl
set_option maxRecDepth 20000 in
theorem fc52 : mCodes[52]? = some mc52 := rfl
theorem b52_0 {d : Nat} {h : mHeap} {Q : Option Value → mHeap → Prop} {a0 : Nat} {x1 : Int32} {x2 : Int32} : Go d 52 0 [some (.ref a0), some (.int x1), some (.int x2), none] [] h Q ↔ Go d 52 2 [some (.ref a0), some (.int x1), some (.int x2), some (.int (ii (-1)))] [] h Q := by
  refine (G_iconst (mF fc52 (by rfl))).trans ?_
  refine (G_istore (k := 3) (L' := [some (.ref a0), some (.int x1), some (.int x2), some (.int (ii (-1)))]) rfl (ltb rfl) rfl (mF fc52 (by rfl))).trans ?_
  exact Iff.rfl
theorem b52_2 {d : Nat} {h : mHeap} {Q : Option Value → mHeap → Prop} {a0 : Nat} {x1 : Int32} {x2 : Int32} {x3 : Int32} : Go d 52 2 [some (.ref a0), some (.int x1), some (.int x2), some (.int x3)] [] h Q ↔ (if x2 ≤ x3 then (Q none h) else (oC h a0 = 3 ∧ GoCr d 46 [.ref a0, .int x3] h (fun v1 h1 => oC h1 v1 = 10 ∧ GoCv d 124 [.ref v1, .int x1] h1 (fun h2 => Go d 52 2 [some (.ref a0), some (.int x1), some (.int x2), some (.int (x3 + ii 1))] [] h2 Q)))) := by
  refine (G_iload rfl (mF fc52 (by rfl))).trans ?_
  refine (G_iload rfl (mF fc52 (by rfl))).trans ?_
  refine (G_ige (mF fc52 (by rfl))).trans (gi ?_ ?_)
  ·
    exact G_return rfl (mF fc52 (by rfl))
  ·
    refine (G_aload rfl (mF fc52 (by rfl))).trans ?_
    refine (G_iload rfl (mF fc52 (by rfl))).trans ?_
    refine (G_Vr (q := 23602) (y := 46) (a := a0) (c := 3) rfl rfl rfl rfl (by decide) rfl (as := [.ref a0, .int x3]) (rest := []) rfl rfl (mF fc52 (by rfl))).trans (andR (GoCr_congr fun v1 h1 => ?_))
    refine (G_iload rfl (mF fc52 (by rfl))).trans ?_
    refine (G_Vv (q := 63650) (y := 124) (a := v1) (c := 10) rfl rfl rfl rfl (by decide) rfl (as := [.ref v1, .int x1]) (rest := []) rfl rfl (mF fc52 (by rfl))).trans (andR (GoCv_congr fun h2 => ?_))
    refine (G_iinc (k := 3) (L' := [some (.ref a0), some (.int x1), some (.int x2), some (.int (x3 + ii 1))]) rfl rfl rfl (mF fc52 (by rfl))).trans ?_
    refine (G_goto (mF fc52 (by rfl))).trans ?_
    exact Iff.rfl
theorem e52 {d : Nat} {h : mHeap} {K : mHeap → Prop} {a0 : Nat} {x1 : Int32} {x2 : Int32} : GoCv (d + 1) 52 [.ref a0, .int x1, .int x2] h K ↔ Go d 52 0 [some (.ref a0), some (.int x1), some (.int x2), none] [] h (rV K) := GoCv_entry rfl rfl
set_option maxRecDepth 20000 in
theorem fc53 : mCodes[53]? = some mc53 := rfl
theorem b53_0 {d : Nat} {h : mHeap} {Q : Option Value → mHeap → Prop} {a0 : Nat} : Go d 53 0 [some (.ref a0)] [] h Q ↔ 64 ≤ a0 ∧ (∃ h1 : mHeap, h1 = nO h 2 ∧ 64 ≤ h.length ∧ GoCv d 29 [.ref h.length] h1 (fun h2 => okP h2 a0 4 0 ∧ (∃ h3 : mHeap, h3 = nO (sF h2 a0 0 (.ref h.length)) 3 ∧ 64 ≤ ((sF h2 a0 0 (.ref h.length)).length) ∧ GoCv d 43 [.ref ((sF h2 a0 0 (.ref h.length)).length)] h3 (fun h4 => okP h4 a0 4 1 ∧ okN (ii 20) ∧ (∃ h5 : mHeap, h5 = nR (sF h4 a0 1 (.ref ((sF h2 a0 0 (.ref h.length)).length))) 3 (ii 20) ∧ okP h5 a0 4 2 ∧ okN (ii 10) ∧ (∃ h6 : mHeap, h6 = nA (sF h5 a0 2 (.ref ((sF h4 a0 1 (.ref ((sF h2 a0 0 (.ref h.length)).length))).length))) .int (ii 10) ∧ okP h6 a0 4 5 ∧ Q none (sF h6 a0 5 (.ref ((sF h5 a0 2 (.ref ((sF h4 a0 1 (.ref ((sF h2 a0 0 (.ref h.length)).length))).length))).length))))))))) := by
  refine (G_aload rfl (mF fc53 (by rfl))).trans ?_
  refine (G_objinit (Nat.le_of_ble_eq_true rfl) (mF fc53 (by rfl))).trans (andR ?_)
  refine (G_aload rfl (mF fc53 (by rfl))).trans ?_
  refine (G_new (mF fc53 (by rfl))).trans ?_
  refine (exN (A := fun x => Go d 53 8 [some (.ref a0)] [.ref h.length, .ref a0] x Q) (e := nO h 2) fun h1 => ?_)
  refine (G_dupr (mF fc53 (by rfl))).trans ?_
  refine (G_Nv (q := 14881) (y := 29) (a := h.length) rfl rfl rfl rfl (as := [.ref h.length]) (rest := [.ref h.length, .ref a0]) rfl rfl (mF fc53 (by rfl))).trans (andR (GoCv_congr fun h2 => ?_))
  refine (G_putT (c := 4) (k := 0) rfl rfl rfl (mF fc53 (by rfl))).trans (andR ?_)
  refine (G_aload rfl (mF fc53 (by rfl))).trans ?_
  refine (G_new (mF fc53 (by rfl))).trans ?_
  refine (exN (A := fun x => Go d 53 19 [some (.ref a0)] [.ref ((sF h2 a0 0 (.ref h.length)).length), .ref a0] x Q) (e := nO (sF h2 a0 0 (.ref h.length)) 3) fun h3 => ?_)
  refine (G_dupr (mF fc53 (by rfl))).trans ?_
  refine (G_Nv (q := 22065) (y := 43) (a := (sF h2 a0 0 (.ref h.length)).length) rfl rfl rfl rfl (as := [.ref ((sF h2 a0 0 (.ref h.length)).length)]) (rest := [.ref ((sF h2 a0 0 (.ref h.length)).length), .ref a0]) rfl rfl (mF fc53 (by rfl))).trans (andR (GoCv_congr fun h4 => ?_))
  refine (G_putT (c := 4) (k := 1) rfl rfl rfl (mF fc53 (by rfl))).trans (andR ?_)
  refine (G_aload rfl (mF fc53 (by rfl))).trans ?_
  refine (G_iconst (mF fc53 (by rfl))).trans ?_
  refine (G_anewarray rfl (mF fc53 (by rfl))).trans (andR ?_)
  refine (exN (A := fun x => Go d 53 32 [some (.ref a0)] [.ref ((sF h4 a0 1 (.ref ((sF h2 a0 0 (.ref h.length)).length))).length), .ref a0] x Q) (e := nR (sF h4 a0 1 (.ref ((sF h2 a0 0 (.ref h.length)).length))) 3 (ii 20)) fun h5 => ?_)
  refine (G_putT (c := 4) (k := 2) rfl rfl rfl (mF fc53 (by rfl))).trans (andR ?_)
  refine (G_aload rfl (mF fc53 (by rfl))).trans ?_
  refine (G_iconst (mF fc53 (by rfl))).trans ?_
  refine (G_newarrayI (mF fc53 (by rfl))).trans (andR ?_)
  refine (exN (A := fun x => Go d 53 40 [some (.ref a0)] [.ref ((sF h5 a0 2 (.ref ((sF h4 a0 1 (.ref ((sF h2 a0 0 (.ref h.length)).length))).length))).length), .ref a0] x Q) (e := nA (sF h5 a0 2 (.ref ((sF h4 a0 1 (.ref ((sF h2 a0 0 (.ref h.length)).length))).length))) .int (ii 10)) fun h6 => ?_)
  refine (G_putT (c := 4) (k := 5) rfl rfl rfl (mF fc53 (by rfl))).trans (andR ?_)
  exact G_return rfl (mF fc53 (by rfl))
theorem e53 {d : Nat} {h : mHeap} {K : mHeap → Prop} {a0 : Nat} : GoCv (d + 1) 53 [.ref a0] h K ↔ Go d 53 0 [some (.ref a0)] [] h (rV K) := GoCv_entry rfl rfl
set_option maxRecDepth 20000 in
theorem fc54 : mCodes[54]? = some mc54 := rfl
theorem b54_0 {d : Nat} {h : mHeap} {Q : Option Value → mHeap → Prop} {a0 : Nat} : Go d 54 0 [some (.ref a0)] [] h Q ↔ okF h a0 4 0 2 ∧ okF h (fR h a0 0) 2 0 0 ∧ (if (fI h (fR h a0 0) 0) ≤ ii 0 then (((ii 0) = ii 0 ∨ (ii 0) = ii 1) ∧ Q (some (.int (ii 0))) h) else (((ii 1) = ii 0 ∨ (ii 1) = ii 1) ∧ Q (some (.int (ii 1))) h)) := by
  refine (G_aload rfl (mF fc54 (by rfl))).trans ?_
  refine (G_getR (c := 4) (k := 0) rfl rfl rfl (mF fc54 (by rfl))).trans (andR ?_)
  refine (G_getI (c := 2) (k := 0) rfl rfl rfl (mF fc54 (by rfl))).trans (andR ?_)
  refine (G_le (mF fc54 (by rfl))).trans (gi ?_ ?_)
  ·
    refine (G_iconst (mF fc54 (by rfl))).trans ?_
    exact G_ireturnZ rfl (mF fc54 (by rfl))
  ·
    refine (G_iconst (mF fc54 (by rfl))).trans ?_
    refine (G_goto (mF fc54 (by rfl))).trans ?_
    exact G_ireturnZ rfl (mF fc54 (by rfl))
theorem e54 {d : Nat} {h : mHeap} {K : Int32 → mHeap → Prop} {a0 : Nat} : GoCi (d + 1) 54 [.ref a0] h K ↔ Go d 54 0 [some (.ref a0)] [] h (rI K) := GoCi_entry rfl rfl
set_option maxRecDepth 20000 in
theorem fc55 : mCodes[55]? = some mc55 := rfl
theorem b55_0 {d : Nat} {h : mHeap} {Q : Option Value → mHeap → Prop} {a0 : Nat} {a1 : Nat} : Go d 55 0 [some (.ref a0), some (.ref a1)] [] h Q ↔ okP h a0 4 0 ∧ okF (sF h a0 0 (.ref a1)) a0 4 1 2 ∧ oC (sF h a0 0 (.ref a1)) (fR (sF h a0 0 (.ref a1)) a0 1) = 3 ∧ GoCv d 45 [.ref (fR (sF h a0 0 (.ref a1)) a0 1), .ref a1] (sF h a0 0 (.ref a1)) (fun h1 => okP h1 a0 4 3 ∧ okP (sF h1 a0 3 (.int (ii 0))) a0 4 4 ∧ Q none (sF (sF h1 a0 3 (.int (ii 0))) a0 4 (.int (ii 0)))) := by
  refine (G_aload rfl (mF fc55 (by rfl))).trans ?_
  refine (G_aload rfl (mF fc55 (by rfl))).trans ?_
  refine (G_putT (c := 4) (k := 0) rfl rfl rfl (mF fc55 (by rfl))).trans (andR ?_)
  refine (G_aload rfl (mF fc55 (by rfl))).trans ?_
  refine (G_getR (c := 4) (k := 1) rfl rfl rfl (mF fc55 (by rfl))).trans (andR ?_)
  refine (G_aload rfl (mF fc55 (by rfl))).trans ?_
  refine (G_Vv (q := 23090) (y := 45) (a := fR (sF h a0 0 (.ref a1)) a0 1) (c := 3) rfl rfl rfl rfl (by decide) rfl (as := [.ref (fR (sF h a0 0 (.ref a1)) a0 1), .ref a1]) (rest := []) rfl rfl (mF fc55 (by rfl))).trans (andR (GoCv_congr fun h1 => ?_))
  refine (G_aload rfl (mF fc55 (by rfl))).trans ?_
  refine (G_iconst (mF fc55 (by rfl))).trans ?_
  refine (G_putT (c := 4) (k := 3) rfl rfl rfl (mF fc55 (by rfl))).trans (andR ?_)
  refine (G_aload rfl (mF fc55 (by rfl))).trans ?_
  refine (G_iconst (mF fc55 (by rfl))).trans ?_
  refine (G_putT (c := 4) (k := 4) rfl rfl rfl (mF fc55 (by rfl))).trans (andR ?_)
  exact G_return rfl (mF fc55 (by rfl))
theorem e55 {d : Nat} {h : mHeap} {K : mHeap → Prop} {a0 : Nat} {a1 : Nat} : GoCv (d + 1) 55 [.ref a0, .ref a1] h K ↔ Go d 55 0 [some (.ref a0), some (.ref a1)] [] h (rV K) := GoCv_entry rfl rfl
set_option maxRecDepth 20000 in
theorem fc56 : mCodes[56]? = some mc56 := rfl
theorem b56_0 {d : Nat} {h : mHeap} {Q : Option Value → mHeap → Prop} {a0 : Nat} {a1 : Nat} : Go d 56 0 [some (.ref a0), some (.ref a1), none] [] h Q ↔ okF h a1 4 0 2 ∧ okP h a0 4 0 ∧ okF (sF h a0 0 (.ref (fR h a1 0))) a0 4 1 2 ∧ okF (sF h a0 0 (.ref (fR h a1 0))) a1 4 1 2 ∧ oC (sF h a0 0 (.ref (fR h a1 0))) (fR (sF h a0 0 (.ref (fR h a1 0))) a0 1) = 3 ∧ GoCv d 44 [.ref (fR (sF h a0 0 (.ref (fR h a1 0))) a0 1), .ref (fR (sF h a0 0 (.ref (fR h a1 0))) a1 1)] (sF h a0 0 (.ref (fR h a1 0))) (fun h1 => okF h1 a1 4 3 0 ∧ okP h1 a0 4 3 ∧ Go d 56 29 [some (.ref a0), some (.ref a1), some (.int (ii 0))] [] (sF h1 a0 3 (.int (fI h1 a1 3))) Q) := by
  refine (G_aload rfl (mF fc56 (by rfl))).trans ?_
  refine (G_aload rfl (mF fc56 (by rfl))).trans ?_
  refine (G_getR (c := 4) (k := 0) rfl rfl rfl (mF fc56 (by rfl))).trans (andR ?_)
  refine (G_putT (c := 4) (k := 0) rfl rfl rfl (mF fc56 (by rfl))).trans (andR ?_)
  refine (G_aload rfl (mF fc56 (by rfl))).trans ?_
  refine (G_getR (c := 4) (k := 1) rfl rfl rfl (mF fc56 (by rfl))).trans (andR ?_)
  refine (G_aload rfl (mF fc56 (by rfl))).trans ?_
  refine (G_getR (c := 4) (k := 1) rfl rfl rfl (mF fc56 (by rfl))).trans (andR ?_)
  refine (G_Vv (q := 22578) (y := 44) (a := fR (sF h a0 0 (.ref (fR h a1 0))) a0 1) (c := 3) rfl rfl rfl rfl (by decide) rfl (as := [.ref (fR (sF h a0 0 (.ref (fR h a1 0))) a0 1), .ref (fR (sF h a0 0 (.ref (fR h a1 0))) a1 1)]) (rest := []) rfl rfl (mF fc56 (by rfl))).trans (andR (GoCv_congr fun h1 => ?_))
  refine (G_aload rfl (mF fc56 (by rfl))).trans ?_
  refine (G_aload rfl (mF fc56 (by rfl))).trans ?_
  refine (G_getI (c := 4) (k := 3) rfl rfl rfl (mF fc56 (by rfl))).trans (andR ?_)
  refine (G_putT (c := 4) (k := 3) rfl rfl rfl (mF fc56 (by rfl))).trans (andR ?_)
  refine (G_iconst (mF fc56 (by rfl))).trans ?_
  refine (G_istore (k := 2) (L' := [some (.ref a0), some (.ref a1), some (.int (ii 0))]) rfl (ltb rfl) rfl (mF fc56 (by rfl))).trans ?_
  exact Iff.rfl
theorem b56_29 {d : Nat} {h : mHeap} {Q : Option Value → mHeap → Prop} {a0 : Nat} {a1 : Nat} {x2 : Int32} : Go d 56 29 [some (.ref a0), some (.ref a1), some (.int x2)] [] h Q ↔ okF h a0 4 3 0 ∧ (if (fI h a0 3) ≤ x2 then (okF h a1 4 4 0 ∧ okP h a0 4 4 ∧ Go d 56 64 [some (.ref a0), some (.ref a1), some (.int (ii 0))] [] (sF h a0 4 (.int (fI h a1 4))) Q) else (okF h a1 4 2 2 ∧ okR h (fR h a1 2) x2 ∧ oC h a0 = 4 ∧ GoCv d 59 [.ref a0, .int x2, .ref (eR h (fR h a1 2) x2)] h (fun h1 => Go d 56 29 [some (.ref a0), some (.ref a1), some (.int (x2 + ii 1))] [] h1 Q))) := by
  refine (G_iload rfl (mF fc56 (by rfl))).trans ?_
  refine (G_aload rfl (mF fc56 (by rfl))).trans ?_
  refine (G_getI (c := 4) (k := 3) rfl rfl rfl (mF fc56 (by rfl))).trans (andR ?_)
  refine (G_ige (mF fc56 (by rfl))).trans (gi ?_ ?_)
  ·
    refine (G_aload rfl (mF fc56 (by rfl))).trans ?_
    refine (G_aload rfl (mF fc56 (by rfl))).trans ?_
    refine (G_getI (c := 4) (k := 4) rfl rfl rfl (mF fc56 (by rfl))).trans (andR ?_)
    refine (G_putT (c := 4) (k := 4) rfl rfl rfl (mF fc56 (by rfl))).trans (andR ?_)
    refine (G_iconst (mF fc56 (by rfl))).trans ?_
    refine (G_istore (k := 2) (L' := [some (.ref a0), some (.ref a1), some (.int (ii 0))]) rfl (ltb rfl) rfl (mF fc56 (by rfl))).trans ?_
    exact Iff.rfl
  ·
    refine (G_aload rfl (mF fc56 (by rfl))).trans ?_
    refine (G_iload rfl (mF fc56 (by rfl))).trans ?_
    refine (G_aload rfl (mF fc56 (by rfl))).trans ?_
    refine (G_getR (c := 4) (k := 2) rfl rfl rfl (mF fc56 (by rfl))).trans (andR ?_)
    refine (G_iload rfl (mF fc56 (by rfl))).trans ?_
    refine (G_aaloadR rfl (mF fc56 (by rfl))).trans (andR ?_)
    refine (G_Vv (q := 30275) (y := 59) (a := a0) (c := 4) rfl rfl rfl rfl (by decide) rfl (as := [.ref a0, .int x2, .ref (eR h (fR h a1 2) x2)]) (rest := []) rfl rfl (mF fc56 (by rfl))).trans (andR (GoCv_congr fun h1 => ?_))
    refine (G_iinc (k := 2) (L' := [some (.ref a0), some (.ref a1), some (.int (x2 + ii 1))]) rfl rfl rfl (mF fc56 (by rfl))).trans ?_
    refine (G_goto (mF fc56 (by rfl))).trans ?_
    exact Iff.rfl
theorem b56_64 {d : Nat} {h : mHeap} {Q : Option Value → mHeap → Prop} {a0 : Nat} {a1 : Nat} {x2 : Int32} : Go d 56 64 [some (.ref a0), some (.ref a1), some (.int x2)] [] h Q ↔ okF h a0 4 4 0 ∧ (if (fI h a0 4) ≤ x2 then (okF h a1 4 6 0 ∧ okP h a0 4 6 ∧ okF (sF h a0 6 (.int (fI h a1 6))) a1 4 7 0 ∧ okP (sF h a0 6 (.int (fI h a1 6))) a0 4 7 ∧ Q none (sF (sF h a0 6 (.int (fI h a1 6))) a0 7 (.int (fI (sF h a0 6 (.int (fI h a1 6))) a1 7)))) else (okF h a0 4 5 2 ∧ okF h a1 4 5 2 ∧ okA h (fR h a1 5) .int x2 ∧ (64 ≤ (fR h a0 5) ∧ okA h (fR h a0 5) .int x2) ∧ Go d 56 64 [some (.ref a0), some (.ref a1), some (.int (x2 + ii 1))] [] (sI h (fR h a0 5) x2 (eI h (fR h a1 5) x2)) Q)) := by
  refine (G_iload rfl (mF fc56 (by rfl))).trans ?_
  refine (G_aload rfl (mF fc56 (by rfl))).trans ?_
  refine (G_getI (c := 4) (k := 4) rfl rfl rfl (mF fc56 (by rfl))).trans (andR ?_)
  refine (G_ige (mF fc56 (by rfl))).trans (gi ?_ ?_)
  ·
    refine (G_aload rfl (mF fc56 (by rfl))).trans ?_
    refine (G_aload rfl (mF fc56 (by rfl))).trans ?_
    refine (G_getI (c := 4) (k := 6) rfl rfl rfl (mF fc56 (by rfl))).trans (andR ?_)
    refine (G_putT (c := 4) (k := 6) rfl rfl rfl (mF fc56 (by rfl))).trans (andR ?_)
    refine (G_aload rfl (mF fc56 (by rfl))).trans ?_
    refine (G_aload rfl (mF fc56 (by rfl))).trans ?_
    refine (G_getI (c := 4) (k := 7) rfl rfl rfl (mF fc56 (by rfl))).trans (andR ?_)
    refine (G_putT (c := 4) (k := 7) rfl rfl rfl (mF fc56 (by rfl))).trans (andR ?_)
    exact G_return rfl (mF fc56 (by rfl))
  ·
    refine (G_aload rfl (mF fc56 (by rfl))).trans ?_
    refine (G_getR (c := 4) (k := 5) rfl rfl rfl (mF fc56 (by rfl))).trans (andR ?_)
    refine (G_iload rfl (mF fc56 (by rfl))).trans ?_
    refine (G_aload rfl (mF fc56 (by rfl))).trans ?_
    refine (G_getR (c := 4) (k := 5) rfl rfl rfl (mF fc56 (by rfl))).trans (andR ?_)
    refine (G_iload rfl (mF fc56 (by rfl))).trans ?_
    refine (G_iaload (mF fc56 (by rfl))).trans (andR ?_)
    refine (G_iastore (mF fc56 (by rfl))).trans (andR ?_)
    refine (G_iinc (k := 2) (L' := [some (.ref a0), some (.ref a1), some (.int (x2 + ii 1))]) rfl rfl rfl (mF fc56 (by rfl))).trans ?_
    refine (G_goto (mF fc56 (by rfl))).trans ?_
    exact Iff.rfl
theorem e56 {d : Nat} {h : mHeap} {K : mHeap → Prop} {a0 : Nat} {a1 : Nat} : GoCv (d + 1) 56 [.ref a0, .ref a1] h K ↔ Go d 56 0 [some (.ref a0), some (.ref a1), none] [] h (rV K) := GoCv_entry rfl rfl
set_option maxRecDepth 20000 in
theorem fc57 : mCodes[57]? = some mc57 := rfl
theorem b57_0 {d : Nat} {h : mHeap} {Q : Option Value → mHeap → Prop} {a0 : Nat} : Go d 57 0 [some (.ref a0)] [] h Q ↔ okF h a0 4 3 0 ∧ (if ¬ (fI h a0 3) = (ii 20) then (Go d 57 13 [some (.ref a0)] [] h Q) else (oC h a0 = 4 ∧ GoCv d 58 [.ref a0] h (fun h1 => Go d 57 13 [some (.ref a0)] [] h1 Q))) := by
  refine (G_aload rfl (mF fc57 (by rfl))).trans ?_
  refine (G_getI (c := 4) (k := 3) rfl rfl rfl (mF fc57 (by rfl))).trans (andR ?_)
  refine (G_iconst (mF fc57 (by rfl))).trans ?_
  refine (G_ine (mF fc57 (by rfl))).trans (gi ?_ ?_)
  ·
    exact Iff.rfl
  ·
    refine (G_aload rfl (mF fc57 (by rfl))).trans ?_
    refine (G_Vv (q := 29761) (y := 58) (a := a0) (c := 4) rfl rfl rfl rfl (by decide) rfl (as := [.ref a0]) (rest := []) rfl rfl (mF fc57 (by rfl))).trans (andR (GoCv_congr fun h1 => ?_))
    exact Iff.rfl
theorem b57_13 {d : Nat} {h : mHeap} {Q : Option Value → mHeap → Prop} {a0 : Nat} : Go d 57 13 [some (.ref a0)] [] h Q ↔ okF h a0 4 3 0 ∧ okF h a0 4 1 2 ∧ oC h a0 = 4 ∧ GoCv d 59 [.ref a0, .int (fI h a0 3), .ref (fR h a0 1)] h (fun h1 => okF h1 a0 4 3 0 ∧ okP h1 a0 4 3 ∧ Q none (sF h1 a0 3 (.int ((fI h1 a0 3) + (ii 1))))) := by
  refine (G_aload rfl (mF fc57 (by rfl))).trans ?_
  refine (G_aload rfl (mF fc57 (by rfl))).trans ?_
  refine (G_getI (c := 4) (k := 3) rfl rfl rfl (mF fc57 (by rfl))).trans (andR ?_)
  refine (G_aload rfl (mF fc57 (by rfl))).trans ?_
  refine (G_getR (c := 4) (k := 1) rfl rfl rfl (mF fc57 (by rfl))).trans (andR ?_)
  refine (G_Vv (q := 30275) (y := 59) (a := a0) (c := 4) rfl rfl rfl rfl (by decide) rfl (as := [.ref a0, .int (fI h a0 3), .ref (fR h a0 1)]) (rest := []) rfl rfl (mF fc57 (by rfl))).trans (andR (GoCv_congr fun h1 => ?_))
  refine (G_aload rfl (mF fc57 (by rfl))).trans ?_
  refine (G_dupr (mF fc57 (by rfl))).trans ?_
  refine (G_getI (c := 4) (k := 3) rfl rfl rfl (mF fc57 (by rfl))).trans (andR ?_)
  refine (G_iconst (mF fc57 (by rfl))).trans ?_
  refine (G_iadd (mF fc57 (by rfl))).trans ?_
  refine (G_putT (c := 4) (k := 3) rfl rfl rfl (mF fc57 (by rfl))).trans (andR ?_)
  exact G_return rfl (mF fc57 (by rfl))
theorem e57 {d : Nat} {h : mHeap} {K : mHeap → Prop} {a0 : Nat} : GoCv (d + 1) 57 [.ref a0] h K ↔ Go d 57 0 [some (.ref a0)] [] h (rV K) := GoCv_entry rfl rfl
set_option maxRecDepth 20000 in
theorem fc58 : mCodes[58]? = some mc58 := rfl
theorem b58_0 {d : Nat} {h : mHeap} {Q : Option Value → mHeap → Prop} {a0 : Nat} : Go d 58 0 [some (.ref a0), none, none] [] h Q ↔ okF h a0 4 2 2 ∧ okR h (fR h a0 2) (ii 0) ∧ Go d 58 9 [some (.ref a0), some (.ref (eR h (fR h a0 2) (ii 0))), some (.int (ii 1))] [] h Q := by
  refine (G_aload rfl (mF fc58 (by rfl))).trans ?_
  refine (G_getR (c := 4) (k := 2) rfl rfl rfl (mF fc58 (by rfl))).trans (andR ?_)
  refine (G_iconst (mF fc58 (by rfl))).trans ?_
  refine (G_aaloadR rfl (mF fc58 (by rfl))).trans (andR ?_)
  refine (G_astore (k := 1) (L' := [some (.ref a0), some (.ref (eR h (fR h a0 2) (ii 0))), none]) rfl (ltb rfl) rfl (mF fc58 (by rfl))).trans ?_
  refine (G_iconst (mF fc58 (by rfl))).trans ?_
  refine (G_istore (k := 2) (L' := [some (.ref a0), some (.ref (eR h (fR h a0 2) (ii 0))), some (.int (ii 1))]) rfl (ltb rfl) rfl (mF fc58 (by rfl))).trans ?_
  exact Iff.rfl
theorem b58_9 {d : Nat} {h : mHeap} {Q : Option Value → mHeap → Prop} {a0 : Nat} {a1 : Nat} {x2 : Int32} : Go d 58 9 [some (.ref a0), some (.ref a1), some (.int x2)] [] h Q ↔ (if (ii 20) ≤ x2 then (okF h a0 4 2 2 ∧ okS h (fR h a0 2) (ii 19) a1 ∧ okF (sR h (fR h a0 2) (ii 19) a1) a0 4 3 0 ∧ okP (sR h (fR h a0 2) (ii 19) a1) a0 4 3 ∧ Q none (sF (sR h (fR h a0 2) (ii 19) a1) a0 3 (.int ((fI (sR h (fR h a0 2) (ii 19) a1) a0 3) - (ii 1))))) else (okF h a0 4 2 2 ∧ okF h a0 4 2 2 ∧ okR h (fR h a0 2) x2 ∧ okS h (fR h a0 2) (x2 - (ii 1)) (eR h (fR h a0 2) x2) ∧ Go d 58 9 [some (.ref a0), some (.ref a1), some (.int (x2 + ii 1))] [] (sR h (fR h a0 2) (x2 - (ii 1)) (eR h (fR h a0 2) x2)) Q)) := by
  refine (G_iload rfl (mF fc58 (by rfl))).trans ?_
  refine (G_iconst (mF fc58 (by rfl))).trans ?_
  refine (G_ige (mF fc58 (by rfl))).trans (gi ?_ ?_)
  ·
    refine (G_aload rfl (mF fc58 (by rfl))).trans ?_
    refine (G_getR (c := 4) (k := 2) rfl rfl rfl (mF fc58 (by rfl))).trans (andR ?_)
    refine (G_iconst (mF fc58 (by rfl))).trans ?_
    refine (G_aload rfl (mF fc58 (by rfl))).trans ?_
    refine (G_aastore (mF fc58 (by rfl))).trans (andR ?_)
    refine (G_aload rfl (mF fc58 (by rfl))).trans ?_
    refine (G_dupr (mF fc58 (by rfl))).trans ?_
    refine (G_getI (c := 4) (k := 3) rfl rfl rfl (mF fc58 (by rfl))).trans (andR ?_)
    refine (G_iconst (mF fc58 (by rfl))).trans ?_
    refine (G_isub (mF fc58 (by rfl))).trans ?_
    refine (G_putT (c := 4) (k := 3) rfl rfl rfl (mF fc58 (by rfl))).trans (andR ?_)
    exact G_return rfl (mF fc58 (by rfl))
  ·
    refine (G_aload rfl (mF fc58 (by rfl))).trans ?_
    refine (G_getR (c := 4) (k := 2) rfl rfl rfl (mF fc58 (by rfl))).trans (andR ?_)
    refine (G_iload rfl (mF fc58 (by rfl))).trans ?_
    refine (G_iconst (mF fc58 (by rfl))).trans ?_
    refine (G_isub (mF fc58 (by rfl))).trans ?_
    refine (G_aload rfl (mF fc58 (by rfl))).trans ?_
    refine (G_getR (c := 4) (k := 2) rfl rfl rfl (mF fc58 (by rfl))).trans (andR ?_)
    refine (G_iload rfl (mF fc58 (by rfl))).trans ?_
    refine (G_aaloadR rfl (mF fc58 (by rfl))).trans (andR ?_)
    refine (G_aastore (mF fc58 (by rfl))).trans (andR ?_)
    refine (G_iinc (k := 2) (L' := [some (.ref a0), some (.ref a1), some (.int (x2 + ii 1))]) rfl rfl rfl (mF fc58 (by rfl))).trans ?_
    refine (G_goto (mF fc58 (by rfl))).trans ?_
    exact Iff.rfl
theorem e58 {d : Nat} {h : mHeap} {K : mHeap → Prop} {a0 : Nat} : GoCv (d + 1) 58 [.ref a0] h K ↔ Go d 58 0 [some (.ref a0), none, none] [] h (rV K) := GoCv_entry rfl rfl
set_option maxRecDepth 20000 in
theorem fc59 : mCodes[59]? = some mc59 := rfl
theorem b59_0 {d : Nat} {h : mHeap} {Q : Option Value → mHeap → Prop} {a0 : Nat} {x1 : Int32} {a2 : Nat} : Go d 59 0 [some (.ref a0), some (.int x1), some (.ref a2), none] [] h Q ↔ 64 ≤ a2 ∧ okF h a0 4 2 2 ∧ ((nuR h (fR h a0 2) x1 ∧ (∃ h1 : mHeap, h1 = nO h 3 ∧ 64 ≤ h.length ∧ GoCv d 43 [.ref h.length] h1 (fun h2 => okF h2 a0 4 2 2 ∧ okS h2 (fR h2 a0 2) x1 h.length ∧ Go d 59 31 [some (.ref a0), some (.int x1), some (.ref a2), some (.ref h.length)] [] (sR h2 (fR h2 a0 2) x1 h.length) Q))) ∨ (okR h (fR h a0 2) x1 ∧ 64 ≤ (eR h (fR h a0 2) x1) ∧ Go d 59 31 [some (.ref a0), some (.int x1), some (.ref a2), some (.ref (eR h (fR h a0 2) x1))] [] h Q)) := by
  refine (G_aload rfl (mF fc59 (by rfl))).trans ?_
  refine (G_ifnonnullr (mF fc59 (by rfl))).trans (andR ?_)
  refine (G_aload rfl (mF fc59 (by rfl))).trans ?_
  refine (G_getR (c := 4) (k := 2) rfl rfl rfl (mF fc59 (by rfl))).trans (andR ?_)
  refine (G_iload rfl (mF fc59 (by rfl))).trans ?_
  refine (G_aaload rfl (mF fc59 (by rfl))).trans (or_congr (andR ?_) (andR ?_))
  ·
    refine (G_astoren (k := 3) (L' := [some (.ref a0), some (.int x1), some (.ref a2), some .null]) rfl (ltb rfl) rfl (mF fc59 (by rfl))).trans ?_
    refine (G_aloadn rfl (mF fc59 (by rfl))).trans ?_
    refine (G_ifnonnulln (mF fc59 (by rfl))).trans ?_
    refine (G_new (mF fc59 (by rfl))).trans ?_
    refine (exN (A := fun x => Go d 59 19 [some (.ref a0), some (.int x1), some (.ref a2), some .null] [.ref h.length] x Q) (e := nO h 3) fun h1 => ?_)
    refine (G_dupr (mF fc59 (by rfl))).trans ?_
    refine (G_Nv (q := 22065) (y := 43) (a := h.length) rfl rfl rfl rfl (as := [.ref h.length]) (rest := [.ref h.length]) rfl rfl (mF fc59 (by rfl))).trans (andR (GoCv_congr fun h2 => ?_))
    refine (G_astore (k := 3) (L' := [some (.ref a0), some (.int x1), some (.ref a2), some (.ref h.length)]) rfl (ltb rfl) rfl (mF fc59 (by rfl))).trans ?_
    refine (G_aload rfl (mF fc59 (by rfl))).trans ?_
    refine (G_getR (c := 4) (k := 2) rfl rfl rfl (mF fc59 (by rfl))).trans (andR ?_)
    refine (G_iload rfl (mF fc59 (by rfl))).trans ?_
    refine (G_aload rfl (mF fc59 (by rfl))).trans ?_
    refine (G_aastore (mF fc59 (by rfl))).trans (andR ?_)
    exact Iff.rfl
  ·
    refine (G_astore (k := 3) (L' := [some (.ref a0), some (.int x1), some (.ref a2), some (.ref (eR h (fR h a0 2) x1))]) rfl (ltb rfl) rfl (mF fc59 (by rfl))).trans ?_
    refine (G_aload rfl (mF fc59 (by rfl))).trans ?_
    refine (G_ifnonnullr (mF fc59 (by rfl))).trans (andR ?_)
    exact Iff.rfl
theorem b59_31 {d : Nat} {h : mHeap} {Q : Option Value → mHeap → Prop} {l0 : Option Value} {l1 : Option Value} {a2 : Nat} {a3 : Nat} : Go d 59 31 [l0, l1, some (.ref a2), some (.ref a3)] [] h Q ↔ oC h a3 = 3 ∧ GoCv d 44 [.ref a3, .ref a2] h (fun h1 => Q none h1) := by
  refine (G_aload rfl (mF fc59 (by rfl))).trans ?_
  refine (G_aload rfl (mF fc59 (by rfl))).trans ?_
  refine (G_Vv (q := 22578) (y := 44) (a := a3) (c := 3) rfl rfl rfl rfl (by decide) rfl (as := [.ref a3, .ref a2]) (rest := []) rfl rfl (mF fc59 (by rfl))).trans (andR (GoCv_congr fun h1 => ?_))
  exact G_return rfl (mF fc59 (by rfl))
theorem e59 {d : Nat} {h : mHeap} {K : mHeap → Prop} {a0 : Nat} {x1 : Int32} {a2 : Nat} : GoCv (d + 1) 59 [.ref a0, .int x1, .ref a2] h K ↔ Go d 59 0 [some (.ref a0), some (.int x1), some (.ref a2), none] [] h (rV K) := GoCv_entry rfl rfl
set_option maxRecDepth 20000 in
theorem fc60 : mCodes[60]? = some mc60 := rfl
theorem b60_0 {d : Nat} {h : mHeap} {Q : Option Value → mHeap → Prop} {a0 : Nat} : Go d 60 0 [some (.ref a0), none] [] h Q ↔ okF h a0 4 3 0 ∧ (if ¬ (fI h a0 3) = ii 0 then (okF h a0 4 3 0 ∧ okP h a0 4 3 ∧ okF (sF h a0 3 (.int ((fI h a0 3) - (ii 1)))) a0 4 2 2 ∧ okF (sF h a0 3 (.int ((fI h a0 3) - (ii 1)))) a0 4 3 0 ∧ ((nuR (sF h a0 3 (.int ((fI h a0 3) - (ii 1)))) (fR (sF h a0 3 (.int ((fI h a0 3) - (ii 1)))) a0 2) (fI (sF h a0 3 (.int ((fI h a0 3) - (ii 1)))) a0 3) ∧ okF (sF h a0 3 (.int ((fI h a0 3) - (ii 1)))) a0 4 3 0 ∧ Q (some (.int (fI (sF h a0 3 (.int ((fI h a0 3) - (ii 1)))) a0 3))) (sF h a0 3 (.int ((fI h a0 3) - (ii 1))))) ∨ (okR (sF h a0 3 (.int ((fI h a0 3) - (ii 1)))) (fR (sF h a0 3 (.int ((fI h a0 3) - (ii 1)))) a0 2) (fI (sF h a0 3 (.int ((fI h a0 3) - (ii 1)))) a0 3) ∧ 64 ≤ (eR (sF h a0 3 (.int ((fI h a0 3) - (ii 1)))) (fR (sF h a0 3 (.int ((fI h a0 3) - (ii 1)))) a0 2) (fI (sF h a0 3 (.int ((fI h a0 3) - (ii 1)))) a0 3)) ∧ okF (sF h a0 3 (.int ((fI h a0 3) - (ii 1)))) a0 4 1 2 ∧ oC (sF h a0 3 (.int ((fI h a0 3) - (ii 1)))) (fR (sF h a0 3 (.int ((fI h a0 3) - (ii 1)))) a0 1) = 3 ∧ GoCv d 44 [.ref (fR (sF h a0 3 (.int ((fI h a0 3) - (ii 1)))) a0 1), .ref (eR (sF h a0 3 (.int ((fI h a0 3) - (ii 1)))) (fR (sF h a0 3 (.int ((fI h a0 3) - (ii 1)))) a0 2) (fI (sF h a0 3 (.int ((fI h a0 3) - (ii 1)))) a0 3))] (sF h a0 3 (.int ((fI h a0 3) - (ii 1)))) (fun h1 => okF h1 a0 4 3 0 ∧ Q (some (.int (fI h1 a0 3))) h1)))) else (Q (some (.int (ii (-2)))) h)) := by
  refine (G_aload rfl (mF fc60 (by rfl))).trans ?_
  refine (G_getI (c := 4) (k := 3) rfl rfl rfl (mF fc60 (by rfl))).trans (andR ?_)
  refine (G_ne (mF fc60 (by rfl))).trans (gi ?_ ?_)
  ·
    refine (G_aload rfl (mF fc60 (by rfl))).trans ?_
    refine (G_dupr (mF fc60 (by rfl))).trans ?_
    refine (G_getI (c := 4) (k := 3) rfl rfl rfl (mF fc60 (by rfl))).trans (andR ?_)
    refine (G_iconst (mF fc60 (by rfl))).trans ?_
    refine (G_isub (mF fc60 (by rfl))).trans ?_
    refine (G_putT (c := 4) (k := 3) rfl rfl rfl (mF fc60 (by rfl))).trans (andR ?_)
    refine (G_aload rfl (mF fc60 (by rfl))).trans ?_
    refine (G_getR (c := 4) (k := 2) rfl rfl rfl (mF fc60 (by rfl))).trans (andR ?_)
    refine (G_aload rfl (mF fc60 (by rfl))).trans ?_
    refine (G_getI (c := 4) (k := 3) rfl rfl rfl (mF fc60 (by rfl))).trans (andR ?_)
    refine (G_aaload rfl (mF fc60 (by rfl))).trans (or_congr (andR ?_) (andR ?_))
    ·
      refine (G_astoren (k := 1) (L' := [some (.ref a0), some .null]) rfl (ltb rfl) rfl (mF fc60 (by rfl))).trans ?_
      refine (G_aloadn rfl (mF fc60 (by rfl))).trans ?_
      refine (G_ifnulln (mF fc60 (by rfl))).trans ?_
      refine (G_aload rfl (mF fc60 (by rfl))).trans ?_
      refine (G_getI (c := 4) (k := 3) rfl rfl rfl (mF fc60 (by rfl))).trans (andR ?_)
      exact G_ireturnI rfl (mF fc60 (by rfl))
    ·
      refine (G_astore (k := 1) (L' := [some (.ref a0), some (.ref (eR (sF h a0 3 (.int ((fI h a0 3) - (ii 1)))) (fR (sF h a0 3 (.int ((fI h a0 3) - (ii 1)))) a0 2) (fI (sF h a0 3 (.int ((fI h a0 3) - (ii 1)))) a0 3)))]) rfl (ltb rfl) rfl (mF fc60 (by rfl))).trans ?_
      refine (G_aload rfl (mF fc60 (by rfl))).trans ?_
      refine (G_ifnullr (mF fc60 (by rfl))).trans (andR ?_)
      refine (G_aload rfl (mF fc60 (by rfl))).trans ?_
      refine (G_getR (c := 4) (k := 1) rfl rfl rfl (mF fc60 (by rfl))).trans (andR ?_)
      refine (G_aload rfl (mF fc60 (by rfl))).trans ?_
      refine (G_Vv (q := 22578) (y := 44) (a := fR (sF h a0 3 (.int ((fI h a0 3) - (ii 1)))) a0 1) (c := 3) rfl rfl rfl rfl (by decide) rfl (as := [.ref (fR (sF h a0 3 (.int ((fI h a0 3) - (ii 1)))) a0 1), .ref (eR (sF h a0 3 (.int ((fI h a0 3) - (ii 1)))) (fR (sF h a0 3 (.int ((fI h a0 3) - (ii 1)))) a0 2) (fI (sF h a0 3 (.int ((fI h a0 3) - (ii 1)))) a0 3))]) (rest := []) rfl rfl (mF fc60 (by rfl))).trans (andR (GoCv_congr fun h1 => ?_))
      refine (G_aload rfl (mF fc60 (by rfl))).trans ?_
      refine (G_getI (c := 4) (k := 3) rfl rfl rfl (mF fc60 (by rfl))).trans (andR ?_)
      exact G_ireturnI rfl (mF fc60 (by rfl))
  ·
    refine (G_iconst (mF fc60 (by rfl))).trans ?_
    exact G_ireturnI rfl (mF fc60 (by rfl))
theorem e60 {d : Nat} {h : mHeap} {K : Int32 → mHeap → Prop} {a0 : Nat} : GoCi (d + 1) 60 [.ref a0] h K ↔ Go d 60 0 [some (.ref a0), none] [] h (rI K) := GoCi_entry rfl rfl
set_option maxRecDepth 20000 in
theorem fc61 : mCodes[61]? = some mc61 := rfl
theorem b61_0 {d : Nat} {h : mHeap} {Q : Option Value → mHeap → Prop} {a0 : Nat} {x1 : Int32} {x2 : Int32} : Go d 61 0 [some (.ref a0), some (.int x1), some (.int x2)] [] h Q ↔ okF h a0 4 5 2 ∧ okF h a0 4 4 0 ∧ (64 ≤ (fR h a0 5) ∧ okA h (fR h a0 5) .int (fI h a0 4)) ∧ okF (sI h (fR h a0 5) (fI h a0 4) x1) a0 4 6 0 ∧ okF (sI h (fR h a0 5) (fI h a0 4) x1) a0 4 4 0 ∧ okP (sI h (fR h a0 5) (fI h a0 4) x1) a0 4 6 ∧ (if x2 = ii 0 then (okF (sF (sI h (fR h a0 5) (fI h a0 4) x1) a0 6 (.int ((fI (sI h (fR h a0 5) (fI h a0 4) x1) a0 6) &&& ((shl (ii 1) (fI (sI h (fR h a0 5) (fI h a0 4) x1) a0 4)) ^^^ (ii (-1)))))) a0 4 4 0 ∧ okP (sF (sI h (fR h a0 5) (fI h a0 4) x1) a0 6 (.int ((fI (sI h (fR h a0 5) (fI h a0 4) x1) a0 6) &&& ((shl (ii 1) (fI (sI h (fR h a0 5) (fI h a0 4) x1) a0 4)) ^^^ (ii (-1)))))) a0 4 4 ∧ Q none (sF (sF (sI h (fR h a0 5) (fI h a0 4) x1) a0 6 (.int ((fI (sI h (fR h a0 5) (fI h a0 4) x1) a0 6) &&& ((shl (ii 1) (fI (sI h (fR h a0 5) (fI h a0 4) x1) a0 4)) ^^^ (ii (-1)))))) a0 4 (.int ((fI (sF (sI h (fR h a0 5) (fI h a0 4) x1) a0 6 (.int ((fI (sI h (fR h a0 5) (fI h a0 4) x1) a0 6) &&& ((shl (ii 1) (fI (sI h (fR h a0 5) (fI h a0 4) x1) a0 4)) ^^^ (ii (-1)))))) a0 4) + (ii 1))))) else (okF (sF (sI h (fR h a0 5) (fI h a0 4) x1) a0 6 (.int ((fI (sI h (fR h a0 5) (fI h a0 4) x1) a0 6) &&& ((shl (ii 1) (fI (sI h (fR h a0 5) (fI h a0 4) x1) a0 4)) ^^^ (ii (-1)))))) a0 4 6 0 ∧ okF (sF (sI h (fR h a0 5) (fI h a0 4) x1) a0 6 (.int ((fI (sI h (fR h a0 5) (fI h a0 4) x1) a0 6) &&& ((shl (ii 1) (fI (sI h (fR h a0 5) (fI h a0 4) x1) a0 4)) ^^^ (ii (-1)))))) a0 4 4 0 ∧ okP (sF (sI h (fR h a0 5) (fI h a0 4) x1) a0 6 (.int ((fI (sI h (fR h a0 5) (fI h a0 4) x1) a0 6) &&& ((shl (ii 1) (fI (sI h (fR h a0 5) (fI h a0 4) x1) a0 4)) ^^^ (ii (-1)))))) a0 4 6 ∧ okF (sF (sF (sI h (fR h a0 5) (fI h a0 4) x1) a0 6 (.int ((fI (sI h (fR h a0 5) (fI h a0 4) x1) a0 6) &&& ((shl (ii 1) (fI (sI h (fR h a0 5) (fI h a0 4) x1) a0 4)) ^^^ (ii (-1)))))) a0 6 (.int ((fI (sF (sI h (fR h a0 5) (fI h a0 4) x1) a0 6 (.int ((fI (sI h (fR h a0 5) (fI h a0 4) x1) a0 6) &&& ((shl (ii 1) (fI (sI h (fR h a0 5) (fI h a0 4) x1) a0 4)) ^^^ (ii (-1)))))) a0 6) ||| (shl (ii 1) (fI (sF (sI h (fR h a0 5) (fI h a0 4) x1) a0 6 (.int ((fI (sI h (fR h a0 5) (fI h a0 4) x1) a0 6) &&& ((shl (ii 1) (fI (sI h (fR h a0 5) (fI h a0 4) x1) a0 4)) ^^^ (ii (-1)))))) a0 4))))) a0 4 4 0 ∧ okP (sF (sF (sI h (fR h a0 5) (fI h a0 4) x1) a0 6 (.int ((fI (sI h (fR h a0 5) (fI h a0 4) x1) a0 6) &&& ((shl (ii 1) (fI (sI h (fR h a0 5) (fI h a0 4) x1) a0 4)) ^^^ (ii (-1)))))) a0 6 (.int ((fI (sF (sI h (fR h a0 5) (fI h a0 4) x1) a0 6 (.int ((fI (sI h (fR h a0 5) (fI h a0 4) x1) a0 6) &&& ((shl (ii 1) (fI (sI h (fR h a0 5) (fI h a0 4) x1) a0 4)) ^^^ (ii (-1)))))) a0 6) ||| (shl (ii 1) (fI (sF (sI h (fR h a0 5) (fI h a0 4) x1) a0 6 (.int ((fI (sI h (fR h a0 5) (fI h a0 4) x1) a0 6) &&& ((shl (ii 1) (fI (sI h (fR h a0 5) (fI h a0 4) x1) a0 4)) ^^^ (ii (-1)))))) a0 4))))) a0 4 4 ∧ Q none (sF (sF (sF (sI h (fR h a0 5) (fI h a0 4) x1) a0 6 (.int ((fI (sI h (fR h a0 5) (fI h a0 4) x1) a0 6) &&& ((shl (ii 1) (fI (sI h (fR h a0 5) (fI h a0 4) x1) a0 4)) ^^^ (ii (-1)))))) a0 6 (.int ((fI (sF (sI h (fR h a0 5) (fI h a0 4) x1) a0 6 (.int ((fI (sI h (fR h a0 5) (fI h a0 4) x1) a0 6) &&& ((shl (ii 1) (fI (sI h (fR h a0 5) (fI h a0 4) x1) a0 4)) ^^^ (ii (-1)))))) a0 6) ||| (shl (ii 1) (fI (sF (sI h (fR h a0 5) (fI h a0 4) x1) a0 6 (.int ((fI (sI h (fR h a0 5) (fI h a0 4) x1) a0 6) &&& ((shl (ii 1) (fI (sI h (fR h a0 5) (fI h a0 4) x1) a0 4)) ^^^ (ii (-1)))))) a0 4))))) a0 4 (.int ((fI (sF (sF (sI h (fR h a0 5) (fI h a0 4) x1) a0 6 (.int ((fI (sI h (fR h a0 5) (fI h a0 4) x1) a0 6) &&& ((shl (ii 1) (fI (sI h (fR h a0 5) (fI h a0 4) x1) a0 4)) ^^^ (ii (-1)))))) a0 6 (.int ((fI (sF (sI h (fR h a0 5) (fI h a0 4) x1) a0 6 (.int ((fI (sI h (fR h a0 5) (fI h a0 4) x1) a0 6) &&& ((shl (ii 1) (fI (sI h (fR h a0 5) (fI h a0 4) x1) a0 4)) ^^^ (ii (-1)))))) a0 6) ||| (shl (ii 1) (fI (sF (sI h (fR h a0 5) (fI h a0 4) x1) a0 6 (.int ((fI (sI h (fR h a0 5) (fI h a0 4) x1) a0 6) &&& ((shl (ii 1) (fI (sI h (fR h a0 5) (fI h a0 4) x1) a0 4)) ^^^ (ii (-1)))))) a0 4))))) a0 4) + (ii 1)))))) := by
  refine (G_aload rfl (mF fc61 (by rfl))).trans ?_
  refine (G_getR (c := 4) (k := 5) rfl rfl rfl (mF fc61 (by rfl))).trans (andR ?_)
  refine (G_aload rfl (mF fc61 (by rfl))).trans ?_
  refine (G_getI (c := 4) (k := 4) rfl rfl rfl (mF fc61 (by rfl))).trans (andR ?_)
  refine (G_iload rfl (mF fc61 (by rfl))).trans ?_
  refine (G_iastore (mF fc61 (by rfl))).trans (andR ?_)
  refine (G_aload rfl (mF fc61 (by rfl))).trans ?_
  refine (G_dupr (mF fc61 (by rfl))).trans ?_
  refine (G_getI (c := 4) (k := 6) rfl rfl rfl (mF fc61 (by rfl))).trans (andR ?_)
  refine (G_iconst (mF fc61 (by rfl))).trans ?_
  refine (G_aload rfl (mF fc61 (by rfl))).trans ?_
  refine (G_getI (c := 4) (k := 4) rfl rfl rfl (mF fc61 (by rfl))).trans (andR ?_)
  refine (G_ishl (mF fc61 (by rfl))).trans ?_
  refine (G_iconst (mF fc61 (by rfl))).trans ?_
  refine (G_ixor (mF fc61 (by rfl))).trans ?_
  refine (G_iand (mF fc61 (by rfl))).trans ?_
  refine (G_putT (c := 4) (k := 6) rfl rfl rfl (mF fc61 (by rfl))).trans (andR ?_)
  refine (G_iload rfl (mF fc61 (by rfl))).trans ?_
  refine (G_eq (mF fc61 (by rfl))).trans (gi ?_ ?_)
  ·
    refine (G_aload rfl (mF fc61 (by rfl))).trans ?_
    refine (G_dupr (mF fc61 (by rfl))).trans ?_
    refine (G_getI (c := 4) (k := 4) rfl rfl rfl (mF fc61 (by rfl))).trans (andR ?_)
    refine (G_iconst (mF fc61 (by rfl))).trans ?_
    refine (G_iadd (mF fc61 (by rfl))).trans ?_
    refine (G_putT (c := 4) (k := 4) rfl rfl rfl (mF fc61 (by rfl))).trans (andR ?_)
    exact G_return rfl (mF fc61 (by rfl))
  ·
    refine (G_aload rfl (mF fc61 (by rfl))).trans ?_
    refine (G_dupr (mF fc61 (by rfl))).trans ?_
    refine (G_getI (c := 4) (k := 6) rfl rfl rfl (mF fc61 (by rfl))).trans (andR ?_)
    refine (G_iconst (mF fc61 (by rfl))).trans ?_
    refine (G_aload rfl (mF fc61 (by rfl))).trans ?_
    refine (G_getI (c := 4) (k := 4) rfl rfl rfl (mF fc61 (by rfl))).trans (andR ?_)
    refine (G_ishl (mF fc61 (by rfl))).trans ?_
    refine (G_ior (mF fc61 (by rfl))).trans ?_
    refine (G_putT (c := 4) (k := 6) rfl rfl rfl (mF fc61 (by rfl))).trans (andR ?_)
    refine (G_aload rfl (mF fc61 (by rfl))).trans ?_
    refine (G_dupr (mF fc61 (by rfl))).trans ?_
    refine (G_getI (c := 4) (k := 4) rfl rfl rfl (mF fc61 (by rfl))).trans (andR ?_)
    refine (G_iconst (mF fc61 (by rfl))).trans ?_
    refine (G_iadd (mF fc61 (by rfl))).trans ?_
    refine (G_putT (c := 4) (k := 4) rfl rfl rfl (mF fc61 (by rfl))).trans (andR ?_)
    exact G_return rfl (mF fc61 (by rfl))
theorem e61 {d : Nat} {h : mHeap} {K : mHeap → Prop} {a0 : Nat} {x1 : Int32} {x2 : Int32} : GoCv (d + 1) 61 [.ref a0, .int x1, .int x2] h K ↔ Go d 61 0 [some (.ref a0), some (.int x1), some (.int x2)] [] h (rV K) := GoCv_entry rfl rfl
set_option maxRecDepth 20000 in
theorem fc62 : mCodes[62]? = some mc62 := rfl
theorem b62_0 {d : Nat} {h : mHeap} {Q : Option Value → mHeap → Prop} {a0 : Nat} {x1 : Int32} : Go d 62 0 [some (.ref a0), some (.int x1)] [] h Q ↔ okF h a0 4 6 0 ∧ (if ((shr (fI h a0 6) x1) &&& (ii 1)) = ii 0 then (((ii 0) = ii 0 ∨ (ii 0) = ii 1) ∧ Q (some (.int (ii 0))) h) else (((ii 1) = ii 0 ∨ (ii 1) = ii 1) ∧ Q (some (.int (ii 1))) h)) := by
  refine (G_aload rfl (mF fc62 (by rfl))).trans ?_
  refine (G_getI (c := 4) (k := 6) rfl rfl rfl (mF fc62 (by rfl))).trans (andR ?_)
  refine (G_iload rfl (mF fc62 (by rfl))).trans ?_
  refine (G_ishr (mF fc62 (by rfl))).trans ?_
  refine (G_iconst (mF fc62 (by rfl))).trans ?_
  refine (G_iand (mF fc62 (by rfl))).trans ?_
  refine (G_eq (mF fc62 (by rfl))).trans (gi ?_ ?_)
  ·
    refine (G_iconst (mF fc62 (by rfl))).trans ?_
    exact G_ireturnZ rfl (mF fc62 (by rfl))
  ·
    refine (G_iconst (mF fc62 (by rfl))).trans ?_
    refine (G_goto (mF fc62 (by rfl))).trans ?_
    exact G_ireturnZ rfl (mF fc62 (by rfl))
theorem e62 {d : Nat} {h : mHeap} {K : Int32 → mHeap → Prop} {a0 : Nat} {x1 : Int32} : GoCi (d + 1) 62 [.ref a0, .int x1] h K ↔ Go d 62 0 [some (.ref a0), some (.int x1)] [] h (rI K) := GoCi_entry rfl rfl
