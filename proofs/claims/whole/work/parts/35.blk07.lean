set_option maxRecDepth 20000 in
theorem fc271 : mCodes[271]? = some mc271 := rfl
theorem b271_0 {d : Nat} {h : mHeap} {Q : Option Value → mHeap → Prop} {a0 : Nat} : Go d 271 0 [some (.ref a0)] [] h Q ↔ okF h a0 12 59 0 ∧ (if ¬ (fI h a0 59) = ii 0 then (okF h a0 12 59 0 ∧ okP h a0 12 59 ∧ okF (sF h a0 59 (.int ((fI h a0 59) - (ii 1)))) a0 12 59 0 ∧ oC (sF h a0 59 (.int ((fI h a0 59) - (ii 1)))) a0 = 12 ∧ GoCv d 269 [.ref a0, .int (fI (sF h a0 59 (.int ((fI h a0 59) - (ii 1)))) a0 59), .int (ii 1)] (sF h a0 59 (.int ((fI h a0 59) - (ii 1)))) (fun h1 => okF h1 a0 12 59 0 ∧ Q (some (.int (fI h1 a0 59))) h1)) else (Q (some (.int (ii (-2)))) h)) := by
  refine (G_aload rfl (mF fc271 (by rfl))).trans ?_
  refine (G_getI (c := 12) (k := 59) rfl rfl rfl (mF fc271 (by rfl))).trans (andR ?_)
  refine (G_ne (mF fc271 (by rfl))).trans (gi ?_ ?_)
  ·
    refine (G_aload rfl (mF fc271 (by rfl))).trans ?_
    refine (G_dupr (mF fc271 (by rfl))).trans ?_
    refine (G_getI (c := 12) (k := 59) rfl rfl rfl (mF fc271 (by rfl))).trans (andR ?_)
    refine (G_iconst (mF fc271 (by rfl))).trans ?_
    refine (G_isub (mF fc271 (by rfl))).trans ?_
    refine (G_putT (c := 12) (k := 59) rfl rfl rfl (mF fc271 (by rfl))).trans (andR ?_)
    refine (G_aload rfl (mF fc271 (by rfl))).trans ?_
    refine (G_aload rfl (mF fc271 (by rfl))).trans ?_
    refine (G_getI (c := 12) (k := 59) rfl rfl rfl (mF fc271 (by rfl))).trans (andR ?_)
    refine (G_iconst (mF fc271 (by rfl))).trans ?_
    refine (G_Vv (q := 137923) (y := 269) (a := a0) (c := 12) rfl rfl rfl rfl (by decide) rfl (as := [.ref a0, .int (fI (sF h a0 59 (.int ((fI h a0 59) - (ii 1)))) a0 59), .int (ii 1)]) (rest := []) rfl rfl (mF fc271 (by rfl))).trans (andR (GoCv_congr fun h1 => ?_))
    refine (G_aload rfl (mF fc271 (by rfl))).trans ?_
    refine (G_getI (c := 12) (k := 59) rfl rfl rfl (mF fc271 (by rfl))).trans (andR ?_)
    exact G_ireturnI rfl (mF fc271 (by rfl))
  ·
    refine (G_iconst (mF fc271 (by rfl))).trans ?_
    exact G_ireturnI rfl (mF fc271 (by rfl))
theorem e271 {d : Nat} {h : mHeap} {K : Int32 → mHeap → Prop} {a0 : Nat} : GoCi (d + 1) 271 [.ref a0] h K ↔ Go d 271 0 [some (.ref a0)] [] h (rI K) := GoCi_entry rfl rfl
set_option maxRecDepth 20000 in
theorem fc272 : mCodes[272]? = some mc272 := rfl
theorem b272_0 {d : Nat} {h : mHeap} {Q : Option Value → mHeap → Prop} {a0 : Nat} {x1 : Int32} {x2 : Int32} : Go d 272 0 [some (.ref a0), some (.int x1), some (.int x2), none] [] h Q ↔ okF h a0 12 1 2 ∧ okA h (fR h a0 1) .int (ii 1) ∧ oC h a0 = 12 ∧ GoCi d 250 [.ref a0, .int x2, .int (eI h (fR h a0 1) (ii 1))] h (fun v1 h1 => (if v1 = ii 0 then (Go d 272 24 [some (.ref a0), some (.int x1), some (.int x2), none] [] h1 Q) else (oC h1 a0 = 12 ∧ GoCi d 247 [.ref a0, .int (ii 6), .int x2] h1 (fun v2 h2 => (if v2 = ii 0 then (oC h2 a0 = 12 ∧ GoCi d 248 [.ref a0, .int x2] h2 (fun v3 h3 => okF h3 a0 12 3 2 ∧ okA h3 (fR h3 a0 3) .int x1 ∧ (if v3 < (eI h3 (fR h3 a0 3) x1) then (Go d 272 70 [some (.ref a0), some (.int x1), some (.int x2), none] [.int (ii 0)] h3 Q) else (Go d 272 70 [some (.ref a0), some (.int x1), some (.int x2), none] [.int (ii 1)] h3 Q)))) else (Go d 272 24 [some (.ref a0), some (.int x1), some (.int x2), none] [] h2 Q)))))) := by
  refine (G_aload rfl (mF fc272 (by rfl))).trans ?_
  refine (G_iload rfl (mF fc272 (by rfl))).trans ?_
  refine (G_aload rfl (mF fc272 (by rfl))).trans ?_
  refine (G_getR (c := 12) (k := 1) rfl rfl rfl (mF fc272 (by rfl))).trans (andR ?_)
  refine (G_iconst (mF fc272 (by rfl))).trans ?_
  refine (G_iaload (mF fc272 (by rfl))).trans (andR ?_)
  refine (G_Vi (q := 128195) (y := 250) (a := a0) (c := 12) rfl rfl rfl rfl (by decide) rfl (as := [.ref a0, .int x2, .int (eI h (fR h a0 1) (ii 1))]) (rest := []) rfl rfl (mF fc272 (by rfl))).trans (andR (GoCi_congr fun v1 h1 => ?_))
  refine (G_eq (mF fc272 (by rfl))).trans (gi ?_ ?_)
  ·
    exact Iff.rfl
  ·
    refine (G_aload rfl (mF fc272 (by rfl))).trans ?_
    refine (G_iconst (mF fc272 (by rfl))).trans ?_
    refine (G_iload rfl (mF fc272 (by rfl))).trans ?_
    refine (G_Vi (q := 126659) (y := 247) (a := a0) (c := 12) rfl rfl rfl rfl (by decide) rfl (as := [.ref a0, .int (ii 6), .int x2]) (rest := []) rfl rfl (mF fc272 (by rfl))).trans (andR (GoCi_congr fun v2 h2 => ?_))
    refine (G_eq (mF fc272 (by rfl))).trans (gi ?_ ?_)
    ·
      refine (G_aload rfl (mF fc272 (by rfl))).trans ?_
      refine (G_iload rfl (mF fc272 (by rfl))).trans ?_
      refine (G_Vi (q := 127170) (y := 248) (a := a0) (c := 12) rfl rfl rfl rfl (by decide) rfl (as := [.ref a0, .int x2]) (rest := []) rfl rfl (mF fc272 (by rfl))).trans (andR (GoCi_congr fun v3 h3 => ?_))
      refine (G_aload rfl (mF fc272 (by rfl))).trans ?_
      refine (G_getR (c := 12) (k := 3) rfl rfl rfl (mF fc272 (by rfl))).trans (andR ?_)
      refine (G_iload rfl (mF fc272 (by rfl))).trans ?_
      refine (G_iaload (mF fc272 (by rfl))).trans (andR ?_)
      refine (G_ilt (mF fc272 (by rfl))).trans (gi ?_ ?_)
      ·
        refine (G_iconst (mF fc272 (by rfl))).trans ?_
        exact Iff.rfl
      ·
        refine (G_iconst (mF fc272 (by rfl))).trans ?_
        refine (G_goto (mF fc272 (by rfl))).trans ?_
        exact Iff.rfl
    ·
      exact Iff.rfl
theorem b272_24 {d : Nat} {h : mHeap} {Q : Option Value → mHeap → Prop} {a0 : Nat} {x1 : Int32} {x2 : Int32} {l3 : Option Value} : Go d 272 24 [some (.ref a0), some (.int x1), some (.int x2), l3] [] h Q ↔ okF h a0 12 6 2 ∧ (64 ≤ (fR h a0 6) ∧ okA h (fR h a0 6) .int x1) ∧ okF (sI h (fR h a0 6) x1 (ii 1)) a0 12 1 2 ∧ okA (sI h (fR h a0 6) x1 (ii 1)) (fR (sI h (fR h a0 6) x1 (ii 1)) a0 1) .int (ii 1) ∧ oC (sI h (fR h a0 6) x1 (ii 1)) a0 = 12 ∧ GoCi d 250 [.ref a0, .int x2, .int (eI (sI h (fR h a0 6) x1 (ii 1)) (fR (sI h (fR h a0 6) x1 (ii 1)) a0 1) (ii 1))] (sI h (fR h a0 6) x1 (ii 1)) (fun v1 h1 => (if v1 = ii 0 then (Q (some (.int (ii 0))) h1) else (Q (some (.int (ii 1))) h1))) := by
  refine (G_aload rfl (mF fc272 (by rfl))).trans ?_
  refine (G_getR (c := 12) (k := 6) rfl rfl rfl (mF fc272 (by rfl))).trans (andR ?_)
  refine (G_iload rfl (mF fc272 (by rfl))).trans ?_
  refine (G_iconst (mF fc272 (by rfl))).trans ?_
  refine (G_iastore (mF fc272 (by rfl))).trans (andR ?_)
  refine (G_aload rfl (mF fc272 (by rfl))).trans ?_
  refine (G_iload rfl (mF fc272 (by rfl))).trans ?_
  refine (G_aload rfl (mF fc272 (by rfl))).trans ?_
  refine (G_getR (c := 12) (k := 1) rfl rfl rfl (mF fc272 (by rfl))).trans (andR ?_)
  refine (G_iconst (mF fc272 (by rfl))).trans ?_
  refine (G_iaload (mF fc272 (by rfl))).trans (andR ?_)
  refine (G_Vi (q := 128195) (y := 250) (a := a0) (c := 12) rfl rfl rfl rfl (by decide) rfl (as := [.ref a0, .int x2, .int (eI (sI h (fR h a0 6) x1 (ii 1)) (fR (sI h (fR h a0 6) x1 (ii 1)) a0 1) (ii 1))]) (rest := []) rfl rfl (mF fc272 (by rfl))).trans (andR (GoCi_congr fun v1 h1 => ?_))
  refine (G_eq (mF fc272 (by rfl))).trans (gi ?_ ?_)
  ·
    refine (G_iconst (mF fc272 (by rfl))).trans ?_
    exact G_ireturnI rfl (mF fc272 (by rfl))
  ·
    refine (G_iconst (mF fc272 (by rfl))).trans ?_
    refine (G_goto (mF fc272 (by rfl))).trans ?_
    exact G_ireturnI rfl (mF fc272 (by rfl))
theorem b272_70 {d : Nat} {h : mHeap} {Q : Option Value → mHeap → Prop} {a0 : Nat} {x1 : Int32} {x2 : Int32} {l3 : Option Value} {s0 : Int32} : Go d 272 70 [some (.ref a0), some (.int x1), some (.int x2), l3] [.int s0] h Q ↔ oC h a0 = 12 ∧ GoCv d 249 [.ref a0, .int (ii 6), .int x2] h (fun h1 => okF h1 a0 12 2 2 ∧ (if s0 = ii 0 then (okF h1 a0 12 2 2 ∧ okA h1 (fR h1 a0 2) .int x1 ∧ Go d 272 104 [some (.ref a0), some (.int x1), some (.int x2), some (.int s0)] [.int (eI h1 (fR h1 a0 2) x1), .int x1, .ref (fR h1 a0 2)] h1 Q) else (okF h1 a0 12 2 2 ∧ okA h1 (fR h1 a0 2) .int x1 ∧ Go d 272 104 [some (.ref a0), some (.int x1), some (.int x2), some (.int s0)] [.int ((ii 1) - (eI h1 (fR h1 a0 2) x1)), .int x1, .ref (fR h1 a0 2)] h1 Q))) := by
  refine (G_istore (k := 3) (L' := [some (.ref a0), some (.int x1), some (.int x2), some (.int s0)]) rfl (ltb rfl) rfl (mF fc272 (by rfl))).trans ?_
  refine (G_aload rfl (mF fc272 (by rfl))).trans ?_
  refine (G_iconst (mF fc272 (by rfl))).trans ?_
  refine (G_iload rfl (mF fc272 (by rfl))).trans ?_
  refine (G_Vv (q := 127683) (y := 249) (a := a0) (c := 12) rfl rfl rfl rfl (by decide) rfl (as := [.ref a0, .int (ii 6), .int x2]) (rest := []) rfl rfl (mF fc272 (by rfl))).trans (andR (GoCv_congr fun h1 => ?_))
  refine (G_aload rfl (mF fc272 (by rfl))).trans ?_
  refine (G_getR (c := 12) (k := 2) rfl rfl rfl (mF fc272 (by rfl))).trans (andR ?_)
  refine (G_iload rfl (mF fc272 (by rfl))).trans ?_
  refine (G_iload rfl (mF fc272 (by rfl))).trans ?_
  refine (G_eq (mF fc272 (by rfl))).trans (gi ?_ ?_)
  ·
    refine (G_aload rfl (mF fc272 (by rfl))).trans ?_
    refine (G_getR (c := 12) (k := 2) rfl rfl rfl (mF fc272 (by rfl))).trans (andR ?_)
    refine (G_iload rfl (mF fc272 (by rfl))).trans ?_
    refine (G_iaload (mF fc272 (by rfl))).trans (andR ?_)
    exact Iff.rfl
  ·
    refine (G_iconst (mF fc272 (by rfl))).trans ?_
    refine (G_aload rfl (mF fc272 (by rfl))).trans ?_
    refine (G_getR (c := 12) (k := 2) rfl rfl rfl (mF fc272 (by rfl))).trans (andR ?_)
    refine (G_iload rfl (mF fc272 (by rfl))).trans ?_
    refine (G_iaload (mF fc272 (by rfl))).trans (andR ?_)
    refine (G_isub (mF fc272 (by rfl))).trans ?_
    refine (G_goto (mF fc272 (by rfl))).trans ?_
    exact Iff.rfl
theorem b272_104 {d : Nat} {h : mHeap} {Q : Option Value → mHeap → Prop} {l0 : Option Value} {l1 : Option Value} {l2 : Option Value} {x3 : Int32} {r0 : Nat} {s1 : Int32} {s2 : Int32} : Go d 272 104 [l0, l1, l2, some (.int x3)] [.int s2, .int s1, .ref r0] h Q ↔ (64 ≤ r0 ∧ okA h r0 .int s1) ∧ (if x3 = ii 0 then (Q (some (.int (ii 2))) (sI h r0 s1 s2)) else (Q (some (.int (ii 3))) (sI h r0 s1 s2))) := by
  refine (G_iastore (mF fc272 (by rfl))).trans (andR ?_)
  refine (G_iload rfl (mF fc272 (by rfl))).trans ?_
  refine (G_eq (mF fc272 (by rfl))).trans (gi ?_ ?_)
  ·
    refine (G_iconst (mF fc272 (by rfl))).trans ?_
    exact G_ireturnI rfl (mF fc272 (by rfl))
  ·
    refine (G_iconst (mF fc272 (by rfl))).trans ?_
    refine (G_goto (mF fc272 (by rfl))).trans ?_
    exact G_ireturnI rfl (mF fc272 (by rfl))
theorem e272 {d : Nat} {h : mHeap} {K : Int32 → mHeap → Prop} {a0 : Nat} {x1 : Int32} {x2 : Int32} : GoCi (d + 1) 272 [.ref a0, .int x1, .int x2] h K ↔ Go d 272 0 [some (.ref a0), some (.int x1), some (.int x2), none] [] h (rI K) := GoCi_entry rfl rfl
set_option maxRecDepth 20000 in
theorem fc273 : mCodes[273]? = some mc273 := rfl
theorem b273_0 {d : Nat} {h : mHeap} {Q : Option Value → mHeap → Prop} {a0 : Nat} {x1 : Int32} {x2 : Int32} : Go d 273 0 [some (.ref a0), some (.int x1), some (.int x2)] [] h Q ↔ oC h a0 = 12 ∧ GoCi d 187 [.ref a0, .int x1] h (fun v1 h1 => (if v1 = ii 0 then (Q (some (.int (ii (-1)))) h1) else (oC h1 a0 = 12 ∧ GoCi d 190 [.ref a0, .int x2] h1 (fun v2 h2 => (if v2 = ii 0 then (Q (some (.int (ii (-1)))) h2) else (okF h2 a0 12 6 2 ∧ okA h2 (fR h2 a0 6) .int x1 ∧ (if ¬ (eI h2 (fR h2 a0 6) x1) = (ii 1) then (oC h2 a0 = 12 ∧ GoCv d 270 [.ref a0] h2 (fun h3 => oC h3 a0 = 12 ∧ GoCi d 272 [.ref a0, .int x1, .int x2] h3 (fun v4 h4 => Q (some (.int v4)) h4))) else (Q (some (.int (ii (-1)))) h2)))))))) := by
  refine (G_aload rfl (mF fc273 (by rfl))).trans ?_
  refine (G_iload rfl (mF fc273 (by rfl))).trans ?_
  refine (G_Vi (q := 95938) (y := 187) (a := a0) (c := 12) rfl rfl rfl rfl (by decide) rfl (as := [.ref a0, .int x1]) (rest := []) rfl rfl (mF fc273 (by rfl))).trans (andR (GoCi_congr fun v1 h1 => ?_))
  refine (G_eq (mF fc273 (by rfl))).trans (gi ?_ ?_)
  ·
    refine (G_iconst (mF fc273 (by rfl))).trans ?_
    exact G_ireturnI rfl (mF fc273 (by rfl))
  ·
    refine (G_aload rfl (mF fc273 (by rfl))).trans ?_
    refine (G_iload rfl (mF fc273 (by rfl))).trans ?_
    refine (G_Vi (q := 97474) (y := 190) (a := a0) (c := 12) rfl rfl rfl rfl (by decide) rfl (as := [.ref a0, .int x2]) (rest := []) rfl rfl (mF fc273 (by rfl))).trans (andR (GoCi_congr fun v2 h2 => ?_))
    refine (G_eq (mF fc273 (by rfl))).trans (gi ?_ ?_)
    ·
      refine (G_iconst (mF fc273 (by rfl))).trans ?_
      exact G_ireturnI rfl (mF fc273 (by rfl))
    ·
      refine (G_aload rfl (mF fc273 (by rfl))).trans ?_
      refine (G_getR (c := 12) (k := 6) rfl rfl rfl (mF fc273 (by rfl))).trans (andR ?_)
      refine (G_iload rfl (mF fc273 (by rfl))).trans ?_
      refine (G_iaload (mF fc273 (by rfl))).trans (andR ?_)
      refine (G_iconst (mF fc273 (by rfl))).trans ?_
      refine (G_ine (mF fc273 (by rfl))).trans (gi ?_ ?_)
      ·
        refine (G_aload rfl (mF fc273 (by rfl))).trans ?_
        refine (G_Vv (q := 138433) (y := 270) (a := a0) (c := 12) rfl rfl rfl rfl (by decide) rfl (as := [.ref a0]) (rest := []) rfl rfl (mF fc273 (by rfl))).trans (andR (GoCv_congr fun h3 => ?_))
        refine (G_aload rfl (mF fc273 (by rfl))).trans ?_
        refine (G_iload rfl (mF fc273 (by rfl))).trans ?_
        refine (G_iload rfl (mF fc273 (by rfl))).trans ?_
        refine (G_Vi (q := 139459) (y := 272) (a := a0) (c := 12) rfl rfl rfl rfl (by decide) rfl (as := [.ref a0, .int x1, .int x2]) (rest := []) rfl rfl (mF fc273 (by rfl))).trans (andR (GoCi_congr fun v4 h4 => ?_))
        exact G_ireturnI rfl (mF fc273 (by rfl))
      ·
        refine (G_iconst (mF fc273 (by rfl))).trans ?_
        exact G_ireturnI rfl (mF fc273 (by rfl))
theorem e273 {d : Nat} {h : mHeap} {K : Int32 → mHeap → Prop} {a0 : Nat} {x1 : Int32} {x2 : Int32} : GoCi (d + 1) 273 [.ref a0, .int x1, .int x2] h K ↔ Go d 273 0 [some (.ref a0), some (.int x1), some (.int x2)] [] h (rI K) := GoCi_entry rfl rfl
set_option maxRecDepth 20000 in
theorem fc274 : mCodes[274]? = some mc274 := rfl
theorem b274_0 {d : Nat} {h : mHeap} {Q : Option Value → mHeap → Prop} {a0 : Nat} {x1 : Int32} {x2 : Int32} {x3 : Int32} : Go d 274 0 [some (.ref a0), some (.int x1), some (.int x2), some (.int x3)] [] h Q ↔ oC h a0 = 12 ∧ GoCi d 187 [.ref a0, .int x1] h (fun v1 h1 => (if v1 = ii 0 then (Q (some (.int (ii (-1)))) h1) else (oC h1 a0 = 12 ∧ GoCi d 187 [.ref a0, .int x2] h1 (fun v2 h2 => (if v2 = ii 0 then (Q (some (.int (ii (-1)))) h2) else ((if x1 = x2 then (Q (some (.int (ii (-1)))) h2) else (oC h2 a0 = 12 ∧ GoCi d 190 [.ref a0, .int x3] h2 (fun v3 h3 => (if v3 = ii 0 then (Q (some (.int (ii (-1)))) h3) else (okF h3 a0 12 2 2 ∧ okA h3 (fR h3 a0 2) .int x1 ∧ okF h3 a0 12 2 2 ∧ okA h3 (fR h3 a0 2) .int x2 ∧ (if ¬ (eI h3 (fR h3 a0 2) x1) = (eI h3 (fR h3 a0 2) x2) then (Q (some (.int (ii (-1)))) h3) else (okF h3 a0 12 6 2 ∧ okA h3 (fR h3 a0 6) .int x1 ∧ okF h3 a0 12 6 2 ∧ okA h3 (fR h3 a0 6) .int x2 ∧ (if ii 0 < ((eI h3 (fR h3 a0 6) x1) + (eI h3 (fR h3 a0 6) x2)) then (Q (some (.int (ii (-1)))) h3) else (oC h3 a0 = 12 ∧ GoCi d 247 [.ref a0, .int x1, .int x3] h3 (fun v4 h4 => (if ¬ v4 = ii 0 then (oC h4 a0 = 12 ∧ GoCv d 270 [.ref a0] h4 (fun h5 => oC h5 a0 = 12 ∧ GoCv d 249 [.ref a0, .int x2, .int x3] h5 (fun h6 => oC h6 a0 = 12 ∧ GoCi d 246 [.ref a0, .int x2] h6 (fun v7 h7 => Q (some (.int v7)) h7)))) else (Q (some (.int (ii (-1)))) h4)))))))))))))))))) := by
  refine (G_aload rfl (mF fc274 (by rfl))).trans ?_
  refine (G_iload rfl (mF fc274 (by rfl))).trans ?_
  refine (G_Vi (q := 95938) (y := 187) (a := a0) (c := 12) rfl rfl rfl rfl (by decide) rfl (as := [.ref a0, .int x1]) (rest := []) rfl rfl (mF fc274 (by rfl))).trans (andR (GoCi_congr fun v1 h1 => ?_))
  refine (G_eq (mF fc274 (by rfl))).trans (gi ?_ ?_)
  ·
    refine (G_iconst (mF fc274 (by rfl))).trans ?_
    exact G_ireturnI rfl (mF fc274 (by rfl))
  ·
    refine (G_aload rfl (mF fc274 (by rfl))).trans ?_
    refine (G_iload rfl (mF fc274 (by rfl))).trans ?_
    refine (G_Vi (q := 95938) (y := 187) (a := a0) (c := 12) rfl rfl rfl rfl (by decide) rfl (as := [.ref a0, .int x2]) (rest := []) rfl rfl (mF fc274 (by rfl))).trans (andR (GoCi_congr fun v2 h2 => ?_))
    refine (G_eq (mF fc274 (by rfl))).trans (gi ?_ ?_)
    ·
      refine (G_iconst (mF fc274 (by rfl))).trans ?_
      exact G_ireturnI rfl (mF fc274 (by rfl))
    ·
      refine (G_iload rfl (mF fc274 (by rfl))).trans ?_
      refine (G_iload rfl (mF fc274 (by rfl))).trans ?_
      refine (G_ieq (mF fc274 (by rfl))).trans (gi ?_ ?_)
      ·
        refine (G_iconst (mF fc274 (by rfl))).trans ?_
        exact G_ireturnI rfl (mF fc274 (by rfl))
      ·
        refine (G_aload rfl (mF fc274 (by rfl))).trans ?_
        refine (G_iload rfl (mF fc274 (by rfl))).trans ?_
        refine (G_Vi (q := 97474) (y := 190) (a := a0) (c := 12) rfl rfl rfl rfl (by decide) rfl (as := [.ref a0, .int x3]) (rest := []) rfl rfl (mF fc274 (by rfl))).trans (andR (GoCi_congr fun v3 h3 => ?_))
        refine (G_eq (mF fc274 (by rfl))).trans (gi ?_ ?_)
        ·
          refine (G_iconst (mF fc274 (by rfl))).trans ?_
          exact G_ireturnI rfl (mF fc274 (by rfl))
        ·
          refine (G_aload rfl (mF fc274 (by rfl))).trans ?_
          refine (G_getR (c := 12) (k := 2) rfl rfl rfl (mF fc274 (by rfl))).trans (andR ?_)
          refine (G_iload rfl (mF fc274 (by rfl))).trans ?_
          refine (G_iaload (mF fc274 (by rfl))).trans (andR ?_)
          refine (G_aload rfl (mF fc274 (by rfl))).trans ?_
          refine (G_getR (c := 12) (k := 2) rfl rfl rfl (mF fc274 (by rfl))).trans (andR ?_)
          refine (G_iload rfl (mF fc274 (by rfl))).trans ?_
          refine (G_iaload (mF fc274 (by rfl))).trans (andR ?_)
          refine (G_ine (mF fc274 (by rfl))).trans (gi ?_ ?_)
          ·
            refine (G_iconst (mF fc274 (by rfl))).trans ?_
            exact G_ireturnI rfl (mF fc274 (by rfl))
          ·
            refine (G_aload rfl (mF fc274 (by rfl))).trans ?_
            refine (G_getR (c := 12) (k := 6) rfl rfl rfl (mF fc274 (by rfl))).trans (andR ?_)
            refine (G_iload rfl (mF fc274 (by rfl))).trans ?_
            refine (G_iaload (mF fc274 (by rfl))).trans (andR ?_)
            refine (G_aload rfl (mF fc274 (by rfl))).trans ?_
            refine (G_getR (c := 12) (k := 6) rfl rfl rfl (mF fc274 (by rfl))).trans (andR ?_)
            refine (G_iload rfl (mF fc274 (by rfl))).trans ?_
            refine (G_iaload (mF fc274 (by rfl))).trans (andR ?_)
            refine (G_iadd (mF fc274 (by rfl))).trans ?_
            refine (G_gt (mF fc274 (by rfl))).trans (gi ?_ ?_)
            ·
              refine (G_iconst (mF fc274 (by rfl))).trans ?_
              exact G_ireturnI rfl (mF fc274 (by rfl))
            ·
              refine (G_aload rfl (mF fc274 (by rfl))).trans ?_
              refine (G_iload rfl (mF fc274 (by rfl))).trans ?_
              refine (G_iload rfl (mF fc274 (by rfl))).trans ?_
              refine (G_Vi (q := 126659) (y := 247) (a := a0) (c := 12) rfl rfl rfl rfl (by decide) rfl (as := [.ref a0, .int x1, .int x3]) (rest := []) rfl rfl (mF fc274 (by rfl))).trans (andR (GoCi_congr fun v4 h4 => ?_))
              refine (G_ne (mF fc274 (by rfl))).trans (gi ?_ ?_)
              ·
                refine (G_aload rfl (mF fc274 (by rfl))).trans ?_
                refine (G_Vv (q := 138433) (y := 270) (a := a0) (c := 12) rfl rfl rfl rfl (by decide) rfl (as := [.ref a0]) (rest := []) rfl rfl (mF fc274 (by rfl))).trans (andR (GoCv_congr fun h5 => ?_))
                refine (G_aload rfl (mF fc274 (by rfl))).trans ?_
                refine (G_iload rfl (mF fc274 (by rfl))).trans ?_
                refine (G_iload rfl (mF fc274 (by rfl))).trans ?_
                refine (G_Vv (q := 127683) (y := 249) (a := a0) (c := 12) rfl rfl rfl rfl (by decide) rfl (as := [.ref a0, .int x2, .int x3]) (rest := []) rfl rfl (mF fc274 (by rfl))).trans (andR (GoCv_congr fun h6 => ?_))
                refine (G_aload rfl (mF fc274 (by rfl))).trans ?_
                refine (G_iload rfl (mF fc274 (by rfl))).trans ?_
                refine (G_Vi (q := 126146) (y := 246) (a := a0) (c := 12) rfl rfl rfl rfl (by decide) rfl (as := [.ref a0, .int x2]) (rest := []) rfl rfl (mF fc274 (by rfl))).trans (andR (GoCi_congr fun v7 h7 => ?_))
                exact G_ireturnI rfl (mF fc274 (by rfl))
              ·
                refine (G_iconst (mF fc274 (by rfl))).trans ?_
                exact G_ireturnI rfl (mF fc274 (by rfl))
theorem e274 {d : Nat} {h : mHeap} {K : Int32 → mHeap → Prop} {a0 : Nat} {x1 : Int32} {x2 : Int32} {x3 : Int32} : GoCi (d + 1) 274 [.ref a0, .int x1, .int x2, .int x3] h K ↔ Go d 274 0 [some (.ref a0), some (.int x1), some (.int x2), some (.int x3)] [] h (rI K) := GoCi_entry rfl rfl
set_option maxRecDepth 20000 in
theorem fc275 : mCodes[275]? = some mc275 := rfl
theorem b275_0 {d : Nat} {h : mHeap} {Q : Option Value → mHeap → Prop} {a0 : Nat} {x1 : Int32} {x2 : Int32} : Go d 275 0 [some (.ref a0), some (.int x1), some (.int x2)] [] h Q ↔ oC h a0 = 12 ∧ GoCi d 187 [.ref a0, .int x1] h (fun v1 h1 => (if v1 = ii 0 then (Q (some (.int (ii (-1)))) h1) else (oC h1 a0 = 12 ∧ GoCi d 188 [.ref a0, .int x2] h1 (fun v2 h2 => (if v2 = ii 0 then (Q (some (.int (ii (-1)))) h2) else (okF h2 a0 12 6 2 ∧ okA h2 (fR h2 a0 6) .int x1 ∧ (if ¬ (eI h2 (fR h2 a0 6) x1) = (ii 1) then (oC h2 a0 = 12 ∧ GoCv d 257 [.ref a0] h2 (fun h3 => oC h3 a0 = 12 ∧ GoCi d 258 [.ref a0, .int (ii 0), .int x2] h3 (fun v4 h4 => (if v4 = (ii 100000) then (Q (some (.int (ii (-1)))) h4) else (okF h4 a0 12 5 2 ∧ okA h4 (fR h4 a0 5) .int x1 ∧ oC h4 a0 = 12 ∧ GoCi d 258 [.ref a0, .int (ii 0), .int x2] h4 (fun v5 h5 => (if ((eI h4 (fR h4 a0 5) x1) + ((ii 2) * v5)) ≤ (ii 24) then (oC h5 a0 = 12 ∧ GoCv d 270 [.ref a0] h5 (fun h6 => okF h6 a0 12 5 2 ∧ okA h6 (fR h6 a0 5) .int x1 ∧ oC h6 a0 = 12 ∧ GoCi d 258 [.ref a0, .int (ii 0), .int x2] h6 (fun v7 h7 => (64 ≤ (fR h6 a0 5) ∧ okA h7 (fR h6 a0 5) .int x1) ∧ okF (sI h7 (fR h6 a0 5) x1 ((eI h6 (fR h6 a0 5) x1) + ((ii 2) * v7))) a0 12 7 2 ∧ okA (sI h7 (fR h6 a0 5) x1 ((eI h6 (fR h6 a0 5) x1) + ((ii 2) * v7))) (fR (sI h7 (fR h6 a0 5) x1 ((eI h6 (fR h6 a0 5) x1) + ((ii 2) * v7))) a0 7) .int x2 ∧ oC (sI h7 (fR h6 a0 5) x1 ((eI h6 (fR h6 a0 5) x1) + ((ii 2) * v7))) a0 = 12 ∧ GoCv d 253 [.ref a0, .int x1, .int (eI (sI h7 (fR h6 a0 5) x1 ((eI h6 (fR h6 a0 5) x1) + ((ii 2) * v7))) (fR (sI h7 (fR h6 a0 5) x1 ((eI h6 (fR h6 a0 5) x1) + ((ii 2) * v7))) a0 7) x2)] (sI h7 (fR h6 a0 5) x1 ((eI h6 (fR h6 a0 5) x1) + ((ii 2) * v7))) (fun h8 => okF h8 a0 12 1 2 ∧ okA h8 (fR h8 a0 1) .int (ii 1) ∧ okF h8 a0 12 7 2 ∧ okA h8 (fR h8 a0 7) .int x2 ∧ Q (some (.int ((shr (eI h8 (fR h8 a0 1) (ii 1)) (eI h8 (fR h8 a0 7) x2)) &&& (ii 1)))) h8)))) else (Q (some (.int (ii (-1)))) h5)))))))) else (Q (some (.int (ii (-1)))) h2)))))))) := by
  refine (G_aload rfl (mF fc275 (by rfl))).trans ?_
  refine (G_iload rfl (mF fc275 (by rfl))).trans ?_
  refine (G_Vi (q := 95938) (y := 187) (a := a0) (c := 12) rfl rfl rfl rfl (by decide) rfl (as := [.ref a0, .int x1]) (rest := []) rfl rfl (mF fc275 (by rfl))).trans (andR (GoCi_congr fun v1 h1 => ?_))
  refine (G_eq (mF fc275 (by rfl))).trans (gi ?_ ?_)
  ·
    refine (G_iconst (mF fc275 (by rfl))).trans ?_
    exact G_ireturnI rfl (mF fc275 (by rfl))
  ·
    refine (G_aload rfl (mF fc275 (by rfl))).trans ?_
    refine (G_iload rfl (mF fc275 (by rfl))).trans ?_
    refine (G_Vi (q := 96450) (y := 188) (a := a0) (c := 12) rfl rfl rfl rfl (by decide) rfl (as := [.ref a0, .int x2]) (rest := []) rfl rfl (mF fc275 (by rfl))).trans (andR (GoCi_congr fun v2 h2 => ?_))
    refine (G_eq (mF fc275 (by rfl))).trans (gi ?_ ?_)
    ·
      refine (G_iconst (mF fc275 (by rfl))).trans ?_
      exact G_ireturnI rfl (mF fc275 (by rfl))
    ·
      refine (G_aload rfl (mF fc275 (by rfl))).trans ?_
      refine (G_getR (c := 12) (k := 6) rfl rfl rfl (mF fc275 (by rfl))).trans (andR ?_)
      refine (G_iload rfl (mF fc275 (by rfl))).trans ?_
      refine (G_iaload (mF fc275 (by rfl))).trans (andR ?_)
      refine (G_iconst (mF fc275 (by rfl))).trans ?_
      refine (G_ine (mF fc275 (by rfl))).trans (gi ?_ ?_)
      ·
        refine (G_aload rfl (mF fc275 (by rfl))).trans ?_
        refine (G_Vv (q := 131777) (y := 257) (a := a0) (c := 12) rfl rfl rfl rfl (by decide) rfl (as := [.ref a0]) (rest := []) rfl rfl (mF fc275 (by rfl))).trans (andR (GoCv_congr fun h3 => ?_))
        refine (G_aload rfl (mF fc275 (by rfl))).trans ?_
        refine (G_iconst (mF fc275 (by rfl))).trans ?_
        refine (G_iload rfl (mF fc275 (by rfl))).trans ?_
        refine (G_Vi (q := 132291) (y := 258) (a := a0) (c := 12) rfl rfl rfl rfl (by decide) rfl (as := [.ref a0, .int (ii 0), .int x2]) (rest := []) rfl rfl (mF fc275 (by rfl))).trans (andR (GoCi_congr fun v4 h4 => ?_))
        refine (G_iconst (mF fc275 (by rfl))).trans ?_
        refine (G_ieq (mF fc275 (by rfl))).trans (gi ?_ ?_)
        ·
          refine (G_iconst (mF fc275 (by rfl))).trans ?_
          exact G_ireturnI rfl (mF fc275 (by rfl))
        ·
          refine (G_aload rfl (mF fc275 (by rfl))).trans ?_
          refine (G_getR (c := 12) (k := 5) rfl rfl rfl (mF fc275 (by rfl))).trans (andR ?_)
          refine (G_iload rfl (mF fc275 (by rfl))).trans ?_
          refine (G_iaload (mF fc275 (by rfl))).trans (andR ?_)
          refine (G_iconst (mF fc275 (by rfl))).trans ?_
          refine (G_aload rfl (mF fc275 (by rfl))).trans ?_
          refine (G_iconst (mF fc275 (by rfl))).trans ?_
          refine (G_iload rfl (mF fc275 (by rfl))).trans ?_
          refine (G_Vi (q := 132291) (y := 258) (a := a0) (c := 12) rfl rfl rfl rfl (by decide) rfl (as := [.ref a0, .int (ii 0), .int x2]) (rest := [.int (ii 2), .int (eI h4 (fR h4 a0 5) x1)]) rfl rfl (mF fc275 (by rfl))).trans (andR (GoCi_congr fun v5 h5 => ?_))
          refine (G_imul (mF fc275 (by rfl))).trans ?_
          refine (G_iadd (mF fc275 (by rfl))).trans ?_
          refine (G_iconst (mF fc275 (by rfl))).trans ?_
          refine (G_ile (mF fc275 (by rfl))).trans (gi ?_ ?_)
          ·
            refine (G_aload rfl (mF fc275 (by rfl))).trans ?_
            refine (G_Vv (q := 138433) (y := 270) (a := a0) (c := 12) rfl rfl rfl rfl (by decide) rfl (as := [.ref a0]) (rest := []) rfl rfl (mF fc275 (by rfl))).trans (andR (GoCv_congr fun h6 => ?_))
            refine (G_aload rfl (mF fc275 (by rfl))).trans ?_
            refine (G_getR (c := 12) (k := 5) rfl rfl rfl (mF fc275 (by rfl))).trans (andR ?_)
            refine (G_iload rfl (mF fc275 (by rfl))).trans ?_
            refine (G_dup2r (mF fc275 (by rfl))).trans ?_
            refine (G_iaload (mF fc275 (by rfl))).trans (andR ?_)
            refine (G_iconst (mF fc275 (by rfl))).trans ?_
            refine (G_aload rfl (mF fc275 (by rfl))).trans ?_
            refine (G_iconst (mF fc275 (by rfl))).trans ?_
            refine (G_iload rfl (mF fc275 (by rfl))).trans ?_
            refine (G_Vi (q := 132291) (y := 258) (a := a0) (c := 12) rfl rfl rfl rfl (by decide) rfl (as := [.ref a0, .int (ii 0), .int x2]) (rest := [.int (ii 2), .int (eI h6 (fR h6 a0 5) x1), .int x1, .ref (fR h6 a0 5)]) rfl rfl (mF fc275 (by rfl))).trans (andR (GoCi_congr fun v7 h7 => ?_))
            refine (G_imul (mF fc275 (by rfl))).trans ?_
            refine (G_iadd (mF fc275 (by rfl))).trans ?_
            refine (G_iastore (mF fc275 (by rfl))).trans (andR ?_)
            refine (G_aload rfl (mF fc275 (by rfl))).trans ?_
            refine (G_iload rfl (mF fc275 (by rfl))).trans ?_
            refine (G_aload rfl (mF fc275 (by rfl))).trans ?_
            refine (G_getR (c := 12) (k := 7) rfl rfl rfl (mF fc275 (by rfl))).trans (andR ?_)
            refine (G_iload rfl (mF fc275 (by rfl))).trans ?_
            refine (G_iaload (mF fc275 (by rfl))).trans (andR ?_)
            refine (G_Vv (q := 129731) (y := 253) (a := a0) (c := 12) rfl rfl rfl rfl (by decide) rfl (as := [.ref a0, .int x1, .int (eI (sI h7 (fR h6 a0 5) x1 ((eI h6 (fR h6 a0 5) x1) + ((ii 2) * v7))) (fR (sI h7 (fR h6 a0 5) x1 ((eI h6 (fR h6 a0 5) x1) + ((ii 2) * v7))) a0 7) x2)]) (rest := []) rfl rfl (mF fc275 (by rfl))).trans (andR (GoCv_congr fun h8 => ?_))
            refine (G_aload rfl (mF fc275 (by rfl))).trans ?_
            refine (G_getR (c := 12) (k := 1) rfl rfl rfl (mF fc275 (by rfl))).trans (andR ?_)
            refine (G_iconst (mF fc275 (by rfl))).trans ?_
            refine (G_iaload (mF fc275 (by rfl))).trans (andR ?_)
            refine (G_aload rfl (mF fc275 (by rfl))).trans ?_
            refine (G_getR (c := 12) (k := 7) rfl rfl rfl (mF fc275 (by rfl))).trans (andR ?_)
            refine (G_iload rfl (mF fc275 (by rfl))).trans ?_
            refine (G_iaload (mF fc275 (by rfl))).trans (andR ?_)
            refine (G_ishr (mF fc275 (by rfl))).trans ?_
            refine (G_iconst (mF fc275 (by rfl))).trans ?_
            refine (G_iand (mF fc275 (by rfl))).trans ?_
            exact G_ireturnI rfl (mF fc275 (by rfl))
          ·
            refine (G_iconst (mF fc275 (by rfl))).trans ?_
            exact G_ireturnI rfl (mF fc275 (by rfl))
      ·
        refine (G_iconst (mF fc275 (by rfl))).trans ?_
        exact G_ireturnI rfl (mF fc275 (by rfl))
theorem e275 {d : Nat} {h : mHeap} {K : Int32 → mHeap → Prop} {a0 : Nat} {x1 : Int32} {x2 : Int32} : GoCi (d + 1) 275 [.ref a0, .int x1, .int x2] h K ↔ Go d 275 0 [some (.ref a0), some (.int x1), some (.int x2)] [] h (rI K) := GoCi_entry rfl rfl
set_option maxRecDepth 20000 in
theorem fc276 : mCodes[276]? = some mc276 := rfl
theorem b276_0 {d : Nat} {h : mHeap} {Q : Option Value → mHeap → Prop} {a0 : Nat} {x1 : Int32} : Go d 276 0 [some (.ref a0), some (.int x1), none, none, none] [] h Q ↔ Go d 276 2 [some (.ref a0), some (.int x1), some (.int (ii 0)), none, none] [] h Q := by
  refine (G_iconst (mF fc276 (by rfl))).trans ?_
  refine (G_istore (k := 2) (L' := [some (.ref a0), some (.int x1), some (.int (ii 0)), none, none]) rfl (ltb rfl) rfl (mF fc276 (by rfl))).trans ?_
  exact Iff.rfl
theorem b276_2 {d : Nat} {h : mHeap} {Q : Option Value → mHeap → Prop} {a0 : Nat} {x1 : Int32} {x2 : Int32} {l3 : Option Value} {l4 : Option Value} : Go d 276 2 [some (.ref a0), some (.int x1), some (.int x2), l3, l4] [] h Q ↔ (if (ii 6) < x2 then (Q none h) else (Go d 276 10 [some (.ref a0), some (.int x1), some (.int x2), some (.int (ii 0)), l4] [] h Q)) := by
  refine (G_iload rfl (mF fc276 (by rfl))).trans ?_
  refine (G_iconst (mF fc276 (by rfl))).trans ?_
  refine (G_igt (mF fc276 (by rfl))).trans (gi ?_ ?_)
  ·
    exact G_return rfl (mF fc276 (by rfl))
  ·
    refine (G_iconst (mF fc276 (by rfl))).trans ?_
    refine (G_istore (k := 3) (L' := [some (.ref a0), some (.int x1), some (.int x2), some (.int (ii 0)), l4]) rfl (ltb rfl) rfl (mF fc276 (by rfl))).trans ?_
    exact Iff.rfl
theorem b276_10 {d : Nat} {h : mHeap} {Q : Option Value → mHeap → Prop} {a0 : Nat} {x1 : Int32} {x2 : Int32} {x3 : Int32} {l4 : Option Value} : Go d 276 10 [some (.ref a0), some (.int x1), some (.int x2), some (.int x3), l4] [] h Q ↔ (if (ii 8) ≤ x3 then (Go d 276 31 [some (.ref a0), some (.int x1), some (.int x2), some (.int (ii 0)), l4] [] h Q) else (okF h a0 12 62 2 ∧ (64 ≤ (fR h a0 62) ∧ okA h (fR h a0 62) .int x3) ∧ Go d 276 10 [some (.ref a0), some (.int x1), some (.int x2), some (.int (x3 + ii 1)), l4] [] (sI h (fR h a0 62) x3 (ii 0)) Q)) := by
  refine (G_iload rfl (mF fc276 (by rfl))).trans ?_
  refine (G_iconst (mF fc276 (by rfl))).trans ?_
  refine (G_ige (mF fc276 (by rfl))).trans (gi ?_ ?_)
  ·
    refine (G_iconst (mF fc276 (by rfl))).trans ?_
    refine (G_istore (k := 3) (L' := [some (.ref a0), some (.int x1), some (.int x2), some (.int (ii 0)), l4]) rfl (ltb rfl) rfl (mF fc276 (by rfl))).trans ?_
    exact Iff.rfl
  ·
    refine (G_aload rfl (mF fc276 (by rfl))).trans ?_
    refine (G_getR (c := 12) (k := 62) rfl rfl rfl (mF fc276 (by rfl))).trans (andR ?_)
    refine (G_iload rfl (mF fc276 (by rfl))).trans ?_
    refine (G_iconst (mF fc276 (by rfl))).trans ?_
    refine (G_iastore (mF fc276 (by rfl))).trans (andR ?_)
    refine (G_iinc (k := 3) (L' := [some (.ref a0), some (.int x1), some (.int x2), some (.int (x3 + ii 1)), l4]) rfl rfl rfl (mF fc276 (by rfl))).trans ?_
    refine (G_goto (mF fc276 (by rfl))).trans ?_
    exact Iff.rfl
theorem b276_31 {d : Nat} {h : mHeap} {Q : Option Value → mHeap → Prop} {a0 : Nat} {x1 : Int32} {x2 : Int32} {x3 : Int32} {l4 : Option Value} : Go d 276 31 [some (.ref a0), some (.int x1), some (.int x2), some (.int x3), l4] [] h Q ↔ oC h a0 = 12 ∧ GoCi d 191 [.ref a0] h (fun v1 h1 => (if v1 ≤ x3 then (Go d 276 95 [some (.ref a0), some (.int x1), some (.int x2), some (.int (ii 0)), l4] [] h1 Q) else (okF h1 a0 12 62 2 ∧ (¬ (ii 32) = ii 0) ∧ okA h1 (fR h1 a0 62) .int (x3 / (ii 32)) ∧ oC h1 a0 = 12 ∧ GoCi d 251 [.ref a0, .int x2, .int x3] h1 (fun v2 h2 => (if ¬ v2 = ii 0 then (Go d 276 75 [some (.ref a0), some (.int x1), some (.int x2), some (.int x3), some (.int (x3 ^^^ (shl (ii 1) x1)))] [.int (eI h1 (fR h1 a0 62) (x3 / (ii 32))), .int (x3 / (ii 32)), .ref (fR h1 a0 62)] h2 Q) else (oC h2 a0 = 12 ∧ GoCi d 251 [.ref a0, .int x2, .int (x3 ^^^ (shl (ii 1) x1))] h2 (fun v3 h3 => (if v3 = ii 0 then (Go d 276 85 [some (.ref a0), some (.int x1), some (.int x2), some (.int x3), some (.int (x3 ^^^ (shl (ii 1) x1)))] [.int (ii 0), .int (eI h1 (fR h1 a0 62) (x3 / (ii 32))), .int (x3 / (ii 32)), .ref (fR h1 a0 62)] h3 Q) else (Go d 276 75 [some (.ref a0), some (.int x1), some (.int x2), some (.int x3), some (.int (x3 ^^^ (shl (ii 1) x1)))] [.int (eI h1 (fR h1 a0 62) (x3 / (ii 32))), .int (x3 / (ii 32)), .ref (fR h1 a0 62)] h3 Q))))))))) := by
  refine (G_iload rfl (mF fc276 (by rfl))).trans ?_
  refine (G_aload rfl (mF fc276 (by rfl))).trans ?_
  refine (G_Vi (q := 97985) (y := 191) (a := a0) (c := 12) rfl rfl rfl rfl (by decide) rfl (as := [.ref a0]) (rest := [.int x3]) rfl rfl (mF fc276 (by rfl))).trans (andR (GoCi_congr fun v1 h1 => ?_))
  refine (G_ige (mF fc276 (by rfl))).trans (gi ?_ ?_)
  ·
    refine (G_iconst (mF fc276 (by rfl))).trans ?_
    refine (G_istore (k := 3) (L' := [some (.ref a0), some (.int x1), some (.int x2), some (.int (ii 0)), l4]) rfl (ltb rfl) rfl (mF fc276 (by rfl))).trans ?_
    exact Iff.rfl
  ·
    refine (G_iload rfl (mF fc276 (by rfl))).trans ?_
    refine (G_iconst (mF fc276 (by rfl))).trans ?_
    refine (G_iload rfl (mF fc276 (by rfl))).trans ?_
    refine (G_ishl (mF fc276 (by rfl))).trans ?_
    refine (G_ixor (mF fc276 (by rfl))).trans ?_
    refine (G_istore (k := 4) (L' := [some (.ref a0), some (.int x1), some (.int x2), some (.int x3), some (.int (x3 ^^^ (shl (ii 1) x1)))]) rfl (ltb rfl) rfl (mF fc276 (by rfl))).trans ?_
    refine (G_aload rfl (mF fc276 (by rfl))).trans ?_
    refine (G_getR (c := 12) (k := 62) rfl rfl rfl (mF fc276 (by rfl))).trans (andR ?_)
    refine (G_iload rfl (mF fc276 (by rfl))).trans ?_
    refine (G_iconst (mF fc276 (by rfl))).trans ?_
    refine (G_idiv (mF fc276 (by rfl))).trans (andR ?_)
    refine (G_dup2r (mF fc276 (by rfl))).trans ?_
    refine (G_iaload (mF fc276 (by rfl))).trans (andR ?_)
    refine (G_aload rfl (mF fc276 (by rfl))).trans ?_
    refine (G_iload rfl (mF fc276 (by rfl))).trans ?_
    refine (G_iload rfl (mF fc276 (by rfl))).trans ?_
    refine (G_Vi (q := 128707) (y := 251) (a := a0) (c := 12) rfl rfl rfl rfl (by decide) rfl (as := [.ref a0, .int x2, .int x3]) (rest := [.int (eI h1 (fR h1 a0 62) (x3 / (ii 32))), .int (x3 / (ii 32)), .ref (fR h1 a0 62)]) rfl rfl (mF fc276 (by rfl))).trans (andR (GoCi_congr fun v2 h2 => ?_))
    refine (G_ne (mF fc276 (by rfl))).trans (gi ?_ ?_)
    ·
      exact Iff.rfl
    ·
      refine (G_aload rfl (mF fc276 (by rfl))).trans ?_
      refine (G_iload rfl (mF fc276 (by rfl))).trans ?_
      refine (G_iload rfl (mF fc276 (by rfl))).trans ?_
      refine (G_Vi (q := 128707) (y := 251) (a := a0) (c := 12) rfl rfl rfl rfl (by decide) rfl (as := [.ref a0, .int x2, .int (x3 ^^^ (shl (ii 1) x1))]) (rest := [.int (eI h1 (fR h1 a0 62) (x3 / (ii 32))), .int (x3 / (ii 32)), .ref (fR h1 a0 62)]) rfl rfl (mF fc276 (by rfl))).trans (andR (GoCi_congr fun v3 h3 => ?_))
      refine (G_eq (mF fc276 (by rfl))).trans (gi ?_ ?_)
      ·
        refine (G_iconst (mF fc276 (by rfl))).trans ?_
        exact Iff.rfl
      ·
        exact Iff.rfl
theorem b276_75 {d : Nat} {h : mHeap} {Q : Option Value → mHeap → Prop} {a0 : Nat} {x1 : Int32} {x2 : Int32} {x3 : Int32} {l4 : Option Value} {r0 : Nat} {s1 : Int32} {s2 : Int32} : Go d 276 75 [some (.ref a0), some (.int x1), some (.int x2), some (.int x3), l4] [.int s2, .int s1, .ref r0] h Q ↔ (¬ (ii 32) = ii 0) ∧ Go d 276 85 [some (.ref a0), some (.int x1), some (.int x2), some (.int x3), l4] [.int (shl (ii 1) (irm x3 (ii 32))), .int s2, .int s1, .ref r0] h Q := by
  refine (G_iconst (mF fc276 (by rfl))).trans ?_
  refine (G_iload rfl (mF fc276 (by rfl))).trans ?_
  refine (G_iconst (mF fc276 (by rfl))).trans ?_
  refine (G_irem (mF fc276 (by rfl))).trans (andR ?_)
  refine (G_ishl (mF fc276 (by rfl))).trans ?_
  refine (G_goto (mF fc276 (by rfl))).trans ?_
  exact Iff.rfl
theorem b276_85 {d : Nat} {h : mHeap} {Q : Option Value → mHeap → Prop} {a0 : Nat} {x1 : Int32} {x2 : Int32} {x3 : Int32} {l4 : Option Value} {r0 : Nat} {s1 : Int32} {s2 : Int32} {s3 : Int32} : Go d 276 85 [some (.ref a0), some (.int x1), some (.int x2), some (.int x3), l4] [.int s3, .int s2, .int s1, .ref r0] h Q ↔ (64 ≤ r0 ∧ okA h r0 .int s1) ∧ Go d 276 31 [some (.ref a0), some (.int x1), some (.int x2), some (.int (x3 + ii 1)), l4] [] (sI h r0 s1 (s2 ||| s3)) Q := by
  refine (G_ior (mF fc276 (by rfl))).trans ?_
  refine (G_iastore (mF fc276 (by rfl))).trans (andR ?_)
  refine (G_iinc (k := 3) (L' := [some (.ref a0), some (.int x1), some (.int x2), some (.int (x3 + ii 1)), l4]) rfl rfl rfl (mF fc276 (by rfl))).trans ?_
  refine (G_goto (mF fc276 (by rfl))).trans ?_
  exact Iff.rfl
theorem b276_95 {d : Nat} {h : mHeap} {Q : Option Value → mHeap → Prop} {a0 : Nat} {x1 : Int32} {x2 : Int32} {x3 : Int32} {l4 : Option Value} : Go d 276 95 [some (.ref a0), some (.int x1), some (.int x2), some (.int x3), l4] [] h Q ↔ (if (ii 8) ≤ x3 then (Go d 276 2 [some (.ref a0), some (.int x1), some (.int (x2 + ii 1)), some (.int x3), l4] [] h Q) else (okF h a0 12 15 2 ∧ okF h a0 12 62 2 ∧ okA h (fR h a0 62) .int x3 ∧ (64 ≤ (fR h a0 15) ∧ okA h (fR h a0 15) .int (((ii 8) * x2) + x3)) ∧ Go d 276 95 [some (.ref a0), some (.int x1), some (.int x2), some (.int (x3 + ii 1)), l4] [] (sI h (fR h a0 15) (((ii 8) * x2) + x3) (eI h (fR h a0 62) x3)) Q)) := by
  refine (G_iload rfl (mF fc276 (by rfl))).trans ?_
  refine (G_iconst (mF fc276 (by rfl))).trans ?_
  refine (G_ige (mF fc276 (by rfl))).trans (gi ?_ ?_)
  ·
    refine (G_iinc (k := 2) (L' := [some (.ref a0), some (.int x1), some (.int (x2 + ii 1)), some (.int x3), l4]) rfl rfl rfl (mF fc276 (by rfl))).trans ?_
    refine (G_goto (mF fc276 (by rfl))).trans ?_
    exact Iff.rfl
  ·
    refine (G_aload rfl (mF fc276 (by rfl))).trans ?_
    refine (G_getR (c := 12) (k := 15) rfl rfl rfl (mF fc276 (by rfl))).trans (andR ?_)
    refine (G_iconst (mF fc276 (by rfl))).trans ?_
    refine (G_iload rfl (mF fc276 (by rfl))).trans ?_
    refine (G_imul (mF fc276 (by rfl))).trans ?_
    refine (G_iload rfl (mF fc276 (by rfl))).trans ?_
    refine (G_iadd (mF fc276 (by rfl))).trans ?_
    refine (G_aload rfl (mF fc276 (by rfl))).trans ?_
    refine (G_getR (c := 12) (k := 62) rfl rfl rfl (mF fc276 (by rfl))).trans (andR ?_)
    refine (G_iload rfl (mF fc276 (by rfl))).trans ?_
    refine (G_iaload (mF fc276 (by rfl))).trans (andR ?_)
    refine (G_iastore (mF fc276 (by rfl))).trans (andR ?_)
    refine (G_iinc (k := 3) (L' := [some (.ref a0), some (.int x1), some (.int x2), some (.int (x3 + ii 1)), l4]) rfl rfl rfl (mF fc276 (by rfl))).trans ?_
    refine (G_goto (mF fc276 (by rfl))).trans ?_
    exact Iff.rfl
theorem e276 {d : Nat} {h : mHeap} {K : mHeap → Prop} {a0 : Nat} {x1 : Int32} : GoCv (d + 1) 276 [.ref a0, .int x1] h K ↔ Go d 276 0 [some (.ref a0), some (.int x1), none, none, none] [] h (rV K) := GoCv_entry rfl rfl
set_option maxRecDepth 20000 in
theorem fc277 : mCodes[277]? = some mc277 := rfl
theorem b277_0 {d : Nat} {h : mHeap} {Q : Option Value → mHeap → Prop} {a0 : Nat} : Go d 277 0 [some (.ref a0), none] [] h Q ↔ okF h a0 12 1 2 ∧ okA h (fR h a0 1) .int (ii 6) ∧ (64 ≤ (fR h a0 1) ∧ okA h (fR h a0 1) .int (ii 6)) ∧ Go d 277 13 [some (.ref a0), some (.int (ii 0))] [] (sI h (fR h a0 1) (ii 6) ((eI h (fR h a0 1) (ii 6)) + (ii 1))) Q := by
  refine (G_aload rfl (mF fc277 (by rfl))).trans ?_
  refine (G_getR (c := 12) (k := 1) rfl rfl rfl (mF fc277 (by rfl))).trans (andR ?_)
  refine (G_iconst (mF fc277 (by rfl))).trans ?_
  refine (G_dup2r (mF fc277 (by rfl))).trans ?_
  refine (G_iaload (mF fc277 (by rfl))).trans (andR ?_)
  refine (G_iconst (mF fc277 (by rfl))).trans ?_
  refine (G_iadd (mF fc277 (by rfl))).trans ?_
  refine (G_iastore (mF fc277 (by rfl))).trans (andR ?_)
  refine (G_iconst (mF fc277 (by rfl))).trans ?_
  refine (G_istore (k := 1) (L' := [some (.ref a0), some (.int (ii 0))]) rfl (ltb rfl) rfl (mF fc277 (by rfl))).trans ?_
  exact Iff.rfl
theorem b277_13 {d : Nat} {h : mHeap} {Q : Option Value → mHeap → Prop} {a0 : Nat} {x1 : Int32} : Go d 277 13 [some (.ref a0), some (.int x1)] [] h Q ↔ (if (ii 6) ≤ x1 then (Go d 277 41 [some (.ref a0), some (.int (ii 0))] [] h Q) else (okF h a0 12 5 2 ∧ (64 ≤ (fR h a0 5) ∧ okA h (fR h a0 5) .int x1) ∧ okF (sI h (fR h a0 5) x1 (ii 0)) a0 12 6 2 ∧ (64 ≤ (fR (sI h (fR h a0 5) x1 (ii 0)) a0 6) ∧ okA (sI h (fR h a0 5) x1 (ii 0)) (fR (sI h (fR h a0 5) x1 (ii 0)) a0 6) .int x1) ∧ Go d 277 13 [some (.ref a0), some (.int (x1 + ii 1))] [] (sI (sI h (fR h a0 5) x1 (ii 0)) (fR (sI h (fR h a0 5) x1 (ii 0)) a0 6) x1 (ii 0)) Q)) := by
  refine (G_iload rfl (mF fc277 (by rfl))).trans ?_
  refine (G_iconst (mF fc277 (by rfl))).trans ?_
  refine (G_ige (mF fc277 (by rfl))).trans (gi ?_ ?_)
  ·
    refine (G_iconst (mF fc277 (by rfl))).trans ?_
    refine (G_istore (k := 1) (L' := [some (.ref a0), some (.int (ii 0))]) rfl (ltb rfl) rfl (mF fc277 (by rfl))).trans ?_
    exact Iff.rfl
  ·
    refine (G_aload rfl (mF fc277 (by rfl))).trans ?_
    refine (G_getR (c := 12) (k := 5) rfl rfl rfl (mF fc277 (by rfl))).trans (andR ?_)
    refine (G_iload rfl (mF fc277 (by rfl))).trans ?_
    refine (G_iconst (mF fc277 (by rfl))).trans ?_
    refine (G_iastore (mF fc277 (by rfl))).trans (andR ?_)
    refine (G_aload rfl (mF fc277 (by rfl))).trans ?_
    refine (G_getR (c := 12) (k := 6) rfl rfl rfl (mF fc277 (by rfl))).trans (andR ?_)
    refine (G_iload rfl (mF fc277 (by rfl))).trans ?_
    refine (G_iconst (mF fc277 (by rfl))).trans ?_
    refine (G_iastore (mF fc277 (by rfl))).trans (andR ?_)
    refine (G_iinc (k := 1) (L' := [some (.ref a0), some (.int (x1 + ii 1))]) rfl rfl rfl (mF fc277 (by rfl))).trans ?_
    refine (G_goto (mF fc277 (by rfl))).trans ?_
    exact Iff.rfl
theorem b277_41 {d : Nat} {h : mHeap} {Q : Option Value → mHeap → Prop} {a0 : Nat} {x1 : Int32} : Go d 277 41 [some (.ref a0), some (.int x1)] [] h Q ↔ okF h a0 12 1 2 ∧ okA h (fR h a0 1) .int (ii 5) ∧ (if (eI h (fR h a0 1) (ii 5)) ≤ x1 then (Q none h) else (okF h a0 12 12 2 ∧ okA h (fR h a0 12) .int x1 ∧ okF h a0 12 1 2 ∧ okA h (fR h a0 1) .int (ii 6) ∧ (if ¬ (eI h (fR h a0 12) x1) = (eI h (fR h a0 1) (ii 6)) then (Go d 277 94 [some (.ref a0), some (.int x1)] [] h Q) else (okF h a0 12 1 2 ∧ okA h (fR h a0 1) .int (ii 1) ∧ okF h a0 12 11 2 ∧ okA h (fR h a0 11) .int x1 ∧ (64 ≤ (fR h a0 1) ∧ okA h (fR h a0 1) .int (ii 1)) ∧ okF (sI h (fR h a0 1) (ii 1) ((eI h (fR h a0 1) (ii 1)) ^^^ (shl (ii 1) (eI h (fR h a0 11) x1)))) a0 12 11 2 ∧ okA (sI h (fR h a0 1) (ii 1) ((eI h (fR h a0 1) (ii 1)) ^^^ (shl (ii 1) (eI h (fR h a0 11) x1)))) (fR (sI h (fR h a0 1) (ii 1) ((eI h (fR h a0 1) (ii 1)) ^^^ (shl (ii 1) (eI h (fR h a0 11) x1)))) a0 11) .int x1 ∧ oC (sI h (fR h a0 1) (ii 1) ((eI h (fR h a0 1) (ii 1)) ^^^ (shl (ii 1) (eI h (fR h a0 11) x1)))) a0 = 12 ∧ GoCv d 276 [.ref a0, .int (eI (sI h (fR h a0 1) (ii 1) ((eI h (fR h a0 1) (ii 1)) ^^^ (shl (ii 1) (eI h (fR h a0 11) x1)))) (fR (sI h (fR h a0 1) (ii 1) ((eI h (fR h a0 1) (ii 1)) ^^^ (shl (ii 1) (eI h (fR h a0 11) x1)))) a0 11) x1)] (sI h (fR h a0 1) (ii 1) ((eI h (fR h a0 1) (ii 1)) ^^^ (shl (ii 1) (eI h (fR h a0 11) x1)))) (fun h1 => Go d 277 94 [some (.ref a0), some (.int x1)] [] h1 Q))))) := by
  refine (G_iload rfl (mF fc277 (by rfl))).trans ?_
  refine (G_aload rfl (mF fc277 (by rfl))).trans ?_
  refine (G_getR (c := 12) (k := 1) rfl rfl rfl (mF fc277 (by rfl))).trans (andR ?_)
  refine (G_iconst (mF fc277 (by rfl))).trans ?_
  refine (G_iaload (mF fc277 (by rfl))).trans (andR ?_)
  refine (G_ige (mF fc277 (by rfl))).trans (gi ?_ ?_)
  ·
    exact G_return rfl (mF fc277 (by rfl))
  ·
    refine (G_aload rfl (mF fc277 (by rfl))).trans ?_
    refine (G_getR (c := 12) (k := 12) rfl rfl rfl (mF fc277 (by rfl))).trans (andR ?_)
    refine (G_iload rfl (mF fc277 (by rfl))).trans ?_
    refine (G_iaload (mF fc277 (by rfl))).trans (andR ?_)
    refine (G_aload rfl (mF fc277 (by rfl))).trans ?_
    refine (G_getR (c := 12) (k := 1) rfl rfl rfl (mF fc277 (by rfl))).trans (andR ?_)
    refine (G_iconst (mF fc277 (by rfl))).trans ?_
    refine (G_iaload (mF fc277 (by rfl))).trans (andR ?_)
    refine (G_ine (mF fc277 (by rfl))).trans (gi ?_ ?_)
    ·
      exact Iff.rfl
    ·
      refine (G_aload rfl (mF fc277 (by rfl))).trans ?_
      refine (G_getR (c := 12) (k := 1) rfl rfl rfl (mF fc277 (by rfl))).trans (andR ?_)
      refine (G_iconst (mF fc277 (by rfl))).trans ?_
      refine (G_dup2r (mF fc277 (by rfl))).trans ?_
      refine (G_iaload (mF fc277 (by rfl))).trans (andR ?_)
      refine (G_iconst (mF fc277 (by rfl))).trans ?_
      refine (G_aload rfl (mF fc277 (by rfl))).trans ?_
      refine (G_getR (c := 12) (k := 11) rfl rfl rfl (mF fc277 (by rfl))).trans (andR ?_)
      refine (G_iload rfl (mF fc277 (by rfl))).trans ?_
      refine (G_iaload (mF fc277 (by rfl))).trans (andR ?_)
      refine (G_ishl (mF fc277 (by rfl))).trans ?_
      refine (G_ixor (mF fc277 (by rfl))).trans ?_
      refine (G_iastore (mF fc277 (by rfl))).trans (andR ?_)
      refine (G_aload rfl (mF fc277 (by rfl))).trans ?_
      refine (G_aload rfl (mF fc277 (by rfl))).trans ?_
      refine (G_getR (c := 12) (k := 11) rfl rfl rfl (mF fc277 (by rfl))).trans (andR ?_)
      refine (G_iload rfl (mF fc277 (by rfl))).trans ?_
      refine (G_iaload (mF fc277 (by rfl))).trans (andR ?_)
      refine (G_Vv (q := 141506) (y := 276) (a := a0) (c := 12) rfl rfl rfl rfl (by decide) rfl (as := [.ref a0, .int (eI (sI h (fR h a0 1) (ii 1) ((eI h (fR h a0 1) (ii 1)) ^^^ (shl (ii 1) (eI h (fR h a0 11) x1)))) (fR (sI h (fR h a0 1) (ii 1) ((eI h (fR h a0 1) (ii 1)) ^^^ (shl (ii 1) (eI h (fR h a0 11) x1)))) a0 11) x1)]) (rest := []) rfl rfl (mF fc277 (by rfl))).trans (andR (GoCv_congr fun h1 => ?_))
      exact Iff.rfl
theorem b277_94 {d : Nat} {h : mHeap} {Q : Option Value → mHeap → Prop} {a0 : Nat} {x1 : Int32} : Go d 277 94 [some (.ref a0), some (.int x1)] [] h Q ↔ Go d 277 41 [some (.ref a0), some (.int (x1 + ii 1))] [] h Q := by
  refine (G_iinc (k := 1) (L' := [some (.ref a0), some (.int (x1 + ii 1))]) rfl rfl rfl (mF fc277 (by rfl))).trans ?_
  refine (G_goto (mF fc277 (by rfl))).trans ?_
  exact Iff.rfl
theorem e277 {d : Nat} {h : mHeap} {K : mHeap → Prop} {a0 : Nat} : GoCv (d + 1) 277 [.ref a0] h K ↔ Go d 277 0 [some (.ref a0), none] [] h (rV K) := GoCv_entry rfl rfl
set_option maxRecDepth 20000 in
theorem fc278 : mCodes[278]? = some mc278 := rfl
theorem b278_0 {d : Nat} {h : mHeap} {Q : Option Value → mHeap → Prop} {a0 : Nat} : Go d 278 0 [some (.ref a0)] [] h Q ↔ oC h a0 = 12 ∧ GoCi d 186 [.ref a0] h (fun v1 h1 => (if v1 = ii 0 then (Q (some (.int (ii (-1)))) h1) else (okF h1 a0 12 1 2 ∧ okA h1 (fR h1 a0 1) .int (ii 6) ∧ (if ¬ (eI h1 (fR h1 a0 1) (ii 6)) = (ii 9999) then (oC h1 a0 = 12 ∧ GoCv d 270 [.ref a0] h1 (fun h2 => oC h2 a0 = 12 ∧ GoCv d 277 [.ref a0] h2 (fun h3 => okF h3 a0 12 1 2 ∧ okA h3 (fR h3 a0 1) .int (ii 6) ∧ Q (some (.int (eI h3 (fR h3 a0 1) (ii 6)))) h3))) else (Q (some (.int (ii (-1)))) h1))))) := by
  refine (G_aload rfl (mF fc278 (by rfl))).trans ?_
  refine (G_Vi (q := 95425) (y := 186) (a := a0) (c := 12) rfl rfl rfl rfl (by decide) rfl (as := [.ref a0]) (rest := []) rfl rfl (mF fc278 (by rfl))).trans (andR (GoCi_congr fun v1 h1 => ?_))
  refine (G_eq (mF fc278 (by rfl))).trans (gi ?_ ?_)
  ·
    refine (G_iconst (mF fc278 (by rfl))).trans ?_
    exact G_ireturnI rfl (mF fc278 (by rfl))
  ·
    refine (G_aload rfl (mF fc278 (by rfl))).trans ?_
    refine (G_getR (c := 12) (k := 1) rfl rfl rfl (mF fc278 (by rfl))).trans (andR ?_)
    refine (G_iconst (mF fc278 (by rfl))).trans ?_
    refine (G_iaload (mF fc278 (by rfl))).trans (andR ?_)
    refine (G_iconst (mF fc278 (by rfl))).trans ?_
    refine (G_ine (mF fc278 (by rfl))).trans (gi ?_ ?_)
    ·
      refine (G_aload rfl (mF fc278 (by rfl))).trans ?_
      refine (G_Vv (q := 138433) (y := 270) (a := a0) (c := 12) rfl rfl rfl rfl (by decide) rfl (as := [.ref a0]) (rest := []) rfl rfl (mF fc278 (by rfl))).trans (andR (GoCv_congr fun h2 => ?_))
      refine (G_aload rfl (mF fc278 (by rfl))).trans ?_
      refine (G_Vv (q := 142017) (y := 277) (a := a0) (c := 12) rfl rfl rfl rfl (by decide) rfl (as := [.ref a0]) (rest := []) rfl rfl (mF fc278 (by rfl))).trans (andR (GoCv_congr fun h3 => ?_))
      refine (G_aload rfl (mF fc278 (by rfl))).trans ?_
      refine (G_getR (c := 12) (k := 1) rfl rfl rfl (mF fc278 (by rfl))).trans (andR ?_)
      refine (G_iconst (mF fc278 (by rfl))).trans ?_
      refine (G_iaload (mF fc278 (by rfl))).trans (andR ?_)
      exact G_ireturnI rfl (mF fc278 (by rfl))
    ·
      refine (G_iconst (mF fc278 (by rfl))).trans ?_
      exact G_ireturnI rfl (mF fc278 (by rfl))
theorem e278 {d : Nat} {h : mHeap} {K : Int32 → mHeap → Prop} {a0 : Nat} : GoCi (d + 1) 278 [.ref a0] h K ↔ Go d 278 0 [some (.ref a0)] [] h (rI K) := GoCi_entry rfl rfl
set_option maxRecDepth 20000 in
theorem fc279 : mCodes[279]? = some mc279 := rfl
theorem b279_0 {d : Nat} {h : mHeap} {Q : Option Value → mHeap → Prop} {a0 : Nat} {x1 : Int32} : Go d 279 0 [some (.ref a0), some (.int x1), none, none] [] h Q ↔ Go d 279 4 [some (.ref a0), some (.int x1), some (.int (ii 0)), some (.int (ii 0))] [] h Q := by
  refine (G_iconst (mF fc279 (by rfl))).trans ?_
  refine (G_istore (k := 2) (L' := [some (.ref a0), some (.int x1), some (.int (ii 0)), none]) rfl (ltb rfl) rfl (mF fc279 (by rfl))).trans ?_
  refine (G_iconst (mF fc279 (by rfl))).trans ?_
  refine (G_istore (k := 3) (L' := [some (.ref a0), some (.int x1), some (.int (ii 0)), some (.int (ii 0))]) rfl (ltb rfl) rfl (mF fc279 (by rfl))).trans ?_
  exact Iff.rfl
theorem b279_4 {d : Nat} {h : mHeap} {Q : Option Value → mHeap → Prop} {a0 : Nat} {x1 : Int32} {x2 : Int32} {x3 : Int32} : Go d 279 4 [some (.ref a0), some (.int x1), some (.int x2), some (.int x3)] [] h Q ↔ okF h a0 12 1 2 ∧ okA h (fR h a0 1) .int (ii 2) ∧ (if (eI h (fR h a0 1) (ii 2)) ≤ x3 then (Q (some (.int x2)) h) else ((if x3 = x1 then (Go d 279 39 [some (.ref a0), some (.int x1), some (.int x2), some (.int x3)] [.int x2] h Q) else (okF h a0 12 2 2 ∧ okA h (fR h a0 2) .int x3 ∧ okF h a0 12 2 2 ∧ okA h (fR h a0 2) .int x1 ∧ (if ¬ (eI h (fR h a0 2) x3) = (eI h (fR h a0 2) x1) then (Go d 279 39 [some (.ref a0), some (.int x1), some (.int x2), some (.int x3)] [.int x2] h Q) else (Go d 279 40 [some (.ref a0), some (.int x1), some (.int x2), some (.int x3)] [.int (ii 1), .int x2] h Q)))))) := by
  refine (G_iload rfl (mF fc279 (by rfl))).trans ?_
  refine (G_aload rfl (mF fc279 (by rfl))).trans ?_
  refine (G_getR (c := 12) (k := 1) rfl rfl rfl (mF fc279 (by rfl))).trans (andR ?_)
  refine (G_iconst (mF fc279 (by rfl))).trans ?_
  refine (G_iaload (mF fc279 (by rfl))).trans (andR ?_)
  refine (G_ige (mF fc279 (by rfl))).trans (gi ?_ ?_)
  ·
    refine (G_iload rfl (mF fc279 (by rfl))).trans ?_
    exact G_ireturnI rfl (mF fc279 (by rfl))
  ·
    refine (G_iload rfl (mF fc279 (by rfl))).trans ?_
    refine (G_iload rfl (mF fc279 (by rfl))).trans ?_
    refine (G_iload rfl (mF fc279 (by rfl))).trans ?_
    refine (G_ieq (mF fc279 (by rfl))).trans (gi ?_ ?_)
    ·
      exact Iff.rfl
    ·
      refine (G_aload rfl (mF fc279 (by rfl))).trans ?_
      refine (G_getR (c := 12) (k := 2) rfl rfl rfl (mF fc279 (by rfl))).trans (andR ?_)
      refine (G_iload rfl (mF fc279 (by rfl))).trans ?_
      refine (G_iaload (mF fc279 (by rfl))).trans (andR ?_)
      refine (G_aload rfl (mF fc279 (by rfl))).trans ?_
      refine (G_getR (c := 12) (k := 2) rfl rfl rfl (mF fc279 (by rfl))).trans (andR ?_)
      refine (G_iload rfl (mF fc279 (by rfl))).trans ?_
      refine (G_iaload (mF fc279 (by rfl))).trans (andR ?_)
      refine (G_ine (mF fc279 (by rfl))).trans (gi ?_ ?_)
      ·
        exact Iff.rfl
      ·
        refine (G_iconst (mF fc279 (by rfl))).trans ?_
        refine (G_goto (mF fc279 (by rfl))).trans ?_
        exact Iff.rfl
theorem b279_39 {d : Nat} {h : mHeap} {Q : Option Value → mHeap → Prop} {a0 : Nat} {x1 : Int32} {l2 : Option Value} {x3 : Int32} {s0 : Int32} : Go d 279 39 [some (.ref a0), some (.int x1), l2, some (.int x3)] [.int s0] h Q ↔ Go d 279 40 [some (.ref a0), some (.int x1), l2, some (.int x3)] [.int (ii 0), .int s0] h Q := by
  refine (G_iconst (mF fc279 (by rfl))).trans ?_
  exact Iff.rfl
theorem b279_40 {d : Nat} {h : mHeap} {Q : Option Value → mHeap → Prop} {a0 : Nat} {x1 : Int32} {l2 : Option Value} {x3 : Int32} {s0 : Int32} {s1 : Int32} : Go d 279 40 [some (.ref a0), some (.int x1), l2, some (.int x3)] [.int s1, .int s0] h Q ↔ Go d 279 4 [some (.ref a0), some (.int x1), some (.int (s0 + s1)), some (.int (x3 + ii 1))] [] h Q := by
  refine (G_iadd (mF fc279 (by rfl))).trans ?_
  refine (G_istore (k := 2) (L' := [some (.ref a0), some (.int x1), some (.int (s0 + s1)), some (.int x3)]) rfl (ltb rfl) rfl (mF fc279 (by rfl))).trans ?_
  refine (G_iinc (k := 3) (L' := [some (.ref a0), some (.int x1), some (.int (s0 + s1)), some (.int (x3 + ii 1))]) rfl rfl rfl (mF fc279 (by rfl))).trans ?_
  refine (G_goto (mF fc279 (by rfl))).trans ?_
  exact Iff.rfl
theorem e279 {d : Nat} {h : mHeap} {K : Int32 → mHeap → Prop} {a0 : Nat} {x1 : Int32} : GoCi (d + 1) 279 [.ref a0, .int x1] h K ↔ Go d 279 0 [some (.ref a0), some (.int x1), none, none] [] h (rI K) := GoCi_entry rfl rfl
set_option maxRecDepth 20000 in
theorem fc280 : mCodes[280]? = some mc280 := rfl
theorem b280_0 {d : Nat} {h : mHeap} {Q : Option Value → mHeap → Prop} {a0 : Nat} {x1 : Int32} {x2 : Int32} : Go d 280 0 [some (.ref a0), some (.int x1), some (.int x2)] [] h Q ↔ okF h a0 12 54 2 ∧ (64 ≤ (fR h a0 54) ∧ okJ h (fR h a0 54) (ii 0)) ∧ okF (sJ h (fR h a0 54) (ii 0) x1.toInt64) a0 12 54 2 ∧ okF (sJ h (fR h a0 54) (ii 0) x1.toInt64) a0 12 2 2 ∧ okA (sJ h (fR h a0 54) (ii 0) x1.toInt64) (fR (sJ h (fR h a0 54) (ii 0) x1.toInt64) a0 2) .int x1 ∧ (64 ≤ (fR (sJ h (fR h a0 54) (ii 0) x1.toInt64) a0 54) ∧ okJ (sJ h (fR h a0 54) (ii 0) x1.toInt64) (fR (sJ h (fR h a0 54) (ii 0) x1.toInt64) a0 54) (ii 1)) ∧ okF (sJ (sJ h (fR h a0 54) (ii 0) x1.toInt64) (fR (sJ h (fR h a0 54) (ii 0) x1.toInt64) a0 54) (ii 1) ((eI (sJ h (fR h a0 54) (ii 0) x1.toInt64) (fR (sJ h (fR h a0 54) (ii 0) x1.toInt64) a0 2) x1).toInt64)) a0 12 54 2 ∧ okF (sJ (sJ h (fR h a0 54) (ii 0) x1.toInt64) (fR (sJ h (fR h a0 54) (ii 0) x1.toInt64) a0 54) (ii 1) ((eI (sJ h (fR h a0 54) (ii 0) x1.toInt64) (fR (sJ h (fR h a0 54) (ii 0) x1.toInt64) a0 2) x1).toInt64)) a0 12 3 2 ∧ okA (sJ (sJ h (fR h a0 54) (ii 0) x1.toInt64) (fR (sJ h (fR h a0 54) (ii 0) x1.toInt64) a0 54) (ii 1) ((eI (sJ h (fR h a0 54) (ii 0) x1.toInt64) (fR (sJ h (fR h a0 54) (ii 0) x1.toInt64) a0 2) x1).toInt64)) (fR (sJ (sJ h (fR h a0 54) (ii 0) x1.toInt64) (fR (sJ h (fR h a0 54) (ii 0) x1.toInt64) a0 54) (ii 1) ((eI (sJ h (fR h a0 54) (ii 0) x1.toInt64) (fR (sJ h (fR h a0 54) (ii 0) x1.toInt64) a0 2) x1).toInt64)) a0 3) .int x1 ∧ (64 ≤ (fR (sJ (sJ h (fR h a0 54) (ii 0) x1.toInt64) (fR (sJ h (fR h a0 54) (ii 0) x1.toInt64) a0 54) (ii 1) ((eI (sJ h (fR h a0 54) (ii 0) x1.toInt64) (fR (sJ h (fR h a0 54) (ii 0) x1.toInt64) a0 2) x1).toInt64)) a0 54) ∧ okJ (sJ (sJ h (fR h a0 54) (ii 0) x1.toInt64) (fR (sJ h (fR h a0 54) (ii 0) x1.toInt64) a0 54) (ii 1) ((eI (sJ h (fR h a0 54) (ii 0) x1.toInt64) (fR (sJ h (fR h a0 54) (ii 0) x1.toInt64) a0 2) x1).toInt64)) (fR (sJ (sJ h (fR h a0 54) (ii 0) x1.toInt64) (fR (sJ h (fR h a0 54) (ii 0) x1.toInt64) a0 54) (ii 1) ((eI (sJ h (fR h a0 54) (ii 0) x1.toInt64) (fR (sJ h (fR h a0 54) (ii 0) x1.toInt64) a0 2) x1).toInt64)) a0 54) (ii 2)) ∧ okF (sJ (sJ (sJ h (fR h a0 54) (ii 0) x1.toInt64) (fR (sJ h (fR h a0 54) (ii 0) x1.toInt64) a0 54) (ii 1) ((eI (sJ h (fR h a0 54) (ii 0) x1.toInt64) (fR (sJ h (fR h a0 54) (ii 0) x1.toInt64) a0 2) x1).toInt64)) (fR (sJ (sJ h (fR h a0 54) (ii 0) x1.toInt64) (fR (sJ h (fR h a0 54) (ii 0) x1.toInt64) a0 54) (ii 1) ((eI (sJ h (fR h a0 54) (ii 0) x1.toInt64) (fR (sJ h (fR h a0 54) (ii 0) x1.toInt64) a0 2) x1).toInt64)) a0 54) (ii 2) ((eI (sJ (sJ h (fR h a0 54) (ii 0) x1.toInt64) (fR (sJ h (fR h a0 54) (ii 0) x1.toInt64) a0 54) (ii 1) ((eI (sJ h (fR h a0 54) (ii 0) x1.toInt64) (fR (sJ h (fR h a0 54) (ii 0) x1.toInt64) a0 2) x1).toInt64)) (fR (sJ (sJ h (fR h a0 54) (ii 0) x1.toInt64) (fR (sJ h (fR h a0 54) (ii 0) x1.toInt64) a0 54) (ii 1) ((eI (sJ h (fR h a0 54) (ii 0) x1.toInt64) (fR (sJ h (fR h a0 54) (ii 0) x1.toInt64) a0 2) x1).toInt64)) a0 3) x1).toInt64)) a0 12 54 2 ∧ (64 ≤ (fR (sJ (sJ (sJ h (fR h a0 54) (ii 0) x1.toInt64) (fR (sJ h (fR h a0 54) (ii 0) x1.toInt64) a0 54) (ii 1) ((eI (sJ h (fR h a0 54) (ii 0) x1.toInt64) (fR (sJ h (fR h a0 54) (ii 0) x1.toInt64) a0 2) x1).toInt64)) (fR (sJ (sJ h (fR h a0 54) (ii 0) x1.toInt64) (fR (sJ h (fR h a0 54) (ii 0) x1.toInt64) a0 54) (ii 1) ((eI (sJ h (fR h a0 54) (ii 0) x1.toInt64) (fR (sJ h (fR h a0 54) (ii 0) x1.toInt64) a0 2) x1).toInt64)) a0 54) (ii 2) ((eI (sJ (sJ h (fR h a0 54) (ii 0) x1.toInt64) (fR (sJ h (fR h a0 54) (ii 0) x1.toInt64) a0 54) (ii 1) ((eI (sJ h (fR h a0 54) (ii 0) x1.toInt64) (fR (sJ h (fR h a0 54) (ii 0) x1.toInt64) a0 2) x1).toInt64)) (fR (sJ (sJ h (fR h a0 54) (ii 0) x1.toInt64) (fR (sJ h (fR h a0 54) (ii 0) x1.toInt64) a0 54) (ii 1) ((eI (sJ h (fR h a0 54) (ii 0) x1.toInt64) (fR (sJ h (fR h a0 54) (ii 0) x1.toInt64) a0 2) x1).toInt64)) a0 3) x1).toInt64)) a0 54) ∧ okJ (sJ (sJ (sJ h (fR h a0 54) (ii 0) x1.toInt64) (fR (sJ h (fR h a0 54) (ii 0) x1.toInt64) a0 54) (ii 1) ((eI (sJ h (fR h a0 54) (ii 0) x1.toInt64) (fR (sJ h (fR h a0 54) (ii 0) x1.toInt64) a0 2) x1).toInt64)) (fR (sJ (sJ h (fR h a0 54) (ii 0) x1.toInt64) (fR (sJ h (fR h a0 54) (ii 0) x1.toInt64) a0 54) (ii 1) ((eI (sJ h (fR h a0 54) (ii 0) x1.toInt64) (fR (sJ h (fR h a0 54) (ii 0) x1.toInt64) a0 2) x1).toInt64)) a0 54) (ii 2) ((eI (sJ (sJ h (fR h a0 54) (ii 0) x1.toInt64) (fR (sJ h (fR h a0 54) (ii 0) x1.toInt64) a0 54) (ii 1) ((eI (sJ h (fR h a0 54) (ii 0) x1.toInt64) (fR (sJ h (fR h a0 54) (ii 0) x1.toInt64) a0 2) x1).toInt64)) (fR (sJ (sJ h (fR h a0 54) (ii 0) x1.toInt64) (fR (sJ h (fR h a0 54) (ii 0) x1.toInt64) a0 54) (ii 1) ((eI (sJ h (fR h a0 54) (ii 0) x1.toInt64) (fR (sJ h (fR h a0 54) (ii 0) x1.toInt64) a0 2) x1).toInt64)) a0 3) x1).toInt64)) (fR (sJ (sJ (sJ h (fR h a0 54) (ii 0) x1.toInt64) (fR (sJ h (fR h a0 54) (ii 0) x1.toInt64) a0 54) (ii 1) ((eI (sJ h (fR h a0 54) (ii 0) x1.toInt64) (fR (sJ h (fR h a0 54) (ii 0) x1.toInt64) a0 2) x1).toInt64)) (fR (sJ (sJ h (fR h a0 54) (ii 0) x1.toInt64) (fR (sJ h (fR h a0 54) (ii 0) x1.toInt64) a0 54) (ii 1) ((eI (sJ h (fR h a0 54) (ii 0) x1.toInt64) (fR (sJ h (fR h a0 54) (ii 0) x1.toInt64) a0 2) x1).toInt64)) a0 54) (ii 2) ((eI (sJ (sJ h (fR h a0 54) (ii 0) x1.toInt64) (fR (sJ h (fR h a0 54) (ii 0) x1.toInt64) a0 54) (ii 1) ((eI (sJ h (fR h a0 54) (ii 0) x1.toInt64) (fR (sJ h (fR h a0 54) (ii 0) x1.toInt64) a0 2) x1).toInt64)) (fR (sJ (sJ h (fR h a0 54) (ii 0) x1.toInt64) (fR (sJ h (fR h a0 54) (ii 0) x1.toInt64) a0 54) (ii 1) ((eI (sJ h (fR h a0 54) (ii 0) x1.toInt64) (fR (sJ h (fR h a0 54) (ii 0) x1.toInt64) a0 2) x1).toInt64)) a0 3) x1).toInt64)) a0 54) (ii 3)) ∧ okF (sJ (sJ (sJ (sJ h (fR h a0 54) (ii 0) x1.toInt64) (fR (sJ h (fR h a0 54) (ii 0) x1.toInt64) a0 54) (ii 1) ((eI (sJ h (fR h a0 54) (ii 0) x1.toInt64) (fR (sJ h (fR h a0 54) (ii 0) x1.toInt64) a0 2) x1).toInt64)) (fR (sJ (sJ h (fR h a0 54) (ii 0) x1.toInt64) (fR (sJ h (fR h a0 54) (ii 0) x1.toInt64) a0 54) (ii 1) ((eI (sJ h (fR h a0 54) (ii 0) x1.toInt64) (fR (sJ h (fR h a0 54) (ii 0) x1.toInt64) a0 2) x1).toInt64)) a0 54) (ii 2) ((eI (sJ (sJ h (fR h a0 54) (ii 0) x1.toInt64) (fR (sJ h (fR h a0 54) (ii 0) x1.toInt64) a0 54) (ii 1) ((eI (sJ h (fR h a0 54) (ii 0) x1.toInt64) (fR (sJ h (fR h a0 54) (ii 0) x1.toInt64) a0 2) x1).toInt64)) (fR (sJ (sJ h (fR h a0 54) (ii 0) x1.toInt64) (fR (sJ h (fR h a0 54) (ii 0) x1.toInt64) a0 54) (ii 1) ((eI (sJ h (fR h a0 54) (ii 0) x1.toInt64) (fR (sJ h (fR h a0 54) (ii 0) x1.toInt64) a0 2) x1).toInt64)) a0 3) x1).toInt64)) (fR (sJ (sJ (sJ h (fR h a0 54) (ii 0) x1.toInt64) (fR (sJ h (fR h a0 54) (ii 0) x1.toInt64) a0 54) (ii 1) ((eI (sJ h (fR h a0 54) (ii 0) x1.toInt64) (fR (sJ h (fR h a0 54) (ii 0) x1.toInt64) a0 2) x1).toInt64)) (fR (sJ (sJ h (fR h a0 54) (ii 0) x1.toInt64) (fR (sJ h (fR h a0 54) (ii 0) x1.toInt64) a0 54) (ii 1) ((eI (sJ h (fR h a0 54) (ii 0) x1.toInt64) (fR (sJ h (fR h a0 54) (ii 0) x1.toInt64) a0 2) x1).toInt64)) a0 54) (ii 2) ((eI (sJ (sJ h (fR h a0 54) (ii 0) x1.toInt64) (fR (sJ h (fR h a0 54) (ii 0) x1.toInt64) a0 54) (ii 1) ((eI (sJ h (fR h a0 54) (ii 0) x1.toInt64) (fR (sJ h (fR h a0 54) (ii 0) x1.toInt64) a0 2) x1).toInt64)) (fR (sJ (sJ h (fR h a0 54) (ii 0) x1.toInt64) (fR (sJ h (fR h a0 54) (ii 0) x1.toInt64) a0 54) (ii 1) ((eI (sJ h (fR h a0 54) (ii 0) x1.toInt64) (fR (sJ h (fR h a0 54) (ii 0) x1.toInt64) a0 2) x1).toInt64)) a0 3) x1).toInt64)) a0 54) (ii 3) x2.toInt64) a0 12 54 2 ∧ oC (sJ (sJ (sJ (sJ h (fR h a0 54) (ii 0) x1.toInt64) (fR (sJ h (fR h a0 54) (ii 0) x1.toInt64) a0 54) (ii 1) ((eI (sJ h (fR h a0 54) (ii 0) x1.toInt64) (fR (sJ h (fR h a0 54) (ii 0) x1.toInt64) a0 2) x1).toInt64)) (fR (sJ (sJ h (fR h a0 54) (ii 0) x1.toInt64) (fR (sJ h (fR h a0 54) (ii 0) x1.toInt64) a0 54) (ii 1) ((eI (sJ h (fR h a0 54) (ii 0) x1.toInt64) (fR (sJ h (fR h a0 54) (ii 0) x1.toInt64) a0 2) x1).toInt64)) a0 54) (ii 2) ((eI (sJ (sJ h (fR h a0 54) (ii 0) x1.toInt64) (fR (sJ h (fR h a0 54) (ii 0) x1.toInt64) a0 54) (ii 1) ((eI (sJ h (fR h a0 54) (ii 0) x1.toInt64) (fR (sJ h (fR h a0 54) (ii 0) x1.toInt64) a0 2) x1).toInt64)) (fR (sJ (sJ h (fR h a0 54) (ii 0) x1.toInt64) (fR (sJ h (fR h a0 54) (ii 0) x1.toInt64) a0 54) (ii 1) ((eI (sJ h (fR h a0 54) (ii 0) x1.toInt64) (fR (sJ h (fR h a0 54) (ii 0) x1.toInt64) a0 2) x1).toInt64)) a0 3) x1).toInt64)) (fR (sJ (sJ (sJ h (fR h a0 54) (ii 0) x1.toInt64) (fR (sJ h (fR h a0 54) (ii 0) x1.toInt64) a0 54) (ii 1) ((eI (sJ h (fR h a0 54) (ii 0) x1.toInt64) (fR (sJ h (fR h a0 54) (ii 0) x1.toInt64) a0 2) x1).toInt64)) (fR (sJ (sJ h (fR h a0 54) (ii 0) x1.toInt64) (fR (sJ h (fR h a0 54) (ii 0) x1.toInt64) a0 54) (ii 1) ((eI (sJ h (fR h a0 54) (ii 0) x1.toInt64) (fR (sJ h (fR h a0 54) (ii 0) x1.toInt64) a0 2) x1).toInt64)) a0 54) (ii 2) ((eI (sJ (sJ h (fR h a0 54) (ii 0) x1.toInt64) (fR (sJ h (fR h a0 54) (ii 0) x1.toInt64) a0 54) (ii 1) ((eI (sJ h (fR h a0 54) (ii 0) x1.toInt64) (fR (sJ h (fR h a0 54) (ii 0) x1.toInt64) a0 2) x1).toInt64)) (fR (sJ (sJ h (fR h a0 54) (ii 0) x1.toInt64) (fR (sJ h (fR h a0 54) (ii 0) x1.toInt64) a0 54) (ii 1) ((eI (sJ h (fR h a0 54) (ii 0) x1.toInt64) (fR (sJ h (fR h a0 54) (ii 0) x1.toInt64) a0 2) x1).toInt64)) a0 3) x1).toInt64)) a0 54) (ii 3) x2.toInt64) a0 = 12 ∧ GoCi d 247 [.ref a0, .int x1, .int x2] (sJ (sJ (sJ (sJ h (fR h a0 54) (ii 0) x1.toInt64) (fR (sJ h (fR h a0 54) (ii 0) x1.toInt64) a0 54) (ii 1) ((eI (sJ h (fR h a0 54) (ii 0) x1.toInt64) (fR (sJ h (fR h a0 54) (ii 0) x1.toInt64) a0 2) x1).toInt64)) (fR (sJ (sJ h (fR h a0 54) (ii 0) x1.toInt64) (fR (sJ h (fR h a0 54) (ii 0) x1.toInt64) a0 54) (ii 1) ((eI (sJ h (fR h a0 54) (ii 0) x1.toInt64) (fR (sJ h (fR h a0 54) (ii 0) x1.toInt64) a0 2) x1).toInt64)) a0 54) (ii 2) ((eI (sJ (sJ h (fR h a0 54) (ii 0) x1.toInt64) (fR (sJ h (fR h a0 54) (ii 0) x1.toInt64) a0 54) (ii 1) ((eI (sJ h (fR h a0 54) (ii 0) x1.toInt64) (fR (sJ h (fR h a0 54) (ii 0) x1.toInt64) a0 2) x1).toInt64)) (fR (sJ (sJ h (fR h a0 54) (ii 0) x1.toInt64) (fR (sJ h (fR h a0 54) (ii 0) x1.toInt64) a0 54) (ii 1) ((eI (sJ h (fR h a0 54) (ii 0) x1.toInt64) (fR (sJ h (fR h a0 54) (ii 0) x1.toInt64) a0 2) x1).toInt64)) a0 3) x1).toInt64)) (fR (sJ (sJ (sJ h (fR h a0 54) (ii 0) x1.toInt64) (fR (sJ h (fR h a0 54) (ii 0) x1.toInt64) a0 54) (ii 1) ((eI (sJ h (fR h a0 54) (ii 0) x1.toInt64) (fR (sJ h (fR h a0 54) (ii 0) x1.toInt64) a0 2) x1).toInt64)) (fR (sJ (sJ h (fR h a0 54) (ii 0) x1.toInt64) (fR (sJ h (fR h a0 54) (ii 0) x1.toInt64) a0 54) (ii 1) ((eI (sJ h (fR h a0 54) (ii 0) x1.toInt64) (fR (sJ h (fR h a0 54) (ii 0) x1.toInt64) a0 2) x1).toInt64)) a0 54) (ii 2) ((eI (sJ (sJ h (fR h a0 54) (ii 0) x1.toInt64) (fR (sJ h (fR h a0 54) (ii 0) x1.toInt64) a0 54) (ii 1) ((eI (sJ h (fR h a0 54) (ii 0) x1.toInt64) (fR (sJ h (fR h a0 54) (ii 0) x1.toInt64) a0 2) x1).toInt64)) (fR (sJ (sJ h (fR h a0 54) (ii 0) x1.toInt64) (fR (sJ h (fR h a0 54) (ii 0) x1.toInt64) a0 54) (ii 1) ((eI (sJ h (fR h a0 54) (ii 0) x1.toInt64) (fR (sJ h (fR h a0 54) (ii 0) x1.toInt64) a0 2) x1).toInt64)) a0 3) x1).toInt64)) a0 54) (ii 3) x2.toInt64) (fun v1 h1 => (if v1 = ii 0 then (Go d 280 61 [some (.ref a0), some (.int x1), some (.int x2)] [.long (jj 0), .int (ii 4), .ref (fR (sJ (sJ (sJ (sJ h (fR h a0 54) (ii 0) x1.toInt64) (fR (sJ h (fR h a0 54) (ii 0) x1.toInt64) a0 54) (ii 1) ((eI (sJ h (fR h a0 54) (ii 0) x1.toInt64) (fR (sJ h (fR h a0 54) (ii 0) x1.toInt64) a0 2) x1).toInt64)) (fR (sJ (sJ h (fR h a0 54) (ii 0) x1.toInt64) (fR (sJ h (fR h a0 54) (ii 0) x1.toInt64) a0 54) (ii 1) ((eI (sJ h (fR h a0 54) (ii 0) x1.toInt64) (fR (sJ h (fR h a0 54) (ii 0) x1.toInt64) a0 2) x1).toInt64)) a0 54) (ii 2) ((eI (sJ (sJ h (fR h a0 54) (ii 0) x1.toInt64) (fR (sJ h (fR h a0 54) (ii 0) x1.toInt64) a0 54) (ii 1) ((eI (sJ h (fR h a0 54) (ii 0) x1.toInt64) (fR (sJ h (fR h a0 54) (ii 0) x1.toInt64) a0 2) x1).toInt64)) (fR (sJ (sJ h (fR h a0 54) (ii 0) x1.toInt64) (fR (sJ h (fR h a0 54) (ii 0) x1.toInt64) a0 54) (ii 1) ((eI (sJ h (fR h a0 54) (ii 0) x1.toInt64) (fR (sJ h (fR h a0 54) (ii 0) x1.toInt64) a0 2) x1).toInt64)) a0 3) x1).toInt64)) (fR (sJ (sJ (sJ h (fR h a0 54) (ii 0) x1.toInt64) (fR (sJ h (fR h a0 54) (ii 0) x1.toInt64) a0 54) (ii 1) ((eI (sJ h (fR h a0 54) (ii 0) x1.toInt64) (fR (sJ h (fR h a0 54) (ii 0) x1.toInt64) a0 2) x1).toInt64)) (fR (sJ (sJ h (fR h a0 54) (ii 0) x1.toInt64) (fR (sJ h (fR h a0 54) (ii 0) x1.toInt64) a0 54) (ii 1) ((eI (sJ h (fR h a0 54) (ii 0) x1.toInt64) (fR (sJ h (fR h a0 54) (ii 0) x1.toInt64) a0 2) x1).toInt64)) a0 54) (ii 2) ((eI (sJ (sJ h (fR h a0 54) (ii 0) x1.toInt64) (fR (sJ h (fR h a0 54) (ii 0) x1.toInt64) a0 54) (ii 1) ((eI (sJ h (fR h a0 54) (ii 0) x1.toInt64) (fR (sJ h (fR h a0 54) (ii 0) x1.toInt64) a0 2) x1).toInt64)) (fR (sJ (sJ h (fR h a0 54) (ii 0) x1.toInt64) (fR (sJ h (fR h a0 54) (ii 0) x1.toInt64) a0 54) (ii 1) ((eI (sJ h (fR h a0 54) (ii 0) x1.toInt64) (fR (sJ h (fR h a0 54) (ii 0) x1.toInt64) a0 2) x1).toInt64)) a0 3) x1).toInt64)) a0 54) (ii 3) x2.toInt64) a0 54)] h1 Q) else (Go d 280 61 [some (.ref a0), some (.int x1), some (.int x2)] [.long (jj 1), .int (ii 4), .ref (fR (sJ (sJ (sJ (sJ h (fR h a0 54) (ii 0) x1.toInt64) (fR (sJ h (fR h a0 54) (ii 0) x1.toInt64) a0 54) (ii 1) ((eI (sJ h (fR h a0 54) (ii 0) x1.toInt64) (fR (sJ h (fR h a0 54) (ii 0) x1.toInt64) a0 2) x1).toInt64)) (fR (sJ (sJ h (fR h a0 54) (ii 0) x1.toInt64) (fR (sJ h (fR h a0 54) (ii 0) x1.toInt64) a0 54) (ii 1) ((eI (sJ h (fR h a0 54) (ii 0) x1.toInt64) (fR (sJ h (fR h a0 54) (ii 0) x1.toInt64) a0 2) x1).toInt64)) a0 54) (ii 2) ((eI (sJ (sJ h (fR h a0 54) (ii 0) x1.toInt64) (fR (sJ h (fR h a0 54) (ii 0) x1.toInt64) a0 54) (ii 1) ((eI (sJ h (fR h a0 54) (ii 0) x1.toInt64) (fR (sJ h (fR h a0 54) (ii 0) x1.toInt64) a0 2) x1).toInt64)) (fR (sJ (sJ h (fR h a0 54) (ii 0) x1.toInt64) (fR (sJ h (fR h a0 54) (ii 0) x1.toInt64) a0 54) (ii 1) ((eI (sJ h (fR h a0 54) (ii 0) x1.toInt64) (fR (sJ h (fR h a0 54) (ii 0) x1.toInt64) a0 2) x1).toInt64)) a0 3) x1).toInt64)) (fR (sJ (sJ (sJ h (fR h a0 54) (ii 0) x1.toInt64) (fR (sJ h (fR h a0 54) (ii 0) x1.toInt64) a0 54) (ii 1) ((eI (sJ h (fR h a0 54) (ii 0) x1.toInt64) (fR (sJ h (fR h a0 54) (ii 0) x1.toInt64) a0 2) x1).toInt64)) (fR (sJ (sJ h (fR h a0 54) (ii 0) x1.toInt64) (fR (sJ h (fR h a0 54) (ii 0) x1.toInt64) a0 54) (ii 1) ((eI (sJ h (fR h a0 54) (ii 0) x1.toInt64) (fR (sJ h (fR h a0 54) (ii 0) x1.toInt64) a0 2) x1).toInt64)) a0 54) (ii 2) ((eI (sJ (sJ h (fR h a0 54) (ii 0) x1.toInt64) (fR (sJ h (fR h a0 54) (ii 0) x1.toInt64) a0 54) (ii 1) ((eI (sJ h (fR h a0 54) (ii 0) x1.toInt64) (fR (sJ h (fR h a0 54) (ii 0) x1.toInt64) a0 2) x1).toInt64)) (fR (sJ (sJ h (fR h a0 54) (ii 0) x1.toInt64) (fR (sJ h (fR h a0 54) (ii 0) x1.toInt64) a0 54) (ii 1) ((eI (sJ h (fR h a0 54) (ii 0) x1.toInt64) (fR (sJ h (fR h a0 54) (ii 0) x1.toInt64) a0 2) x1).toInt64)) a0 3) x1).toInt64)) a0 54) (ii 3) x2.toInt64) a0 54)] h1 Q))) := by
  refine (G_aload rfl (mF fc280 (by rfl))).trans ?_
  refine (G_getR (c := 12) (k := 54) rfl rfl rfl (mF fc280 (by rfl))).trans (andR ?_)
  refine (G_iconst (mF fc280 (by rfl))).trans ?_
  refine (G_iload rfl (mF fc280 (by rfl))).trans ?_
  refine (G_i2l (mF fc280 (by rfl))).trans ?_
  refine (G_lastore (mF fc280 (by rfl))).trans (andR ?_)
  refine (G_aload rfl (mF fc280 (by rfl))).trans ?_
  refine (G_getR (c := 12) (k := 54) rfl rfl rfl (mF fc280 (by rfl))).trans (andR ?_)
  refine (G_iconst (mF fc280 (by rfl))).trans ?_
  refine (G_aload rfl (mF fc280 (by rfl))).trans ?_
  refine (G_getR (c := 12) (k := 2) rfl rfl rfl (mF fc280 (by rfl))).trans (andR ?_)
  refine (G_iload rfl (mF fc280 (by rfl))).trans ?_
  refine (G_iaload (mF fc280 (by rfl))).trans (andR ?_)
  refine (G_i2l (mF fc280 (by rfl))).trans ?_
  refine (G_lastore (mF fc280 (by rfl))).trans (andR ?_)
  refine (G_aload rfl (mF fc280 (by rfl))).trans ?_
  refine (G_getR (c := 12) (k := 54) rfl rfl rfl (mF fc280 (by rfl))).trans (andR ?_)
  refine (G_iconst (mF fc280 (by rfl))).trans ?_
  refine (G_aload rfl (mF fc280 (by rfl))).trans ?_
  refine (G_getR (c := 12) (k := 3) rfl rfl rfl (mF fc280 (by rfl))).trans (andR ?_)
  refine (G_iload rfl (mF fc280 (by rfl))).trans ?_
  refine (G_iaload (mF fc280 (by rfl))).trans (andR ?_)
  refine (G_i2l (mF fc280 (by rfl))).trans ?_
  refine (G_lastore (mF fc280 (by rfl))).trans (andR ?_)
  refine (G_aload rfl (mF fc280 (by rfl))).trans ?_
  refine (G_getR (c := 12) (k := 54) rfl rfl rfl (mF fc280 (by rfl))).trans (andR ?_)
  refine (G_iconst (mF fc280 (by rfl))).trans ?_
  refine (G_iload rfl (mF fc280 (by rfl))).trans ?_
  refine (G_i2l (mF fc280 (by rfl))).trans ?_
  refine (G_lastore (mF fc280 (by rfl))).trans (andR ?_)
  refine (G_aload rfl (mF fc280 (by rfl))).trans ?_
  refine (G_getR (c := 12) (k := 54) rfl rfl rfl (mF fc280 (by rfl))).trans (andR ?_)
  refine (G_iconst (mF fc280 (by rfl))).trans ?_
  refine (G_aload rfl (mF fc280 (by rfl))).trans ?_
  refine (G_iload rfl (mF fc280 (by rfl))).trans ?_
  refine (G_iload rfl (mF fc280 (by rfl))).trans ?_
  refine (G_Vi (q := 126659) (y := 247) (a := a0) (c := 12) rfl rfl rfl rfl (by decide) rfl (as := [.ref a0, .int x1, .int x2]) (rest := [.int (ii 4), .ref (fR (sJ (sJ (sJ (sJ h (fR h a0 54) (ii 0) x1.toInt64) (fR (sJ h (fR h a0 54) (ii 0) x1.toInt64) a0 54) (ii 1) ((eI (sJ h (fR h a0 54) (ii 0) x1.toInt64) (fR (sJ h (fR h a0 54) (ii 0) x1.toInt64) a0 2) x1).toInt64)) (fR (sJ (sJ h (fR h a0 54) (ii 0) x1.toInt64) (fR (sJ h (fR h a0 54) (ii 0) x1.toInt64) a0 54) (ii 1) ((eI (sJ h (fR h a0 54) (ii 0) x1.toInt64) (fR (sJ h (fR h a0 54) (ii 0) x1.toInt64) a0 2) x1).toInt64)) a0 54) (ii 2) ((eI (sJ (sJ h (fR h a0 54) (ii 0) x1.toInt64) (fR (sJ h (fR h a0 54) (ii 0) x1.toInt64) a0 54) (ii 1) ((eI (sJ h (fR h a0 54) (ii 0) x1.toInt64) (fR (sJ h (fR h a0 54) (ii 0) x1.toInt64) a0 2) x1).toInt64)) (fR (sJ (sJ h (fR h a0 54) (ii 0) x1.toInt64) (fR (sJ h (fR h a0 54) (ii 0) x1.toInt64) a0 54) (ii 1) ((eI (sJ h (fR h a0 54) (ii 0) x1.toInt64) (fR (sJ h (fR h a0 54) (ii 0) x1.toInt64) a0 2) x1).toInt64)) a0 3) x1).toInt64)) (fR (sJ (sJ (sJ h (fR h a0 54) (ii 0) x1.toInt64) (fR (sJ h (fR h a0 54) (ii 0) x1.toInt64) a0 54) (ii 1) ((eI (sJ h (fR h a0 54) (ii 0) x1.toInt64) (fR (sJ h (fR h a0 54) (ii 0) x1.toInt64) a0 2) x1).toInt64)) (fR (sJ (sJ h (fR h a0 54) (ii 0) x1.toInt64) (fR (sJ h (fR h a0 54) (ii 0) x1.toInt64) a0 54) (ii 1) ((eI (sJ h (fR h a0 54) (ii 0) x1.toInt64) (fR (sJ h (fR h a0 54) (ii 0) x1.toInt64) a0 2) x1).toInt64)) a0 54) (ii 2) ((eI (sJ (sJ h (fR h a0 54) (ii 0) x1.toInt64) (fR (sJ h (fR h a0 54) (ii 0) x1.toInt64) a0 54) (ii 1) ((eI (sJ h (fR h a0 54) (ii 0) x1.toInt64) (fR (sJ h (fR h a0 54) (ii 0) x1.toInt64) a0 2) x1).toInt64)) (fR (sJ (sJ h (fR h a0 54) (ii 0) x1.toInt64) (fR (sJ h (fR h a0 54) (ii 0) x1.toInt64) a0 54) (ii 1) ((eI (sJ h (fR h a0 54) (ii 0) x1.toInt64) (fR (sJ h (fR h a0 54) (ii 0) x1.toInt64) a0 2) x1).toInt64)) a0 3) x1).toInt64)) a0 54) (ii 3) x2.toInt64) a0 54)]) rfl rfl (mF fc280 (by rfl))).trans (andR (GoCi_congr fun v1 h1 => ?_))
  refine (G_eq (mF fc280 (by rfl))).trans (gi ?_ ?_)
  ·
    refine (G_jsr_w (mF fc280 (by rfl))).trans ?_
    exact Iff.rfl
  ·
    refine (G_jsr_w (mF fc280 (by rfl))).trans ?_
    refine (G_goto (mF fc280 (by rfl))).trans ?_
    exact Iff.rfl
theorem b280_61 {d : Nat} {h : mHeap} {Q : Option Value → mHeap → Prop} {a0 : Nat} {x1 : Int32} {x2 : Int32} {r0 : Nat} {s1 : Int32} {t2 : Int64} : Go d 280 61 [some (.ref a0), some (.int x1), some (.int x2)] [.long t2, .int s1, .ref r0] h Q ↔ (64 ≤ r0 ∧ okJ h r0 s1) ∧ okF (sJ h r0 s1 t2) a0 12 54 2 ∧ oC (sJ h r0 s1 t2) a0 = 12 ∧ GoCi d 248 [.ref a0, .int x2] (sJ h r0 s1 t2) (fun v1 h1 => (64 ≤ (fR (sJ h r0 s1 t2) a0 54) ∧ okJ h1 (fR (sJ h r0 s1 t2) a0 54) (ii 5)) ∧ okF (sJ h1 (fR (sJ h r0 s1 t2) a0 54) (ii 5) v1.toInt64) a0 12 54 2 ∧ oC (sJ h1 (fR (sJ h r0 s1 t2) a0 54) (ii 5) v1.toInt64) a0 = 12 ∧ GoCi d 246 [.ref a0, .int (ii 6)] (sJ h1 (fR (sJ h r0 s1 t2) a0 54) (ii 5) v1.toInt64) (fun v2 h2 => (64 ≤ (fR (sJ h1 (fR (sJ h r0 s1 t2) a0 54) (ii 5) v1.toInt64) a0 54) ∧ okJ h2 (fR (sJ h1 (fR (sJ h r0 s1 t2) a0 54) (ii 5) v1.toInt64) a0 54) (ii 6)) ∧ okF (sJ h2 (fR (sJ h1 (fR (sJ h r0 s1 t2) a0 54) (ii 5) v1.toInt64) a0 54) (ii 6) v2.toInt64) a0 12 54 2 ∧ oC (sJ h2 (fR (sJ h1 (fR (sJ h r0 s1 t2) a0 54) (ii 5) v1.toInt64) a0 54) (ii 6) v2.toInt64) a0 = 12 ∧ GoCi d 279 [.ref a0, .int x1] (sJ h2 (fR (sJ h1 (fR (sJ h r0 s1 t2) a0 54) (ii 5) v1.toInt64) a0 54) (ii 6) v2.toInt64) (fun v3 h3 => (64 ≤ (fR (sJ h2 (fR (sJ h1 (fR (sJ h r0 s1 t2) a0 54) (ii 5) v1.toInt64) a0 54) (ii 6) v2.toInt64) a0 54) ∧ okJ h3 (fR (sJ h2 (fR (sJ h1 (fR (sJ h r0 s1 t2) a0 54) (ii 5) v1.toInt64) a0 54) (ii 6) v2.toInt64) a0 54) (ii 7)) ∧ okF (sJ h3 (fR (sJ h2 (fR (sJ h1 (fR (sJ h r0 s1 t2) a0 54) (ii 5) v1.toInt64) a0 54) (ii 6) v2.toInt64) a0 54) (ii 7) v3.toInt64) a0 12 54 2 ∧ okF (sJ h3 (fR (sJ h2 (fR (sJ h1 (fR (sJ h r0 s1 t2) a0 54) (ii 5) v1.toInt64) a0 54) (ii 6) v2.toInt64) a0 54) (ii 7) v3.toInt64) a0 12 1 2 ∧ okA (sJ h3 (fR (sJ h2 (fR (sJ h1 (fR (sJ h r0 s1 t2) a0 54) (ii 5) v1.toInt64) a0 54) (ii 6) v2.toInt64) a0 54) (ii 7) v3.toInt64) (fR (sJ h3 (fR (sJ h2 (fR (sJ h1 (fR (sJ h r0 s1 t2) a0 54) (ii 5) v1.toInt64) a0 54) (ii 6) v2.toInt64) a0 54) (ii 7) v3.toInt64) a0 1) .int (ii 6) ∧ (64 ≤ (fR (sJ h3 (fR (sJ h2 (fR (sJ h1 (fR (sJ h r0 s1 t2) a0 54) (ii 5) v1.toInt64) a0 54) (ii 6) v2.toInt64) a0 54) (ii 7) v3.toInt64) a0 54) ∧ okJ (sJ h3 (fR (sJ h2 (fR (sJ h1 (fR (sJ h r0 s1 t2) a0 54) (ii 5) v1.toInt64) a0 54) (ii 6) v2.toInt64) a0 54) (ii 7) v3.toInt64) (fR (sJ h3 (fR (sJ h2 (fR (sJ h1 (fR (sJ h r0 s1 t2) a0 54) (ii 5) v1.toInt64) a0 54) (ii 6) v2.toInt64) a0 54) (ii 7) v3.toInt64) a0 54) (ii 8)) ∧ okF (sJ (sJ h3 (fR (sJ h2 (fR (sJ h1 (fR (sJ h r0 s1 t2) a0 54) (ii 5) v1.toInt64) a0 54) (ii 6) v2.toInt64) a0 54) (ii 7) v3.toInt64) (fR (sJ h3 (fR (sJ h2 (fR (sJ h1 (fR (sJ h r0 s1 t2) a0 54) (ii 5) v1.toInt64) a0 54) (ii 6) v2.toInt64) a0 54) (ii 7) v3.toInt64) a0 54) (ii 8) ((eI (sJ h3 (fR (sJ h2 (fR (sJ h1 (fR (sJ h r0 s1 t2) a0 54) (ii 5) v1.toInt64) a0 54) (ii 6) v2.toInt64) a0 54) (ii 7) v3.toInt64) (fR (sJ h3 (fR (sJ h2 (fR (sJ h1 (fR (sJ h r0 s1 t2) a0 54) (ii 5) v1.toInt64) a0 54) (ii 6) v2.toInt64) a0 54) (ii 7) v3.toInt64) a0 1) (ii 6)).toInt64)) a0 12 54 2 ∧ okF (sJ (sJ h3 (fR (sJ h2 (fR (sJ h1 (fR (sJ h r0 s1 t2) a0 54) (ii 5) v1.toInt64) a0 54) (ii 6) v2.toInt64) a0 54) (ii 7) v3.toInt64) (fR (sJ h3 (fR (sJ h2 (fR (sJ h1 (fR (sJ h r0 s1 t2) a0 54) (ii 5) v1.toInt64) a0 54) (ii 6) v2.toInt64) a0 54) (ii 7) v3.toInt64) a0 54) (ii 8) ((eI (sJ h3 (fR (sJ h2 (fR (sJ h1 (fR (sJ h r0 s1 t2) a0 54) (ii 5) v1.toInt64) a0 54) (ii 6) v2.toInt64) a0 54) (ii 7) v3.toInt64) (fR (sJ h3 (fR (sJ h2 (fR (sJ h1 (fR (sJ h r0 s1 t2) a0 54) (ii 5) v1.toInt64) a0 54) (ii 6) v2.toInt64) a0 54) (ii 7) v3.toInt64) a0 1) (ii 6)).toInt64)) a0 12 4 2 ∧ okA (sJ (sJ h3 (fR (sJ h2 (fR (sJ h1 (fR (sJ h r0 s1 t2) a0 54) (ii 5) v1.toInt64) a0 54) (ii 6) v2.toInt64) a0 54) (ii 7) v3.toInt64) (fR (sJ h3 (fR (sJ h2 (fR (sJ h1 (fR (sJ h r0 s1 t2) a0 54) (ii 5) v1.toInt64) a0 54) (ii 6) v2.toInt64) a0 54) (ii 7) v3.toInt64) a0 54) (ii 8) ((eI (sJ h3 (fR (sJ h2 (fR (sJ h1 (fR (sJ h r0 s1 t2) a0 54) (ii 5) v1.toInt64) a0 54) (ii 6) v2.toInt64) a0 54) (ii 7) v3.toInt64) (fR (sJ h3 (fR (sJ h2 (fR (sJ h1 (fR (sJ h r0 s1 t2) a0 54) (ii 5) v1.toInt64) a0 54) (ii 6) v2.toInt64) a0 54) (ii 7) v3.toInt64) a0 1) (ii 6)).toInt64)) (fR (sJ (sJ h3 (fR (sJ h2 (fR (sJ h1 (fR (sJ h r0 s1 t2) a0 54) (ii 5) v1.toInt64) a0 54) (ii 6) v2.toInt64) a0 54) (ii 7) v3.toInt64) (fR (sJ h3 (fR (sJ h2 (fR (sJ h1 (fR (sJ h r0 s1 t2) a0 54) (ii 5) v1.toInt64) a0 54) (ii 6) v2.toInt64) a0 54) (ii 7) v3.toInt64) a0 54) (ii 8) ((eI (sJ h3 (fR (sJ h2 (fR (sJ h1 (fR (sJ h r0 s1 t2) a0 54) (ii 5) v1.toInt64) a0 54) (ii 6) v2.toInt64) a0 54) (ii 7) v3.toInt64) (fR (sJ h3 (fR (sJ h2 (fR (sJ h1 (fR (sJ h r0 s1 t2) a0 54) (ii 5) v1.toInt64) a0 54) (ii 6) v2.toInt64) a0 54) (ii 7) v3.toInt64) a0 1) (ii 6)).toInt64)) a0 4) .int x1 ∧ (64 ≤ (fR (sJ (sJ h3 (fR (sJ h2 (fR (sJ h1 (fR (sJ h r0 s1 t2) a0 54) (ii 5) v1.toInt64) a0 54) (ii 6) v2.toInt64) a0 54) (ii 7) v3.toInt64) (fR (sJ h3 (fR (sJ h2 (fR (sJ h1 (fR (sJ h r0 s1 t2) a0 54) (ii 5) v1.toInt64) a0 54) (ii 6) v2.toInt64) a0 54) (ii 7) v3.toInt64) a0 54) (ii 8) ((eI (sJ h3 (fR (sJ h2 (fR (sJ h1 (fR (sJ h r0 s1 t2) a0 54) (ii 5) v1.toInt64) a0 54) (ii 6) v2.toInt64) a0 54) (ii 7) v3.toInt64) (fR (sJ h3 (fR (sJ h2 (fR (sJ h1 (fR (sJ h r0 s1 t2) a0 54) (ii 5) v1.toInt64) a0 54) (ii 6) v2.toInt64) a0 54) (ii 7) v3.toInt64) a0 1) (ii 6)).toInt64)) a0 54) ∧ okJ (sJ (sJ h3 (fR (sJ h2 (fR (sJ h1 (fR (sJ h r0 s1 t2) a0 54) (ii 5) v1.toInt64) a0 54) (ii 6) v2.toInt64) a0 54) (ii 7) v3.toInt64) (fR (sJ h3 (fR (sJ h2 (fR (sJ h1 (fR (sJ h r0 s1 t2) a0 54) (ii 5) v1.toInt64) a0 54) (ii 6) v2.toInt64) a0 54) (ii 7) v3.toInt64) a0 54) (ii 8) ((eI (sJ h3 (fR (sJ h2 (fR (sJ h1 (fR (sJ h r0 s1 t2) a0 54) (ii 5) v1.toInt64) a0 54) (ii 6) v2.toInt64) a0 54) (ii 7) v3.toInt64) (fR (sJ h3 (fR (sJ h2 (fR (sJ h1 (fR (sJ h r0 s1 t2) a0 54) (ii 5) v1.toInt64) a0 54) (ii 6) v2.toInt64) a0 54) (ii 7) v3.toInt64) a0 1) (ii 6)).toInt64)) (fR (sJ (sJ h3 (fR (sJ h2 (fR (sJ h1 (fR (sJ h r0 s1 t2) a0 54) (ii 5) v1.toInt64) a0 54) (ii 6) v2.toInt64) a0 54) (ii 7) v3.toInt64) (fR (sJ h3 (fR (sJ h2 (fR (sJ h1 (fR (sJ h r0 s1 t2) a0 54) (ii 5) v1.toInt64) a0 54) (ii 6) v2.toInt64) a0 54) (ii 7) v3.toInt64) a0 54) (ii 8) ((eI (sJ h3 (fR (sJ h2 (fR (sJ h1 (fR (sJ h r0 s1 t2) a0 54) (ii 5) v1.toInt64) a0 54) (ii 6) v2.toInt64) a0 54) (ii 7) v3.toInt64) (fR (sJ h3 (fR (sJ h2 (fR (sJ h1 (fR (sJ h r0 s1 t2) a0 54) (ii 5) v1.toInt64) a0 54) (ii 6) v2.toInt64) a0 54) (ii 7) v3.toInt64) a0 1) (ii 6)).toInt64)) a0 54) (ii 9)) ∧ Q none (sJ (sJ (sJ h3 (fR (sJ h2 (fR (sJ h1 (fR (sJ h r0 s1 t2) a0 54) (ii 5) v1.toInt64) a0 54) (ii 6) v2.toInt64) a0 54) (ii 7) v3.toInt64) (fR (sJ h3 (fR (sJ h2 (fR (sJ h1 (fR (sJ h r0 s1 t2) a0 54) (ii 5) v1.toInt64) a0 54) (ii 6) v2.toInt64) a0 54) (ii 7) v3.toInt64) a0 54) (ii 8) ((eI (sJ h3 (fR (sJ h2 (fR (sJ h1 (fR (sJ h r0 s1 t2) a0 54) (ii 5) v1.toInt64) a0 54) (ii 6) v2.toInt64) a0 54) (ii 7) v3.toInt64) (fR (sJ h3 (fR (sJ h2 (fR (sJ h1 (fR (sJ h r0 s1 t2) a0 54) (ii 5) v1.toInt64) a0 54) (ii 6) v2.toInt64) a0 54) (ii 7) v3.toInt64) a0 1) (ii 6)).toInt64)) (fR (sJ (sJ h3 (fR (sJ h2 (fR (sJ h1 (fR (sJ h r0 s1 t2) a0 54) (ii 5) v1.toInt64) a0 54) (ii 6) v2.toInt64) a0 54) (ii 7) v3.toInt64) (fR (sJ h3 (fR (sJ h2 (fR (sJ h1 (fR (sJ h r0 s1 t2) a0 54) (ii 5) v1.toInt64) a0 54) (ii 6) v2.toInt64) a0 54) (ii 7) v3.toInt64) a0 54) (ii 8) ((eI (sJ h3 (fR (sJ h2 (fR (sJ h1 (fR (sJ h r0 s1 t2) a0 54) (ii 5) v1.toInt64) a0 54) (ii 6) v2.toInt64) a0 54) (ii 7) v3.toInt64) (fR (sJ h3 (fR (sJ h2 (fR (sJ h1 (fR (sJ h r0 s1 t2) a0 54) (ii 5) v1.toInt64) a0 54) (ii 6) v2.toInt64) a0 54) (ii 7) v3.toInt64) a0 1) (ii 6)).toInt64)) a0 54) (ii 9) ((eI (sJ (sJ h3 (fR (sJ h2 (fR (sJ h1 (fR (sJ h r0 s1 t2) a0 54) (ii 5) v1.toInt64) a0 54) (ii 6) v2.toInt64) a0 54) (ii 7) v3.toInt64) (fR (sJ h3 (fR (sJ h2 (fR (sJ h1 (fR (sJ h r0 s1 t2) a0 54) (ii 5) v1.toInt64) a0 54) (ii 6) v2.toInt64) a0 54) (ii 7) v3.toInt64) a0 54) (ii 8) ((eI (sJ h3 (fR (sJ h2 (fR (sJ h1 (fR (sJ h r0 s1 t2) a0 54) (ii 5) v1.toInt64) a0 54) (ii 6) v2.toInt64) a0 54) (ii 7) v3.toInt64) (fR (sJ h3 (fR (sJ h2 (fR (sJ h1 (fR (sJ h r0 s1 t2) a0 54) (ii 5) v1.toInt64) a0 54) (ii 6) v2.toInt64) a0 54) (ii 7) v3.toInt64) a0 1) (ii 6)).toInt64)) (fR (sJ (sJ h3 (fR (sJ h2 (fR (sJ h1 (fR (sJ h r0 s1 t2) a0 54) (ii 5) v1.toInt64) a0 54) (ii 6) v2.toInt64) a0 54) (ii 7) v3.toInt64) (fR (sJ h3 (fR (sJ h2 (fR (sJ h1 (fR (sJ h r0 s1 t2) a0 54) (ii 5) v1.toInt64) a0 54) (ii 6) v2.toInt64) a0 54) (ii 7) v3.toInt64) a0 54) (ii 8) ((eI (sJ h3 (fR (sJ h2 (fR (sJ h1 (fR (sJ h r0 s1 t2) a0 54) (ii 5) v1.toInt64) a0 54) (ii 6) v2.toInt64) a0 54) (ii 7) v3.toInt64) (fR (sJ h3 (fR (sJ h2 (fR (sJ h1 (fR (sJ h r0 s1 t2) a0 54) (ii 5) v1.toInt64) a0 54) (ii 6) v2.toInt64) a0 54) (ii 7) v3.toInt64) a0 1) (ii 6)).toInt64)) a0 4) x1).toInt64))))) := by
  refine (G_lastore (mF fc280 (by rfl))).trans (andR ?_)
  refine (G_aload rfl (mF fc280 (by rfl))).trans ?_
  refine (G_getR (c := 12) (k := 54) rfl rfl rfl (mF fc280 (by rfl))).trans (andR ?_)
  refine (G_iconst (mF fc280 (by rfl))).trans ?_
  refine (G_aload rfl (mF fc280 (by rfl))).trans ?_
  refine (G_iload rfl (mF fc280 (by rfl))).trans ?_
  refine (G_Vi (q := 127170) (y := 248) (a := a0) (c := 12) rfl rfl rfl rfl (by decide) rfl (as := [.ref a0, .int x2]) (rest := [.int (ii 5), .ref (fR (sJ h r0 s1 t2) a0 54)]) rfl rfl (mF fc280 (by rfl))).trans (andR (GoCi_congr fun v1 h1 => ?_))
  refine (G_i2l (mF fc280 (by rfl))).trans ?_
  refine (G_lastore (mF fc280 (by rfl))).trans (andR ?_)
  refine (G_aload rfl (mF fc280 (by rfl))).trans ?_
  refine (G_getR (c := 12) (k := 54) rfl rfl rfl (mF fc280 (by rfl))).trans (andR ?_)
  refine (G_iconst (mF fc280 (by rfl))).trans ?_
  refine (G_aload rfl (mF fc280 (by rfl))).trans ?_
  refine (G_iconst (mF fc280 (by rfl))).trans ?_
  refine (G_Vi (q := 126146) (y := 246) (a := a0) (c := 12) rfl rfl rfl rfl (by decide) rfl (as := [.ref a0, .int (ii 6)]) (rest := [.int (ii 6), .ref (fR (sJ h1 (fR (sJ h r0 s1 t2) a0 54) (ii 5) v1.toInt64) a0 54)]) rfl rfl (mF fc280 (by rfl))).trans (andR (GoCi_congr fun v2 h2 => ?_))
  refine (G_i2l (mF fc280 (by rfl))).trans ?_
  refine (G_lastore (mF fc280 (by rfl))).trans (andR ?_)
  refine (G_aload rfl (mF fc280 (by rfl))).trans ?_
  refine (G_getR (c := 12) (k := 54) rfl rfl rfl (mF fc280 (by rfl))).trans (andR ?_)
  refine (G_iconst (mF fc280 (by rfl))).trans ?_
  refine (G_aload rfl (mF fc280 (by rfl))).trans ?_
  refine (G_iload rfl (mF fc280 (by rfl))).trans ?_
  refine (G_Vi (q := 143042) (y := 279) (a := a0) (c := 12) rfl rfl rfl rfl (by decide) rfl (as := [.ref a0, .int x1]) (rest := [.int (ii 7), .ref (fR (sJ h2 (fR (sJ h1 (fR (sJ h r0 s1 t2) a0 54) (ii 5) v1.toInt64) a0 54) (ii 6) v2.toInt64) a0 54)]) rfl rfl (mF fc280 (by rfl))).trans (andR (GoCi_congr fun v3 h3 => ?_))
  refine (G_i2l (mF fc280 (by rfl))).trans ?_
  refine (G_lastore (mF fc280 (by rfl))).trans (andR ?_)
  refine (G_aload rfl (mF fc280 (by rfl))).trans ?_
  refine (G_getR (c := 12) (k := 54) rfl rfl rfl (mF fc280 (by rfl))).trans (andR ?_)
  refine (G_iconst (mF fc280 (by rfl))).trans ?_
  refine (G_aload rfl (mF fc280 (by rfl))).trans ?_
  refine (G_getR (c := 12) (k := 1) rfl rfl rfl (mF fc280 (by rfl))).trans (andR ?_)
  refine (G_iconst (mF fc280 (by rfl))).trans ?_
  refine (G_iaload (mF fc280 (by rfl))).trans (andR ?_)
  refine (G_i2l (mF fc280 (by rfl))).trans ?_
  refine (G_lastore (mF fc280 (by rfl))).trans (andR ?_)
  refine (G_aload rfl (mF fc280 (by rfl))).trans ?_
  refine (G_getR (c := 12) (k := 54) rfl rfl rfl (mF fc280 (by rfl))).trans (andR ?_)
  refine (G_iconst (mF fc280 (by rfl))).trans ?_
  refine (G_aload rfl (mF fc280 (by rfl))).trans ?_
  refine (G_getR (c := 12) (k := 4) rfl rfl rfl (mF fc280 (by rfl))).trans (andR ?_)
  refine (G_iload rfl (mF fc280 (by rfl))).trans ?_
  refine (G_iaload (mF fc280 (by rfl))).trans (andR ?_)
  refine (G_i2l (mF fc280 (by rfl))).trans ?_
  refine (G_lastore (mF fc280 (by rfl))).trans (andR ?_)
  exact G_return rfl (mF fc280 (by rfl))
theorem e280 {d : Nat} {h : mHeap} {K : mHeap → Prop} {a0 : Nat} {x1 : Int32} {x2 : Int32} : GoCv (d + 1) 280 [.ref a0, .int x1, .int x2] h K ↔ Go d 280 0 [some (.ref a0), some (.int x1), some (.int x2)] [] h (rV K) := GoCv_entry rfl rfl
set_option maxRecDepth 20000 in
theorem fc281 : mCodes[281]? = some mc281 := rfl
theorem b281_0 {d : Nat} {h : mHeap} {Q : Option Value → mHeap → Prop} {a0 : Nat} {x1 : Int32} {x2 : Int32} : Go d 281 0 [some (.ref a0), some (.int x1), some (.int x2), none, none, none, none, none, none] [] h Q ↔ Go d 281 8 [some (.ref a0), some (.int x1), some (.int x2), some (.int (ii (-1))), some (.long (jj 0)), none, some (.int (ii 0)), none, none] [] h Q := by
  refine (G_iconst (mF fc281 (by rfl))).trans ?_
  refine (G_istore (k := 3) (L' := [some (.ref a0), some (.int x1), some (.int x2), some (.int (ii (-1))), none, none, none, none, none]) rfl (ltb rfl) rfl (mF fc281 (by rfl))).trans ?_
  refine (G_jsr_w (mF fc281 (by rfl))).trans ?_
  refine (G_lstore (k := 4) (L' := [some (.ref a0), some (.int x1), some (.int x2), some (.int (ii (-1))), some (.long (jj 0)), none, none, none, none]) rfl (ltb rfl) rfl (mF fc281 (by rfl))).trans ?_
  refine (G_iconst (mF fc281 (by rfl))).trans ?_
  refine (G_istore (k := 6) (L' := [some (.ref a0), some (.int x1), some (.int x2), some (.int (ii (-1))), some (.long (jj 0)), none, some (.int (ii 0)), none, none]) rfl (ltb rfl) rfl (mF fc281 (by rfl))).trans ?_
  exact Iff.rfl
theorem b281_8 {d : Nat} {h : mHeap} {Q : Option Value → mHeap → Prop} {a0 : Nat} {x1 : Int32} {x2 : Int32} {x3 : Int32} {y4 : Int64} {x6 : Int32} {l7 : Option Value} {l8 : Option Value} : Go d 281 8 [some (.ref a0), some (.int x1), some (.int x2), some (.int x3), some (.long y4), none, some (.int x6), l7, l8] [] h Q ↔ okF h a0 12 32 0 ∧ (if (fI h a0 32) ≤ x6 then (Q (some (.int x3)) h) else (oC h a0 = 12 ∧ GoCv d 280 [.ref a0, .int x2, .int x6] h (fun h1 => oC h1 a0 = 12 ∧ GoCj d 240 [.ref a0, .int x1] h1 (fun v2 h2 => (if (lg_cmp v2 y4) ≤ ii 0 then (Go d 281 46 [some (.ref a0), some (.int x1), some (.int x2), some (.int x3), some (.long y4), none, some (.int x6), some (.long v2), none] [] h2 Q) else (Go d 281 46 [some (.ref a0), some (.int x1), some (.int x2), some (.int x6), some (.long v2), none, some (.int x6), some (.long v2), none] [] h2 Q)))))) := by
  refine (G_iload rfl (mF fc281 (by rfl))).trans ?_
  refine (G_aload rfl (mF fc281 (by rfl))).trans ?_
  refine (G_getI (c := 12) (k := 32) rfl rfl rfl (mF fc281 (by rfl))).trans (andR ?_)
  refine (G_ige (mF fc281 (by rfl))).trans (gi ?_ ?_)
  ·
    refine (G_iload rfl (mF fc281 (by rfl))).trans ?_
    exact G_ireturnI rfl (mF fc281 (by rfl))
  ·
    refine (G_aload rfl (mF fc281 (by rfl))).trans ?_
    refine (G_iload rfl (mF fc281 (by rfl))).trans ?_
    refine (G_iload rfl (mF fc281 (by rfl))).trans ?_
    refine (G_Vv (q := 143555) (y := 280) (a := a0) (c := 12) rfl rfl rfl rfl (by decide) rfl (as := [.ref a0, .int x2, .int x6]) (rest := []) rfl rfl (mF fc281 (by rfl))).trans (andR (GoCv_congr fun h1 => ?_))
    refine (G_aload rfl (mF fc281 (by rfl))).trans ?_
    refine (G_iload rfl (mF fc281 (by rfl))).trans ?_
    refine (G_Vj (q := 123074) (y := 240) (a := a0) (c := 12) rfl rfl rfl rfl (by decide) rfl (as := [.ref a0, .int x1]) (rest := []) rfl rfl (mF fc281 (by rfl))).trans (andR (GoCj_congr fun v2 h2 => ?_))
    refine (G_lstore (k := 7) (L' := [some (.ref a0), some (.int x1), some (.int x2), some (.int x3), some (.long y4), none, some (.int x6), some (.long v2), none]) rfl (ltb rfl) rfl (mF fc281 (by rfl))).trans ?_
    refine (G_lload rfl (mF fc281 (by rfl))).trans ?_
    refine (G_lload rfl (mF fc281 (by rfl))).trans ?_
    refine (G_lcmp (mF fc281 (by rfl))).trans ?_
    refine (G_le (mF fc281 (by rfl))).trans (gi ?_ ?_)
    ·
      exact Iff.rfl
    ·
      refine (G_lload rfl (mF fc281 (by rfl))).trans ?_
      refine (G_lstore (k := 4) (L' := [some (.ref a0), some (.int x1), some (.int x2), some (.int x3), some (.long v2), none, some (.int x6), some (.long v2), none]) rfl (ltb rfl) rfl (mF fc281 (by rfl))).trans ?_
      refine (G_iload rfl (mF fc281 (by rfl))).trans ?_
      refine (G_istore (k := 3) (L' := [some (.ref a0), some (.int x1), some (.int x2), some (.int x6), some (.long v2), none, some (.int x6), some (.long v2), none]) rfl (ltb rfl) rfl (mF fc281 (by rfl))).trans ?_
      exact Iff.rfl
theorem b281_46 {d : Nat} {h : mHeap} {Q : Option Value → mHeap → Prop} {a0 : Nat} {x1 : Int32} {x2 : Int32} {x3 : Int32} {y4 : Int64} {x6 : Int32} {l7 : Option Value} {l8 : Option Value} : Go d 281 46 [some (.ref a0), some (.int x1), some (.int x2), some (.int x3), some (.long y4), none, some (.int x6), l7, l8] [] h Q ↔ Go d 281 8 [some (.ref a0), some (.int x1), some (.int x2), some (.int x3), some (.long y4), none, some (.int (x6 + ii 1)), l7, l8] [] h Q := by
  refine (G_iinc (k := 6) (L' := [some (.ref a0), some (.int x1), some (.int x2), some (.int x3), some (.long y4), none, some (.int (x6 + ii 1)), l7, l8]) rfl rfl rfl (mF fc281 (by rfl))).trans ?_
  refine (G_goto (mF fc281 (by rfl))).trans ?_
  exact Iff.rfl
theorem e281 {d : Nat} {h : mHeap} {K : Int32 → mHeap → Prop} {a0 : Nat} {x1 : Int32} {x2 : Int32} : GoCi (d + 1) 281 [.ref a0, .int x1, .int x2] h K ↔ Go d 281 0 [some (.ref a0), some (.int x1), some (.int x2), none, none, none, none, none, none] [] h (rI K) := GoCi_entry rfl rfl
set_option maxRecDepth 20000 in
theorem fc282 : mCodes[282]? = some mc282 := rfl
theorem b282_0 {d : Nat} {h : mHeap} {Q : Option Value → mHeap → Prop} {a0 : Nat} {x1 : Int32} {x2 : Int32} : Go d 282 0 [some (.ref a0), some (.int x1), some (.int x2), none, none, none, none] [] h Q ↔ oC h a0 = 12 ∧ GoCi d 186 [.ref a0] h (fun v1 h1 => (if v1 = ii 0 then (Q (some (.int (ii (-1)))) h1) else (oC h1 a0 = 12 ∧ GoCi d 241 [.ref a0, .int x1] h1 (fun v2 h2 => (if v2 = ii 0 then (Q (some (.int (ii (-1)))) h2) else (GoCi d 183 [.long x2.toInt64, .long (jj 1), .long (jj 60)] h2 (fun v3 h3 => (if v3 = ii 0 then (Q (some (.int (ii (-1)))) h3) else (okF h3 a0 12 1 2 ∧ okA h3 (fR h3 a0 1) .int (ii 6) ∧ (if ((eI h3 (fR h3 a0 1) (ii 6)) + x2) ≤ (ii 9999) then (okP h3 a0 12 59 ∧ Go d 282 54 [some (.ref a0), some (.int x1), some (.int x2), some (.int (ii 0)), some (.int (ii 0)), none, none] [] (sF h3 a0 59 (.int (ii 0))) Q) else (Q (some (.int (ii (-1)))) h3))))))))))) := by
  refine (G_aload rfl (mF fc282 (by rfl))).trans ?_
  refine (G_Vi (q := 95425) (y := 186) (a := a0) (c := 12) rfl rfl rfl rfl (by decide) rfl (as := [.ref a0]) (rest := []) rfl rfl (mF fc282 (by rfl))).trans (andR (GoCi_congr fun v1 h1 => ?_))
  refine (G_eq (mF fc282 (by rfl))).trans (gi ?_ ?_)
  ·
    refine (G_iconst (mF fc282 (by rfl))).trans ?_
    exact G_ireturnI rfl (mF fc282 (by rfl))
  ·
    refine (G_aload rfl (mF fc282 (by rfl))).trans ?_
    refine (G_iload rfl (mF fc282 (by rfl))).trans ?_
    refine (G_Vi (q := 123586) (y := 241) (a := a0) (c := 12) rfl rfl rfl rfl (by decide) rfl (as := [.ref a0, .int x1]) (rest := []) rfl rfl (mF fc282 (by rfl))).trans (andR (GoCi_congr fun v2 h2 => ?_))
    refine (G_eq (mF fc282 (by rfl))).trans (gi ?_ ?_)
    ·
      refine (G_iconst (mF fc282 (by rfl))).trans ?_
      exact G_ireturnI rfl (mF fc282 (by rfl))
    ·
      refine (G_iload rfl (mF fc282 (by rfl))).trans ?_
      refine (G_i2l (mF fc282 (by rfl))).trans ?_
      refine (G_jsr_w (mF fc282 (by rfl))).trans ?_
      refine (G_jsr_w (mF fc282 (by rfl))).trans ?_
      refine (G_Ti (q := 93891) (y := 183) rfl rfl rfl (as := [.long x2.toInt64, .long (jj 1), .long (jj 60)]) (rest := []) rfl rfl (mF fc282 (by rfl))).trans (GoCi_congr fun v3 h3 => ?_)
      refine (G_eq (mF fc282 (by rfl))).trans (gi ?_ ?_)
      ·
        refine (G_iconst (mF fc282 (by rfl))).trans ?_
        exact G_ireturnI rfl (mF fc282 (by rfl))
      ·
        refine (G_aload rfl (mF fc282 (by rfl))).trans ?_
        refine (G_getR (c := 12) (k := 1) rfl rfl rfl (mF fc282 (by rfl))).trans (andR ?_)
        refine (G_iconst (mF fc282 (by rfl))).trans ?_
        refine (G_iaload (mF fc282 (by rfl))).trans (andR ?_)
        refine (G_iload rfl (mF fc282 (by rfl))).trans ?_
        refine (G_iadd (mF fc282 (by rfl))).trans ?_
        refine (G_iconst (mF fc282 (by rfl))).trans ?_
        refine (G_ile (mF fc282 (by rfl))).trans (gi ?_ ?_)
        ·
          refine (G_aload rfl (mF fc282 (by rfl))).trans ?_
          refine (G_iconst (mF fc282 (by rfl))).trans ?_
          refine (G_putT (c := 12) (k := 59) rfl rfl rfl (mF fc282 (by rfl))).trans (andR ?_)
          refine (G_iconst (mF fc282 (by rfl))).trans ?_
          refine (G_istore (k := 3) (L' := [some (.ref a0), some (.int x1), some (.int x2), some (.int (ii 0)), none, none, none]) rfl (ltb rfl) rfl (mF fc282 (by rfl))).trans ?_
          refine (G_iconst (mF fc282 (by rfl))).trans ?_
          refine (G_istore (k := 4) (L' := [some (.ref a0), some (.int x1), some (.int x2), some (.int (ii 0)), some (.int (ii 0)), none, none]) rfl (ltb rfl) rfl (mF fc282 (by rfl))).trans ?_
          exact Iff.rfl
        ·
          refine (G_iconst (mF fc282 (by rfl))).trans ?_
          exact G_ireturnI rfl (mF fc282 (by rfl))
theorem b282_54 {d : Nat} {h : mHeap} {Q : Option Value → mHeap → Prop} {a0 : Nat} {x1 : Int32} {x2 : Int32} {x3 : Int32} {x4 : Int32} {l5 : Option Value} {l6 : Option Value} : Go d 282 54 [some (.ref a0), some (.int x1), some (.int x2), some (.int x3), some (.int x4), l5, l6] [] h Q ↔ (if x2 ≤ x4 then (Q (some (.int x3)) h) else (Go d 282 63 [some (.ref a0), some (.int x1), some (.int x2), some (.int x3), some (.int x4), some (.int (ii 0)), l6] [] h Q)) := by
  refine (G_iload rfl (mF fc282 (by rfl))).trans ?_
  refine (G_iload rfl (mF fc282 (by rfl))).trans ?_
  refine (G_ige (mF fc282 (by rfl))).trans (gi ?_ ?_)
  ·
    refine (G_iload rfl (mF fc282 (by rfl))).trans ?_
    exact G_ireturnI rfl (mF fc282 (by rfl))
  ·
    refine (G_iconst (mF fc282 (by rfl))).trans ?_
    refine (G_istore (k := 5) (L' := [some (.ref a0), some (.int x1), some (.int x2), some (.int x3), some (.int x4), some (.int (ii 0)), l6]) rfl (ltb rfl) rfl (mF fc282 (by rfl))).trans ?_
    exact Iff.rfl
theorem b282_63 {d : Nat} {h : mHeap} {Q : Option Value → mHeap → Prop} {a0 : Nat} {x1 : Int32} {x2 : Int32} {x3 : Int32} {x4 : Int32} {x5 : Int32} {l6 : Option Value} : Go d 282 63 [some (.ref a0), some (.int x1), some (.int x2), some (.int x3), some (.int x4), some (.int x5), l6] [] h Q ↔ okF h a0 12 1 2 ∧ okA h (fR h a0 1) .int (ii 2) ∧ (if (eI h (fR h a0 1) (ii 2)) ≤ x5 then (oC h a0 = 12 ∧ GoCv d 277 [.ref a0] h (fun h1 => Go d 282 54 [some (.ref a0), some (.int x1), some (.int x2), some (.int x3), some (.int (x4 + ii 1)), some (.int x5), l6] [] h1 Q)) else (okF h a0 12 6 2 ∧ okA h (fR h a0 6) .int x5 ∧ (if ¬ (eI h (fR h a0 6) x5) = ii 0 then (Go d 282 95 [some (.ref a0), some (.int x1), some (.int x2), some (.int x3), some (.int x4), some (.int x5), l6] [.int (ii (-1))] h Q) else (oC h a0 = 12 ∧ GoCi d 281 [.ref a0, .int x1, .int x5] h (fun v2 h2 => Go d 282 95 [some (.ref a0), some (.int x1), some (.int x2), some (.int x3), some (.int x4), some (.int x5), l6] [.int v2] h2 Q))))) := by
  refine (G_iload rfl (mF fc282 (by rfl))).trans ?_
  refine (G_aload rfl (mF fc282 (by rfl))).trans ?_
  refine (G_getR (c := 12) (k := 1) rfl rfl rfl (mF fc282 (by rfl))).trans (andR ?_)
  refine (G_iconst (mF fc282 (by rfl))).trans ?_
  refine (G_iaload (mF fc282 (by rfl))).trans (andR ?_)
  refine (G_ige (mF fc282 (by rfl))).trans (gi ?_ ?_)
  ·
    refine (G_aload rfl (mF fc282 (by rfl))).trans ?_
    refine (G_Vv (q := 142017) (y := 277) (a := a0) (c := 12) rfl rfl rfl rfl (by decide) rfl (as := [.ref a0]) (rest := []) rfl rfl (mF fc282 (by rfl))).trans (andR (GoCv_congr fun h1 => ?_))
    refine (G_iinc (k := 4) (L' := [some (.ref a0), some (.int x1), some (.int x2), some (.int x3), some (.int (x4 + ii 1)), some (.int x5), l6]) rfl rfl rfl (mF fc282 (by rfl))).trans ?_
    refine (G_goto (mF fc282 (by rfl))).trans ?_
    exact Iff.rfl
  ·
    refine (G_aload rfl (mF fc282 (by rfl))).trans ?_
    refine (G_getR (c := 12) (k := 6) rfl rfl rfl (mF fc282 (by rfl))).trans (andR ?_)
    refine (G_iload rfl (mF fc282 (by rfl))).trans ?_
    refine (G_iaload (mF fc282 (by rfl))).trans (andR ?_)
    refine (G_ne (mF fc282 (by rfl))).trans (gi ?_ ?_)
    ·
      refine (G_iconst (mF fc282 (by rfl))).trans ?_
      exact Iff.rfl
    ·
      refine (G_aload rfl (mF fc282 (by rfl))).trans ?_
      refine (G_iload rfl (mF fc282 (by rfl))).trans ?_
      refine (G_iload rfl (mF fc282 (by rfl))).trans ?_
      refine (G_Vi (q := 144067) (y := 281) (a := a0) (c := 12) rfl rfl rfl rfl (by decide) rfl (as := [.ref a0, .int x1, .int x5]) (rest := []) rfl rfl (mF fc282 (by rfl))).trans (andR (GoCi_congr fun v2 h2 => ?_))
      refine (G_goto (mF fc282 (by rfl))).trans ?_
      exact Iff.rfl
theorem b282_95 {d : Nat} {h : mHeap} {Q : Option Value → mHeap → Prop} {a0 : Nat} {x1 : Int32} {x2 : Int32} {x3 : Int32} {x4 : Int32} {x5 : Int32} {l6 : Option Value} {s0 : Int32} : Go d 282 95 [some (.ref a0), some (.int x1), some (.int x2), some (.int x3), some (.int x4), some (.int x5), l6] [.int s0] h Q ↔ (if s0 = (ii (-1)) then (Go d 282 123 [some (.ref a0), some (.int x1), some (.int x2), some (.int x3), some (.int x4), some (.int x5), some (.int s0)] [] h Q) else (oC h a0 = 12 ∧ GoCi d 272 [.ref a0, .int x5, .int s0] h (fun v1 h1 => (if ¬ v1 = (ii 3) then (Go d 282 121 [some (.ref a0), some (.int x1), some (.int x2), some (.int x3), some (.int x4), some (.int x5), some (.int s0)] [.int (ii 0), .int x3] h1 Q) else (Go d 282 121 [some (.ref a0), some (.int x1), some (.int x2), some (.int x3), some (.int x4), some (.int x5), some (.int s0)] [.int (ii 1), .int x3] h1 Q))))) := by
  refine (G_istore (k := 6) (L' := [some (.ref a0), some (.int x1), some (.int x2), some (.int x3), some (.int x4), some (.int x5), some (.int s0)]) rfl (ltb rfl) rfl (mF fc282 (by rfl))).trans ?_
  refine (G_iload rfl (mF fc282 (by rfl))).trans ?_
  refine (G_iconst (mF fc282 (by rfl))).trans ?_
  refine (G_ieq (mF fc282 (by rfl))).trans (gi ?_ ?_)
  ·
    exact Iff.rfl
  ·
    refine (G_iload rfl (mF fc282 (by rfl))).trans ?_
    refine (G_aload rfl (mF fc282 (by rfl))).trans ?_
    refine (G_iload rfl (mF fc282 (by rfl))).trans ?_
    refine (G_iload rfl (mF fc282 (by rfl))).trans ?_
    refine (G_Vi (q := 139459) (y := 272) (a := a0) (c := 12) rfl rfl rfl rfl (by decide) rfl (as := [.ref a0, .int x5, .int s0]) (rest := [.int x3]) rfl rfl (mF fc282 (by rfl))).trans (andR (GoCi_congr fun v1 h1 => ?_))
    refine (G_iconst (mF fc282 (by rfl))).trans ?_
    refine (G_ine (mF fc282 (by rfl))).trans (gi ?_ ?_)
    ·
      refine (G_iconst (mF fc282 (by rfl))).trans ?_
      exact Iff.rfl
    ·
      refine (G_iconst (mF fc282 (by rfl))).trans ?_
      refine (G_goto (mF fc282 (by rfl))).trans ?_
      exact Iff.rfl
theorem b282_121 {d : Nat} {h : mHeap} {Q : Option Value → mHeap → Prop} {a0 : Nat} {x1 : Int32} {x2 : Int32} {l3 : Option Value} {x4 : Int32} {x5 : Int32} {l6 : Option Value} {s0 : Int32} {s1 : Int32} : Go d 282 121 [some (.ref a0), some (.int x1), some (.int x2), l3, some (.int x4), some (.int x5), l6] [.int s1, .int s0] h Q ↔ Go d 282 123 [some (.ref a0), some (.int x1), some (.int x2), some (.int (s0 + s1)), some (.int x4), some (.int x5), l6] [] h Q := by
  refine (G_iadd (mF fc282 (by rfl))).trans ?_
  refine (G_istore (k := 3) (L' := [some (.ref a0), some (.int x1), some (.int x2), some (.int (s0 + s1)), some (.int x4), some (.int x5), l6]) rfl (ltb rfl) rfl (mF fc282 (by rfl))).trans ?_
  exact Iff.rfl
theorem b282_123 {d : Nat} {h : mHeap} {Q : Option Value → mHeap → Prop} {a0 : Nat} {x1 : Int32} {x2 : Int32} {x3 : Int32} {x4 : Int32} {x5 : Int32} {l6 : Option Value} : Go d 282 123 [some (.ref a0), some (.int x1), some (.int x2), some (.int x3), some (.int x4), some (.int x5), l6] [] h Q ↔ Go d 282 63 [some (.ref a0), some (.int x1), some (.int x2), some (.int x3), some (.int x4), some (.int (x5 + ii 1)), l6] [] h Q := by
  refine (G_iinc (k := 5) (L' := [some (.ref a0), some (.int x1), some (.int x2), some (.int x3), some (.int x4), some (.int (x5 + ii 1)), l6]) rfl rfl rfl (mF fc282 (by rfl))).trans ?_
  refine (G_goto (mF fc282 (by rfl))).trans ?_
  exact Iff.rfl
theorem e282 {d : Nat} {h : mHeap} {K : Int32 → mHeap → Prop} {a0 : Nat} {x1 : Int32} {x2 : Int32} : GoCi (d + 1) 282 [.ref a0, .int x1, .int x2] h K ↔ Go d 282 0 [some (.ref a0), some (.int x1), some (.int x2), none, none, none, none] [] h (rI K) := GoCi_entry rfl rfl
set_option maxRecDepth 20000 in
theorem fc283 : mCodes[283]? = some mc283 := rfl
theorem b283_0 {d : Nat} {h : mHeap} {Q : Option Value → mHeap → Prop} {a0 : Nat} {x1 : Int32} {x2 : Int32} : Go d 283 0 [some (.ref a0), some (.int x1), some (.int x2), none, none, none] [] h Q ↔ Go d 283 2 [some (.ref a0), some (.int x1), some (.int x2), some (.int (ii 0)), none, none] [] h Q := by
  refine (G_iconst (mF fc283 (by rfl))).trans ?_
  refine (G_istore (k := 3) (L' := [some (.ref a0), some (.int x1), some (.int x2), some (.int (ii 0)), none, none]) rfl (ltb rfl) rfl (mF fc283 (by rfl))).trans ?_
  exact Iff.rfl
theorem b283_2 {d : Nat} {h : mHeap} {Q : Option Value → mHeap → Prop} {a0 : Nat} {x1 : Int32} {x2 : Int32} {x3 : Int32} {l4 : Option Value} {l5 : Option Value} : Go d 283 2 [some (.ref a0), some (.int x1), some (.int x2), some (.int x3), l4, l5] [] h Q ↔ oC h a0 = 12 ∧ GoCi d 191 [.ref a0] h (fun v1 h1 => (if v1 ≤ x3 then (((ii 1) = ii 0 ∨ (ii 1) = ii 1) ∧ Q (some (.int (ii 1))) h1) else (oC h1 a0 = 12 ∧ GoCi d 250 [.ref a0, .int x2, .int x3] h1 (fun v2 h2 => (if ¬ v2 = ii 0 then (Go d 283 24 [some (.ref a0), some (.int x1), some (.int x2), some (.int x3), l4, l5] [.int (ii 0)] h2 Q) else (Go d 283 24 [some (.ref a0), some (.int x1), some (.int x2), some (.int x3), l4, l5] [.int (ii 1)] h2 Q)))))) := by
  refine (G_iload rfl (mF fc283 (by rfl))).trans ?_
  refine (G_aload rfl (mF fc283 (by rfl))).trans ?_
  refine (G_Vi (q := 97985) (y := 191) (a := a0) (c := 12) rfl rfl rfl rfl (by decide) rfl (as := [.ref a0]) (rest := [.int x3]) rfl rfl (mF fc283 (by rfl))).trans (andR (GoCi_congr fun v1 h1 => ?_))
  refine (G_ige (mF fc283 (by rfl))).trans (gi ?_ ?_)
  ·
    refine (G_iconst (mF fc283 (by rfl))).trans ?_
    exact G_ireturnZ rfl (mF fc283 (by rfl))
  ·
    refine (G_aload rfl (mF fc283 (by rfl))).trans ?_
    refine (G_iload rfl (mF fc283 (by rfl))).trans ?_
    refine (G_iload rfl (mF fc283 (by rfl))).trans ?_
    refine (G_Vi (q := 128195) (y := 250) (a := a0) (c := 12) rfl rfl rfl rfl (by decide) rfl (as := [.ref a0, .int x2, .int x3]) (rest := []) rfl rfl (mF fc283 (by rfl))).trans (andR (GoCi_congr fun v2 h2 => ?_))
    refine (G_ne (mF fc283 (by rfl))).trans (gi ?_ ?_)
    ·
      refine (G_iconst (mF fc283 (by rfl))).trans ?_
      exact Iff.rfl
    ·
      refine (G_iconst (mF fc283 (by rfl))).trans ?_
      refine (G_goto (mF fc283 (by rfl))).trans ?_
      exact Iff.rfl
theorem b283_24 {d : Nat} {h : mHeap} {Q : Option Value → mHeap → Prop} {a0 : Nat} {x1 : Int32} {x2 : Int32} {x3 : Int32} {l4 : Option Value} {l5 : Option Value} {s0 : Int32} : Go d 283 24 [some (.ref a0), some (.int x1), some (.int x2), some (.int x3), l4, l5] [.int s0] h Q ↔ Go d 283 29 [some (.ref a0), some (.int x1), some (.int x2), some (.int x3), some (.int s0), some (.int (ii 0))] [] h Q := by
  refine (G_istore (k := 4) (L' := [some (.ref a0), some (.int x1), some (.int x2), some (.int x3), some (.int s0), l5]) rfl (ltb rfl) rfl (mF fc283 (by rfl))).trans ?_
  refine (G_iconst (mF fc283 (by rfl))).trans ?_
  refine (G_istore (k := 5) (L' := [some (.ref a0), some (.int x1), some (.int x2), some (.int x3), some (.int s0), some (.int (ii 0))]) rfl (ltb rfl) rfl (mF fc283 (by rfl))).trans ?_
  exact Iff.rfl
theorem b283_29 {d : Nat} {h : mHeap} {Q : Option Value → mHeap → Prop} {a0 : Nat} {x1 : Int32} {x2 : Int32} {x3 : Int32} {x4 : Int32} {x5 : Int32} : Go d 283 29 [some (.ref a0), some (.int x1), some (.int x2), some (.int x3), some (.int x4), some (.int x5)] [] h Q ↔ okF h a0 12 32 0 ∧ (if (fI h a0 32) ≤ x5 then (Go d 283 75 [some (.ref a0), some (.int x1), some (.int x2), some (.int x3), some (.int x4), some (.int x5)] [] h Q) else ((if x4 = ii 0 then (Go d 283 75 [some (.ref a0), some (.int x1), some (.int x2), some (.int x3), some (.int x4), some (.int x5)] [] h Q) else (GoCi d 185 [.int x1, .int x5] h (fun v1 h1 => (if v1 = ii 0 then (Go d 283 62 [some (.ref a0), some (.int x1), some (.int x2), some (.int x3), some (.int x4), some (.int x5)] [] h1 Q) else (oC h1 a0 = 12 ∧ GoCi d 250 [.ref a0, .int x5, .int x3] h1 (fun v2 h2 => (if v2 = ii 0 then (Go d 283 67 [some (.ref a0), some (.int x1), some (.int x2), some (.int x3), some (.int x4), some (.int x5)] [.int (ii 0)] h2 Q) else (Go d 283 62 [some (.ref a0), some (.int x1), some (.int x2), some (.int x3), some (.int x4), some (.int x5)] [] h2 Q)))))))))) := by
  refine (G_iload rfl (mF fc283 (by rfl))).trans ?_
  refine (G_aload rfl (mF fc283 (by rfl))).trans ?_
  refine (G_getI (c := 12) (k := 32) rfl rfl rfl (mF fc283 (by rfl))).trans (andR ?_)
  refine (G_ige (mF fc283 (by rfl))).trans (gi ?_ ?_)
  ·
    exact Iff.rfl
  ·
    refine (G_iload rfl (mF fc283 (by rfl))).trans ?_
    refine (G_eq (mF fc283 (by rfl))).trans (gi ?_ ?_)
    ·
      exact Iff.rfl
    ·
      refine (G_iload rfl (mF fc283 (by rfl))).trans ?_
      refine (G_iload rfl (mF fc283 (by rfl))).trans ?_
      refine (G_Ti (q := 94914) (y := 185) rfl rfl rfl (as := [.int x1, .int x5]) (rest := []) rfl rfl (mF fc283 (by rfl))).trans (GoCi_congr fun v1 h1 => ?_)
      refine (G_eq (mF fc283 (by rfl))).trans (gi ?_ ?_)
      ·
        exact Iff.rfl
      ·
        refine (G_aload rfl (mF fc283 (by rfl))).trans ?_
        refine (G_iload rfl (mF fc283 (by rfl))).trans ?_
        refine (G_iload rfl (mF fc283 (by rfl))).trans ?_
        refine (G_Vi (q := 128195) (y := 250) (a := a0) (c := 12) rfl rfl rfl rfl (by decide) rfl (as := [.ref a0, .int x5, .int x3]) (rest := []) rfl rfl (mF fc283 (by rfl))).trans (andR (GoCi_congr fun v2 h2 => ?_))
        refine (G_eq (mF fc283 (by rfl))).trans (gi ?_ ?_)
        ·
          refine (G_iconst (mF fc283 (by rfl))).trans ?_
          exact Iff.rfl
        ·
          exact Iff.rfl
theorem b283_62 {d : Nat} {h : mHeap} {Q : Option Value → mHeap → Prop} {a0 : Nat} {x1 : Int32} {x2 : Int32} {x3 : Int32} {l4 : Option Value} {x5 : Int32} : Go d 283 62 [some (.ref a0), some (.int x1), some (.int x2), some (.int x3), l4, some (.int x5)] [] h Q ↔ Go d 283 67 [some (.ref a0), some (.int x1), some (.int x2), some (.int x3), l4, some (.int x5)] [.int (ii 1)] h Q := by
  refine (G_iconst (mF fc283 (by rfl))).trans ?_
  refine (G_goto (mF fc283 (by rfl))).trans ?_
  exact Iff.rfl
theorem b283_67 {d : Nat} {h : mHeap} {Q : Option Value → mHeap → Prop} {a0 : Nat} {x1 : Int32} {x2 : Int32} {x3 : Int32} {l4 : Option Value} {x5 : Int32} {s0 : Int32} : Go d 283 67 [some (.ref a0), some (.int x1), some (.int x2), some (.int x3), l4, some (.int x5)] [.int s0] h Q ↔ Go d 283 29 [some (.ref a0), some (.int x1), some (.int x2), some (.int x3), some (.int s0), some (.int (x5 + ii 1))] [] h Q := by
  refine (G_istore (k := 4) (L' := [some (.ref a0), some (.int x1), some (.int x2), some (.int x3), some (.int s0), some (.int x5)]) rfl (ltb rfl) rfl (mF fc283 (by rfl))).trans ?_
  refine (G_iinc (k := 5) (L' := [some (.ref a0), some (.int x1), some (.int x2), some (.int x3), some (.int s0), some (.int (x5 + ii 1))]) rfl rfl rfl (mF fc283 (by rfl))).trans ?_
  refine (G_goto (mF fc283 (by rfl))).trans ?_
  exact Iff.rfl
theorem b283_75 {d : Nat} {h : mHeap} {Q : Option Value → mHeap → Prop} {a0 : Nat} {x1 : Int32} {x2 : Int32} {x3 : Int32} {x4 : Int32} {l5 : Option Value} : Go d 283 75 [some (.ref a0), some (.int x1), some (.int x2), some (.int x3), some (.int x4), l5] [] h Q ↔ (if x4 = ii 0 then (Go d 283 2 [some (.ref a0), some (.int x1), some (.int x2), some (.int (x3 + ii 1)), some (.int x4), l5] [] h Q) else (((ii 0) = ii 0 ∨ (ii 0) = ii 1) ∧ Q (some (.int (ii 0))) h)) := by
  refine (G_iload rfl (mF fc283 (by rfl))).trans ?_
  refine (G_eq (mF fc283 (by rfl))).trans (gi ?_ ?_)
  ·
    refine (G_iinc (k := 3) (L' := [some (.ref a0), some (.int x1), some (.int x2), some (.int (x3 + ii 1)), some (.int x4), l5]) rfl rfl rfl (mF fc283 (by rfl))).trans ?_
    refine (G_goto (mF fc283 (by rfl))).trans ?_
    exact Iff.rfl
  ·
    refine (G_iconst (mF fc283 (by rfl))).trans ?_
    exact G_ireturnZ rfl (mF fc283 (by rfl))
theorem e283 {d : Nat} {h : mHeap} {K : Int32 → mHeap → Prop} {a0 : Nat} {x1 : Int32} {x2 : Int32} : GoCi (d + 1) 283 [.ref a0, .int x1, .int x2] h K ↔ Go d 283 0 [some (.ref a0), some (.int x1), some (.int x2), none, none, none] [] h (rI K) := GoCi_entry rfl rfl
set_option maxRecDepth 20000 in
theorem fc284 : mCodes[284]? = some mc284 := rfl
theorem b284_0 {d : Nat} {h : mHeap} {Q : Option Value → mHeap → Prop} {a0 : Nat} {x1 : Int32} : Go d 284 0 [some (.ref a0), some (.int x1)] [] h Q ↔ oC h a0 = 12 ∧ GoCi d 186 [.ref a0] h (fun v1 h1 => (if v1 = ii 0 then (((ii 0) = ii 0 ∨ (ii 0) = ii 1) ∧ Q (some (.int (ii 0))) h1) else (okF h1 a0 12 32 0 ∧ GoCi d 183 [.long x1.toInt64, .long (jj 0), .long (((shl (ii 1) (fI h1 a0 32)) - (ii 1)).toInt64)] h1 (fun v2 h2 => (if v2 = ii 0 then (((ii 0) = ii 0 ∨ (ii 0) = ii 1) ∧ Q (some (.int (ii 0))) h2) else (((ii 1) = ii 0 ∨ (ii 1) = ii 1) ∧ Q (some (.int (ii 1))) h2)))))) := by
  refine (G_aload rfl (mF fc284 (by rfl))).trans ?_
  refine (G_Vi (q := 95425) (y := 186) (a := a0) (c := 12) rfl rfl rfl rfl (by decide) rfl (as := [.ref a0]) (rest := []) rfl rfl (mF fc284 (by rfl))).trans (andR (GoCi_congr fun v1 h1 => ?_))
  refine (G_eq (mF fc284 (by rfl))).trans (gi ?_ ?_)
  ·
    refine (G_iconst (mF fc284 (by rfl))).trans ?_
    exact G_ireturnZ rfl (mF fc284 (by rfl))
  ·
    refine (G_iload rfl (mF fc284 (by rfl))).trans ?_
    refine (G_i2l (mF fc284 (by rfl))).trans ?_
    refine (G_jsr_w (mF fc284 (by rfl))).trans ?_
    refine (G_iconst (mF fc284 (by rfl))).trans ?_
    refine (G_aload rfl (mF fc284 (by rfl))).trans ?_
    refine (G_getI (c := 12) (k := 32) rfl rfl rfl (mF fc284 (by rfl))).trans (andR ?_)
    refine (G_ishl (mF fc284 (by rfl))).trans ?_
    refine (G_iconst (mF fc284 (by rfl))).trans ?_
    refine (G_isub (mF fc284 (by rfl))).trans ?_
    refine (G_i2l (mF fc284 (by rfl))).trans ?_
    refine (G_Ti (q := 93891) (y := 183) rfl rfl rfl (as := [.long x1.toInt64, .long (jj 0), .long (((shl (ii 1) (fI h1 a0 32)) - (ii 1)).toInt64)]) (rest := []) rfl rfl (mF fc284 (by rfl))).trans (GoCi_congr fun v2 h2 => ?_)
    refine (G_eq (mF fc284 (by rfl))).trans (gi ?_ ?_)
    ·
      refine (G_iconst (mF fc284 (by rfl))).trans ?_
      exact G_ireturnZ rfl (mF fc284 (by rfl))
    ·
      refine (G_iconst (mF fc284 (by rfl))).trans ?_
      refine (G_goto (mF fc284 (by rfl))).trans ?_
      exact G_ireturnZ rfl (mF fc284 (by rfl))
theorem e284 {d : Nat} {h : mHeap} {K : Int32 → mHeap → Prop} {a0 : Nat} {x1 : Int32} : GoCi (d + 1) 284 [.ref a0, .int x1] h K ↔ Go d 284 0 [some (.ref a0), some (.int x1)] [] h (rI K) := GoCi_entry rfl rfl
set_option maxRecDepth 20000 in
theorem fc285 : mCodes[285]? = some mc285 := rfl
theorem b285_0 {d : Nat} {h : mHeap} {Q : Option Value → mHeap → Prop} {a0 : Nat} {x1 : Int32} {x2 : Int32} : Go d 285 0 [some (.ref a0), some (.int x1), some (.int x2)] [] h Q ↔ oC h a0 = 12 ∧ GoCi d 284 [.ref a0, .int x1] h (fun v1 h1 => (if v1 = ii 0 then (Q (some (.int (ii (-1)))) h1) else (oC h1 a0 = 12 ∧ GoCi d 190 [.ref a0, .int x2] h1 (fun v2 h2 => (if v2 = ii 0 then (Q (some (.int (ii (-1)))) h2) else (oC h2 a0 = 12 ∧ GoCi d 283 [.ref a0, .int x1, .int x2] h2 (fun v3 h3 => (if v3 = ii 0 then (Q (some (.int (ii 0))) h3) else (Q (some (.int (ii 1))) h3))))))))) := by
  refine (G_aload rfl (mF fc285 (by rfl))).trans ?_
  refine (G_iload rfl (mF fc285 (by rfl))).trans ?_
  refine (G_Vi (q := 145602) (y := 284) (a := a0) (c := 12) rfl rfl rfl rfl (by decide) rfl (as := [.ref a0, .int x1]) (rest := []) rfl rfl (mF fc285 (by rfl))).trans (andR (GoCi_congr fun v1 h1 => ?_))
  refine (G_eq (mF fc285 (by rfl))).trans (gi ?_ ?_)
  ·
    refine (G_iconst (mF fc285 (by rfl))).trans ?_
    exact G_ireturnI rfl (mF fc285 (by rfl))
  ·
    refine (G_aload rfl (mF fc285 (by rfl))).trans ?_
    refine (G_iload rfl (mF fc285 (by rfl))).trans ?_
    refine (G_Vi (q := 97474) (y := 190) (a := a0) (c := 12) rfl rfl rfl rfl (by decide) rfl (as := [.ref a0, .int x2]) (rest := []) rfl rfl (mF fc285 (by rfl))).trans (andR (GoCi_congr fun v2 h2 => ?_))
    refine (G_eq (mF fc285 (by rfl))).trans (gi ?_ ?_)
    ·
      refine (G_iconst (mF fc285 (by rfl))).trans ?_
      exact G_ireturnI rfl (mF fc285 (by rfl))
    ·
      refine (G_aload rfl (mF fc285 (by rfl))).trans ?_
      refine (G_iload rfl (mF fc285 (by rfl))).trans ?_
      refine (G_iload rfl (mF fc285 (by rfl))).trans ?_
      refine (G_Vi (q := 145091) (y := 283) (a := a0) (c := 12) rfl rfl rfl rfl (by decide) rfl (as := [.ref a0, .int x1, .int x2]) (rest := []) rfl rfl (mF fc285 (by rfl))).trans (andR (GoCi_congr fun v3 h3 => ?_))
      refine (G_eq (mF fc285 (by rfl))).trans (gi ?_ ?_)
      ·
        refine (G_iconst (mF fc285 (by rfl))).trans ?_
        refine (G_goto (mF fc285 (by rfl))).trans ?_
        exact G_ireturnI rfl (mF fc285 (by rfl))
      ·
        refine (G_iconst (mF fc285 (by rfl))).trans ?_
        refine (G_goto (mF fc285 (by rfl))).trans ?_
        exact G_ireturnI rfl (mF fc285 (by rfl))
theorem e285 {d : Nat} {h : mHeap} {K : Int32 → mHeap → Prop} {a0 : Nat} {x1 : Int32} {x2 : Int32} : GoCi (d + 1) 285 [.ref a0, .int x1, .int x2] h K ↔ Go d 285 0 [some (.ref a0), some (.int x1), some (.int x2)] [] h (rI K) := GoCi_entry rfl rfl
set_option maxRecDepth 20000 in
theorem fc286 : mCodes[286]? = some mc286 := rfl
theorem b286_0 {d : Nat} {h : mHeap} {Q : Option Value → mHeap → Prop} {a0 : Nat} {x1 : Int32} {x2 : Int32} : Go d 286 0 [some (.ref a0), some (.int x1), some (.int x2), none, none, none, none] [] h Q ↔ oC h a0 = 12 ∧ GoCi d 284 [.ref a0, .int x1] h (fun v1 h1 => (if v1 = ii 0 then (Q (some (.int (ii (-1)))) h1) else (oC h1 a0 = 12 ∧ GoCi d 190 [.ref a0, .int x2] h1 (fun v2 h2 => (if v2 = ii 0 then (Q (some (.int (ii (-1)))) h2) else (GoCi d 184 [.int x1] h2 (fun v3 h3 => (if v3 ≤ (ii 12) then (Go d 286 36 [some (.ref a0), some (.int x1), some (.int x2), some (.int (ii (-2))), some (.int (ii 0)), some (.int (ii 0)), none] [] h3 Q) else (Q (some (.int (ii (-1)))) h3))))))))) := by
  refine (G_aload rfl (mF fc286 (by rfl))).trans ?_
  refine (G_iload rfl (mF fc286 (by rfl))).trans ?_
  refine (G_Vi (q := 145602) (y := 284) (a := a0) (c := 12) rfl rfl rfl rfl (by decide) rfl (as := [.ref a0, .int x1]) (rest := []) rfl rfl (mF fc286 (by rfl))).trans (andR (GoCi_congr fun v1 h1 => ?_))
  refine (G_eq (mF fc286 (by rfl))).trans (gi ?_ ?_)
  ·
    refine (G_iconst (mF fc286 (by rfl))).trans ?_
    exact G_ireturnI rfl (mF fc286 (by rfl))
  ·
    refine (G_aload rfl (mF fc286 (by rfl))).trans ?_
    refine (G_iload rfl (mF fc286 (by rfl))).trans ?_
    refine (G_Vi (q := 97474) (y := 190) (a := a0) (c := 12) rfl rfl rfl rfl (by decide) rfl (as := [.ref a0, .int x2]) (rest := []) rfl rfl (mF fc286 (by rfl))).trans (andR (GoCi_congr fun v2 h2 => ?_))
    refine (G_eq (mF fc286 (by rfl))).trans (gi ?_ ?_)
    ·
      refine (G_iconst (mF fc286 (by rfl))).trans ?_
      exact G_ireturnI rfl (mF fc286 (by rfl))
    ·
      refine (G_iload rfl (mF fc286 (by rfl))).trans ?_
      refine (G_Ti (q := 94401) (y := 184) rfl rfl rfl (as := [.int x1]) (rest := []) rfl rfl (mF fc286 (by rfl))).trans (GoCi_congr fun v3 h3 => ?_)
      refine (G_iconst (mF fc286 (by rfl))).trans ?_
      refine (G_ile (mF fc286 (by rfl))).trans (gi ?_ ?_)
      ·
        refine (G_iconst (mF fc286 (by rfl))).trans ?_
        refine (G_istore (k := 3) (L' := [some (.ref a0), some (.int x1), some (.int x2), some (.int (ii (-2))), none, none, none]) rfl (ltb rfl) rfl (mF fc286 (by rfl))).trans ?_
        refine (G_iconst (mF fc286 (by rfl))).trans ?_
        refine (G_istore (k := 4) (L' := [some (.ref a0), some (.int x1), some (.int x2), some (.int (ii (-2))), some (.int (ii 0)), none, none]) rfl (ltb rfl) rfl (mF fc286 (by rfl))).trans ?_
        refine (G_iconst (mF fc286 (by rfl))).trans ?_
        refine (G_istore (k := 5) (L' := [some (.ref a0), some (.int x1), some (.int x2), some (.int (ii (-2))), some (.int (ii 0)), some (.int (ii 0)), none]) rfl (ltb rfl) rfl (mF fc286 (by rfl))).trans ?_
        exact Iff.rfl
      ·
        refine (G_iconst (mF fc286 (by rfl))).trans ?_
        exact G_ireturnI rfl (mF fc286 (by rfl))
theorem b286_36 {d : Nat} {h : mHeap} {Q : Option Value → mHeap → Prop} {a0 : Nat} {x1 : Int32} {x2 : Int32} {x3 : Int32} {x4 : Int32} {x5 : Int32} {l6 : Option Value} : Go d 286 36 [some (.ref a0), some (.int x1), some (.int x2), some (.int x3), some (.int x4), some (.int x5), l6] [] h Q ↔ (if ¬ x5 = ii 0 then (Q (some (.int x3)) h) else ((if x3 = (ii (-2)) then (Go d 286 59 [some (.ref a0), some (.int x1), some (.int x2), some (.int x3), some (.int x4), some (.int x5), l6] [] h Q) else (GoCi d 184 [.int x4] h (fun v1 h1 => GoCi d 184 [.int x3] h1 (fun v2 h2 => (if v2 ≤ v1 then (Go d 286 64 [some (.ref a0), some (.int x1), some (.int x2), some (.int x3), some (.int x4), some (.int x5), l6] [.int (ii 0)] h2 Q) else (Go d 286 59 [some (.ref a0), some (.int x1), some (.int x2), some (.int x3), some (.int x4), some (.int x5), l6] [] h2 Q)))))))) := by
  refine (G_iload rfl (mF fc286 (by rfl))).trans ?_
  refine (G_ne (mF fc286 (by rfl))).trans (gi ?_ ?_)
  ·
    refine (G_iload rfl (mF fc286 (by rfl))).trans ?_
    exact G_ireturnI rfl (mF fc286 (by rfl))
  ·
    refine (G_iload rfl (mF fc286 (by rfl))).trans ?_
    refine (G_iconst (mF fc286 (by rfl))).trans ?_
    refine (G_ieq (mF fc286 (by rfl))).trans (gi ?_ ?_)
    ·
      exact Iff.rfl
    ·
      refine (G_iload rfl (mF fc286 (by rfl))).trans ?_
      refine (G_Ti (q := 94401) (y := 184) rfl rfl rfl (as := [.int x4]) (rest := []) rfl rfl (mF fc286 (by rfl))).trans (GoCi_congr fun v1 h1 => ?_)
      refine (G_iload rfl (mF fc286 (by rfl))).trans ?_
      refine (G_Ti (q := 94401) (y := 184) rfl rfl rfl (as := [.int x3]) (rest := [.int v1]) rfl rfl (mF fc286 (by rfl))).trans (GoCi_congr fun v2 h2 => ?_)
      refine (G_ige (mF fc286 (by rfl))).trans (gi ?_ ?_)
      ·
        refine (G_iconst (mF fc286 (by rfl))).trans ?_
        exact Iff.rfl
      ·
        exact Iff.rfl
theorem b286_59 {d : Nat} {h : mHeap} {Q : Option Value → mHeap → Prop} {a0 : Nat} {x1 : Int32} {x2 : Int32} {x3 : Int32} {x4 : Int32} {l5 : Option Value} {l6 : Option Value} : Go d 286 59 [some (.ref a0), some (.int x1), some (.int x2), some (.int x3), some (.int x4), l5, l6] [] h Q ↔ Go d 286 64 [some (.ref a0), some (.int x1), some (.int x2), some (.int x3), some (.int x4), l5, l6] [.int (ii 1)] h Q := by
  refine (G_iconst (mF fc286 (by rfl))).trans ?_
  refine (G_goto (mF fc286 (by rfl))).trans ?_
  exact Iff.rfl
theorem b286_64 {d : Nat} {h : mHeap} {Q : Option Value → mHeap → Prop} {a0 : Nat} {x1 : Int32} {x2 : Int32} {x3 : Int32} {x4 : Int32} {l5 : Option Value} {l6 : Option Value} {s0 : Int32} (hl5 : mNo l5 = true) : Go d 286 64 [some (.ref a0), some (.int x1), some (.int x2), some (.int x3), some (.int x4), l5, l6] [.int s0] h Q ↔ (if s0 = ii 0 then (Go d 286 86 [some (.ref a0), some (.int x1), some (.int x2), some (.int x3), some (.int x4), l5, some (.int s0)] [] h Q) else (oC h a0 = 12 ∧ GoCi d 283 [.ref a0, .int x4, .int x2] h (fun v1 h1 => (if v1 = ii 0 then (Go d 286 86 [some (.ref a0), some (.int x1), some (.int x2), some (.int x3), some (.int x4), l5, some (.int s0)] [] h1 Q) else (Go d 286 87 [some (.ref a0), some (.int x1), some (.int x2), some (.int x3), some (.int x4), l5, some (.int s0)] [.int x4] h1 Q))))) := by
  refine (G_istore (k := 6) (L' := [some (.ref a0), some (.int x1), some (.int x2), some (.int x3), some (.int x4), l5, some (.int s0)]) rfl (ltb rfl) (by exact hl5) (mF fc286 (by rfl))).trans ?_
  refine (G_iload rfl (mF fc286 (by rfl))).trans ?_
  refine (G_eq (mF fc286 (by rfl))).trans (gi ?_ ?_)
  ·
    exact Iff.rfl
  ·
    refine (G_aload rfl (mF fc286 (by rfl))).trans ?_
    refine (G_iload rfl (mF fc286 (by rfl))).trans ?_
    refine (G_iload rfl (mF fc286 (by rfl))).trans ?_
    refine (G_Vi (q := 145091) (y := 283) (a := a0) (c := 12) rfl rfl rfl rfl (by decide) rfl (as := [.ref a0, .int x4, .int x2]) (rest := []) rfl rfl (mF fc286 (by rfl))).trans (andR (GoCi_congr fun v1 h1 => ?_))
    refine (G_eq (mF fc286 (by rfl))).trans (gi ?_ ?_)
    ·
      exact Iff.rfl
    ·
      refine (G_iload rfl (mF fc286 (by rfl))).trans ?_
      refine (G_goto (mF fc286 (by rfl))).trans ?_
      exact Iff.rfl
theorem b286_86 {d : Nat} {h : mHeap} {Q : Option Value → mHeap → Prop} {a0 : Nat} {x1 : Int32} {x2 : Int32} {x3 : Int32} {x4 : Int32} {l5 : Option Value} {l6 : Option Value} : Go d 286 86 [some (.ref a0), some (.int x1), some (.int x2), some (.int x3), some (.int x4), l5, l6] [] h Q ↔ Go d 286 87 [some (.ref a0), some (.int x1), some (.int x2), some (.int x3), some (.int x4), l5, l6] [.int x3] h Q := by
  refine (G_iload rfl (mF fc286 (by rfl))).trans ?_
  exact Iff.rfl
theorem b286_87 {d : Nat} {h : mHeap} {Q : Option Value → mHeap → Prop} {a0 : Nat} {x1 : Int32} {x2 : Int32} {l3 : Option Value} {x4 : Int32} {l5 : Option Value} {l6 : Option Value} {s0 : Int32} : Go d 286 87 [some (.ref a0), some (.int x1), some (.int x2), l3, some (.int x4), l5, l6] [.int s0] h Q ↔ (if ¬ x4 = x1 then (Go d 286 99 [some (.ref a0), some (.int x1), some (.int x2), some (.int s0), some (.int x4), l5, l6] [.int (ii 0)] h Q) else (Go d 286 99 [some (.ref a0), some (.int x1), some (.int x2), some (.int s0), some (.int x4), l5, l6] [.int (ii 1)] h Q)) := by
  refine (G_istore (k := 3) (L' := [some (.ref a0), some (.int x1), some (.int x2), some (.int s0), some (.int x4), l5, l6]) rfl (ltb rfl) rfl (mF fc286 (by rfl))).trans ?_
  refine (G_iload rfl (mF fc286 (by rfl))).trans ?_
  refine (G_iload rfl (mF fc286 (by rfl))).trans ?_
  refine (G_ine (mF fc286 (by rfl))).trans (gi ?_ ?_)
  ·
    refine (G_iconst (mF fc286 (by rfl))).trans ?_
    exact Iff.rfl
  ·
    refine (G_iconst (mF fc286 (by rfl))).trans ?_
    refine (G_goto (mF fc286 (by rfl))).trans ?_
    exact Iff.rfl
theorem b286_99 {d : Nat} {h : mHeap} {Q : Option Value → mHeap → Prop} {a0 : Nat} {x1 : Int32} {x2 : Int32} {x3 : Int32} {x4 : Int32} {l5 : Option Value} {l6 : Option Value} {s0 : Int32} : Go d 286 99 [some (.ref a0), some (.int x1), some (.int x2), some (.int x3), some (.int x4), l5, l6] [.int s0] h Q ↔ Go d 286 36 [some (.ref a0), some (.int x1), some (.int x2), some (.int x3), some (.int ((x4 - x1) &&& x1)), some (.int s0), l6] [] h Q := by
  refine (G_istore (k := 5) (L' := [some (.ref a0), some (.int x1), some (.int x2), some (.int x3), some (.int x4), some (.int s0), l6]) rfl (ltb rfl) rfl (mF fc286 (by rfl))).trans ?_
  refine (G_iload rfl (mF fc286 (by rfl))).trans ?_
  refine (G_iload rfl (mF fc286 (by rfl))).trans ?_
  refine (G_isub (mF fc286 (by rfl))).trans ?_
  refine (G_iload rfl (mF fc286 (by rfl))).trans ?_
  refine (G_iand (mF fc286 (by rfl))).trans ?_
  refine (G_istore (k := 4) (L' := [some (.ref a0), some (.int x1), some (.int x2), some (.int x3), some (.int ((x4 - x1) &&& x1)), some (.int s0), l6]) rfl (ltb rfl) rfl (mF fc286 (by rfl))).trans ?_
  refine (G_goto (mF fc286 (by rfl))).trans ?_
  exact Iff.rfl
theorem e286 {d : Nat} {h : mHeap} {K : Int32 → mHeap → Prop} {a0 : Nat} {x1 : Int32} {x2 : Int32} : GoCi (d + 1) 286 [.ref a0, .int x1, .int x2] h K ↔ Go d 286 0 [some (.ref a0), some (.int x1), some (.int x2), none, none, none, none] [] h (rI K) := GoCi_entry rfl rfl
set_option maxRecDepth 20000 in
theorem fc287 : mCodes[287]? = some mc287 := rfl
theorem b287_0 {d : Nat} {h : mHeap} {Q : Option Value → mHeap → Prop} {a0 : Nat} {x1 : Int32} {x2 : Int32} : Go d 287 0 [some (.ref a0), some (.int x1), some (.int x2), none] [] h Q ↔ oC h a0 = 12 ∧ GoCi d 190 [.ref a0, .int x1] h (fun v1 h1 => (if v1 = ii 0 then (Q (some (.int (ii (-1)))) h1) else (oC h1 a0 = 12 ∧ GoCi d 190 [.ref a0, .int x2] h1 (fun v2 h2 => (if v2 = ii 0 then (Q (some (.int (ii (-1)))) h2) else ((if x1 = x2 then (Q (some (.int (ii (-1)))) h2) else (oC h2 a0 = 12 ∧ GoCi d 186 [.ref a0] h2 (fun v3 h3 => (if ¬ v3 = ii 0 then (Go d 287 32 [some (.ref a0), some (.int x1), some (.int x2), some (.int (ii 0))] [] h3 Q) else (Q (some (.int (ii (-1)))) h3))))))))))) := by
  refine (G_aload rfl (mF fc287 (by rfl))).trans ?_
  refine (G_iload rfl (mF fc287 (by rfl))).trans ?_
  refine (G_Vi (q := 97474) (y := 190) (a := a0) (c := 12) rfl rfl rfl rfl (by decide) rfl (as := [.ref a0, .int x1]) (rest := []) rfl rfl (mF fc287 (by rfl))).trans (andR (GoCi_congr fun v1 h1 => ?_))
  refine (G_eq (mF fc287 (by rfl))).trans (gi ?_ ?_)
  ·
    refine (G_iconst (mF fc287 (by rfl))).trans ?_
    exact G_ireturnI rfl (mF fc287 (by rfl))
  ·
    refine (G_aload rfl (mF fc287 (by rfl))).trans ?_
    refine (G_iload rfl (mF fc287 (by rfl))).trans ?_
    refine (G_Vi (q := 97474) (y := 190) (a := a0) (c := 12) rfl rfl rfl rfl (by decide) rfl (as := [.ref a0, .int x2]) (rest := []) rfl rfl (mF fc287 (by rfl))).trans (andR (GoCi_congr fun v2 h2 => ?_))
    refine (G_eq (mF fc287 (by rfl))).trans (gi ?_ ?_)
    ·
      refine (G_iconst (mF fc287 (by rfl))).trans ?_
      exact G_ireturnI rfl (mF fc287 (by rfl))
    ·
      refine (G_iload rfl (mF fc287 (by rfl))).trans ?_
      refine (G_iload rfl (mF fc287 (by rfl))).trans ?_
      refine (G_ieq (mF fc287 (by rfl))).trans (gi ?_ ?_)
      ·
        refine (G_iconst (mF fc287 (by rfl))).trans ?_
        exact G_ireturnI rfl (mF fc287 (by rfl))
      ·
        refine (G_aload rfl (mF fc287 (by rfl))).trans ?_
        refine (G_Vi (q := 95425) (y := 186) (a := a0) (c := 12) rfl rfl rfl rfl (by decide) rfl (as := [.ref a0]) (rest := []) rfl rfl (mF fc287 (by rfl))).trans (andR (GoCi_congr fun v3 h3 => ?_))
        refine (G_ne (mF fc287 (by rfl))).trans (gi ?_ ?_)
        ·
          refine (G_iconst (mF fc287 (by rfl))).trans ?_
          refine (G_istore (k := 3) (L' := [some (.ref a0), some (.int x1), some (.int x2), some (.int (ii 0))]) rfl (ltb rfl) rfl (mF fc287 (by rfl))).trans ?_
          exact Iff.rfl
        ·
          refine (G_iconst (mF fc287 (by rfl))).trans ?_
          exact G_ireturnI rfl (mF fc287 (by rfl))
theorem b287_32 {d : Nat} {h : mHeap} {Q : Option Value → mHeap → Prop} {a0 : Nat} {x1 : Int32} {x2 : Int32} {x3 : Int32} : Go d 287 32 [some (.ref a0), some (.int x1), some (.int x2), some (.int x3)] [] h Q ↔ oC h a0 = 12 ∧ GoCi d 191 [.ref a0] h (fun v1 h1 => (if v1 ≤ x3 then (Q (some (.int (ii 1))) h1) else (oC h1 a0 = 12 ∧ GoCi d 250 [.ref a0, .int x1, .int x3] h1 (fun v2 h2 => (if v2 = ii 0 then (Go d 287 60 [some (.ref a0), some (.int x1), some (.int x2), some (.int x3)] [] h2 Q) else (oC h2 a0 = 12 ∧ GoCi d 250 [.ref a0, .int x2, .int x3] h2 (fun v3 h3 => (if v3 = ii 0 then (Go d 287 60 [some (.ref a0), some (.int x1), some (.int x2), some (.int x3)] [] h3 Q) else (Q (some (.int (ii 0))) h3))))))))) := by
  refine (G_iload rfl (mF fc287 (by rfl))).trans ?_
  refine (G_aload rfl (mF fc287 (by rfl))).trans ?_
  refine (G_Vi (q := 97985) (y := 191) (a := a0) (c := 12) rfl rfl rfl rfl (by decide) rfl (as := [.ref a0]) (rest := [.int x3]) rfl rfl (mF fc287 (by rfl))).trans (andR (GoCi_congr fun v1 h1 => ?_))
  refine (G_ige (mF fc287 (by rfl))).trans (gi ?_ ?_)
  ·
    refine (G_iconst (mF fc287 (by rfl))).trans ?_
    exact G_ireturnI rfl (mF fc287 (by rfl))
  ·
    refine (G_aload rfl (mF fc287 (by rfl))).trans ?_
    refine (G_iload rfl (mF fc287 (by rfl))).trans ?_
    refine (G_iload rfl (mF fc287 (by rfl))).trans ?_
    refine (G_Vi (q := 128195) (y := 250) (a := a0) (c := 12) rfl rfl rfl rfl (by decide) rfl (as := [.ref a0, .int x1, .int x3]) (rest := []) rfl rfl (mF fc287 (by rfl))).trans (andR (GoCi_congr fun v2 h2 => ?_))
    refine (G_eq (mF fc287 (by rfl))).trans (gi ?_ ?_)
    ·
      exact Iff.rfl
    ·
      refine (G_aload rfl (mF fc287 (by rfl))).trans ?_
      refine (G_iload rfl (mF fc287 (by rfl))).trans ?_
      refine (G_iload rfl (mF fc287 (by rfl))).trans ?_
      refine (G_Vi (q := 128195) (y := 250) (a := a0) (c := 12) rfl rfl rfl rfl (by decide) rfl (as := [.ref a0, .int x2, .int x3]) (rest := []) rfl rfl (mF fc287 (by rfl))).trans (andR (GoCi_congr fun v3 h3 => ?_))
      refine (G_eq (mF fc287 (by rfl))).trans (gi ?_ ?_)
      ·
        exact Iff.rfl
      ·
        refine (G_iconst (mF fc287 (by rfl))).trans ?_
        exact G_ireturnI rfl (mF fc287 (by rfl))
theorem b287_60 {d : Nat} {h : mHeap} {Q : Option Value → mHeap → Prop} {a0 : Nat} {x1 : Int32} {x2 : Int32} {x3 : Int32} : Go d 287 60 [some (.ref a0), some (.int x1), some (.int x2), some (.int x3)] [] h Q ↔ Go d 287 32 [some (.ref a0), some (.int x1), some (.int x2), some (.int (x3 + ii 1))] [] h Q := by
  refine (G_iinc (k := 3) (L' := [some (.ref a0), some (.int x1), some (.int x2), some (.int (x3 + ii 1))]) rfl rfl rfl (mF fc287 (by rfl))).trans ?_
  refine (G_goto (mF fc287 (by rfl))).trans ?_
  exact Iff.rfl
theorem e287 {d : Nat} {h : mHeap} {K : Int32 → mHeap → Prop} {a0 : Nat} {x1 : Int32} {x2 : Int32} : GoCi (d + 1) 287 [.ref a0, .int x1, .int x2] h K ↔ Go d 287 0 [some (.ref a0), some (.int x1), some (.int x2), none] [] h (rI K) := GoCi_entry rfl rfl
set_option maxRecDepth 20000 in
theorem fc288 : mCodes[288]? = some mc288 := rfl
theorem b288_0 {d : Nat} {h : mHeap} {Q : Option Value → mHeap → Prop} {a0 : Nat} {x1 : Int32} {x2 : Int32} : Go d 288 0 [some (.ref a0), some (.int x1), some (.int x2), none, none, none, none] [] h Q ↔ oC h a0 = 12 ∧ GoCi d 190 [.ref a0, .int x1] h (fun v1 h1 => (if v1 = ii 0 then (Q (some (.int (ii (-1)))) h1) else (oC h1 a0 = 12 ∧ GoCi d 186 [.ref a0] h1 (fun v2 h2 => (if v2 = ii 0 then (Q (some (.int (ii (-1)))) h2) else (GoCi d 183 [.long x2.toInt64, .long (jj 0), .long (jj 9999)] h2 (fun v3 h3 => (if ¬ v3 = ii 0 then (okF h3 a0 12 1 2 ∧ okA h3 (fR h3 a0 1) .int (ii 6) ∧ (if x2 ≤ (eI h3 (fR h3 a0 1) (ii 6)) then (okF h3 a0 12 1 2 ∧ okA h3 (fR h3 a0 1) .int (ii 6) ∧ Go d 288 51 [some (.ref a0), some (.int x1), some (.int x2), none, none, none, none] [.int (eI h3 (fR h3 a0 1) (ii 6))] h3 Q) else (Go d 288 51 [some (.ref a0), some (.int x1), some (.int x2), none, none, none, none] [.int x2] h3 Q))) else (Q (some (.int (ii (-1)))) h3))))))))) := by
  refine (G_aload rfl (mF fc288 (by rfl))).trans ?_
  refine (G_iload rfl (mF fc288 (by rfl))).trans ?_
  refine (G_Vi (q := 97474) (y := 190) (a := a0) (c := 12) rfl rfl rfl rfl (by decide) rfl (as := [.ref a0, .int x1]) (rest := []) rfl rfl (mF fc288 (by rfl))).trans (andR (GoCi_congr fun v1 h1 => ?_))
  refine (G_eq (mF fc288 (by rfl))).trans (gi ?_ ?_)
  ·
    refine (G_iconst (mF fc288 (by rfl))).trans ?_
    exact G_ireturnI rfl (mF fc288 (by rfl))
  ·
    refine (G_aload rfl (mF fc288 (by rfl))).trans ?_
    refine (G_Vi (q := 95425) (y := 186) (a := a0) (c := 12) rfl rfl rfl rfl (by decide) rfl (as := [.ref a0]) (rest := []) rfl rfl (mF fc288 (by rfl))).trans (andR (GoCi_congr fun v2 h2 => ?_))
    refine (G_eq (mF fc288 (by rfl))).trans (gi ?_ ?_)
    ·
      refine (G_iconst (mF fc288 (by rfl))).trans ?_
      exact G_ireturnI rfl (mF fc288 (by rfl))
    ·
      refine (G_iload rfl (mF fc288 (by rfl))).trans ?_
      refine (G_i2l (mF fc288 (by rfl))).trans ?_
      refine (G_jsr_w (mF fc288 (by rfl))).trans ?_
      refine (G_jsr_w (mF fc288 (by rfl))).trans ?_
      refine (G_Ti (q := 93891) (y := 183) rfl rfl rfl (as := [.long x2.toInt64, .long (jj 0), .long (jj 9999)]) (rest := []) rfl rfl (mF fc288 (by rfl))).trans (GoCi_congr fun v3 h3 => ?_)
      refine (G_ne (mF fc288 (by rfl))).trans (gi ?_ ?_)
      ·
        refine (G_iload rfl (mF fc288 (by rfl))).trans ?_
        refine (G_aload rfl (mF fc288 (by rfl))).trans ?_
        refine (G_getR (c := 12) (k := 1) rfl rfl rfl (mF fc288 (by rfl))).trans (andR ?_)
        refine (G_iconst (mF fc288 (by rfl))).trans ?_
        refine (G_iaload (mF fc288 (by rfl))).trans (andR ?_)
        refine (G_ile (mF fc288 (by rfl))).trans (gi ?_ ?_)
        ·
          refine (G_aload rfl (mF fc288 (by rfl))).trans ?_
          refine (G_getR (c := 12) (k := 1) rfl rfl rfl (mF fc288 (by rfl))).trans (andR ?_)
          refine (G_iconst (mF fc288 (by rfl))).trans ?_
          refine (G_iaload (mF fc288 (by rfl))).trans (andR ?_)
          exact Iff.rfl
        ·
          refine (G_iload rfl (mF fc288 (by rfl))).trans ?_
          refine (G_goto (mF fc288 (by rfl))).trans ?_
          exact Iff.rfl
      ·
        refine (G_iconst (mF fc288 (by rfl))).trans ?_
        exact G_ireturnI rfl (mF fc288 (by rfl))
theorem b288_51 {d : Nat} {h : mHeap} {Q : Option Value → mHeap → Prop} {a0 : Nat} {x1 : Int32} {l2 : Option Value} {l3 : Option Value} {l4 : Option Value} {l5 : Option Value} {l6 : Option Value} {s0 : Int32} (hl2 : mNo l2 = true) : Go d 288 51 [some (.ref a0), some (.int x1), l2, l3, l4, l5, l6] [.int s0] h Q ↔ okF h a0 12 1 2 ∧ okA h (fR h a0 1) .int (ii 1) ∧ okF h a0 12 1 2 ∧ okA h (fR h a0 1) .int (ii 6) ∧ Go d 288 69 [some (.ref a0), some (.int x1), l2, some (.int s0), some (.int (eI h (fR h a0 1) (ii 1))), some (.int (eI h (fR h a0 1) (ii 6))), l6] [] h Q := by
  refine (G_istore (k := 3) (L' := [some (.ref a0), some (.int x1), l2, some (.int s0), l4, l5, l6]) rfl (ltb rfl) (by exact hl2) (mF fc288 (by rfl))).trans ?_
  refine (G_aload rfl (mF fc288 (by rfl))).trans ?_
  refine (G_getR (c := 12) (k := 1) rfl rfl rfl (mF fc288 (by rfl))).trans (andR ?_)
  refine (G_iconst (mF fc288 (by rfl))).trans ?_
  refine (G_iaload (mF fc288 (by rfl))).trans (andR ?_)
  refine (G_istore (k := 4) (L' := [some (.ref a0), some (.int x1), l2, some (.int s0), some (.int (eI h (fR h a0 1) (ii 1))), l5, l6]) rfl (ltb rfl) rfl (mF fc288 (by rfl))).trans ?_
  refine (G_aload rfl (mF fc288 (by rfl))).trans ?_
  refine (G_getR (c := 12) (k := 1) rfl rfl rfl (mF fc288 (by rfl))).trans (andR ?_)
  refine (G_iconst (mF fc288 (by rfl))).trans ?_
  refine (G_iaload (mF fc288 (by rfl))).trans (andR ?_)
  refine (G_istore (k := 5) (L' := [some (.ref a0), some (.int x1), l2, some (.int s0), some (.int (eI h (fR h a0 1) (ii 1))), some (.int (eI h (fR h a0 1) (ii 6))), l6]) rfl (ltb rfl) rfl (mF fc288 (by rfl))).trans ?_
  exact Iff.rfl
theorem b288_69 {d : Nat} {h : mHeap} {Q : Option Value → mHeap → Prop} {a0 : Nat} {x1 : Int32} {l2 : Option Value} {x3 : Int32} {x4 : Int32} {x5 : Int32} {l6 : Option Value} : Go d 288 69 [some (.ref a0), some (.int x1), l2, some (.int x3), some (.int x4), some (.int x5), l6] [] h Q ↔ (if (x3 + (ii 100)) ≤ x5 then (Q (some (.int (ii (-2)))) h) else (Go d 288 81 [some (.ref a0), some (.int x1), l2, some (.int x3), some (.int x4), some (.int x5), some (.int (ii 0))] [] h Q)) := by
  refine (G_iload rfl (mF fc288 (by rfl))).trans ?_
  refine (G_iload rfl (mF fc288 (by rfl))).trans ?_
  refine (G_iconst (mF fc288 (by rfl))).trans ?_
  refine (G_iadd (mF fc288 (by rfl))).trans ?_
  refine (G_ige (mF fc288 (by rfl))).trans (gi ?_ ?_)
  ·
    refine (G_iconst (mF fc288 (by rfl))).trans ?_
    exact G_ireturnI rfl (mF fc288 (by rfl))
  ·
    refine (G_iconst (mF fc288 (by rfl))).trans ?_
    refine (G_istore (k := 6) (L' := [some (.ref a0), some (.int x1), l2, some (.int x3), some (.int x4), some (.int x5), some (.int (ii 0))]) rfl (ltb rfl) rfl (mF fc288 (by rfl))).trans ?_
    exact Iff.rfl
theorem b288_81 {d : Nat} {h : mHeap} {Q : Option Value → mHeap → Prop} {a0 : Nat} {x1 : Int32} {l2 : Option Value} {x3 : Int32} {x4 : Int32} {x5 : Int32} {x6 : Int32} : Go d 288 81 [some (.ref a0), some (.int x1), l2, some (.int x3), some (.int x4), some (.int x5), some (.int x6)] [] h Q ↔ okF h a0 12 1 2 ∧ okA h (fR h a0 1) .int (ii 5) ∧ (if (eI h (fR h a0 1) (ii 5)) ≤ x6 then (Go d 288 140 [some (.ref a0), some (.int x1), l2, some (.int x3), some (.int x4), some (.int x5), some (.int x6)] [] h Q) else (okF h a0 12 1 2 ∧ okA h (fR h a0 1) .int (ii 6) ∧ (if x5 ≤ (eI h (fR h a0 1) (ii 6)) then (Go d 288 140 [some (.ref a0), some (.int x1), l2, some (.int x3), some (.int x4), some (.int x5), some (.int x6)] [] h Q) else (okF h a0 12 12 2 ∧ okA h (fR h a0 12) .int x6 ∧ (if ¬ (eI h (fR h a0 12) x6) = x5 then (Go d 288 131 [some (.ref a0), some (.int x1), l2, some (.int x3), some (.int x4), some (.int x5), some (.int x6)] [.int (ii 0), .int x4] h Q) else (okF h a0 12 11 2 ∧ okA h (fR h a0 11) .int x6 ∧ Go d 288 131 [some (.ref a0), some (.int x1), l2, some (.int x3), some (.int x4), some (.int x5), some (.int x6)] [.int (shl (ii 1) (eI h (fR h a0 11) x6)), .int x4] h Q)))))) := by
  refine (G_iload rfl (mF fc288 (by rfl))).trans ?_
  refine (G_aload rfl (mF fc288 (by rfl))).trans ?_
  refine (G_getR (c := 12) (k := 1) rfl rfl rfl (mF fc288 (by rfl))).trans (andR ?_)
  refine (G_iconst (mF fc288 (by rfl))).trans ?_
  refine (G_iaload (mF fc288 (by rfl))).trans (andR ?_)
  refine (G_ige (mF fc288 (by rfl))).trans (gi ?_ ?_)
  ·
    exact Iff.rfl
  ·
    refine (G_iload rfl (mF fc288 (by rfl))).trans ?_
    refine (G_aload rfl (mF fc288 (by rfl))).trans ?_
    refine (G_getR (c := 12) (k := 1) rfl rfl rfl (mF fc288 (by rfl))).trans (andR ?_)
    refine (G_iconst (mF fc288 (by rfl))).trans ?_
    refine (G_iaload (mF fc288 (by rfl))).trans (andR ?_)
    refine (G_ile (mF fc288 (by rfl))).trans (gi ?_ ?_)
    ·
      exact Iff.rfl
    ·
      refine (G_iload rfl (mF fc288 (by rfl))).trans ?_
      refine (G_aload rfl (mF fc288 (by rfl))).trans ?_
      refine (G_getR (c := 12) (k := 12) rfl rfl rfl (mF fc288 (by rfl))).trans (andR ?_)
      refine (G_iload rfl (mF fc288 (by rfl))).trans ?_
      refine (G_iaload (mF fc288 (by rfl))).trans (andR ?_)
      refine (G_iload rfl (mF fc288 (by rfl))).trans ?_
      refine (G_ine (mF fc288 (by rfl))).trans (gi ?_ ?_)
      ·
        refine (G_iconst (mF fc288 (by rfl))).trans ?_
        exact Iff.rfl
      ·
        refine (G_iconst (mF fc288 (by rfl))).trans ?_
        refine (G_aload rfl (mF fc288 (by rfl))).trans ?_
        refine (G_getR (c := 12) (k := 11) rfl rfl rfl (mF fc288 (by rfl))).trans (andR ?_)
        refine (G_iload rfl (mF fc288 (by rfl))).trans ?_
        refine (G_iaload (mF fc288 (by rfl))).trans (andR ?_)
        refine (G_ishl (mF fc288 (by rfl))).trans ?_
        refine (G_goto (mF fc288 (by rfl))).trans ?_
        exact Iff.rfl
theorem b288_131 {d : Nat} {h : mHeap} {Q : Option Value → mHeap → Prop} {a0 : Nat} {x1 : Int32} {l2 : Option Value} {x3 : Int32} {l4 : Option Value} {x5 : Int32} {x6 : Int32} {s0 : Int32} {s1 : Int32} : Go d 288 131 [some (.ref a0), some (.int x1), l2, some (.int x3), l4, some (.int x5), some (.int x6)] [.int s1, .int s0] h Q ↔ Go d 288 81 [some (.ref a0), some (.int x1), l2, some (.int x3), some (.int (s0 ^^^ s1)), some (.int x5), some (.int (x6 + ii 1))] [] h Q := by
  refine (G_ixor (mF fc288 (by rfl))).trans ?_
  refine (G_istore (k := 4) (L' := [some (.ref a0), some (.int x1), l2, some (.int x3), some (.int (s0 ^^^ s1)), some (.int x5), some (.int x6)]) rfl (ltb rfl) rfl (mF fc288 (by rfl))).trans ?_
  refine (G_iinc (k := 6) (L' := [some (.ref a0), some (.int x1), l2, some (.int x3), some (.int (s0 ^^^ s1)), some (.int x5), some (.int (x6 + ii 1))]) rfl rfl rfl (mF fc288 (by rfl))).trans ?_
  refine (G_goto (mF fc288 (by rfl))).trans ?_
  exact Iff.rfl
theorem b288_140 {d : Nat} {h : mHeap} {Q : Option Value → mHeap → Prop} {a0 : Nat} {x1 : Int32} {l2 : Option Value} {x3 : Int32} {x4 : Int32} {x5 : Int32} {l6 : Option Value} : Go d 288 140 [some (.ref a0), some (.int x1), l2, some (.int x3), some (.int x4), some (.int x5), l6] [] h Q ↔ (if x5 < x3 then (Go d 288 159 [some (.ref a0), some (.int x1), l2, some (.int x3), some (.int x4), some (.int x5), l6] [] h Q) else (oC h a0 = 12 ∧ GoCi d 250 [.ref a0, .int x1, .int x4] h (fun v1 h1 => (if v1 = ii 0 then (Go d 288 159 [some (.ref a0), some (.int x1), l2, some (.int x3), some (.int x4), some (.int x5), l6] [] h1 Q) else (Q (some (.int x5)) h1))))) := by
  refine (G_iload rfl (mF fc288 (by rfl))).trans ?_
  refine (G_iload rfl (mF fc288 (by rfl))).trans ?_
  refine (G_ilt (mF fc288 (by rfl))).trans (gi ?_ ?_)
  ·
    exact Iff.rfl
  ·
    refine (G_aload rfl (mF fc288 (by rfl))).trans ?_
    refine (G_iload rfl (mF fc288 (by rfl))).trans ?_
    refine (G_iload rfl (mF fc288 (by rfl))).trans ?_
    refine (G_Vi (q := 128195) (y := 250) (a := a0) (c := 12) rfl rfl rfl rfl (by decide) rfl (as := [.ref a0, .int x1, .int x4]) (rest := []) rfl rfl (mF fc288 (by rfl))).trans (andR (GoCi_congr fun v1 h1 => ?_))
    refine (G_eq (mF fc288 (by rfl))).trans (gi ?_ ?_)
    ·
      exact Iff.rfl
    ·
      refine (G_iload rfl (mF fc288 (by rfl))).trans ?_
      exact G_ireturnI rfl (mF fc288 (by rfl))
theorem b288_159 {d : Nat} {h : mHeap} {Q : Option Value → mHeap → Prop} {a0 : Nat} {x1 : Int32} {l2 : Option Value} {x3 : Int32} {x4 : Int32} {x5 : Int32} {l6 : Option Value} : Go d 288 159 [some (.ref a0), some (.int x1), l2, some (.int x3), some (.int x4), some (.int x5), l6] [] h Q ↔ Go d 288 69 [some (.ref a0), some (.int x1), l2, some (.int x3), some (.int x4), some (.int (x5 + ii 1)), l6] [] h Q := by
  refine (G_iinc (k := 5) (L' := [some (.ref a0), some (.int x1), l2, some (.int x3), some (.int x4), some (.int (x5 + ii 1)), l6]) rfl rfl rfl (mF fc288 (by rfl))).trans ?_
  refine (G_goto (mF fc288 (by rfl))).trans ?_
  exact Iff.rfl
theorem e288 {d : Nat} {h : mHeap} {K : Int32 → mHeap → Prop} {a0 : Nat} {x1 : Int32} {x2 : Int32} : GoCi (d + 1) 288 [.ref a0, .int x1, .int x2] h K ↔ Go d 288 0 [some (.ref a0), some (.int x1), some (.int x2), none, none, none, none] [] h (rI K) := GoCi_entry rfl rfl
set_option maxRecDepth 20000 in
theorem fc289 : mCodes[289]? = some mc289 := rfl
theorem b289_0 {d : Nat} {h : mHeap} {Q : Option Value → mHeap → Prop} {a0 : Nat} {x1 : Int32} {x2 : Int32} : Go d 289 0 [some (.ref a0), some (.int x1), some (.int x2)] [] h Q ↔ okF h a0 12 6 2 ∧ okA h (fR h a0 6) .int x1 ∧ (if ¬ (eI h (fR h a0 6) x1) = ii 0 then (((ii 0) = ii 0 ∨ (ii 0) = ii 1) ∧ Q (some (.int (ii 0))) h) else (oC h a0 = 12 ∧ GoCi d 247 [.ref a0, .int x1, .int x2] h (fun v1 h1 => (if v1 = ii 0 then (((ii 0) = ii 0 ∨ (ii 0) = ii 1) ∧ Q (some (.int (ii 0))) h1) else (okF h1 a0 12 1 2 ∧ okA h1 (fR h1 a0 1) .int (ii 1) ∧ oC h1 a0 = 12 ∧ GoCi d 250 [.ref a0, .int x2, .int (eI h1 (fR h1 a0 1) (ii 1))] h1 (fun v2 h2 => (if v2 = ii 0 then (((ii 0) = ii 0 ∨ (ii 0) = ii 1) ∧ Q (some (.int (ii 0))) h2) else (oC h2 a0 = 12 ∧ GoCi d 247 [.ref a0, .int (ii 6), .int x2] h2 (fun v3 h3 => (if ¬ v3 = ii 0 then (((ii 0) = ii 0 ∨ (ii 0) = ii 1) ∧ Q (some (.int (ii 0))) h3) else (oC h3 a0 = 12 ∧ GoCi d 248 [.ref a0, .int x2] h3 (fun v4 h4 => okF h4 a0 12 3 2 ∧ okA h4 (fR h4 a0 3) .int x1 ∧ (if v4 < (eI h4 (fR h4 a0 3) x1) then (((ii 0) = ii 0 ∨ (ii 0) = ii 1) ∧ Q (some (.int (ii 0))) h4) else (((ii 1) = ii 0 ∨ (ii 1) = ii 1) ∧ Q (some (.int (ii 1))) h4)))))))))))))) := by
  refine (G_aload rfl (mF fc289 (by rfl))).trans ?_
  refine (G_getR (c := 12) (k := 6) rfl rfl rfl (mF fc289 (by rfl))).trans (andR ?_)
  refine (G_iload rfl (mF fc289 (by rfl))).trans ?_
  refine (G_iaload (mF fc289 (by rfl))).trans (andR ?_)
  refine (G_ne (mF fc289 (by rfl))).trans (gi ?_ ?_)
  ·
    refine (G_iconst (mF fc289 (by rfl))).trans ?_
    exact G_ireturnZ rfl (mF fc289 (by rfl))
  ·
    refine (G_aload rfl (mF fc289 (by rfl))).trans ?_
    refine (G_iload rfl (mF fc289 (by rfl))).trans ?_
    refine (G_iload rfl (mF fc289 (by rfl))).trans ?_
    refine (G_Vi (q := 126659) (y := 247) (a := a0) (c := 12) rfl rfl rfl rfl (by decide) rfl (as := [.ref a0, .int x1, .int x2]) (rest := []) rfl rfl (mF fc289 (by rfl))).trans (andR (GoCi_congr fun v1 h1 => ?_))
    refine (G_eq (mF fc289 (by rfl))).trans (gi ?_ ?_)
    ·
      refine (G_iconst (mF fc289 (by rfl))).trans ?_
      exact G_ireturnZ rfl (mF fc289 (by rfl))
    ·
      refine (G_aload rfl (mF fc289 (by rfl))).trans ?_
      refine (G_iload rfl (mF fc289 (by rfl))).trans ?_
      refine (G_aload rfl (mF fc289 (by rfl))).trans ?_
      refine (G_getR (c := 12) (k := 1) rfl rfl rfl (mF fc289 (by rfl))).trans (andR ?_)
      refine (G_iconst (mF fc289 (by rfl))).trans ?_
      refine (G_iaload (mF fc289 (by rfl))).trans (andR ?_)
      refine (G_Vi (q := 128195) (y := 250) (a := a0) (c := 12) rfl rfl rfl rfl (by decide) rfl (as := [.ref a0, .int x2, .int (eI h1 (fR h1 a0 1) (ii 1))]) (rest := []) rfl rfl (mF fc289 (by rfl))).trans (andR (GoCi_congr fun v2 h2 => ?_))
      refine (G_eq (mF fc289 (by rfl))).trans (gi ?_ ?_)
      ·
        refine (G_iconst (mF fc289 (by rfl))).trans ?_
        exact G_ireturnZ rfl (mF fc289 (by rfl))
      ·
        refine (G_aload rfl (mF fc289 (by rfl))).trans ?_
        refine (G_iconst (mF fc289 (by rfl))).trans ?_
        refine (G_iload rfl (mF fc289 (by rfl))).trans ?_
        refine (G_Vi (q := 126659) (y := 247) (a := a0) (c := 12) rfl rfl rfl rfl (by decide) rfl (as := [.ref a0, .int (ii 6), .int x2]) (rest := []) rfl rfl (mF fc289 (by rfl))).trans (andR (GoCi_congr fun v3 h3 => ?_))
        refine (G_ne (mF fc289 (by rfl))).trans (gi ?_ ?_)
        ·
          refine (G_iconst (mF fc289 (by rfl))).trans ?_
          exact G_ireturnZ rfl (mF fc289 (by rfl))
        ·
          refine (G_aload rfl (mF fc289 (by rfl))).trans ?_
          refine (G_iload rfl (mF fc289 (by rfl))).trans ?_
          refine (G_Vi (q := 127170) (y := 248) (a := a0) (c := 12) rfl rfl rfl rfl (by decide) rfl (as := [.ref a0, .int x2]) (rest := []) rfl rfl (mF fc289 (by rfl))).trans (andR (GoCi_congr fun v4 h4 => ?_))
          refine (G_aload rfl (mF fc289 (by rfl))).trans ?_
          refine (G_getR (c := 12) (k := 3) rfl rfl rfl (mF fc289 (by rfl))).trans (andR ?_)
          refine (G_iload rfl (mF fc289 (by rfl))).trans ?_
          refine (G_iaload (mF fc289 (by rfl))).trans (andR ?_)
          refine (G_ilt (mF fc289 (by rfl))).trans (gi ?_ ?_)
          ·
            refine (G_iconst (mF fc289 (by rfl))).trans ?_
            exact G_ireturnZ rfl (mF fc289 (by rfl))
          ·
            refine (G_iconst (mF fc289 (by rfl))).trans ?_
            refine (G_goto (mF fc289 (by rfl))).trans ?_
            exact G_ireturnZ rfl (mF fc289 (by rfl))
theorem e289 {d : Nat} {h : mHeap} {K : Int32 → mHeap → Prop} {a0 : Nat} {x1 : Int32} {x2 : Int32} : GoCi (d + 1) 289 [.ref a0, .int x1, .int x2] h K ↔ Go d 289 0 [some (.ref a0), some (.int x1), some (.int x2)] [] h (rI K) := GoCi_entry rfl rfl
set_option maxRecDepth 20000 in
theorem fc290 : mCodes[290]? = some mc290 := rfl
theorem b290_0 {d : Nat} {h : mHeap} {Q : Option Value → mHeap → Prop} {a0 : Nat} {x1 : Int32} : Go d 290 0 [some (.ref a0), some (.int x1), none] [] h Q ↔ Go d 290 2 [some (.ref a0), some (.int x1), some (.int (ii 0))] [] h Q := by
  refine (G_iconst (mF fc290 (by rfl))).trans ?_
  refine (G_istore (k := 2) (L' := [some (.ref a0), some (.int x1), some (.int (ii 0))]) rfl (ltb rfl) rfl (mF fc290 (by rfl))).trans ?_
  exact Iff.rfl
theorem b290_2 {d : Nat} {h : mHeap} {Q : Option Value → mHeap → Prop} {a0 : Nat} {x1 : Int32} {x2 : Int32} : Go d 290 2 [some (.ref a0), some (.int x1), some (.int x2)] [] h Q ↔ okF h a0 12 32 0 ∧ (if (fI h a0 32) ≤ x2 then (((ii 0) = ii 0 ∨ (ii 0) = ii 1) ∧ Q (some (.int (ii 0))) h) else (oC h a0 = 12 ∧ GoCi d 289 [.ref a0, .int x1, .int x2] h (fun v1 h1 => (if v1 = ii 0 then (Go d 290 2 [some (.ref a0), some (.int x1), some (.int (x2 + ii 1))] [] h1 Q) else (((ii 1) = ii 0 ∨ (ii 1) = ii 1) ∧ Q (some (.int (ii 1))) h1))))) := by
  refine (G_iload rfl (mF fc290 (by rfl))).trans ?_
  refine (G_aload rfl (mF fc290 (by rfl))).trans ?_
  refine (G_getI (c := 12) (k := 32) rfl rfl rfl (mF fc290 (by rfl))).trans (andR ?_)
  refine (G_ige (mF fc290 (by rfl))).trans (gi ?_ ?_)
  ·
    refine (G_iconst (mF fc290 (by rfl))).trans ?_
    exact G_ireturnZ rfl (mF fc290 (by rfl))
  ·
    refine (G_aload rfl (mF fc290 (by rfl))).trans ?_
    refine (G_iload rfl (mF fc290 (by rfl))).trans ?_
    refine (G_iload rfl (mF fc290 (by rfl))).trans ?_
    refine (G_Vi (q := 148163) (y := 289) (a := a0) (c := 12) rfl rfl rfl rfl (by decide) rfl (as := [.ref a0, .int x1, .int x2]) (rest := []) rfl rfl (mF fc290 (by rfl))).trans (andR (GoCi_congr fun v1 h1 => ?_))
    refine (G_eq (mF fc290 (by rfl))).trans (gi ?_ ?_)
    ·
      refine (G_iinc (k := 2) (L' := [some (.ref a0), some (.int x1), some (.int (x2 + ii 1))]) rfl rfl rfl (mF fc290 (by rfl))).trans ?_
      refine (G_goto (mF fc290 (by rfl))).trans ?_
      exact Iff.rfl
    ·
      refine (G_iconst (mF fc290 (by rfl))).trans ?_
      exact G_ireturnZ rfl (mF fc290 (by rfl))
theorem e290 {d : Nat} {h : mHeap} {K : Int32 → mHeap → Prop} {a0 : Nat} {x1 : Int32} : GoCi (d + 1) 290 [.ref a0, .int x1] h K ↔ Go d 290 0 [some (.ref a0), some (.int x1), none] [] h (rI K) := GoCi_entry rfl rfl
set_option maxRecDepth 20000 in
theorem fc291 : mCodes[291]? = some mc291 := rfl
theorem b291_0 {d : Nat} {h : mHeap} {Q : Option Value → mHeap → Prop} {a0 : Nat} : Go d 291 0 [some (.ref a0)] [] h Q ↔ oC h a0 = 12 ∧ GoCv d 314 [.ref a0, .int (ii 4), .int (ii 0)] h (fun h1 => Q none h1) := by
  refine (G_aload rfl (mF fc291 (by rfl))).trans ?_
  refine (G_iconst (mF fc291 (by rfl))).trans ?_
  refine (G_iconst (mF fc291 (by rfl))).trans ?_
  refine (G_Vv (q := 160963) (y := 314) (a := a0) (c := 12) rfl rfl rfl rfl (by decide) rfl (as := [.ref a0, .int (ii 4), .int (ii 0)]) (rest := []) rfl rfl (mF fc291 (by rfl))).trans (andR (GoCv_congr fun h1 => ?_))
  exact G_return rfl (mF fc291 (by rfl))
theorem e291 {d : Nat} {h : mHeap} {K : mHeap → Prop} {a0 : Nat} : GoCv (d + 1) 291 [.ref a0] h K ↔ Go d 291 0 [some (.ref a0)] [] h (rV K) := GoCv_entry rfl rfl
set_option maxRecDepth 20000 in
theorem fc292 : mCodes[292]? = some mc292 := rfl
theorem b292_0 {d : Nat} {h : mHeap} {Q : Option Value → mHeap → Prop} {a0 : Nat} : Go d 292 0 [some (.ref a0)] [] h Q ↔ oC h a0 = 12 ∧ GoCv d 314 [.ref a0, .int (ii 4), .int (ii 1)] h (fun h1 => Q none h1) := by
  refine (G_aload rfl (mF fc292 (by rfl))).trans ?_
  refine (G_iconst (mF fc292 (by rfl))).trans ?_
  refine (G_iconst (mF fc292 (by rfl))).trans ?_
  refine (G_Vv (q := 160963) (y := 314) (a := a0) (c := 12) rfl rfl rfl rfl (by decide) rfl (as := [.ref a0, .int (ii 4), .int (ii 1)]) (rest := []) rfl rfl (mF fc292 (by rfl))).trans (andR (GoCv_congr fun h1 => ?_))
  exact G_return rfl (mF fc292 (by rfl))
theorem e292 {d : Nat} {h : mHeap} {K : mHeap → Prop} {a0 : Nat} : GoCv (d + 1) 292 [.ref a0] h K ↔ Go d 292 0 [some (.ref a0)] [] h (rV K) := GoCv_entry rfl rfl
set_option maxRecDepth 20000 in
theorem fc293 : mCodes[293]? = some mc293 := rfl
theorem b293_0 {d : Nat} {h : mHeap} {Q : Option Value → mHeap → Prop} {a0 : Nat} {x1 : Int32} {x2 : Int32} : Go d 293 0 [some (.ref a0), some (.int x1), some (.int x2), none, none, none] [] h Q ↔ oC h a0 = 12 ∧ GoCi d 187 [.ref a0, .int x1] h (fun v1 h1 => (if v1 = ii 0 then (Q (some (.int (ii (-1)))) h1) else (GoCi d 183 [.long x2.toInt64, .long (jj 0), .long (jj 1)] h1 (fun v2 h2 => (if ¬ v2 = ii 0 then (Go d 293 26 [some (.ref a0), some (.int x1), some (.int x2), some (.int (ii (-2))), some (.int (ii 0)), none] [] h2 Q) else (Q (some (.int (ii (-1)))) h2)))))) := by
  refine (G_aload rfl (mF fc293 (by rfl))).trans ?_
  refine (G_iload rfl (mF fc293 (by rfl))).trans ?_
  refine (G_Vi (q := 95938) (y := 187) (a := a0) (c := 12) rfl rfl rfl rfl (by decide) rfl (as := [.ref a0, .int x1]) (rest := []) rfl rfl (mF fc293 (by rfl))).trans (andR (GoCi_congr fun v1 h1 => ?_))
  refine (G_eq (mF fc293 (by rfl))).trans (gi ?_ ?_)
  ·
    refine (G_iconst (mF fc293 (by rfl))).trans ?_
    exact G_ireturnI rfl (mF fc293 (by rfl))
  ·
    refine (G_iload rfl (mF fc293 (by rfl))).trans ?_
    refine (G_i2l (mF fc293 (by rfl))).trans ?_
    refine (G_jsr_w (mF fc293 (by rfl))).trans ?_
    refine (G_jsr_w (mF fc293 (by rfl))).trans ?_
    refine (G_Ti (q := 93891) (y := 183) rfl rfl rfl (as := [.long x2.toInt64, .long (jj 0), .long (jj 1)]) (rest := []) rfl rfl (mF fc293 (by rfl))).trans (GoCi_congr fun v2 h2 => ?_)
    refine (G_ne (mF fc293 (by rfl))).trans (gi ?_ ?_)
    ·
      refine (G_iconst (mF fc293 (by rfl))).trans ?_
      refine (G_istore (k := 3) (L' := [some (.ref a0), some (.int x1), some (.int x2), some (.int (ii (-2))), none, none]) rfl (ltb rfl) rfl (mF fc293 (by rfl))).trans ?_
      refine (G_iconst (mF fc293 (by rfl))).trans ?_
      refine (G_istore (k := 4) (L' := [some (.ref a0), some (.int x1), some (.int x2), some (.int (ii (-2))), some (.int (ii 0)), none]) rfl (ltb rfl) rfl (mF fc293 (by rfl))).trans ?_
      exact Iff.rfl
    ·
      refine (G_iconst (mF fc293 (by rfl))).trans ?_
      exact G_ireturnI rfl (mF fc293 (by rfl))
theorem b293_26 {d : Nat} {h : mHeap} {Q : Option Value → mHeap → Prop} {a0 : Nat} {x1 : Int32} {x2 : Int32} {x3 : Int32} {x4 : Int32} {l5 : Option Value} : Go d 293 26 [some (.ref a0), some (.int x1), some (.int x2), some (.int x3), some (.int x4), l5] [] h Q ↔ okF h a0 12 32 0 ∧ (if (fI h a0 32) ≤ x4 then ((if x3 = (ii (-2)) then (Q (some (.int x3)) h) else ((if ¬ x2 = ii 0 then (oC h a0 = 12 ∧ GoCv d 291 [.ref a0] h (fun h1 => oC h1 a0 = 12 ∧ GoCv d 249 [.ref a0, .int (ii 6), .int x3] h1 (fun h2 => Go d 293 103 [some (.ref a0), some (.int x1), some (.int x2), some (.int x3), some (.int (ii 0)), some (.int (ii 0))] [] h2 Q))) else (Q (some (.int x3)) h))))) else (oC h a0 = 12 ∧ GoCi d 289 [.ref a0, .int x1, .int x4] h (fun v3 h3 => (if v3 = ii 0 then (Go d 293 68 [some (.ref a0), some (.int x1), some (.int x2), some (.int x3), some (.int x4), l5] [] h3 Q) else ((if x3 = (ii (-2)) then (Go d 293 65 [some (.ref a0), some (.int x1), some (.int x2), some (.int x3), some (.int x4), l5] [] h3 Q) else (oC h3 a0 = 12 ∧ GoCi d 248 [.ref a0, .int x4] h3 (fun v4 h4 => oC h4 a0 = 12 ∧ GoCi d 248 [.ref a0, .int x3] h4 (fun v5 h5 => (if v5 ≤ v4 then (Go d 293 68 [some (.ref a0), some (.int x1), some (.int x2), some (.int x3), some (.int x4), l5] [] h5 Q) else (Go d 293 65 [some (.ref a0), some (.int x1), some (.int x2), some (.int x3), some (.int x4), l5] [] h5 Q))))))))))) := by
  refine (G_iload rfl (mF fc293 (by rfl))).trans ?_
  refine (G_aload rfl (mF fc293 (by rfl))).trans ?_
  refine (G_getI (c := 12) (k := 32) rfl rfl rfl (mF fc293 (by rfl))).trans (andR ?_)
  refine (G_ige (mF fc293 (by rfl))).trans (gi ?_ ?_)
  ·
    refine (G_iload rfl (mF fc293 (by rfl))).trans ?_
    refine (G_iconst (mF fc293 (by rfl))).trans ?_
    refine (G_ieq (mF fc293 (by rfl))).trans (gi ?_ ?_)
    ·
      refine (G_iload rfl (mF fc293 (by rfl))).trans ?_
      exact G_ireturnI rfl (mF fc293 (by rfl))
    ·
      refine (G_iload rfl (mF fc293 (by rfl))).trans ?_
      refine (G_ne (mF fc293 (by rfl))).trans (gi ?_ ?_)
      ·
        refine (G_aload rfl (mF fc293 (by rfl))).trans ?_
        refine (G_Vv (q := 149185) (y := 291) (a := a0) (c := 12) rfl rfl rfl rfl (by decide) rfl (as := [.ref a0]) (rest := []) rfl rfl (mF fc293 (by rfl))).trans (andR (GoCv_congr fun h1 => ?_))
        refine (G_aload rfl (mF fc293 (by rfl))).trans ?_
        refine (G_iconst (mF fc293 (by rfl))).trans ?_
        refine (G_iload rfl (mF fc293 (by rfl))).trans ?_
        refine (G_Vv (q := 127683) (y := 249) (a := a0) (c := 12) rfl rfl rfl rfl (by decide) rfl (as := [.ref a0, .int (ii 6), .int x3]) (rest := []) rfl rfl (mF fc293 (by rfl))).trans (andR (GoCv_congr fun h2 => ?_))
        refine (G_iconst (mF fc293 (by rfl))).trans ?_
        refine (G_istore (k := 4) (L' := [some (.ref a0), some (.int x1), some (.int x2), some (.int x3), some (.int (ii 0)), l5]) rfl (ltb rfl) rfl (mF fc293 (by rfl))).trans ?_
        refine (G_iconst (mF fc293 (by rfl))).trans ?_
        refine (G_istore (k := 5) (L' := [some (.ref a0), some (.int x1), some (.int x2), some (.int x3), some (.int (ii 0)), some (.int (ii 0))]) rfl (ltb rfl) rfl (mF fc293 (by rfl))).trans ?_
        exact Iff.rfl
      ·
        refine (G_iload rfl (mF fc293 (by rfl))).trans ?_
        exact G_ireturnI rfl (mF fc293 (by rfl))
  ·
    refine (G_aload rfl (mF fc293 (by rfl))).trans ?_
    refine (G_iload rfl (mF fc293 (by rfl))).trans ?_
    refine (G_iload rfl (mF fc293 (by rfl))).trans ?_
    refine (G_Vi (q := 148163) (y := 289) (a := a0) (c := 12) rfl rfl rfl rfl (by decide) rfl (as := [.ref a0, .int x1, .int x4]) (rest := []) rfl rfl (mF fc293 (by rfl))).trans (andR (GoCi_congr fun v3 h3 => ?_))
    refine (G_eq (mF fc293 (by rfl))).trans (gi ?_ ?_)
    ·
      exact Iff.rfl
    ·
      refine (G_iload rfl (mF fc293 (by rfl))).trans ?_
      refine (G_iconst (mF fc293 (by rfl))).trans ?_
      refine (G_ieq (mF fc293 (by rfl))).trans (gi ?_ ?_)
      ·
        exact Iff.rfl
      ·
        refine (G_aload rfl (mF fc293 (by rfl))).trans ?_
        refine (G_iload rfl (mF fc293 (by rfl))).trans ?_
        refine (G_Vi (q := 127170) (y := 248) (a := a0) (c := 12) rfl rfl rfl rfl (by decide) rfl (as := [.ref a0, .int x4]) (rest := []) rfl rfl (mF fc293 (by rfl))).trans (andR (GoCi_congr fun v4 h4 => ?_))
        refine (G_aload rfl (mF fc293 (by rfl))).trans ?_
        refine (G_iload rfl (mF fc293 (by rfl))).trans ?_
        refine (G_Vi (q := 127170) (y := 248) (a := a0) (c := 12) rfl rfl rfl rfl (by decide) rfl (as := [.ref a0, .int x3]) (rest := [.int v4]) rfl rfl (mF fc293 (by rfl))).trans (andR (GoCi_congr fun v5 h5 => ?_))
        refine (G_ige (mF fc293 (by rfl))).trans (gi ?_ ?_)
        ·
          exact Iff.rfl
        ·
          exact Iff.rfl
theorem b293_65 {d : Nat} {h : mHeap} {Q : Option Value → mHeap → Prop} {a0 : Nat} {x1 : Int32} {x2 : Int32} {l3 : Option Value} {x4 : Int32} {l5 : Option Value} : Go d 293 65 [some (.ref a0), some (.int x1), some (.int x2), l3, some (.int x4), l5] [] h Q ↔ Go d 293 68 [some (.ref a0), some (.int x1), some (.int x2), some (.int x4), some (.int x4), l5] [] h Q := by
  refine (G_iload rfl (mF fc293 (by rfl))).trans ?_
  refine (G_istore (k := 3) (L' := [some (.ref a0), some (.int x1), some (.int x2), some (.int x4), some (.int x4), l5]) rfl (ltb rfl) rfl (mF fc293 (by rfl))).trans ?_
  exact Iff.rfl
theorem b293_68 {d : Nat} {h : mHeap} {Q : Option Value → mHeap → Prop} {a0 : Nat} {x1 : Int32} {x2 : Int32} {x3 : Int32} {x4 : Int32} {l5 : Option Value} : Go d 293 68 [some (.ref a0), some (.int x1), some (.int x2), some (.int x3), some (.int x4), l5] [] h Q ↔ Go d 293 26 [some (.ref a0), some (.int x1), some (.int x2), some (.int x3), some (.int (x4 + ii 1)), l5] [] h Q := by
  refine (G_iinc (k := 4) (L' := [some (.ref a0), some (.int x1), some (.int x2), some (.int x3), some (.int (x4 + ii 1)), l5]) rfl rfl rfl (mF fc293 (by rfl))).trans ?_
  refine (G_goto (mF fc293 (by rfl))).trans ?_
  exact Iff.rfl
theorem b293_103 {d : Nat} {h : mHeap} {Q : Option Value → mHeap → Prop} {a0 : Nat} {x1 : Int32} {l2 : Option Value} {l3 : Option Value} {x4 : Int32} {x5 : Int32} : Go d 293 103 [some (.ref a0), some (.int x1), l2, l3, some (.int x4), some (.int x5)] [] h Q ↔ okF h a0 12 1 2 ∧ okA h (fR h a0 1) .int (ii 2) ∧ (if (eI h (fR h a0 1) (ii 2)) ≤ x5 then (oC h a0 = 12 ∧ GoCv d 292 [.ref a0] h (fun h1 => Q (some (.int x4)) h1)) else ((if x5 = x1 then (Go d 293 151 [some (.ref a0), some (.int x1), l2, l3, some (.int x4), some (.int x5)] [.int x4] h Q) else (okF h a0 12 2 2 ∧ okA h (fR h a0 2) .int x5 ∧ okF h a0 12 2 2 ∧ okA h (fR h a0 2) .int x1 ∧ (if ¬ (eI h (fR h a0 2) x5) = (eI h (fR h a0 2) x1) then (Go d 293 151 [some (.ref a0), some (.int x1), l2, l3, some (.int x4), some (.int x5)] [.int x4] h Q) else (oC h a0 = 12 ∧ GoCi d 290 [.ref a0, .int x5] h (fun v2 h2 => (if v2 = ii 0 then (Go d 293 151 [some (.ref a0), some (.int x1), l2, l3, some (.int x4), some (.int x5)] [.int x4] h2 Q) else (Go d 293 152 [some (.ref a0), some (.int x1), l2, l3, some (.int x4), some (.int x5)] [.int (ii 1), .int x4] h2 Q))))))))) := by
  refine (G_iload rfl (mF fc293 (by rfl))).trans ?_
  refine (G_aload rfl (mF fc293 (by rfl))).trans ?_
  refine (G_getR (c := 12) (k := 1) rfl rfl rfl (mF fc293 (by rfl))).trans (andR ?_)
  refine (G_iconst (mF fc293 (by rfl))).trans ?_
  refine (G_iaload (mF fc293 (by rfl))).trans (andR ?_)
  refine (G_ige (mF fc293 (by rfl))).trans (gi ?_ ?_)
  ·
    refine (G_aload rfl (mF fc293 (by rfl))).trans ?_
    refine (G_Vv (q := 149697) (y := 292) (a := a0) (c := 12) rfl rfl rfl rfl (by decide) rfl (as := [.ref a0]) (rest := []) rfl rfl (mF fc293 (by rfl))).trans (andR (GoCv_congr fun h1 => ?_))
    refine (G_iload rfl (mF fc293 (by rfl))).trans ?_
    exact G_ireturnI rfl (mF fc293 (by rfl))
  ·
    refine (G_iload rfl (mF fc293 (by rfl))).trans ?_
    refine (G_iload rfl (mF fc293 (by rfl))).trans ?_
    refine (G_iload rfl (mF fc293 (by rfl))).trans ?_
    refine (G_ieq (mF fc293 (by rfl))).trans (gi ?_ ?_)
    ·
      exact Iff.rfl
    ·
      refine (G_aload rfl (mF fc293 (by rfl))).trans ?_
      refine (G_getR (c := 12) (k := 2) rfl rfl rfl (mF fc293 (by rfl))).trans (andR ?_)
      refine (G_iload rfl (mF fc293 (by rfl))).trans ?_
      refine (G_iaload (mF fc293 (by rfl))).trans (andR ?_)
      refine (G_aload rfl (mF fc293 (by rfl))).trans ?_
      refine (G_getR (c := 12) (k := 2) rfl rfl rfl (mF fc293 (by rfl))).trans (andR ?_)
      refine (G_iload rfl (mF fc293 (by rfl))).trans ?_
      refine (G_iaload (mF fc293 (by rfl))).trans (andR ?_)
      refine (G_ine (mF fc293 (by rfl))).trans (gi ?_ ?_)
      ·
        exact Iff.rfl
      ·
        refine (G_aload rfl (mF fc293 (by rfl))).trans ?_
        refine (G_iload rfl (mF fc293 (by rfl))).trans ?_
        refine (G_Vi (q := 148674) (y := 290) (a := a0) (c := 12) rfl rfl rfl rfl (by decide) rfl (as := [.ref a0, .int x5]) (rest := [.int x4]) rfl rfl (mF fc293 (by rfl))).trans (andR (GoCi_congr fun v2 h2 => ?_))
        refine (G_eq (mF fc293 (by rfl))).trans (gi ?_ ?_)
        ·
          exact Iff.rfl
        ·
          refine (G_iconst (mF fc293 (by rfl))).trans ?_
          refine (G_goto (mF fc293 (by rfl))).trans ?_
          exact Iff.rfl
theorem b293_151 {d : Nat} {h : mHeap} {Q : Option Value → mHeap → Prop} {a0 : Nat} {x1 : Int32} {l2 : Option Value} {l3 : Option Value} {l4 : Option Value} {x5 : Int32} {s0 : Int32} : Go d 293 151 [some (.ref a0), some (.int x1), l2, l3, l4, some (.int x5)] [.int s0] h Q ↔ Go d 293 152 [some (.ref a0), some (.int x1), l2, l3, l4, some (.int x5)] [.int (ii 0), .int s0] h Q := by
  refine (G_iconst (mF fc293 (by rfl))).trans ?_
  exact Iff.rfl
theorem b293_152 {d : Nat} {h : mHeap} {Q : Option Value → mHeap → Prop} {a0 : Nat} {x1 : Int32} {l2 : Option Value} {l3 : Option Value} {l4 : Option Value} {x5 : Int32} {s0 : Int32} {s1 : Int32} (hl3 : mNo l3 = true) : Go d 293 152 [some (.ref a0), some (.int x1), l2, l3, l4, some (.int x5)] [.int s1, .int s0] h Q ↔ Go d 293 103 [some (.ref a0), some (.int x1), l2, l3, some (.int (s0 + s1)), some (.int (x5 + ii 1))] [] h Q := by
  refine (G_iadd (mF fc293 (by rfl))).trans ?_
  refine (G_istore (k := 4) (L' := [some (.ref a0), some (.int x1), l2, l3, some (.int (s0 + s1)), some (.int x5)]) rfl (ltb rfl) (by exact hl3) (mF fc293 (by rfl))).trans ?_
  refine (G_iinc (k := 5) (L' := [some (.ref a0), some (.int x1), l2, l3, some (.int (s0 + s1)), some (.int (x5 + ii 1))]) rfl rfl rfl (mF fc293 (by rfl))).trans ?_
  refine (G_goto (mF fc293 (by rfl))).trans ?_
  exact Iff.rfl
theorem e293 {d : Nat} {h : mHeap} {K : Int32 → mHeap → Prop} {a0 : Nat} {x1 : Int32} {x2 : Int32} : GoCi (d + 1) 293 [.ref a0, .int x1, .int x2] h K ↔ Go d 293 0 [some (.ref a0), some (.int x1), some (.int x2), none, none, none] [] h (rI K) := GoCi_entry rfl rfl
set_option maxRecDepth 20000 in
theorem fc294 : mCodes[294]? = some mc294 := rfl
theorem b294_0 {d : Nat} {h : mHeap} {Q : Option Value → mHeap → Prop} {a0 : Nat} {x1 : Int32} : Go d 294 0 [some (.ref a0), some (.int x1), none] [] h Q ↔ okP h a0 12 67 ∧ Go d 294 7 [some (.ref a0), some (.int x1), some (.int (ii 0))] [] (sF h a0 67 (.int (ii 0))) Q := by
  refine (G_aload rfl (mF fc294 (by rfl))).trans ?_
  refine (G_iconst (mF fc294 (by rfl))).trans ?_
  refine (G_putT (c := 12) (k := 67) rfl rfl rfl (mF fc294 (by rfl))).trans (andR ?_)
  refine (G_iconst (mF fc294 (by rfl))).trans ?_
  refine (G_istore (k := 2) (L' := [some (.ref a0), some (.int x1), some (.int (ii 0))]) rfl (ltb rfl) rfl (mF fc294 (by rfl))).trans ?_
  exact Iff.rfl
theorem b294_7 {d : Nat} {h : mHeap} {Q : Option Value → mHeap → Prop} {a0 : Nat} {x1 : Int32} {x2 : Int32} : Go d 294 7 [some (.ref a0), some (.int x1), some (.int x2)] [] h Q ↔ okF h a0 12 1 2 ∧ okA h (fR h a0 1) .int (ii 2) ∧ (if (eI h (fR h a0 1) (ii 2)) ≤ x2 then (Q none h) else (okF h a0 12 2 2 ∧ okA h (fR h a0 2) .int x2 ∧ (if ¬ (eI h (fR h a0 2) x2) = x1 then (Go d 294 56 [some (.ref a0), some (.int x1), some (.int x2)] [] h Q) else (okF h a0 12 6 2 ∧ okA h (fR h a0 6) .int x2 ∧ (if ¬ (eI h (fR h a0 6) x2) = ii 0 then (Go d 294 56 [some (.ref a0), some (.int x1), some (.int x2)] [] h Q) else (okF h a0 12 63 2 ∧ okF h a0 12 67 0 ∧ (64 ≤ (fR h a0 63) ∧ okA h (fR h a0 63) .int (fI h a0 67)) ∧ okF (sI h (fR h a0 63) (fI h a0 67) x2) a0 12 67 0 ∧ okP (sI h (fR h a0 63) (fI h a0 67) x2) a0 12 67 ∧ Go d 294 56 [some (.ref a0), some (.int x1), some (.int x2)] [] (sF (sI h (fR h a0 63) (fI h a0 67) x2) a0 67 (.int ((fI (sI h (fR h a0 63) (fI h a0 67) x2) a0 67) + (ii 1)))) Q)))))) := by
  refine (G_iload rfl (mF fc294 (by rfl))).trans ?_
  refine (G_aload rfl (mF fc294 (by rfl))).trans ?_
  refine (G_getR (c := 12) (k := 1) rfl rfl rfl (mF fc294 (by rfl))).trans (andR ?_)
  refine (G_iconst (mF fc294 (by rfl))).trans ?_
  refine (G_iaload (mF fc294 (by rfl))).trans (andR ?_)
  refine (G_ige (mF fc294 (by rfl))).trans (gi ?_ ?_)
  ·
    exact G_return rfl (mF fc294 (by rfl))
  ·
    refine (G_aload rfl (mF fc294 (by rfl))).trans ?_
    refine (G_getR (c := 12) (k := 2) rfl rfl rfl (mF fc294 (by rfl))).trans (andR ?_)
    refine (G_iload rfl (mF fc294 (by rfl))).trans ?_
    refine (G_iaload (mF fc294 (by rfl))).trans (andR ?_)
    refine (G_iload rfl (mF fc294 (by rfl))).trans ?_
    refine (G_ine (mF fc294 (by rfl))).trans (gi ?_ ?_)
    ·
      exact Iff.rfl
    ·
      refine (G_aload rfl (mF fc294 (by rfl))).trans ?_
      refine (G_getR (c := 12) (k := 6) rfl rfl rfl (mF fc294 (by rfl))).trans (andR ?_)
      refine (G_iload rfl (mF fc294 (by rfl))).trans ?_
      refine (G_iaload (mF fc294 (by rfl))).trans (andR ?_)
      refine (G_ne (mF fc294 (by rfl))).trans (gi ?_ ?_)
      ·
        exact Iff.rfl
      ·
        refine (G_aload rfl (mF fc294 (by rfl))).trans ?_
        refine (G_getR (c := 12) (k := 63) rfl rfl rfl (mF fc294 (by rfl))).trans (andR ?_)
        refine (G_aload rfl (mF fc294 (by rfl))).trans ?_
        refine (G_getI (c := 12) (k := 67) rfl rfl rfl (mF fc294 (by rfl))).trans (andR ?_)
        refine (G_iload rfl (mF fc294 (by rfl))).trans ?_
        refine (G_iastore (mF fc294 (by rfl))).trans (andR ?_)
        refine (G_aload rfl (mF fc294 (by rfl))).trans ?_
        refine (G_dupr (mF fc294 (by rfl))).trans ?_
        refine (G_getI (c := 12) (k := 67) rfl rfl rfl (mF fc294 (by rfl))).trans (andR ?_)
        refine (G_iconst (mF fc294 (by rfl))).trans ?_
        refine (G_iadd (mF fc294 (by rfl))).trans ?_
        refine (G_putT (c := 12) (k := 67) rfl rfl rfl (mF fc294 (by rfl))).trans (andR ?_)
        exact Iff.rfl
theorem b294_56 {d : Nat} {h : mHeap} {Q : Option Value → mHeap → Prop} {a0 : Nat} {x1 : Int32} {x2 : Int32} : Go d 294 56 [some (.ref a0), some (.int x1), some (.int x2)] [] h Q ↔ Go d 294 7 [some (.ref a0), some (.int x1), some (.int (x2 + ii 1))] [] h Q := by
  refine (G_iinc (k := 2) (L' := [some (.ref a0), some (.int x1), some (.int (x2 + ii 1))]) rfl rfl rfl (mF fc294 (by rfl))).trans ?_
  refine (G_goto (mF fc294 (by rfl))).trans ?_
  exact Iff.rfl
theorem e294 {d : Nat} {h : mHeap} {K : mHeap → Prop} {a0 : Nat} {x1 : Int32} : GoCv (d + 1) 294 [.ref a0, .int x1] h K ↔ Go d 294 0 [some (.ref a0), some (.int x1), none] [] h (rV K) := GoCv_entry rfl rfl
set_option maxRecDepth 20000 in
theorem fc295 : mCodes[295]? = some mc295 := rfl
theorem b295_0 {d : Nat} {h : mHeap} {Q : Option Value → mHeap → Prop} {a0 : Nat} {x1 : Int32} {x2 : Int32} : Go d 295 0 [some (.ref a0), some (.int x1), some (.int x2), none] [] h Q ↔ Go d 295 2 [some (.ref a0), some (.int x1), some (.int x2), some (.int (ii 0))] [] h Q := by
  refine (G_iconst (mF fc295 (by rfl))).trans ?_
  refine (G_istore (k := 3) (L' := [some (.ref a0), some (.int x1), some (.int x2), some (.int (ii 0))]) rfl (ltb rfl) rfl (mF fc295 (by rfl))).trans ?_
  exact Iff.rfl
theorem b295_2 {d : Nat} {h : mHeap} {Q : Option Value → mHeap → Prop} {a0 : Nat} {x1 : Int32} {x2 : Int32} {x3 : Int32} : Go d 295 2 [some (.ref a0), some (.int x1), some (.int x2), some (.int x3)] [] h Q ↔ (if (ii 8) ≤ x3 then (Q none h) else ((if x2 = ii 0 then (okF h a0 12 66 2 ∧ okF h a0 12 15 2 ∧ okA h (fR h a0 15) .int ((ii 48) + x3) ∧ (64 ≤ (fR h a0 66) ∧ okA h (fR h a0 66) .int (((ii 8) * x1) + x3)) ∧ Go d 295 55 [some (.ref a0), some (.int x1), some (.int x2), some (.int x3)] [] (sI h (fR h a0 66) (((ii 8) * x1) + x3) (eI h (fR h a0 15) ((ii 48) + x3))) Q) else (okF h a0 12 15 2 ∧ okF h a0 12 66 2 ∧ okA h (fR h a0 66) .int (((ii 8) * x1) + x3) ∧ (64 ≤ (fR h a0 15) ∧ okA h (fR h a0 15) .int ((ii 48) + x3)) ∧ Go d 295 55 [some (.ref a0), some (.int x1), some (.int x2), some (.int x3)] [] (sI h (fR h a0 15) ((ii 48) + x3) (eI h (fR h a0 66) (((ii 8) * x1) + x3))) Q)))) := by
  refine (G_iload rfl (mF fc295 (by rfl))).trans ?_
  refine (G_iconst (mF fc295 (by rfl))).trans ?_
  refine (G_ige (mF fc295 (by rfl))).trans (gi ?_ ?_)
  ·
    exact G_return rfl (mF fc295 (by rfl))
  ·
    refine (G_iload rfl (mF fc295 (by rfl))).trans ?_
    refine (G_eq (mF fc295 (by rfl))).trans (gi ?_ ?_)
    ·
      refine (G_aload rfl (mF fc295 (by rfl))).trans ?_
      refine (G_getR (c := 12) (k := 66) rfl rfl rfl (mF fc295 (by rfl))).trans (andR ?_)
      refine (G_iconst (mF fc295 (by rfl))).trans ?_
      refine (G_iload rfl (mF fc295 (by rfl))).trans ?_
      refine (G_imul (mF fc295 (by rfl))).trans ?_
      refine (G_iload rfl (mF fc295 (by rfl))).trans ?_
      refine (G_iadd (mF fc295 (by rfl))).trans ?_
      refine (G_aload rfl (mF fc295 (by rfl))).trans ?_
      refine (G_getR (c := 12) (k := 15) rfl rfl rfl (mF fc295 (by rfl))).trans (andR ?_)
      refine (G_iconst (mF fc295 (by rfl))).trans ?_
      refine (G_iload rfl (mF fc295 (by rfl))).trans ?_
      refine (G_iadd (mF fc295 (by rfl))).trans ?_
      refine (G_iaload (mF fc295 (by rfl))).trans (andR ?_)
      refine (G_iastore (mF fc295 (by rfl))).trans (andR ?_)
      exact Iff.rfl
    ·
      refine (G_aload rfl (mF fc295 (by rfl))).trans ?_
      refine (G_getR (c := 12) (k := 15) rfl rfl rfl (mF fc295 (by rfl))).trans (andR ?_)
      refine (G_iconst (mF fc295 (by rfl))).trans ?_
      refine (G_iload rfl (mF fc295 (by rfl))).trans ?_
      refine (G_iadd (mF fc295 (by rfl))).trans ?_
      refine (G_aload rfl (mF fc295 (by rfl))).trans ?_
      refine (G_getR (c := 12) (k := 66) rfl rfl rfl (mF fc295 (by rfl))).trans (andR ?_)
      refine (G_iconst (mF fc295 (by rfl))).trans ?_
      refine (G_iload rfl (mF fc295 (by rfl))).trans ?_
      refine (G_imul (mF fc295 (by rfl))).trans ?_
      refine (G_iload rfl (mF fc295 (by rfl))).trans ?_
      refine (G_iadd (mF fc295 (by rfl))).trans ?_
      refine (G_iaload (mF fc295 (by rfl))).trans (andR ?_)
      refine (G_iastore (mF fc295 (by rfl))).trans (andR ?_)
      refine (G_goto (mF fc295 (by rfl))).trans ?_
      exact Iff.rfl
theorem b295_55 {d : Nat} {h : mHeap} {Q : Option Value → mHeap → Prop} {a0 : Nat} {x1 : Int32} {x2 : Int32} {x3 : Int32} : Go d 295 55 [some (.ref a0), some (.int x1), some (.int x2), some (.int x3)] [] h Q ↔ Go d 295 2 [some (.ref a0), some (.int x1), some (.int x2), some (.int (x3 + ii 1))] [] h Q := by
  refine (G_iinc (k := 3) (L' := [some (.ref a0), some (.int x1), some (.int x2), some (.int (x3 + ii 1))]) rfl rfl rfl (mF fc295 (by rfl))).trans ?_
  refine (G_goto (mF fc295 (by rfl))).trans ?_
  exact Iff.rfl
theorem e295 {d : Nat} {h : mHeap} {K : mHeap → Prop} {a0 : Nat} {x1 : Int32} {x2 : Int32} : GoCv (d + 1) 295 [.ref a0, .int x1, .int x2] h K ↔ Go d 295 0 [some (.ref a0), some (.int x1), some (.int x2), none] [] h (rV K) := GoCv_entry rfl rfl
set_option maxRecDepth 20000 in
theorem fc296 : mCodes[296]? = some mc296 := rfl
theorem b296_0 {d : Nat} {h : mHeap} {Q : Option Value → mHeap → Prop} {a0 : Nat} {x1 : Int32} {x2 : Int32} : Go d 296 0 [some (.ref a0), some (.int x1), some (.int x2), none] [] h Q ↔ Go d 296 2 [some (.ref a0), some (.int x1), some (.int x2), some (.int (ii 0))] [] h Q := by
  refine (G_iconst (mF fc296 (by rfl))).trans ?_
  refine (G_istore (k := 3) (L' := [some (.ref a0), some (.int x1), some (.int x2), some (.int (ii 0))]) rfl (ltb rfl) rfl (mF fc296 (by rfl))).trans ?_
  exact Iff.rfl
theorem b296_2 {d : Nat} {h : mHeap} {Q : Option Value → mHeap → Prop} {a0 : Nat} {x1 : Int32} {x2 : Int32} {x3 : Int32} : Go d 296 2 [some (.ref a0), some (.int x1), some (.int x2), some (.int x3)] [] h Q ↔ (if x1 ≤ x3 then (((ii 0) = ii 0 ∨ (ii 0) = ii 1) ∧ Q (some (.int (ii 0))) h) else (okF h a0 12 64 2 ∧ okA h (fR h a0 64) .int x3 ∧ (¬ (ii 8) = ii 0) ∧ (if ¬ ((eI h (fR h a0 64) x3) / (ii 8)) = x2 then (Go d 296 2 [some (.ref a0), some (.int x1), some (.int x2), some (.int (x3 + ii 1))] [] h Q) else (((ii 1) = ii 0 ∨ (ii 1) = ii 1) ∧ Q (some (.int (ii 1))) h)))) := by
  refine (G_iload rfl (mF fc296 (by rfl))).trans ?_
  refine (G_iload rfl (mF fc296 (by rfl))).trans ?_
  refine (G_ige (mF fc296 (by rfl))).trans (gi ?_ ?_)
  ·
    refine (G_iconst (mF fc296 (by rfl))).trans ?_
    exact G_ireturnZ rfl (mF fc296 (by rfl))
  ·
    refine (G_aload rfl (mF fc296 (by rfl))).trans ?_
    refine (G_getR (c := 12) (k := 64) rfl rfl rfl (mF fc296 (by rfl))).trans (andR ?_)
    refine (G_iload rfl (mF fc296 (by rfl))).trans ?_
    refine (G_iaload (mF fc296 (by rfl))).trans (andR ?_)
    refine (G_iconst (mF fc296 (by rfl))).trans ?_
    refine (G_idiv (mF fc296 (by rfl))).trans (andR ?_)
    refine (G_iload rfl (mF fc296 (by rfl))).trans ?_
    refine (G_ine (mF fc296 (by rfl))).trans (gi ?_ ?_)
    ·
      refine (G_iinc (k := 3) (L' := [some (.ref a0), some (.int x1), some (.int x2), some (.int (x3 + ii 1))]) rfl rfl rfl (mF fc296 (by rfl))).trans ?_
      refine (G_goto (mF fc296 (by rfl))).trans ?_
      exact Iff.rfl
    ·
      refine (G_iconst (mF fc296 (by rfl))).trans ?_
      exact G_ireturnZ rfl (mF fc296 (by rfl))
theorem e296 {d : Nat} {h : mHeap} {K : Int32 → mHeap → Prop} {a0 : Nat} {x1 : Int32} {x2 : Int32} : GoCi (d + 1) 296 [.ref a0, .int x1, .int x2] h K ↔ Go d 296 0 [some (.ref a0), some (.int x1), some (.int x2), none] [] h (rI K) := GoCi_entry rfl rfl
set_option maxRecDepth 20000 in
theorem fc297 : mCodes[297]? = some mc297 := rfl
theorem b297_0 {d : Nat} {h : mHeap} {Q : Option Value → mHeap → Prop} {a0 : Nat} : Go d 297 0 [some (.ref a0), none, none, none] [] h Q ↔ okP h a0 12 68 ∧ okF (sF h a0 68 (.int (ii 0))) a0 12 64 2 ∧ (64 ≤ (fR (sF h a0 68 (.int (ii 0))) a0 64) ∧ okA (sF h a0 68 (.int (ii 0))) (fR (sF h a0 68 (.int (ii 0))) a0 64) .int (ii 0)) ∧ oC (sI (sF h a0 68 (.int (ii 0))) (fR (sF h a0 68 (.int (ii 0))) a0 64) (ii 0) (ii (-1))) a0 = 12 ∧ GoCv d 295 [.ref a0, .int (ii 0), .int (ii 0)] (sI (sF h a0 68 (.int (ii 0))) (fR (sF h a0 68 (.int (ii 0))) a0 64) (ii 0) (ii (-1))) (fun h1 => Go d 297 20 [some (.ref a0), some (.int (ii 0)), none, none] [] h1 Q) := by
  refine (G_aload rfl (mF fc297 (by rfl))).trans ?_
  refine (G_iconst (mF fc297 (by rfl))).trans ?_
  refine (G_putT (c := 12) (k := 68) rfl rfl rfl (mF fc297 (by rfl))).trans (andR ?_)
  refine (G_iconst (mF fc297 (by rfl))).trans ?_
  refine (G_istore (k := 1) (L' := [some (.ref a0), some (.int (ii 0)), none, none]) rfl (ltb rfl) rfl (mF fc297 (by rfl))).trans ?_
  refine (G_aload rfl (mF fc297 (by rfl))).trans ?_
  refine (G_getR (c := 12) (k := 64) rfl rfl rfl (mF fc297 (by rfl))).trans (andR ?_)
  refine (G_iconst (mF fc297 (by rfl))).trans ?_
  refine (G_iconst (mF fc297 (by rfl))).trans ?_
  refine (G_iastore (mF fc297 (by rfl))).trans (andR ?_)
  refine (G_aload rfl (mF fc297 (by rfl))).trans ?_
  refine (G_iconst (mF fc297 (by rfl))).trans ?_
  refine (G_iconst (mF fc297 (by rfl))).trans ?_
  refine (G_Vv (q := 151235) (y := 295) (a := a0) (c := 12) rfl rfl rfl rfl (by decide) rfl (as := [.ref a0, .int (ii 0), .int (ii 0)]) (rest := []) rfl rfl (mF fc297 (by rfl))).trans (andR (GoCv_congr fun h1 => ?_))
  exact Iff.rfl
theorem b297_20 {d : Nat} {h : mHeap} {Q : Option Value → mHeap → Prop} {a0 : Nat} {x1 : Int32} {l2 : Option Value} {l3 : Option Value} : Go d 297 20 [some (.ref a0), some (.int x1), l2, l3] [] h Q ↔ (if x1 < ii 0 then (oC h a0 = 12 ∧ GoCv d 295 [.ref a0, .int (ii 0), .int (ii 1)] h (fun h1 => Q none h1)) else (okF h a0 12 64 2 ∧ okA h (fR h a0 64) .int x1 ∧ (64 ≤ (fR h a0 64) ∧ okA h (fR h a0 64) .int x1) ∧ oC (sI h (fR h a0 64) x1 ((eI h (fR h a0 64) x1) + (ii 1))) a0 = 12 ∧ GoCv d 295 [.ref a0, .int x1, .int (ii 1)] (sI h (fR h a0 64) x1 ((eI h (fR h a0 64) x1) + (ii 1))) (fun h2 => okF h2 a0 12 64 2 ∧ okA h2 (fR h2 a0 64) .int x1 ∧ (¬ (ii 8) = ii 0) ∧ okF h2 a0 12 64 2 ∧ okA h2 (fR h2 a0 64) .int x1 ∧ (¬ (ii 8) = ii 0) ∧ okF h2 a0 12 67 0 ∧ (if ((eI h2 (fR h2 a0 64) x1) / (ii 8)) < (fI h2 a0 67) then (okF h2 a0 12 32 0 ∧ (if (fI h2 a0 32) ≤ (irm (eI h2 (fR h2 a0 64) x1) (ii 8)) then (Go d 297 176 [some (.ref a0), some (.int x1), some (.int ((eI h2 (fR h2 a0 64) x1) / (ii 8))), some (.int (irm (eI h2 (fR h2 a0 64) x1) (ii 8)))] [] h2 Q) else (oC h2 a0 = 12 ∧ GoCi d 296 [.ref a0, .int x1, .int ((eI h2 (fR h2 a0 64) x1) / (ii 8))] h2 (fun v3 h3 => (if ¬ v3 = ii 0 then (Go d 297 176 [some (.ref a0), some (.int x1), some (.int ((eI h2 (fR h2 a0 64) x1) / (ii 8))), some (.int (irm (eI h2 (fR h2 a0 64) x1) (ii 8)))] [] h3 Q) else (okF h3 a0 12 63 2 ∧ okA h3 (fR h3 a0 63) .int ((eI h2 (fR h2 a0 64) x1) / (ii 8)) ∧ oC h3 a0 = 12 ∧ GoCi d 289 [.ref a0, .int (eI h3 (fR h3 a0 63) ((eI h2 (fR h2 a0 64) x1) / (ii 8))), .int (irm (eI h2 (fR h2 a0 64) x1) (ii 8))] h3 (fun v4 h4 => (if v4 = ii 0 then (Go d 297 176 [some (.ref a0), some (.int x1), some (.int ((eI h2 (fR h2 a0 64) x1) / (ii 8))), some (.int (irm (eI h2 (fR h2 a0 64) x1) (ii 8)))] [] h4 Q) else (oC h4 a0 = 12 ∧ GoCv d 249 [.ref a0, .int (ii 6), .int (irm (eI h2 (fR h2 a0 64) x1) (ii 8))] h4 (fun h5 => okF h5 a0 12 68 0 ∧ (if (x1 + (ii 1)) ≤ (fI h5 a0 68) then (Go d 297 140 [some (.ref a0), some (.int x1), some (.int ((eI h2 (fR h2 a0 64) x1) / (ii 8))), some (.int (irm (eI h2 (fR h2 a0 64) x1) (ii 8)))] [] h5 Q) else (okP h5 a0 12 68 ∧ okF (sF h5 a0 68 (.int (x1 + (ii 1)))) a0 12 64 2 ∧ okF (sF h5 a0 68 (.int (x1 + (ii 1)))) a0 12 65 2 ∧ GoCv d 222 [.ref (fR (sF h5 a0 68 (.int (x1 + (ii 1)))) a0 64), .ref (fR (sF h5 a0 68 (.int (x1 + (ii 1)))) a0 65)] (sF h5 a0 68 (.int (x1 + (ii 1)))) (fun h6 => Go d 297 140 [some (.ref a0), some (.int x1), some (.int ((eI h2 (fR h2 a0 64) x1) / (ii 8))), some (.int (irm (eI h2 (fR h2 a0 64) x1) (ii 8)))] [] h6 Q))))))))))))) else (Go d 297 176 [some (.ref a0), some (.int (x1 + ii (-1))), some (.int ((eI h2 (fR h2 a0 64) x1) / (ii 8))), some (.int (irm (eI h2 (fR h2 a0 64) x1) (ii 8)))] [] h2 Q))))) := by
  refine (G_iload rfl (mF fc297 (by rfl))).trans ?_
  refine (G_lt (mF fc297 (by rfl))).trans (gi ?_ ?_)
  ·
    refine (G_aload rfl (mF fc297 (by rfl))).trans ?_
    refine (G_iconst (mF fc297 (by rfl))).trans ?_
    refine (G_iconst (mF fc297 (by rfl))).trans ?_
    refine (G_Vv (q := 151235) (y := 295) (a := a0) (c := 12) rfl rfl rfl rfl (by decide) rfl (as := [.ref a0, .int (ii 0), .int (ii 1)]) (rest := []) rfl rfl (mF fc297 (by rfl))).trans (andR (GoCv_congr fun h1 => ?_))
    exact G_return rfl (mF fc297 (by rfl))
  ·
    refine (G_aload rfl (mF fc297 (by rfl))).trans ?_
    refine (G_getR (c := 12) (k := 64) rfl rfl rfl (mF fc297 (by rfl))).trans (andR ?_)
    refine (G_iload rfl (mF fc297 (by rfl))).trans ?_
    refine (G_dup2r (mF fc297 (by rfl))).trans ?_
    refine (G_iaload (mF fc297 (by rfl))).trans (andR ?_)
    refine (G_iconst (mF fc297 (by rfl))).trans ?_
    refine (G_iadd (mF fc297 (by rfl))).trans ?_
    refine (G_iastore (mF fc297 (by rfl))).trans (andR ?_)
    refine (G_aload rfl (mF fc297 (by rfl))).trans ?_
    refine (G_iload rfl (mF fc297 (by rfl))).trans ?_
    refine (G_iconst (mF fc297 (by rfl))).trans ?_
    refine (G_Vv (q := 151235) (y := 295) (a := a0) (c := 12) rfl rfl rfl rfl (by decide) rfl (as := [.ref a0, .int x1, .int (ii 1)]) (rest := []) rfl rfl (mF fc297 (by rfl))).trans (andR (GoCv_congr fun h2 => ?_))
    refine (G_aload rfl (mF fc297 (by rfl))).trans ?_
    refine (G_getR (c := 12) (k := 64) rfl rfl rfl (mF fc297 (by rfl))).trans (andR ?_)
    refine (G_iload rfl (mF fc297 (by rfl))).trans ?_
    refine (G_iaload (mF fc297 (by rfl))).trans (andR ?_)
    refine (G_iconst (mF fc297 (by rfl))).trans ?_
    refine (G_idiv (mF fc297 (by rfl))).trans (andR ?_)
    refine (G_istore (k := 2) (L' := [some (.ref a0), some (.int x1), some (.int ((eI h2 (fR h2 a0 64) x1) / (ii 8))), l3]) rfl (ltb rfl) rfl (mF fc297 (by rfl))).trans ?_
    refine (G_aload rfl (mF fc297 (by rfl))).trans ?_
    refine (G_getR (c := 12) (k := 64) rfl rfl rfl (mF fc297 (by rfl))).trans (andR ?_)
    refine (G_iload rfl (mF fc297 (by rfl))).trans ?_
    refine (G_iaload (mF fc297 (by rfl))).trans (andR ?_)
    refine (G_iconst (mF fc297 (by rfl))).trans ?_
    refine (G_irem (mF fc297 (by rfl))).trans (andR ?_)
    refine (G_istore (k := 3) (L' := [some (.ref a0), some (.int x1), some (.int ((eI h2 (fR h2 a0 64) x1) / (ii 8))), some (.int (irm (eI h2 (fR h2 a0 64) x1) (ii 8)))]) rfl (ltb rfl) rfl (mF fc297 (by rfl))).trans ?_
    refine (G_iload rfl (mF fc297 (by rfl))).trans ?_
    refine (G_aload rfl (mF fc297 (by rfl))).trans ?_
    refine (G_getI (c := 12) (k := 67) rfl rfl rfl (mF fc297 (by rfl))).trans (andR ?_)
    refine (G_ilt (mF fc297 (by rfl))).trans (gi ?_ ?_)
    ·
      refine (G_iload rfl (mF fc297 (by rfl))).trans ?_
      refine (G_aload rfl (mF fc297 (by rfl))).trans ?_
      refine (G_getI (c := 12) (k := 32) rfl rfl rfl (mF fc297 (by rfl))).trans (andR ?_)
      refine (G_ige (mF fc297 (by rfl))).trans (gi ?_ ?_)
      ·
        exact Iff.rfl
      ·
        refine (G_aload rfl (mF fc297 (by rfl))).trans ?_
        refine (G_iload rfl (mF fc297 (by rfl))).trans ?_
        refine (G_iload rfl (mF fc297 (by rfl))).trans ?_
        refine (G_Vi (q := 151747) (y := 296) (a := a0) (c := 12) rfl rfl rfl rfl (by decide) rfl (as := [.ref a0, .int x1, .int ((eI h2 (fR h2 a0 64) x1) / (ii 8))]) (rest := []) rfl rfl (mF fc297 (by rfl))).trans (andR (GoCi_congr fun v3 h3 => ?_))
        refine (G_ne (mF fc297 (by rfl))).trans (gi ?_ ?_)
        ·
          exact Iff.rfl
        ·
          refine (G_aload rfl (mF fc297 (by rfl))).trans ?_
          refine (G_aload rfl (mF fc297 (by rfl))).trans ?_
          refine (G_getR (c := 12) (k := 63) rfl rfl rfl (mF fc297 (by rfl))).trans (andR ?_)
          refine (G_iload rfl (mF fc297 (by rfl))).trans ?_
          refine (G_iaload (mF fc297 (by rfl))).trans (andR ?_)
          refine (G_iload rfl (mF fc297 (by rfl))).trans ?_
          refine (G_Vi (q := 148163) (y := 289) (a := a0) (c := 12) rfl rfl rfl rfl (by decide) rfl (as := [.ref a0, .int (eI h3 (fR h3 a0 63) ((eI h2 (fR h2 a0 64) x1) / (ii 8))), .int (irm (eI h2 (fR h2 a0 64) x1) (ii 8))]) (rest := []) rfl rfl (mF fc297 (by rfl))).trans (andR (GoCi_congr fun v4 h4 => ?_))
          refine (G_eq (mF fc297 (by rfl))).trans (gi ?_ ?_)
          ·
            exact Iff.rfl
          ·
            refine (G_aload rfl (mF fc297 (by rfl))).trans ?_
            refine (G_iconst (mF fc297 (by rfl))).trans ?_
            refine (G_iload rfl (mF fc297 (by rfl))).trans ?_
            refine (G_Vv (q := 127683) (y := 249) (a := a0) (c := 12) rfl rfl rfl rfl (by decide) rfl (as := [.ref a0, .int (ii 6), .int (irm (eI h2 (fR h2 a0 64) x1) (ii 8))]) (rest := []) rfl rfl (mF fc297 (by rfl))).trans (andR (GoCv_congr fun h5 => ?_))
            refine (G_iload rfl (mF fc297 (by rfl))).trans ?_
            refine (G_iconst (mF fc297 (by rfl))).trans ?_
            refine (G_iadd (mF fc297 (by rfl))).trans ?_
            refine (G_aload rfl (mF fc297 (by rfl))).trans ?_
            refine (G_getI (c := 12) (k := 68) rfl rfl rfl (mF fc297 (by rfl))).trans (andR ?_)
            refine (G_ile (mF fc297 (by rfl))).trans (gi ?_ ?_)
            ·
              exact Iff.rfl
            ·
              refine (G_aload rfl (mF fc297 (by rfl))).trans ?_
              refine (G_iload rfl (mF fc297 (by rfl))).trans ?_
              refine (G_iconst (mF fc297 (by rfl))).trans ?_
              refine (G_iadd (mF fc297 (by rfl))).trans ?_
              refine (G_putT (c := 12) (k := 68) rfl rfl rfl (mF fc297 (by rfl))).trans (andR ?_)
              refine (G_aload rfl (mF fc297 (by rfl))).trans ?_
              refine (G_getR (c := 12) (k := 64) rfl rfl rfl (mF fc297 (by rfl))).trans (andR ?_)
              refine (G_aload rfl (mF fc297 (by rfl))).trans ?_
              refine (G_getR (c := 12) (k := 65) rfl rfl rfl (mF fc297 (by rfl))).trans (andR ?_)
              refine (G_Tv (q := 113858) (y := 222) rfl rfl rfl (as := [.ref (fR (sF h5 a0 68 (.int (x1 + (ii 1)))) a0 64), .ref (fR (sF h5 a0 68 (.int (x1 + (ii 1)))) a0 65)]) (rest := []) rfl rfl (mF fc297 (by rfl))).trans (GoCv_congr fun h6 => ?_)
              exact Iff.rfl
    ·
      refine (G_iinc (k := 1) (L' := [some (.ref a0), some (.int (x1 + ii (-1))), some (.int ((eI h2 (fR h2 a0 64) x1) / (ii 8))), some (.int (irm (eI h2 (fR h2 a0 64) x1) (ii 8)))]) rfl rfl rfl (mF fc297 (by rfl))).trans ?_
      refine (G_goto (mF fc297 (by rfl))).trans ?_
      exact Iff.rfl
theorem b297_140 {d : Nat} {h : mHeap} {Q : Option Value → mHeap → Prop} {a0 : Nat} {x1 : Int32} {l2 : Option Value} {l3 : Option Value} : Go d 297 140 [some (.ref a0), some (.int x1), l2, l3] [] h Q ↔ okF h a0 12 64 2 ∧ okF h a0 12 67 0 ∧ (if (fI h a0 67) ≤ (x1 + ii 1) then (okF h a0 12 67 0 ∧ Go d 297 169 [some (.ref a0), some (.int (x1 + ii 1)), l2, l3] [.int (((ii 8) * (fI h a0 67)) - (ii 1)), .int (x1 + ii 1), .ref (fR h a0 64)] h Q) else (Go d 297 169 [some (.ref a0), some (.int (x1 + ii 1)), l2, l3] [.int (ii (-1)), .int (x1 + ii 1), .ref (fR h a0 64)] h Q)) := by
  refine (G_iinc (k := 1) (L' := [some (.ref a0), some (.int (x1 + ii 1)), l2, l3]) rfl rfl rfl (mF fc297 (by rfl))).trans ?_
  refine (G_aload rfl (mF fc297 (by rfl))).trans ?_
  refine (G_getR (c := 12) (k := 64) rfl rfl rfl (mF fc297 (by rfl))).trans (andR ?_)
  refine (G_iload rfl (mF fc297 (by rfl))).trans ?_
  refine (G_iload rfl (mF fc297 (by rfl))).trans ?_
  refine (G_aload rfl (mF fc297 (by rfl))).trans ?_
  refine (G_getI (c := 12) (k := 67) rfl rfl rfl (mF fc297 (by rfl))).trans (andR ?_)
  refine (G_ige (mF fc297 (by rfl))).trans (gi ?_ ?_)
  ·
    refine (G_iconst (mF fc297 (by rfl))).trans ?_
    refine (G_aload rfl (mF fc297 (by rfl))).trans ?_
    refine (G_getI (c := 12) (k := 67) rfl rfl rfl (mF fc297 (by rfl))).trans (andR ?_)
    refine (G_imul (mF fc297 (by rfl))).trans ?_
    refine (G_iconst (mF fc297 (by rfl))).trans ?_
    refine (G_isub (mF fc297 (by rfl))).trans ?_
    exact Iff.rfl
  ·
    refine (G_iconst (mF fc297 (by rfl))).trans ?_
    refine (G_goto (mF fc297 (by rfl))).trans ?_
    exact Iff.rfl
theorem b297_169 {d : Nat} {h : mHeap} {Q : Option Value → mHeap → Prop} {a0 : Nat} {x1 : Int32} {l2 : Option Value} {l3 : Option Value} {r0 : Nat} {s1 : Int32} {s2 : Int32} : Go d 297 169 [some (.ref a0), some (.int x1), l2, l3] [.int s2, .int s1, .ref r0] h Q ↔ (64 ≤ r0 ∧ okA h r0 .int s1) ∧ oC (sI h r0 s1 s2) a0 = 12 ∧ GoCv d 295 [.ref a0, .int x1, .int (ii 0)] (sI h r0 s1 s2) (fun h1 => Go d 297 176 [some (.ref a0), some (.int x1), l2, l3] [] h1 Q) := by
  refine (G_iastore (mF fc297 (by rfl))).trans (andR ?_)
  refine (G_aload rfl (mF fc297 (by rfl))).trans ?_
  refine (G_iload rfl (mF fc297 (by rfl))).trans ?_
  refine (G_iconst (mF fc297 (by rfl))).trans ?_
  refine (G_Vv (q := 151235) (y := 295) (a := a0) (c := 12) rfl rfl rfl rfl (by decide) rfl (as := [.ref a0, .int x1, .int (ii 0)]) (rest := []) rfl rfl (mF fc297 (by rfl))).trans (andR (GoCv_congr fun h1 => ?_))
  exact Iff.rfl
theorem b297_176 {d : Nat} {h : mHeap} {Q : Option Value → mHeap → Prop} {a0 : Nat} {x1 : Int32} {l2 : Option Value} {l3 : Option Value} : Go d 297 176 [some (.ref a0), some (.int x1), l2, l3] [] h Q ↔ Go d 297 20 [some (.ref a0), some (.int x1), l2, l3] [] h Q := by
  refine (G_goto (mF fc297 (by rfl))).trans ?_
  exact Iff.rfl
theorem e297 {d : Nat} {h : mHeap} {K : mHeap → Prop} {a0 : Nat} : GoCv (d + 1) 297 [.ref a0] h K ↔ Go d 297 0 [some (.ref a0), none, none, none] [] h (rV K) := GoCv_entry rfl rfl
set_option maxRecDepth 20000 in
theorem fc298 : mCodes[298]? = some mc298 := rfl
theorem b298_0 {d : Nat} {h : mHeap} {Q : Option Value → mHeap → Prop} {a0 : Nat} {x1 : Int32} {x2 : Int32} : Go d 298 0 [some (.ref a0), some (.int x1), some (.int x2), none] [] h Q ↔ oC h a0 = 12 ∧ GoCi d 186 [.ref a0] h (fun v1 h1 => (if v1 = ii 0 then (Q (some (.int (ii (-1)))) h1) else (GoCi d 183 [.long x1.toInt64, .long (jj 0), .long (jj 1)] h1 (fun v2 h2 => (if v2 = ii 0 then (Q (some (.int (ii (-1)))) h2) else (GoCi d 183 [.long x2.toInt64, .long (jj 0), .long (jj 8)] h2 (fun v3 h3 => (if ¬ v3 = ii 0 then (oC h3 a0 = 12 ∧ GoCv d 294 [.ref a0, .int x1] h3 (fun h4 => okF h4 a0 12 67 0 ∧ (if (fI h4 a0 67) ≤ (ii 4) then (oC h4 a0 = 12 ∧ GoCv d 297 [.ref a0] h4 (fun h5 => (¬ (ii 2) = ii 0) ∧ (if x2 = ii 0 then (Go d 298 69 [some (.ref a0), some (.int x1), some (.int x2), some (.int ((x2 - (ii 1)) / (ii 2)))] [] h5 Q) else (okF h5 a0 12 68 0 ∧ (if ((x2 - (ii 1)) / (ii 2)) < (fI h5 a0 68) then ((¬ (ii 2) = ii 0) ∧ (if ¬ (irm x2 (ii 2)) = (ii 1) then (okF h5 a0 12 65 2 ∧ okA h5 (fR h5 a0 65) .int ((x2 - (ii 1)) / (ii 2)) ∧ (¬ (ii 8) = ii 0) ∧ Q (some (.int (irm (eI h5 (fR h5 a0 65) ((x2 - (ii 1)) / (ii 2))) (ii 8)))) h5) else (okF h5 a0 12 63 2 ∧ okF h5 a0 12 65 2 ∧ okA h5 (fR h5 a0 65) .int ((x2 - (ii 1)) / (ii 2)) ∧ (¬ (ii 8) = ii 0) ∧ okA h5 (fR h5 a0 63) .int ((eI h5 (fR h5 a0 65) ((x2 - (ii 1)) / (ii 2))) / (ii 8)) ∧ Q (some (.int (eI h5 (fR h5 a0 63) ((eI h5 (fR h5 a0 65) ((x2 - (ii 1)) / (ii 2))) / (ii 8))))) h5))) else (Go d 298 69 [some (.ref a0), some (.int x1), some (.int x2), some (.int ((x2 - (ii 1)) / (ii 2)))] [] h5 Q)))))) else (Q (some (.int (ii (-3)))) h4)))) else (Q (some (.int (ii (-1)))) h3))))))))) := by
  refine (G_aload rfl (mF fc298 (by rfl))).trans ?_
  refine (G_Vi (q := 95425) (y := 186) (a := a0) (c := 12) rfl rfl rfl rfl (by decide) rfl (as := [.ref a0]) (rest := []) rfl rfl (mF fc298 (by rfl))).trans (andR (GoCi_congr fun v1 h1 => ?_))
  refine (G_eq (mF fc298 (by rfl))).trans (gi ?_ ?_)
  ·
    refine (G_iconst (mF fc298 (by rfl))).trans ?_
    exact G_ireturnI rfl (mF fc298 (by rfl))
  ·
    refine (G_iload rfl (mF fc298 (by rfl))).trans ?_
    refine (G_i2l (mF fc298 (by rfl))).trans ?_
    refine (G_jsr_w (mF fc298 (by rfl))).trans ?_
    refine (G_jsr_w (mF fc298 (by rfl))).trans ?_
    refine (G_Ti (q := 93891) (y := 183) rfl rfl rfl (as := [.long x1.toInt64, .long (jj 0), .long (jj 1)]) (rest := []) rfl rfl (mF fc298 (by rfl))).trans (GoCi_congr fun v2 h2 => ?_)
    refine (G_eq (mF fc298 (by rfl))).trans (gi ?_ ?_)
    ·
      refine (G_iconst (mF fc298 (by rfl))).trans ?_
      exact G_ireturnI rfl (mF fc298 (by rfl))
    ·
      refine (G_iload rfl (mF fc298 (by rfl))).trans ?_
      refine (G_i2l (mF fc298 (by rfl))).trans ?_
      refine (G_jsr_w (mF fc298 (by rfl))).trans ?_
      refine (G_jsr_w (mF fc298 (by rfl))).trans ?_
      refine (G_Ti (q := 93891) (y := 183) rfl rfl rfl (as := [.long x2.toInt64, .long (jj 0), .long (jj 8)]) (rest := []) rfl rfl (mF fc298 (by rfl))).trans (GoCi_congr fun v3 h3 => ?_)
      refine (G_ne (mF fc298 (by rfl))).trans (gi ?_ ?_)
      ·
        refine (G_aload rfl (mF fc298 (by rfl))).trans ?_
        refine (G_iload rfl (mF fc298 (by rfl))).trans ?_
        refine (G_Vv (q := 150722) (y := 294) (a := a0) (c := 12) rfl rfl rfl rfl (by decide) rfl (as := [.ref a0, .int x1]) (rest := []) rfl rfl (mF fc298 (by rfl))).trans (andR (GoCv_congr fun h4 => ?_))
        refine (G_aload rfl (mF fc298 (by rfl))).trans ?_
        refine (G_getI (c := 12) (k := 67) rfl rfl rfl (mF fc298 (by rfl))).trans (andR ?_)
        refine (G_iconst (mF fc298 (by rfl))).trans ?_
        refine (G_ile (mF fc298 (by rfl))).trans (gi ?_ ?_)
        ·
          refine (G_aload rfl (mF fc298 (by rfl))).trans ?_
          refine (G_Vv (q := 152257) (y := 297) (a := a0) (c := 12) rfl rfl rfl rfl (by decide) rfl (as := [.ref a0]) (rest := []) rfl rfl (mF fc298 (by rfl))).trans (andR (GoCv_congr fun h5 => ?_))
          refine (G_iload rfl (mF fc298 (by rfl))).trans ?_
          refine (G_iconst (mF fc298 (by rfl))).trans ?_
          refine (G_isub (mF fc298 (by rfl))).trans ?_
          refine (G_iconst (mF fc298 (by rfl))).trans ?_
          refine (G_idiv (mF fc298 (by rfl))).trans (andR ?_)
          refine (G_istore (k := 3) (L' := [some (.ref a0), some (.int x1), some (.int x2), some (.int ((x2 - (ii 1)) / (ii 2)))]) rfl (ltb rfl) rfl (mF fc298 (by rfl))).trans ?_
          refine (G_iload rfl (mF fc298 (by rfl))).trans ?_
          refine (G_eq (mF fc298 (by rfl))).trans (gi ?_ ?_)
          ·
            exact Iff.rfl
          ·
            refine (G_iload rfl (mF fc298 (by rfl))).trans ?_
            refine (G_aload rfl (mF fc298 (by rfl))).trans ?_
            refine (G_getI (c := 12) (k := 68) rfl rfl rfl (mF fc298 (by rfl))).trans (andR ?_)
            refine (G_ilt (mF fc298 (by rfl))).trans (gi ?_ ?_)
            ·
              refine (G_iload rfl (mF fc298 (by rfl))).trans ?_
              refine (G_iconst (mF fc298 (by rfl))).trans ?_
              refine (G_irem (mF fc298 (by rfl))).trans (andR ?_)
              refine (G_iconst (mF fc298 (by rfl))).trans ?_
              refine (G_ine (mF fc298 (by rfl))).trans (gi ?_ ?_)
              ·
                refine (G_aload rfl (mF fc298 (by rfl))).trans ?_
                refine (G_getR (c := 12) (k := 65) rfl rfl rfl (mF fc298 (by rfl))).trans (andR ?_)
                refine (G_iload rfl (mF fc298 (by rfl))).trans ?_
                refine (G_iaload (mF fc298 (by rfl))).trans (andR ?_)
                refine (G_iconst (mF fc298 (by rfl))).trans ?_
                refine (G_irem (mF fc298 (by rfl))).trans (andR ?_)
                exact G_ireturnI rfl (mF fc298 (by rfl))
              ·
                refine (G_aload rfl (mF fc298 (by rfl))).trans ?_
                refine (G_getR (c := 12) (k := 63) rfl rfl rfl (mF fc298 (by rfl))).trans (andR ?_)
                refine (G_aload rfl (mF fc298 (by rfl))).trans ?_
                refine (G_getR (c := 12) (k := 65) rfl rfl rfl (mF fc298 (by rfl))).trans (andR ?_)
                refine (G_iload rfl (mF fc298 (by rfl))).trans ?_
                refine (G_iaload (mF fc298 (by rfl))).trans (andR ?_)
                refine (G_iconst (mF fc298 (by rfl))).trans ?_
                refine (G_idiv (mF fc298 (by rfl))).trans (andR ?_)
                refine (G_iaload (mF fc298 (by rfl))).trans (andR ?_)
                refine (G_goto (mF fc298 (by rfl))).trans ?_
                exact G_ireturnI rfl (mF fc298 (by rfl))
            ·
              exact Iff.rfl
        ·
          refine (G_iconst (mF fc298 (by rfl))).trans ?_
          exact G_ireturnI rfl (mF fc298 (by rfl))
      ·
        refine (G_iconst (mF fc298 (by rfl))).trans ?_
        exact G_ireturnI rfl (mF fc298 (by rfl))
theorem b298_69 {d : Nat} {h : mHeap} {Q : Option Value → mHeap → Prop} {a0 : Nat} {l1 : Option Value} {x2 : Int32} {l3 : Option Value} : Go d 298 69 [some (.ref a0), l1, some (.int x2), l3] [] h Q ↔ (if ¬ x2 = ii 0 then (Q (some (.int (ii (-2)))) h) else (okF h a0 12 68 0 ∧ Q (some (.int (fI h a0 68))) h)) := by
  refine (G_iload rfl (mF fc298 (by rfl))).trans ?_
  refine (G_ne (mF fc298 (by rfl))).trans (gi ?_ ?_)
  ·
    refine (G_iconst (mF fc298 (by rfl))).trans ?_
    exact G_ireturnI rfl (mF fc298 (by rfl))
  ·
    refine (G_aload rfl (mF fc298 (by rfl))).trans ?_
    refine (G_getI (c := 12) (k := 68) rfl rfl rfl (mF fc298 (by rfl))).trans (andR ?_)
    refine (G_goto (mF fc298 (by rfl))).trans ?_
    exact G_ireturnI rfl (mF fc298 (by rfl))
theorem e298 {d : Nat} {h : mHeap} {K : Int32 → mHeap → Prop} {a0 : Nat} {x1 : Int32} {x2 : Int32} : GoCi (d + 1) 298 [.ref a0, .int x1, .int x2] h K ↔ Go d 298 0 [some (.ref a0), some (.int x1), some (.int x2), none] [] h (rI K) := GoCi_entry rfl rfl
set_option maxRecDepth 20000 in
theorem fc299 : mCodes[299]? = some mc299 := rfl
theorem b299_0 {d : Nat} {h : mHeap} {Q : Option Value → mHeap → Prop} {a0 : Nat} : Go d 299 0 [some (.ref a0), none, none, none, none, none] [] h Q ↔ oC h a0 = 12 ∧ GoCv d 257 [.ref a0] h (fun h1 => Go d 299 6 [some (.ref a0), some (.int (ii 0)), none, none, none, none] [] h1 Q) := by
  refine (G_aload rfl (mF fc299 (by rfl))).trans ?_
  refine (G_Vv (q := 131777) (y := 257) (a := a0) (c := 12) rfl rfl rfl rfl (by decide) rfl (as := [.ref a0]) (rest := []) rfl rfl (mF fc299 (by rfl))).trans (andR (GoCv_congr fun h1 => ?_))
  refine (G_iconst (mF fc299 (by rfl))).trans ?_
  refine (G_istore (k := 1) (L' := [some (.ref a0), some (.int (ii 0)), none, none, none, none]) rfl (ltb rfl) rfl (mF fc299 (by rfl))).trans ?_
  exact Iff.rfl
theorem b299_6 {d : Nat} {h : mHeap} {Q : Option Value → mHeap → Prop} {a0 : Nat} {x1 : Int32} {l2 : Option Value} {l3 : Option Value} {l4 : Option Value} {l5 : Option Value} : Go d 299 6 [some (.ref a0), some (.int x1), l2, l3, l4, l5] [] h Q ↔ okF h a0 12 69 2 ∧ okL h (fR h a0 69) ∧ (if (ii (nL h (fR h a0 69))) ≤ x1 then (Go d 299 32 [some (.ref a0), some (.int (ii 1)), l2, l3, l4, l5] [] h Q) else (okF h a0 12 69 2 ∧ (64 ≤ (fR h a0 69) ∧ okA h (fR h a0 69) .int x1) ∧ Go d 299 6 [some (.ref a0), some (.int (x1 + ii 1)), l2, l3, l4, l5] [] (sI h (fR h a0 69) x1 (ii 100000)) Q)) := by
  refine (G_iload rfl (mF fc299 (by rfl))).trans ?_
  refine (G_aload rfl (mF fc299 (by rfl))).trans ?_
  refine (G_getR (c := 12) (k := 69) rfl rfl rfl (mF fc299 (by rfl))).trans (andR ?_)
  refine (G_arraylength (mF fc299 (by rfl))).trans (andR ?_)
  refine (G_ige (mF fc299 (by rfl))).trans (gi ?_ ?_)
  ·
    refine (G_iconst (mF fc299 (by rfl))).trans ?_
    refine (G_istore (k := 1) (L' := [some (.ref a0), some (.int (ii 1)), l2, l3, l4, l5]) rfl (ltb rfl) rfl (mF fc299 (by rfl))).trans ?_
    exact Iff.rfl
  ·
    refine (G_aload rfl (mF fc299 (by rfl))).trans ?_
    refine (G_getR (c := 12) (k := 69) rfl rfl rfl (mF fc299 (by rfl))).trans (andR ?_)
    refine (G_iload rfl (mF fc299 (by rfl))).trans ?_
    refine (G_iconst (mF fc299 (by rfl))).trans ?_
    refine (G_iastore (mF fc299 (by rfl))).trans (andR ?_)
    refine (G_iinc (k := 1) (L' := [some (.ref a0), some (.int (x1 + ii 1)), l2, l3, l4, l5]) rfl rfl rfl (mF fc299 (by rfl))).trans ?_
    refine (G_goto (mF fc299 (by rfl))).trans ?_
    exact Iff.rfl
theorem b299_32 {d : Nat} {h : mHeap} {Q : Option Value → mHeap → Prop} {a0 : Nat} {x1 : Int32} {l2 : Option Value} {l3 : Option Value} {l4 : Option Value} {l5 : Option Value} : Go d 299 32 [some (.ref a0), some (.int x1), l2, l3, l4, l5] [] h Q ↔ okF h a0 12 1 2 ∧ okA h (fR h a0 1) .int (ii 3) ∧ (if (shl (ii 1) (eI h (fR h a0 1) (ii 3))) ≤ x1 then (Q none h) else (Go d 299 46 [some (.ref a0), some (.int x1), some (.int (ii 0)), l3, l4, l5] [] h Q)) := by
  refine (G_iload rfl (mF fc299 (by rfl))).trans ?_
  refine (G_iconst (mF fc299 (by rfl))).trans ?_
  refine (G_aload rfl (mF fc299 (by rfl))).trans ?_
  refine (G_getR (c := 12) (k := 1) rfl rfl rfl (mF fc299 (by rfl))).trans (andR ?_)
  refine (G_iconst (mF fc299 (by rfl))).trans ?_
  refine (G_iaload (mF fc299 (by rfl))).trans (andR ?_)
  refine (G_ishl (mF fc299 (by rfl))).trans ?_
  refine (G_ige (mF fc299 (by rfl))).trans (gi ?_ ?_)
  ·
    exact G_return rfl (mF fc299 (by rfl))
  ·
    refine (G_iconst (mF fc299 (by rfl))).trans ?_
    refine (G_istore (k := 2) (L' := [some (.ref a0), some (.int x1), some (.int (ii 0)), l3, l4, l5]) rfl (ltb rfl) rfl (mF fc299 (by rfl))).trans ?_
    exact Iff.rfl
theorem b299_46 {d : Nat} {h : mHeap} {Q : Option Value → mHeap → Prop} {a0 : Nat} {x1 : Int32} {x2 : Int32} {l3 : Option Value} {l4 : Option Value} {l5 : Option Value} : Go d 299 46 [some (.ref a0), some (.int x1), some (.int x2), l3, l4, l5] [] h Q ↔ okF h a0 12 1 2 ∧ okA h (fR h a0 1) .int (ii 3) ∧ (if (eI h (fR h a0 1) (ii 3)) ≤ x2 then (Go d 299 32 [some (.ref a0), some (.int (x1 + ii 1)), some (.int x2), l3, l4, l5] [] h Q) else (GoCi d 185 [.int x1, .int x2] h (fun v1 h1 => (if v1 = ii 0 then (Go d 299 80 [some (.ref a0), some (.int x1), some (.int x2), l3, l4, l5] [] h1 Q) else ((if ¬ x1 = (shl (ii 1) x2) then (Go d 299 80 [some (.ref a0), some (.int x1), some (.int x2), l3, l4, l5] [] h1 Q) else (oC h1 a0 = 12 ∧ GoCi d 258 [.ref a0, .int (ii 0), .int x2] h1 (fun v2 h2 => Go d 299 83 [some (.ref a0), some (.int x1), some (.int x2), l3, l4, l5] [.int v2] h2 Q)))))))) := by
  refine (G_iload rfl (mF fc299 (by rfl))).trans ?_
  refine (G_aload rfl (mF fc299 (by rfl))).trans ?_
  refine (G_getR (c := 12) (k := 1) rfl rfl rfl (mF fc299 (by rfl))).trans (andR ?_)
  refine (G_iconst (mF fc299 (by rfl))).trans ?_
  refine (G_iaload (mF fc299 (by rfl))).trans (andR ?_)
  refine (G_ige (mF fc299 (by rfl))).trans (gi ?_ ?_)
  ·
    refine (G_iinc (k := 1) (L' := [some (.ref a0), some (.int (x1 + ii 1)), some (.int x2), l3, l4, l5]) rfl rfl rfl (mF fc299 (by rfl))).trans ?_
    refine (G_goto (mF fc299 (by rfl))).trans ?_
    exact Iff.rfl
  ·
    refine (G_iload rfl (mF fc299 (by rfl))).trans ?_
    refine (G_iload rfl (mF fc299 (by rfl))).trans ?_
    refine (G_Ti (q := 94914) (y := 185) rfl rfl rfl (as := [.int x1, .int x2]) (rest := []) rfl rfl (mF fc299 (by rfl))).trans (GoCi_congr fun v1 h1 => ?_)
    refine (G_eq (mF fc299 (by rfl))).trans (gi ?_ ?_)
    ·
      exact Iff.rfl
    ·
      refine (G_iload rfl (mF fc299 (by rfl))).trans ?_
      refine (G_iconst (mF fc299 (by rfl))).trans ?_
      refine (G_iload rfl (mF fc299 (by rfl))).trans ?_
      refine (G_ishl (mF fc299 (by rfl))).trans ?_
      refine (G_ine (mF fc299 (by rfl))).trans (gi ?_ ?_)
      ·
        exact Iff.rfl
      ·
        refine (G_aload rfl (mF fc299 (by rfl))).trans ?_
        refine (G_iconst (mF fc299 (by rfl))).trans ?_
        refine (G_iload rfl (mF fc299 (by rfl))).trans ?_
        refine (G_Vi (q := 132291) (y := 258) (a := a0) (c := 12) rfl rfl rfl rfl (by decide) rfl (as := [.ref a0, .int (ii 0), .int x2]) (rest := []) rfl rfl (mF fc299 (by rfl))).trans (andR (GoCi_congr fun v2 h2 => ?_))
        refine (G_goto (mF fc299 (by rfl))).trans ?_
        exact Iff.rfl
theorem b299_80 {d : Nat} {h : mHeap} {Q : Option Value → mHeap → Prop} {a0 : Nat} {x1 : Int32} {x2 : Int32} {l3 : Option Value} {l4 : Option Value} {l5 : Option Value} : Go d 299 80 [some (.ref a0), some (.int x1), some (.int x2), l3, l4, l5] [] h Q ↔ Go d 299 83 [some (.ref a0), some (.int x1), some (.int x2), l3, l4, l5] [.int (ii 100000)] h Q := by
  refine (G_iconst (mF fc299 (by rfl))).trans ?_
  exact Iff.rfl
theorem b299_83 {d : Nat} {h : mHeap} {Q : Option Value → mHeap → Prop} {a0 : Nat} {x1 : Int32} {x2 : Int32} {l3 : Option Value} {l4 : Option Value} {l5 : Option Value} {s0 : Int32} : Go d 299 83 [some (.ref a0), some (.int x1), some (.int x2), l3, l4, l5] [.int s0] h Q ↔ Go d 299 87 [some (.ref a0), some (.int x1), some (.int x2), some (.int s0), some (.int (ii 0)), l5] [] h Q := by
  refine (G_istore (k := 3) (L' := [some (.ref a0), some (.int x1), some (.int x2), some (.int s0), l4, l5]) rfl (ltb rfl) rfl (mF fc299 (by rfl))).trans ?_
  refine (G_iconst (mF fc299 (by rfl))).trans ?_
  refine (G_istore (k := 4) (L' := [some (.ref a0), some (.int x1), some (.int x2), some (.int s0), some (.int (ii 0)), l5]) rfl (ltb rfl) rfl (mF fc299 (by rfl))).trans ?_
  exact Iff.rfl
theorem b299_87 {d : Nat} {h : mHeap} {Q : Option Value → mHeap → Prop} {a0 : Nat} {x1 : Int32} {x2 : Int32} {x3 : Int32} {x4 : Int32} {l5 : Option Value} : Go d 299 87 [some (.ref a0), some (.int x1), some (.int x2), some (.int x3), some (.int x4), l5] [] h Q ↔ okF h a0 12 1 2 ∧ okA h (fR h a0 1) .int (ii 3) ∧ (if (eI h (fR h a0 1) (ii 3)) ≤ x4 then (Go d 299 153 [some (.ref a0), some (.int x1), some (.int x2), some (.int x3), some (.int x4), l5] [] h Q) else (GoCi d 185 [.int x1, .int x2] h (fun v1 h1 => (if v1 = ii 0 then (Go d 299 153 [some (.ref a0), some (.int x1), some (.int x2), some (.int x3), some (.int x4), l5] [] h1 Q) else (okF h1 a0 12 69 2 ∧ okA h1 (fR h1 a0 69) .int (((ii 6) * (x1 &&& ((shl (ii 1) x2) ^^^ (ii (-1))))) + x4) ∧ oC h1 a0 = 12 ∧ GoCi d 258 [.ref a0, .int x4, .int x2] h1 (fun v2 h2 => (if x3 ≤ ((eI h1 (fR h1 a0 69) (((ii 6) * (x1 &&& ((shl (ii 1) x2) ^^^ (ii (-1))))) + x4)) + v2) then (Go d 299 146 [some (.ref a0), some (.int x1), some (.int x2), some (.int x3), some (.int x4), some (.int ((eI h1 (fR h1 a0 69) (((ii 6) * (x1 &&& ((shl (ii 1) x2) ^^^ (ii (-1))))) + x4)) + v2))] [.int x3] h2 Q) else (Go d 299 146 [some (.ref a0), some (.int x1), some (.int x2), some (.int x3), some (.int x4), some (.int ((eI h1 (fR h1 a0 69) (((ii 6) * (x1 &&& ((shl (ii 1) x2) ^^^ (ii (-1))))) + x4)) + v2))] [.int ((eI h1 (fR h1 a0 69) (((ii 6) * (x1 &&& ((shl (ii 1) x2) ^^^ (ii (-1))))) + x4)) + v2)] h2 Q)))))))) := by
  refine (G_iload rfl (mF fc299 (by rfl))).trans ?_
  refine (G_aload rfl (mF fc299 (by rfl))).trans ?_
  refine (G_getR (c := 12) (k := 1) rfl rfl rfl (mF fc299 (by rfl))).trans (andR ?_)
  refine (G_iconst (mF fc299 (by rfl))).trans ?_
  refine (G_iaload (mF fc299 (by rfl))).trans (andR ?_)
  refine (G_ige (mF fc299 (by rfl))).trans (gi ?_ ?_)
  ·
    exact Iff.rfl
  ·
    refine (G_iload rfl (mF fc299 (by rfl))).trans ?_
    refine (G_iload rfl (mF fc299 (by rfl))).trans ?_
    refine (G_Ti (q := 94914) (y := 185) rfl rfl rfl (as := [.int x1, .int x2]) (rest := []) rfl rfl (mF fc299 (by rfl))).trans (GoCi_congr fun v1 h1 => ?_)
    refine (G_eq (mF fc299 (by rfl))).trans (gi ?_ ?_)
    ·
      exact Iff.rfl
    ·
      refine (G_aload rfl (mF fc299 (by rfl))).trans ?_
      refine (G_getR (c := 12) (k := 69) rfl rfl rfl (mF fc299 (by rfl))).trans (andR ?_)
      refine (G_iconst (mF fc299 (by rfl))).trans ?_
      refine (G_iload rfl (mF fc299 (by rfl))).trans ?_
      refine (G_iconst (mF fc299 (by rfl))).trans ?_
      refine (G_iload rfl (mF fc299 (by rfl))).trans ?_
      refine (G_ishl (mF fc299 (by rfl))).trans ?_
      refine (G_iconst (mF fc299 (by rfl))).trans ?_
      refine (G_ixor (mF fc299 (by rfl))).trans ?_
      refine (G_iand (mF fc299 (by rfl))).trans ?_
      refine (G_imul (mF fc299 (by rfl))).trans ?_
      refine (G_iload rfl (mF fc299 (by rfl))).trans ?_
      refine (G_iadd (mF fc299 (by rfl))).trans ?_
      refine (G_iaload (mF fc299 (by rfl))).trans (andR ?_)
      refine (G_aload rfl (mF fc299 (by rfl))).trans ?_
      refine (G_iload rfl (mF fc299 (by rfl))).trans ?_
      refine (G_iload rfl (mF fc299 (by rfl))).trans ?_
      refine (G_Vi (q := 132291) (y := 258) (a := a0) (c := 12) rfl rfl rfl rfl (by decide) rfl (as := [.ref a0, .int x4, .int x2]) (rest := [.int (eI h1 (fR h1 a0 69) (((ii 6) * (x1 &&& ((shl (ii 1) x2) ^^^ (ii (-1))))) + x4))]) rfl rfl (mF fc299 (by rfl))).trans (andR (GoCi_congr fun v2 h2 => ?_))
      refine (G_iadd (mF fc299 (by rfl))).trans ?_
      refine (G_istore (k := 5) (L' := [some (.ref a0), some (.int x1), some (.int x2), some (.int x3), some (.int x4), some (.int ((eI h1 (fR h1 a0 69) (((ii 6) * (x1 &&& ((shl (ii 1) x2) ^^^ (ii (-1))))) + x4)) + v2))]) rfl (ltb rfl) rfl (mF fc299 (by rfl))).trans ?_
      refine (G_iload rfl (mF fc299 (by rfl))).trans ?_
      refine (G_iload rfl (mF fc299 (by rfl))).trans ?_
      refine (G_ige (mF fc299 (by rfl))).trans (gi ?_ ?_)
      ·
        refine (G_iload rfl (mF fc299 (by rfl))).trans ?_
        exact Iff.rfl
      ·
        refine (G_iload rfl (mF fc299 (by rfl))).trans ?_
        refine (G_goto (mF fc299 (by rfl))).trans ?_
        exact Iff.rfl
theorem b299_146 {d : Nat} {h : mHeap} {Q : Option Value → mHeap → Prop} {a0 : Nat} {x1 : Int32} {x2 : Int32} {l3 : Option Value} {x4 : Int32} {l5 : Option Value} {s0 : Int32} : Go d 299 146 [some (.ref a0), some (.int x1), some (.int x2), l3, some (.int x4), l5] [.int s0] h Q ↔ Go d 299 87 [some (.ref a0), some (.int x1), some (.int x2), some (.int s0), some (.int (x4 + ii 1)), l5] [] h Q := by
  refine (G_istore (k := 3) (L' := [some (.ref a0), some (.int x1), some (.int x2), some (.int s0), some (.int x4), l5]) rfl (ltb rfl) rfl (mF fc299 (by rfl))).trans ?_
  refine (G_iinc (k := 4) (L' := [some (.ref a0), some (.int x1), some (.int x2), some (.int s0), some (.int (x4 + ii 1)), l5]) rfl rfl rfl (mF fc299 (by rfl))).trans ?_
  refine (G_goto (mF fc299 (by rfl))).trans ?_
  exact Iff.rfl
theorem b299_153 {d : Nat} {h : mHeap} {Q : Option Value → mHeap → Prop} {a0 : Nat} {x1 : Int32} {x2 : Int32} {x3 : Int32} {l4 : Option Value} {l5 : Option Value} : Go d 299 153 [some (.ref a0), some (.int x1), some (.int x2), some (.int x3), l4, l5] [] h Q ↔ okF h a0 12 69 2 ∧ (64 ≤ (fR h a0 69) ∧ okA h (fR h a0 69) .int (((ii 6) * x1) + x2)) ∧ Go d 299 46 [some (.ref a0), some (.int x1), some (.int (x2 + ii 1)), some (.int x3), l4, l5] [] (sI h (fR h a0 69) (((ii 6) * x1) + x2) x3) Q := by
  refine (G_aload rfl (mF fc299 (by rfl))).trans ?_
  refine (G_getR (c := 12) (k := 69) rfl rfl rfl (mF fc299 (by rfl))).trans (andR ?_)
  refine (G_iconst (mF fc299 (by rfl))).trans ?_
  refine (G_iload rfl (mF fc299 (by rfl))).trans ?_
  refine (G_imul (mF fc299 (by rfl))).trans ?_
  refine (G_iload rfl (mF fc299 (by rfl))).trans ?_
  refine (G_iadd (mF fc299 (by rfl))).trans ?_
  refine (G_iload rfl (mF fc299 (by rfl))).trans ?_
  refine (G_iastore (mF fc299 (by rfl))).trans (andR ?_)
  refine (G_iinc (k := 2) (L' := [some (.ref a0), some (.int x1), some (.int (x2 + ii 1)), some (.int x3), l4, l5]) rfl rfl rfl (mF fc299 (by rfl))).trans ?_
  refine (G_goto (mF fc299 (by rfl))).trans ?_
  exact Iff.rfl
theorem e299 {d : Nat} {h : mHeap} {K : mHeap → Prop} {a0 : Nat} : GoCv (d + 1) 299 [.ref a0] h K ↔ Go d 299 0 [some (.ref a0), none, none, none, none, none] [] h (rV K) := GoCv_entry rfl rfl
set_option maxRecDepth 20000 in
theorem fc300 : mCodes[300]? = some mc300 := rfl
theorem b300_0 {d : Nat} {h : mHeap} {Q : Option Value → mHeap → Prop} {a0 : Nat} {x1 : Int32} : Go d 300 0 [some (.ref a0), some (.int x1), none, none, none] [] h Q ↔ (if ¬ x1 = ii 0 then (Go d 300 11 [some (.ref a0), some (.int x1), none, none, none] [.int (ii 100000)] h Q) else (Go d 300 11 [some (.ref a0), some (.int x1), none, none, none] [.int (ii 0)] h Q)) := by
  refine (G_iload rfl (mF fc300 (by rfl))).trans ?_
  refine (G_ne (mF fc300 (by rfl))).trans (gi ?_ ?_)
  ·
    refine (G_iconst (mF fc300 (by rfl))).trans ?_
    exact Iff.rfl
  ·
    refine (G_iconst (mF fc300 (by rfl))).trans ?_
    refine (G_goto (mF fc300 (by rfl))).trans ?_
    exact Iff.rfl
theorem b300_11 {d : Nat} {h : mHeap} {Q : Option Value → mHeap → Prop} {a0 : Nat} {x1 : Int32} {l2 : Option Value} {l3 : Option Value} {l4 : Option Value} {s0 : Int32} : Go d 300 11 [some (.ref a0), some (.int x1), l2, l3, l4] [.int s0] h Q ↔ Go d 300 14 [some (.ref a0), some (.int x1), some (.int s0), some (.int (ii 0)), l4] [] h Q := by
  refine (G_istore (k := 2) (L' := [some (.ref a0), some (.int x1), some (.int s0), l3, l4]) rfl (ltb rfl) rfl (mF fc300 (by rfl))).trans ?_
  refine (G_iconst (mF fc300 (by rfl))).trans ?_
  refine (G_istore (k := 3) (L' := [some (.ref a0), some (.int x1), some (.int s0), some (.int (ii 0)), l4]) rfl (ltb rfl) rfl (mF fc300 (by rfl))).trans ?_
  exact Iff.rfl
theorem b300_14 {d : Nat} {h : mHeap} {Q : Option Value → mHeap → Prop} {a0 : Nat} {x1 : Int32} {x2 : Int32} {x3 : Int32} {l4 : Option Value} : Go d 300 14 [some (.ref a0), some (.int x1), some (.int x2), some (.int x3), l4] [] h Q ↔ okF h a0 12 1 2 ∧ okA h (fR h a0 1) .int (ii 3) ∧ (if (eI h (fR h a0 1) (ii 3)) ≤ x3 then (Q (some (.int x2)) h) else (GoCi d 185 [.int x1, .int x3] h (fun v1 h1 => (if v1 = ii 0 then (Go d 300 56 [some (.ref a0), some (.int x1), some (.int x2), some (.int x3), l4] [.int (ii 100000)] h1 Q) else (okF h1 a0 12 69 2 ∧ okA h1 (fR h1 a0 69) .int (((ii 6) * x1) + x3) ∧ oC h1 a0 = 12 ∧ GoCi d 258 [.ref a0, .int x3, .int (ii 0)] h1 (fun v2 h2 => Go d 300 56 [some (.ref a0), some (.int x1), some (.int x2), some (.int x3), l4] [.int ((eI h1 (fR h1 a0 69) (((ii 6) * x1) + x3)) + v2)] h2 Q)))))) := by
  refine (G_iload rfl (mF fc300 (by rfl))).trans ?_
  refine (G_aload rfl (mF fc300 (by rfl))).trans ?_
  refine (G_getR (c := 12) (k := 1) rfl rfl rfl (mF fc300 (by rfl))).trans (andR ?_)
  refine (G_iconst (mF fc300 (by rfl))).trans ?_
  refine (G_iaload (mF fc300 (by rfl))).trans (andR ?_)
  refine (G_ige (mF fc300 (by rfl))).trans (gi ?_ ?_)
  ·
    refine (G_iload rfl (mF fc300 (by rfl))).trans ?_
    exact G_ireturnI rfl (mF fc300 (by rfl))
  ·
    refine (G_iload rfl (mF fc300 (by rfl))).trans ?_
    refine (G_iload rfl (mF fc300 (by rfl))).trans ?_
    refine (G_Ti (q := 94914) (y := 185) rfl rfl rfl (as := [.int x1, .int x3]) (rest := []) rfl rfl (mF fc300 (by rfl))).trans (GoCi_congr fun v1 h1 => ?_)
    refine (G_eq (mF fc300 (by rfl))).trans (gi ?_ ?_)
    ·
      refine (G_iconst (mF fc300 (by rfl))).trans ?_
      exact Iff.rfl
    ·
      refine (G_aload rfl (mF fc300 (by rfl))).trans ?_
      refine (G_getR (c := 12) (k := 69) rfl rfl rfl (mF fc300 (by rfl))).trans (andR ?_)
      refine (G_iconst (mF fc300 (by rfl))).trans ?_
      refine (G_iload rfl (mF fc300 (by rfl))).trans ?_
      refine (G_imul (mF fc300 (by rfl))).trans ?_
      refine (G_iload rfl (mF fc300 (by rfl))).trans ?_
      refine (G_iadd (mF fc300 (by rfl))).trans ?_
      refine (G_iaload (mF fc300 (by rfl))).trans (andR ?_)
      refine (G_aload rfl (mF fc300 (by rfl))).trans ?_
      refine (G_iload rfl (mF fc300 (by rfl))).trans ?_
      refine (G_iconst (mF fc300 (by rfl))).trans ?_
      refine (G_Vi (q := 132291) (y := 258) (a := a0) (c := 12) rfl rfl rfl rfl (by decide) rfl (as := [.ref a0, .int x3, .int (ii 0)]) (rest := [.int (eI h1 (fR h1 a0 69) (((ii 6) * x1) + x3))]) rfl rfl (mF fc300 (by rfl))).trans (andR (GoCi_congr fun v2 h2 => ?_))
      refine (G_iadd (mF fc300 (by rfl))).trans ?_
      refine (G_goto (mF fc300 (by rfl))).trans ?_
      exact Iff.rfl
theorem b300_56 {d : Nat} {h : mHeap} {Q : Option Value → mHeap → Prop} {a0 : Nat} {x1 : Int32} {x2 : Int32} {x3 : Int32} {l4 : Option Value} {s0 : Int32} : Go d 300 56 [some (.ref a0), some (.int x1), some (.int x2), some (.int x3), l4] [.int s0] h Q ↔ (if x2 ≤ s0 then (Go d 300 70 [some (.ref a0), some (.int x1), some (.int x2), some (.int x3), some (.int s0)] [.int x2] h Q) else (Go d 300 70 [some (.ref a0), some (.int x1), some (.int x2), some (.int x3), some (.int s0)] [.int s0] h Q)) := by
  refine (G_istore (k := 4) (L' := [some (.ref a0), some (.int x1), some (.int x2), some (.int x3), some (.int s0)]) rfl (ltb rfl) rfl (mF fc300 (by rfl))).trans ?_
  refine (G_iload rfl (mF fc300 (by rfl))).trans ?_
  refine (G_iload rfl (mF fc300 (by rfl))).trans ?_
  refine (G_ige (mF fc300 (by rfl))).trans (gi ?_ ?_)
  ·
    refine (G_iload rfl (mF fc300 (by rfl))).trans ?_
    exact Iff.rfl
  ·
    refine (G_iload rfl (mF fc300 (by rfl))).trans ?_
    refine (G_goto (mF fc300 (by rfl))).trans ?_
    exact Iff.rfl
theorem b300_70 {d : Nat} {h : mHeap} {Q : Option Value → mHeap → Prop} {a0 : Nat} {x1 : Int32} {l2 : Option Value} {x3 : Int32} {l4 : Option Value} {s0 : Int32} : Go d 300 70 [some (.ref a0), some (.int x1), l2, some (.int x3), l4] [.int s0] h Q ↔ Go d 300 14 [some (.ref a0), some (.int x1), some (.int s0), some (.int (x3 + ii 1)), l4] [] h Q := by
  refine (G_istore (k := 2) (L' := [some (.ref a0), some (.int x1), some (.int s0), some (.int x3), l4]) rfl (ltb rfl) rfl (mF fc300 (by rfl))).trans ?_
  refine (G_iinc (k := 3) (L' := [some (.ref a0), some (.int x1), some (.int s0), some (.int (x3 + ii 1)), l4]) rfl rfl rfl (mF fc300 (by rfl))).trans ?_
  refine (G_goto (mF fc300 (by rfl))).trans ?_
  exact Iff.rfl
theorem e300 {d : Nat} {h : mHeap} {K : Int32 → mHeap → Prop} {a0 : Nat} {x1 : Int32} : GoCi (d + 1) 300 [.ref a0, .int x1] h K ↔ Go d 300 0 [some (.ref a0), some (.int x1), none, none, none] [] h (rI K) := GoCi_entry rfl rfl
set_option maxRecDepth 20000 in
theorem fc301 : mCodes[301]? = some mc301 := rfl
theorem b301_0 {d : Nat} {h : mHeap} {Q : Option Value → mHeap → Prop} {a0 : Nat} {x1 : Int32} {x2 : Int32} : Go d 301 0 [some (.ref a0), some (.int x1), some (.int x2), none, none, none, none] [] h Q ↔ oC h a0 = 12 ∧ GoCi d 187 [.ref a0, .int x1] h (fun v1 h1 => (if v1 = ii 0 then (Q (some (.int (ii (-1)))) h1) else (GoCi d 183 [.long x2.toInt64, .long (jj 0), .long (jj 1)] h1 (fun v2 h2 => (if ¬ v2 = ii 0 then (oC h2 a0 = 12 ∧ GoCv d 299 [.ref a0] h2 (fun h3 => okF h3 a0 12 5 2 ∧ okA h3 (fR h3 a0 5) .int x1 ∧ oC h3 a0 = 12 ∧ GoCv d 291 [.ref a0] h3 (fun h4 => Go d 301 47 [some (.ref a0), some (.int x1), some (.int x2), some (.int (ii (-2))), some (.int (((ii 24) - (eI h3 (fR h3 a0 5) x1)) + (ii 1))), some (.int (ii 0)), none] [] h4 Q))) else (Q (some (.int (ii (-1)))) h2)))))) := by
  refine (G_aload rfl (mF fc301 (by rfl))).trans ?_
  refine (G_iload rfl (mF fc301 (by rfl))).trans ?_
  refine (G_Vi (q := 95938) (y := 187) (a := a0) (c := 12) rfl rfl rfl rfl (by decide) rfl (as := [.ref a0, .int x1]) (rest := []) rfl rfl (mF fc301 (by rfl))).trans (andR (GoCi_congr fun v1 h1 => ?_))
  refine (G_eq (mF fc301 (by rfl))).trans (gi ?_ ?_)
  ·
    refine (G_iconst (mF fc301 (by rfl))).trans ?_
    exact G_ireturnI rfl (mF fc301 (by rfl))
  ·
    refine (G_iload rfl (mF fc301 (by rfl))).trans ?_
    refine (G_i2l (mF fc301 (by rfl))).trans ?_
    refine (G_jsr_w (mF fc301 (by rfl))).trans ?_
    refine (G_jsr_w (mF fc301 (by rfl))).trans ?_
    refine (G_Ti (q := 93891) (y := 183) rfl rfl rfl (as := [.long x2.toInt64, .long (jj 0), .long (jj 1)]) (rest := []) rfl rfl (mF fc301 (by rfl))).trans (GoCi_congr fun v2 h2 => ?_)
    refine (G_ne (mF fc301 (by rfl))).trans (gi ?_ ?_)
    ·
      refine (G_aload rfl (mF fc301 (by rfl))).trans ?_
      refine (G_Vv (q := 153281) (y := 299) (a := a0) (c := 12) rfl rfl rfl rfl (by decide) rfl (as := [.ref a0]) (rest := []) rfl rfl (mF fc301 (by rfl))).trans (andR (GoCv_congr fun h3 => ?_))
      refine (G_iconst (mF fc301 (by rfl))).trans ?_
      refine (G_istore (k := 3) (L' := [some (.ref a0), some (.int x1), some (.int x2), some (.int (ii (-2))), none, none, none]) rfl (ltb rfl) rfl (mF fc301 (by rfl))).trans ?_
      refine (G_iconst (mF fc301 (by rfl))).trans ?_
      refine (G_aload rfl (mF fc301 (by rfl))).trans ?_
      refine (G_getR (c := 12) (k := 5) rfl rfl rfl (mF fc301 (by rfl))).trans (andR ?_)
      refine (G_iload rfl (mF fc301 (by rfl))).trans ?_
      refine (G_iaload (mF fc301 (by rfl))).trans (andR ?_)
      refine (G_isub (mF fc301 (by rfl))).trans ?_
      refine (G_iconst (mF fc301 (by rfl))).trans ?_
      refine (G_iadd (mF fc301 (by rfl))).trans ?_
      refine (G_istore (k := 4) (L' := [some (.ref a0), some (.int x1), some (.int x2), some (.int (ii (-2))), some (.int (((ii 24) - (eI h3 (fR h3 a0 5) x1)) + (ii 1))), none, none]) rfl (ltb rfl) rfl (mF fc301 (by rfl))).trans ?_
      refine (G_aload rfl (mF fc301 (by rfl))).trans ?_
      refine (G_Vv (q := 149185) (y := 291) (a := a0) (c := 12) rfl rfl rfl rfl (by decide) rfl (as := [.ref a0]) (rest := []) rfl rfl (mF fc301 (by rfl))).trans (andR (GoCv_congr fun h4 => ?_))
      refine (G_iconst (mF fc301 (by rfl))).trans ?_
      refine (G_istore (k := 5) (L' := [some (.ref a0), some (.int x1), some (.int x2), some (.int (ii (-2))), some (.int (((ii 24) - (eI h3 (fR h3 a0 5) x1)) + (ii 1))), some (.int (ii 0)), none]) rfl (ltb rfl) rfl (mF fc301 (by rfl))).trans ?_
      exact Iff.rfl
    ·
      refine (G_iconst (mF fc301 (by rfl))).trans ?_
      exact G_ireturnI rfl (mF fc301 (by rfl))
theorem b301_47 {d : Nat} {h : mHeap} {Q : Option Value → mHeap → Prop} {a0 : Nat} {x1 : Int32} {x2 : Int32} {x3 : Int32} {x4 : Int32} {x5 : Int32} {l6 : Option Value} : Go d 301 47 [some (.ref a0), some (.int x1), some (.int x2), some (.int x3), some (.int x4), some (.int x5), l6] [] h Q ↔ okF h a0 12 1 2 ∧ okA h (fR h a0 1) .int (ii 3) ∧ (if (shl (ii 1) (eI h (fR h a0 1) (ii 3))) ≤ x5 then ((if x3 = (ii (-2)) then (Q (some (.int x3)) h) else ((if ¬ x2 = (ii 1) then (Q (some (.int x4)) h) else (Q (some (.int x3)) h))))) else (oC h a0 = 12 ∧ GoCi d 300 [.ref a0, .int x5] h (fun v1 h1 => (if x4 ≤ v1 then (Go d 301 154 [some (.ref a0), some (.int x1), some (.int x2), some (.int x3), some (.int x4), some (.int x5), l6] [] h1 Q) else (Go d 301 74 [some (.ref a0), some (.int x1), some (.int x2), some (.int x3), some (.int x4), some (.int x5), some (.int (ii 0))] [] h1 Q))))) := by
  refine (G_iload rfl (mF fc301 (by rfl))).trans ?_
  refine (G_iconst (mF fc301 (by rfl))).trans ?_
  refine (G_aload rfl (mF fc301 (by rfl))).trans ?_
  refine (G_getR (c := 12) (k := 1) rfl rfl rfl (mF fc301 (by rfl))).trans (andR ?_)
  refine (G_iconst (mF fc301 (by rfl))).trans ?_
  refine (G_iaload (mF fc301 (by rfl))).trans (andR ?_)
  refine (G_ishl (mF fc301 (by rfl))).trans ?_
  refine (G_ige (mF fc301 (by rfl))).trans (gi ?_ ?_)
  ·
    refine (G_iload rfl (mF fc301 (by rfl))).trans ?_
    refine (G_iconst (mF fc301 (by rfl))).trans ?_
    refine (G_ieq (mF fc301 (by rfl))).trans (gi ?_ ?_)
    ·
      refine (G_iload rfl (mF fc301 (by rfl))).trans ?_
      refine (G_goto (mF fc301 (by rfl))).trans ?_
      exact G_ireturnI rfl (mF fc301 (by rfl))
    ·
      refine (G_iload rfl (mF fc301 (by rfl))).trans ?_
      refine (G_iconst (mF fc301 (by rfl))).trans ?_
      refine (G_ine (mF fc301 (by rfl))).trans (gi ?_ ?_)
      ·
        refine (G_iload rfl (mF fc301 (by rfl))).trans ?_
        exact G_ireturnI rfl (mF fc301 (by rfl))
      ·
        refine (G_iload rfl (mF fc301 (by rfl))).trans ?_
        refine (G_goto (mF fc301 (by rfl))).trans ?_
        exact G_ireturnI rfl (mF fc301 (by rfl))
  ·
    refine (G_aload rfl (mF fc301 (by rfl))).trans ?_
    refine (G_iload rfl (mF fc301 (by rfl))).trans ?_
    refine (G_Vi (q := 153794) (y := 300) (a := a0) (c := 12) rfl rfl rfl rfl (by decide) rfl (as := [.ref a0, .int x5]) (rest := []) rfl rfl (mF fc301 (by rfl))).trans (andR (GoCi_congr fun v1 h1 => ?_))
    refine (G_iload rfl (mF fc301 (by rfl))).trans ?_
    refine (G_ige (mF fc301 (by rfl))).trans (gi ?_ ?_)
    ·
      exact Iff.rfl
    ·
      refine (G_iconst (mF fc301 (by rfl))).trans ?_
      refine (G_istore (k := 6) (L' := [some (.ref a0), some (.int x1), some (.int x2), some (.int x3), some (.int x4), some (.int x5), some (.int (ii 0))]) rfl (ltb rfl) rfl (mF fc301 (by rfl))).trans ?_
      exact Iff.rfl
theorem b301_74 {d : Nat} {h : mHeap} {Q : Option Value → mHeap → Prop} {a0 : Nat} {x1 : Int32} {x2 : Int32} {x3 : Int32} {x4 : Int32} {x5 : Int32} {x6 : Int32} : Go d 301 74 [some (.ref a0), some (.int x1), some (.int x2), some (.int x3), some (.int x4), some (.int x5), some (.int x6)] [] h Q ↔ okF h a0 12 1 2 ∧ okA h (fR h a0 1) .int (ii 3) ∧ (if (eI h (fR h a0 1) (ii 3)) ≤ x6 then (oC h a0 = 12 ∧ GoCi d 290 [.ref a0, .int x1] h (fun v1 h1 => oC h1 a0 = 12 ∧ GoCv d 292 [.ref a0] h1 (fun h2 => (if v1 = ii 0 then (Go d 301 140 [some (.ref a0), some (.int x1), some (.int x2), some (.int x3), some (.int x4), some (.int x5), some (.int v1)] [.int x4] h2 Q) else (oC h2 a0 = 12 ∧ GoCi d 300 [.ref a0, .int x5] h2 (fun v3 h3 => Go d 301 140 [some (.ref a0), some (.int x1), some (.int x2), some (.int x3), some (.int x4), some (.int x5), some (.int v1)] [.int v3] h3 Q)))))) else (GoCi d 185 [.int x5, .int x6] h (fun v4 h4 => (if v4 = ii 0 then (Go d 301 107 [some (.ref a0), some (.int x1), some (.int x2), some (.int x3), some (.int x4), some (.int x5), some (.int x6)] [] h4 Q) else (okF h4 a0 12 7 2 ∧ okA h4 (fR h4 a0 7) .int x6 ∧ oC h4 a0 = 12 ∧ GoCv d 253 [.ref a0, .int x1, .int (eI h4 (fR h4 a0 7) x6)] h4 (fun h5 => Go d 301 107 [some (.ref a0), some (.int x1), some (.int x2), some (.int x3), some (.int x4), some (.int x5), some (.int x6)] [] h5 Q)))))) := by
  refine (G_iload rfl (mF fc301 (by rfl))).trans ?_
  refine (G_aload rfl (mF fc301 (by rfl))).trans ?_
  refine (G_getR (c := 12) (k := 1) rfl rfl rfl (mF fc301 (by rfl))).trans (andR ?_)
  refine (G_iconst (mF fc301 (by rfl))).trans ?_
  refine (G_iaload (mF fc301 (by rfl))).trans (andR ?_)
  refine (G_ige (mF fc301 (by rfl))).trans (gi ?_ ?_)
  ·
    refine (G_aload rfl (mF fc301 (by rfl))).trans ?_
    refine (G_iload rfl (mF fc301 (by rfl))).trans ?_
    refine (G_Vi (q := 148674) (y := 290) (a := a0) (c := 12) rfl rfl rfl rfl (by decide) rfl (as := [.ref a0, .int x1]) (rest := []) rfl rfl (mF fc301 (by rfl))).trans (andR (GoCi_congr fun v1 h1 => ?_))
    refine (G_istore (k := 6) (L' := [some (.ref a0), some (.int x1), some (.int x2), some (.int x3), some (.int x4), some (.int x5), some (.int v1)]) rfl (ltb rfl) rfl (mF fc301 (by rfl))).trans ?_
    refine (G_aload rfl (mF fc301 (by rfl))).trans ?_
    refine (G_Vv (q := 149697) (y := 292) (a := a0) (c := 12) rfl rfl rfl rfl (by decide) rfl (as := [.ref a0]) (rest := []) rfl rfl (mF fc301 (by rfl))).trans (andR (GoCv_congr fun h2 => ?_))
    refine (G_iload rfl (mF fc301 (by rfl))).trans ?_
    refine (G_eq (mF fc301 (by rfl))).trans (gi ?_ ?_)
    ·
      refine (G_iload rfl (mF fc301 (by rfl))).trans ?_
      exact Iff.rfl
    ·
      refine (G_aload rfl (mF fc301 (by rfl))).trans ?_
      refine (G_iload rfl (mF fc301 (by rfl))).trans ?_
      refine (G_Vi (q := 153794) (y := 300) (a := a0) (c := 12) rfl rfl rfl rfl (by decide) rfl (as := [.ref a0, .int x5]) (rest := []) rfl rfl (mF fc301 (by rfl))).trans (andR (GoCi_congr fun v3 h3 => ?_))
      refine (G_goto (mF fc301 (by rfl))).trans ?_
      exact Iff.rfl
  ·
    refine (G_iload rfl (mF fc301 (by rfl))).trans ?_
    refine (G_iload rfl (mF fc301 (by rfl))).trans ?_
    refine (G_Ti (q := 94914) (y := 185) rfl rfl rfl (as := [.int x5, .int x6]) (rest := []) rfl rfl (mF fc301 (by rfl))).trans (GoCi_congr fun v4 h4 => ?_)
    refine (G_eq (mF fc301 (by rfl))).trans (gi ?_ ?_)
    ·
      exact Iff.rfl
    ·
      refine (G_aload rfl (mF fc301 (by rfl))).trans ?_
      refine (G_iload rfl (mF fc301 (by rfl))).trans ?_
      refine (G_aload rfl (mF fc301 (by rfl))).trans ?_
      refine (G_getR (c := 12) (k := 7) rfl rfl rfl (mF fc301 (by rfl))).trans (andR ?_)
      refine (G_iload rfl (mF fc301 (by rfl))).trans ?_
      refine (G_iaload (mF fc301 (by rfl))).trans (andR ?_)
      refine (G_Vv (q := 129731) (y := 253) (a := a0) (c := 12) rfl rfl rfl rfl (by decide) rfl (as := [.ref a0, .int x1, .int (eI h4 (fR h4 a0 7) x6)]) (rest := []) rfl rfl (mF fc301 (by rfl))).trans (andR (GoCv_congr fun h5 => ?_))
      exact Iff.rfl
theorem b301_107 {d : Nat} {h : mHeap} {Q : Option Value → mHeap → Prop} {a0 : Nat} {x1 : Int32} {x2 : Int32} {x3 : Int32} {x4 : Int32} {x5 : Int32} {x6 : Int32} : Go d 301 107 [some (.ref a0), some (.int x1), some (.int x2), some (.int x3), some (.int x4), some (.int x5), some (.int x6)] [] h Q ↔ Go d 301 74 [some (.ref a0), some (.int x1), some (.int x2), some (.int x3), some (.int x4), some (.int x5), some (.int (x6 + ii 1))] [] h Q := by
  refine (G_iinc (k := 6) (L' := [some (.ref a0), some (.int x1), some (.int x2), some (.int x3), some (.int x4), some (.int x5), some (.int (x6 + ii 1))]) rfl rfl rfl (mF fc301 (by rfl))).trans ?_
  refine (G_goto (mF fc301 (by rfl))).trans ?_
  exact Iff.rfl
theorem b301_140 {d : Nat} {h : mHeap} {Q : Option Value → mHeap → Prop} {a0 : Nat} {x1 : Int32} {x2 : Int32} {x3 : Int32} {l4 : Option Value} {x5 : Int32} {x6 : Int32} {s0 : Int32} : Go d 301 140 [some (.ref a0), some (.int x1), some (.int x2), some (.int x3), l4, some (.int x5), some (.int x6)] [.int s0] h Q ↔ (if x6 = ii 0 then (Go d 301 153 [some (.ref a0), some (.int x1), some (.int x2), some (.int x3), some (.int s0), some (.int x5), some (.int x6)] [.int x3] h Q) else (Go d 301 153 [some (.ref a0), some (.int x1), some (.int x2), some (.int x3), some (.int s0), some (.int x5), some (.int x6)] [.int x5] h Q)) := by
  refine (G_istore (k := 4) (L' := [some (.ref a0), some (.int x1), some (.int x2), some (.int x3), some (.int s0), some (.int x5), some (.int x6)]) rfl (ltb rfl) rfl (mF fc301 (by rfl))).trans ?_
  refine (G_iload rfl (mF fc301 (by rfl))).trans ?_
  refine (G_eq (mF fc301 (by rfl))).trans (gi ?_ ?_)
  ·
    refine (G_iload rfl (mF fc301 (by rfl))).trans ?_
    exact Iff.rfl
  ·
    refine (G_iload rfl (mF fc301 (by rfl))).trans ?_
    refine (G_goto (mF fc301 (by rfl))).trans ?_
    exact Iff.rfl
theorem b301_153 {d : Nat} {h : mHeap} {Q : Option Value → mHeap → Prop} {a0 : Nat} {x1 : Int32} {x2 : Int32} {l3 : Option Value} {x4 : Int32} {x5 : Int32} {l6 : Option Value} {s0 : Int32} : Go d 301 153 [some (.ref a0), some (.int x1), some (.int x2), l3, some (.int x4), some (.int x5), l6] [.int s0] h Q ↔ Go d 301 154 [some (.ref a0), some (.int x1), some (.int x2), some (.int s0), some (.int x4), some (.int x5), l6] [] h Q := by
  refine (G_istore (k := 3) (L' := [some (.ref a0), some (.int x1), some (.int x2), some (.int s0), some (.int x4), some (.int x5), l6]) rfl (ltb rfl) rfl (mF fc301 (by rfl))).trans ?_
  exact Iff.rfl
theorem b301_154 {d : Nat} {h : mHeap} {Q : Option Value → mHeap → Prop} {a0 : Nat} {x1 : Int32} {x2 : Int32} {x3 : Int32} {x4 : Int32} {x5 : Int32} {l6 : Option Value} : Go d 301 154 [some (.ref a0), some (.int x1), some (.int x2), some (.int x3), some (.int x4), some (.int x5), l6] [] h Q ↔ Go d 301 47 [some (.ref a0), some (.int x1), some (.int x2), some (.int x3), some (.int x4), some (.int (x5 + ii 1)), l6] [] h Q := by
  refine (G_iinc (k := 5) (L' := [some (.ref a0), some (.int x1), some (.int x2), some (.int x3), some (.int x4), some (.int (x5 + ii 1)), l6]) rfl rfl rfl (mF fc301 (by rfl))).trans ?_
  refine (G_goto (mF fc301 (by rfl))).trans ?_
  exact Iff.rfl
theorem e301 {d : Nat} {h : mHeap} {K : Int32 → mHeap → Prop} {a0 : Nat} {x1 : Int32} {x2 : Int32} : GoCi (d + 1) 301 [.ref a0, .int x1, .int x2] h K ↔ Go d 301 0 [some (.ref a0), some (.int x1), some (.int x2), none, none, none, none] [] h (rI K) := GoCi_entry rfl rfl
set_option maxRecDepth 20000 in
theorem fc302 : mCodes[302]? = some mc302 := rfl
theorem b302_0 {d : Nat} {h : mHeap} {Q : Option Value → mHeap → Prop} {a0 : Nat} {x1 : Int32} {x2 : Int32} : Go d 302 0 [some (.ref a0), some (.int x1), some (.int x2), none, none, none, none, none, none] [] h Q ↔ oC h a0 = 12 ∧ GoCi d 187 [.ref a0, .int x1] h (fun v1 h1 => (if v1 = ii 0 then (Q (some (.int (ii (-1)))) h1) else (GoCi d 183 [.long x2.toInt64, .long (jj 0), .long (jj 1)] h1 (fun v2 h2 => (if ¬ v2 = ii 0 then (oC h2 a0 = 12 ∧ GoCv d 291 [.ref a0] h2 (fun h3 => Go d 302 35 [some (.ref a0), some (.int x1), some (.int x2), some (.int (ii (-2))), some (.int (ii 100000)), some (.int (ii 0)), none, none, none] [] h3 Q)) else (Q (some (.int (ii (-1)))) h2)))))) := by
  refine (G_aload rfl (mF fc302 (by rfl))).trans ?_
  refine (G_iload rfl (mF fc302 (by rfl))).trans ?_
  refine (G_Vi (q := 95938) (y := 187) (a := a0) (c := 12) rfl rfl rfl rfl (by decide) rfl (as := [.ref a0, .int x1]) (rest := []) rfl rfl (mF fc302 (by rfl))).trans (andR (GoCi_congr fun v1 h1 => ?_))
  refine (G_eq (mF fc302 (by rfl))).trans (gi ?_ ?_)
  ·
    refine (G_iconst (mF fc302 (by rfl))).trans ?_
    exact G_ireturnI rfl (mF fc302 (by rfl))
  ·
    refine (G_iload rfl (mF fc302 (by rfl))).trans ?_
    refine (G_i2l (mF fc302 (by rfl))).trans ?_
    refine (G_jsr_w (mF fc302 (by rfl))).trans ?_
    refine (G_jsr_w (mF fc302 (by rfl))).trans ?_
    refine (G_Ti (q := 93891) (y := 183) rfl rfl rfl (as := [.long x2.toInt64, .long (jj 0), .long (jj 1)]) (rest := []) rfl rfl (mF fc302 (by rfl))).trans (GoCi_congr fun v2 h2 => ?_)
    refine (G_ne (mF fc302 (by rfl))).trans (gi ?_ ?_)
    ·
      refine (G_iconst (mF fc302 (by rfl))).trans ?_
      refine (G_istore (k := 3) (L' := [some (.ref a0), some (.int x1), some (.int x2), some (.int (ii (-2))), none, none, none, none, none]) rfl (ltb rfl) rfl (mF fc302 (by rfl))).trans ?_
      refine (G_iconst (mF fc302 (by rfl))).trans ?_
      refine (G_istore (k := 4) (L' := [some (.ref a0), some (.int x1), some (.int x2), some (.int (ii (-2))), some (.int (ii 100000)), none, none, none, none]) rfl (ltb rfl) rfl (mF fc302 (by rfl))).trans ?_
      refine (G_aload rfl (mF fc302 (by rfl))).trans ?_
      refine (G_Vv (q := 149185) (y := 291) (a := a0) (c := 12) rfl rfl rfl rfl (by decide) rfl (as := [.ref a0]) (rest := []) rfl rfl (mF fc302 (by rfl))).trans (andR (GoCv_congr fun h3 => ?_))
      refine (G_iconst (mF fc302 (by rfl))).trans ?_
      refine (G_istore (k := 5) (L' := [some (.ref a0), some (.int x1), some (.int x2), some (.int (ii (-2))), some (.int (ii 100000)), some (.int (ii 0)), none, none, none]) rfl (ltb rfl) rfl (mF fc302 (by rfl))).trans ?_
      exact Iff.rfl
    ·
      refine (G_iconst (mF fc302 (by rfl))).trans ?_
      exact G_ireturnI rfl (mF fc302 (by rfl))
theorem b302_35 {d : Nat} {h : mHeap} {Q : Option Value → mHeap → Prop} {a0 : Nat} {x1 : Int32} {x2 : Int32} {x3 : Int32} {x4 : Int32} {x5 : Int32} {l6 : Option Value} {l7 : Option Value} {l8 : Option Value} : Go d 302 35 [some (.ref a0), some (.int x1), some (.int x2), some (.int x3), some (.int x4), some (.int x5), l6, l7, l8] [] h Q ↔ okF h a0 12 1 2 ∧ okA h (fR h a0 1) .int (ii 2) ∧ (if (shl (ii 1) (eI h (fR h a0 1) (ii 2))) ≤ x5 then ((if x3 = (ii (-2)) then (Q (some (.int x3)) h) else ((if ¬ x2 = (ii 1) then (Q (some (.int x4)) h) else (Q (some (.int x3)) h))))) else (Go d 302 54 [some (.ref a0), some (.int x1), some (.int x2), some (.int x3), some (.int x4), some (.int x5), some (.int (ii 0)), some (.int (ii 0)), l8] [] h Q)) := by
  refine (G_iload rfl (mF fc302 (by rfl))).trans ?_
  refine (G_iconst (mF fc302 (by rfl))).trans ?_
  refine (G_aload rfl (mF fc302 (by rfl))).trans ?_
  refine (G_getR (c := 12) (k := 1) rfl rfl rfl (mF fc302 (by rfl))).trans (andR ?_)
  refine (G_iconst (mF fc302 (by rfl))).trans ?_
  refine (G_iaload (mF fc302 (by rfl))).trans (andR ?_)
  refine (G_ishl (mF fc302 (by rfl))).trans ?_
  refine (G_ige (mF fc302 (by rfl))).trans (gi ?_ ?_)
  ·
    refine (G_iload rfl (mF fc302 (by rfl))).trans ?_
    refine (G_iconst (mF fc302 (by rfl))).trans ?_
    refine (G_ieq (mF fc302 (by rfl))).trans (gi ?_ ?_)
    ·
      refine (G_iload rfl (mF fc302 (by rfl))).trans ?_
      refine (G_goto (mF fc302 (by rfl))).trans ?_
      exact G_ireturnI rfl (mF fc302 (by rfl))
    ·
      refine (G_iload rfl (mF fc302 (by rfl))).trans ?_
      refine (G_iconst (mF fc302 (by rfl))).trans ?_
      refine (G_ine (mF fc302 (by rfl))).trans (gi ?_ ?_)
      ·
        refine (G_iload rfl (mF fc302 (by rfl))).trans ?_
        exact G_ireturnI rfl (mF fc302 (by rfl))
      ·
        refine (G_iload rfl (mF fc302 (by rfl))).trans ?_
        refine (G_goto (mF fc302 (by rfl))).trans ?_
        exact G_ireturnI rfl (mF fc302 (by rfl))
  ·
    refine (G_iconst (mF fc302 (by rfl))).trans ?_
    refine (G_istore (k := 6) (L' := [some (.ref a0), some (.int x1), some (.int x2), some (.int x3), some (.int x4), some (.int x5), some (.int (ii 0)), l7, l8]) rfl (ltb rfl) rfl (mF fc302 (by rfl))).trans ?_
    refine (G_iconst (mF fc302 (by rfl))).trans ?_
    refine (G_istore (k := 7) (L' := [some (.ref a0), some (.int x1), some (.int x2), some (.int x3), some (.int x4), some (.int x5), some (.int (ii 0)), some (.int (ii 0)), l8]) rfl (ltb rfl) rfl (mF fc302 (by rfl))).trans ?_
    exact Iff.rfl
theorem b302_54 {d : Nat} {h : mHeap} {Q : Option Value → mHeap → Prop} {a0 : Nat} {x1 : Int32} {x2 : Int32} {x3 : Int32} {x4 : Int32} {x5 : Int32} {x6 : Int32} {x7 : Int32} {l8 : Option Value} : Go d 302 54 [some (.ref a0), some (.int x1), some (.int x2), some (.int x3), some (.int x4), some (.int x5), some (.int x6), some (.int x7), l8] [] h Q ↔ okF h a0 12 1 2 ∧ okA h (fR h a0 1) .int (ii 2) ∧ (if (eI h (fR h a0 1) (ii 2)) ≤ x7 then (GoCi d 185 [.int x5, .int x1] h (fun v1 h1 => (if ¬ v1 = ii 0 then (Go d 302 224 [some (.ref a0), some (.int x1), some (.int x2), some (.int x3), some (.int x4), some (.int x5), some (.int x6), some (.int x7), l8] [] h1 Q) else ((if x4 ≤ x6 then (Go d 302 224 [some (.ref a0), some (.int x1), some (.int x2), some (.int x3), some (.int x4), some (.int x5), some (.int x6), some (.int x7), l8] [] h1 Q) else (Go d 302 116 [some (.ref a0), some (.int x1), some (.int x2), some (.int x3), some (.int x4), some (.int x5), some (.int x6), some (.int (ii 0)), l8] [] h1 Q)))))) else (GoCi d 185 [.int x5, .int x7] h (fun v2 h2 => (if v2 = ii 0 then (Go d 302 88 [some (.ref a0), some (.int x1), some (.int x2), some (.int x3), some (.int x4), some (.int x5), some (.int x6), some (.int x7), l8] [.int (ii 0), .int x6] h2 Q) else (okF h2 a0 12 4 2 ∧ okA h2 (fR h2 a0 4) .int x7 ∧ Go d 302 88 [some (.ref a0), some (.int x1), some (.int x2), some (.int x3), some (.int x4), some (.int x5), some (.int x6), some (.int x7), l8] [.int (eI h2 (fR h2 a0 4) x7), .int x6] h2 Q))))) := by
  refine (G_iload rfl (mF fc302 (by rfl))).trans ?_
  refine (G_aload rfl (mF fc302 (by rfl))).trans ?_
  refine (G_getR (c := 12) (k := 1) rfl rfl rfl (mF fc302 (by rfl))).trans (andR ?_)
  refine (G_iconst (mF fc302 (by rfl))).trans ?_
  refine (G_iaload (mF fc302 (by rfl))).trans (andR ?_)
  refine (G_ige (mF fc302 (by rfl))).trans (gi ?_ ?_)
  ·
    refine (G_iload rfl (mF fc302 (by rfl))).trans ?_
    refine (G_iload rfl (mF fc302 (by rfl))).trans ?_
    refine (G_Ti (q := 94914) (y := 185) rfl rfl rfl (as := [.int x5, .int x1]) (rest := []) rfl rfl (mF fc302 (by rfl))).trans (GoCi_congr fun v1 h1 => ?_)
    refine (G_ne (mF fc302 (by rfl))).trans (gi ?_ ?_)
    ·
      exact Iff.rfl
    ·
      refine (G_iload rfl (mF fc302 (by rfl))).trans ?_
      refine (G_iload rfl (mF fc302 (by rfl))).trans ?_
      refine (G_ige (mF fc302 (by rfl))).trans (gi ?_ ?_)
      ·
        exact Iff.rfl
      ·
        refine (G_iconst (mF fc302 (by rfl))).trans ?_
        refine (G_istore (k := 7) (L' := [some (.ref a0), some (.int x1), some (.int x2), some (.int x3), some (.int x4), some (.int x5), some (.int x6), some (.int (ii 0)), l8]) rfl (ltb rfl) rfl (mF fc302 (by rfl))).trans ?_
        exact Iff.rfl
  ·
    refine (G_iload rfl (mF fc302 (by rfl))).trans ?_
    refine (G_iload rfl (mF fc302 (by rfl))).trans ?_
    refine (G_iload rfl (mF fc302 (by rfl))).trans ?_
    refine (G_Ti (q := 94914) (y := 185) rfl rfl rfl (as := [.int x5, .int x7]) (rest := [.int x6]) rfl rfl (mF fc302 (by rfl))).trans (GoCi_congr fun v2 h2 => ?_)
    refine (G_eq (mF fc302 (by rfl))).trans (gi ?_ ?_)
    ·
      refine (G_iconst (mF fc302 (by rfl))).trans ?_
      exact Iff.rfl
    ·
      refine (G_aload rfl (mF fc302 (by rfl))).trans ?_
      refine (G_getR (c := 12) (k := 4) rfl rfl rfl (mF fc302 (by rfl))).trans (andR ?_)
      refine (G_iload rfl (mF fc302 (by rfl))).trans ?_
      refine (G_iaload (mF fc302 (by rfl))).trans (andR ?_)
      refine (G_goto (mF fc302 (by rfl))).trans ?_
      exact Iff.rfl
theorem b302_88 {d : Nat} {h : mHeap} {Q : Option Value → mHeap → Prop} {a0 : Nat} {x1 : Int32} {x2 : Int32} {x3 : Int32} {x4 : Int32} {x5 : Int32} {l6 : Option Value} {x7 : Int32} {l8 : Option Value} {s0 : Int32} {s1 : Int32} : Go d 302 88 [some (.ref a0), some (.int x1), some (.int x2), some (.int x3), some (.int x4), some (.int x5), l6, some (.int x7), l8] [.int s1, .int s0] h Q ↔ Go d 302 54 [some (.ref a0), some (.int x1), some (.int x2), some (.int x3), some (.int x4), some (.int x5), some (.int (s0 + s1)), some (.int (x7 + ii 1)), l8] [] h Q := by
  refine (G_iadd (mF fc302 (by rfl))).trans ?_
  refine (G_istore (k := 6) (L' := [some (.ref a0), some (.int x1), some (.int x2), some (.int x3), some (.int x4), some (.int x5), some (.int (s0 + s1)), some (.int x7), l8]) rfl (ltb rfl) rfl (mF fc302 (by rfl))).trans ?_
  refine (G_iinc (k := 7) (L' := [some (.ref a0), some (.int x1), some (.int x2), some (.int x3), some (.int x4), some (.int x5), some (.int (s0 + s1)), some (.int (x7 + ii 1)), l8]) rfl rfl rfl (mF fc302 (by rfl))).trans ?_
  refine (G_goto (mF fc302 (by rfl))).trans ?_
  exact Iff.rfl
theorem b302_116 {d : Nat} {h : mHeap} {Q : Option Value → mHeap → Prop} {a0 : Nat} {x1 : Int32} {x2 : Int32} {x3 : Int32} {x4 : Int32} {x5 : Int32} {x6 : Int32} {x7 : Int32} {l8 : Option Value} : Go d 302 116 [some (.ref a0), some (.int x1), some (.int x2), some (.int x3), some (.int x4), some (.int x5), some (.int x6), some (.int x7), l8] [] h Q ↔ okF h a0 12 1 2 ∧ okA h (fR h a0 1) .int (ii 2) ∧ (if (eI h (fR h a0 1) (ii 2)) ≤ x7 then (oC h a0 = 12 ∧ GoCi d 290 [.ref a0, .int x1] h (fun v1 h1 => oC h1 a0 = 12 ∧ GoCv d 292 [.ref a0] h1 (fun h2 => (if v1 = ii 0 then (Go d 302 210 [some (.ref a0), some (.int x1), some (.int x2), some (.int x3), some (.int x4), some (.int x5), some (.int x6), some (.int v1), l8] [.int x4] h2 Q) else (Go d 302 210 [some (.ref a0), some (.int x1), some (.int x2), some (.int x3), some (.int x4), some (.int x5), some (.int x6), some (.int v1), l8] [.int x6] h2 Q))))) else (Go d 302 130 [some (.ref a0), some (.int x1), some (.int x2), some (.int x3), some (.int x4), some (.int x5), some (.int x6), some (.int x7), some (.int (ii 0))] [] h Q)) := by
  refine (G_iload rfl (mF fc302 (by rfl))).trans ?_
  refine (G_aload rfl (mF fc302 (by rfl))).trans ?_
  refine (G_getR (c := 12) (k := 1) rfl rfl rfl (mF fc302 (by rfl))).trans (andR ?_)
  refine (G_iconst (mF fc302 (by rfl))).trans ?_
  refine (G_iaload (mF fc302 (by rfl))).trans (andR ?_)
  refine (G_ige (mF fc302 (by rfl))).trans (gi ?_ ?_)
  ·
    refine (G_aload rfl (mF fc302 (by rfl))).trans ?_
    refine (G_iload rfl (mF fc302 (by rfl))).trans ?_
    refine (G_Vi (q := 148674) (y := 290) (a := a0) (c := 12) rfl rfl rfl rfl (by decide) rfl (as := [.ref a0, .int x1]) (rest := []) rfl rfl (mF fc302 (by rfl))).trans (andR (GoCi_congr fun v1 h1 => ?_))
    refine (G_istore (k := 7) (L' := [some (.ref a0), some (.int x1), some (.int x2), some (.int x3), some (.int x4), some (.int x5), some (.int x6), some (.int v1), l8]) rfl (ltb rfl) rfl (mF fc302 (by rfl))).trans ?_
    refine (G_aload rfl (mF fc302 (by rfl))).trans ?_
    refine (G_Vv (q := 149697) (y := 292) (a := a0) (c := 12) rfl rfl rfl rfl (by decide) rfl (as := [.ref a0]) (rest := []) rfl rfl (mF fc302 (by rfl))).trans (andR (GoCv_congr fun h2 => ?_))
    refine (G_iload rfl (mF fc302 (by rfl))).trans ?_
    refine (G_eq (mF fc302 (by rfl))).trans (gi ?_ ?_)
    ·
      refine (G_iload rfl (mF fc302 (by rfl))).trans ?_
      exact Iff.rfl
    ·
      refine (G_iload rfl (mF fc302 (by rfl))).trans ?_
      refine (G_goto (mF fc302 (by rfl))).trans ?_
      exact Iff.rfl
  ·
    refine (G_iconst (mF fc302 (by rfl))).trans ?_
    refine (G_istore (k := 8) (L' := [some (.ref a0), some (.int x1), some (.int x2), some (.int x3), some (.int x4), some (.int x5), some (.int x6), some (.int x7), some (.int (ii 0))]) rfl (ltb rfl) rfl (mF fc302 (by rfl))).trans ?_
    exact Iff.rfl
theorem b302_130 {d : Nat} {h : mHeap} {Q : Option Value → mHeap → Prop} {a0 : Nat} {x1 : Int32} {x2 : Int32} {x3 : Int32} {x4 : Int32} {x5 : Int32} {x6 : Int32} {x7 : Int32} {x8 : Int32} : Go d 302 130 [some (.ref a0), some (.int x1), some (.int x2), some (.int x3), some (.int x4), some (.int x5), some (.int x6), some (.int x7), some (.int x8)] [] h Q ↔ (if (ii 8) ≤ x8 then (Go d 302 181 [some (.ref a0), some (.int x1), some (.int x2), some (.int x3), some (.int x4), some (.int x5), some (.int x6), some (.int x7), some (.int x8)] [] h Q) else (GoCi d 185 [.int x5, .int x7] h (fun v1 h1 => (if v1 = ii 0 then (Go d 302 181 [some (.ref a0), some (.int x1), some (.int x2), some (.int x3), some (.int x4), some (.int x5), some (.int x6), some (.int x7), some (.int x8)] [] h1 Q) else (okF h1 a0 12 15 2 ∧ okA h1 (fR h1 a0 15) .int (((ii 8) * x1) + x8) ∧ okF h1 a0 12 15 2 ∧ okA h1 (fR h1 a0 15) .int (((ii 8) * x7) + x8) ∧ (64 ≤ (fR h1 a0 15) ∧ okA h1 (fR h1 a0 15) .int (((ii 8) * x1) + x8)) ∧ Go d 302 130 [some (.ref a0), some (.int x1), some (.int x2), some (.int x3), some (.int x4), some (.int x5), some (.int x6), some (.int x7), some (.int (x8 + ii 1))] [] (sI h1 (fR h1 a0 15) (((ii 8) * x1) + x8) ((eI h1 (fR h1 a0 15) (((ii 8) * x1) + x8)) &&& (eI h1 (fR h1 a0 15) (((ii 8) * x7) + x8)))) Q))))) := by
  refine (G_iload rfl (mF fc302 (by rfl))).trans ?_
  refine (G_iconst (mF fc302 (by rfl))).trans ?_
  refine (G_ige (mF fc302 (by rfl))).trans (gi ?_ ?_)
  ·
    exact Iff.rfl
  ·
    refine (G_iload rfl (mF fc302 (by rfl))).trans ?_
    refine (G_iload rfl (mF fc302 (by rfl))).trans ?_
    refine (G_Ti (q := 94914) (y := 185) rfl rfl rfl (as := [.int x5, .int x7]) (rest := []) rfl rfl (mF fc302 (by rfl))).trans (GoCi_congr fun v1 h1 => ?_)
    refine (G_eq (mF fc302 (by rfl))).trans (gi ?_ ?_)
    ·
      exact Iff.rfl
    ·
      refine (G_aload rfl (mF fc302 (by rfl))).trans ?_
      refine (G_getR (c := 12) (k := 15) rfl rfl rfl (mF fc302 (by rfl))).trans (andR ?_)
      refine (G_iconst (mF fc302 (by rfl))).trans ?_
      refine (G_iload rfl (mF fc302 (by rfl))).trans ?_
      refine (G_imul (mF fc302 (by rfl))).trans ?_
      refine (G_iload rfl (mF fc302 (by rfl))).trans ?_
      refine (G_iadd (mF fc302 (by rfl))).trans ?_
      refine (G_dup2r (mF fc302 (by rfl))).trans ?_
      refine (G_iaload (mF fc302 (by rfl))).trans (andR ?_)
      refine (G_aload rfl (mF fc302 (by rfl))).trans ?_
      refine (G_getR (c := 12) (k := 15) rfl rfl rfl (mF fc302 (by rfl))).trans (andR ?_)
      refine (G_iconst (mF fc302 (by rfl))).trans ?_
      refine (G_iload rfl (mF fc302 (by rfl))).trans ?_
      refine (G_imul (mF fc302 (by rfl))).trans ?_
      refine (G_iload rfl (mF fc302 (by rfl))).trans ?_
      refine (G_iadd (mF fc302 (by rfl))).trans ?_
      refine (G_iaload (mF fc302 (by rfl))).trans (andR ?_)
      refine (G_iand (mF fc302 (by rfl))).trans ?_
      refine (G_iastore (mF fc302 (by rfl))).trans (andR ?_)
      refine (G_iinc (k := 8) (L' := [some (.ref a0), some (.int x1), some (.int x2), some (.int x3), some (.int x4), some (.int x5), some (.int x6), some (.int x7), some (.int (x8 + ii 1))]) rfl rfl rfl (mF fc302 (by rfl))).trans ?_
      refine (G_goto (mF fc302 (by rfl))).trans ?_
      exact Iff.rfl
theorem b302_181 {d : Nat} {h : mHeap} {Q : Option Value → mHeap → Prop} {a0 : Nat} {x1 : Int32} {x2 : Int32} {x3 : Int32} {x4 : Int32} {x5 : Int32} {x6 : Int32} {x7 : Int32} {l8 : Option Value} : Go d 302 181 [some (.ref a0), some (.int x1), some (.int x2), some (.int x3), some (.int x4), some (.int x5), some (.int x6), some (.int x7), l8] [] h Q ↔ Go d 302 116 [some (.ref a0), some (.int x1), some (.int x2), some (.int x3), some (.int x4), some (.int x5), some (.int x6), some (.int (x7 + ii 1)), l8] [] h Q := by
  refine (G_iinc (k := 7) (L' := [some (.ref a0), some (.int x1), some (.int x2), some (.int x3), some (.int x4), some (.int x5), some (.int x6), some (.int (x7 + ii 1)), l8]) rfl rfl rfl (mF fc302 (by rfl))).trans ?_
  refine (G_goto (mF fc302 (by rfl))).trans ?_
  exact Iff.rfl
theorem b302_210 {d : Nat} {h : mHeap} {Q : Option Value → mHeap → Prop} {a0 : Nat} {x1 : Int32} {x2 : Int32} {x3 : Int32} {l4 : Option Value} {x5 : Int32} {l6 : Option Value} {x7 : Int32} {l8 : Option Value} {s0 : Int32} : Go d 302 210 [some (.ref a0), some (.int x1), some (.int x2), some (.int x3), l4, some (.int x5), l6, some (.int x7), l8] [.int s0] h Q ↔ (if x7 = ii 0 then (Go d 302 223 [some (.ref a0), some (.int x1), some (.int x2), some (.int x3), some (.int s0), some (.int x5), l6, some (.int x7), l8] [.int x3] h Q) else (Go d 302 223 [some (.ref a0), some (.int x1), some (.int x2), some (.int x3), some (.int s0), some (.int x5), l6, some (.int x7), l8] [.int x5] h Q)) := by
  refine (G_istore (k := 4) (L' := [some (.ref a0), some (.int x1), some (.int x2), some (.int x3), some (.int s0), some (.int x5), l6, some (.int x7), l8]) rfl (ltb rfl) rfl (mF fc302 (by rfl))).trans ?_
  refine (G_iload rfl (mF fc302 (by rfl))).trans ?_
  refine (G_eq (mF fc302 (by rfl))).trans (gi ?_ ?_)
  ·
    refine (G_iload rfl (mF fc302 (by rfl))).trans ?_
    exact Iff.rfl
  ·
    refine (G_iload rfl (mF fc302 (by rfl))).trans ?_
    refine (G_goto (mF fc302 (by rfl))).trans ?_
    exact Iff.rfl
theorem b302_223 {d : Nat} {h : mHeap} {Q : Option Value → mHeap → Prop} {a0 : Nat} {x1 : Int32} {x2 : Int32} {l3 : Option Value} {x4 : Int32} {x5 : Int32} {l6 : Option Value} {l7 : Option Value} {l8 : Option Value} {s0 : Int32} : Go d 302 223 [some (.ref a0), some (.int x1), some (.int x2), l3, some (.int x4), some (.int x5), l6, l7, l8] [.int s0] h Q ↔ Go d 302 224 [some (.ref a0), some (.int x1), some (.int x2), some (.int s0), some (.int x4), some (.int x5), l6, l7, l8] [] h Q := by
  refine (G_istore (k := 3) (L' := [some (.ref a0), some (.int x1), some (.int x2), some (.int s0), some (.int x4), some (.int x5), l6, l7, l8]) rfl (ltb rfl) rfl (mF fc302 (by rfl))).trans ?_
  exact Iff.rfl
theorem b302_224 {d : Nat} {h : mHeap} {Q : Option Value → mHeap → Prop} {a0 : Nat} {x1 : Int32} {x2 : Int32} {x3 : Int32} {x4 : Int32} {x5 : Int32} {l6 : Option Value} {l7 : Option Value} {l8 : Option Value} : Go d 302 224 [some (.ref a0), some (.int x1), some (.int x2), some (.int x3), some (.int x4), some (.int x5), l6, l7, l8] [] h Q ↔ Go d 302 35 [some (.ref a0), some (.int x1), some (.int x2), some (.int x3), some (.int x4), some (.int (x5 + ii 1)), l6, l7, l8] [] h Q := by
  refine (G_iinc (k := 5) (L' := [some (.ref a0), some (.int x1), some (.int x2), some (.int x3), some (.int x4), some (.int (x5 + ii 1)), l6, l7, l8]) rfl rfl rfl (mF fc302 (by rfl))).trans ?_
  refine (G_goto (mF fc302 (by rfl))).trans ?_
  exact Iff.rfl
theorem e302 {d : Nat} {h : mHeap} {K : Int32 → mHeap → Prop} {a0 : Nat} {x1 : Int32} {x2 : Int32} : GoCi (d + 1) 302 [.ref a0, .int x1, .int x2] h K ↔ Go d 302 0 [some (.ref a0), some (.int x1), some (.int x2), none, none, none, none, none, none] [] h (rI K) := GoCi_entry rfl rfl
set_option maxRecDepth 20000 in
theorem fc303 : mCodes[303]? = some mc303 := rfl
theorem b303_0 {d : Nat} {h : mHeap} {Q : Option Value → mHeap → Prop} {a0 : Nat} {x1 : Int32} {x2 : Int32} : Go d 303 0 [some (.ref a0), some (.int x1), some (.int x2), none] [] h Q ↔ (if ¬ x1 = (ii (-1)) then (okF h a0 12 1 2 ∧ okA h (fR h a0 1) .int (ii 7) ∧ oC h a0 = 12 ∧ GoCi d 190 [.ref a0, .int x1] h (fun v1 h1 => (if v1 = ii 0 then (Q (some (.int (ii (-2)))) h1) else (oC h1 a0 = 12 ∧ GoCi d 186 [.ref a0] h1 (fun v2 h2 => (if v2 = ii 0 then (Q (some (.int (ii (-2)))) h2) else ((if ¬ (eI h (fR h a0 1) (ii 7)) = (ii 10) then (okF h2 a0 12 13 2 ∧ (64 ≤ (fR h2 a0 13) ∧ okA h2 (fR h2 a0 13) .int (eI h (fR h a0 1) (ii 7))) ∧ okF (sI h2 (fR h2 a0 13) (eI h (fR h a0 1) (ii 7)) x1) a0 12 14 2 ∧ (if x2 = ii 0 then (Go d 303 68 [some (.ref a0), some (.int x1), some (.int x2), some (.int (eI h (fR h a0 1) (ii 7)))] [.int (ii 0), .int (eI h (fR h a0 1) (ii 7)), .ref (fR (sI h2 (fR h2 a0 13) (eI h (fR h a0 1) (ii 7)) x1) a0 14)] (sI h2 (fR h2 a0 13) (eI h (fR h a0 1) (ii 7)) x1) Q) else (Go d 303 68 [some (.ref a0), some (.int x1), some (.int x2), some (.int (eI h (fR h a0 1) (ii 7)))] [.int (ii 1), .int (eI h (fR h a0 1) (ii 7)), .ref (fR (sI h2 (fR h2 a0 13) (eI h (fR h a0 1) (ii 7)) x1) a0 14)] (sI h2 (fR h2 a0 13) (eI h (fR h a0 1) (ii 7)) x1) Q))) else (Q (some (.int (ii (-2)))) h2))))))))) else (okF h a0 12 1 2 ∧ (64 ≤ (fR h a0 1) ∧ okA h (fR h a0 1) .int (ii 7)) ∧ Q (some (.int (ii 0))) (sI h (fR h a0 1) (ii 7) (ii 0)))) := by
  refine (G_iload rfl (mF fc303 (by rfl))).trans ?_
  refine (G_iconst (mF fc303 (by rfl))).trans ?_
  refine (G_ine (mF fc303 (by rfl))).trans (gi ?_ ?_)
  ·
    refine (G_aload rfl (mF fc303 (by rfl))).trans ?_
    refine (G_getR (c := 12) (k := 1) rfl rfl rfl (mF fc303 (by rfl))).trans (andR ?_)
    refine (G_iconst (mF fc303 (by rfl))).trans ?_
    refine (G_iaload (mF fc303 (by rfl))).trans (andR ?_)
    refine (G_istore (k := 3) (L' := [some (.ref a0), some (.int x1), some (.int x2), some (.int (eI h (fR h a0 1) (ii 7)))]) rfl (ltb rfl) rfl (mF fc303 (by rfl))).trans ?_
    refine (G_aload rfl (mF fc303 (by rfl))).trans ?_
    refine (G_iload rfl (mF fc303 (by rfl))).trans ?_
    refine (G_Vi (q := 97474) (y := 190) (a := a0) (c := 12) rfl rfl rfl rfl (by decide) rfl (as := [.ref a0, .int x1]) (rest := []) rfl rfl (mF fc303 (by rfl))).trans (andR (GoCi_congr fun v1 h1 => ?_))
    refine (G_eq (mF fc303 (by rfl))).trans (gi ?_ ?_)
    ·
      refine (G_iconst (mF fc303 (by rfl))).trans ?_
      exact G_ireturnI rfl (mF fc303 (by rfl))
    ·
      refine (G_aload rfl (mF fc303 (by rfl))).trans ?_
      refine (G_Vi (q := 95425) (y := 186) (a := a0) (c := 12) rfl rfl rfl rfl (by decide) rfl (as := [.ref a0]) (rest := []) rfl rfl (mF fc303 (by rfl))).trans (andR (GoCi_congr fun v2 h2 => ?_))
      refine (G_eq (mF fc303 (by rfl))).trans (gi ?_ ?_)
      ·
        refine (G_iconst (mF fc303 (by rfl))).trans ?_
        exact G_ireturnI rfl (mF fc303 (by rfl))
      ·
        refine (G_iload rfl (mF fc303 (by rfl))).trans ?_
        refine (G_iconst (mF fc303 (by rfl))).trans ?_
        refine (G_ine (mF fc303 (by rfl))).trans (gi ?_ ?_)
        ·
          refine (G_aload rfl (mF fc303 (by rfl))).trans ?_
          refine (G_getR (c := 12) (k := 13) rfl rfl rfl (mF fc303 (by rfl))).trans (andR ?_)
          refine (G_iload rfl (mF fc303 (by rfl))).trans ?_
          refine (G_iload rfl (mF fc303 (by rfl))).trans ?_
          refine (G_iastore (mF fc303 (by rfl))).trans (andR ?_)
          refine (G_aload rfl (mF fc303 (by rfl))).trans ?_
          refine (G_getR (c := 12) (k := 14) rfl rfl rfl (mF fc303 (by rfl))).trans (andR ?_)
          refine (G_iload rfl (mF fc303 (by rfl))).trans ?_
          refine (G_iload rfl (mF fc303 (by rfl))).trans ?_
          refine (G_eq (mF fc303 (by rfl))).trans (gi ?_ ?_)
          ·
            refine (G_iconst (mF fc303 (by rfl))).trans ?_
            exact Iff.rfl
          ·
            refine (G_iconst (mF fc303 (by rfl))).trans ?_
            refine (G_goto (mF fc303 (by rfl))).trans ?_
            exact Iff.rfl
        ·
          refine (G_iconst (mF fc303 (by rfl))).trans ?_
          exact G_ireturnI rfl (mF fc303 (by rfl))
  ·
    refine (G_aload rfl (mF fc303 (by rfl))).trans ?_
    refine (G_getR (c := 12) (k := 1) rfl rfl rfl (mF fc303 (by rfl))).trans (andR ?_)
    refine (G_iconst (mF fc303 (by rfl))).trans ?_
    refine (G_iconst (mF fc303 (by rfl))).trans ?_
    refine (G_iastore (mF fc303 (by rfl))).trans (andR ?_)
    refine (G_iconst (mF fc303 (by rfl))).trans ?_
    exact G_ireturnI rfl (mF fc303 (by rfl))
theorem b303_68 {d : Nat} {h : mHeap} {Q : Option Value → mHeap → Prop} {a0 : Nat} {l1 : Option Value} {l2 : Option Value} {x3 : Int32} {r0 : Nat} {s1 : Int32} {s2 : Int32} : Go d 303 68 [some (.ref a0), l1, l2, some (.int x3)] [.int s2, .int s1, .ref r0] h Q ↔ (64 ≤ r0 ∧ okA h r0 .int s1) ∧ okF (sI h r0 s1 s2) a0 12 1 2 ∧ okA (sI h r0 s1 s2) (fR (sI h r0 s1 s2) a0 1) .int (ii 7) ∧ (64 ≤ (fR (sI h r0 s1 s2) a0 1) ∧ okA (sI h r0 s1 s2) (fR (sI h r0 s1 s2) a0 1) .int (ii 7)) ∧ Q (some (.int (x3 + (ii 1)))) (sI (sI h r0 s1 s2) (fR (sI h r0 s1 s2) a0 1) (ii 7) ((eI (sI h r0 s1 s2) (fR (sI h r0 s1 s2) a0 1) (ii 7)) + (ii 1))) := by
  refine (G_iastore (mF fc303 (by rfl))).trans (andR ?_)
  refine (G_aload rfl (mF fc303 (by rfl))).trans ?_
  refine (G_getR (c := 12) (k := 1) rfl rfl rfl (mF fc303 (by rfl))).trans (andR ?_)
  refine (G_iconst (mF fc303 (by rfl))).trans ?_
  refine (G_dup2r (mF fc303 (by rfl))).trans ?_
  refine (G_iaload (mF fc303 (by rfl))).trans (andR ?_)
  refine (G_iconst (mF fc303 (by rfl))).trans ?_
  refine (G_iadd (mF fc303 (by rfl))).trans ?_
  refine (G_iastore (mF fc303 (by rfl))).trans (andR ?_)
  refine (G_iload rfl (mF fc303 (by rfl))).trans ?_
  refine (G_iconst (mF fc303 (by rfl))).trans ?_
  refine (G_iadd (mF fc303 (by rfl))).trans ?_
  exact G_ireturnI rfl (mF fc303 (by rfl))
theorem e303 {d : Nat} {h : mHeap} {K : Int32 → mHeap → Prop} {a0 : Nat} {x1 : Int32} {x2 : Int32} : GoCi (d + 1) 303 [.ref a0, .int x1, .int x2] h K ↔ Go d 303 0 [some (.ref a0), some (.int x1), some (.int x2), none] [] h (rI K) := GoCi_entry rfl rfl
set_option maxRecDepth 20000 in
theorem fc304 : mCodes[304]? = some mc304 := rfl
theorem b304_0 {d : Nat} {h : mHeap} {Q : Option Value → mHeap → Prop} {a0 : Nat} : Go d 304 0 [some (.ref a0)] [] h Q ↔ okF h a0 12 32 0 ∧ (if (ii 8) ≤ (fI h a0 32) then (Q (some (.int (ii 8))) h) else (okF h a0 12 32 0 ∧ Q (some (.int (fI h a0 32))) h)) := by
  refine (G_aload rfl (mF fc304 (by rfl))).trans ?_
  refine (G_getI (c := 12) (k := 32) rfl rfl rfl (mF fc304 (by rfl))).trans (andR ?_)
  refine (G_iconst (mF fc304 (by rfl))).trans ?_
  refine (G_ige (mF fc304 (by rfl))).trans (gi ?_ ?_)
  ·
    refine (G_iconst (mF fc304 (by rfl))).trans ?_
    exact G_ireturnI rfl (mF fc304 (by rfl))
  ·
    refine (G_aload rfl (mF fc304 (by rfl))).trans ?_
    refine (G_getI (c := 12) (k := 32) rfl rfl rfl (mF fc304 (by rfl))).trans (andR ?_)
    refine (G_goto (mF fc304 (by rfl))).trans ?_
    exact G_ireturnI rfl (mF fc304 (by rfl))
theorem e304 {d : Nat} {h : mHeap} {K : Int32 → mHeap → Prop} {a0 : Nat} : GoCi (d + 1) 304 [.ref a0] h K ↔ Go d 304 0 [some (.ref a0)] [] h (rI K) := GoCi_entry rfl rfl
set_option maxRecDepth 20000 in
theorem fc305 : mCodes[305]? = some mc305 := rfl
theorem b305_0 {d : Nat} {h : mHeap} {Q : Option Value → mHeap → Prop} {a0 : Nat} {x1 : Int32} : Go d 305 0 [some (.ref a0), some (.int x1), none, none] [] h Q ↔ Go d 305 4 [some (.ref a0), some (.int x1), some (.int (ii 1)), some (.int (ii 0))] [] h Q := by
  refine (G_iconst (mF fc305 (by rfl))).trans ?_
  refine (G_istore (k := 2) (L' := [some (.ref a0), some (.int x1), some (.int (ii 1)), none]) rfl (ltb rfl) rfl (mF fc305 (by rfl))).trans ?_
  refine (G_iconst (mF fc305 (by rfl))).trans ?_
  refine (G_istore (k := 3) (L' := [some (.ref a0), some (.int x1), some (.int (ii 1)), some (.int (ii 0))]) rfl (ltb rfl) rfl (mF fc305 (by rfl))).trans ?_
  exact Iff.rfl
theorem b305_4 {d : Nat} {h : mHeap} {Q : Option Value → mHeap → Prop} {a0 : Nat} {x1 : Int32} {x2 : Int32} {x3 : Int32} : Go d 305 4 [some (.ref a0), some (.int x1), some (.int x2), some (.int x3)] [] h Q ↔ okF h a0 12 1 2 ∧ okA h (fR h a0 1) .int (ii 7) ∧ (if (eI h (fR h a0 1) (ii 7)) ≤ x3 then ((x2 = ii 0 ∨ x2 = ii 1) ∧ Q (some (.int x2)) h) else ((if x2 = ii 0 then ((x2 = ii 0 ∨ x2 = ii 1) ∧ Q (some (.int x2)) h) else (okF h a0 12 13 2 ∧ okA h (fR h a0 13) .int x3 ∧ oC h a0 = 12 ∧ GoCi d 283 [.ref a0, .int x1, .int (eI h (fR h a0 13) x3)] h (fun v1 h1 => okF h1 a0 12 14 2 ∧ okA h1 (fR h1 a0 14) .int x3 ∧ (if ¬ (eI h1 (fR h1 a0 14) x3) = (ii 1) then (Go d 305 45 [some (.ref a0), some (.int x1), some (.int x2), some (.int x3)] [.int (ii 0), .int v1] h1 Q) else (Go d 305 45 [some (.ref a0), some (.int x1), some (.int x2), some (.int x3)] [.int (ii 1), .int v1] h1 Q))))))) := by
  refine (G_iload rfl (mF fc305 (by rfl))).trans ?_
  refine (G_aload rfl (mF fc305 (by rfl))).trans ?_
  refine (G_getR (c := 12) (k := 1) rfl rfl rfl (mF fc305 (by rfl))).trans (andR ?_)
  refine (G_iconst (mF fc305 (by rfl))).trans ?_
  refine (G_iaload (mF fc305 (by rfl))).trans (andR ?_)
  refine (G_ige (mF fc305 (by rfl))).trans (gi ?_ ?_)
  ·
    refine (G_iload rfl (mF fc305 (by rfl))).trans ?_
    exact G_ireturnZ rfl (mF fc305 (by rfl))
  ·
    refine (G_iload rfl (mF fc305 (by rfl))).trans ?_
    refine (G_eq (mF fc305 (by rfl))).trans (gi ?_ ?_)
    ·
      refine (G_iload rfl (mF fc305 (by rfl))).trans ?_
      exact G_ireturnZ rfl (mF fc305 (by rfl))
    ·
      refine (G_aload rfl (mF fc305 (by rfl))).trans ?_
      refine (G_iload rfl (mF fc305 (by rfl))).trans ?_
      refine (G_aload rfl (mF fc305 (by rfl))).trans ?_
      refine (G_getR (c := 12) (k := 13) rfl rfl rfl (mF fc305 (by rfl))).trans (andR ?_)
      refine (G_iload rfl (mF fc305 (by rfl))).trans ?_
      refine (G_iaload (mF fc305 (by rfl))).trans (andR ?_)
      refine (G_Vi (q := 145091) (y := 283) (a := a0) (c := 12) rfl rfl rfl rfl (by decide) rfl (as := [.ref a0, .int x1, .int (eI h (fR h a0 13) x3)]) (rest := []) rfl rfl (mF fc305 (by rfl))).trans (andR (GoCi_congr fun v1 h1 => ?_))
      refine (G_aload rfl (mF fc305 (by rfl))).trans ?_
      refine (G_getR (c := 12) (k := 14) rfl rfl rfl (mF fc305 (by rfl))).trans (andR ?_)
      refine (G_iload rfl (mF fc305 (by rfl))).trans ?_
      refine (G_iaload (mF fc305 (by rfl))).trans (andR ?_)
      refine (G_iconst (mF fc305 (by rfl))).trans ?_
      refine (G_ine (mF fc305 (by rfl))).trans (gi ?_ ?_)
      ·
        refine (G_iconst (mF fc305 (by rfl))).trans ?_
        exact Iff.rfl
      ·
        refine (G_iconst (mF fc305 (by rfl))).trans ?_
        refine (G_goto (mF fc305 (by rfl))).trans ?_
        exact Iff.rfl
theorem b305_45 {d : Nat} {h : mHeap} {Q : Option Value → mHeap → Prop} {a0 : Nat} {x1 : Int32} {l2 : Option Value} {x3 : Int32} {s0 : Int32} {s1 : Int32} : Go d 305 45 [some (.ref a0), some (.int x1), l2, some (.int x3)] [.int s1, .int s0] h Q ↔ (if ¬ s0 = s1 then (Go d 305 53 [some (.ref a0), some (.int x1), l2, some (.int x3)] [.int (ii 0)] h Q) else (Go d 305 53 [some (.ref a0), some (.int x1), l2, some (.int x3)] [.int (ii 1)] h Q)) := by
  refine (G_ine (mF fc305 (by rfl))).trans (gi ?_ ?_)
  ·
    refine (G_iconst (mF fc305 (by rfl))).trans ?_
    exact Iff.rfl
  ·
    refine (G_iconst (mF fc305 (by rfl))).trans ?_
    refine (G_goto (mF fc305 (by rfl))).trans ?_
    exact Iff.rfl
theorem b305_53 {d : Nat} {h : mHeap} {Q : Option Value → mHeap → Prop} {a0 : Nat} {x1 : Int32} {l2 : Option Value} {x3 : Int32} {s0 : Int32} : Go d 305 53 [some (.ref a0), some (.int x1), l2, some (.int x3)] [.int s0] h Q ↔ Go d 305 4 [some (.ref a0), some (.int x1), some (.int s0), some (.int (x3 + ii 1))] [] h Q := by
  refine (G_istore (k := 2) (L' := [some (.ref a0), some (.int x1), some (.int s0), some (.int x3)]) rfl (ltb rfl) rfl (mF fc305 (by rfl))).trans ?_
  refine (G_iinc (k := 3) (L' := [some (.ref a0), some (.int x1), some (.int s0), some (.int (x3 + ii 1))]) rfl rfl rfl (mF fc305 (by rfl))).trans ?_
  refine (G_goto (mF fc305 (by rfl))).trans ?_
  exact Iff.rfl
theorem e305 {d : Nat} {h : mHeap} {K : Int32 → mHeap → Prop} {a0 : Nat} {x1 : Int32} : GoCi (d + 1) 305 [.ref a0, .int x1] h K ↔ Go d 305 0 [some (.ref a0), some (.int x1), none, none] [] h (rI K) := GoCi_entry rfl rfl
set_option maxRecDepth 20000 in
theorem fc306 : mCodes[306]? = some mc306 := rfl
theorem b306_0 {d : Nat} {h : mHeap} {Q : Option Value → mHeap → Prop} {a0 : Nat} {x1 : Int32} : Go d 306 0 [some (.ref a0), some (.int x1), none, none, none, none, none] [] h Q ↔ oC h a0 = 12 ∧ GoCi d 186 [.ref a0] h (fun v1 h1 => (if v1 = ii 0 then (Q (some (.int (ii (-1)))) h1) else (GoCi d 183 [.long x1.toInt64, .long (jj 0), .long (jj 2)] h1 (fun v2 h2 => (if ¬ v2 = ii 0 then (oC h2 a0 = 12 ∧ GoCi d 304 [.ref a0] h2 (fun v3 h3 => Go d 306 41 [some (.ref a0), some (.int x1), some (.int ((shl (ii 1) v3) - (ii 1))), some (.int (ii 0)), some (.int ((shl (ii 1) v3) - (ii 1))), some (.int (ii 0)), some (.int (ii 0))] [] h3 Q)) else (Q (some (.int (ii (-1)))) h2)))))) := by
  refine (G_aload rfl (mF fc306 (by rfl))).trans ?_
  refine (G_Vi (q := 95425) (y := 186) (a := a0) (c := 12) rfl rfl rfl rfl (by decide) rfl (as := [.ref a0]) (rest := []) rfl rfl (mF fc306 (by rfl))).trans (andR (GoCi_congr fun v1 h1 => ?_))
  refine (G_eq (mF fc306 (by rfl))).trans (gi ?_ ?_)
  ·
    refine (G_iconst (mF fc306 (by rfl))).trans ?_
    exact G_ireturnI rfl (mF fc306 (by rfl))
  ·
    refine (G_iload rfl (mF fc306 (by rfl))).trans ?_
    refine (G_i2l (mF fc306 (by rfl))).trans ?_
    refine (G_jsr_w (mF fc306 (by rfl))).trans ?_
    refine (G_jsr_w (mF fc306 (by rfl))).trans ?_
    refine (G_Ti (q := 93891) (y := 183) rfl rfl rfl (as := [.long x1.toInt64, .long (jj 0), .long (jj 2)]) (rest := []) rfl rfl (mF fc306 (by rfl))).trans (GoCi_congr fun v2 h2 => ?_)
    refine (G_ne (mF fc306 (by rfl))).trans (gi ?_ ?_)
    ·
      refine (G_iconst (mF fc306 (by rfl))).trans ?_
      refine (G_aload rfl (mF fc306 (by rfl))).trans ?_
      refine (G_Vi (q := 155841) (y := 304) (a := a0) (c := 12) rfl rfl rfl rfl (by decide) rfl (as := [.ref a0]) (rest := [.int (ii 1)]) rfl rfl (mF fc306 (by rfl))).trans (andR (GoCi_congr fun v3 h3 => ?_))
      refine (G_ishl (mF fc306 (by rfl))).trans ?_
      refine (G_iconst (mF fc306 (by rfl))).trans ?_
      refine (G_isub (mF fc306 (by rfl))).trans ?_
      refine (G_istore (k := 2) (L' := [some (.ref a0), some (.int x1), some (.int ((shl (ii 1) v3) - (ii 1))), none, none, none, none]) rfl (ltb rfl) rfl (mF fc306 (by rfl))).trans ?_
      refine (G_iconst (mF fc306 (by rfl))).trans ?_
      refine (G_istore (k := 3) (L' := [some (.ref a0), some (.int x1), some (.int ((shl (ii 1) v3) - (ii 1))), some (.int (ii 0)), none, none, none]) rfl (ltb rfl) rfl (mF fc306 (by rfl))).trans ?_
      refine (G_iload rfl (mF fc306 (by rfl))).trans ?_
      refine (G_istore (k := 4) (L' := [some (.ref a0), some (.int x1), some (.int ((shl (ii 1) v3) - (ii 1))), some (.int (ii 0)), some (.int ((shl (ii 1) v3) - (ii 1))), none, none]) rfl (ltb rfl) rfl (mF fc306 (by rfl))).trans ?_
      refine (G_iconst (mF fc306 (by rfl))).trans ?_
      refine (G_istore (k := 5) (L' := [some (.ref a0), some (.int x1), some (.int ((shl (ii 1) v3) - (ii 1))), some (.int (ii 0)), some (.int ((shl (ii 1) v3) - (ii 1))), some (.int (ii 0)), none]) rfl (ltb rfl) rfl (mF fc306 (by rfl))).trans ?_
      refine (G_iconst (mF fc306 (by rfl))).trans ?_
      refine (G_istore (k := 6) (L' := [some (.ref a0), some (.int x1), some (.int ((shl (ii 1) v3) - (ii 1))), some (.int (ii 0)), some (.int ((shl (ii 1) v3) - (ii 1))), some (.int (ii 0)), some (.int (ii 0))]) rfl (ltb rfl) rfl (mF fc306 (by rfl))).trans ?_
      exact Iff.rfl
    ·
      refine (G_iconst (mF fc306 (by rfl))).trans ?_
      exact G_ireturnI rfl (mF fc306 (by rfl))
theorem b306_41 {d : Nat} {h : mHeap} {Q : Option Value → mHeap → Prop} {a0 : Nat} {x1 : Int32} {x2 : Int32} {x3 : Int32} {x4 : Int32} {x5 : Int32} {x6 : Int32} : Go d 306 41 [some (.ref a0), some (.int x1), some (.int x2), some (.int x3), some (.int x4), some (.int x5), some (.int x6)] [] h Q ↔ (if x2 < x6 then ((if x1 = ii 0 then (Q (some (.int x3)) h) else ((if ¬ x3 = ii 0 then ((if ¬ x1 = (ii 1) then (Q (some (.int (x2 &&& (x5 ^^^ (ii (-1)))))) h) else (Q (some (.int x4)) h))) else (Q (some (.int x3)) h))))) else (oC h a0 = 12 ∧ GoCi d 305 [.ref a0, .int x6] h (fun v1 h1 => (if v1 = ii 0 then (Go d 306 73 [some (.ref a0), some (.int x1), some (.int x2), some (.int x3), some (.int x4), some (.int x5), some (.int x6)] [] h1 Q) else (Go d 306 73 [some (.ref a0), some (.int x1), some (.int x2), some (.int (x3 + ii 1)), some (.int (x4 &&& x6)), some (.int (x5 ||| x6)), some (.int x6)] [] h1 Q))))) := by
  refine (G_iload rfl (mF fc306 (by rfl))).trans ?_
  refine (G_iload rfl (mF fc306 (by rfl))).trans ?_
  refine (G_igt (mF fc306 (by rfl))).trans (gi ?_ ?_)
  ·
    refine (G_iload rfl (mF fc306 (by rfl))).trans ?_
    refine (G_eq (mF fc306 (by rfl))).trans (gi ?_ ?_)
    ·
      refine (G_iload rfl (mF fc306 (by rfl))).trans ?_
      exact G_ireturnI rfl (mF fc306 (by rfl))
    ·
      refine (G_iload rfl (mF fc306 (by rfl))).trans ?_
      refine (G_ne (mF fc306 (by rfl))).trans (gi ?_ ?_)
      ·
        refine (G_iload rfl (mF fc306 (by rfl))).trans ?_
        refine (G_iconst (mF fc306 (by rfl))).trans ?_
        refine (G_ine (mF fc306 (by rfl))).trans (gi ?_ ?_)
        ·
          refine (G_iload rfl (mF fc306 (by rfl))).trans ?_
          refine (G_iload rfl (mF fc306 (by rfl))).trans ?_
          refine (G_iconst (mF fc306 (by rfl))).trans ?_
          refine (G_ixor (mF fc306 (by rfl))).trans ?_
          refine (G_iand (mF fc306 (by rfl))).trans ?_
          exact G_ireturnI rfl (mF fc306 (by rfl))
        ·
          refine (G_iload rfl (mF fc306 (by rfl))).trans ?_
          refine (G_goto (mF fc306 (by rfl))).trans ?_
          exact G_ireturnI rfl (mF fc306 (by rfl))
      ·
        refine (G_iload rfl (mF fc306 (by rfl))).trans ?_
        exact G_ireturnI rfl (mF fc306 (by rfl))
  ·
    refine (G_aload rfl (mF fc306 (by rfl))).trans ?_
    refine (G_iload rfl (mF fc306 (by rfl))).trans ?_
    refine (G_Vi (q := 156354) (y := 305) (a := a0) (c := 12) rfl rfl rfl rfl (by decide) rfl (as := [.ref a0, .int x6]) (rest := []) rfl rfl (mF fc306 (by rfl))).trans (andR (GoCi_congr fun v1 h1 => ?_))
    refine (G_eq (mF fc306 (by rfl))).trans (gi ?_ ?_)
    ·
      exact Iff.rfl
    ·
      refine (G_iinc (k := 3) (L' := [some (.ref a0), some (.int x1), some (.int x2), some (.int (x3 + ii 1)), some (.int x4), some (.int x5), some (.int x6)]) rfl rfl rfl (mF fc306 (by rfl))).trans ?_
      refine (G_iload rfl (mF fc306 (by rfl))).trans ?_
      refine (G_iload rfl (mF fc306 (by rfl))).trans ?_
      refine (G_iand (mF fc306 (by rfl))).trans ?_
      refine (G_istore (k := 4) (L' := [some (.ref a0), some (.int x1), some (.int x2), some (.int (x3 + ii 1)), some (.int (x4 &&& x6)), some (.int x5), some (.int x6)]) rfl (ltb rfl) rfl (mF fc306 (by rfl))).trans ?_
      refine (G_iload rfl (mF fc306 (by rfl))).trans ?_
      refine (G_iload rfl (mF fc306 (by rfl))).trans ?_
      refine (G_ior (mF fc306 (by rfl))).trans ?_
      refine (G_istore (k := 5) (L' := [some (.ref a0), some (.int x1), some (.int x2), some (.int (x3 + ii 1)), some (.int (x4 &&& x6)), some (.int (x5 ||| x6)), some (.int x6)]) rfl (ltb rfl) rfl (mF fc306 (by rfl))).trans ?_
      exact Iff.rfl
theorem b306_73 {d : Nat} {h : mHeap} {Q : Option Value → mHeap → Prop} {a0 : Nat} {x1 : Int32} {x2 : Int32} {x3 : Int32} {x4 : Int32} {x5 : Int32} {x6 : Int32} : Go d 306 73 [some (.ref a0), some (.int x1), some (.int x2), some (.int x3), some (.int x4), some (.int x5), some (.int x6)] [] h Q ↔ Go d 306 41 [some (.ref a0), some (.int x1), some (.int x2), some (.int x3), some (.int x4), some (.int x5), some (.int (x6 + ii 1))] [] h Q := by
  refine (G_iinc (k := 6) (L' := [some (.ref a0), some (.int x1), some (.int x2), some (.int x3), some (.int x4), some (.int x5), some (.int (x6 + ii 1))]) rfl rfl rfl (mF fc306 (by rfl))).trans ?_
  refine (G_goto (mF fc306 (by rfl))).trans ?_
  exact Iff.rfl
theorem e306 {d : Nat} {h : mHeap} {K : Int32 → mHeap → Prop} {a0 : Nat} {x1 : Int32} : GoCi (d + 1) 306 [.ref a0, .int x1] h K ↔ Go d 306 0 [some (.ref a0), some (.int x1), none, none, none, none, none] [] h (rI K) := GoCi_entry rfl rfl
set_option maxRecDepth 20000 in
theorem fc307 : mCodes[307]? = some mc307 := rfl
theorem b307_0 {d : Nat} {h : mHeap} {Q : Option Value → mHeap → Prop} {a0 : Nat} {x1 : Int32} : Go d 307 0 [some (.ref a0), some (.int x1), none, none, none, none, none] [] h Q ↔ oC h a0 = 12 ∧ GoCi d 186 [.ref a0] h (fun v1 h1 => (if v1 = ii 0 then (Q (some (.int (ii (-1)))) h1) else (GoCi d 183 [.long x1.toInt64, .long (jj 0), .long (jj 1)] h1 (fun v2 h2 => (if ¬ v2 = ii 0 then (Go d 307 23 [some (.ref a0), some (.int x1), some (.int (ii 0)), some (.int (ii 0)), none, none, none] [] h2 Q) else (Q (some (.int (ii (-1)))) h2)))))) := by
  refine (G_aload rfl (mF fc307 (by rfl))).trans ?_
  refine (G_Vi (q := 95425) (y := 186) (a := a0) (c := 12) rfl rfl rfl rfl (by decide) rfl (as := [.ref a0]) (rest := []) rfl rfl (mF fc307 (by rfl))).trans (andR (GoCi_congr fun v1 h1 => ?_))
  refine (G_eq (mF fc307 (by rfl))).trans (gi ?_ ?_)
  ·
    refine (G_iconst (mF fc307 (by rfl))).trans ?_
    exact G_ireturnI rfl (mF fc307 (by rfl))
  ·
    refine (G_iload rfl (mF fc307 (by rfl))).trans ?_
    refine (G_i2l (mF fc307 (by rfl))).trans ?_
    refine (G_jsr_w (mF fc307 (by rfl))).trans ?_
    refine (G_jsr_w (mF fc307 (by rfl))).trans ?_
    refine (G_Ti (q := 93891) (y := 183) rfl rfl rfl (as := [.long x1.toInt64, .long (jj 0), .long (jj 1)]) (rest := []) rfl rfl (mF fc307 (by rfl))).trans (GoCi_congr fun v2 h2 => ?_)
    refine (G_ne (mF fc307 (by rfl))).trans (gi ?_ ?_)
    ·
      refine (G_iconst (mF fc307 (by rfl))).trans ?_
      refine (G_istore (k := 2) (L' := [some (.ref a0), some (.int x1), some (.int (ii 0)), none, none, none, none]) rfl (ltb rfl) rfl (mF fc307 (by rfl))).trans ?_
      refine (G_iconst (mF fc307 (by rfl))).trans ?_
      refine (G_istore (k := 3) (L' := [some (.ref a0), some (.int x1), some (.int (ii 0)), some (.int (ii 0)), none, none, none]) rfl (ltb rfl) rfl (mF fc307 (by rfl))).trans ?_
      exact Iff.rfl
    ·
      refine (G_iconst (mF fc307 (by rfl))).trans ?_
      exact G_ireturnI rfl (mF fc307 (by rfl))
theorem b307_23 {d : Nat} {h : mHeap} {Q : Option Value → mHeap → Prop} {a0 : Nat} {x1 : Int32} {x2 : Int32} {x3 : Int32} {l4 : Option Value} {l5 : Option Value} {l6 : Option Value} : Go d 307 23 [some (.ref a0), some (.int x1), some (.int x2), some (.int x3), l4, l5, l6] [] h Q ↔ (if (ii 24) ≤ x3 then (Go d 307 44 [some (.ref a0), some (.int x1), some (.int x2), some (.int (ii 0)), l4, l5, l6] [] h Q) else (okF h a0 12 70 2 ∧ (64 ≤ (fR h a0 70) ∧ okA h (fR h a0 70) .int x3) ∧ Go d 307 23 [some (.ref a0), some (.int x1), some (.int x2), some (.int (x3 + ii 1)), l4, l5, l6] [] (sI h (fR h a0 70) x3 (ii 0)) Q)) := by
  refine (G_iload rfl (mF fc307 (by rfl))).trans ?_
  refine (G_iconst (mF fc307 (by rfl))).trans ?_
  refine (G_ige (mF fc307 (by rfl))).trans (gi ?_ ?_)
  ·
    refine (G_iconst (mF fc307 (by rfl))).trans ?_
    refine (G_istore (k := 3) (L' := [some (.ref a0), some (.int x1), some (.int x2), some (.int (ii 0)), l4, l5, l6]) rfl (ltb rfl) rfl (mF fc307 (by rfl))).trans ?_
    exact Iff.rfl
  ·
    refine (G_aload rfl (mF fc307 (by rfl))).trans ?_
    refine (G_getR (c := 12) (k := 70) rfl rfl rfl (mF fc307 (by rfl))).trans (andR ?_)
    refine (G_iload rfl (mF fc307 (by rfl))).trans ?_
    refine (G_iconst (mF fc307 (by rfl))).trans ?_
    refine (G_iastore (mF fc307 (by rfl))).trans (andR ?_)
    refine (G_iinc (k := 3) (L' := [some (.ref a0), some (.int x1), some (.int x2), some (.int (x3 + ii 1)), l4, l5, l6]) rfl rfl rfl (mF fc307 (by rfl))).trans ?_
    refine (G_goto (mF fc307 (by rfl))).trans ?_
    exact Iff.rfl
theorem b307_44 {d : Nat} {h : mHeap} {Q : Option Value → mHeap → Prop} {a0 : Nat} {x1 : Int32} {x2 : Int32} {x3 : Int32} {l4 : Option Value} {l5 : Option Value} {l6 : Option Value} : Go d 307 44 [some (.ref a0), some (.int x1), some (.int x2), some (.int x3), l4, l5, l6] [] h Q ↔ oC h a0 = 12 ∧ GoCi d 304 [.ref a0] h (fun v1 h1 => (if (shl (ii 1) v1) ≤ x3 then (Go d 307 124 [some (.ref a0), some (.int x1), some (.int x2), some (.int (ii (-2))), some (.int (ii (-2))), some (.int (ii 0)), l6] [] h1 Q) else (oC h1 a0 = 12 ∧ GoCi d 305 [.ref a0, .int x3] h1 (fun v2 h2 => (if v2 = ii 0 then (Go d 307 108 [some (.ref a0), some (.int x1), some (.int x2), some (.int x3), l4, l5, l6] [] h2 Q) else (Go d 307 68 [some (.ref a0), some (.int x1), some (.int (x2 + ii 1)), some (.int x3), some (.int (ii 0)), l5, l6] [] h2 Q)))))) := by
  refine (G_iload rfl (mF fc307 (by rfl))).trans ?_
  refine (G_iconst (mF fc307 (by rfl))).trans ?_
  refine (G_aload rfl (mF fc307 (by rfl))).trans ?_
  refine (G_Vi (q := 155841) (y := 304) (a := a0) (c := 12) rfl rfl rfl rfl (by decide) rfl (as := [.ref a0]) (rest := [.int (ii 1), .int x3]) rfl rfl (mF fc307 (by rfl))).trans (andR (GoCi_congr fun v1 h1 => ?_))
  refine (G_ishl (mF fc307 (by rfl))).trans ?_
  refine (G_ige (mF fc307 (by rfl))).trans (gi ?_ ?_)
  ·
    refine (G_iconst (mF fc307 (by rfl))).trans ?_
    refine (G_istore (k := 3) (L' := [some (.ref a0), some (.int x1), some (.int x2), some (.int (ii (-2))), l4, l5, l6]) rfl (ltb rfl) rfl (mF fc307 (by rfl))).trans ?_
    refine (G_iconst (mF fc307 (by rfl))).trans ?_
    refine (G_istore (k := 4) (L' := [some (.ref a0), some (.int x1), some (.int x2), some (.int (ii (-2))), some (.int (ii (-2))), l5, l6]) rfl (ltb rfl) rfl (mF fc307 (by rfl))).trans ?_
    refine (G_iconst (mF fc307 (by rfl))).trans ?_
    refine (G_istore (k := 5) (L' := [some (.ref a0), some (.int x1), some (.int x2), some (.int (ii (-2))), some (.int (ii (-2))), some (.int (ii 0)), l6]) rfl (ltb rfl) rfl (mF fc307 (by rfl))).trans ?_
    exact Iff.rfl
  ·
    refine (G_aload rfl (mF fc307 (by rfl))).trans ?_
    refine (G_iload rfl (mF fc307 (by rfl))).trans ?_
    refine (G_Vi (q := 156354) (y := 305) (a := a0) (c := 12) rfl rfl rfl rfl (by decide) rfl (as := [.ref a0, .int x3]) (rest := []) rfl rfl (mF fc307 (by rfl))).trans (andR (GoCi_congr fun v2 h2 => ?_))
    refine (G_eq (mF fc307 (by rfl))).trans (gi ?_ ?_)
    ·
      exact Iff.rfl
    ·
      refine (G_iinc (k := 2) (L' := [some (.ref a0), some (.int x1), some (.int (x2 + ii 1)), some (.int x3), l4, l5, l6]) rfl rfl rfl (mF fc307 (by rfl))).trans ?_
      refine (G_iconst (mF fc307 (by rfl))).trans ?_
      refine (G_istore (k := 4) (L' := [some (.ref a0), some (.int x1), some (.int (x2 + ii 1)), some (.int x3), some (.int (ii 0)), l5, l6]) rfl (ltb rfl) rfl (mF fc307 (by rfl))).trans ?_
      exact Iff.rfl
theorem b307_68 {d : Nat} {h : mHeap} {Q : Option Value → mHeap → Prop} {a0 : Nat} {x1 : Int32} {x2 : Int32} {x3 : Int32} {x4 : Int32} {l5 : Option Value} {l6 : Option Value} : Go d 307 68 [some (.ref a0), some (.int x1), some (.int x2), some (.int x3), some (.int x4), l5, l6] [] h Q ↔ okF h a0 12 32 0 ∧ (if (fI h a0 32) ≤ x4 then (Go d 307 108 [some (.ref a0), some (.int x1), some (.int x2), some (.int x3), some (.int x4), l5, l6] [] h Q) else (okF h a0 12 70 2 ∧ okA h (fR h a0 70) .int x4 ∧ oC h a0 = 12 ∧ GoCi d 283 [.ref a0, .int x3, .int x4] h (fun v1 h1 => (if v1 = ii 0 then (Go d 307 100 [some (.ref a0), some (.int x1), some (.int x2), some (.int x3), some (.int x4), l5, l6] [.int (ii 0), .int (eI h (fR h a0 70) x4), .int x4, .ref (fR h a0 70)] h1 Q) else (Go d 307 100 [some (.ref a0), some (.int x1), some (.int x2), some (.int x3), some (.int x4), l5, l6] [.int (ii 1), .int (eI h (fR h a0 70) x4), .int x4, .ref (fR h a0 70)] h1 Q))))) := by
  refine (G_iload rfl (mF fc307 (by rfl))).trans ?_
  refine (G_aload rfl (mF fc307 (by rfl))).trans ?_
  refine (G_getI (c := 12) (k := 32) rfl rfl rfl (mF fc307 (by rfl))).trans (andR ?_)
  refine (G_ige (mF fc307 (by rfl))).trans (gi ?_ ?_)
  ·
    exact Iff.rfl
  ·
    refine (G_aload rfl (mF fc307 (by rfl))).trans ?_
    refine (G_getR (c := 12) (k := 70) rfl rfl rfl (mF fc307 (by rfl))).trans (andR ?_)
    refine (G_iload rfl (mF fc307 (by rfl))).trans ?_
    refine (G_dup2r (mF fc307 (by rfl))).trans ?_
    refine (G_iaload (mF fc307 (by rfl))).trans (andR ?_)
    refine (G_aload rfl (mF fc307 (by rfl))).trans ?_
    refine (G_iload rfl (mF fc307 (by rfl))).trans ?_
    refine (G_iload rfl (mF fc307 (by rfl))).trans ?_
    refine (G_Vi (q := 145091) (y := 283) (a := a0) (c := 12) rfl rfl rfl rfl (by decide) rfl (as := [.ref a0, .int x3, .int x4]) (rest := [.int (eI h (fR h a0 70) x4), .int x4, .ref (fR h a0 70)]) rfl rfl (mF fc307 (by rfl))).trans (andR (GoCi_congr fun v1 h1 => ?_))
    refine (G_eq (mF fc307 (by rfl))).trans (gi ?_ ?_)
    ·
      refine (G_iconst (mF fc307 (by rfl))).trans ?_
      exact Iff.rfl
    ·
      refine (G_iconst (mF fc307 (by rfl))).trans ?_
      refine (G_goto (mF fc307 (by rfl))).trans ?_
      exact Iff.rfl
theorem b307_100 {d : Nat} {h : mHeap} {Q : Option Value → mHeap → Prop} {a0 : Nat} {x1 : Int32} {x2 : Int32} {x3 : Int32} {x4 : Int32} {l5 : Option Value} {l6 : Option Value} {r0 : Nat} {s1 : Int32} {s2 : Int32} {s3 : Int32} : Go d 307 100 [some (.ref a0), some (.int x1), some (.int x2), some (.int x3), some (.int x4), l5, l6] [.int s3, .int s2, .int s1, .ref r0] h Q ↔ (64 ≤ r0 ∧ okA h r0 .int s1) ∧ Go d 307 68 [some (.ref a0), some (.int x1), some (.int x2), some (.int x3), some (.int (x4 + ii 1)), l5, l6] [] (sI h r0 s1 (s2 + s3)) Q := by
  refine (G_iadd (mF fc307 (by rfl))).trans ?_
  refine (G_iastore (mF fc307 (by rfl))).trans (andR ?_)
  refine (G_iinc (k := 4) (L' := [some (.ref a0), some (.int x1), some (.int x2), some (.int x3), some (.int (x4 + ii 1)), l5, l6]) rfl rfl rfl (mF fc307 (by rfl))).trans ?_
  refine (G_goto (mF fc307 (by rfl))).trans ?_
  exact Iff.rfl
theorem b307_108 {d : Nat} {h : mHeap} {Q : Option Value → mHeap → Prop} {a0 : Nat} {x1 : Int32} {x2 : Int32} {x3 : Int32} {l4 : Option Value} {l5 : Option Value} {l6 : Option Value} : Go d 307 108 [some (.ref a0), some (.int x1), some (.int x2), some (.int x3), l4, l5, l6] [] h Q ↔ Go d 307 44 [some (.ref a0), some (.int x1), some (.int x2), some (.int (x3 + ii 1)), l4, l5, l6] [] h Q := by
  refine (G_iinc (k := 3) (L' := [some (.ref a0), some (.int x1), some (.int x2), some (.int (x3 + ii 1)), l4, l5, l6]) rfl rfl rfl (mF fc307 (by rfl))).trans ?_
  refine (G_goto (mF fc307 (by rfl))).trans ?_
  exact Iff.rfl
theorem b307_124 {d : Nat} {h : mHeap} {Q : Option Value → mHeap → Prop} {a0 : Nat} {x1 : Int32} {x2 : Int32} {x3 : Int32} {x4 : Int32} {x5 : Int32} {l6 : Option Value} : Go d 307 124 [some (.ref a0), some (.int x1), some (.int x2), some (.int x3), some (.int x4), some (.int x5), l6] [] h Q ↔ okF h a0 12 32 0 ∧ (if (fI h a0 32) ≤ x5 then (Go d 307 203 [some (.ref a0), some (.int x1), some (.int x2), some (.int x3), some (.int x4), some (.int x5), l6] [] h Q) else ((if x2 ≤ ii 0 then (Go d 307 203 [some (.ref a0), some (.int x1), some (.int x2), some (.int x3), some (.int x4), some (.int x5), l6] [] h Q) else (okF h a0 12 70 2 ∧ okA h (fR h a0 70) .int x5 ∧ okF h a0 12 70 2 ∧ okA h (fR h a0 70) .int x5 ∧ (if (eI h (fR h a0 70) x5) ≤ (x2 - (eI h (fR h a0 70) x5)) then (okF h a0 12 70 2 ∧ okA h (fR h a0 70) .int x5 ∧ Go d 307 175 [some (.ref a0), some (.int x1), some (.int x2), some (.int x3), some (.int x4), some (.int x5), l6] [.int (x2 - (eI h (fR h a0 70) x5))] h Q) else (okF h a0 12 70 2 ∧ okA h (fR h a0 70) .int x5 ∧ Go d 307 175 [some (.ref a0), some (.int x1), some (.int x2), some (.int x3), some (.int x4), some (.int x5), l6] [.int (eI h (fR h a0 70) x5)] h Q)))))) := by
  refine (G_iload rfl (mF fc307 (by rfl))).trans ?_
  refine (G_aload rfl (mF fc307 (by rfl))).trans ?_
  refine (G_getI (c := 12) (k := 32) rfl rfl rfl (mF fc307 (by rfl))).trans (andR ?_)
  refine (G_ige (mF fc307 (by rfl))).trans (gi ?_ ?_)
  ·
    exact Iff.rfl
  ·
    refine (G_iload rfl (mF fc307 (by rfl))).trans ?_
    refine (G_le (mF fc307 (by rfl))).trans (gi ?_ ?_)
    ·
      exact Iff.rfl
    ·
      refine (G_aload rfl (mF fc307 (by rfl))).trans ?_
      refine (G_getR (c := 12) (k := 70) rfl rfl rfl (mF fc307 (by rfl))).trans (andR ?_)
      refine (G_iload rfl (mF fc307 (by rfl))).trans ?_
      refine (G_iaload (mF fc307 (by rfl))).trans (andR ?_)
      refine (G_iload rfl (mF fc307 (by rfl))).trans ?_
      refine (G_aload rfl (mF fc307 (by rfl))).trans ?_
      refine (G_getR (c := 12) (k := 70) rfl rfl rfl (mF fc307 (by rfl))).trans (andR ?_)
      refine (G_iload rfl (mF fc307 (by rfl))).trans ?_
      refine (G_iaload (mF fc307 (by rfl))).trans (andR ?_)
      refine (G_isub (mF fc307 (by rfl))).trans ?_
      refine (G_ile (mF fc307 (by rfl))).trans (gi ?_ ?_)
      ·
        refine (G_iload rfl (mF fc307 (by rfl))).trans ?_
        refine (G_aload rfl (mF fc307 (by rfl))).trans ?_
        refine (G_getR (c := 12) (k := 70) rfl rfl rfl (mF fc307 (by rfl))).trans (andR ?_)
        refine (G_iload rfl (mF fc307 (by rfl))).trans ?_
        refine (G_iaload (mF fc307 (by rfl))).trans (andR ?_)
        refine (G_isub (mF fc307 (by rfl))).trans ?_
        exact Iff.rfl
      ·
        refine (G_aload rfl (mF fc307 (by rfl))).trans ?_
        refine (G_getR (c := 12) (k := 70) rfl rfl rfl (mF fc307 (by rfl))).trans (andR ?_)
        refine (G_iload rfl (mF fc307 (by rfl))).trans ?_
        refine (G_iaload (mF fc307 (by rfl))).trans (andR ?_)
        refine (G_goto (mF fc307 (by rfl))).trans ?_
        exact Iff.rfl
theorem b307_175 {d : Nat} {h : mHeap} {Q : Option Value → mHeap → Prop} {a0 : Nat} {x1 : Int32} {x2 : Int32} {x3 : Int32} {x4 : Int32} {x5 : Int32} {l6 : Option Value} {s0 : Int32} : Go d 307 175 [some (.ref a0), some (.int x1), some (.int x2), some (.int x3), some (.int x4), some (.int x5), l6] [.int s0] h Q ↔ (if x3 = (ii (-2)) then (Go d 307 190 [some (.ref a0), some (.int x1), some (.int x2), some (.int x3), some (.int x4), some (.int x5), some (.int s0)] [] h Q) else ((if x4 ≤ s0 then (Go d 307 197 [some (.ref a0), some (.int x1), some (.int x2), some (.int x3), some (.int x4), some (.int x5), some (.int s0)] [] h Q) else (Go d 307 190 [some (.ref a0), some (.int x1), some (.int x2), some (.int x3), some (.int x4), some (.int x5), some (.int s0)] [] h Q)))) := by
  refine (G_istore (k := 6) (L' := [some (.ref a0), some (.int x1), some (.int x2), some (.int x3), some (.int x4), some (.int x5), some (.int s0)]) rfl (ltb rfl) rfl (mF fc307 (by rfl))).trans ?_
  refine (G_iload rfl (mF fc307 (by rfl))).trans ?_
  refine (G_iconst (mF fc307 (by rfl))).trans ?_
  refine (G_ieq (mF fc307 (by rfl))).trans (gi ?_ ?_)
  ·
    exact Iff.rfl
  ·
    refine (G_iload rfl (mF fc307 (by rfl))).trans ?_
    refine (G_iload rfl (mF fc307 (by rfl))).trans ?_
    refine (G_ige (mF fc307 (by rfl))).trans (gi ?_ ?_)
    ·
      exact Iff.rfl
    ·
      exact Iff.rfl
theorem b307_190 {d : Nat} {h : mHeap} {Q : Option Value → mHeap → Prop} {a0 : Nat} {x1 : Int32} {x2 : Int32} {l3 : Option Value} {l4 : Option Value} {x5 : Int32} {x6 : Int32} : Go d 307 190 [some (.ref a0), some (.int x1), some (.int x2), l3, l4, some (.int x5), some (.int x6)] [] h Q ↔ Go d 307 197 [some (.ref a0), some (.int x1), some (.int x2), some (.int x5), some (.int x6), some (.int x5), some (.int x6)] [] h Q := by
  refine (G_iload rfl (mF fc307 (by rfl))).trans ?_
  refine (G_istore (k := 3) (L' := [some (.ref a0), some (.int x1), some (.int x2), some (.int x5), l4, some (.int x5), some (.int x6)]) rfl (ltb rfl) rfl (mF fc307 (by rfl))).trans ?_
  refine (G_iload rfl (mF fc307 (by rfl))).trans ?_
  refine (G_istore (k := 4) (L' := [some (.ref a0), some (.int x1), some (.int x2), some (.int x5), some (.int x6), some (.int x5), some (.int x6)]) rfl (ltb rfl) rfl (mF fc307 (by rfl))).trans ?_
  exact Iff.rfl
theorem b307_197 {d : Nat} {h : mHeap} {Q : Option Value → mHeap → Prop} {a0 : Nat} {x1 : Int32} {x2 : Int32} {x3 : Int32} {x4 : Int32} {x5 : Int32} {l6 : Option Value} : Go d 307 197 [some (.ref a0), some (.int x1), some (.int x2), some (.int x3), some (.int x4), some (.int x5), l6] [] h Q ↔ Go d 307 124 [some (.ref a0), some (.int x1), some (.int x2), some (.int x3), some (.int x4), some (.int (x5 + ii 1)), l6] [] h Q := by
  refine (G_iinc (k := 5) (L' := [some (.ref a0), some (.int x1), some (.int x2), some (.int x3), some (.int x4), some (.int (x5 + ii 1)), l6]) rfl rfl rfl (mF fc307 (by rfl))).trans ?_
  refine (G_goto (mF fc307 (by rfl))).trans ?_
  exact Iff.rfl
theorem b307_203 {d : Nat} {h : mHeap} {Q : Option Value → mHeap → Prop} {l0 : Option Value} {x1 : Int32} {l2 : Option Value} {x3 : Int32} {x4 : Int32} {l5 : Option Value} {l6 : Option Value} : Go d 307 203 [l0, some (.int x1), l2, some (.int x3), some (.int x4), l5, l6] [] h Q ↔ (if ¬ x1 = ii 0 then (Q (some (.int x4)) h) else (Q (some (.int x3)) h)) := by
  refine (G_iload rfl (mF fc307 (by rfl))).trans ?_
  refine (G_ne (mF fc307 (by rfl))).trans (gi ?_ ?_)
  ·
    refine (G_iload rfl (mF fc307 (by rfl))).trans ?_
    exact G_ireturnI rfl (mF fc307 (by rfl))
  ·
    refine (G_iload rfl (mF fc307 (by rfl))).trans ?_
    refine (G_goto (mF fc307 (by rfl))).trans ?_
    exact G_ireturnI rfl (mF fc307 (by rfl))
theorem e307 {d : Nat} {h : mHeap} {K : Int32 → mHeap → Prop} {a0 : Nat} {x1 : Int32} : GoCi (d + 1) 307 [.ref a0, .int x1] h K ↔ Go d 307 0 [some (.ref a0), some (.int x1), none, none, none, none, none] [] h (rI K) := GoCi_entry rfl rfl
set_option maxRecDepth 20000 in
theorem fc308 : mCodes[308]? = some mc308 := rfl
theorem b308_0 {d : Nat} {h : mHeap} {Q : Option Value → mHeap → Prop} {a0 : Nat} {x1 : Int32} : Go d 308 0 [some (.ref a0), some (.int x1), none] [] h Q ↔ (if ii 0 ≤ x1 then (okF h a0 12 1 2 ∧ okA h (fR h a0 1) .int (ii 8) ∧ okF h a0 12 1 2 ∧ (64 ≤ (fR h a0 1) ∧ okA h (fR h a0 1) .int (ii 8)) ∧ Q (some (.int (eI h (fR h a0 1) (ii 8)))) (sI h (fR h a0 1) (ii 8) x1)) else (Q (some (.int (ii (-1)))) h)) := by
  refine (G_iload rfl (mF fc308 (by rfl))).trans ?_
  refine (G_ge (mF fc308 (by rfl))).trans (gi ?_ ?_)
  ·
    refine (G_aload rfl (mF fc308 (by rfl))).trans ?_
    refine (G_getR (c := 12) (k := 1) rfl rfl rfl (mF fc308 (by rfl))).trans (andR ?_)
    refine (G_iconst (mF fc308 (by rfl))).trans ?_
    refine (G_iaload (mF fc308 (by rfl))).trans (andR ?_)
    refine (G_istore (k := 2) (L' := [some (.ref a0), some (.int x1), some (.int (eI h (fR h a0 1) (ii 8)))]) rfl (ltb rfl) rfl (mF fc308 (by rfl))).trans ?_
    refine (G_aload rfl (mF fc308 (by rfl))).trans ?_
    refine (G_getR (c := 12) (k := 1) rfl rfl rfl (mF fc308 (by rfl))).trans (andR ?_)
    refine (G_iconst (mF fc308 (by rfl))).trans ?_
    refine (G_iload rfl (mF fc308 (by rfl))).trans ?_
    refine (G_iastore (mF fc308 (by rfl))).trans (andR ?_)
    refine (G_iload rfl (mF fc308 (by rfl))).trans ?_
    exact G_ireturnI rfl (mF fc308 (by rfl))
  ·
    refine (G_iconst (mF fc308 (by rfl))).trans ?_
    exact G_ireturnI rfl (mF fc308 (by rfl))
theorem e308 {d : Nat} {h : mHeap} {K : Int32 → mHeap → Prop} {a0 : Nat} {x1 : Int32} : GoCi (d + 1) 308 [.ref a0, .int x1] h K ↔ Go d 308 0 [some (.ref a0), some (.int x1), none] [] h (rI K) := GoCi_entry rfl rfl
set_option maxRecDepth 20000 in
theorem fc309 : mCodes[309]? = some mc309 := rfl
theorem b309_0 {d : Nat} {h : mHeap} {Q : Option Value → mHeap → Prop} {a0 : Nat} {x1 : Int32} : Go d 309 0 [some (.ref a0), some (.int x1)] [] h Q ↔ okF h a0 12 1 2 ∧ okF h a0 12 1 2 ∧ okA h (fR h a0 1) .int (ii 8) ∧ (¬ (jj 2147483648) = jj 0) ∧ (64 ≤ (fR h a0 1) ∧ okA h (fR h a0 1) .int (ii 8)) ∧ okF (sI h (fR h a0 1) (ii 8) ((lrm ((((eI h (fR h a0 1) (ii 8)).toInt64) * (jj 1103515245)) + (jj 12345)) (jj 2147483648)).toInt32)) a0 12 1 2 ∧ okA (sI h (fR h a0 1) (ii 8) ((lrm ((((eI h (fR h a0 1) (ii 8)).toInt64) * (jj 1103515245)) + (jj 12345)) (jj 2147483648)).toInt32)) (fR (sI h (fR h a0 1) (ii 8) ((lrm ((((eI h (fR h a0 1) (ii 8)).toInt64) * (jj 1103515245)) + (jj 12345)) (jj 2147483648)).toInt32)) a0 1) .int (ii 8) ∧ (¬ (ii 65536) = ii 0) ∧ (¬ x1 = ii 0) ∧ Q (some (.int (irm ((eI (sI h (fR h a0 1) (ii 8) ((lrm ((((eI h (fR h a0 1) (ii 8)).toInt64) * (jj 1103515245)) + (jj 12345)) (jj 2147483648)).toInt32)) (fR (sI h (fR h a0 1) (ii 8) ((lrm ((((eI h (fR h a0 1) (ii 8)).toInt64) * (jj 1103515245)) + (jj 12345)) (jj 2147483648)).toInt32)) a0 1) (ii 8)) / (ii 65536)) x1))) (sI h (fR h a0 1) (ii 8) ((lrm ((((eI h (fR h a0 1) (ii 8)).toInt64) * (jj 1103515245)) + (jj 12345)) (jj 2147483648)).toInt32)) := by
  refine (G_aload rfl (mF fc309 (by rfl))).trans ?_
  refine (G_getR (c := 12) (k := 1) rfl rfl rfl (mF fc309 (by rfl))).trans (andR ?_)
  refine (G_iconst (mF fc309 (by rfl))).trans ?_
  refine (G_aload rfl (mF fc309 (by rfl))).trans ?_
  refine (G_getR (c := 12) (k := 1) rfl rfl rfl (mF fc309 (by rfl))).trans (andR ?_)
  refine (G_iconst (mF fc309 (by rfl))).trans ?_
  refine (G_iaload (mF fc309 (by rfl))).trans (andR ?_)
  refine (G_i2l (mF fc309 (by rfl))).trans ?_
  refine (G_jsr_w (mF fc309 (by rfl))).trans ?_
  refine (G_lmul (mF fc309 (by rfl))).trans ?_
  refine (G_jsr_w (mF fc309 (by rfl))).trans ?_
  refine (G_ladd (mF fc309 (by rfl))).trans ?_
  refine (G_jsr_w (mF fc309 (by rfl))).trans ?_
  refine (G_lrem (mF fc309 (by rfl))).trans (andR ?_)
  refine (G_l2i (mF fc309 (by rfl))).trans ?_
  refine (G_iastore (mF fc309 (by rfl))).trans (andR ?_)
  refine (G_aload rfl (mF fc309 (by rfl))).trans ?_
  refine (G_getR (c := 12) (k := 1) rfl rfl rfl (mF fc309 (by rfl))).trans (andR ?_)
  refine (G_iconst (mF fc309 (by rfl))).trans ?_
  refine (G_iaload (mF fc309 (by rfl))).trans (andR ?_)
  refine (G_iconst (mF fc309 (by rfl))).trans ?_
  refine (G_idiv (mF fc309 (by rfl))).trans (andR ?_)
  refine (G_iload rfl (mF fc309 (by rfl))).trans ?_
  refine (G_irem (mF fc309 (by rfl))).trans (andR ?_)
  exact G_ireturnI rfl (mF fc309 (by rfl))
theorem e309 {d : Nat} {h : mHeap} {K : Int32 → mHeap → Prop} {a0 : Nat} {x1 : Int32} : GoCi (d + 1) 309 [.ref a0, .int x1] h K ↔ Go d 309 0 [some (.ref a0), some (.int x1)] [] h (rI K) := GoCi_entry rfl rfl
set_option maxRecDepth 20000 in
theorem fc310 : mCodes[310]? = some mc310 := rfl
theorem b310_0 {d : Nat} {h : mHeap} {Q : Option Value → mHeap → Prop} {a0 : Nat} {x1 : Int32} : Go d 310 0 [some (.ref a0), some (.int x1), none, none, none] [] h Q ↔ Go d 310 2 [some (.ref a0), some (.int x1), some (.int (ii 0)), none, none] [] h Q := by
  refine (G_iconst (mF fc310 (by rfl))).trans ?_
  refine (G_istore (k := 2) (L' := [some (.ref a0), some (.int x1), some (.int (ii 0)), none, none]) rfl (ltb rfl) rfl (mF fc310 (by rfl))).trans ?_
  exact Iff.rfl
theorem b310_2 {d : Nat} {h : mHeap} {Q : Option Value → mHeap → Prop} {a0 : Nat} {x1 : Int32} {x2 : Int32} {l3 : Option Value} {l4 : Option Value} : Go d 310 2 [some (.ref a0), some (.int x1), some (.int x2), l3, l4] [] h Q ↔ (if x1 ≤ x2 then (Q none h) else (Go d 310 9 [some (.ref a0), some (.int x1), some (.int x2), some (.int (ii 0)), l4] [] h Q)) := by
  refine (G_iload rfl (mF fc310 (by rfl))).trans ?_
  refine (G_iload rfl (mF fc310 (by rfl))).trans ?_
  refine (G_ige (mF fc310 (by rfl))).trans (gi ?_ ?_)
  ·
    exact G_return rfl (mF fc310 (by rfl))
  ·
    refine (G_iconst (mF fc310 (by rfl))).trans ?_
    refine (G_istore (k := 3) (L' := [some (.ref a0), some (.int x1), some (.int x2), some (.int (ii 0)), l4]) rfl (ltb rfl) rfl (mF fc310 (by rfl))).trans ?_
    exact Iff.rfl
theorem b310_9 {d : Nat} {h : mHeap} {Q : Option Value → mHeap → Prop} {a0 : Nat} {x1 : Int32} {x2 : Int32} {x3 : Int32} {l4 : Option Value} : Go d 310 9 [some (.ref a0), some (.int x1), some (.int x2), some (.int x3), l4] [] h Q ↔ okF h a0 12 1 2 ∧ okA h (fR h a0 1) .int (ii 2) ∧ (if (eI h (fR h a0 1) (ii 2)) ≤ x3 then (Go d 310 96 [some (.ref a0), some (.int x1), some (.int x2), some (.int x3), l4] [] h Q) else (okF h a0 12 32 0 ∧ (if (fI h a0 32) ≤ ii 0 then (Go d 310 96 [some (.ref a0), some (.int x1), some (.int x2), some (.int x3), l4] [] h Q) else (okF h a0 12 6 2 ∧ okA h (fR h a0 6) .int x3 ∧ (if ¬ (eI h (fR h a0 6) x3) = ii 0 then (Go d 310 90 [some (.ref a0), some (.int x1), some (.int x2), some (.int x3), l4] [] h Q) else (okF h a0 12 32 0 ∧ oC h a0 = 12 ∧ GoCi d 309 [.ref a0, .int (fI h a0 32)] h (fun v1 h1 => oC h1 a0 = 12 ∧ GoCi d 272 [.ref a0, .int x3, .int v1] h1 (fun v2 h2 => okF h2 a0 12 71 0 ∧ (if ¬ v2 = (ii 3) then (Go d 310 66 [some (.ref a0), some (.int x1), some (.int x2), some (.int x3), some (.int v2)] [.int (ii 0), .int (fI h2 a0 71), .ref a0] h2 Q) else (Go d 310 66 [some (.ref a0), some (.int x1), some (.int x2), some (.int x3), some (.int v2)] [.int (ii 1), .int (fI h2 a0 71), .ref a0] h2 Q)))))))))) := by
  refine (G_iload rfl (mF fc310 (by rfl))).trans ?_
  refine (G_aload rfl (mF fc310 (by rfl))).trans ?_
  refine (G_getR (c := 12) (k := 1) rfl rfl rfl (mF fc310 (by rfl))).trans (andR ?_)
  refine (G_iconst (mF fc310 (by rfl))).trans ?_
  refine (G_iaload (mF fc310 (by rfl))).trans (andR ?_)
  refine (G_ige (mF fc310 (by rfl))).trans (gi ?_ ?_)
  ·
    exact Iff.rfl
  ·
    refine (G_aload rfl (mF fc310 (by rfl))).trans ?_
    refine (G_getI (c := 12) (k := 32) rfl rfl rfl (mF fc310 (by rfl))).trans (andR ?_)
    refine (G_le (mF fc310 (by rfl))).trans (gi ?_ ?_)
    ·
      exact Iff.rfl
    ·
      refine (G_aload rfl (mF fc310 (by rfl))).trans ?_
      refine (G_getR (c := 12) (k := 6) rfl rfl rfl (mF fc310 (by rfl))).trans (andR ?_)
      refine (G_iload rfl (mF fc310 (by rfl))).trans ?_
      refine (G_iaload (mF fc310 (by rfl))).trans (andR ?_)
      refine (G_ne (mF fc310 (by rfl))).trans (gi ?_ ?_)
      ·
        exact Iff.rfl
      ·
        refine (G_aload rfl (mF fc310 (by rfl))).trans ?_
        refine (G_iload rfl (mF fc310 (by rfl))).trans ?_
        refine (G_aload rfl (mF fc310 (by rfl))).trans ?_
        refine (G_aload rfl (mF fc310 (by rfl))).trans ?_
        refine (G_getI (c := 12) (k := 32) rfl rfl rfl (mF fc310 (by rfl))).trans (andR ?_)
        refine (G_Vi (q := 158402) (y := 309) (a := a0) (c := 12) rfl rfl rfl rfl (by decide) rfl (as := [.ref a0, .int (fI h a0 32)]) (rest := [.int x3, .ref a0]) rfl rfl (mF fc310 (by rfl))).trans (andR (GoCi_congr fun v1 h1 => ?_))
        refine (G_Vi (q := 139459) (y := 272) (a := a0) (c := 12) rfl rfl rfl rfl (by decide) rfl (as := [.ref a0, .int x3, .int v1]) (rest := []) rfl rfl (mF fc310 (by rfl))).trans (andR (GoCi_congr fun v2 h2 => ?_))
        refine (G_istore (k := 4) (L' := [some (.ref a0), some (.int x1), some (.int x2), some (.int x3), some (.int v2)]) rfl (ltb rfl) rfl (mF fc310 (by rfl))).trans ?_
        refine (G_aload rfl (mF fc310 (by rfl))).trans ?_
        refine (G_dupr (mF fc310 (by rfl))).trans ?_
        refine (G_getI (c := 12) (k := 71) rfl rfl rfl (mF fc310 (by rfl))).trans (andR ?_)
        refine (G_iload rfl (mF fc310 (by rfl))).trans ?_
        refine (G_iconst (mF fc310 (by rfl))).trans ?_
        refine (G_ine (mF fc310 (by rfl))).trans (gi ?_ ?_)
        ·
          refine (G_iconst (mF fc310 (by rfl))).trans ?_
          exact Iff.rfl
        ·
          refine (G_iconst (mF fc310 (by rfl))).trans ?_
          refine (G_goto (mF fc310 (by rfl))).trans ?_
          exact Iff.rfl
theorem b310_66 {d : Nat} {h : mHeap} {Q : Option Value → mHeap → Prop} {a0 : Nat} {x1 : Int32} {x2 : Int32} {x3 : Int32} {x4 : Int32} {r0 : Nat} {s1 : Int32} {s2 : Int32} : Go d 310 66 [some (.ref a0), some (.int x1), some (.int x2), some (.int x3), some (.int x4)] [.int s2, .int s1, .ref r0] h Q ↔ okP h r0 12 71 ∧ okF (sF h r0 71 (.int (s1 + s2))) a0 12 72 0 ∧ (if (ii 2) ≤ x4 then (Go d 310 86 [some (.ref a0), some (.int x1), some (.int x2), some (.int x3), some (.int x4)] [.int (ii 0), .int (fI (sF h r0 71 (.int (s1 + s2))) a0 72), .ref a0] (sF h r0 71 (.int (s1 + s2))) Q) else (Go d 310 86 [some (.ref a0), some (.int x1), some (.int x2), some (.int x3), some (.int x4)] [.int (ii 1), .int (fI (sF h r0 71 (.int (s1 + s2))) a0 72), .ref a0] (sF h r0 71 (.int (s1 + s2))) Q)) := by
  refine (G_iadd (mF fc310 (by rfl))).trans ?_
  refine (G_putT (c := 12) (k := 71) rfl rfl rfl (mF fc310 (by rfl))).trans (andR ?_)
  refine (G_aload rfl (mF fc310 (by rfl))).trans ?_
  refine (G_dupr (mF fc310 (by rfl))).trans ?_
  refine (G_getI (c := 12) (k := 72) rfl rfl rfl (mF fc310 (by rfl))).trans (andR ?_)
  refine (G_iload rfl (mF fc310 (by rfl))).trans ?_
  refine (G_iconst (mF fc310 (by rfl))).trans ?_
  refine (G_ige (mF fc310 (by rfl))).trans (gi ?_ ?_)
  ·
    refine (G_iconst (mF fc310 (by rfl))).trans ?_
    exact Iff.rfl
  ·
    refine (G_iconst (mF fc310 (by rfl))).trans ?_
    refine (G_goto (mF fc310 (by rfl))).trans ?_
    exact Iff.rfl
theorem b310_86 {d : Nat} {h : mHeap} {Q : Option Value → mHeap → Prop} {a0 : Nat} {x1 : Int32} {x2 : Int32} {x3 : Int32} {l4 : Option Value} {r0 : Nat} {s1 : Int32} {s2 : Int32} : Go d 310 86 [some (.ref a0), some (.int x1), some (.int x2), some (.int x3), l4] [.int s2, .int s1, .ref r0] h Q ↔ okP h r0 12 72 ∧ Go d 310 90 [some (.ref a0), some (.int x1), some (.int x2), some (.int x3), l4] [] (sF h r0 72 (.int (s1 + s2))) Q := by
  refine (G_iadd (mF fc310 (by rfl))).trans ?_
  refine (G_putT (c := 12) (k := 72) rfl rfl rfl (mF fc310 (by rfl))).trans (andR ?_)
  exact Iff.rfl
theorem b310_90 {d : Nat} {h : mHeap} {Q : Option Value → mHeap → Prop} {a0 : Nat} {x1 : Int32} {x2 : Int32} {x3 : Int32} {l4 : Option Value} : Go d 310 90 [some (.ref a0), some (.int x1), some (.int x2), some (.int x3), l4] [] h Q ↔ Go d 310 9 [some (.ref a0), some (.int x1), some (.int x2), some (.int (x3 + ii 1)), l4] [] h Q := by
  refine (G_iinc (k := 3) (L' := [some (.ref a0), some (.int x1), some (.int x2), some (.int (x3 + ii 1)), l4]) rfl rfl rfl (mF fc310 (by rfl))).trans ?_
  refine (G_goto (mF fc310 (by rfl))).trans ?_
  exact Iff.rfl
theorem b310_96 {d : Nat} {h : mHeap} {Q : Option Value → mHeap → Prop} {a0 : Nat} {x1 : Int32} {x2 : Int32} {l3 : Option Value} {l4 : Option Value} : Go d 310 96 [some (.ref a0), some (.int x1), some (.int x2), l3, l4] [] h Q ↔ oC h a0 = 12 ∧ GoCv d 277 [.ref a0] h (fun h1 => Go d 310 2 [some (.ref a0), some (.int x1), some (.int (x2 + ii 1)), l3, l4] [] h1 Q) := by
  refine (G_aload rfl (mF fc310 (by rfl))).trans ?_
  refine (G_Vv (q := 142017) (y := 277) (a := a0) (c := 12) rfl rfl rfl rfl (by decide) rfl (as := [.ref a0]) (rest := []) rfl rfl (mF fc310 (by rfl))).trans (andR (GoCv_congr fun h1 => ?_))
  refine (G_iinc (k := 2) (L' := [some (.ref a0), some (.int x1), some (.int (x2 + ii 1)), l3, l4]) rfl rfl rfl (mF fc310 (by rfl))).trans ?_
  refine (G_goto (mF fc310 (by rfl))).trans ?_
  exact Iff.rfl
theorem e310 {d : Nat} {h : mHeap} {K : mHeap → Prop} {a0 : Nat} {x1 : Int32} : GoCv (d + 1) 310 [.ref a0, .int x1] h K ↔ Go d 310 0 [some (.ref a0), some (.int x1), none, none, none] [] h (rV K) := GoCv_entry rfl rfl
set_option maxRecDepth 20000 in
theorem fc311 : mCodes[311]? = some mc311 := rfl
theorem b311_0 {d : Nat} {h : mHeap} {Q : Option Value → mHeap → Prop} {a0 : Nat} {x1 : Int32} {x2 : Int32} {x3 : Int32} : Go d 311 0 [some (.ref a0), some (.int x1), some (.int x2), some (.int x3), none, none, none, none] [] h Q ↔ oC h a0 = 12 ∧ GoCi d 186 [.ref a0] h (fun v1 h1 => (if v1 = ii 0 then (Q (some (.int (ii (-1)))) h1) else (GoCi d 183 [.long x1.toInt64, .long (jj 1), .long (jj 10)] h1 (fun v2 h2 => (if v2 = ii 0 then (Q (some (.int (ii (-1)))) h2) else (GoCi d 183 [.long x2.toInt64, .long (jj 1), .long (jj 60)] h2 (fun v3 h3 => (if v3 = ii 0 then (Q (some (.int (ii (-1)))) h3) else (GoCi d 183 [.long x3.toInt64, .long (jj 0), .long (jj 2)] h3 (fun v4 h4 => (if ¬ v4 = ii 0 then (okF h4 a0 12 1 2 ∧ okA h4 (fR h4 a0 1) .int (ii 8) ∧ okP h4 a0 12 71 ∧ okP (sF h4 a0 71 (.int (ii 0))) a0 12 72 ∧ oC (sF (sF h4 a0 71 (.int (ii 0))) a0 72 (.int (ii 0))) a0 = 12 ∧ GoCv d 291 [.ref a0] (sF (sF h4 a0 71 (.int (ii 0))) a0 72 (.int (ii 0))) (fun h5 => Go d 311 78 [some (.ref a0), some (.int x1), some (.int x2), some (.int x3), some (.int (eI h4 (fR h4 a0 1) (ii 8))), some (.int (eI h4 (fR h4 a0 1) (ii 8))), some (.int (ii 0)), some (.int (ii 0))] [] h5 Q)) else (Q (some (.int (ii (-1)))) h4)))))))))))) := by
  refine (G_aload rfl (mF fc311 (by rfl))).trans ?_
  refine (G_Vi (q := 95425) (y := 186) (a := a0) (c := 12) rfl rfl rfl rfl (by decide) rfl (as := [.ref a0]) (rest := []) rfl rfl (mF fc311 (by rfl))).trans (andR (GoCi_congr fun v1 h1 => ?_))
  refine (G_eq (mF fc311 (by rfl))).trans (gi ?_ ?_)
  ·
    refine (G_iconst (mF fc311 (by rfl))).trans ?_
    exact G_ireturnI rfl (mF fc311 (by rfl))
  ·
    refine (G_iload rfl (mF fc311 (by rfl))).trans ?_
    refine (G_i2l (mF fc311 (by rfl))).trans ?_
    refine (G_jsr_w (mF fc311 (by rfl))).trans ?_
    refine (G_jsr_w (mF fc311 (by rfl))).trans ?_
    refine (G_Ti (q := 93891) (y := 183) rfl rfl rfl (as := [.long x1.toInt64, .long (jj 1), .long (jj 10)]) (rest := []) rfl rfl (mF fc311 (by rfl))).trans (GoCi_congr fun v2 h2 => ?_)
    refine (G_eq (mF fc311 (by rfl))).trans (gi ?_ ?_)
    ·
      refine (G_iconst (mF fc311 (by rfl))).trans ?_
      exact G_ireturnI rfl (mF fc311 (by rfl))
    ·
      refine (G_iload rfl (mF fc311 (by rfl))).trans ?_
      refine (G_i2l (mF fc311 (by rfl))).trans ?_
      refine (G_jsr_w (mF fc311 (by rfl))).trans ?_
      refine (G_jsr_w (mF fc311 (by rfl))).trans ?_
      refine (G_Ti (q := 93891) (y := 183) rfl rfl rfl (as := [.long x2.toInt64, .long (jj 1), .long (jj 60)]) (rest := []) rfl rfl (mF fc311 (by rfl))).trans (GoCi_congr fun v3 h3 => ?_)
      refine (G_eq (mF fc311 (by rfl))).trans (gi ?_ ?_)
      ·
        refine (G_iconst (mF fc311 (by rfl))).trans ?_
        exact G_ireturnI rfl (mF fc311 (by rfl))
      ·
        refine (G_iload rfl (mF fc311 (by rfl))).trans ?_
        refine (G_i2l (mF fc311 (by rfl))).trans ?_
        refine (G_jsr_w (mF fc311 (by rfl))).trans ?_
        refine (G_jsr_w (mF fc311 (by rfl))).trans ?_
        refine (G_Ti (q := 93891) (y := 183) rfl rfl rfl (as := [.long x3.toInt64, .long (jj 0), .long (jj 2)]) (rest := []) rfl rfl (mF fc311 (by rfl))).trans (GoCi_congr fun v4 h4 => ?_)
        refine (G_ne (mF fc311 (by rfl))).trans (gi ?_ ?_)
        ·
          refine (G_aload rfl (mF fc311 (by rfl))).trans ?_
          refine (G_getR (c := 12) (k := 1) rfl rfl rfl (mF fc311 (by rfl))).trans (andR ?_)
          refine (G_iconst (mF fc311 (by rfl))).trans ?_
          refine (G_iaload (mF fc311 (by rfl))).trans (andR ?_)
          refine (G_istore (k := 4) (L' := [some (.ref a0), some (.int x1), some (.int x2), some (.int x3), some (.int (eI h4 (fR h4 a0 1) (ii 8))), none, none, none]) rfl (ltb rfl) rfl (mF fc311 (by rfl))).trans ?_
          refine (G_iload rfl (mF fc311 (by rfl))).trans ?_
          refine (G_istore (k := 5) (L' := [some (.ref a0), some (.int x1), some (.int x2), some (.int x3), some (.int (eI h4 (fR h4 a0 1) (ii 8))), some (.int (eI h4 (fR h4 a0 1) (ii 8))), none, none]) rfl (ltb rfl) rfl (mF fc311 (by rfl))).trans ?_
          refine (G_aload rfl (mF fc311 (by rfl))).trans ?_
          refine (G_iconst (mF fc311 (by rfl))).trans ?_
          refine (G_putT (c := 12) (k := 71) rfl rfl rfl (mF fc311 (by rfl))).trans (andR ?_)
          refine (G_aload rfl (mF fc311 (by rfl))).trans ?_
          refine (G_iconst (mF fc311 (by rfl))).trans ?_
          refine (G_putT (c := 12) (k := 72) rfl rfl rfl (mF fc311 (by rfl))).trans (andR ?_)
          refine (G_iconst (mF fc311 (by rfl))).trans ?_
          refine (G_istore (k := 6) (L' := [some (.ref a0), some (.int x1), some (.int x2), some (.int x3), some (.int (eI h4 (fR h4 a0 1) (ii 8))), some (.int (eI h4 (fR h4 a0 1) (ii 8))), some (.int (ii 0)), none]) rfl (ltb rfl) rfl (mF fc311 (by rfl))).trans ?_
          refine (G_aload rfl (mF fc311 (by rfl))).trans ?_
          refine (G_Vv (q := 149185) (y := 291) (a := a0) (c := 12) rfl rfl rfl rfl (by decide) rfl (as := [.ref a0]) (rest := []) rfl rfl (mF fc311 (by rfl))).trans (andR (GoCv_congr fun h5 => ?_))
          refine (G_iconst (mF fc311 (by rfl))).trans ?_
          refine (G_istore (k := 7) (L' := [some (.ref a0), some (.int x1), some (.int x2), some (.int x3), some (.int (eI h4 (fR h4 a0 1) (ii 8))), some (.int (eI h4 (fR h4 a0 1) (ii 8))), some (.int (ii 0)), some (.int (ii 0))]) rfl (ltb rfl) rfl (mF fc311 (by rfl))).trans ?_
          exact Iff.rfl
        ·
          refine (G_iconst (mF fc311 (by rfl))).trans ?_
          exact G_ireturnI rfl (mF fc311 (by rfl))
theorem b311_78 {d : Nat} {h : mHeap} {Q : Option Value → mHeap → Prop} {a0 : Nat} {x1 : Int32} {x2 : Int32} {x3 : Int32} {x4 : Int32} {x5 : Int32} {x6 : Int32} {x7 : Int32} : Go d 311 78 [some (.ref a0), some (.int x1), some (.int x2), some (.int x3), some (.int x4), some (.int x5), some (.int x6), some (.int x7)] [] h Q ↔ (if x1 ≤ x7 then (okF h a0 12 1 2 ∧ (64 ≤ (fR h a0 1) ∧ okA h (fR h a0 1) .int (ii 8)) ∧ (if ¬ x3 = ii 0 then ((if ¬ x3 = (ii 1) then (Q (some (.int x6)) (sI h (fR h a0 1) (ii 8) x4)) else (okF (sI h (fR h a0 1) (ii 8) x4) a0 12 72 0 ∧ Q (some (.int (fI (sI h (fR h a0 1) (ii 8) x4) a0 72))) (sI h (fR h a0 1) (ii 8) x4)))) else (okF (sI h (fR h a0 1) (ii 8) x4) a0 12 71 0 ∧ Q (some (.int (fI (sI h (fR h a0 1) (ii 8) x4) a0 71))) (sI h (fR h a0 1) (ii 8) x4)))) else (okF h a0 12 1 2 ∧ (64 ≤ (fR h a0 1) ∧ okA h (fR h a0 1) .int (ii 8)) ∧ oC (sI h (fR h a0 1) (ii 8) x5) a0 = 12 ∧ GoCv d 310 [.ref a0, .int x2] (sI h (fR h a0 1) (ii 8) x5) (fun h1 => oC h1 a0 = 12 ∧ GoCi d 246 [.ref a0, .int (ii 6)] h1 (fun v2 h2 => okF h2 a0 12 1 2 ∧ okA h2 (fR h2 a0 1) .int (ii 8) ∧ oC h2 a0 = 12 ∧ GoCv d 292 [.ref a0] h2 (fun h3 => Go d 311 78 [some (.ref a0), some (.int x1), some (.int x2), some (.int x3), some (.int x4), some (.int (eI h2 (fR h2 a0 1) (ii 8))), some (.int (x6 + v2)), some (.int (x7 + ii 1))] [] h3 Q))))) := by
  refine (G_iload rfl (mF fc311 (by rfl))).trans ?_
  refine (G_iload rfl (mF fc311 (by rfl))).trans ?_
  refine (G_ige (mF fc311 (by rfl))).trans (gi ?_ ?_)
  ·
    refine (G_aload rfl (mF fc311 (by rfl))).trans ?_
    refine (G_getR (c := 12) (k := 1) rfl rfl rfl (mF fc311 (by rfl))).trans (andR ?_)
    refine (G_iconst (mF fc311 (by rfl))).trans ?_
    refine (G_iload rfl (mF fc311 (by rfl))).trans ?_
    refine (G_iastore (mF fc311 (by rfl))).trans (andR ?_)
    refine (G_iload rfl (mF fc311 (by rfl))).trans ?_
    refine (G_ne (mF fc311 (by rfl))).trans (gi ?_ ?_)
    ·
      refine (G_iload rfl (mF fc311 (by rfl))).trans ?_
      refine (G_iconst (mF fc311 (by rfl))).trans ?_
      refine (G_ine (mF fc311 (by rfl))).trans (gi ?_ ?_)
      ·
        refine (G_iload rfl (mF fc311 (by rfl))).trans ?_
        exact G_ireturnI rfl (mF fc311 (by rfl))
      ·
        refine (G_aload rfl (mF fc311 (by rfl))).trans ?_
        refine (G_getI (c := 12) (k := 72) rfl rfl rfl (mF fc311 (by rfl))).trans (andR ?_)
        refine (G_goto (mF fc311 (by rfl))).trans ?_
        exact G_ireturnI rfl (mF fc311 (by rfl))
    ·
      refine (G_aload rfl (mF fc311 (by rfl))).trans ?_
      refine (G_getI (c := 12) (k := 71) rfl rfl rfl (mF fc311 (by rfl))).trans (andR ?_)
      refine (G_goto (mF fc311 (by rfl))).trans ?_
      exact G_ireturnI rfl (mF fc311 (by rfl))
  ·
    refine (G_aload rfl (mF fc311 (by rfl))).trans ?_
    refine (G_getR (c := 12) (k := 1) rfl rfl rfl (mF fc311 (by rfl))).trans (andR ?_)
    refine (G_iconst (mF fc311 (by rfl))).trans ?_
    refine (G_iload rfl (mF fc311 (by rfl))).trans ?_
    refine (G_iastore (mF fc311 (by rfl))).trans (andR ?_)
    refine (G_aload rfl (mF fc311 (by rfl))).trans ?_
    refine (G_iload rfl (mF fc311 (by rfl))).trans ?_
    refine (G_Vv (q := 158914) (y := 310) (a := a0) (c := 12) rfl rfl rfl rfl (by decide) rfl (as := [.ref a0, .int x2]) (rest := []) rfl rfl (mF fc311 (by rfl))).trans (andR (GoCv_congr fun h1 => ?_))
    refine (G_iload rfl (mF fc311 (by rfl))).trans ?_
    refine (G_aload rfl (mF fc311 (by rfl))).trans ?_
    refine (G_iconst (mF fc311 (by rfl))).trans ?_
    refine (G_Vi (q := 126146) (y := 246) (a := a0) (c := 12) rfl rfl rfl rfl (by decide) rfl (as := [.ref a0, .int (ii 6)]) (rest := [.int x6]) rfl rfl (mF fc311 (by rfl))).trans (andR (GoCi_congr fun v2 h2 => ?_))
    refine (G_iadd (mF fc311 (by rfl))).trans ?_
    refine (G_istore (k := 6) (L' := [some (.ref a0), some (.int x1), some (.int x2), some (.int x3), some (.int x4), some (.int x5), some (.int (x6 + v2)), some (.int x7)]) rfl (ltb rfl) rfl (mF fc311 (by rfl))).trans ?_
    refine (G_aload rfl (mF fc311 (by rfl))).trans ?_
    refine (G_getR (c := 12) (k := 1) rfl rfl rfl (mF fc311 (by rfl))).trans (andR ?_)
    refine (G_iconst (mF fc311 (by rfl))).trans ?_
    refine (G_iaload (mF fc311 (by rfl))).trans (andR ?_)
    refine (G_istore (k := 5) (L' := [some (.ref a0), some (.int x1), some (.int x2), some (.int x3), some (.int x4), some (.int (eI h2 (fR h2 a0 1) (ii 8))), some (.int (x6 + v2)), some (.int x7)]) rfl (ltb rfl) rfl (mF fc311 (by rfl))).trans ?_
    refine (G_aload rfl (mF fc311 (by rfl))).trans ?_
    refine (G_Vv (q := 149697) (y := 292) (a := a0) (c := 12) rfl rfl rfl rfl (by decide) rfl (as := [.ref a0]) (rest := []) rfl rfl (mF fc311 (by rfl))).trans (andR (GoCv_congr fun h3 => ?_))
    refine (G_iinc (k := 7) (L' := [some (.ref a0), some (.int x1), some (.int x2), some (.int x3), some (.int x4), some (.int (eI h2 (fR h2 a0 1) (ii 8))), some (.int (x6 + v2)), some (.int (x7 + ii 1))]) rfl rfl rfl (mF fc311 (by rfl))).trans ?_
    refine (G_goto (mF fc311 (by rfl))).trans ?_
    exact Iff.rfl
theorem e311 {d : Nat} {h : mHeap} {K : Int32 → mHeap → Prop} {a0 : Nat} {x1 : Int32} {x2 : Int32} {x3 : Int32} : GoCi (d + 1) 311 [.ref a0, .int x1, .int x2, .int x3] h K ↔ Go d 311 0 [some (.ref a0), some (.int x1), some (.int x2), some (.int x3), none, none, none, none] [] h (rI K) := GoCi_entry rfl rfl
set_option maxRecDepth 20000 in
theorem fc312 : mCodes[312]? = some mc312 := rfl
theorem b312_0 {d : Nat} {h : mHeap} {Q : Option Value → mHeap → Prop} {a0 : Nat} {x1 : Int32} : Go d 312 0 [some (.ref a0), some (.int x1)] [] h Q ↔ (if x1 = ii 0 then (okF h a0 12 1 2 ∧ okA h (fR h a0 1) .int (ii 0) ∧ Q (some (.int (eI h (fR h a0 1) (ii 0)))) h) else (if x1 = ii 1 then (okF h a0 12 1 2 ∧ okA h (fR h a0 1) .int (ii 1) ∧ Q (some (.int (eI h (fR h a0 1) (ii 1)))) h) else (if x1 = ii 2 then (okF h a0 12 1 2 ∧ okA h (fR h a0 1) .int (ii 2) ∧ Q (some (.int (eI h (fR h a0 1) (ii 2)))) h) else (if x1 = ii 3 then (okF h a0 12 1 2 ∧ okA h (fR h a0 1) .int (ii 3) ∧ Q (some (.int (eI h (fR h a0 1) (ii 3)))) h) else (if x1 = ii 4 then (okF h a0 12 1 2 ∧ okA h (fR h a0 1) .int (ii 4) ∧ Q (some (.int (eI h (fR h a0 1) (ii 4)))) h) else (if x1 = ii 5 then (okF h a0 12 1 2 ∧ okA h (fR h a0 1) .int (ii 5) ∧ Q (some (.int (eI h (fR h a0 1) (ii 5)))) h) else (if x1 = ii 6 then (okF h a0 12 32 0 ∧ Q (some (.int (fI h a0 32))) h) else (if x1 = ii 7 then (okF h a0 12 31 0 ∧ Q (some (.int (fI h a0 31))) h) else (if x1 = ii 8 then (okF h a0 12 1 2 ∧ okA h (fR h a0 1) .int (ii 6) ∧ Q (some (.int (eI h (fR h a0 1) (ii 6)))) h) else (if x1 = ii 9 then (oC h a0 = 12 ∧ GoCi d 186 [.ref a0] h (fun v1 h1 => (if v1 = ii 0 then (Q (some (.int (ii (-1)))) h1) else (oC h1 a0 = 12 ∧ GoCi d 246 [.ref a0, .int (ii 6)] h1 (fun v2 h2 => Q (some (.int v2)) h2))))) else (if x1 = ii 10 then (okF h a0 12 1 2 ∧ okA h (fR h a0 1) .int (ii 7) ∧ Q (some (.int (eI h (fR h a0 1) (ii 7)))) h) else (if x1 = ii 11 then (okF h a0 12 59 0 ∧ Q (some (.int (fI h a0 59))) h) else (if x1 = ii 12 then (okF h a0 12 1 2 ∧ okA h (fR h a0 1) .int (ii 8) ∧ Q (some (.int (eI h (fR h a0 1) (ii 8)))) h) else (if x1 = ii 13 then (okF h a0 12 27 0 ∧ Q (some (.int (fI h a0 27))) h) else (Q (some (.int (ii (-1)))) h))))))))))))))) := by
  refine (G_iload rfl (mF fc312 (by rfl))).trans ?_
  refine (G_tableswitch (lo := 0) (hi := 13) [72, 79, 86, 93, 100, 107, 114, 119, 124, 132, 150, 158, 163, 171] rfl (by decide) (by decide) (by decide) (mF fc312 (by rfl))).trans ?_
  refine gi ?_ ?_
  ·
    refine (G_aload rfl (mF fc312 (by rfl))).trans ?_
    refine (G_getR (c := 12) (k := 1) rfl rfl rfl (mF fc312 (by rfl))).trans (andR ?_)
    refine (G_iconst (mF fc312 (by rfl))).trans ?_
    refine (G_iaload (mF fc312 (by rfl))).trans (andR ?_)
    exact G_ireturnI rfl (mF fc312 (by rfl))
  ·
    refine gi ?_ ?_
    ·
      refine (G_aload rfl (mF fc312 (by rfl))).trans ?_
      refine (G_getR (c := 12) (k := 1) rfl rfl rfl (mF fc312 (by rfl))).trans (andR ?_)
      refine (G_iconst (mF fc312 (by rfl))).trans ?_
      refine (G_iaload (mF fc312 (by rfl))).trans (andR ?_)
      exact G_ireturnI rfl (mF fc312 (by rfl))
    ·
      refine gi ?_ ?_
      ·
        refine (G_aload rfl (mF fc312 (by rfl))).trans ?_
        refine (G_getR (c := 12) (k := 1) rfl rfl rfl (mF fc312 (by rfl))).trans (andR ?_)
        refine (G_iconst (mF fc312 (by rfl))).trans ?_
        refine (G_iaload (mF fc312 (by rfl))).trans (andR ?_)
        exact G_ireturnI rfl (mF fc312 (by rfl))
      ·
        refine gi ?_ ?_
        ·
          refine (G_aload rfl (mF fc312 (by rfl))).trans ?_
          refine (G_getR (c := 12) (k := 1) rfl rfl rfl (mF fc312 (by rfl))).trans (andR ?_)
          refine (G_iconst (mF fc312 (by rfl))).trans ?_
          refine (G_iaload (mF fc312 (by rfl))).trans (andR ?_)
          exact G_ireturnI rfl (mF fc312 (by rfl))
        ·
          refine gi ?_ ?_
          ·
            refine (G_aload rfl (mF fc312 (by rfl))).trans ?_
            refine (G_getR (c := 12) (k := 1) rfl rfl rfl (mF fc312 (by rfl))).trans (andR ?_)
            refine (G_iconst (mF fc312 (by rfl))).trans ?_
            refine (G_iaload (mF fc312 (by rfl))).trans (andR ?_)
            exact G_ireturnI rfl (mF fc312 (by rfl))
          ·
            refine gi ?_ ?_
            ·
              refine (G_aload rfl (mF fc312 (by rfl))).trans ?_
              refine (G_getR (c := 12) (k := 1) rfl rfl rfl (mF fc312 (by rfl))).trans (andR ?_)
              refine (G_iconst (mF fc312 (by rfl))).trans ?_
              refine (G_iaload (mF fc312 (by rfl))).trans (andR ?_)
              exact G_ireturnI rfl (mF fc312 (by rfl))
            ·
              refine gi ?_ ?_
              ·
                refine (G_aload rfl (mF fc312 (by rfl))).trans ?_
                refine (G_getI (c := 12) (k := 32) rfl rfl rfl (mF fc312 (by rfl))).trans (andR ?_)
                exact G_ireturnI rfl (mF fc312 (by rfl))
              ·
                refine gi ?_ ?_
                ·
                  refine (G_aload rfl (mF fc312 (by rfl))).trans ?_
                  refine (G_getI (c := 12) (k := 31) rfl rfl rfl (mF fc312 (by rfl))).trans (andR ?_)
                  exact G_ireturnI rfl (mF fc312 (by rfl))
                ·
                  refine gi ?_ ?_
                  ·
                    refine (G_aload rfl (mF fc312 (by rfl))).trans ?_
                    refine (G_getR (c := 12) (k := 1) rfl rfl rfl (mF fc312 (by rfl))).trans (andR ?_)
                    refine (G_iconst (mF fc312 (by rfl))).trans ?_
                    refine (G_iaload (mF fc312 (by rfl))).trans (andR ?_)
                    exact G_ireturnI rfl (mF fc312 (by rfl))
                  ·
                    refine gi ?_ ?_
                    ·
                      refine (G_aload rfl (mF fc312 (by rfl))).trans ?_
                      refine (G_Vi (q := 95425) (y := 186) (a := a0) (c := 12) rfl rfl rfl rfl (by decide) rfl (as := [.ref a0]) (rest := []) rfl rfl (mF fc312 (by rfl))).trans (andR (GoCi_congr fun v1 h1 => ?_))
                      refine (G_eq (mF fc312 (by rfl))).trans (gi ?_ ?_)
                      ·
                        refine (G_iconst (mF fc312 (by rfl))).trans ?_
                        exact G_ireturnI rfl (mF fc312 (by rfl))
                      ·
                        refine (G_aload rfl (mF fc312 (by rfl))).trans ?_
                        refine (G_iconst (mF fc312 (by rfl))).trans ?_
                        refine (G_Vi (q := 126146) (y := 246) (a := a0) (c := 12) rfl rfl rfl rfl (by decide) rfl (as := [.ref a0, .int (ii 6)]) (rest := []) rfl rfl (mF fc312 (by rfl))).trans (andR (GoCi_congr fun v2 h2 => ?_))
                        refine (G_goto (mF fc312 (by rfl))).trans ?_
                        exact G_ireturnI rfl (mF fc312 (by rfl))
                    ·
                      refine gi ?_ ?_
                      ·
                        refine (G_aload rfl (mF fc312 (by rfl))).trans ?_
                        refine (G_getR (c := 12) (k := 1) rfl rfl rfl (mF fc312 (by rfl))).trans (andR ?_)
                        refine (G_iconst (mF fc312 (by rfl))).trans ?_
                        refine (G_iaload (mF fc312 (by rfl))).trans (andR ?_)
                        exact G_ireturnI rfl (mF fc312 (by rfl))
                      ·
                        refine gi ?_ ?_
                        ·
                          refine (G_aload rfl (mF fc312 (by rfl))).trans ?_
                          refine (G_getI (c := 12) (k := 59) rfl rfl rfl (mF fc312 (by rfl))).trans (andR ?_)
                          exact G_ireturnI rfl (mF fc312 (by rfl))
                        ·
                          refine gi ?_ ?_
                          ·
                            refine (G_aload rfl (mF fc312 (by rfl))).trans ?_
                            refine (G_getR (c := 12) (k := 1) rfl rfl rfl (mF fc312 (by rfl))).trans (andR ?_)
                            refine (G_iconst (mF fc312 (by rfl))).trans ?_
                            refine (G_iaload (mF fc312 (by rfl))).trans (andR ?_)
                            exact G_ireturnI rfl (mF fc312 (by rfl))
                          ·
                            refine gi ?_ ?_
                            ·
                              refine (G_aload rfl (mF fc312 (by rfl))).trans ?_
                              refine (G_getI (c := 12) (k := 27) rfl rfl rfl (mF fc312 (by rfl))).trans (andR ?_)
                              exact G_ireturnI rfl (mF fc312 (by rfl))
                            ·
                              refine (G_iconst (mF fc312 (by rfl))).trans ?_
                              exact G_ireturnI rfl (mF fc312 (by rfl))
theorem e312 {d : Nat} {h : mHeap} {K : Int32 → mHeap → Prop} {a0 : Nat} {x1 : Int32} : GoCi (d + 1) 312 [.ref a0, .int x1] h K ↔ Go d 312 0 [some (.ref a0), some (.int x1)] [] h (rI K) := GoCi_entry rfl rfl
set_option maxRecDepth 20000 in
theorem fc313 : mCodes[313]? = some mc313 := rfl
theorem b313_0 {d : Nat} {h : mHeap} {Q : Option Value → mHeap → Prop} {a0 : Nat} {a1 : Nat} : Go d 313 0 [some (.ref a0), some (.ref a1), none] [] h Q ↔ Go d 313 2 [some (.ref a0), some (.ref a1), some (.int (ii 0))] [] h Q := by
  refine (G_iconst (mF fc313 (by rfl))).trans ?_
  refine (G_istore (k := 2) (L' := [some (.ref a0), some (.ref a1), some (.int (ii 0))]) rfl (ltb rfl) rfl (mF fc313 (by rfl))).trans ?_
  exact Iff.rfl
theorem b313_2 {d : Nat} {h : mHeap} {Q : Option Value → mHeap → Prop} {a0 : Nat} {a1 : Nat} {x2 : Int32} : Go d 313 2 [some (.ref a0), some (.ref a1), some (.int x2)] [] h Q ↔ okL h a1 ∧ (if (ii (nL h a1)) ≤ x2 then (Q none h) else (okF h a0 12 76 0 ∧ (if (fI h a0 76) = ii 0 then (okF h a0 12 73 2 ∧ okF h a0 12 75 0 ∧ okA h a1 .int x2 ∧ (64 ≤ (fR h a0 73) ∧ okA h (fR h a0 73) .int (fI h a0 75)) ∧ Go d 313 42 [some (.ref a0), some (.ref a1), some (.int x2)] [] (sI h (fR h a0 73) (fI h a0 75) (eI h a1 x2)) Q) else (okF h a0 12 73 2 ∧ okF h a0 12 75 0 ∧ okA h (fR h a0 73) .int (fI h a0 75) ∧ (64 ≤ a1 ∧ okA h a1 .int x2) ∧ Go d 313 42 [some (.ref a0), some (.ref a1), some (.int x2)] [] (sI h a1 x2 (eI h (fR h a0 73) (fI h a0 75))) Q)))) := by
  refine (G_iload rfl (mF fc313 (by rfl))).trans ?_
  refine (G_aload rfl (mF fc313 (by rfl))).trans ?_
  refine (G_arraylength (mF fc313 (by rfl))).trans (andR ?_)
  refine (G_ige (mF fc313 (by rfl))).trans (gi ?_ ?_)
  ·
    exact G_return rfl (mF fc313 (by rfl))
  ·
    refine (G_aload rfl (mF fc313 (by rfl))).trans ?_
    refine (G_getI (c := 12) (k := 76) rfl rfl rfl (mF fc313 (by rfl))).trans (andR ?_)
    refine (G_eq (mF fc313 (by rfl))).trans (gi ?_ ?_)
    ·
      refine (G_aload rfl (mF fc313 (by rfl))).trans ?_
      refine (G_getR (c := 12) (k := 73) rfl rfl rfl (mF fc313 (by rfl))).trans (andR ?_)
      refine (G_aload rfl (mF fc313 (by rfl))).trans ?_
      refine (G_getI (c := 12) (k := 75) rfl rfl rfl (mF fc313 (by rfl))).trans (andR ?_)
      refine (G_aload rfl (mF fc313 (by rfl))).trans ?_
      refine (G_iload rfl (mF fc313 (by rfl))).trans ?_
      refine (G_iaload (mF fc313 (by rfl))).trans (andR ?_)
      refine (G_iastore (mF fc313 (by rfl))).trans (andR ?_)
      exact Iff.rfl
    ·
      refine (G_aload rfl (mF fc313 (by rfl))).trans ?_
      refine (G_iload rfl (mF fc313 (by rfl))).trans ?_
      refine (G_aload rfl (mF fc313 (by rfl))).trans ?_
      refine (G_getR (c := 12) (k := 73) rfl rfl rfl (mF fc313 (by rfl))).trans (andR ?_)
      refine (G_aload rfl (mF fc313 (by rfl))).trans ?_
      refine (G_getI (c := 12) (k := 75) rfl rfl rfl (mF fc313 (by rfl))).trans (andR ?_)
      refine (G_iaload (mF fc313 (by rfl))).trans (andR ?_)
      refine (G_iastore (mF fc313 (by rfl))).trans (andR ?_)
      refine (G_goto (mF fc313 (by rfl))).trans ?_
      exact Iff.rfl
theorem b313_42 {d : Nat} {h : mHeap} {Q : Option Value → mHeap → Prop} {a0 : Nat} {a1 : Nat} {x2 : Int32} : Go d 313 42 [some (.ref a0), some (.ref a1), some (.int x2)] [] h Q ↔ okF h a0 12 75 0 ∧ okP h a0 12 75 ∧ Go d 313 2 [some (.ref a0), some (.ref a1), some (.int (x2 + ii 1))] [] (sF h a0 75 (.int ((fI h a0 75) + (ii 1)))) Q := by
  refine (G_aload rfl (mF fc313 (by rfl))).trans ?_
  refine (G_dupr (mF fc313 (by rfl))).trans ?_
  refine (G_getI (c := 12) (k := 75) rfl rfl rfl (mF fc313 (by rfl))).trans (andR ?_)
  refine (G_iconst (mF fc313 (by rfl))).trans ?_
  refine (G_iadd (mF fc313 (by rfl))).trans ?_
  refine (G_putT (c := 12) (k := 75) rfl rfl rfl (mF fc313 (by rfl))).trans (andR ?_)
  refine (G_iinc (k := 2) (L' := [some (.ref a0), some (.ref a1), some (.int (x2 + ii 1))]) rfl rfl rfl (mF fc313 (by rfl))).trans ?_
  refine (G_goto (mF fc313 (by rfl))).trans ?_
  exact Iff.rfl
theorem e313 {d : Nat} {h : mHeap} {K : mHeap → Prop} {a0 : Nat} {a1 : Nat} : GoCv (d + 1) 313 [.ref a0, .ref a1] h K ↔ Go d 313 0 [some (.ref a0), some (.ref a1), none] [] h (rV K) := GoCv_entry rfl rfl
set_option maxRecDepth 20000 in
theorem fc314 : mCodes[314]? = some mc314 := rfl
theorem b314_0 {d : Nat} {h : mHeap} {Q : Option Value → mHeap → Prop} {a0 : Nat} {x1 : Int32} {x2 : Int32} : Go d 314 0 [some (.ref a0), some (.int x1), some (.int x2)] [] h Q ↔ okP h a0 12 75 ∧ okP (sF h a0 75 (.int ((ii 1760) * x1))) a0 12 76 ∧ (x2 = ii 0 ∨ x2 = ii 1) ∧ okF (sF (sF h a0 75 (.int ((ii 1760) * x1))) a0 76 (.int x2)) a0 12 58 2 ∧ okF (sF (sF h a0 75 (.int ((ii 1760) * x1))) a0 76 (.int x2)) a0 12 59 0 ∧ (64 ≤ (fR (sF (sF h a0 75 (.int ((ii 1760) * x1))) a0 76 (.int x2)) a0 58) ∧ okA (sF (sF h a0 75 (.int ((ii 1760) * x1))) a0 76 (.int x2)) (fR (sF (sF h a0 75 (.int ((ii 1760) * x1))) a0 76 (.int x2)) a0 58) .int (ii 0)) ∧ okF (sI (sF (sF h a0 75 (.int ((ii 1760) * x1))) a0 76 (.int x2)) (fR (sF (sF h a0 75 (.int ((ii 1760) * x1))) a0 76 (.int x2)) a0 58) (ii 0) (fI (sF (sF h a0 75 (.int ((ii 1760) * x1))) a0 76 (.int x2)) a0 59)) a0 12 58 2 ∧ oC (sI (sF (sF h a0 75 (.int ((ii 1760) * x1))) a0 76 (.int x2)) (fR (sF (sF h a0 75 (.int ((ii 1760) * x1))) a0 76 (.int x2)) a0 58) (ii 0) (fI (sF (sF h a0 75 (.int ((ii 1760) * x1))) a0 76 (.int x2)) a0 59)) a0 = 12 ∧ GoCv d 313 [.ref a0, .ref (fR (sI (sF (sF h a0 75 (.int ((ii 1760) * x1))) a0 76 (.int x2)) (fR (sF (sF h a0 75 (.int ((ii 1760) * x1))) a0 76 (.int x2)) a0 58) (ii 0) (fI (sF (sF h a0 75 (.int ((ii 1760) * x1))) a0 76 (.int x2)) a0 59)) a0 58)] (sI (sF (sF h a0 75 (.int ((ii 1760) * x1))) a0 76 (.int x2)) (fR (sF (sF h a0 75 (.int ((ii 1760) * x1))) a0 76 (.int x2)) a0 58) (ii 0) (fI (sF (sF h a0 75 (.int ((ii 1760) * x1))) a0 76 (.int x2)) a0 59)) (fun h1 => okF h1 a0 12 58 2 ∧ okA h1 (fR h1 a0 58) .int (ii 0) ∧ okP h1 a0 12 59 ∧ okF (sF h1 a0 59 (.int (eI h1 (fR h1 a0 58) (ii 0)))) a0 12 1 2 ∧ oC (sF h1 a0 59 (.int (eI h1 (fR h1 a0 58) (ii 0)))) a0 = 12 ∧ GoCv d 313 [.ref a0, .ref (fR (sF h1 a0 59 (.int (eI h1 (fR h1 a0 58) (ii 0)))) a0 1)] (sF h1 a0 59 (.int (eI h1 (fR h1 a0 58) (ii 0)))) (fun h2 => okF h2 a0 12 2 2 ∧ oC h2 a0 = 12 ∧ GoCv d 313 [.ref a0, .ref (fR h2 a0 2)] h2 (fun h3 => okF h3 a0 12 3 2 ∧ oC h3 a0 = 12 ∧ GoCv d 313 [.ref a0, .ref (fR h3 a0 3)] h3 (fun h4 => okF h4 a0 12 4 2 ∧ oC h4 a0 = 12 ∧ GoCv d 313 [.ref a0, .ref (fR h4 a0 4)] h4 (fun h5 => okF h5 a0 12 5 2 ∧ oC h5 a0 = 12 ∧ GoCv d 313 [.ref a0, .ref (fR h5 a0 5)] h5 (fun h6 => okF h6 a0 12 6 2 ∧ oC h6 a0 = 12 ∧ GoCv d 313 [.ref a0, .ref (fR h6 a0 6)] h6 (fun h7 => okF h7 a0 12 7 2 ∧ oC h7 a0 = 12 ∧ GoCv d 313 [.ref a0, .ref (fR h7 a0 7)] h7 (fun h8 => okF h8 a0 12 8 2 ∧ oC h8 a0 = 12 ∧ GoCv d 313 [.ref a0, .ref (fR h8 a0 8)] h8 (fun h9 => okF h9 a0 12 9 2 ∧ oC h9 a0 = 12 ∧ GoCv d 313 [.ref a0, .ref (fR h9 a0 9)] h9 (fun h10 => okF h10 a0 12 10 2 ∧ oC h10 a0 = 12 ∧ GoCv d 313 [.ref a0, .ref (fR h10 a0 10)] h10 (fun h11 => okF h11 a0 12 11 2 ∧ oC h11 a0 = 12 ∧ GoCv d 313 [.ref a0, .ref (fR h11 a0 11)] h11 (fun h12 => okF h12 a0 12 12 2 ∧ oC h12 a0 = 12 ∧ GoCv d 313 [.ref a0, .ref (fR h12 a0 12)] h12 (fun h13 => okF h13 a0 12 13 2 ∧ oC h13 a0 = 12 ∧ GoCv d 313 [.ref a0, .ref (fR h13 a0 13)] h13 (fun h14 => okF h14 a0 12 14 2 ∧ oC h14 a0 = 12 ∧ GoCv d 313 [.ref a0, .ref (fR h14 a0 14)] h14 (fun h15 => okF h15 a0 12 15 2 ∧ oC h15 a0 = 12 ∧ GoCv d 313 [.ref a0, .ref (fR h15 a0 15)] h15 (fun h16 => okF h16 a0 12 57 2 ∧ oC h16 a0 = 12 ∧ GoCv d 313 [.ref a0, .ref (fR h16 a0 57)] h16 (fun h17 => Q none h17))))))))))))))))) := by
  refine (G_aload rfl (mF fc314 (by rfl))).trans ?_
  refine (G_iconst (mF fc314 (by rfl))).trans ?_
  refine (G_iload rfl (mF fc314 (by rfl))).trans ?_
  refine (G_imul (mF fc314 (by rfl))).trans ?_
  refine (G_putT (c := 12) (k := 75) rfl rfl rfl (mF fc314 (by rfl))).trans (andR ?_)
  refine (G_aload rfl (mF fc314 (by rfl))).trans ?_
  refine (G_iload rfl (mF fc314 (by rfl))).trans ?_
  refine (G_putZ (c := 12) (k := 76) rfl rfl rfl (mF fc314 (by rfl))).trans (andR (andR ?_))
  refine (G_aload rfl (mF fc314 (by rfl))).trans ?_
  refine (G_getR (c := 12) (k := 58) rfl rfl rfl (mF fc314 (by rfl))).trans (andR ?_)
  refine (G_iconst (mF fc314 (by rfl))).trans ?_
  refine (G_aload rfl (mF fc314 (by rfl))).trans ?_
  refine (G_getI (c := 12) (k := 59) rfl rfl rfl (mF fc314 (by rfl))).trans (andR ?_)
  refine (G_iastore (mF fc314 (by rfl))).trans (andR ?_)
  refine (G_aload rfl (mF fc314 (by rfl))).trans ?_
  refine (G_aload rfl (mF fc314 (by rfl))).trans ?_
  refine (G_getR (c := 12) (k := 58) rfl rfl rfl (mF fc314 (by rfl))).trans (andR ?_)
  refine (G_Vv (q := 160450) (y := 313) (a := a0) (c := 12) rfl rfl rfl rfl (by decide) rfl (as := [.ref a0, .ref (fR (sI (sF (sF h a0 75 (.int ((ii 1760) * x1))) a0 76 (.int x2)) (fR (sF (sF h a0 75 (.int ((ii 1760) * x1))) a0 76 (.int x2)) a0 58) (ii 0) (fI (sF (sF h a0 75 (.int ((ii 1760) * x1))) a0 76 (.int x2)) a0 59)) a0 58)]) (rest := []) rfl rfl (mF fc314 (by rfl))).trans (andR (GoCv_congr fun h1 => ?_))
  refine (G_aload rfl (mF fc314 (by rfl))).trans ?_
  refine (G_aload rfl (mF fc314 (by rfl))).trans ?_
  refine (G_getR (c := 12) (k := 58) rfl rfl rfl (mF fc314 (by rfl))).trans (andR ?_)
  refine (G_iconst (mF fc314 (by rfl))).trans ?_
  refine (G_iaload (mF fc314 (by rfl))).trans (andR ?_)
  refine (G_putT (c := 12) (k := 59) rfl rfl rfl (mF fc314 (by rfl))).trans (andR ?_)
  refine (G_aload rfl (mF fc314 (by rfl))).trans ?_
  refine (G_aload rfl (mF fc314 (by rfl))).trans ?_
  refine (G_getR (c := 12) (k := 1) rfl rfl rfl (mF fc314 (by rfl))).trans (andR ?_)
  refine (G_Vv (q := 160450) (y := 313) (a := a0) (c := 12) rfl rfl rfl rfl (by decide) rfl (as := [.ref a0, .ref (fR (sF h1 a0 59 (.int (eI h1 (fR h1 a0 58) (ii 0)))) a0 1)]) (rest := []) rfl rfl (mF fc314 (by rfl))).trans (andR (GoCv_congr fun h2 => ?_))
  refine (G_aload rfl (mF fc314 (by rfl))).trans ?_
  refine (G_aload rfl (mF fc314 (by rfl))).trans ?_
  refine (G_getR (c := 12) (k := 2) rfl rfl rfl (mF fc314 (by rfl))).trans (andR ?_)
  refine (G_Vv (q := 160450) (y := 313) (a := a0) (c := 12) rfl rfl rfl rfl (by decide) rfl (as := [.ref a0, .ref (fR h2 a0 2)]) (rest := []) rfl rfl (mF fc314 (by rfl))).trans (andR (GoCv_congr fun h3 => ?_))
  refine (G_aload rfl (mF fc314 (by rfl))).trans ?_
  refine (G_aload rfl (mF fc314 (by rfl))).trans ?_
  refine (G_getR (c := 12) (k := 3) rfl rfl rfl (mF fc314 (by rfl))).trans (andR ?_)
  refine (G_Vv (q := 160450) (y := 313) (a := a0) (c := 12) rfl rfl rfl rfl (by decide) rfl (as := [.ref a0, .ref (fR h3 a0 3)]) (rest := []) rfl rfl (mF fc314 (by rfl))).trans (andR (GoCv_congr fun h4 => ?_))
  refine (G_aload rfl (mF fc314 (by rfl))).trans ?_
  refine (G_aload rfl (mF fc314 (by rfl))).trans ?_
  refine (G_getR (c := 12) (k := 4) rfl rfl rfl (mF fc314 (by rfl))).trans (andR ?_)
  refine (G_Vv (q := 160450) (y := 313) (a := a0) (c := 12) rfl rfl rfl rfl (by decide) rfl (as := [.ref a0, .ref (fR h4 a0 4)]) (rest := []) rfl rfl (mF fc314 (by rfl))).trans (andR (GoCv_congr fun h5 => ?_))
  refine (G_aload rfl (mF fc314 (by rfl))).trans ?_
  refine (G_aload rfl (mF fc314 (by rfl))).trans ?_
  refine (G_getR (c := 12) (k := 5) rfl rfl rfl (mF fc314 (by rfl))).trans (andR ?_)
  refine (G_Vv (q := 160450) (y := 313) (a := a0) (c := 12) rfl rfl rfl rfl (by decide) rfl (as := [.ref a0, .ref (fR h5 a0 5)]) (rest := []) rfl rfl (mF fc314 (by rfl))).trans (andR (GoCv_congr fun h6 => ?_))
  refine (G_aload rfl (mF fc314 (by rfl))).trans ?_
  refine (G_aload rfl (mF fc314 (by rfl))).trans ?_
  refine (G_getR (c := 12) (k := 6) rfl rfl rfl (mF fc314 (by rfl))).trans (andR ?_)
  refine (G_Vv (q := 160450) (y := 313) (a := a0) (c := 12) rfl rfl rfl rfl (by decide) rfl (as := [.ref a0, .ref (fR h6 a0 6)]) (rest := []) rfl rfl (mF fc314 (by rfl))).trans (andR (GoCv_congr fun h7 => ?_))
  refine (G_aload rfl (mF fc314 (by rfl))).trans ?_
  refine (G_aload rfl (mF fc314 (by rfl))).trans ?_
  refine (G_getR (c := 12) (k := 7) rfl rfl rfl (mF fc314 (by rfl))).trans (andR ?_)
  refine (G_Vv (q := 160450) (y := 313) (a := a0) (c := 12) rfl rfl rfl rfl (by decide) rfl (as := [.ref a0, .ref (fR h7 a0 7)]) (rest := []) rfl rfl (mF fc314 (by rfl))).trans (andR (GoCv_congr fun h8 => ?_))
  refine (G_aload rfl (mF fc314 (by rfl))).trans ?_
  refine (G_aload rfl (mF fc314 (by rfl))).trans ?_
  refine (G_getR (c := 12) (k := 8) rfl rfl rfl (mF fc314 (by rfl))).trans (andR ?_)
  refine (G_Vv (q := 160450) (y := 313) (a := a0) (c := 12) rfl rfl rfl rfl (by decide) rfl (as := [.ref a0, .ref (fR h8 a0 8)]) (rest := []) rfl rfl (mF fc314 (by rfl))).trans (andR (GoCv_congr fun h9 => ?_))
  refine (G_aload rfl (mF fc314 (by rfl))).trans ?_
  refine (G_aload rfl (mF fc314 (by rfl))).trans ?_
  refine (G_getR (c := 12) (k := 9) rfl rfl rfl (mF fc314 (by rfl))).trans (andR ?_)
  refine (G_Vv (q := 160450) (y := 313) (a := a0) (c := 12) rfl rfl rfl rfl (by decide) rfl (as := [.ref a0, .ref (fR h9 a0 9)]) (rest := []) rfl rfl (mF fc314 (by rfl))).trans (andR (GoCv_congr fun h10 => ?_))
  refine (G_aload rfl (mF fc314 (by rfl))).trans ?_
  refine (G_aload rfl (mF fc314 (by rfl))).trans ?_
  refine (G_getR (c := 12) (k := 10) rfl rfl rfl (mF fc314 (by rfl))).trans (andR ?_)
  refine (G_Vv (q := 160450) (y := 313) (a := a0) (c := 12) rfl rfl rfl rfl (by decide) rfl (as := [.ref a0, .ref (fR h10 a0 10)]) (rest := []) rfl rfl (mF fc314 (by rfl))).trans (andR (GoCv_congr fun h11 => ?_))
  refine (G_aload rfl (mF fc314 (by rfl))).trans ?_
  refine (G_aload rfl (mF fc314 (by rfl))).trans ?_
  refine (G_getR (c := 12) (k := 11) rfl rfl rfl (mF fc314 (by rfl))).trans (andR ?_)
  refine (G_Vv (q := 160450) (y := 313) (a := a0) (c := 12) rfl rfl rfl rfl (by decide) rfl (as := [.ref a0, .ref (fR h11 a0 11)]) (rest := []) rfl rfl (mF fc314 (by rfl))).trans (andR (GoCv_congr fun h12 => ?_))
  refine (G_aload rfl (mF fc314 (by rfl))).trans ?_
  refine (G_aload rfl (mF fc314 (by rfl))).trans ?_
  refine (G_getR (c := 12) (k := 12) rfl rfl rfl (mF fc314 (by rfl))).trans (andR ?_)
  refine (G_Vv (q := 160450) (y := 313) (a := a0) (c := 12) rfl rfl rfl rfl (by decide) rfl (as := [.ref a0, .ref (fR h12 a0 12)]) (rest := []) rfl rfl (mF fc314 (by rfl))).trans (andR (GoCv_congr fun h13 => ?_))
  refine (G_aload rfl (mF fc314 (by rfl))).trans ?_
  refine (G_aload rfl (mF fc314 (by rfl))).trans ?_
  refine (G_getR (c := 12) (k := 13) rfl rfl rfl (mF fc314 (by rfl))).trans (andR ?_)
  refine (G_Vv (q := 160450) (y := 313) (a := a0) (c := 12) rfl rfl rfl rfl (by decide) rfl (as := [.ref a0, .ref (fR h13 a0 13)]) (rest := []) rfl rfl (mF fc314 (by rfl))).trans (andR (GoCv_congr fun h14 => ?_))
  refine (G_aload rfl (mF fc314 (by rfl))).trans ?_
  refine (G_aload rfl (mF fc314 (by rfl))).trans ?_
  refine (G_getR (c := 12) (k := 14) rfl rfl rfl (mF fc314 (by rfl))).trans (andR ?_)
  refine (G_Vv (q := 160450) (y := 313) (a := a0) (c := 12) rfl rfl rfl rfl (by decide) rfl (as := [.ref a0, .ref (fR h14 a0 14)]) (rest := []) rfl rfl (mF fc314 (by rfl))).trans (andR (GoCv_congr fun h15 => ?_))
  refine (G_aload rfl (mF fc314 (by rfl))).trans ?_
  refine (G_aload rfl (mF fc314 (by rfl))).trans ?_
  refine (G_getR (c := 12) (k := 15) rfl rfl rfl (mF fc314 (by rfl))).trans (andR ?_)
  refine (G_Vv (q := 160450) (y := 313) (a := a0) (c := 12) rfl rfl rfl rfl (by decide) rfl (as := [.ref a0, .ref (fR h15 a0 15)]) (rest := []) rfl rfl (mF fc314 (by rfl))).trans (andR (GoCv_congr fun h16 => ?_))
  refine (G_aload rfl (mF fc314 (by rfl))).trans ?_
  refine (G_aload rfl (mF fc314 (by rfl))).trans ?_
  refine (G_getR (c := 12) (k := 57) rfl rfl rfl (mF fc314 (by rfl))).trans (andR ?_)
  refine (G_Vv (q := 160450) (y := 313) (a := a0) (c := 12) rfl rfl rfl rfl (by decide) rfl (as := [.ref a0, .ref (fR h16 a0 57)]) (rest := []) rfl rfl (mF fc314 (by rfl))).trans (andR (GoCv_congr fun h17 => ?_))
  exact G_return rfl (mF fc314 (by rfl))
theorem e314 {d : Nat} {h : mHeap} {K : mHeap → Prop} {a0 : Nat} {x1 : Int32} {x2 : Int32} : GoCv (d + 1) 314 [.ref a0, .int x1, .int x2] h K ↔ Go d 314 0 [some (.ref a0), some (.int x1), some (.int x2)] [] h (rV K) := GoCv_entry rfl rfl
set_option maxRecDepth 20000 in
theorem fc315 : mCodes[315]? = some mc315 := rfl
theorem b315_0 {d : Nat} {h : mHeap} {Q : Option Value → mHeap → Prop} {a0 : Nat} {x1 : Int32} : Go d 315 0 [some (.ref a0), some (.int x1)] [] h Q ↔ GoCi d 183 [.long x1.toInt64, .long (jj 0), .long (jj 3)] h (fun v1 h1 => (if ¬ v1 = ii 0 then (okF h1 a0 12 74 2 ∧ (64 ≤ (fR h1 a0 74) ∧ okB h1 (fR h1 a0 74) x1) ∧ oC (sB h1 (fR h1 a0 74) x1 (ii 1)) a0 = 12 ∧ GoCv d 314 [.ref a0, .int x1, .int (ii 0)] (sB h1 (fR h1 a0 74) x1 (ii 1)) (fun h2 => okF h2 a0 12 1 2 ∧ okA h2 (fR h2 a0 1) .int (ii 6) ∧ Q (some (.int (eI h2 (fR h2 a0 1) (ii 6)))) h2)) else (Q (some (.int (ii (-1)))) h1))) := by
  refine (G_iload rfl (mF fc315 (by rfl))).trans ?_
  refine (G_i2l (mF fc315 (by rfl))).trans ?_
  refine (G_jsr_w (mF fc315 (by rfl))).trans ?_
  refine (G_jsr_w (mF fc315 (by rfl))).trans ?_
  refine (G_Ti (q := 93891) (y := 183) rfl rfl rfl (as := [.long x1.toInt64, .long (jj 0), .long (jj 3)]) (rest := []) rfl rfl (mF fc315 (by rfl))).trans (GoCi_congr fun v1 h1 => ?_)
  refine (G_ne (mF fc315 (by rfl))).trans (gi ?_ ?_)
  ·
    refine (G_aload rfl (mF fc315 (by rfl))).trans ?_
    refine (G_getR (c := 12) (k := 74) rfl rfl rfl (mF fc315 (by rfl))).trans (andR ?_)
    refine (G_iload rfl (mF fc315 (by rfl))).trans ?_
    refine (G_iconst (mF fc315 (by rfl))).trans ?_
    refine (G_bastore (mF fc315 (by rfl))).trans (andR ?_)
    refine (G_aload rfl (mF fc315 (by rfl))).trans ?_
    refine (G_iload rfl (mF fc315 (by rfl))).trans ?_
    refine (G_iconst (mF fc315 (by rfl))).trans ?_
    refine (G_Vv (q := 160963) (y := 314) (a := a0) (c := 12) rfl rfl rfl rfl (by decide) rfl (as := [.ref a0, .int x1, .int (ii 0)]) (rest := []) rfl rfl (mF fc315 (by rfl))).trans (andR (GoCv_congr fun h2 => ?_))
    refine (G_aload rfl (mF fc315 (by rfl))).trans ?_
    refine (G_getR (c := 12) (k := 1) rfl rfl rfl (mF fc315 (by rfl))).trans (andR ?_)
    refine (G_iconst (mF fc315 (by rfl))).trans ?_
    refine (G_iaload (mF fc315 (by rfl))).trans (andR ?_)
    exact G_ireturnI rfl (mF fc315 (by rfl))
  ·
    refine (G_iconst (mF fc315 (by rfl))).trans ?_
    exact G_ireturnI rfl (mF fc315 (by rfl))
theorem e315 {d : Nat} {h : mHeap} {K : Int32 → mHeap → Prop} {a0 : Nat} {x1 : Int32} : GoCi (d + 1) 315 [.ref a0, .int x1] h K ↔ Go d 315 0 [some (.ref a0), some (.int x1)] [] h (rI K) := GoCi_entry rfl rfl
set_option maxRecDepth 20000 in
theorem fc316 : mCodes[316]? = some mc316 := rfl
theorem b316_0 {d : Nat} {h : mHeap} {Q : Option Value → mHeap → Prop} {a0 : Nat} {x1 : Int32} : Go d 316 0 [some (.ref a0), some (.int x1)] [] h Q ↔ GoCi d 183 [.long x1.toInt64, .long (jj 0), .long (jj 3)] h (fun v1 h1 => (if v1 = ii 0 then (Q (some (.int (ii (-1)))) h1) else (okF h1 a0 12 74 2 ∧ okB h1 (fR h1 a0 74) x1 ∧ (if ¬ (eI h1 (fR h1 a0 74) x1) = ii 0 then (oC h1 a0 = 12 ∧ GoCv d 314 [.ref a0, .int x1, .int (ii 1)] h1 (fun h2 => okF h2 a0 12 1 2 ∧ okA h2 (fR h2 a0 1) .int (ii 6) ∧ Q (some (.int (eI h2 (fR h2 a0 1) (ii 6)))) h2)) else (Q (some (.int (ii (-1)))) h1))))) := by
  refine (G_iload rfl (mF fc316 (by rfl))).trans ?_
  refine (G_i2l (mF fc316 (by rfl))).trans ?_
  refine (G_jsr_w (mF fc316 (by rfl))).trans ?_
  refine (G_jsr_w (mF fc316 (by rfl))).trans ?_
  refine (G_Ti (q := 93891) (y := 183) rfl rfl rfl (as := [.long x1.toInt64, .long (jj 0), .long (jj 3)]) (rest := []) rfl rfl (mF fc316 (by rfl))).trans (GoCi_congr fun v1 h1 => ?_)
  refine (G_eq (mF fc316 (by rfl))).trans (gi ?_ ?_)
  ·
    refine (G_iconst (mF fc316 (by rfl))).trans ?_
    exact G_ireturnI rfl (mF fc316 (by rfl))
  ·
    refine (G_aload rfl (mF fc316 (by rfl))).trans ?_
    refine (G_getR (c := 12) (k := 74) rfl rfl rfl (mF fc316 (by rfl))).trans (andR ?_)
    refine (G_iload rfl (mF fc316 (by rfl))).trans ?_
    refine (G_baload (mF fc316 (by rfl))).trans (andR ?_)
    refine (G_ne (mF fc316 (by rfl))).trans (gi ?_ ?_)
    ·
      refine (G_aload rfl (mF fc316 (by rfl))).trans ?_
      refine (G_iload rfl (mF fc316 (by rfl))).trans ?_
      refine (G_iconst (mF fc316 (by rfl))).trans ?_
      refine (G_Vv (q := 160963) (y := 314) (a := a0) (c := 12) rfl rfl rfl rfl (by decide) rfl (as := [.ref a0, .int x1, .int (ii 1)]) (rest := []) rfl rfl (mF fc316 (by rfl))).trans (andR (GoCv_congr fun h2 => ?_))
      refine (G_aload rfl (mF fc316 (by rfl))).trans ?_
      refine (G_getR (c := 12) (k := 1) rfl rfl rfl (mF fc316 (by rfl))).trans (andR ?_)
      refine (G_iconst (mF fc316 (by rfl))).trans ?_
      refine (G_iaload (mF fc316 (by rfl))).trans (andR ?_)
      exact G_ireturnI rfl (mF fc316 (by rfl))
    ·
      refine (G_iconst (mF fc316 (by rfl))).trans ?_
      exact G_ireturnI rfl (mF fc316 (by rfl))
theorem e316 {d : Nat} {h : mHeap} {K : Int32 → mHeap → Prop} {a0 : Nat} {x1 : Int32} : GoCi (d + 1) 316 [.ref a0, .int x1] h K ↔ Go d 316 0 [some (.ref a0), some (.int x1)] [] h (rI K) := GoCi_entry rfl rfl
