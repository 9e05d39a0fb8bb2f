set_option maxRecDepth 20000 in
theorem fc135 : mCodes[135]? = some mc135 := rfl
theorem b135_0 {d : Nat} {h : mHeap} {Q : Option Value → mHeap → Prop} {a0 : Nat} {x1 : Int32} {x2 : Int32} {x3 : Int32} {x4 : Int32} {x5 : Int32} : Go d 135 0 [some (.ref a0), some (.int x1), some (.int x2), some (.int x3), some (.int x4), some (.int x5)] [] h Q ↔ okF h a0 11 0 2 ∧ oC h (fR h a0 0) = 9 ∧ GoCi d 97 [.ref (fR h a0 0), .int (ii 20)] h (fun v1 h1 => (if ¬ v1 = ii 0 then (okF h1 a0 11 0 2 ∧ oC h1 (fR h1 a0 0) = 9 ∧ GoCv d 98 [.ref (fR h1 a0 0), .int x1] h1 (fun h2 => okF h2 a0 11 0 2 ∧ oC h2 (fR h2 a0 0) = 9 ∧ GoCv d 98 [.ref (fR h2 a0 0), .int x2] h2 (fun h3 => okF h3 a0 11 0 2 ∧ oC h3 (fR h3 a0 0) = 9 ∧ GoCv d 98 [.ref (fR h3 a0 0), .int x3] h3 (fun h4 => okF h4 a0 11 0 2 ∧ oC h4 (fR h4 a0 0) = 9 ∧ GoCv d 98 [.ref (fR h4 a0 0), .int x4] h4 (fun h5 => okF h5 a0 11 0 2 ∧ oC h5 (fR h5 a0 0) = 9 ∧ GoCv d 98 [.ref (fR h5 a0 0), .int x5] h5 (fun h6 => okF h6 a0 11 0 2 ∧ okF h6 (fR h6 a0 0) 9 1 0 ∧ Q (some (.int (fI h6 (fR h6 a0 0) 1))) h6)))))) else (Q (some (.int (ii (-1)))) h1))) := by
  refine (G_aload rfl (mF fc135 (by rfl))).trans ?_
  refine (G_getR (c := 11) (k := 0) rfl rfl rfl (mF fc135 (by rfl))).trans (andR ?_)
  refine (G_iconst (mF fc135 (by rfl))).trans ?_
  refine (G_Vi (q := 49810) (y := 97) (a := fR h a0 0) (c := 9) rfl rfl rfl rfl (by decide) rfl (as := [.ref (fR h a0 0), .int (ii 20)]) (rest := []) rfl rfl (mF fc135 (by rfl))).trans (andR (GoCi_congr fun v1 h1 => ?_))
  refine (G_ne (mF fc135 (by rfl))).trans (gi ?_ ?_)
  ·
    refine (G_aload rfl (mF fc135 (by rfl))).trans ?_
    refine (G_getR (c := 11) (k := 0) rfl rfl rfl (mF fc135 (by rfl))).trans (andR ?_)
    refine (G_iload rfl (mF fc135 (by rfl))).trans ?_
    refine (G_Vv (q := 50322) (y := 98) (a := fR h1 a0 0) (c := 9) rfl rfl rfl rfl (by decide) rfl (as := [.ref (fR h1 a0 0), .int x1]) (rest := []) rfl rfl (mF fc135 (by rfl))).trans (andR (GoCv_congr fun h2 => ?_))
    refine (G_aload rfl (mF fc135 (by rfl))).trans ?_
    refine (G_getR (c := 11) (k := 0) rfl rfl rfl (mF fc135 (by rfl))).trans (andR ?_)
    refine (G_iload rfl (mF fc135 (by rfl))).trans ?_
    refine (G_Vv (q := 50322) (y := 98) (a := fR h2 a0 0) (c := 9) rfl rfl rfl rfl (by decide) rfl (as := [.ref (fR h2 a0 0), .int x2]) (rest := []) rfl rfl (mF fc135 (by rfl))).trans (andR (GoCv_congr fun h3 => ?_))
    refine (G_aload rfl (mF fc135 (by rfl))).trans ?_
    refine (G_getR (c := 11) (k := 0) rfl rfl rfl (mF fc135 (by rfl))).trans (andR ?_)
    refine (G_iload rfl (mF fc135 (by rfl))).trans ?_
    refine (G_Vv (q := 50322) (y := 98) (a := fR h3 a0 0) (c := 9) rfl rfl rfl rfl (by decide) rfl (as := [.ref (fR h3 a0 0), .int x3]) (rest := []) rfl rfl (mF fc135 (by rfl))).trans (andR (GoCv_congr fun h4 => ?_))
    refine (G_aload rfl (mF fc135 (by rfl))).trans ?_
    refine (G_getR (c := 11) (k := 0) rfl rfl rfl (mF fc135 (by rfl))).trans (andR ?_)
    refine (G_iload rfl (mF fc135 (by rfl))).trans ?_
    refine (G_Vv (q := 50322) (y := 98) (a := fR h4 a0 0) (c := 9) rfl rfl rfl rfl (by decide) rfl (as := [.ref (fR h4 a0 0), .int x4]) (rest := []) rfl rfl (mF fc135 (by rfl))).trans (andR (GoCv_congr fun h5 => ?_))
    refine (G_aload rfl (mF fc135 (by rfl))).trans ?_
    refine (G_getR (c := 11) (k := 0) rfl rfl rfl (mF fc135 (by rfl))).trans (andR ?_)
    refine (G_iload rfl (mF fc135 (by rfl))).trans ?_
    refine (G_Vv (q := 50322) (y := 98) (a := fR h5 a0 0) (c := 9) rfl rfl rfl rfl (by decide) rfl (as := [.ref (fR h5 a0 0), .int x5]) (rest := []) rfl rfl (mF fc135 (by rfl))).trans (andR (GoCv_congr fun h6 => ?_))
    refine (G_aload rfl (mF fc135 (by rfl))).trans ?_
    refine (G_getR (c := 11) (k := 0) rfl rfl rfl (mF fc135 (by rfl))).trans (andR ?_)
    refine (G_getI (c := 9) (k := 1) rfl rfl rfl (mF fc135 (by rfl))).trans (andR ?_)
    exact G_ireturnI rfl (mF fc135 (by rfl))
  ·
    refine (G_iconst (mF fc135 (by rfl))).trans ?_
    exact G_ireturnI rfl (mF fc135 (by rfl))
theorem e135 {d : Nat} {h : mHeap} {K : Int32 → mHeap → Prop} {a0 : Nat} {x1 : Int32} {x2 : Int32} {x3 : Int32} {x4 : Int32} {x5 : Int32} : GoCi (d + 1) 135 [.ref a0, .int x1, .int x2, .int x3, .int x4, .int x5] h K ↔ Go d 135 0 [some (.ref a0), some (.int x1), some (.int x2), some (.int x3), some (.int x4), some (.int x5)] [] h (rI K) := GoCi_entry rfl rfl
set_option maxRecDepth 20000 in
theorem fc136 : mCodes[136]? = some mc136 := rfl
theorem b136_0 {d : Nat} {h : mHeap} {Q : Option Value → mHeap → Prop} {a0 : Nat} {x1 : Int32} : Go d 136 0 [some (.ref a0), some (.int x1)] [] h Q ↔ (if x1 < ii 0 then (Q (some (.int (ii (-1)))) h) else (okF h a0 11 0 2 ∧ okF h (fR h a0 0) 9 1 0 ∧ (if x1 ≤ (fI h (fR h a0 0) 1) then (okF h a0 11 0 2 ∧ okP h (fR h a0 0) 9 1 ∧ Q (some (.int x1)) (sF h (fR h a0 0) 1 (.int x1))) else (Q (some (.int (ii (-1)))) h)))) := by
  refine (G_iload rfl (mF fc136 (by rfl))).trans ?_
  refine (G_lt (mF fc136 (by rfl))).trans (gi ?_ ?_)
  ·
    refine (G_iconst (mF fc136 (by rfl))).trans ?_
    exact G_ireturnI rfl (mF fc136 (by rfl))
  ·
    refine (G_iload rfl (mF fc136 (by rfl))).trans ?_
    refine (G_aload rfl (mF fc136 (by rfl))).trans ?_
    refine (G_getR (c := 11) (k := 0) rfl rfl rfl (mF fc136 (by rfl))).trans (andR ?_)
    refine (G_getI (c := 9) (k := 1) rfl rfl rfl (mF fc136 (by rfl))).trans (andR ?_)
    refine (G_ile (mF fc136 (by rfl))).trans (gi ?_ ?_)
    ·
      refine (G_aload rfl (mF fc136 (by rfl))).trans ?_
      refine (G_getR (c := 11) (k := 0) rfl rfl rfl (mF fc136 (by rfl))).trans (andR ?_)
      refine (G_iload rfl (mF fc136 (by rfl))).trans ?_
      refine (G_putT (c := 9) (k := 1) rfl rfl rfl (mF fc136 (by rfl))).trans (andR ?_)
      refine (G_iload rfl (mF fc136 (by rfl))).trans ?_
      exact G_ireturnI rfl (mF fc136 (by rfl))
    ·
      refine (G_iconst (mF fc136 (by rfl))).trans ?_
      exact G_ireturnI rfl (mF fc136 (by rfl))
theorem e136 {d : Nat} {h : mHeap} {K : Int32 → mHeap → Prop} {a0 : Nat} {x1 : Int32} : GoCi (d + 1) 136 [.ref a0, .int x1] h K ↔ Go d 136 0 [some (.ref a0), some (.int x1)] [] h (rI K) := GoCi_entry rfl rfl
set_option maxRecDepth 20000 in
theorem fc137 : mCodes[137]? = some mc137 := rfl
theorem b137_0 {d : Nat} {h : mHeap} {Q : Option Value → mHeap → Prop} {a0 : Nat} : Go d 137 0 [some (.ref a0), none] [] h Q ↔ (∃ h1 : mHeap, h1 = nO h 2 ∧ 64 ≤ h.length ∧ GoCv d 29 [.ref h.length] h1 (fun h2 => okF h2 a0 11 0 2 ∧ oC h2 h.length = 2 ∧ GoCv d 30 [.ref h.length, .ref (fR h2 a0 0)] h2 (fun h3 => okF h3 a0 11 0 2 ∧ okP h3 (fR h3 a0 0) 9 1 ∧ okF (sF h3 (fR h3 a0 0) 1 (.int (ii 0))) a0 11 0 2 ∧ oC (sF h3 (fR h3 a0 0) 1 (.int (ii 0))) (fR (sF h3 (fR h3 a0 0) 1 (.int (ii 0))) a0 0) = 9 ∧ GoCi d 113 [.ref (fR (sF h3 (fR h3 a0 0) 1 (.int (ii 0))) a0 0)] (sF h3 (fR h3 a0 0) 1 (.int (ii 0))) (fun v4 h4 => (if v4 = ii 0 then (okF h4 a0 11 6 2 ∧ oC h4 (fR h4 a0 6) = 4 ∧ GoCv d 55 [.ref (fR h4 a0 6), .ref h.length] h4 (fun h5 => okF h5 h.length 2 2 0 ∧ Q (some (.int (fI h5 h.length 2))) h5)) else (okF h4 a0 11 0 2 ∧ okF h4 (fR h4 a0 0) 9 2 0 ∧ Q (some (.int ((ii (-2)) - (fI h4 (fR h4 a0 0) 2)))) h4)))))) := by
  refine (G_new (mF fc137 (by rfl))).trans ?_
  refine (exN (A := fun x => Go d 137 3 [some (.ref a0), none] [.ref h.length] x Q) (e := nO h 2) fun h1 => ?_)
  refine (G_dupr (mF fc137 (by rfl))).trans ?_
  refine (G_Nv (q := 14881) (y := 29) (a := h.length) rfl rfl rfl rfl (as := [.ref h.length]) (rest := [.ref h.length]) rfl rfl (mF fc137 (by rfl))).trans (andR (GoCv_congr fun h2 => ?_))
  refine (G_astore (k := 1) (L' := [some (.ref a0), some (.ref h.length)]) rfl (ltb rfl) rfl (mF fc137 (by rfl))).trans ?_
  refine (G_aload rfl (mF fc137 (by rfl))).trans ?_
  refine (G_aload rfl (mF fc137 (by rfl))).trans ?_
  refine (G_getR (c := 11) (k := 0) rfl rfl rfl (mF fc137 (by rfl))).trans (andR ?_)
  refine (G_Vv (q := 15394) (y := 30) (a := h.length) (c := 2) rfl rfl rfl rfl (by decide) rfl (as := [.ref h.length, .ref (fR h2 a0 0)]) (rest := []) rfl rfl (mF fc137 (by rfl))).trans (andR (GoCv_congr fun h3 => ?_))
  refine (G_aload rfl (mF fc137 (by rfl))).trans ?_
  refine (G_getR (c := 11) (k := 0) rfl rfl rfl (mF fc137 (by rfl))).trans (andR ?_)
  refine (G_iconst (mF fc137 (by rfl))).trans ?_
  refine (G_putT (c := 9) (k := 1) rfl rfl rfl (mF fc137 (by rfl))).trans (andR ?_)
  refine (G_aload rfl (mF fc137 (by rfl))).trans ?_
  refine (G_getR (c := 11) (k := 0) rfl rfl rfl (mF fc137 (by rfl))).trans (andR ?_)
  refine (G_Vi (q := 58001) (y := 113) (a := fR (sF h3 (fR h3 a0 0) 1 (.int (ii 0))) a0 0) (c := 9) rfl rfl rfl rfl (by decide) rfl (as := [.ref (fR (sF h3 (fR h3 a0 0) 1 (.int (ii 0))) a0 0)]) (rest := []) rfl rfl (mF fc137 (by rfl))).trans (andR (GoCi_congr fun v4 h4 => ?_))
  refine (G_eq (mF fc137 (by rfl))).trans (gi ?_ ?_)
  ·
    refine (G_aload rfl (mF fc137 (by rfl))).trans ?_
    refine (G_getR (c := 11) (k := 6) rfl rfl rfl (mF fc137 (by rfl))).trans (andR ?_)
    refine (G_aload rfl (mF fc137 (by rfl))).trans ?_
    refine (G_Vv (q := 28226) (y := 55) (a := fR h4 a0 6) (c := 4) rfl rfl rfl rfl (by decide) rfl (as := [.ref (fR h4 a0 6), .ref h.length]) (rest := []) rfl rfl (mF fc137 (by rfl))).trans (andR (GoCv_congr fun h5 => ?_))
    refine (G_aload rfl (mF fc137 (by rfl))).trans ?_
    refine (G_getI (c := 2) (k := 2) rfl rfl rfl (mF fc137 (by rfl))).trans (andR ?_)
    exact G_ireturnI rfl (mF fc137 (by rfl))
  ·
    refine (G_iconst (mF fc137 (by rfl))).trans ?_
    refine (G_aload rfl (mF fc137 (by rfl))).trans ?_
    refine (G_getR (c := 11) (k := 0) rfl rfl rfl (mF fc137 (by rfl))).trans (andR ?_)
    refine (G_getI (c := 9) (k := 2) rfl rfl rfl (mF fc137 (by rfl))).trans (andR ?_)
    refine (G_isub (mF fc137 (by rfl))).trans ?_
    exact G_ireturnI rfl (mF fc137 (by rfl))
theorem e137 {d : Nat} {h : mHeap} {K : Int32 → mHeap → Prop} {a0 : Nat} : GoCi (d + 1) 137 [.ref a0] h K ↔ Go d 137 0 [some (.ref a0), none] [] h (rI K) := GoCi_entry rfl rfl
set_option maxRecDepth 20000 in
theorem fc138 : mCodes[138]? = some mc138 := rfl
theorem b138_0 {d : Nat} {h : mHeap} {Q : Option Value → mHeap → Prop} {a0 : Nat} : Go d 138 0 [some (.ref a0), none] [] h Q ↔ okF h a0 11 3 2 ∧ okF h (fR h a0 3) 8 1 0 ∧ (if (fI h (fR h a0 3) 1) < (ii 24) then (okF h a0 11 1 2 ∧ oC h (fR h a0 1) = 7 ∧ GoCr d 80 [.ref (fR h a0 1)] h (fun v1 h1 => okF h1 a0 11 0 2 ∧ okP h1 (fR h1 a0 0) 9 1 ∧ okF (sF h1 (fR h1 a0 0) 1 (.int (ii 0))) a0 11 0 2 ∧ oC (sF h1 (fR h1 a0 0) 1 (.int (ii 0))) (fR (sF h1 (fR h1 a0 0) 1 (.int (ii 0))) a0 0) = 9 ∧ GoCi d 113 [.ref (fR (sF h1 (fR h1 a0 0) 1 (.int (ii 0))) a0 0)] (sF h1 (fR h1 a0 0) 1 (.int (ii 0))) (fun v2 h2 => (if v2 = ii 0 then (okF h2 a0 11 3 2 ∧ oC h2 (fR h2 a0 3) = 8 ∧ GoCi d 85 [.ref (fR h2 a0 3), .ref v1] h2 (fun v3 h3 => Q (some (.int v3)) h3)) else (okF h2 a0 11 0 2 ∧ okF h2 (fR h2 a0 0) 9 2 0 ∧ Q (some (.int ((ii (-2)) - (fI h2 (fR h2 a0 0) 2)))) h2))))) else (Q (some (.int (ii (-1)))) h)) := by
  refine (G_aload rfl (mF fc138 (by rfl))).trans ?_
  refine (G_getR (c := 11) (k := 3) rfl rfl rfl (mF fc138 (by rfl))).trans (andR ?_)
  refine (G_getI (c := 8) (k := 1) rfl rfl rfl (mF fc138 (by rfl))).trans (andR ?_)
  refine (G_iconst (mF fc138 (by rfl))).trans ?_
  refine (G_ilt (mF fc138 (by rfl))).trans (gi ?_ ?_)
  ·
    refine (G_aload rfl (mF fc138 (by rfl))).trans ?_
    refine (G_getR (c := 11) (k := 1) rfl rfl rfl (mF fc138 (by rfl))).trans (andR ?_)
    refine (G_Vr (q := 41073) (y := 80) (a := fR h a0 1) (c := 7) rfl rfl rfl rfl (by decide) rfl (as := [.ref (fR h a0 1)]) (rest := []) rfl rfl (mF fc138 (by rfl))).trans (andR (GoCr_congr fun v1 h1 => ?_))
    refine (G_astore (k := 1) (L' := [some (.ref a0), some (.ref v1)]) rfl (ltb rfl) rfl (mF fc138 (by rfl))).trans ?_
    refine (G_aload rfl (mF fc138 (by rfl))).trans ?_
    refine (G_getR (c := 11) (k := 0) rfl rfl rfl (mF fc138 (by rfl))).trans (andR ?_)
    refine (G_iconst (mF fc138 (by rfl))).trans ?_
    refine (G_putT (c := 9) (k := 1) rfl rfl rfl (mF fc138 (by rfl))).trans (andR ?_)
    refine (G_aload rfl (mF fc138 (by rfl))).trans ?_
    refine (G_getR (c := 11) (k := 0) rfl rfl rfl (mF fc138 (by rfl))).trans (andR ?_)
    refine (G_Vi (q := 58001) (y := 113) (a := fR (sF h1 (fR h1 a0 0) 1 (.int (ii 0))) a0 0) (c := 9) rfl rfl rfl rfl (by decide) rfl (as := [.ref (fR (sF h1 (fR h1 a0 0) 1 (.int (ii 0))) a0 0)]) (rest := []) rfl rfl (mF fc138 (by rfl))).trans (andR (GoCi_congr fun v2 h2 => ?_))
    refine (G_eq (mF fc138 (by rfl))).trans (gi ?_ ?_)
    ·
      refine (G_aload rfl (mF fc138 (by rfl))).trans ?_
      refine (G_getR (c := 11) (k := 3) rfl rfl rfl (mF fc138 (by rfl))).trans (andR ?_)
      refine (G_aload rfl (mF fc138 (by rfl))).trans ?_
      refine (G_Vi (q := 43650) (y := 85) (a := fR h2 a0 3) (c := 8) rfl rfl rfl rfl (by decide) rfl (as := [.ref (fR h2 a0 3), .ref v1]) (rest := []) rfl rfl (mF fc138 (by rfl))).trans (andR (GoCi_congr fun v3 h3 => ?_))
      exact G_ireturnI rfl (mF fc138 (by rfl))
    ·
      refine (G_iconst (mF fc138 (by rfl))).trans ?_
      refine (G_aload rfl (mF fc138 (by rfl))).trans ?_
      refine (G_getR (c := 11) (k := 0) rfl rfl rfl (mF fc138 (by rfl))).trans (andR ?_)
      refine (G_getI (c := 9) (k := 2) rfl rfl rfl (mF fc138 (by rfl))).trans (andR ?_)
      refine (G_isub (mF fc138 (by rfl))).trans ?_
      exact G_ireturnI rfl (mF fc138 (by rfl))
  ·
    refine (G_iconst (mF fc138 (by rfl))).trans ?_
    exact G_ireturnI rfl (mF fc138 (by rfl))
theorem e138 {d : Nat} {h : mHeap} {K : Int32 → mHeap → Prop} {a0 : Nat} : GoCi (d + 1) 138 [.ref a0] h K ↔ Go d 138 0 [some (.ref a0), none] [] h (rI K) := GoCi_entry rfl rfl
set_option maxRecDepth 20000 in
theorem fc139 : mCodes[139]? = some mc139 := rfl
theorem b139_0 {d : Nat} {h : mHeap} {Q : Option Value → mHeap → Prop} {a0 : Nat} : Go d 139 0 [some (.ref a0)] [] h Q ↔ okF h a0 11 5 0 ∧ (if (fI h a0 5) < (ii 6) then (okF h a0 11 2 2 ∧ oC h (fR h a0 2) = 6 ∧ GoCv d 69 [.ref (fR h a0 2)] h (fun h1 => okF h1 a0 11 0 2 ∧ okP h1 (fR h1 a0 0) 9 1 ∧ okF (sF h1 (fR h1 a0 0) 1 (.int (ii 0))) a0 11 0 2 ∧ oC (sF h1 (fR h1 a0 0) 1 (.int (ii 0))) (fR (sF h1 (fR h1 a0 0) 1 (.int (ii 0))) a0 0) = 9 ∧ GoCi d 113 [.ref (fR (sF h1 (fR h1 a0 0) 1 (.int (ii 0))) a0 0)] (sF h1 (fR h1 a0 0) 1 (.int (ii 0))) (fun v2 h2 => (if v2 = ii 0 then (okF h2 a0 11 4 2 ∧ okF h2 a0 11 5 0 ∧ okF h2 a0 11 2 2 ∧ oC h2 (fR h2 a0 2) = 6 ∧ GoCr d 70 [.ref (fR h2 a0 2)] h2 (fun v3 h3 => okS h3 (fR h2 a0 4) (fI h2 a0 5) v3 ∧ okF (sR h3 (fR h2 a0 4) (fI h2 a0 5) v3) a0 11 5 0 ∧ okP (sR h3 (fR h2 a0 4) (fI h2 a0 5) v3) a0 11 5 ∧ okF (sF (sR h3 (fR h2 a0 4) (fI h2 a0 5) v3) a0 5 (.int ((fI (sR h3 (fR h2 a0 4) (fI h2 a0 5) v3) a0 5) + (ii 1)))) a0 11 5 0 ∧ Q (some (.int ((fI (sF (sR h3 (fR h2 a0 4) (fI h2 a0 5) v3) a0 5 (.int ((fI (sR h3 (fR h2 a0 4) (fI h2 a0 5) v3) a0 5) + (ii 1)))) a0 5) - (ii 1)))) (sF (sR h3 (fR h2 a0 4) (fI h2 a0 5) v3) a0 5 (.int ((fI (sR h3 (fR h2 a0 4) (fI h2 a0 5) v3) a0 5) + (ii 1)))))) else (okF h2 a0 11 0 2 ∧ okF h2 (fR h2 a0 0) 9 2 0 ∧ Q (some (.int ((ii (-2)) - (fI h2 (fR h2 a0 0) 2)))) h2))))) else (Q (some (.int (ii (-1)))) h)) := by
  refine (G_aload rfl (mF fc139 (by rfl))).trans ?_
  refine (G_getI (c := 11) (k := 5) rfl rfl rfl (mF fc139 (by rfl))).trans (andR ?_)
  refine (G_iconst (mF fc139 (by rfl))).trans ?_
  refine (G_ilt (mF fc139 (by rfl))).trans (gi ?_ ?_)
  ·
    refine (G_aload rfl (mF fc139 (by rfl))).trans ?_
    refine (G_getR (c := 11) (k := 2) rfl rfl rfl (mF fc139 (by rfl))).trans (andR ?_)
    refine (G_Vv (q := 35425) (y := 69) (a := fR h a0 2) (c := 6) rfl rfl rfl rfl (by decide) rfl (as := [.ref (fR h a0 2)]) (rest := []) rfl rfl (mF fc139 (by rfl))).trans (andR (GoCv_congr fun h1 => ?_))
    refine (G_aload rfl (mF fc139 (by rfl))).trans ?_
    refine (G_getR (c := 11) (k := 0) rfl rfl rfl (mF fc139 (by rfl))).trans (andR ?_)
    refine (G_iconst (mF fc139 (by rfl))).trans ?_
    refine (G_putT (c := 9) (k := 1) rfl rfl rfl (mF fc139 (by rfl))).trans (andR ?_)
    refine (G_aload rfl (mF fc139 (by rfl))).trans ?_
    refine (G_getR (c := 11) (k := 0) rfl rfl rfl (mF fc139 (by rfl))).trans (andR ?_)
    refine (G_Vi (q := 58001) (y := 113) (a := fR (sF h1 (fR h1 a0 0) 1 (.int (ii 0))) a0 0) (c := 9) rfl rfl rfl rfl (by decide) rfl (as := [.ref (fR (sF h1 (fR h1 a0 0) 1 (.int (ii 0))) a0 0)]) (rest := []) rfl rfl (mF fc139 (by rfl))).trans (andR (GoCi_congr fun v2 h2 => ?_))
    refine (G_eq (mF fc139 (by rfl))).trans (gi ?_ ?_)
    ·
      refine (G_aload rfl (mF fc139 (by rfl))).trans ?_
      refine (G_getR (c := 11) (k := 4) rfl rfl rfl (mF fc139 (by rfl))).trans (andR ?_)
      refine (G_aload rfl (mF fc139 (by rfl))).trans ?_
      refine (G_getI (c := 11) (k := 5) rfl rfl rfl (mF fc139 (by rfl))).trans (andR ?_)
      refine (G_aload rfl (mF fc139 (by rfl))).trans ?_
      refine (G_getR (c := 11) (k := 2) rfl rfl rfl (mF fc139 (by rfl))).trans (andR ?_)
      refine (G_Vr (q := 35937) (y := 70) (a := fR h2 a0 2) (c := 6) rfl rfl rfl rfl (by decide) rfl (as := [.ref (fR h2 a0 2)]) (rest := [.int (fI h2 a0 5), .ref (fR h2 a0 4)]) rfl rfl (mF fc139 (by rfl))).trans (andR (GoCr_congr fun v3 h3 => ?_))
      refine (G_aastore (mF fc139 (by rfl))).trans (andR ?_)
      refine (G_aload rfl (mF fc139 (by rfl))).trans ?_
      refine (G_dupr (mF fc139 (by rfl))).trans ?_
      refine (G_getI (c := 11) (k := 5) rfl rfl rfl (mF fc139 (by rfl))).trans (andR ?_)
      refine (G_iconst (mF fc139 (by rfl))).trans ?_
      refine (G_iadd (mF fc139 (by rfl))).trans ?_
      refine (G_putT (c := 11) (k := 5) rfl rfl rfl (mF fc139 (by rfl))).trans (andR ?_)
      refine (G_aload rfl (mF fc139 (by rfl))).trans ?_
      refine (G_getI (c := 11) (k := 5) rfl rfl rfl (mF fc139 (by rfl))).trans (andR ?_)
      refine (G_iconst (mF fc139 (by rfl))).trans ?_
      refine (G_isub (mF fc139 (by rfl))).trans ?_
      exact G_ireturnI rfl (mF fc139 (by rfl))
    ·
      refine (G_iconst (mF fc139 (by rfl))).trans ?_
      refine (G_aload rfl (mF fc139 (by rfl))).trans ?_
      refine (G_getR (c := 11) (k := 0) rfl rfl rfl (mF fc139 (by rfl))).trans (andR ?_)
      refine (G_getI (c := 9) (k := 2) rfl rfl rfl (mF fc139 (by rfl))).trans (andR ?_)
      refine (G_isub (mF fc139 (by rfl))).trans ?_
      exact G_ireturnI rfl (mF fc139 (by rfl))
  ·
    refine (G_iconst (mF fc139 (by rfl))).trans ?_
    exact G_ireturnI rfl (mF fc139 (by rfl))
theorem e139 {d : Nat} {h : mHeap} {K : Int32 → mHeap → Prop} {a0 : Nat} : GoCi (d + 1) 139 [.ref a0] h K ↔ Go d 139 0 [some (.ref a0)] [] h (rI K) := GoCi_entry rfl rfl
set_option maxRecDepth 20000 in
theorem fc140 : mCodes[140]? = some mc140 := rfl
theorem b140_0 {d : Nat} {h : mHeap} {Q : Option Value → mHeap → Prop} {a0 : Nat} {x1 : Int32} {x2 : Int32} : Go d 140 0 [some (.ref a0), some (.int x1), some (.int x2), none] [] h Q ↔ oC h a0 = 11 ∧ GoCi d 173 [.ref a0, .int x1] h (fun v1 h1 => (if ¬ v1 = ii 0 then (okF h1 a0 11 6 2 ∧ okF h1 (fR h1 a0 6) 4 1 2 ∧ (if x2 = ii 0 then (oC h1 (fR h1 (fR h1 a0 6) 1) = 3 ∧ GoCi d 48 [.ref (fR h1 (fR h1 a0 6) 1), .int x1] h1 (fun v2 h2 => Q (some (.int v2)) h2)) else (if x2 = ii 1 then (okF h1 a0 11 6 2 ∧ okF h1 (fR h1 a0 6) 4 0 2 ∧ okF h1 (fR h1 (fR h1 a0 6) 0) 2 5 2 ∧ okA h1 (fR h1 (fR h1 (fR h1 a0 6) 0) 5) .int x1 ∧ Q (some (.int (eI h1 (fR h1 (fR h1 (fR h1 a0 6) 0) 5) x1))) h1) else (if x2 = ii 2 then (okF h1 a0 11 6 2 ∧ okF h1 (fR h1 a0 6) 4 0 2 ∧ okF h1 (fR h1 (fR h1 a0 6) 0) 2 6 2 ∧ okA h1 (fR h1 (fR h1 (fR h1 a0 6) 0) 6) .int x1 ∧ Q (some (.int (eI h1 (fR h1 (fR h1 (fR h1 a0 6) 0) 6) x1))) h1) else (if x2 = ii 3 then (okF h1 (fR h1 (fR h1 a0 6) 1) 3 4 2 ∧ okA h1 (fR h1 (fR h1 (fR h1 a0 6) 1) 4) .int x1 ∧ Q (some (.int (eI h1 (fR h1 (fR h1 (fR h1 a0 6) 1) 4) x1))) h1) else (if x2 = ii 4 then (oC h1 (fR h1 (fR h1 a0 6) 1) = 3 ∧ GoCi d 49 [.ref (fR h1 (fR h1 a0 6) 1), .int x1] h1 (fun v3 h3 => GoCi d 181 [.int v3] h3 (fun v4 h4 => Q (some (.int v4)) h4))) else (if x2 = ii 5 then (oC h1 (fR h1 (fR h1 a0 6) 1) = 3 ∧ GoCr d 46 [.ref (fR h1 (fR h1 a0 6) 1), .int x1] h1 (fun v5 h5 => oC h5 v5 = 10 ∧ GoCi d 126 [.ref v5] h5 (fun v6 h6 => Q (some (.int v6)) h6))) else (if x2 = ii 6 then (oC h1 (fR h1 (fR h1 a0 6) 1) = 3 ∧ GoCr d 46 [.ref (fR h1 (fR h1 a0 6) 1), .int x1] h1 (fun v7 h7 => okF h7 a0 11 6 2 ∧ okF h7 (fR h7 a0 6) 4 0 2 ∧ okF h7 (fR h7 (fR h7 a0 6) 0) 2 0 0 ∧ oC h7 v7 = 10 ∧ GoCi d 133 [.ref v7, .int (fI h7 (fR h7 (fR h7 a0 6) 0) 0)] h7 (fun v8 h8 => Q (some (.int v8)) h8))) else (Q (some (.int (ii (-1)))) h1))))))))) else (Q (some (.int (ii (-1)))) h1))) := by
  refine (G_aload rfl (mF fc140 (by rfl))).trans ?_
  refine (G_iload rfl (mF fc140 (by rfl))).trans ?_
  refine (G_Vi (q := 88754) (y := 173) (a := a0) (c := 11) rfl rfl rfl rfl (by decide) rfl (as := [.ref a0, .int x1]) (rest := []) rfl rfl (mF fc140 (by rfl))).trans (andR (GoCi_congr fun v1 h1 => ?_))
  refine (G_ne (mF fc140 (by rfl))).trans (gi ?_ ?_)
  ·
    refine (G_aload rfl (mF fc140 (by rfl))).trans ?_
    refine (G_getR (c := 11) (k := 6) rfl rfl rfl (mF fc140 (by rfl))).trans (andR ?_)
    refine (G_getR (c := 4) (k := 1) rfl rfl rfl (mF fc140 (by rfl))).trans (andR ?_)
    refine (G_astore (k := 3) (L' := [some (.ref a0), some (.int x1), some (.int x2), some (.ref (fR h1 (fR h1 a0 6) 1))]) rfl (ltb rfl) rfl (mF fc140 (by rfl))).trans ?_
    refine (G_iload rfl (mF fc140 (by rfl))).trans ?_
    refine (G_tableswitch (lo := 0) (hi := 6) [60, 66, 79, 92, 99, 108, 117] rfl (by decide) (by decide) (by decide) (mF fc140 (by rfl))).trans ?_
    refine gi ?_ ?_
    ·
      refine (G_aload rfl (mF fc140 (by rfl))).trans ?_
      refine (G_iload rfl (mF fc140 (by rfl))).trans ?_
      refine (G_Vi (q := 24626) (y := 48) (a := fR h1 (fR h1 a0 6) 1) (c := 3) rfl rfl rfl rfl (by decide) rfl (as := [.ref (fR h1 (fR h1 a0 6) 1), .int x1]) (rest := []) rfl rfl (mF fc140 (by rfl))).trans (andR (GoCi_congr fun v2 h2 => ?_))
      exact G_ireturnI rfl (mF fc140 (by rfl))
    ·
      refine gi ?_ ?_
      ·
        refine (G_aload rfl (mF fc140 (by rfl))).trans ?_
        refine (G_getR (c := 11) (k := 6) rfl rfl rfl (mF fc140 (by rfl))).trans (andR ?_)
        refine (G_getR (c := 4) (k := 0) rfl rfl rfl (mF fc140 (by rfl))).trans (andR ?_)
        refine (G_getR (c := 2) (k := 5) rfl rfl rfl (mF fc140 (by rfl))).trans (andR ?_)
        refine (G_iload rfl (mF fc140 (by rfl))).trans ?_
        refine (G_iaload (mF fc140 (by rfl))).trans (andR ?_)
        exact G_ireturnI rfl (mF fc140 (by rfl))
      ·
        refine gi ?_ ?_
        ·
          refine (G_aload rfl (mF fc140 (by rfl))).trans ?_
          refine (G_getR (c := 11) (k := 6) rfl rfl rfl (mF fc140 (by rfl))).trans (andR ?_)
          refine (G_getR (c := 4) (k := 0) rfl rfl rfl (mF fc140 (by rfl))).trans (andR ?_)
          refine (G_getR (c := 2) (k := 6) rfl rfl rfl (mF fc140 (by rfl))).trans (andR ?_)
          refine (G_iload rfl (mF fc140 (by rfl))).trans ?_
          refine (G_iaload (mF fc140 (by rfl))).trans (andR ?_)
          exact G_ireturnI rfl (mF fc140 (by rfl))
        ·
          refine gi ?_ ?_
          ·
            refine (G_aload rfl (mF fc140 (by rfl))).trans ?_
            refine (G_getR (c := 3) (k := 4) rfl rfl rfl (mF fc140 (by rfl))).trans (andR ?_)
            refine (G_iload rfl (mF fc140 (by rfl))).trans ?_
            refine (G_iaload (mF fc140 (by rfl))).trans (andR ?_)
            exact G_ireturnI rfl (mF fc140 (by rfl))
          ·
            refine gi ?_ ?_
            ·
              refine (G_aload rfl (mF fc140 (by rfl))).trans ?_
              refine (G_iload rfl (mF fc140 (by rfl))).trans ?_
              refine (G_Vi (q := 25138) (y := 49) (a := fR h1 (fR h1 a0 6) 1) (c := 3) rfl rfl rfl rfl (by decide) rfl (as := [.ref (fR h1 (fR h1 a0 6) 1), .int x1]) (rest := []) rfl rfl (mF fc140 (by rfl))).trans (andR (GoCi_congr fun v3 h3 => ?_))
              refine (G_Ti (q := 92849) (y := 181) rfl rfl rfl (as := [.int v3]) (rest := []) rfl rfl (mF fc140 (by rfl))).trans (GoCi_congr fun v4 h4 => ?_)
              exact G_ireturnI rfl (mF fc140 (by rfl))
            ·
              refine gi ?_ ?_
              ·
                refine (G_aload rfl (mF fc140 (by rfl))).trans ?_
                refine (G_iload rfl (mF fc140 (by rfl))).trans ?_
                refine (G_Vr (q := 23602) (y := 46) (a := fR h1 (fR h1 a0 6) 1) (c := 3) rfl rfl rfl rfl (by decide) rfl (as := [.ref (fR h1 (fR h1 a0 6) 1), .int x1]) (rest := []) rfl rfl (mF fc140 (by rfl))).trans (andR (GoCr_congr fun v5 h5 => ?_))
                refine (G_Vi (q := 64673) (y := 126) (a := v5) (c := 10) rfl rfl rfl rfl (by decide) rfl (as := [.ref v5]) (rest := []) rfl rfl (mF fc140 (by rfl))).trans (andR (GoCi_congr fun v6 h6 => ?_))
                exact G_ireturnI rfl (mF fc140 (by rfl))
              ·
                refine gi ?_ ?_
                ·
                  refine (G_aload rfl (mF fc140 (by rfl))).trans ?_
                  refine (G_iload rfl (mF fc140 (by rfl))).trans ?_
                  refine (G_Vr (q := 23602) (y := 46) (a := fR h1 (fR h1 a0 6) 1) (c := 3) rfl rfl rfl rfl (by decide) rfl (as := [.ref (fR h1 (fR h1 a0 6) 1), .int x1]) (rest := []) rfl rfl (mF fc140 (by rfl))).trans (andR (GoCr_congr fun v7 h7 => ?_))
                  refine (G_aload rfl (mF fc140 (by rfl))).trans ?_
                  refine (G_getR (c := 11) (k := 6) rfl rfl rfl (mF fc140 (by rfl))).trans (andR ?_)
                  refine (G_getR (c := 4) (k := 0) rfl rfl rfl (mF fc140 (by rfl))).trans (andR ?_)
                  refine (G_getI (c := 2) (k := 0) rfl rfl rfl (mF fc140 (by rfl))).trans (andR ?_)
                  refine (G_Vi (q := 68258) (y := 133) (a := v7) (c := 10) rfl rfl rfl rfl (by decide) rfl (as := [.ref v7, .int (fI h7 (fR h7 (fR h7 a0 6) 0) 0)]) (rest := []) rfl rfl (mF fc140 (by rfl))).trans (andR (GoCi_congr fun v8 h8 => ?_))
                  exact G_ireturnI rfl (mF fc140 (by rfl))
                ·
                  refine (G_iconst (mF fc140 (by rfl))).trans ?_
                  exact G_ireturnI rfl (mF fc140 (by rfl))
  ·
    refine (G_iconst (mF fc140 (by rfl))).trans ?_
    exact G_ireturnI rfl (mF fc140 (by rfl))
theorem e140 {d : Nat} {h : mHeap} {K : Int32 → mHeap → Prop} {a0 : Nat} {x1 : Int32} {x2 : Int32} : GoCi (d + 1) 140 [.ref a0, .int x1, .int x2] h K ↔ Go d 140 0 [some (.ref a0), some (.int x1), some (.int x2), none] [] h (rI K) := GoCi_entry rfl rfl
set_option maxRecDepth 20000 in
theorem fc141 : mCodes[141]? = some mc141 := rfl
theorem b141_0 {d : Nat} {h : mHeap} {Q : Option Value → mHeap → Prop} {a0 : Nat} {x1 : Int32} : Go d 141 0 [some (.ref a0), some (.int x1)] [] h Q ↔ (if x1 < ii 0 then (Q (some (.int (ii (-1)))) h) else (okF h a0 11 6 2 ∧ okF h (fR h a0 6) 4 0 2 ∧ okF h (fR h (fR h a0 6) 0) 2 0 0 ∧ (if x1 < (fI h (fR h (fR h a0 6) 0) 0) then (okF h a0 11 6 2 ∧ okF h (fR h a0 6) 4 1 2 ∧ okF h (fR h (fR h a0 6) 1) 3 1 0 ∧ Q (some (.int ((shr (fI h (fR h (fR h a0 6) 1) 1) x1) &&& (ii 1)))) h) else (Q (some (.int (ii (-1)))) h)))) := by
  refine (G_iload rfl (mF fc141 (by rfl))).trans ?_
  refine (G_lt (mF fc141 (by rfl))).trans (gi ?_ ?_)
  ·
    refine (G_iconst (mF fc141 (by rfl))).trans ?_
    exact G_ireturnI rfl (mF fc141 (by rfl))
  ·
    refine (G_iload rfl (mF fc141 (by rfl))).trans ?_
    refine (G_aload rfl (mF fc141 (by rfl))).trans ?_
    refine (G_getR (c := 11) (k := 6) rfl rfl rfl (mF fc141 (by rfl))).trans (andR ?_)
    refine (G_getR (c := 4) (k := 0) rfl rfl rfl (mF fc141 (by rfl))).trans (andR ?_)
    refine (G_getI (c := 2) (k := 0) rfl rfl rfl (mF fc141 (by rfl))).trans (andR ?_)
    refine (G_ilt (mF fc141 (by rfl))).trans (gi ?_ ?_)
    ·
      refine (G_aload rfl (mF fc141 (by rfl))).trans ?_
      refine (G_getR (c := 11) (k := 6) rfl rfl rfl (mF fc141 (by rfl))).trans (andR ?_)
      refine (G_getR (c := 4) (k := 1) rfl rfl rfl (mF fc141 (by rfl))).trans (andR ?_)
      refine (G_getI (c := 3) (k := 1) rfl rfl rfl (mF fc141 (by rfl))).trans (andR ?_)
      refine (G_iload rfl (mF fc141 (by rfl))).trans ?_
      refine (G_ishr (mF fc141 (by rfl))).trans ?_
      refine (G_iconst (mF fc141 (by rfl))).trans ?_
      refine (G_iand (mF fc141 (by rfl))).trans ?_
      exact G_ireturnI rfl (mF fc141 (by rfl))
    ·
      refine (G_iconst (mF fc141 (by rfl))).trans ?_
      exact G_ireturnI rfl (mF fc141 (by rfl))
theorem e141 {d : Nat} {h : mHeap} {K : Int32 → mHeap → Prop} {a0 : Nat} {x1 : Int32} : GoCi (d + 1) 141 [.ref a0, .int x1] h K ↔ Go d 141 0 [some (.ref a0), some (.int x1)] [] h (rI K) := GoCi_entry rfl rfl
set_option maxRecDepth 20000 in
theorem fc142 : mCodes[142]? = some mc142 := rfl
theorem b142_0 {d : Nat} {h : mHeap} {Q : Option Value → mHeap → Prop} {a0 : Nat} {x1 : Int32} : Go d 142 0 [some (.ref a0), some (.int x1)] [] h Q ↔ oC h a0 = 11 ∧ GoCi d 176 [.ref a0, .int x1] h (fun v1 h1 => (if v1 = ii 0 then (Q (some (.int (ii (-1)))) h1) else (okF h1 a0 11 6 2 ∧ okF h1 (fR h1 a0 6) 4 0 2 ∧ okF h1 (fR h1 (fR h1 a0 6) 0) 2 8 2 ∧ okA h1 (fR h1 (fR h1 (fR h1 a0 6) 0) 8) .int x1 ∧ Q (some (.int (eI h1 (fR h1 (fR h1 (fR h1 a0 6) 0) 8) x1))) h1))) := by
  refine (G_aload rfl (mF fc142 (by rfl))).trans ?_
  refine (G_iload rfl (mF fc142 (by rfl))).trans ?_
  refine (G_Vi (q := 90290) (y := 176) (a := a0) (c := 11) rfl rfl rfl rfl (by decide) rfl (as := [.ref a0, .int x1]) (rest := []) rfl rfl (mF fc142 (by rfl))).trans (andR (GoCi_congr fun v1 h1 => ?_))
  refine (G_eq (mF fc142 (by rfl))).trans (gi ?_ ?_)
  ·
    refine (G_iconst (mF fc142 (by rfl))).trans ?_
    exact G_ireturnI rfl (mF fc142 (by rfl))
  ·
    refine (G_aload rfl (mF fc142 (by rfl))).trans ?_
    refine (G_getR (c := 11) (k := 6) rfl rfl rfl (mF fc142 (by rfl))).trans (andR ?_)
    refine (G_getR (c := 4) (k := 0) rfl rfl rfl (mF fc142 (by rfl))).trans (andR ?_)
    refine (G_getR (c := 2) (k := 8) rfl rfl rfl (mF fc142 (by rfl))).trans (andR ?_)
    refine (G_iload rfl (mF fc142 (by rfl))).trans ?_
    refine (G_iaload (mF fc142 (by rfl))).trans (andR ?_)
    refine (G_goto (mF fc142 (by rfl))).trans ?_
    exact G_ireturnI rfl (mF fc142 (by rfl))
theorem e142 {d : Nat} {h : mHeap} {K : Int32 → mHeap → Prop} {a0 : Nat} {x1 : Int32} : GoCi (d + 1) 142 [.ref a0, .int x1] h K ↔ Go d 142 0 [some (.ref a0), some (.int x1)] [] h (rI K) := GoCi_entry rfl rfl
set_option maxRecDepth 20000 in
theorem fc143 : mCodes[143]? = some mc143 := rfl
theorem b143_0 {d : Nat} {h : mHeap} {Q : Option Value → mHeap → Prop} {a0 : Nat} {x1 : Int32} {x2 : Int32} : Go d 143 0 [some (.ref a0), some (.int x1), some (.int x2), none] [] h Q ↔ oC h a0 = 11 ∧ GoCi d 176 [.ref a0, .int x1] h (fun v1 h1 => (if v1 = ii 0 then (Q (some (.int (ii (-1)))) h1) else (oC h1 a0 = 11 ∧ GoCi d 176 [.ref a0, .int x2] h1 (fun v2 h2 => (if ¬ v2 = ii 0 then (okF h2 a0 11 6 2 ∧ okF h2 (fR h2 a0 6) 4 0 2 ∧ oC h2 (fR h2 (fR h2 a0 6) 0) = 2 ∧ GoCi d 41 [.ref (fR h2 (fR h2 a0 6) 0), .int x1, .int x2] h2 (fun v3 h3 => (if (ii 1000) ≤ v3 then (Q (some (.int (ii (-2)))) h3) else (Q (some (.int v3)) h3)))) else (Q (some (.int (ii (-1)))) h2)))))) := by
  refine (G_aload rfl (mF fc143 (by rfl))).trans ?_
  refine (G_iload rfl (mF fc143 (by rfl))).trans ?_
  refine (G_Vi (q := 90290) (y := 176) (a := a0) (c := 11) rfl rfl rfl rfl (by decide) rfl (as := [.ref a0, .int x1]) (rest := []) rfl rfl (mF fc143 (by rfl))).trans (andR (GoCi_congr fun v1 h1 => ?_))
  refine (G_eq (mF fc143 (by rfl))).trans (gi ?_ ?_)
  ·
    refine (G_iconst (mF fc143 (by rfl))).trans ?_
    exact G_ireturnI rfl (mF fc143 (by rfl))
  ·
    refine (G_aload rfl (mF fc143 (by rfl))).trans ?_
    refine (G_iload rfl (mF fc143 (by rfl))).trans ?_
    refine (G_Vi (q := 90290) (y := 176) (a := a0) (c := 11) rfl rfl rfl rfl (by decide) rfl (as := [.ref a0, .int x2]) (rest := []) rfl rfl (mF fc143 (by rfl))).trans (andR (GoCi_congr fun v2 h2 => ?_))
    refine (G_ne (mF fc143 (by rfl))).trans (gi ?_ ?_)
    ·
      refine (G_aload rfl (mF fc143 (by rfl))).trans ?_
      refine (G_getR (c := 11) (k := 6) rfl rfl rfl (mF fc143 (by rfl))).trans (andR ?_)
      refine (G_getR (c := 4) (k := 0) rfl rfl rfl (mF fc143 (by rfl))).trans (andR ?_)
      refine (G_iload rfl (mF fc143 (by rfl))).trans ?_
      refine (G_iload rfl (mF fc143 (by rfl))).trans ?_
      refine (G_Vi (q := 21027) (y := 41) (a := fR h2 (fR h2 a0 6) 0) (c := 2) rfl rfl rfl rfl (by decide) rfl (as := [.ref (fR h2 (fR h2 a0 6) 0), .int x1, .int x2]) (rest := []) rfl rfl (mF fc143 (by rfl))).trans (andR (GoCi_congr fun v3 h3 => ?_))
      refine (G_istore (k := 3) (L' := [some (.ref a0), some (.int x1), some (.int x2), some (.int v3)]) rfl (ltb rfl) rfl (mF fc143 (by rfl))).trans ?_
      refine (G_iload rfl (mF fc143 (by rfl))).trans ?_
      refine (G_iconst (mF fc143 (by rfl))).trans ?_
      refine (G_ige (mF fc143 (by rfl))).trans (gi ?_ ?_)
      ·
        refine (G_iconst (mF fc143 (by rfl))).trans ?_
        exact G_ireturnI rfl (mF fc143 (by rfl))
      ·
        refine (G_iload rfl (mF fc143 (by rfl))).trans ?_
        refine (G_goto (mF fc143 (by rfl))).trans ?_
        exact G_ireturnI rfl (mF fc143 (by rfl))
    ·
      refine (G_iconst (mF fc143 (by rfl))).trans ?_
      exact G_ireturnI rfl (mF fc143 (by rfl))
theorem e143 {d : Nat} {h : mHeap} {K : Int32 → mHeap → Prop} {a0 : Nat} {x1 : Int32} {x2 : Int32} : GoCi (d + 1) 143 [.ref a0, .int x1, .int x2] h K ↔ Go d 143 0 [some (.ref a0), some (.int x1), some (.int x2), none] [] h (rI K) := GoCi_entry rfl rfl
set_option maxRecDepth 20000 in
theorem fc144 : mCodes[144]? = some mc144 := rfl
theorem b144_0 {d : Nat} {h : mHeap} {Q : Option Value → mHeap → Prop} {a0 : Nat} {x1 : Int32} {x2 : Int32} : Go d 144 0 [some (.ref a0), some (.int x1), some (.int x2)] [] h Q ↔ oC h a0 = 11 ∧ GoCi d 178 [.ref a0, .int x1] h (fun v1 h1 => (if v1 = ii 0 then (Q (some (.int (ii (-1)))) h1) else (oC h1 a0 = 11 ∧ GoCi d 177 [.ref a0, .int x2] h1 (fun v2 h2 => (if ¬ v2 = ii 0 then (okF h2 a0 11 3 2 ∧ okF h2 (fR h2 a0 3) 8 0 2 ∧ okR h2 (fR h2 (fR h2 a0 3) 0) x1 ∧ oC h2 (eR h2 (fR h2 (fR h2 a0 3) 0) x1) = 10 ∧ GoCi d 130 [.ref (eR h2 (fR h2 (fR h2 a0 3) 0) x1), .int x2] h2 (fun v3 h3 => GoCi d 181 [.int v3] h3 (fun v4 h4 => Q (some (.int v4)) h4))) else (Q (some (.int (ii (-1)))) h2)))))) := by
  refine (G_aload rfl (mF fc144 (by rfl))).trans ?_
  refine (G_iload rfl (mF fc144 (by rfl))).trans ?_
  refine (G_Vi (q := 91314) (y := 178) (a := a0) (c := 11) rfl rfl rfl rfl (by decide) rfl (as := [.ref a0, .int x1]) (rest := []) rfl rfl (mF fc144 (by rfl))).trans (andR (GoCi_congr fun v1 h1 => ?_))
  refine (G_eq (mF fc144 (by rfl))).trans (gi ?_ ?_)
  ·
    refine (G_iconst (mF fc144 (by rfl))).trans ?_
    exact G_ireturnI rfl (mF fc144 (by rfl))
  ·
    refine (G_aload rfl (mF fc144 (by rfl))).trans ?_
    refine (G_iload rfl (mF fc144 (by rfl))).trans ?_
    refine (G_Vi (q := 90802) (y := 177) (a := a0) (c := 11) rfl rfl rfl rfl (by decide) rfl (as := [.ref a0, .int x2]) (rest := []) rfl rfl (mF fc144 (by rfl))).trans (andR (GoCi_congr fun v2 h2 => ?_))
    refine (G_ne (mF fc144 (by rfl))).trans (gi ?_ ?_)
    ·
      refine (G_aload rfl (mF fc144 (by rfl))).trans ?_
      refine (G_getR (c := 11) (k := 3) rfl rfl rfl (mF fc144 (by rfl))).trans (andR ?_)
      refine (G_getR (c := 8) (k := 0) rfl rfl rfl (mF fc144 (by rfl))).trans (andR ?_)
      refine (G_iload rfl (mF fc144 (by rfl))).trans ?_
      refine (G_aaloadR rfl (mF fc144 (by rfl))).trans (andR ?_)
      refine (G_iload rfl (mF fc144 (by rfl))).trans ?_
      refine (G_Vi (q := 66722) (y := 130) (a := eR h2 (fR h2 (fR h2 a0 3) 0) x1) (c := 10) rfl rfl rfl rfl (by decide) rfl (as := [.ref (eR h2 (fR h2 (fR h2 a0 3) 0) x1), .int x2]) (rest := []) rfl rfl (mF fc144 (by rfl))).trans (andR (GoCi_congr fun v3 h3 => ?_))
      refine (G_Ti (q := 92849) (y := 181) rfl rfl rfl (as := [.int v3]) (rest := []) rfl rfl (mF fc144 (by rfl))).trans (GoCi_congr fun v4 h4 => ?_)
      exact G_ireturnI rfl (mF fc144 (by rfl))
    ·
      refine (G_iconst (mF fc144 (by rfl))).trans ?_
      exact G_ireturnI rfl (mF fc144 (by rfl))
theorem e144 {d : Nat} {h : mHeap} {K : Int32 → mHeap → Prop} {a0 : Nat} {x1 : Int32} {x2 : Int32} : GoCi (d + 1) 144 [.ref a0, .int x1, .int x2] h K ↔ Go d 144 0 [some (.ref a0), some (.int x1), some (.int x2)] [] h (rI K) := GoCi_entry rfl rfl
set_option maxRecDepth 20000 in
theorem fc145 : mCodes[145]? = some mc145 := rfl
theorem b145_0 {d : Nat} {h : mHeap} {Q : Option Value → mHeap → Prop} {a0 : Nat} {x1 : Int32} : Go d 145 0 [some (.ref a0), some (.int x1)] [] h Q ↔ oC h a0 = 11 ∧ GoCi d 178 [.ref a0, .int x1] h (fun v1 h1 => (if v1 = ii 0 then (Q (some (.int (ii (-1)))) h1) else (okF h1 a0 11 6 2 ∧ oC h1 (fR h1 a0 6) = 4 ∧ GoCi d 54 [.ref (fR h1 a0 6)] h1 (fun v2 h2 => (if ¬ v2 = ii 0 then (okF h2 a0 11 3 2 ∧ okF h2 (fR h2 a0 3) 8 0 2 ∧ okR h2 (fR h2 (fR h2 a0 3) 0) x1 ∧ okF h2 a0 11 6 2 ∧ okF h2 (fR h2 a0 6) 4 1 2 ∧ okF h2 (fR h2 (fR h2 a0 6) 1) 3 1 0 ∧ oC h2 (eR h2 (fR h2 (fR h2 a0 3) 0) x1) = 10 ∧ GoCi d 130 [.ref (eR h2 (fR h2 (fR h2 a0 3) 0) x1), .int (fI h2 (fR h2 (fR h2 a0 6) 1) 1)] h2 (fun v3 h3 => GoCi d 181 [.int v3] h3 (fun v4 h4 => Q (some (.int v4)) h4))) else (Q (some (.int (ii (-1)))) h2)))))) := by
  refine (G_aload rfl (mF fc145 (by rfl))).trans ?_
  refine (G_iload rfl (mF fc145 (by rfl))).trans ?_
  refine (G_Vi (q := 91314) (y := 178) (a := a0) (c := 11) rfl rfl rfl rfl (by decide) rfl (as := [.ref a0, .int x1]) (rest := []) rfl rfl (mF fc145 (by rfl))).trans (andR (GoCi_congr fun v1 h1 => ?_))
  refine (G_eq (mF fc145 (by rfl))).trans (gi ?_ ?_)
  ·
    refine (G_iconst (mF fc145 (by rfl))).trans ?_
    exact G_ireturnI rfl (mF fc145 (by rfl))
  ·
    refine (G_aload rfl (mF fc145 (by rfl))).trans ?_
    refine (G_getR (c := 11) (k := 6) rfl rfl rfl (mF fc145 (by rfl))).trans (andR ?_)
    refine (G_Vi (q := 27713) (y := 54) (a := fR h1 a0 6) (c := 4) rfl rfl rfl rfl (by decide) rfl (as := [.ref (fR h1 a0 6)]) (rest := []) rfl rfl (mF fc145 (by rfl))).trans (andR (GoCi_congr fun v2 h2 => ?_))
    refine (G_ne (mF fc145 (by rfl))).trans (gi ?_ ?_)
    ·
      refine (G_aload rfl (mF fc145 (by rfl))).trans ?_
      refine (G_getR (c := 11) (k := 3) rfl rfl rfl (mF fc145 (by rfl))).trans (andR ?_)
      refine (G_getR (c := 8) (k := 0) rfl rfl rfl (mF fc145 (by rfl))).trans (andR ?_)
      refine (G_iload rfl (mF fc145 (by rfl))).trans ?_
      refine (G_aaloadR rfl (mF fc145 (by rfl))).trans (andR ?_)
      refine (G_aload rfl (mF fc145 (by rfl))).trans ?_
      refine (G_getR (c := 11) (k := 6) rfl rfl rfl (mF fc145 (by rfl))).trans (andR ?_)
      refine (G_getR (c := 4) (k := 1) rfl rfl rfl (mF fc145 (by rfl))).trans (andR ?_)
      refine (G_getI (c := 3) (k := 1) rfl rfl rfl (mF fc145 (by rfl))).trans (andR ?_)
      refine (G_Vi (q := 66722) (y := 130) (a := eR h2 (fR h2 (fR h2 a0 3) 0) x1) (c := 10) rfl rfl rfl rfl (by decide) rfl (as := [.ref (eR h2 (fR h2 (fR h2 a0 3) 0) x1), .int (fI h2 (fR h2 (fR h2 a0 6) 1) 1)]) (rest := []) rfl rfl (mF fc145 (by rfl))).trans (andR (GoCi_congr fun v3 h3 => ?_))
      refine (G_Ti (q := 92849) (y := 181) rfl rfl rfl (as := [.int v3]) (rest := []) rfl rfl (mF fc145 (by rfl))).trans (GoCi_congr fun v4 h4 => ?_)
      exact G_ireturnI rfl (mF fc145 (by rfl))
    ·
      refine (G_iconst (mF fc145 (by rfl))).trans ?_
      exact G_ireturnI rfl (mF fc145 (by rfl))
theorem e145 {d : Nat} {h : mHeap} {K : Int32 → mHeap → Prop} {a0 : Nat} {x1 : Int32} : GoCi (d + 1) 145 [.ref a0, .int x1] h K ↔ Go d 145 0 [some (.ref a0), some (.int x1)] [] h (rI K) := GoCi_entry rfl rfl
set_option maxRecDepth 20000 in
theorem fc146 : mCodes[146]? = some mc146 := rfl
theorem b146_0 {d : Nat} {h : mHeap} {Q : Option Value → mHeap → Prop} {a0 : Nat} {x1 : Int32} {x2 : Int32} : Go d 146 0 [some (.ref a0), some (.int x1), some (.int x2)] [] h Q ↔ oC h a0 = 11 ∧ GoCi d 175 [.ref a0, .int x1] h (fun v1 h1 => (if v1 = ii 0 then (Q (some (.int (ii (-2)))) h1) else (oC h1 a0 = 11 ∧ GoCi d 178 [.ref a0, .int x2] h1 (fun v2 h2 => (if ¬ v2 = ii 0 then (okF h2 a0 11 6 2 ∧ okF h2 (fR h2 a0 6) 4 1 2 ∧ oC h2 (fR h2 (fR h2 a0 6) 1) = 3 ∧ GoCr d 46 [.ref (fR h2 (fR h2 a0 6) 1), .int x1] h2 (fun v3 h3 => okF h3 a0 11 3 2 ∧ okF h3 (fR h3 a0 3) 8 0 2 ∧ okR h3 (fR h3 (fR h3 a0 3) 0) x2 ∧ oC h3 v3 = 10 ∧ GoCi d 128 [.ref v3, .ref (eR h3 (fR h3 (fR h3 a0 3) 0) x2)] h3 (fun v4 h4 => GoCi d 181 [.int v4] h4 (fun v5 h5 => Q (some (.int v5)) h5)))) else (Q (some (.int (ii (-2)))) h2)))))) := by
  refine (G_aload rfl (mF fc146 (by rfl))).trans ?_
  refine (G_iload rfl (mF fc146 (by rfl))).trans ?_
  refine (G_Vi (q := 89778) (y := 175) (a := a0) (c := 11) rfl rfl rfl rfl (by decide) rfl (as := [.ref a0, .int x1]) (rest := []) rfl rfl (mF fc146 (by rfl))).trans (andR (GoCi_congr fun v1 h1 => ?_))
  refine (G_eq (mF fc146 (by rfl))).trans (gi ?_ ?_)
  ·
    refine (G_iconst (mF fc146 (by rfl))).trans ?_
    exact G_ireturnI rfl (mF fc146 (by rfl))
  ·
    refine (G_aload rfl (mF fc146 (by rfl))).trans ?_
    refine (G_iload rfl (mF fc146 (by rfl))).trans ?_
    refine (G_Vi (q := 91314) (y := 178) (a := a0) (c := 11) rfl rfl rfl rfl (by decide) rfl (as := [.ref a0, .int x2]) (rest := []) rfl rfl (mF fc146 (by rfl))).trans (andR (GoCi_congr fun v2 h2 => ?_))
    refine (G_ne (mF fc146 (by rfl))).trans (gi ?_ ?_)
    ·
      refine (G_aload rfl (mF fc146 (by rfl))).trans ?_
      refine (G_getR (c := 11) (k := 6) rfl rfl rfl (mF fc146 (by rfl))).trans (andR ?_)
      refine (G_getR (c := 4) (k := 1) rfl rfl rfl (mF fc146 (by rfl))).trans (andR ?_)
      refine (G_iload rfl (mF fc146 (by rfl))).trans ?_
      refine (G_Vr (q := 23602) (y := 46) (a := fR h2 (fR h2 a0 6) 1) (c := 3) rfl rfl rfl rfl (by decide) rfl (as := [.ref (fR h2 (fR h2 a0 6) 1), .int x1]) (rest := []) rfl rfl (mF fc146 (by rfl))).trans (andR (GoCr_congr fun v3 h3 => ?_))
      refine (G_aload rfl (mF fc146 (by rfl))).trans ?_
      refine (G_getR (c := 11) (k := 3) rfl rfl rfl (mF fc146 (by rfl))).trans (andR ?_)
      refine (G_getR (c := 8) (k := 0) rfl rfl rfl (mF fc146 (by rfl))).trans (andR ?_)
      refine (G_iload rfl (mF fc146 (by rfl))).trans ?_
      refine (G_aaloadR rfl (mF fc146 (by rfl))).trans (andR ?_)
      refine (G_Vi (q := 65698) (y := 128) (a := v3) (c := 10) rfl rfl rfl rfl (by decide) rfl (as := [.ref v3, .ref (eR h3 (fR h3 (fR h3 a0 3) 0) x2)]) (rest := []) rfl rfl (mF fc146 (by rfl))).trans (andR (GoCi_congr fun v4 h4 => ?_))
      refine (G_Ti (q := 92849) (y := 181) rfl rfl rfl (as := [.int v4]) (rest := []) rfl rfl (mF fc146 (by rfl))).trans (GoCi_congr fun v5 h5 => ?_)
      exact G_ireturnI rfl (mF fc146 (by rfl))
    ·
      refine (G_iconst (mF fc146 (by rfl))).trans ?_
      exact G_ireturnI rfl (mF fc146 (by rfl))
theorem e146 {d : Nat} {h : mHeap} {K : Int32 → mHeap → Prop} {a0 : Nat} {x1 : Int32} {x2 : Int32} : GoCi (d + 1) 146 [.ref a0, .int x1, .int x2] h K ↔ Go d 146 0 [some (.ref a0), some (.int x1), some (.int x2)] [] h (rI K) := GoCi_entry rfl rfl
set_option maxRecDepth 20000 in
theorem fc147 : mCodes[147]? = some mc147 := rfl
theorem b147_0 {d : Nat} {h : mHeap} {Q : Option Value → mHeap → Prop} {a0 : Nat} {x1 : Int32} {x2 : Int32} : Go d 147 0 [some (.ref a0), some (.int x1), some (.int x2)] [] h Q ↔ oC h a0 = 11 ∧ GoCi d 175 [.ref a0, .int x1] h (fun v1 h1 => (if v1 = ii 0 then (Q (some (.int (ii (-2)))) h1) else (oC h1 a0 = 11 ∧ GoCi d 177 [.ref a0, .int x2] h1 (fun v2 h2 => (if ¬ v2 = ii 0 then (okF h2 a0 11 6 2 ∧ okF h2 (fR h2 a0 6) 4 1 2 ∧ oC h2 (fR h2 (fR h2 a0 6) 1) = 3 ∧ GoCr d 46 [.ref (fR h2 (fR h2 a0 6) 1), .int x1] h2 (fun v3 h3 => oC h3 v3 = 10 ∧ GoCi d 130 [.ref v3, .int x2] h3 (fun v4 h4 => GoCi d 181 [.int v4] h4 (fun v5 h5 => Q (some (.int v5)) h5)))) else (Q (some (.int (ii (-2)))) h2)))))) := by
  refine (G_aload rfl (mF fc147 (by rfl))).trans ?_
  refine (G_iload rfl (mF fc147 (by rfl))).trans ?_
  refine (G_Vi (q := 89778) (y := 175) (a := a0) (c := 11) rfl rfl rfl rfl (by decide) rfl (as := [.ref a0, .int x1]) (rest := []) rfl rfl (mF fc147 (by rfl))).trans (andR (GoCi_congr fun v1 h1 => ?_))
  refine (G_eq (mF fc147 (by rfl))).trans (gi ?_ ?_)
  ·
    refine (G_iconst (mF fc147 (by rfl))).trans ?_
    exact G_ireturnI rfl (mF fc147 (by rfl))
  ·
    refine (G_aload rfl (mF fc147 (by rfl))).trans ?_
    refine (G_iload rfl (mF fc147 (by rfl))).trans ?_
    refine (G_Vi (q := 90802) (y := 177) (a := a0) (c := 11) rfl rfl rfl rfl (by decide) rfl (as := [.ref a0, .int x2]) (rest := []) rfl rfl (mF fc147 (by rfl))).trans (andR (GoCi_congr fun v2 h2 => ?_))
    refine (G_ne (mF fc147 (by rfl))).trans (gi ?_ ?_)
    ·
      refine (G_aload rfl (mF fc147 (by rfl))).trans ?_
      refine (G_getR (c := 11) (k := 6) rfl rfl rfl (mF fc147 (by rfl))).trans (andR ?_)
      refine (G_getR (c := 4) (k := 1) rfl rfl rfl (mF fc147 (by rfl))).trans (andR ?_)
      refine (G_iload rfl (mF fc147 (by rfl))).trans ?_
      refine (G_Vr (q := 23602) (y := 46) (a := fR h2 (fR h2 a0 6) 1) (c := 3) rfl rfl rfl rfl (by decide) rfl (as := [.ref (fR h2 (fR h2 a0 6) 1), .int x1]) (rest := []) rfl rfl (mF fc147 (by rfl))).trans (andR (GoCr_congr fun v3 h3 => ?_))
      refine (G_iload rfl (mF fc147 (by rfl))).trans ?_
      refine (G_Vi (q := 66722) (y := 130) (a := v3) (c := 10) rfl rfl rfl rfl (by decide) rfl (as := [.ref v3, .int x2]) (rest := []) rfl rfl (mF fc147 (by rfl))).trans (andR (GoCi_congr fun v4 h4 => ?_))
      refine (G_Ti (q := 92849) (y := 181) rfl rfl rfl (as := [.int v4]) (rest := []) rfl rfl (mF fc147 (by rfl))).trans (GoCi_congr fun v5 h5 => ?_)
      exact G_ireturnI rfl (mF fc147 (by rfl))
    ·
      refine (G_iconst (mF fc147 (by rfl))).trans ?_
      exact G_ireturnI rfl (mF fc147 (by rfl))
theorem e147 {d : Nat} {h : mHeap} {K : Int32 → mHeap → Prop} {a0 : Nat} {x1 : Int32} {x2 : Int32} : GoCi (d + 1) 147 [.ref a0, .int x1, .int x2] h K ↔ Go d 147 0 [some (.ref a0), some (.int x1), some (.int x2)] [] h (rI K) := GoCi_entry rfl rfl
set_option maxRecDepth 20000 in
theorem fc148 : mCodes[148]? = some mc148 := rfl
theorem b148_0 {d : Nat} {h : mHeap} {Q : Option Value → mHeap → Prop} {a0 : Nat} {x1 : Int32} : Go d 148 0 [some (.ref a0), some (.int x1)] [] h Q ↔ oC h a0 = 11 ∧ GoCi d 178 [.ref a0, .int x1] h (fun v1 h1 => (if v1 = ii 0 then (Q (some (.int (ii (-1)))) h1) else (okF h1 a0 11 6 2 ∧ oC h1 (fR h1 a0 6) = 4 ∧ GoCi d 54 [.ref (fR h1 a0 6)] h1 (fun v2 h2 => (if ¬ v2 = ii 0 then (okF h2 a0 11 6 2 ∧ okF h2 (fR h2 a0 6) 4 1 2 ∧ oC h2 (fR h2 (fR h2 a0 6) 1) = 3 ∧ GoCr d 46 [.ref (fR h2 (fR h2 a0 6) 1), .int (ii (-1))] h2 (fun v3 h3 => okF h3 a0 11 3 2 ∧ okF h3 (fR h3 a0 3) 8 0 2 ∧ okR h3 (fR h3 (fR h3 a0 3) 0) x1 ∧ oC h3 v3 = 10 ∧ GoCi d 127 [.ref v3, .ref (eR h3 (fR h3 (fR h3 a0 3) 0) x1)] h3 (fun v4 h4 => Q (some (.int v4)) h4))) else (Q (some (.int (ii (-1)))) h2)))))) := by
  refine (G_aload rfl (mF fc148 (by rfl))).trans ?_
  refine (G_iload rfl (mF fc148 (by rfl))).trans ?_
  refine (G_Vi (q := 91314) (y := 178) (a := a0) (c := 11) rfl rfl rfl rfl (by decide) rfl (as := [.ref a0, .int x1]) (rest := []) rfl rfl (mF fc148 (by rfl))).trans (andR (GoCi_congr fun v1 h1 => ?_))
  refine (G_eq (mF fc148 (by rfl))).trans (gi ?_ ?_)
  ·
    refine (G_iconst (mF fc148 (by rfl))).trans ?_
    exact G_ireturnI rfl (mF fc148 (by rfl))
  ·
    refine (G_aload rfl (mF fc148 (by rfl))).trans ?_
    refine (G_getR (c := 11) (k := 6) rfl rfl rfl (mF fc148 (by rfl))).trans (andR ?_)
    refine (G_Vi (q := 27713) (y := 54) (a := fR h1 a0 6) (c := 4) rfl rfl rfl rfl (by decide) rfl (as := [.ref (fR h1 a0 6)]) (rest := []) rfl rfl (mF fc148 (by rfl))).trans (andR (GoCi_congr fun v2 h2 => ?_))
    refine (G_ne (mF fc148 (by rfl))).trans (gi ?_ ?_)
    ·
      refine (G_aload rfl (mF fc148 (by rfl))).trans ?_
      refine (G_getR (c := 11) (k := 6) rfl rfl rfl (mF fc148 (by rfl))).trans (andR ?_)
      refine (G_getR (c := 4) (k := 1) rfl rfl rfl (mF fc148 (by rfl))).trans (andR ?_)
      refine (G_iconst (mF fc148 (by rfl))).trans ?_
      refine (G_Vr (q := 23602) (y := 46) (a := fR h2 (fR h2 a0 6) 1) (c := 3) rfl rfl rfl rfl (by decide) rfl (as := [.ref (fR h2 (fR h2 a0 6) 1), .int (ii (-1))]) (rest := []) rfl rfl (mF fc148 (by rfl))).trans (andR (GoCr_congr fun v3 h3 => ?_))
      refine (G_aload rfl (mF fc148 (by rfl))).trans ?_
      refine (G_getR (c := 11) (k := 3) rfl rfl rfl (mF fc148 (by rfl))).trans (andR ?_)
      refine (G_getR (c := 8) (k := 0) rfl rfl rfl (mF fc148 (by rfl))).trans (andR ?_)
      refine (G_iload rfl (mF fc148 (by rfl))).trans ?_
      refine (G_aaloadR rfl (mF fc148 (by rfl))).trans (andR ?_)
      refine (G_Vi (q := 65186) (y := 127) (a := v3) (c := 10) rfl rfl rfl rfl (by decide) rfl (as := [.ref v3, .ref (eR h3 (fR h3 (fR h3 a0 3) 0) x1)]) (rest := []) rfl rfl (mF fc148 (by rfl))).trans (andR (GoCi_congr fun v4 h4 => ?_))
      exact G_ireturnI rfl (mF fc148 (by rfl))
    ·
      refine (G_iconst (mF fc148 (by rfl))).trans ?_
      exact G_ireturnI rfl (mF fc148 (by rfl))
theorem e148 {d : Nat} {h : mHeap} {K : Int32 → mHeap → Prop} {a0 : Nat} {x1 : Int32} : GoCi (d + 1) 148 [.ref a0, .int x1] h K ↔ Go d 148 0 [some (.ref a0), some (.int x1)] [] h (rI K) := GoCi_entry rfl rfl
set_option maxRecDepth 20000 in
theorem fc149 : mCodes[149]? = some mc149 := rfl
theorem b149_0 {d : Nat} {h : mHeap} {Q : Option Value → mHeap → Prop} {a0 : Nat} {x1 : Int32} : Go d 149 0 [some (.ref a0), some (.int x1)] [] h Q ↔ oC h a0 = 11 ∧ GoCi d 178 [.ref a0, .int x1] h (fun v1 h1 => (if v1 = ii 0 then (Q (some (.int (ii (-1)))) h1) else (okF h1 a0 11 6 2 ∧ oC h1 (fR h1 a0 6) = 4 ∧ GoCi d 54 [.ref (fR h1 a0 6)] h1 (fun v2 h2 => (if ¬ v2 = ii 0 then (okF h2 a0 11 6 2 ∧ okF h2 (fR h2 a0 6) 4 1 2 ∧ oC h2 (fR h2 (fR h2 a0 6) 1) = 3 ∧ GoCr d 46 [.ref (fR h2 (fR h2 a0 6) 1), .int (ii (-1))] h2 (fun v3 h3 => okF h3 a0 11 3 2 ∧ okF h3 (fR h3 a0 3) 8 0 2 ∧ okR h3 (fR h3 (fR h3 a0 3) 0) x1 ∧ oC h3 v3 = 10 ∧ GoCi d 131 [.ref v3, .ref (eR h3 (fR h3 (fR h3 a0 3) 0) x1)] h3 (fun v4 h4 => Q (some (.int v4)) h4))) else (Q (some (.int (ii (-1)))) h2)))))) := by
  refine (G_aload rfl (mF fc149 (by rfl))).trans ?_
  refine (G_iload rfl (mF fc149 (by rfl))).trans ?_
  refine (G_Vi (q := 91314) (y := 178) (a := a0) (c := 11) rfl rfl rfl rfl (by decide) rfl (as := [.ref a0, .int x1]) (rest := []) rfl rfl (mF fc149 (by rfl))).trans (andR (GoCi_congr fun v1 h1 => ?_))
  refine (G_eq (mF fc149 (by rfl))).trans (gi ?_ ?_)
  ·
    refine (G_iconst (mF fc149 (by rfl))).trans ?_
    exact G_ireturnI rfl (mF fc149 (by rfl))
  ·
    refine (G_aload rfl (mF fc149 (by rfl))).trans ?_
    refine (G_getR (c := 11) (k := 6) rfl rfl rfl (mF fc149 (by rfl))).trans (andR ?_)
    refine (G_Vi (q := 27713) (y := 54) (a := fR h1 a0 6) (c := 4) rfl rfl rfl rfl (by decide) rfl (as := [.ref (fR h1 a0 6)]) (rest := []) rfl rfl (mF fc149 (by rfl))).trans (andR (GoCi_congr fun v2 h2 => ?_))
    refine (G_ne (mF fc149 (by rfl))).trans (gi ?_ ?_)
    ·
      refine (G_aload rfl (mF fc149 (by rfl))).trans ?_
      refine (G_getR (c := 11) (k := 6) rfl rfl rfl (mF fc149 (by rfl))).trans (andR ?_)
      refine (G_getR (c := 4) (k := 1) rfl rfl rfl (mF fc149 (by rfl))).trans (andR ?_)
      refine (G_iconst (mF fc149 (by rfl))).trans ?_
      refine (G_Vr (q := 23602) (y := 46) (a := fR h2 (fR h2 a0 6) 1) (c := 3) rfl rfl rfl rfl (by decide) rfl (as := [.ref (fR h2 (fR h2 a0 6) 1), .int (ii (-1))]) (rest := []) rfl rfl (mF fc149 (by rfl))).trans (andR (GoCr_congr fun v3 h3 => ?_))
      refine (G_aload rfl (mF fc149 (by rfl))).trans ?_
      refine (G_getR (c := 11) (k := 3) rfl rfl rfl (mF fc149 (by rfl))).trans (andR ?_)
      refine (G_getR (c := 8) (k := 0) rfl rfl rfl (mF fc149 (by rfl))).trans (andR ?_)
      refine (G_iload rfl (mF fc149 (by rfl))).trans ?_
      refine (G_aaloadR rfl (mF fc149 (by rfl))).trans (andR ?_)
      refine (G_Vi (q := 67234) (y := 131) (a := v3) (c := 10) rfl rfl rfl rfl (by decide) rfl (as := [.ref v3, .ref (eR h3 (fR h3 (fR h3 a0 3) 0) x1)]) (rest := []) rfl rfl (mF fc149 (by rfl))).trans (andR (GoCi_congr fun v4 h4 => ?_))
      exact G_ireturnI rfl (mF fc149 (by rfl))
    ·
      refine (G_iconst (mF fc149 (by rfl))).trans ?_
      exact G_ireturnI rfl (mF fc149 (by rfl))
theorem e149 {d : Nat} {h : mHeap} {K : Int32 → mHeap → Prop} {a0 : Nat} {x1 : Int32} : GoCi (d + 1) 149 [.ref a0, .int x1] h K ↔ Go d 149 0 [some (.ref a0), some (.int x1)] [] h (rI K) := GoCi_entry rfl rfl
set_option maxRecDepth 20000 in
theorem fc150 : mCodes[150]? = some mc150 := rfl
theorem b150_0 {d : Nat} {h : mHeap} {Q : Option Value → mHeap → Prop} {a0 : Nat} {x1 : Int32} {x2 : Int32} : Go d 150 0 [some (.ref a0), some (.int x1), some (.int x2)] [] h Q ↔ oC h a0 = 11 ∧ GoCi d 174 [.ref a0, .int x1] h (fun v1 h1 => (if v1 = ii 0 then (Q (some (.int (ii (-1)))) h1) else (oC h1 a0 = 11 ∧ GoCi d 178 [.ref a0, .int x2] h1 (fun v2 h2 => (if ¬ v2 = ii 0 then (okF h2 a0 11 6 2 ∧ oC h2 (fR h2 a0 6) = 4 ∧ GoCv d 57 [.ref (fR h2 a0 6)] h2 (fun h3 => okF h3 a0 11 6 2 ∧ okF h3 (fR h3 a0 6) 4 1 2 ∧ okF h3 a0 11 6 2 ∧ okF h3 (fR h3 a0 6) 4 0 2 ∧ okF h3 (fR h3 (fR h3 a0 6) 0) 2 5 2 ∧ okA h3 (fR h3 (fR h3 (fR h3 a0 6) 0) 5) .int x1 ∧ okF h3 a0 11 3 2 ∧ okF h3 (fR h3 a0 3) 8 0 2 ∧ okR h3 (fR h3 (fR h3 a0 3) 0) x2 ∧ oC h3 (fR h3 (fR h3 a0 6) 1) = 3 ∧ GoCi d 50 [.ref (fR h3 (fR h3 a0 6) 1), .int x1, .int (eI h3 (fR h3 (fR h3 (fR h3 a0 6) 0) 5) x1), .ref (eR h3 (fR h3 (fR h3 a0 3) 0) x2)] h3 (fun v4 h4 => Q (some (.int v4)) h4))) else (Q (some (.int (ii (-1)))) h2)))))) := by
  refine (G_aload rfl (mF fc150 (by rfl))).trans ?_
  refine (G_iload rfl (mF fc150 (by rfl))).trans ?_
  refine (G_Vi (q := 89266) (y := 174) (a := a0) (c := 11) rfl rfl rfl rfl (by decide) rfl (as := [.ref a0, .int x1]) (rest := []) rfl rfl (mF fc150 (by rfl))).trans (andR (GoCi_congr fun v1 h1 => ?_))
  refine (G_eq (mF fc150 (by rfl))).trans (gi ?_ ?_)
  ·
    refine (G_iconst (mF fc150 (by rfl))).trans ?_
    exact G_ireturnI rfl (mF fc150 (by rfl))
  ·
    refine (G_aload rfl (mF fc150 (by rfl))).trans ?_
    refine (G_iload rfl (mF fc150 (by rfl))).trans ?_
    refine (G_Vi (q := 91314) (y := 178) (a := a0) (c := 11) rfl rfl rfl rfl (by decide) rfl (as := [.ref a0, .int x2]) (rest := []) rfl rfl (mF fc150 (by rfl))).trans (andR (GoCi_congr fun v2 h2 => ?_))
    refine (G_ne (mF fc150 (by rfl))).trans (gi ?_ ?_)
    ·
      refine (G_aload rfl (mF fc150 (by rfl))).trans ?_
      refine (G_getR (c := 11) (k := 6) rfl rfl rfl (mF fc150 (by rfl))).trans (andR ?_)
      refine (G_Vv (q := 29249) (y := 57) (a := fR h2 a0 6) (c := 4) rfl rfl rfl rfl (by decide) rfl (as := [.ref (fR h2 a0 6)]) (rest := []) rfl rfl (mF fc150 (by rfl))).trans (andR (GoCv_congr fun h3 => ?_))
      refine (G_aload rfl (mF fc150 (by rfl))).trans ?_
      refine (G_getR (c := 11) (k := 6) rfl rfl rfl (mF fc150 (by rfl))).trans (andR ?_)
      refine (G_getR (c := 4) (k := 1) rfl rfl rfl (mF fc150 (by rfl))).trans (andR ?_)
      refine (G_iload rfl (mF fc150 (by rfl))).trans ?_
      refine (G_aload rfl (mF fc150 (by rfl))).trans ?_
      refine (G_getR (c := 11) (k := 6) rfl rfl rfl (mF fc150 (by rfl))).trans (andR ?_)
      refine (G_getR (c := 4) (k := 0) rfl rfl rfl (mF fc150 (by rfl))).trans (andR ?_)
      refine (G_getR (c := 2) (k := 5) rfl rfl rfl (mF fc150 (by rfl))).trans (andR ?_)
      refine (G_iload rfl (mF fc150 (by rfl))).trans ?_
      refine (G_iaload (mF fc150 (by rfl))).trans (andR ?_)
      refine (G_aload rfl (mF fc150 (by rfl))).trans ?_
      refine (G_getR (c := 11) (k := 3) rfl rfl rfl (mF fc150 (by rfl))).trans (andR ?_)
      refine (G_getR (c := 8) (k := 0) rfl rfl rfl (mF fc150 (by rfl))).trans (andR ?_)
      refine (G_iload rfl (mF fc150 (by rfl))).trans ?_
      refine (G_aaloadR rfl (mF fc150 (by rfl))).trans (andR ?_)
      refine (G_Vi (q := 25652) (y := 50) (a := fR h3 (fR h3 a0 6) 1) (c := 3) rfl rfl rfl rfl (by decide) rfl (as := [.ref (fR h3 (fR h3 a0 6) 1), .int x1, .int (eI h3 (fR h3 (fR h3 (fR h3 a0 6) 0) 5) x1), .ref (eR h3 (fR h3 (fR h3 a0 3) 0) x2)]) (rest := []) rfl rfl (mF fc150 (by rfl))).trans (andR (GoCi_congr fun v4 h4 => ?_))
      exact G_ireturnI rfl (mF fc150 (by rfl))
    ·
      refine (G_iconst (mF fc150 (by rfl))).trans ?_
      exact G_ireturnI rfl (mF fc150 (by rfl))
theorem e150 {d : Nat} {h : mHeap} {K : Int32 → mHeap → Prop} {a0 : Nat} {x1 : Int32} {x2 : Int32} : GoCi (d + 1) 150 [.ref a0, .int x1, .int x2] h K ↔ Go d 150 0 [some (.ref a0), some (.int x1), some (.int x2)] [] h (rI K) := GoCi_entry rfl rfl
set_option maxRecDepth 20000 in
theorem fc151 : mCodes[151]? = some mc151 := rfl
theorem b151_0 {d : Nat} {h : mHeap} {Q : Option Value → mHeap → Prop} {a0 : Nat} {x1 : Int32} {x2 : Int32} {x3 : Int32} : Go d 151 0 [some (.ref a0), some (.int x1), some (.int x2), some (.int x3), none, none] [] h Q ↔ oC h a0 = 11 ∧ GoCi d 174 [.ref a0, .int x1] h (fun v1 h1 => (if v1 = ii 0 then (Q (some (.int (ii (-1)))) h1) else (oC h1 a0 = 11 ∧ GoCi d 174 [.ref a0, .int x2] h1 (fun v2 h2 => (if v2 = ii 0 then (Q (some (.int (ii (-1)))) h2) else ((if x1 = x2 then (Q (some (.int (ii (-1)))) h2) else (oC h2 a0 = 11 ∧ GoCi d 178 [.ref a0, .int x3] h2 (fun v3 h3 => (if ¬ v3 = ii 0 then (okF h3 a0 11 6 2 ∧ okF h3 (fR h3 a0 6) 4 1 2 ∧ okF h3 a0 11 3 2 ∧ okF h3 (fR h3 a0 3) 8 0 2 ∧ okR h3 (fR h3 (fR h3 a0 3) 0) x3 ∧ oC h3 (fR h3 (fR h3 a0 6) 1) = 3 ∧ GoCi d 48 [.ref (fR h3 (fR h3 a0 6) 1), .int x1] h3 (fun v4 h4 => oC h4 (fR h3 (fR h3 a0 6) 1) = 3 ∧ GoCi d 48 [.ref (fR h3 (fR h3 a0 6) 1), .int x2] h4 (fun v5 h5 => (if ¬ v4 = v5 then (Q (some (.int (ii (-1)))) h5) else (oC h5 (fR h3 (fR h3 a0 6) 1) = 3 ∧ GoCr d 46 [.ref (fR h3 (fR h3 a0 6) 1), .int x1] h5 (fun v6 h6 => oC h6 v6 = 10 ∧ GoCi d 128 [.ref v6, .ref (eR h3 (fR h3 (fR h3 a0 3) 0) x3)] h6 (fun v7 h7 => (if ¬ v7 = ii 0 then (okF h7 a0 11 6 2 ∧ oC h7 (fR h7 a0 6) = 4 ∧ GoCv d 57 [.ref (fR h7 a0 6)] h7 (fun h8 => oC h8 (fR h3 (fR h3 a0 6) 1) = 3 ∧ GoCr d 46 [.ref (fR h3 (fR h3 a0 6) 1), .int x2] h8 (fun v9 h9 => oC h9 v9 = 10 ∧ GoCv d 121 [.ref v9, .ref (eR h3 (fR h3 (fR h3 a0 3) 0) x3)] h9 (fun h10 => oC h10 (fR h3 (fR h3 a0 6) 1) = 3 ∧ GoCr d 46 [.ref (fR h3 (fR h3 a0 6) 1), .int x2] h10 (fun v11 h11 => oC h11 v11 = 10 ∧ GoCi d 126 [.ref v11] h11 (fun v12 h12 => Q (some (.int v12)) h12)))))) else (Q (some (.int (ii (-1)))) h7))))))))) else (Q (some (.int (ii (-1)))) h3))))))))))) := by
  refine (G_aload rfl (mF fc151 (by rfl))).trans ?_
  refine (G_iload rfl (mF fc151 (by rfl))).trans ?_
  refine (G_Vi (q := 89266) (y := 174) (a := a0) (c := 11) rfl rfl rfl rfl (by decide) rfl (as := [.ref a0, .int x1]) (rest := []) rfl rfl (mF fc151 (by rfl))).trans (andR (GoCi_congr fun v1 h1 => ?_))
  refine (G_eq (mF fc151 (by rfl))).trans (gi ?_ ?_)
  ·
    refine (G_iconst (mF fc151 (by rfl))).trans ?_
    exact G_ireturnI rfl (mF fc151 (by rfl))
  ·
    refine (G_aload rfl (mF fc151 (by rfl))).trans ?_
    refine (G_iload rfl (mF fc151 (by rfl))).trans ?_
    refine (G_Vi (q := 89266) (y := 174) (a := a0) (c := 11) rfl rfl rfl rfl (by decide) rfl (as := [.ref a0, .int x2]) (rest := []) rfl rfl (mF fc151 (by rfl))).trans (andR (GoCi_congr fun v2 h2 => ?_))
    refine (G_eq (mF fc151 (by rfl))).trans (gi ?_ ?_)
    ·
      refine (G_iconst (mF fc151 (by rfl))).trans ?_
      exact G_ireturnI rfl (mF fc151 (by rfl))
    ·
      refine (G_iload rfl (mF fc151 (by rfl))).trans ?_
      refine (G_iload rfl (mF fc151 (by rfl))).trans ?_
      refine (G_ieq (mF fc151 (by rfl))).trans (gi ?_ ?_)
      ·
        refine (G_iconst (mF fc151 (by rfl))).trans ?_
        exact G_ireturnI rfl (mF fc151 (by rfl))
      ·
        refine (G_aload rfl (mF fc151 (by rfl))).trans ?_
        refine (G_iload rfl (mF fc151 (by rfl))).trans ?_
        refine (G_Vi (q := 91314) (y := 178) (a := a0) (c := 11) rfl rfl rfl rfl (by decide) rfl (as := [.ref a0, .int x3]) (rest := []) rfl rfl (mF fc151 (by rfl))).trans (andR (GoCi_congr fun v3 h3 => ?_))
        refine (G_ne (mF fc151 (by rfl))).trans (gi ?_ ?_)
        ·
          refine (G_aload rfl (mF fc151 (by rfl))).trans ?_
          refine (G_getR (c := 11) (k := 6) rfl rfl rfl (mF fc151 (by rfl))).trans (andR ?_)
          refine (G_getR (c := 4) (k := 1) rfl rfl rfl (mF fc151 (by rfl))).trans (andR ?_)
          refine (G_astore (k := 4) (L' := [some (.ref a0), some (.int x1), some (.int x2), some (.int x3), some (.ref (fR h3 (fR h3 a0 6) 1)), none]) rfl (ltb rfl) rfl (mF fc151 (by rfl))).trans ?_
          refine (G_aload rfl (mF fc151 (by rfl))).trans ?_
          refine (G_getR (c := 11) (k := 3) rfl rfl rfl (mF fc151 (by rfl))).trans (andR ?_)
          refine (G_getR (c := 8) (k := 0) rfl rfl rfl (mF fc151 (by rfl))).trans (andR ?_)
          refine (G_iload rfl (mF fc151 (by rfl))).trans ?_
          refine (G_aaloadR rfl (mF fc151 (by rfl))).trans (andR ?_)
          refine (G_astore (k := 5) (L' := [some (.ref a0), some (.int x1), some (.int x2), some (.int x3), some (.ref (fR h3 (fR h3 a0 6) 1)), some (.ref (eR h3 (fR h3 (fR h3 a0 3) 0) x3))]) rfl (ltb rfl) rfl (mF fc151 (by rfl))).trans ?_
          refine (G_aload rfl (mF fc151 (by rfl))).trans ?_
          refine (G_iload rfl (mF fc151 (by rfl))).trans ?_
          refine (G_Vi (q := 24626) (y := 48) (a := fR h3 (fR h3 a0 6) 1) (c := 3) rfl rfl rfl rfl (by decide) rfl (as := [.ref (fR h3 (fR h3 a0 6) 1), .int x1]) (rest := []) rfl rfl (mF fc151 (by rfl))).trans (andR (GoCi_congr fun v4 h4 => ?_))
          refine (G_aload rfl (mF fc151 (by rfl))).trans ?_
          refine (G_iload rfl (mF fc151 (by rfl))).trans ?_
          refine (G_Vi (q := 24626) (y := 48) (a := fR h3 (fR h3 a0 6) 1) (c := 3) rfl rfl rfl rfl (by decide) rfl (as := [.ref (fR h3 (fR h3 a0 6) 1), .int x2]) (rest := [.int v4]) rfl rfl (mF fc151 (by rfl))).trans (andR (GoCi_congr fun v5 h5 => ?_))
          refine (G_ine (mF fc151 (by rfl))).trans (gi ?_ ?_)
          ·
            refine (G_iconst (mF fc151 (by rfl))).trans ?_
            exact G_ireturnI rfl (mF fc151 (by rfl))
          ·
            refine (G_aload rfl (mF fc151 (by rfl))).trans ?_
            refine (G_iload rfl (mF fc151 (by rfl))).trans ?_
            refine (G_Vr (q := 23602) (y := 46) (a := fR h3 (fR h3 a0 6) 1) (c := 3) rfl rfl rfl rfl (by decide) rfl (as := [.ref (fR h3 (fR h3 a0 6) 1), .int x1]) (rest := []) rfl rfl (mF fc151 (by rfl))).trans (andR (GoCr_congr fun v6 h6 => ?_))
            refine (G_aload rfl (mF fc151 (by rfl))).trans ?_
            refine (G_Vi (q := 65698) (y := 128) (a := v6) (c := 10) rfl rfl rfl rfl (by decide) rfl (as := [.ref v6, .ref (eR h3 (fR h3 (fR h3 a0 3) 0) x3)]) (rest := []) rfl rfl (mF fc151 (by rfl))).trans (andR (GoCi_congr fun v7 h7 => ?_))
            refine (G_ne (mF fc151 (by rfl))).trans (gi ?_ ?_)
            ·
              refine (G_aload rfl (mF fc151 (by rfl))).trans ?_
              refine (G_getR (c := 11) (k := 6) rfl rfl rfl (mF fc151 (by rfl))).trans (andR ?_)
              refine (G_Vv (q := 29249) (y := 57) (a := fR h7 a0 6) (c := 4) rfl rfl rfl rfl (by decide) rfl (as := [.ref (fR h7 a0 6)]) (rest := []) rfl rfl (mF fc151 (by rfl))).trans (andR (GoCv_congr fun h8 => ?_))
              refine (G_aload rfl (mF fc151 (by rfl))).trans ?_
              refine (G_iload rfl (mF fc151 (by rfl))).trans ?_
              refine (G_Vr (q := 23602) (y := 46) (a := fR h3 (fR h3 a0 6) 1) (c := 3) rfl rfl rfl rfl (by decide) rfl (as := [.ref (fR h3 (fR h3 a0 6) 1), .int x2]) (rest := []) rfl rfl (mF fc151 (by rfl))).trans (andR (GoCr_congr fun v9 h9 => ?_))
              refine (G_aload rfl (mF fc151 (by rfl))).trans ?_
              refine (G_Vv (q := 62114) (y := 121) (a := v9) (c := 10) rfl rfl rfl rfl (by decide) rfl (as := [.ref v9, .ref (eR h3 (fR h3 (fR h3 a0 3) 0) x3)]) (rest := []) rfl rfl (mF fc151 (by rfl))).trans (andR (GoCv_congr fun h10 => ?_))
              refine (G_aload rfl (mF fc151 (by rfl))).trans ?_
              refine (G_iload rfl (mF fc151 (by rfl))).trans ?_
              refine (G_Vr (q := 23602) (y := 46) (a := fR h3 (fR h3 a0 6) 1) (c := 3) rfl rfl rfl rfl (by decide) rfl (as := [.ref (fR h3 (fR h3 a0 6) 1), .int x2]) (rest := []) rfl rfl (mF fc151 (by rfl))).trans (andR (GoCr_congr fun v11 h11 => ?_))
              refine (G_Vi (q := 64673) (y := 126) (a := v11) (c := 10) rfl rfl rfl rfl (by decide) rfl (as := [.ref v11]) (rest := []) rfl rfl (mF fc151 (by rfl))).trans (andR (GoCi_congr fun v12 h12 => ?_))
              exact G_ireturnI rfl (mF fc151 (by rfl))
            ·
              refine (G_iconst (mF fc151 (by rfl))).trans ?_
              exact G_ireturnI rfl (mF fc151 (by rfl))
        ·
          refine (G_iconst (mF fc151 (by rfl))).trans ?_
          exact G_ireturnI rfl (mF fc151 (by rfl))
theorem e151 {d : Nat} {h : mHeap} {K : Int32 → mHeap → Prop} {a0 : Nat} {x1 : Int32} {x2 : Int32} {x3 : Int32} : GoCi (d + 1) 151 [.ref a0, .int x1, .int x2, .int x3] h K ↔ Go d 151 0 [some (.ref a0), some (.int x1), some (.int x2), some (.int x3), none, none] [] h (rI K) := GoCi_entry rfl rfl
set_option maxRecDepth 20000 in
theorem fc152 : mCodes[152]? = some mc152 := rfl
theorem b152_0 {d : Nat} {h : mHeap} {Q : Option Value → mHeap → Prop} {a0 : Nat} {x1 : Int32} {x2 : Int32} : Go d 152 0 [some (.ref a0), some (.int x1), some (.int x2), none, none, none] [] h Q ↔ oC h a0 = 11 ∧ GoCi d 174 [.ref a0, .int x1] h (fun v1 h1 => (if v1 = ii 0 then (Q (some (.int (ii (-1)))) h1) else (oC h1 a0 = 11 ∧ GoCi d 176 [.ref a0, .int x2] h1 (fun v2 h2 => (if ¬ v2 = ii 0 then (okF h2 a0 11 6 2 ∧ okF h2 (fR h2 a0 6) 4 1 2 ∧ okF h2 (fR h2 (fR h2 a0 6) 1) 3 4 2 ∧ okA h2 (fR h2 (fR h2 (fR h2 a0 6) 1) 4) .int x1 ∧ okF h2 a0 11 6 2 ∧ okF h2 (fR h2 a0 6) 4 0 2 ∧ oC h2 (fR h2 (fR h2 a0 6) 0) = 2 ∧ GoCi d 41 [.ref (fR h2 (fR h2 a0 6) 0), .int (ii 0), .int x2] h2 (fun v3 h3 => (if ((eI h2 (fR h2 (fR h2 (fR h2 a0 6) 1) 4) x1) + ((ii 2) * v3)) ≤ (ii 24) then (okF h3 a0 11 6 2 ∧ oC h3 (fR h3 a0 6) = 4 ∧ GoCv d 57 [.ref (fR h3 a0 6)] h3 (fun h4 => okF h4 a0 11 6 2 ∧ okF h4 (fR h4 a0 6) 4 0 2 ∧ okF h4 (fR h4 (fR h4 a0 6) 0) 2 8 2 ∧ okA h4 (fR h4 (fR h4 (fR h4 a0 6) 0) 8) .int x2 ∧ okF h4 (fR h2 (fR h2 a0 6) 1) 3 4 2 ∧ (64 ≤ (fR h4 (fR h2 (fR h2 a0 6) 1) 4) ∧ okA h4 (fR h4 (fR h2 (fR h2 a0 6) 1) 4) .int x1) ∧ oC (sI h4 (fR h4 (fR h2 (fR h2 a0 6) 1) 4) x1 ((eI h2 (fR h2 (fR h2 (fR h2 a0 6) 1) 4) x1) + ((ii 2) * v3))) (fR h2 (fR h2 a0 6) 1) = 3 ∧ GoCr d 46 [.ref (fR h2 (fR h2 a0 6) 1), .int x1] (sI h4 (fR h4 (fR h2 (fR h2 a0 6) 1) 4) x1 ((eI h2 (fR h2 (fR h2 (fR h2 a0 6) 1) 4) x1) + ((ii 2) * v3))) (fun v5 h5 => oC h5 (fR h2 (fR h2 a0 6) 1) = 3 ∧ GoCi d 47 [.ref (fR h2 (fR h2 a0 6) 1), .int (eI h4 (fR h4 (fR h4 (fR h4 a0 6) 0) 8) x2)] h5 (fun v6 h6 => oC h6 v5 = 10 ∧ GoCv d 123 [.ref v5, .int (eI h4 (fR h4 (fR h4 (fR h4 a0 6) 0) 8) x2), .int v6] h6 (fun h7 => oC h7 (fR h2 (fR h2 a0 6) 1) = 3 ∧ GoCi d 47 [.ref (fR h2 (fR h2 a0 6) 1), .int (eI h4 (fR h4 (fR h4 (fR h4 a0 6) 0) 8) x2)] h7 (fun v8 h8 => GoCi d 181 [.int v8] h8 (fun v9 h9 => Q (some (.int v9)) h9))))))) else (Q (some (.int (ii (-1)))) h3)))) else (Q (some (.int (ii (-1)))) h2)))))) := by
  refine (G_aload rfl (mF fc152 (by rfl))).trans ?_
  refine (G_iload rfl (mF fc152 (by rfl))).trans ?_
  refine (G_Vi (q := 89266) (y := 174) (a := a0) (c := 11) rfl rfl rfl rfl (by decide) rfl (as := [.ref a0, .int x1]) (rest := []) rfl rfl (mF fc152 (by rfl))).trans (andR (GoCi_congr fun v1 h1 => ?_))
  refine (G_eq (mF fc152 (by rfl))).trans (gi ?_ ?_)
  ·
    refine (G_iconst (mF fc152 (by rfl))).trans ?_
    exact G_ireturnI rfl (mF fc152 (by rfl))
  ·
    refine (G_aload rfl (mF fc152 (by rfl))).trans ?_
    refine (G_iload rfl (mF fc152 (by rfl))).trans ?_
    refine (G_Vi (q := 90290) (y := 176) (a := a0) (c := 11) rfl rfl rfl rfl (by decide) rfl (as := [.ref a0, .int x2]) (rest := []) rfl rfl (mF fc152 (by rfl))).trans (andR (GoCi_congr fun v2 h2 => ?_))
    refine (G_ne (mF fc152 (by rfl))).trans (gi ?_ ?_)
    ·
      refine (G_aload rfl (mF fc152 (by rfl))).trans ?_
      refine (G_getR (c := 11) (k := 6) rfl rfl rfl (mF fc152 (by rfl))).trans (andR ?_)
      refine (G_getR (c := 4) (k := 1) rfl rfl rfl (mF fc152 (by rfl))).trans (andR ?_)
      refine (G_astore (k := 3) (L' := [some (.ref a0), some (.int x1), some (.int x2), some (.ref (fR h2 (fR h2 a0 6) 1)), none, none]) rfl (ltb rfl) rfl (mF fc152 (by rfl))).trans ?_
      refine (G_aload rfl (mF fc152 (by rfl))).trans ?_
      refine (G_getR (c := 3) (k := 4) rfl rfl rfl (mF fc152 (by rfl))).trans (andR ?_)
      refine (G_iload rfl (mF fc152 (by rfl))).trans ?_
      refine (G_iaload (mF fc152 (by rfl))).trans (andR ?_)
      refine (G_iconst (mF fc152 (by rfl))).trans ?_
      refine (G_aload rfl (mF fc152 (by rfl))).trans ?_
      refine (G_getR (c := 11) (k := 6) rfl rfl rfl (mF fc152 (by rfl))).trans (andR ?_)
      refine (G_getR (c := 4) (k := 0) rfl rfl rfl (mF fc152 (by rfl))).trans (andR ?_)
      refine (G_iconst (mF fc152 (by rfl))).trans ?_
      refine (G_iload rfl (mF fc152 (by rfl))).trans ?_
      refine (G_Vi (q := 21027) (y := 41) (a := fR h2 (fR h2 a0 6) 0) (c := 2) rfl rfl rfl rfl (by decide) rfl (as := [.ref (fR h2 (fR h2 a0 6) 0), .int (ii 0), .int x2]) (rest := [.int (ii 2), .int (eI h2 (fR h2 (fR h2 (fR h2 a0 6) 1) 4) x1)]) rfl rfl (mF fc152 (by rfl))).trans (andR (GoCi_congr fun v3 h3 => ?_))
      refine (G_imul (mF fc152 (by rfl))).trans ?_
      refine (G_iadd (mF fc152 (by rfl))).trans ?_
      refine (G_istore (k := 4) (L' := [some (.ref a0), some (.int x1), some (.int x2), some (.ref (fR h2 (fR h2 a0 6) 1)), some (.int ((eI h2 (fR h2 (fR h2 (fR h2 a0 6) 1) 4) x1) + ((ii 2) * v3))), none]) rfl (ltb rfl) rfl (mF fc152 (by rfl))).trans ?_
      refine (G_iload rfl (mF fc152 (by rfl))).trans ?_
      refine (G_iconst (mF fc152 (by rfl))).trans ?_
      refine (G_ile (mF fc152 (by rfl))).trans (gi ?_ ?_)
      ·
        refine (G_aload rfl (mF fc152 (by rfl))).trans ?_
        refine (G_getR (c := 11) (k := 6) rfl rfl rfl (mF fc152 (by rfl))).trans (andR ?_)
        refine (G_Vv (q := 29249) (y := 57) (a := fR h3 a0 6) (c := 4) rfl rfl rfl rfl (by decide) rfl (as := [.ref (fR h3 a0 6)]) (rest := []) rfl rfl (mF fc152 (by rfl))).trans (andR (GoCv_congr fun h4 => ?_))
        refine (G_aload rfl (mF fc152 (by rfl))).trans ?_
        refine (G_getR (c := 11) (k := 6) rfl rfl rfl (mF fc152 (by rfl))).trans (andR ?_)
        refine (G_getR (c := 4) (k := 0) rfl rfl rfl (mF fc152 (by rfl))).trans (andR ?_)
        refine (G_getR (c := 2) (k := 8) rfl rfl rfl (mF fc152 (by rfl))).trans (andR ?_)
        refine (G_iload rfl (mF fc152 (by rfl))).trans ?_
        refine (G_iaload (mF fc152 (by rfl))).trans (andR ?_)
        refine (G_istore (k := 5) (L' := [some (.ref a0), some (.int x1), some (.int x2), some (.ref (fR h2 (fR h2 a0 6) 1)), some (.int ((eI h2 (fR h2 (fR h2 (fR h2 a0 6) 1) 4) x1) + ((ii 2) * v3))), some (.int (eI h4 (fR h4 (fR h4 (fR h4 a0 6) 0) 8) x2))]) rfl (ltb rfl) rfl (mF fc152 (by rfl))).trans ?_
        refine (G_aload rfl (mF fc152 (by rfl))).trans ?_
        refine (G_getR (c := 3) (k := 4) rfl rfl rfl (mF fc152 (by rfl))).trans (andR ?_)
        refine (G_iload rfl (mF fc152 (by rfl))).trans ?_
        refine (G_iload rfl (mF fc152 (by rfl))).trans ?_
        refine (G_iastore (mF fc152 (by rfl))).trans (andR ?_)
        refine (G_aload rfl (mF fc152 (by rfl))).trans ?_
        refine (G_iload rfl (mF fc152 (by rfl))).trans ?_
        refine (G_Vr (q := 23602) (y := 46) (a := fR h2 (fR h2 a0 6) 1) (c := 3) rfl rfl rfl rfl (by decide) rfl (as := [.ref (fR h2 (fR h2 a0 6) 1), .int x1]) (rest := []) rfl rfl (mF fc152 (by rfl))).trans (andR (GoCr_congr fun v5 h5 => ?_))
        refine (G_iload rfl (mF fc152 (by rfl))).trans ?_
        refine (G_aload rfl (mF fc152 (by rfl))).trans ?_
        refine (G_iload rfl (mF fc152 (by rfl))).trans ?_
        refine (G_Vi (q := 24114) (y := 47) (a := fR h2 (fR h2 a0 6) 1) (c := 3) rfl rfl rfl rfl (by decide) rfl (as := [.ref (fR h2 (fR h2 a0 6) 1), .int (eI h4 (fR h4 (fR h4 (fR h4 a0 6) 0) 8) x2)]) (rest := [.int (eI h4 (fR h4 (fR h4 (fR h4 a0 6) 0) 8) x2), .ref v5]) rfl rfl (mF fc152 (by rfl))).trans (andR (GoCi_congr fun v6 h6 => ?_))
        refine (G_Vv (q := 63139) (y := 123) (a := v5) (c := 10) rfl rfl rfl rfl (by decide) rfl (as := [.ref v5, .int (eI h4 (fR h4 (fR h4 (fR h4 a0 6) 0) 8) x2), .int v6]) (rest := []) rfl rfl (mF fc152 (by rfl))).trans (andR (GoCv_congr fun h7 => ?_))
        refine (G_aload rfl (mF fc152 (by rfl))).trans ?_
        refine (G_iload rfl (mF fc152 (by rfl))).trans ?_
        refine (G_Vi (q := 24114) (y := 47) (a := fR h2 (fR h2 a0 6) 1) (c := 3) rfl rfl rfl rfl (by decide) rfl (as := [.ref (fR h2 (fR h2 a0 6) 1), .int (eI h4 (fR h4 (fR h4 (fR h4 a0 6) 0) 8) x2)]) (rest := []) rfl rfl (mF fc152 (by rfl))).trans (andR (GoCi_congr fun v8 h8 => ?_))
        refine (G_Ti (q := 92849) (y := 181) rfl rfl rfl (as := [.int v8]) (rest := []) rfl rfl (mF fc152 (by rfl))).trans (GoCi_congr fun v9 h9 => ?_)
        exact G_ireturnI rfl (mF fc152 (by rfl))
      ·
        refine (G_iconst (mF fc152 (by rfl))).trans ?_
        exact G_ireturnI rfl (mF fc152 (by rfl))
    ·
      refine (G_iconst (mF fc152 (by rfl))).trans ?_
      exact G_ireturnI rfl (mF fc152 (by rfl))
theorem e152 {d : Nat} {h : mHeap} {K : Int32 → mHeap → Prop} {a0 : Nat} {x1 : Int32} {x2 : Int32} : GoCi (d + 1) 152 [.ref a0, .int x1, .int x2] h K ↔ Go d 152 0 [some (.ref a0), some (.int x1), some (.int x2), none, none, none] [] h (rI K) := GoCi_entry rfl rfl
set_option maxRecDepth 20000 in
theorem fc153 : mCodes[153]? = some mc153 := rfl
theorem b153_0 {d : Nat} {h : mHeap} {Q : Option Value → mHeap → Prop} {a0 : Nat} : Go d 153 0 [some (.ref a0)] [] h Q ↔ okF h a0 11 6 2 ∧ oC h (fR h a0 6) = 4 ∧ GoCi d 54 [.ref (fR h a0 6)] h (fun v1 h1 => (if v1 = ii 0 then (Q (some (.int (ii (-1)))) h1) else (okF h1 a0 11 6 2 ∧ okF h1 (fR h1 a0 6) 4 1 2 ∧ okF h1 (fR h1 (fR h1 a0 6) 1) 3 0 0 ∧ (if (fI h1 (fR h1 (fR h1 a0 6) 1) 0) < (ii 9999) then (okF h1 a0 11 6 2 ∧ oC h1 (fR h1 a0 6) = 4 ∧ GoCv d 57 [.ref (fR h1 a0 6)] h1 (fun h2 => okF h2 a0 11 6 2 ∧ okF h2 (fR h2 a0 6) 4 1 2 ∧ okF h2 a0 11 6 2 ∧ okF h2 (fR h2 a0 6) 4 0 2 ∧ oC h2 (fR h2 (fR h2 a0 6) 1) = 3 ∧ GoCv d 51 [.ref (fR h2 (fR h2 a0 6) 1), .ref (fR h2 (fR h2 a0 6) 0)] h2 (fun h3 => okF h3 a0 11 6 2 ∧ okF h3 (fR h3 a0 6) 4 1 2 ∧ okF h3 (fR h3 (fR h3 a0 6) 1) 3 0 0 ∧ Q (some (.int (fI h3 (fR h3 (fR h3 a0 6) 1) 0))) h3))) else (Q (some (.int (ii (-1)))) h1))))) := by
  refine (G_aload rfl (mF fc153 (by rfl))).trans ?_
  refine (G_getR (c := 11) (k := 6) rfl rfl rfl (mF fc153 (by rfl))).trans (andR ?_)
  refine (G_Vi (q := 27713) (y := 54) (a := fR h a0 6) (c := 4) rfl rfl rfl rfl (by decide) rfl (as := [.ref (fR h a0 6)]) (rest := []) rfl rfl (mF fc153 (by rfl))).trans (andR (GoCi_congr fun v1 h1 => ?_))
  refine (G_eq (mF fc153 (by rfl))).trans (gi ?_ ?_)
  ·
    refine (G_iconst (mF fc153 (by rfl))).trans ?_
    exact G_ireturnI rfl (mF fc153 (by rfl))
  ·
    refine (G_aload rfl (mF fc153 (by rfl))).trans ?_
    refine (G_getR (c := 11) (k := 6) rfl rfl rfl (mF fc153 (by rfl))).trans (andR ?_)
    refine (G_getR (c := 4) (k := 1) rfl rfl rfl (mF fc153 (by rfl))).trans (andR ?_)
    refine (G_getI (c := 3) (k := 0) rfl rfl rfl (mF fc153 (by rfl))).trans (andR ?_)
    refine (G_iconst (mF fc153 (by rfl))).trans ?_
    refine (G_ilt (mF fc153 (by rfl))).trans (gi ?_ ?_)
    ·
      refine (G_aload rfl (mF fc153 (by rfl))).trans ?_
      refine (G_getR (c := 11) (k := 6) rfl rfl rfl (mF fc153 (by rfl))).trans (andR ?_)
      refine (G_Vv (q := 29249) (y := 57) (a := fR h1 a0 6) (c := 4) rfl rfl rfl rfl (by decide) rfl (as := [.ref (fR h1 a0 6)]) (rest := []) rfl rfl (mF fc153 (by rfl))).trans (andR (GoCv_congr fun h2 => ?_))
      refine (G_aload rfl (mF fc153 (by rfl))).trans ?_
      refine (G_getR (c := 11) (k := 6) rfl rfl rfl (mF fc153 (by rfl))).trans (andR ?_)
      refine (G_getR (c := 4) (k := 1) rfl rfl rfl (mF fc153 (by rfl))).trans (andR ?_)
      refine (G_aload rfl (mF fc153 (by rfl))).trans ?_
      refine (G_getR (c := 11) (k := 6) rfl rfl rfl (mF fc153 (by rfl))).trans (andR ?_)
      refine (G_getR (c := 4) (k := 0) rfl rfl rfl (mF fc153 (by rfl))).trans (andR ?_)
      refine (G_Vv (q := 26162) (y := 51) (a := fR h2 (fR h2 a0 6) 1) (c := 3) rfl rfl rfl rfl (by decide) rfl (as := [.ref (fR h2 (fR h2 a0 6) 1), .ref (fR h2 (fR h2 a0 6) 0)]) (rest := []) rfl rfl (mF fc153 (by rfl))).trans (andR (GoCv_congr fun h3 => ?_))
      refine (G_aload rfl (mF fc153 (by rfl))).trans ?_
      refine (G_getR (c := 11) (k := 6) rfl rfl rfl (mF fc153 (by rfl))).trans (andR ?_)
      refine (G_getR (c := 4) (k := 1) rfl rfl rfl (mF fc153 (by rfl))).trans (andR ?_)
      refine (G_getI (c := 3) (k := 0) rfl rfl rfl (mF fc153 (by rfl))).trans (andR ?_)
      exact G_ireturnI rfl (mF fc153 (by rfl))
    ·
      refine (G_iconst (mF fc153 (by rfl))).trans ?_
      exact G_ireturnI rfl (mF fc153 (by rfl))
theorem e153 {d : Nat} {h : mHeap} {K : Int32 → mHeap → Prop} {a0 : Nat} : GoCi (d + 1) 153 [.ref a0] h K ↔ Go d 153 0 [some (.ref a0)] [] h (rI K) := GoCi_entry rfl rfl
set_option maxRecDepth 20000 in
theorem fc154 : mCodes[154]? = some mc154 := rfl
theorem b154_0 {d : Nat} {h : mHeap} {Q : Option Value → mHeap → Prop} {a0 : Nat} : Go d 154 0 [some (.ref a0)] [] h Q ↔ okF h a0 11 6 2 ∧ oC h (fR h a0 6) = 4 ∧ GoCi d 60 [.ref (fR h a0 6)] h (fun v1 h1 => Q (some (.int v1)) h1) := by
  refine (G_aload rfl (mF fc154 (by rfl))).trans ?_
  refine (G_getR (c := 11) (k := 6) rfl rfl rfl (mF fc154 (by rfl))).trans (andR ?_)
  refine (G_Vi (q := 30785) (y := 60) (a := fR h a0 6) (c := 4) rfl rfl rfl rfl (by decide) rfl (as := [.ref (fR h a0 6)]) (rest := []) rfl rfl (mF fc154 (by rfl))).trans (andR (GoCi_congr fun v1 h1 => ?_))
  exact G_ireturnI rfl (mF fc154 (by rfl))
theorem e154 {d : Nat} {h : mHeap} {K : Int32 → mHeap → Prop} {a0 : Nat} : GoCi (d + 1) 154 [.ref a0] h K ↔ Go d 154 0 [some (.ref a0)] [] h (rI K) := GoCi_entry rfl rfl
set_option maxRecDepth 20000 in
theorem fc155 : mCodes[155]? = some mc155 := rfl
theorem b155_0 {d : Nat} {h : mHeap} {Q : Option Value → mHeap → Prop} {a0 : Nat} {x1 : Int32} {x2 : Int32} : Go d 155 0 [some (.ref a0), some (.int x1), some (.int x2), none] [] h Q ↔ (if x1 < ii 0 then (Q (some (.int (ii (-1)))) h) else (okF h a0 11 5 0 ∧ (if (fI h a0 5) ≤ x1 then (Q (some (.int (ii (-1)))) h) else ((if x2 < (ii 1) then (Q (some (.int (ii (-1)))) h) else ((if x2 ≤ (ii 60) then (okF h a0 11 4 2 ∧ ((nuR h (fR h a0 4) x1 ∧ Q (some (.int (ii (-1)))) h) ∨ (okR h (fR h a0 4) x1 ∧ 64 ≤ (eR h (fR h a0 4) x1) ∧ okF h a0 11 6 2 ∧ oC h (fR h a0 6) = 4 ∧ GoCi d 54 [.ref (fR h a0 6)] h (fun v1 h1 => (if v1 = ii 0 then (Q (some (.int (ii (-1)))) h1) else (okF h1 a0 11 6 2 ∧ okF h1 (fR h1 a0 6) 4 1 2 ∧ okF h1 (fR h1 (fR h1 a0 6) 1) 3 0 0 ∧ (if ((fI h1 (fR h1 (fR h1 a0 6) 1) 0) + x2) ≤ (ii 9999) then (okF h1 a0 11 6 2 ∧ okP h1 (fR h1 a0 6) 4 3 ∧ okF (sF h1 (fR h1 a0 6) 3 (.int (ii 0))) a0 11 9 2 ∧ oC (sF h1 (fR h1 a0 6) 3 (.int (ii 0))) (fR (sF h1 (fR h1 a0 6) 3 (.int (ii 0))) a0 9) = 1 ∧ GoCi d 20 [.ref (fR (sF h1 (fR h1 a0 6) 3 (.int (ii 0))) a0 9), .ref (eR h (fR h a0 4) x1), .int x2] (sF h1 (fR h1 a0 6) 3 (.int (ii 0))) (fun v2 h2 => Q (some (.int v2)) h2)) else (Q (some (.int (ii (-1)))) h1)))))))) else (Q (some (.int (ii (-1)))) h)))))))) := by
  refine (G_iload rfl (mF fc155 (by rfl))).trans ?_
  refine (G_lt (mF fc155 (by rfl))).trans (gi ?_ ?_)
  ·
    refine (G_iconst (mF fc155 (by rfl))).trans ?_
    exact G_ireturnI rfl (mF fc155 (by rfl))
  ·
    refine (G_iload rfl (mF fc155 (by rfl))).trans ?_
    refine (G_aload rfl (mF fc155 (by rfl))).trans ?_
    refine (G_getI (c := 11) (k := 5) rfl rfl rfl (mF fc155 (by rfl))).trans (andR ?_)
    refine (G_ige (mF fc155 (by rfl))).trans (gi ?_ ?_)
    ·
      refine (G_iconst (mF fc155 (by rfl))).trans ?_
      exact G_ireturnI rfl (mF fc155 (by rfl))
    ·
      refine (G_iload rfl (mF fc155 (by rfl))).trans ?_
      refine (G_iconst (mF fc155 (by rfl))).trans ?_
      refine (G_ilt (mF fc155 (by rfl))).trans (gi ?_ ?_)
      ·
        refine (G_iconst (mF fc155 (by rfl))).trans ?_
        exact G_ireturnI rfl (mF fc155 (by rfl))
      ·
        refine (G_iload rfl (mF fc155 (by rfl))).trans ?_
        refine (G_iconst (mF fc155 (by rfl))).trans ?_
        refine (G_ile (mF fc155 (by rfl))).trans (gi ?_ ?_)
        ·
          refine (G_aload rfl (mF fc155 (by rfl))).trans ?_
          refine (G_getR (c := 11) (k := 4) rfl rfl rfl (mF fc155 (by rfl))).trans (andR ?_)
          refine (G_iload rfl (mF fc155 (by rfl))).trans ?_
          refine (G_aaload rfl (mF fc155 (by rfl))).trans (or_congr (andR ?_) (andR ?_))
          ·
            refine (G_astoren (k := 3) (L' := [some (.ref a0), some (.int x1), some (.int x2), some .null]) rfl (ltb rfl) rfl (mF fc155 (by rfl))).trans ?_
            refine (G_aloadn rfl (mF fc155 (by rfl))).trans ?_
            refine (G_ifnulln (mF fc155 (by rfl))).trans ?_
            refine (G_iconst (mF fc155 (by rfl))).trans ?_
            exact G_ireturnI rfl (mF fc155 (by rfl))
          ·
            refine (G_astore (k := 3) (L' := [some (.ref a0), some (.int x1), some (.int x2), some (.ref (eR h (fR h a0 4) x1))]) rfl (ltb rfl) rfl (mF fc155 (by rfl))).trans ?_
            refine (G_aload rfl (mF fc155 (by rfl))).trans ?_
            refine (G_ifnullr (mF fc155 (by rfl))).trans (andR ?_)
            refine (G_aload rfl (mF fc155 (by rfl))).trans ?_
            refine (G_getR (c := 11) (k := 6) rfl rfl rfl (mF fc155 (by rfl))).trans (andR ?_)
            refine (G_Vi (q := 27713) (y := 54) (a := fR h a0 6) (c := 4) rfl rfl rfl rfl (by decide) rfl (as := [.ref (fR h a0 6)]) (rest := []) rfl rfl (mF fc155 (by rfl))).trans (andR (GoCi_congr fun v1 h1 => ?_))
            refine (G_eq (mF fc155 (by rfl))).trans (gi ?_ ?_)
            ·
              refine (G_iconst (mF fc155 (by rfl))).trans ?_
              exact G_ireturnI rfl (mF fc155 (by rfl))
            ·
              refine (G_aload rfl (mF fc155 (by rfl))).trans ?_
              refine (G_getR (c := 11) (k := 6) rfl rfl rfl (mF fc155 (by rfl))).trans (andR ?_)
              refine (G_getR (c := 4) (k := 1) rfl rfl rfl (mF fc155 (by rfl))).trans (andR ?_)
              refine (G_getI (c := 3) (k := 0) rfl rfl rfl (mF fc155 (by rfl))).trans (andR ?_)
              refine (G_iload rfl (mF fc155 (by rfl))).trans ?_
              refine (G_iadd (mF fc155 (by rfl))).trans ?_
              refine (G_iconst (mF fc155 (by rfl))).trans ?_
              refine (G_ile (mF fc155 (by rfl))).trans (gi ?_ ?_)
              ·
                refine (G_aload rfl (mF fc155 (by rfl))).trans ?_
                refine (G_getR (c := 11) (k := 6) rfl rfl rfl (mF fc155 (by rfl))).trans (andR ?_)
                refine (G_iconst (mF fc155 (by rfl))).trans ?_
                refine (G_putT (c := 4) (k := 3) rfl rfl rfl (mF fc155 (by rfl))).trans (andR ?_)
                refine (G_aload rfl (mF fc155 (by rfl))).trans ?_
                refine (G_getR (c := 11) (k := 9) rfl rfl rfl (mF fc155 (by rfl))).trans (andR ?_)
                refine (G_aload rfl (mF fc155 (by rfl))).trans ?_
                refine (G_iload rfl (mF fc155 (by rfl))).trans ?_
                refine (G_Vi (q := 10259) (y := 20) (a := fR (sF h1 (fR h1 a0 6) 3 (.int (ii 0))) a0 9) (c := 1) rfl rfl rfl rfl (by decide) rfl (as := [.ref (fR (sF h1 (fR h1 a0 6) 3 (.int (ii 0))) a0 9), .ref (eR h (fR h a0 4) x1), .int x2]) (rest := []) rfl rfl (mF fc155 (by rfl))).trans (andR (GoCi_congr fun v2 h2 => ?_))
                exact G_ireturnI rfl (mF fc155 (by rfl))
              ·
                refine (G_iconst (mF fc155 (by rfl))).trans ?_
                exact G_ireturnI rfl (mF fc155 (by rfl))
        ·
          refine (G_iconst (mF fc155 (by rfl))).trans ?_
          exact G_ireturnI rfl (mF fc155 (by rfl))
theorem e155 {d : Nat} {h : mHeap} {K : Int32 → mHeap → Prop} {a0 : Nat} {x1 : Int32} {x2 : Int32} : GoCi (d + 1) 155 [.ref a0, .int x1, .int x2] h K ↔ Go d 155 0 [some (.ref a0), some (.int x1), some (.int x2), none] [] h (rI K) := GoCi_entry rfl rfl
set_option maxRecDepth 20000 in
theorem fc156 : mCodes[156]? = some mc156 := rfl
theorem b156_0 {d : Nat} {h : mHeap} {Q : Option Value → mHeap → Prop} {a0 : Nat} {x1 : Int32} {x2 : Int32} : Go d 156 0 [some (.ref a0), some (.int x1), some (.int x2)] [] h Q ↔ oC h a0 = 11 ∧ GoCi d 179 [.ref a0, .int x1] h (fun v1 h1 => (if v1 = ii 0 then (Q (some (.int (ii (-1)))) h1) else (oC h1 a0 = 11 ∧ GoCi d 178 [.ref a0, .int x2] h1 (fun v2 h2 => (if v2 = ii 0 then (Q (some (.int (ii (-1)))) h2) else (okF h2 a0 11 6 2 ∧ oC h2 (fR h2 a0 6) = 4 ∧ GoCi d 54 [.ref (fR h2 a0 6)] h2 (fun v3 h3 => (if ¬ v3 = ii 0 then (okF h3 a0 11 3 2 ∧ okF h3 a0 11 6 2 ∧ okF h3 (fR h3 a0 6) 4 0 2 ∧ okF h3 (fR h3 (fR h3 a0 6) 0) 2 0 0 ∧ oC h3 (fR h3 a0 3) = 8 ∧ GoCi d 87 [.ref (fR h3 a0 3), .int (fI h3 (fR h3 (fR h3 a0 6) 0) 0), .int x1, .int x2] h3 (fun v4 h4 => GoCi d 181 [.int v4] h4 (fun v5 h5 => Q (some (.int v5)) h5))) else (Q (some (.int (ii (-1)))) h3))))))))) := by
  refine (G_aload rfl (mF fc156 (by rfl))).trans ?_
  refine (G_iload rfl (mF fc156 (by rfl))).trans ?_
  refine (G_Vi (q := 91826) (y := 179) (a := a0) (c := 11) rfl rfl rfl rfl (by decide) rfl (as := [.ref a0, .int x1]) (rest := []) rfl rfl (mF fc156 (by rfl))).trans (andR (GoCi_congr fun v1 h1 => ?_))
  refine (G_eq (mF fc156 (by rfl))).trans (gi ?_ ?_)
  ·
    refine (G_iconst (mF fc156 (by rfl))).trans ?_
    exact G_ireturnI rfl (mF fc156 (by rfl))
  ·
    refine (G_aload rfl (mF fc156 (by rfl))).trans ?_
    refine (G_iload rfl (mF fc156 (by rfl))).trans ?_
    refine (G_Vi (q := 91314) (y := 178) (a := a0) (c := 11) rfl rfl rfl rfl (by decide) rfl (as := [.ref a0, .int x2]) (rest := []) rfl rfl (mF fc156 (by rfl))).trans (andR (GoCi_congr fun v2 h2 => ?_))
    refine (G_eq (mF fc156 (by rfl))).trans (gi ?_ ?_)
    ·
      refine (G_iconst (mF fc156 (by rfl))).trans ?_
      exact G_ireturnI rfl (mF fc156 (by rfl))
    ·
      refine (G_aload rfl (mF fc156 (by rfl))).trans ?_
      refine (G_getR (c := 11) (k := 6) rfl rfl rfl (mF fc156 (by rfl))).trans (andR ?_)
      refine (G_Vi (q := 27713) (y := 54) (a := fR h2 a0 6) (c := 4) rfl rfl rfl rfl (by decide) rfl (as := [.ref (fR h2 a0 6)]) (rest := []) rfl rfl (mF fc156 (by rfl))).trans (andR (GoCi_congr fun v3 h3 => ?_))
      refine (G_ne (mF fc156 (by rfl))).trans (gi ?_ ?_)
      ·
        refine (G_aload rfl (mF fc156 (by rfl))).trans ?_
        refine (G_getR (c := 11) (k := 3) rfl rfl rfl (mF fc156 (by rfl))).trans (andR ?_)
        refine (G_aload rfl (mF fc156 (by rfl))).trans ?_
        refine (G_getR (c := 11) (k := 6) rfl rfl rfl (mF fc156 (by rfl))).trans (andR ?_)
        refine (G_getR (c := 4) (k := 0) rfl rfl rfl (mF fc156 (by rfl))).trans (andR ?_)
        refine (G_getI (c := 2) (k := 0) rfl rfl rfl (mF fc156 (by rfl))).trans (andR ?_)
        refine (G_iload rfl (mF fc156 (by rfl))).trans ?_
        refine (G_iload rfl (mF fc156 (by rfl))).trans ?_
        refine (G_Vi (q := 44676) (y := 87) (a := fR h3 a0 3) (c := 8) rfl rfl rfl rfl (by decide) rfl (as := [.ref (fR h3 a0 3), .int (fI h3 (fR h3 (fR h3 a0 6) 0) 0), .int x1, .int x2]) (rest := []) rfl rfl (mF fc156 (by rfl))).trans (andR (GoCi_congr fun v4 h4 => ?_))
        refine (G_Ti (q := 92849) (y := 181) rfl rfl rfl (as := [.int v4]) (rest := []) rfl rfl (mF fc156 (by rfl))).trans (GoCi_congr fun v5 h5 => ?_)
        exact G_ireturnI rfl (mF fc156 (by rfl))
      ·
        refine (G_iconst (mF fc156 (by rfl))).trans ?_
        exact G_ireturnI rfl (mF fc156 (by rfl))
theorem e156 {d : Nat} {h : mHeap} {K : Int32 → mHeap → Prop} {a0 : Nat} {x1 : Int32} {x2 : Int32} : GoCi (d + 1) 156 [.ref a0, .int x1, .int x2] h K ↔ Go d 156 0 [some (.ref a0), some (.int x1), some (.int x2)] [] h (rI K) := GoCi_entry rfl rfl
set_option maxRecDepth 20000 in
theorem fc157 : mCodes[157]? = some mc157 := rfl
theorem b157_0 {d : Nat} {h : mHeap} {Q : Option Value → mHeap → Prop} {a0 : Nat} {x1 : Int32} {x2 : Int32} : Go d 157 0 [some (.ref a0), some (.int x1), some (.int x2)] [] h Q ↔ oC h a0 = 11 ∧ GoCi d 179 [.ref a0, .int x1] h (fun v1 h1 => (if v1 = ii 0 then (Q (some (.int (ii (-1)))) h1) else (oC h1 a0 = 11 ∧ GoCi d 178 [.ref a0, .int x2] h1 (fun v2 h2 => (if v2 = ii 0 then (Q (some (.int (ii (-1)))) h2) else (okF h2 a0 11 6 2 ∧ oC h2 (fR h2 a0 6) = 4 ∧ GoCi d 54 [.ref (fR h2 a0 6)] h2 (fun v3 h3 => (if ¬ v3 = ii 0 then (GoCi d 317 [.int x1] h3 (fun v4 h4 => (if v4 ≤ (ii 12) then (okF h4 a0 11 3 2 ∧ okF h4 a0 11 6 2 ∧ okF h4 (fR h4 a0 6) 4 0 2 ∧ okF h4 (fR h4 (fR h4 a0 6) 0) 2 0 0 ∧ oC h4 (fR h4 a0 3) = 8 ∧ GoCi d 88 [.ref (fR h4 a0 3), .int (fI h4 (fR h4 (fR h4 a0 6) 0) 0), .int x1, .int x2] h4 (fun v5 h5 => Q (some (.int v5)) h5)) else (Q (some (.int (ii (-1)))) h4)))) else (Q (some (.int (ii (-1)))) h3))))))))) := by
  refine (G_aload rfl (mF fc157 (by rfl))).trans ?_
  refine (G_iload rfl (mF fc157 (by rfl))).trans ?_
  refine (G_Vi (q := 91826) (y := 179) (a := a0) (c := 11) rfl rfl rfl rfl (by decide) rfl (as := [.ref a0, .int x1]) (rest := []) rfl rfl (mF fc157 (by rfl))).trans (andR (GoCi_congr fun v1 h1 => ?_))
  refine (G_eq (mF fc157 (by rfl))).trans (gi ?_ ?_)
  ·
    refine (G_iconst (mF fc157 (by rfl))).trans ?_
    exact G_ireturnI rfl (mF fc157 (by rfl))
  ·
    refine (G_aload rfl (mF fc157 (by rfl))).trans ?_
    refine (G_iload rfl (mF fc157 (by rfl))).trans ?_
    refine (G_Vi (q := 91314) (y := 178) (a := a0) (c := 11) rfl rfl rfl rfl (by decide) rfl (as := [.ref a0, .int x2]) (rest := []) rfl rfl (mF fc157 (by rfl))).trans (andR (GoCi_congr fun v2 h2 => ?_))
    refine (G_eq (mF fc157 (by rfl))).trans (gi ?_ ?_)
    ·
      refine (G_iconst (mF fc157 (by rfl))).trans ?_
      exact G_ireturnI rfl (mF fc157 (by rfl))
    ·
      refine (G_aload rfl (mF fc157 (by rfl))).trans ?_
      refine (G_getR (c := 11) (k := 6) rfl rfl rfl (mF fc157 (by rfl))).trans (andR ?_)
      refine (G_Vi (q := 27713) (y := 54) (a := fR h2 a0 6) (c := 4) rfl rfl rfl rfl (by decide) rfl (as := [.ref (fR h2 a0 6)]) (rest := []) rfl rfl (mF fc157 (by rfl))).trans (andR (GoCi_congr fun v3 h3 => ?_))
      refine (G_ne (mF fc157 (by rfl))).trans (gi ?_ ?_)
      ·
        refine (G_iload rfl (mF fc157 (by rfl))).trans ?_
        refine (G_Ti (q := 162513) (y := 317) rfl rfl rfl (as := [.int x1]) (rest := []) rfl rfl (mF fc157 (by rfl))).trans (GoCi_congr fun v4 h4 => ?_)
        refine (G_iconst (mF fc157 (by rfl))).trans ?_
        refine (G_ile (mF fc157 (by rfl))).trans (gi ?_ ?_)
        ·
          refine (G_aload rfl (mF fc157 (by rfl))).trans ?_
          refine (G_getR (c := 11) (k := 3) rfl rfl rfl (mF fc157 (by rfl))).trans (andR ?_)
          refine (G_aload rfl (mF fc157 (by rfl))).trans ?_
          refine (G_getR (c := 11) (k := 6) rfl rfl rfl (mF fc157 (by rfl))).trans (andR ?_)
          refine (G_getR (c := 4) (k := 0) rfl rfl rfl (mF fc157 (by rfl))).trans (andR ?_)
          refine (G_getI (c := 2) (k := 0) rfl rfl rfl (mF fc157 (by rfl))).trans (andR ?_)
          refine (G_iload rfl (mF fc157 (by rfl))).trans ?_
          refine (G_iload rfl (mF fc157 (by rfl))).trans ?_
          refine (G_Vi (q := 45188) (y := 88) (a := fR h4 a0 3) (c := 8) rfl rfl rfl rfl (by decide) rfl (as := [.ref (fR h4 a0 3), .int (fI h4 (fR h4 (fR h4 a0 6) 0) 0), .int x1, .int x2]) (rest := []) rfl rfl (mF fc157 (by rfl))).trans (andR (GoCi_congr fun v5 h5 => ?_))
          exact G_ireturnI rfl (mF fc157 (by rfl))
        ·
          refine (G_iconst (mF fc157 (by rfl))).trans ?_
          exact G_ireturnI rfl (mF fc157 (by rfl))
      ·
        refine (G_iconst (mF fc157 (by rfl))).trans ?_
        exact G_ireturnI rfl (mF fc157 (by rfl))
theorem e157 {d : Nat} {h : mHeap} {K : Int32 → mHeap → Prop} {a0 : Nat} {x1 : Int32} {x2 : Int32} : GoCi (d + 1) 157 [.ref a0, .int x1, .int x2] h K ↔ Go d 157 0 [some (.ref a0), some (.int x1), some (.int x2)] [] h (rI K) := GoCi_entry rfl rfl
set_option maxRecDepth 20000 in
theorem fc158 : mCodes[158]? = some mc158 := rfl
theorem b158_0 {d : Nat} {h : mHeap} {Q : Option Value → mHeap → Prop} {a0 : Nat} {x1 : Int32} {x2 : Int32} : Go d 158 0 [some (.ref a0), some (.int x1), some (.int x2)] [] h Q ↔ oC h a0 = 11 ∧ GoCi d 178 [.ref a0, .int x1] h (fun v1 h1 => (if v1 = ii 0 then (Q (some (.int (ii (-1)))) h1) else (oC h1 a0 = 11 ∧ GoCi d 178 [.ref a0, .int x2] h1 (fun v2 h2 => (if v2 = ii 0 then (Q (some (.int (ii (-1)))) h2) else ((if x1 = x2 then (Q (some (.int (ii (-1)))) h2) else (okF h2 a0 11 6 2 ∧ oC h2 (fR h2 a0 6) = 4 ∧ GoCi d 54 [.ref (fR h2 a0 6)] h2 (fun v3 h3 => (if ¬ v3 = ii 0 then (okF h3 a0 11 3 2 ∧ okF h3 a0 11 6 2 ∧ okF h3 (fR h3 a0 6) 4 0 2 ∧ okF h3 (fR h3 (fR h3 a0 6) 0) 2 0 0 ∧ oC h3 (fR h3 a0 3) = 8 ∧ GoCi d 89 [.ref (fR h3 a0 3), .int (fI h3 (fR h3 (fR h3 a0 6) 0) 0), .int x1, .int x2] h3 (fun v4 h4 => GoCi d 181 [.int v4] h4 (fun v5 h5 => Q (some (.int v5)) h5))) else (Q (some (.int (ii (-1)))) h3))))))))))) := by
  refine (G_aload rfl (mF fc158 (by rfl))).trans ?_
  refine (G_iload rfl (mF fc158 (by rfl))).trans ?_
  refine (G_Vi (q := 91314) (y := 178) (a := a0) (c := 11) rfl rfl rfl rfl (by decide) rfl (as := [.ref a0, .int x1]) (rest := []) rfl rfl (mF fc158 (by rfl))).trans (andR (GoCi_congr fun v1 h1 => ?_))
  refine (G_eq (mF fc158 (by rfl))).trans (gi ?_ ?_)
  ·
    refine (G_iconst (mF fc158 (by rfl))).trans ?_
    exact G_ireturnI rfl (mF fc158 (by rfl))
  ·
    refine (G_aload rfl (mF fc158 (by rfl))).trans ?_
    refine (G_iload rfl (mF fc158 (by rfl))).trans ?_
    refine (G_Vi (q := 91314) (y := 178) (a := a0) (c := 11) rfl rfl rfl rfl (by decide) rfl (as := [.ref a0, .int x2]) (rest := []) rfl rfl (mF fc158 (by rfl))).trans (andR (GoCi_congr fun v2 h2 => ?_))
    refine (G_eq (mF fc158 (by rfl))).trans (gi ?_ ?_)
    ·
      refine (G_iconst (mF fc158 (by rfl))).trans ?_
      exact G_ireturnI rfl (mF fc158 (by rfl))
    ·
      refine (G_iload rfl (mF fc158 (by rfl))).trans ?_
      refine (G_iload rfl (mF fc158 (by rfl))).trans ?_
      refine (G_ieq (mF fc158 (by rfl))).trans (gi ?_ ?_)
      ·
        refine (G_iconst (mF fc158 (by rfl))).trans ?_
        exact G_ireturnI rfl (mF fc158 (by rfl))
      ·
        refine (G_aload rfl (mF fc158 (by rfl))).trans ?_
        refine (G_getR (c := 11) (k := 6) rfl rfl rfl (mF fc158 (by rfl))).trans (andR ?_)
        refine (G_Vi (q := 27713) (y := 54) (a := fR h2 a0 6) (c := 4) rfl rfl rfl rfl (by decide) rfl (as := [.ref (fR h2 a0 6)]) (rest := []) rfl rfl (mF fc158 (by rfl))).trans (andR (GoCi_congr fun v3 h3 => ?_))
        refine (G_ne (mF fc158 (by rfl))).trans (gi ?_ ?_)
        ·
          refine (G_aload rfl (mF fc158 (by rfl))).trans ?_
          refine (G_getR (c := 11) (k := 3) rfl rfl rfl (mF fc158 (by rfl))).trans (andR ?_)
          refine (G_aload rfl (mF fc158 (by rfl))).trans ?_
          refine (G_getR (c := 11) (k := 6) rfl rfl rfl (mF fc158 (by rfl))).trans (andR ?_)
          refine (G_getR (c := 4) (k := 0) rfl rfl rfl (mF fc158 (by rfl))).trans (andR ?_)
          refine (G_getI (c := 2) (k := 0) rfl rfl rfl (mF fc158 (by rfl))).trans (andR ?_)
          refine (G_iload rfl (mF fc158 (by rfl))).trans ?_
          refine (G_iload rfl (mF fc158 (by rfl))).trans ?_
          refine (G_Vi (q := 45700) (y := 89) (a := fR h3 a0 3) (c := 8) rfl rfl rfl rfl (by decide) rfl (as := [.ref (fR h3 a0 3), .int (fI h3 (fR h3 (fR h3 a0 6) 0) 0), .int x1, .int x2]) (rest := []) rfl rfl (mF fc158 (by rfl))).trans (andR (GoCi_congr fun v4 h4 => ?_))
          refine (G_Ti (q := 92849) (y := 181) rfl rfl rfl (as := [.int v4]) (rest := []) rfl rfl (mF fc158 (by rfl))).trans (GoCi_congr fun v5 h5 => ?_)
          exact G_ireturnI rfl (mF fc158 (by rfl))
        ·
          refine (G_iconst (mF fc158 (by rfl))).trans ?_
          exact G_ireturnI rfl (mF fc158 (by rfl))
theorem e158 {d : Nat} {h : mHeap} {K : Int32 → mHeap → Prop} {a0 : Nat} {x1 : Int32} {x2 : Int32} : GoCi (d + 1) 158 [.ref a0, .int x1, .int x2] h K ↔ Go d 158 0 [some (.ref a0), some (.int x1), some (.int x2)] [] h (rI K) := GoCi_entry rfl rfl
set_option maxRecDepth 20000 in
theorem fc159 : mCodes[159]? = some mc159 := rfl
theorem b159_0 {d : Nat} {h : mHeap} {Q : Option Value → mHeap → Prop} {a0 : Nat} {x1 : Int32} {x2 : Int32} : Go d 159 0 [some (.ref a0), some (.int x1), some (.int x2)] [] h Q ↔ oC h a0 = 11 ∧ GoCi d 178 [.ref a0, .int x1] h (fun v1 h1 => (if v1 = ii 0 then (Q (some (.int (ii (-1)))) h1) else ((if x2 < ii 0 then (Q (some (.int (ii (-1)))) h1) else ((if (ii 9999) < x2 then (Q (some (.int (ii (-1)))) h1) else (okF h1 a0 11 6 2 ∧ oC h1 (fR h1 a0 6) = 4 ∧ GoCi d 54 [.ref (fR h1 a0 6)] h1 (fun v2 h2 => (if ¬ v2 = ii 0 then (okF h2 a0 11 9 2 ∧ okF h2 a0 11 3 2 ∧ okF h2 (fR h2 a0 3) 8 0 2 ∧ okR h2 (fR h2 (fR h2 a0 3) 0) x1 ∧ oC h2 (fR h2 a0 9) = 1 ∧ GoCi d 28 [.ref (fR h2 a0 9), .ref (eR h2 (fR h2 (fR h2 a0 3) 0) x1), .int x2] h2 (fun v3 h3 => Q (some (.int v3)) h3)) else (Q (some (.int (ii (-1)))) h2)))))))))) := by
  refine (G_aload rfl (mF fc159 (by rfl))).trans ?_
  refine (G_iload rfl (mF fc159 (by rfl))).trans ?_
  refine (G_Vi (q := 91314) (y := 178) (a := a0) (c := 11) rfl rfl rfl rfl (by decide) rfl (as := [.ref a0, .int x1]) (rest := []) rfl rfl (mF fc159 (by rfl))).trans (andR (GoCi_congr fun v1 h1 => ?_))
  refine (G_eq (mF fc159 (by rfl))).trans (gi ?_ ?_)
  ·
    refine (G_iconst (mF fc159 (by rfl))).trans ?_
    exact G_ireturnI rfl (mF fc159 (by rfl))
  ·
    refine (G_iload rfl (mF fc159 (by rfl))).trans ?_
    refine (G_lt (mF fc159 (by rfl))).trans (gi ?_ ?_)
    ·
      refine (G_iconst (mF fc159 (by rfl))).trans ?_
      exact G_ireturnI rfl (mF fc159 (by rfl))
    ·
      refine (G_iload rfl (mF fc159 (by rfl))).trans ?_
      refine (G_iconst (mF fc159 (by rfl))).trans ?_
      refine (G_igt (mF fc159 (by rfl))).trans (gi ?_ ?_)
      ·
        refine (G_iconst (mF fc159 (by rfl))).trans ?_
        exact G_ireturnI rfl (mF fc159 (by rfl))
      ·
        refine (G_aload rfl (mF fc159 (by rfl))).trans ?_
        refine (G_getR (c := 11) (k := 6) rfl rfl rfl (mF fc159 (by rfl))).trans (andR ?_)
        refine (G_Vi (q := 27713) (y := 54) (a := fR h1 a0 6) (c := 4) rfl rfl rfl rfl (by decide) rfl (as := [.ref (fR h1 a0 6)]) (rest := []) rfl rfl (mF fc159 (by rfl))).trans (andR (GoCi_congr fun v2 h2 => ?_))
        refine (G_ne (mF fc159 (by rfl))).trans (gi ?_ ?_)
        ·
          refine (G_aload rfl (mF fc159 (by rfl))).trans ?_
          refine (G_getR (c := 11) (k := 9) rfl rfl rfl (mF fc159 (by rfl))).trans (andR ?_)
          refine (G_aload rfl (mF fc159 (by rfl))).trans ?_
          refine (G_getR (c := 11) (k := 3) rfl rfl rfl (mF fc159 (by rfl))).trans (andR ?_)
          refine (G_getR (c := 8) (k := 0) rfl rfl rfl (mF fc159 (by rfl))).trans (andR ?_)
          refine (G_iload rfl (mF fc159 (by rfl))).trans ?_
          refine (G_aaloadR rfl (mF fc159 (by rfl))).trans (andR ?_)
          refine (G_iload rfl (mF fc159 (by rfl))).trans ?_
          refine (G_Vi (q := 14355) (y := 28) (a := fR h2 a0 9) (c := 1) rfl rfl rfl rfl (by decide) rfl (as := [.ref (fR h2 a0 9), .ref (eR h2 (fR h2 (fR h2 a0 3) 0) x1), .int x2]) (rest := []) rfl rfl (mF fc159 (by rfl))).trans (andR (GoCi_congr fun v3 h3 => ?_))
          exact G_ireturnI rfl (mF fc159 (by rfl))
        ·
          refine (G_iconst (mF fc159 (by rfl))).trans ?_
          exact G_ireturnI rfl (mF fc159 (by rfl))
theorem e159 {d : Nat} {h : mHeap} {K : Int32 → mHeap → Prop} {a0 : Nat} {x1 : Int32} {x2 : Int32} : GoCi (d + 1) 159 [.ref a0, .int x1, .int x2] h K ↔ Go d 159 0 [some (.ref a0), some (.int x1), some (.int x2)] [] h (rI K) := GoCi_entry rfl rfl
set_option maxRecDepth 20000 in
theorem fc160 : mCodes[160]? = some mc160 := rfl
theorem b160_0 {d : Nat} {h : mHeap} {Q : Option Value → mHeap → Prop} {a0 : Nat} {x1 : Int32} {x2 : Int32} : Go d 160 0 [some (.ref a0), some (.int x1), some (.int x2)] [] h Q ↔ oC h a0 = 11 ∧ GoCi d 173 [.ref a0, .int x1] h (fun v1 h1 => (if v1 = ii 0 then (Q (some (.int (ii (-1)))) h1) else (GoCi d 180 [.int x2, .int (ii 2)] h1 (fun v2 h2 => (if v2 = ii 0 then (Q (some (.int (ii (-1)))) h2) else (okF h2 a0 11 8 2 ∧ oC h2 (fR h2 a0 8) = 0 ∧ GoCi d 4 [.ref (fR h2 a0 8), .int x1, .int x2] h2 (fun v3 h3 => Q (some (.int v3)) h3))))))) := by
  refine (G_aload rfl (mF fc160 (by rfl))).trans ?_
  refine (G_iload rfl (mF fc160 (by rfl))).trans ?_
  refine (G_Vi (q := 88754) (y := 173) (a := a0) (c := 11) rfl rfl rfl rfl (by decide) rfl (as := [.ref a0, .int x1]) (rest := []) rfl rfl (mF fc160 (by rfl))).trans (andR (GoCi_congr fun v1 h1 => ?_))
  refine (G_eq (mF fc160 (by rfl))).trans (gi ?_ ?_)
  ·
    refine (G_iconst (mF fc160 (by rfl))).trans ?_
    exact G_ireturnI rfl (mF fc160 (by rfl))
  ·
    refine (G_iload rfl (mF fc160 (by rfl))).trans ?_
    refine (G_iconst (mF fc160 (by rfl))).trans ?_
    refine (G_Ti (q := 92338) (y := 180) rfl rfl rfl (as := [.int x2, .int (ii 2)]) (rest := []) rfl rfl (mF fc160 (by rfl))).trans (GoCi_congr fun v2 h2 => ?_)
    refine (G_eq (mF fc160 (by rfl))).trans (gi ?_ ?_)
    ·
      refine (G_iconst (mF fc160 (by rfl))).trans ?_
      exact G_ireturnI rfl (mF fc160 (by rfl))
    ·
      refine (G_aload rfl (mF fc160 (by rfl))).trans ?_
      refine (G_getR (c := 11) (k := 8) rfl rfl rfl (mF fc160 (by rfl))).trans (andR ?_)
      refine (G_iload rfl (mF fc160 (by rfl))).trans ?_
      refine (G_iload rfl (mF fc160 (by rfl))).trans ?_
      refine (G_Vi (q := 2051) (y := 4) (a := fR h2 a0 8) (c := 0) rfl rfl rfl rfl (by decide) rfl (as := [.ref (fR h2 a0 8), .int x1, .int x2]) (rest := []) rfl rfl (mF fc160 (by rfl))).trans (andR (GoCi_congr fun v3 h3 => ?_))
      refine (G_goto (mF fc160 (by rfl))).trans ?_
      exact G_ireturnI rfl (mF fc160 (by rfl))
theorem e160 {d : Nat} {h : mHeap} {K : Int32 → mHeap → Prop} {a0 : Nat} {x1 : Int32} {x2 : Int32} : GoCi (d + 1) 160 [.ref a0, .int x1, .int x2] h K ↔ Go d 160 0 [some (.ref a0), some (.int x1), some (.int x2)] [] h (rI K) := GoCi_entry rfl rfl
set_option maxRecDepth 20000 in
theorem fc161 : mCodes[161]? = some mc161 := rfl
theorem b161_0 {d : Nat} {h : mHeap} {Q : Option Value → mHeap → Prop} {a0 : Nat} {x1 : Int32} {x2 : Int32} : Go d 161 0 [some (.ref a0), some (.int x1), some (.int x2)] [] h Q ↔ GoCi d 180 [.int x1, .int (ii 2)] h (fun v1 h1 => (if v1 = ii 0 then (Q (some (.int (ii (-1)))) h1) else (GoCi d 180 [.int x2, .int (ii 9)] h1 (fun v2 h2 => (if v2 = ii 0 then (Q (some (.int (ii (-1)))) h2) else (okF h2 a0 11 6 2 ∧ oC h2 (fR h2 a0 6) = 4 ∧ GoCi d 54 [.ref (fR h2 a0 6)] h2 (fun v3 h3 => (if ¬ v3 = ii 0 then (okF h3 a0 11 8 2 ∧ oC h3 (fR h3 a0 8) = 0 ∧ GoCi d 6 [.ref (fR h3 a0 8), .int x1, .int x2] h3 (fun v4 h4 => Q (some (.int v4)) h4)) else (Q (some (.int (ii (-1)))) h3))))))))) := by
  refine (G_iload rfl (mF fc161 (by rfl))).trans ?_
  refine (G_iconst (mF fc161 (by rfl))).trans ?_
  refine (G_Ti (q := 92338) (y := 180) rfl rfl rfl (as := [.int x1, .int (ii 2)]) (rest := []) rfl rfl (mF fc161 (by rfl))).trans (GoCi_congr fun v1 h1 => ?_)
  refine (G_eq (mF fc161 (by rfl))).trans (gi ?_ ?_)
  ·
    refine (G_iconst (mF fc161 (by rfl))).trans ?_
    exact G_ireturnI rfl (mF fc161 (by rfl))
  ·
    refine (G_iload rfl (mF fc161 (by rfl))).trans ?_
    refine (G_iconst (mF fc161 (by rfl))).trans ?_
    refine (G_Ti (q := 92338) (y := 180) rfl rfl rfl (as := [.int x2, .int (ii 9)]) (rest := []) rfl rfl (mF fc161 (by rfl))).trans (GoCi_congr fun v2 h2 => ?_)
    refine (G_eq (mF fc161 (by rfl))).trans (gi ?_ ?_)
    ·
      refine (G_iconst (mF fc161 (by rfl))).trans ?_
      exact G_ireturnI rfl (mF fc161 (by rfl))
    ·
      refine (G_aload rfl (mF fc161 (by rfl))).trans ?_
      refine (G_getR (c := 11) (k := 6) rfl rfl rfl (mF fc161 (by rfl))).trans (andR ?_)
      refine (G_Vi (q := 27713) (y := 54) (a := fR h2 a0 6) (c := 4) rfl rfl rfl rfl (by decide) rfl (as := [.ref (fR h2 a0 6)]) (rest := []) rfl rfl (mF fc161 (by rfl))).trans (andR (GoCi_congr fun v3 h3 => ?_))
      refine (G_ne (mF fc161 (by rfl))).trans (gi ?_ ?_)
      ·
        refine (G_aload rfl (mF fc161 (by rfl))).trans ?_
        refine (G_getR (c := 11) (k := 8) rfl rfl rfl (mF fc161 (by rfl))).trans (andR ?_)
        refine (G_iload rfl (mF fc161 (by rfl))).trans ?_
        refine (G_iload rfl (mF fc161 (by rfl))).trans ?_
        refine (G_Vi (q := 3075) (y := 6) (a := fR h3 a0 8) (c := 0) rfl rfl rfl rfl (by decide) rfl (as := [.ref (fR h3 a0 8), .int x1, .int x2]) (rest := []) rfl rfl (mF fc161 (by rfl))).trans (andR (GoCi_congr fun v4 h4 => ?_))
        exact G_ireturnI rfl (mF fc161 (by rfl))
      ·
        refine (G_iconst (mF fc161 (by rfl))).trans ?_
        exact G_ireturnI rfl (mF fc161 (by rfl))
theorem e161 {d : Nat} {h : mHeap} {K : Int32 → mHeap → Prop} {a0 : Nat} {x1 : Int32} {x2 : Int32} : GoCi (d + 1) 161 [.ref a0, .int x1, .int x2] h K ↔ Go d 161 0 [some (.ref a0), some (.int x1), some (.int x2)] [] h (rI K) := GoCi_entry rfl rfl
set_option maxRecDepth 20000 in
theorem fc162 : mCodes[162]? = some mc162 := rfl
theorem b162_0 {d : Nat} {h : mHeap} {Q : Option Value → mHeap → Prop} {a0 : Nat} {x1 : Int32} {x2 : Int32} : Go d 162 0 [some (.ref a0), some (.int x1), some (.int x2)] [] h Q ↔ oC h a0 = 11 ∧ GoCi d 173 [.ref a0, .int x1] h (fun v1 h1 => (if v1 = ii 0 then (Q (some (.int (ii (-1)))) h1) else (GoCi d 180 [.int x2, .int (ii 2)] h1 (fun v2 h2 => (if v2 = ii 0 then (Q (some (.int (ii (-1)))) h2) else (okF h2 a0 11 8 2 ∧ oC h2 (fR h2 a0 8) = 0 ∧ GoCi d 13 [.ref (fR h2 a0 8), .int x1, .int x2] h2 (fun v3 h3 => Q (some (.int v3)) h3))))))) := by
  refine (G_aload rfl (mF fc162 (by rfl))).trans ?_
  refine (G_iload rfl (mF fc162 (by rfl))).trans ?_
  refine (G_Vi (q := 88754) (y := 173) (a := a0) (c := 11) rfl rfl rfl rfl (by decide) rfl (as := [.ref a0, .int x1]) (rest := []) rfl rfl (mF fc162 (by rfl))).trans (andR (GoCi_congr fun v1 h1 => ?_))
  refine (G_eq (mF fc162 (by rfl))).trans (gi ?_ ?_)
  ·
    refine (G_iconst (mF fc162 (by rfl))).trans ?_
    exact G_ireturnI rfl (mF fc162 (by rfl))
  ·
    refine (G_iload rfl (mF fc162 (by rfl))).trans ?_
    refine (G_iconst (mF fc162 (by rfl))).trans ?_
    refine (G_Ti (q := 92338) (y := 180) rfl rfl rfl (as := [.int x2, .int (ii 2)]) (rest := []) rfl rfl (mF fc162 (by rfl))).trans (GoCi_congr fun v2 h2 => ?_)
    refine (G_eq (mF fc162 (by rfl))).trans (gi ?_ ?_)
    ·
      refine (G_iconst (mF fc162 (by rfl))).trans ?_
      exact G_ireturnI rfl (mF fc162 (by rfl))
    ·
      refine (G_aload rfl (mF fc162 (by rfl))).trans ?_
      refine (G_getR (c := 11) (k := 8) rfl rfl rfl (mF fc162 (by rfl))).trans (andR ?_)
      refine (G_iload rfl (mF fc162 (by rfl))).trans ?_
      refine (G_iload rfl (mF fc162 (by rfl))).trans ?_
      refine (G_Vi (q := 6659) (y := 13) (a := fR h2 a0 8) (c := 0) rfl rfl rfl rfl (by decide) rfl (as := [.ref (fR h2 a0 8), .int x1, .int x2]) (rest := []) rfl rfl (mF fc162 (by rfl))).trans (andR (GoCi_congr fun v3 h3 => ?_))
      refine (G_goto (mF fc162 (by rfl))).trans ?_
      exact G_ireturnI rfl (mF fc162 (by rfl))
theorem e162 {d : Nat} {h : mHeap} {K : Int32 → mHeap → Prop} {a0 : Nat} {x1 : Int32} {x2 : Int32} : GoCi (d + 1) 162 [.ref a0, .int x1, .int x2] h K ↔ Go d 162 0 [some (.ref a0), some (.int x1), some (.int x2)] [] h (rI K) := GoCi_entry rfl rfl
set_option maxRecDepth 20000 in
theorem fc163 : mCodes[163]? = some mc163 := rfl
theorem b163_0 {d : Nat} {h : mHeap} {Q : Option Value → mHeap → Prop} {a0 : Nat} {x1 : Int32} {x2 : Int32} : Go d 163 0 [some (.ref a0), some (.int x1), some (.int x2)] [] h Q ↔ oC h a0 = 11 ∧ GoCi d 173 [.ref a0, .int x1] h (fun v1 h1 => (if v1 = ii 0 then (Q (some (.int (ii (-1)))) h1) else (GoCi d 180 [.int x2, .int (ii 2)] h1 (fun v2 h2 => (if v2 = ii 0 then (Q (some (.int (ii (-1)))) h2) else (okF h2 a0 11 8 2 ∧ oC h2 (fR h2 a0 8) = 0 ∧ GoCi d 16 [.ref (fR h2 a0 8), .int x1, .int x2] h2 (fun v3 h3 => Q (some (.int v3)) h3))))))) := by
  refine (G_aload rfl (mF fc163 (by rfl))).trans ?_
  refine (G_iload rfl (mF fc163 (by rfl))).trans ?_
  refine (G_Vi (q := 88754) (y := 173) (a := a0) (c := 11) rfl rfl rfl rfl (by decide) rfl (as := [.ref a0, .int x1]) (rest := []) rfl rfl (mF fc163 (by rfl))).trans (andR (GoCi_congr fun v1 h1 => ?_))
  refine (G_eq (mF fc163 (by rfl))).trans (gi ?_ ?_)
  ·
    refine (G_iconst (mF fc163 (by rfl))).trans ?_
    exact G_ireturnI rfl (mF fc163 (by rfl))
  ·
    refine (G_iload rfl (mF fc163 (by rfl))).trans ?_
    refine (G_iconst (mF fc163 (by rfl))).trans ?_
    refine (G_Ti (q := 92338) (y := 180) rfl rfl rfl (as := [.int x2, .int (ii 2)]) (rest := []) rfl rfl (mF fc163 (by rfl))).trans (GoCi_congr fun v2 h2 => ?_)
    refine (G_eq (mF fc163 (by rfl))).trans (gi ?_ ?_)
    ·
      refine (G_iconst (mF fc163 (by rfl))).trans ?_
      exact G_ireturnI rfl (mF fc163 (by rfl))
    ·
      refine (G_aload rfl (mF fc163 (by rfl))).trans ?_
      refine (G_getR (c := 11) (k := 8) rfl rfl rfl (mF fc163 (by rfl))).trans (andR ?_)
      refine (G_iload rfl (mF fc163 (by rfl))).trans ?_
      refine (G_iload rfl (mF fc163 (by rfl))).trans ?_
      refine (G_Vi (q := 8195) (y := 16) (a := fR h2 a0 8) (c := 0) rfl rfl rfl rfl (by decide) rfl (as := [.ref (fR h2 a0 8), .int x1, .int x2]) (rest := []) rfl rfl (mF fc163 (by rfl))).trans (andR (GoCi_congr fun v3 h3 => ?_))
      refine (G_goto (mF fc163 (by rfl))).trans ?_
      exact G_ireturnI rfl (mF fc163 (by rfl))
theorem e163 {d : Nat} {h : mHeap} {K : Int32 → mHeap → Prop} {a0 : Nat} {x1 : Int32} {x2 : Int32} : GoCi (d + 1) 163 [.ref a0, .int x1, .int x2] h K ↔ Go d 163 0 [some (.ref a0), some (.int x1), some (.int x2)] [] h (rI K) := GoCi_entry rfl rfl
set_option maxRecDepth 20000 in
theorem fc164 : mCodes[164]? = some mc164 := rfl
theorem b164_0 {d : Nat} {h : mHeap} {Q : Option Value → mHeap → Prop} {a0 : Nat} {x1 : Int32} {x2 : Int32} : Go d 164 0 [some (.ref a0), some (.int x1), some (.int x2)] [] h Q ↔ (if ¬ x1 = (ii (-1)) then (oC h a0 = 11 ∧ GoCi d 178 [.ref a0, .int x1] h (fun v1 h1 => (if v1 = ii 0 then (Q (some (.int (ii (-2)))) h1) else (okF h1 a0 11 6 2 ∧ oC h1 (fR h1 a0 6) = 4 ∧ GoCi d 54 [.ref (fR h1 a0 6)] h1 (fun v2 h2 => (if v2 = ii 0 then (Q (some (.int (ii (-2)))) h2) else (okF h2 a0 11 6 2 ∧ okF h2 (fR h2 a0 6) 4 4 0 ∧ (if (fI h2 (fR h2 a0 6) 4) < (ii 10) then (okF h2 a0 11 6 2 ∧ oC h2 (fR h2 a0 6) = 4 ∧ GoCv d 61 [.ref (fR h2 a0 6), .int x1, .int x2] h2 (fun h3 => okF h3 a0 11 6 2 ∧ okF h3 (fR h3 a0 6) 4 4 0 ∧ Q (some (.int (fI h3 (fR h3 a0 6) 4))) h3)) else (Q (some (.int (ii (-2)))) h2))))))))) else (okF h a0 11 6 2 ∧ okP h (fR h a0 6) 4 4 ∧ Q (some (.int (ii 0))) (sF h (fR h a0 6) 4 (.int (ii 0))))) := by
  refine (G_iload rfl (mF fc164 (by rfl))).trans ?_
  refine (G_iconst (mF fc164 (by rfl))).trans ?_
  refine (G_ine (mF fc164 (by rfl))).trans (gi ?_ ?_)
  ·
    refine (G_aload rfl (mF fc164 (by rfl))).trans ?_
    refine (G_iload rfl (mF fc164 (by rfl))).trans ?_
    refine (G_Vi (q := 91314) (y := 178) (a := a0) (c := 11) rfl rfl rfl rfl (by decide) rfl (as := [.ref a0, .int x1]) (rest := []) rfl rfl (mF fc164 (by rfl))).trans (andR (GoCi_congr fun v1 h1 => ?_))
    refine (G_eq (mF fc164 (by rfl))).trans (gi ?_ ?_)
    ·
      refine (G_iconst (mF fc164 (by rfl))).trans ?_
      exact G_ireturnI rfl (mF fc164 (by rfl))
    ·
      refine (G_aload rfl (mF fc164 (by rfl))).trans ?_
      refine (G_getR (c := 11) (k := 6) rfl rfl rfl (mF fc164 (by rfl))).trans (andR ?_)
      refine (G_Vi (q := 27713) (y := 54) (a := fR h1 a0 6) (c := 4) rfl rfl rfl rfl (by decide) rfl (as := [.ref (fR h1 a0 6)]) (rest := []) rfl rfl (mF fc164 (by rfl))).trans (andR (GoCi_congr fun v2 h2 => ?_))
      refine (G_eq (mF fc164 (by rfl))).trans (gi ?_ ?_)
      ·
        refine (G_iconst (mF fc164 (by rfl))).trans ?_
        exact G_ireturnI rfl (mF fc164 (by rfl))
      ·
        refine (G_aload rfl (mF fc164 (by rfl))).trans ?_
        refine (G_getR (c := 11) (k := 6) rfl rfl rfl (mF fc164 (by rfl))).trans (andR ?_)
        refine (G_getI (c := 4) (k := 4) rfl rfl rfl (mF fc164 (by rfl))).trans (andR ?_)
        refine (G_iconst (mF fc164 (by rfl))).trans ?_
        refine (G_ilt (mF fc164 (by rfl))).trans (gi ?_ ?_)
        ·
          refine (G_aload rfl (mF fc164 (by rfl))).trans ?_
          refine (G_getR (c := 11) (k := 6) rfl rfl rfl (mF fc164 (by rfl))).trans (andR ?_)
          refine (G_iload rfl (mF fc164 (by rfl))).trans ?_
          refine (G_iload rfl (mF fc164 (by rfl))).trans ?_
          refine (G_Vv (q := 31299) (y := 61) (a := fR h2 a0 6) (c := 4) rfl rfl rfl rfl (by decide) rfl (as := [.ref (fR h2 a0 6), .int x1, .int x2]) (rest := []) rfl rfl (mF fc164 (by rfl))).trans (andR (GoCv_congr fun h3 => ?_))
          refine (G_aload rfl (mF fc164 (by rfl))).trans ?_
          refine (G_getR (c := 11) (k := 6) rfl rfl rfl (mF fc164 (by rfl))).trans (andR ?_)
          refine (G_getI (c := 4) (k := 4) rfl rfl rfl (mF fc164 (by rfl))).trans (andR ?_)
          exact G_ireturnI rfl (mF fc164 (by rfl))
        ·
          refine (G_iconst (mF fc164 (by rfl))).trans ?_
          exact G_ireturnI rfl (mF fc164 (by rfl))
  ·
    refine (G_aload rfl (mF fc164 (by rfl))).trans ?_
    refine (G_getR (c := 11) (k := 6) rfl rfl rfl (mF fc164 (by rfl))).trans (andR ?_)
    refine (G_iconst (mF fc164 (by rfl))).trans ?_
    refine (G_putT (c := 4) (k := 4) rfl rfl rfl (mF fc164 (by rfl))).trans (andR ?_)
    refine (G_iconst (mF fc164 (by rfl))).trans ?_
    exact G_ireturnI rfl (mF fc164 (by rfl))
theorem e164 {d : Nat} {h : mHeap} {K : Int32 → mHeap → Prop} {a0 : Nat} {x1 : Int32} {x2 : Int32} : GoCi (d + 1) 164 [.ref a0, .int x1, .int x2] h K ↔ Go d 164 0 [some (.ref a0), some (.int x1), some (.int x2)] [] h (rI K) := GoCi_entry rfl rfl
set_option maxRecDepth 20000 in
theorem fc165 : mCodes[165]? = some mc165 := rfl
theorem b165_0 {d : Nat} {h : mHeap} {Q : Option Value → mHeap → Prop} {a0 : Nat} {x1 : Int32} : Go d 165 0 [some (.ref a0), some (.int x1)] [] h Q ↔ GoCi d 180 [.int x1, .int (ii 3)] h (fun v1 h1 => (if v1 = ii 0 then (Q (some (.int (ii (-1)))) h1) else (okF h1 a0 11 6 2 ∧ oC h1 (fR h1 a0 6) = 4 ∧ GoCi d 54 [.ref (fR h1 a0 6)] h1 (fun v2 h2 => (if v2 = ii 0 then (Q (some (.int (ii (-1)))) h2) else (okF h2 a0 11 3 2 ∧ okF h2 a0 11 6 2 ∧ oC h2 (fR h2 a0 3) = 8 ∧ GoCi d 90 [.ref (fR h2 a0 3), .ref (fR h2 a0 6), .int x1] h2 (fun v3 h3 => Q (some (.int v3)) h3))))))) := by
  refine (G_iload rfl (mF fc165 (by rfl))).trans ?_
  refine (G_iconst (mF fc165 (by rfl))).trans ?_
  refine (G_Ti (q := 92338) (y := 180) rfl rfl rfl (as := [.int x1, .int (ii 3)]) (rest := []) rfl rfl (mF fc165 (by rfl))).trans (GoCi_congr fun v1 h1 => ?_)
  refine (G_eq (mF fc165 (by rfl))).trans (gi ?_ ?_)
  ·
    refine (G_iconst (mF fc165 (by rfl))).trans ?_
    exact G_ireturnI rfl (mF fc165 (by rfl))
  ·
    refine (G_aload rfl (mF fc165 (by rfl))).trans ?_
    refine (G_getR (c := 11) (k := 6) rfl rfl rfl (mF fc165 (by rfl))).trans (andR ?_)
    refine (G_Vi (q := 27713) (y := 54) (a := fR h1 a0 6) (c := 4) rfl rfl rfl rfl (by decide) rfl (as := [.ref (fR h1 a0 6)]) (rest := []) rfl rfl (mF fc165 (by rfl))).trans (andR (GoCi_congr fun v2 h2 => ?_))
    refine (G_eq (mF fc165 (by rfl))).trans (gi ?_ ?_)
    ·
      refine (G_iconst (mF fc165 (by rfl))).trans ?_
      exact G_ireturnI rfl (mF fc165 (by rfl))
    ·
      refine (G_aload rfl (mF fc165 (by rfl))).trans ?_
      refine (G_getR (c := 11) (k := 3) rfl rfl rfl (mF fc165 (by rfl))).trans (andR ?_)
      refine (G_aload rfl (mF fc165 (by rfl))).trans ?_
      refine (G_getR (c := 11) (k := 6) rfl rfl rfl (mF fc165 (by rfl))).trans (andR ?_)
      refine (G_iload rfl (mF fc165 (by rfl))).trans ?_
      refine (G_Vi (q := 46211) (y := 90) (a := fR h2 a0 3) (c := 8) rfl rfl rfl rfl (by decide) rfl (as := [.ref (fR h2 a0 3), .ref (fR h2 a0 6), .int x1]) (rest := []) rfl rfl (mF fc165 (by rfl))).trans (andR (GoCi_congr fun v3 h3 => ?_))
      refine (G_goto (mF fc165 (by rfl))).trans ?_
      exact G_ireturnI rfl (mF fc165 (by rfl))
theorem e165 {d : Nat} {h : mHeap} {K : Int32 → mHeap → Prop} {a0 : Nat} {x1 : Int32} : GoCi (d + 1) 165 [.ref a0, .int x1] h K ↔ Go d 165 0 [some (.ref a0), some (.int x1)] [] h (rI K) := GoCi_entry rfl rfl
set_option maxRecDepth 20000 in
theorem fc166 : mCodes[166]? = some mc166 := rfl
theorem b166_0 {d : Nat} {h : mHeap} {Q : Option Value → mHeap → Prop} {a0 : Nat} {x1 : Int32} : Go d 166 0 [some (.ref a0), some (.int x1)] [] h Q ↔ GoCi d 180 [.int x1, .int (ii 2)] h (fun v1 h1 => (if v1 = ii 0 then (Q (some (.int (ii (-1)))) h1) else (okF h1 a0 11 6 2 ∧ oC h1 (fR h1 a0 6) = 4 ∧ GoCi d 54 [.ref (fR h1 a0 6)] h1 (fun v2 h2 => (if v2 = ii 0 then (Q (some (.int (ii (-1)))) h2) else (okF h2 a0 11 3 2 ∧ okF h2 a0 11 6 2 ∧ oC h2 (fR h2 a0 3) = 8 ∧ GoCi d 91 [.ref (fR h2 a0 3), .ref (fR h2 a0 6), .int x1] h2 (fun v3 h3 => Q (some (.int v3)) h3))))))) := by
  refine (G_iload rfl (mF fc166 (by rfl))).trans ?_
  refine (G_iconst (mF fc166 (by rfl))).trans ?_
  refine (G_Ti (q := 92338) (y := 180) rfl rfl rfl (as := [.int x1, .int (ii 2)]) (rest := []) rfl rfl (mF fc166 (by rfl))).trans (GoCi_congr fun v1 h1 => ?_)
  refine (G_eq (mF fc166 (by rfl))).trans (gi ?_ ?_)
  ·
    refine (G_iconst (mF fc166 (by rfl))).trans ?_
    exact G_ireturnI rfl (mF fc166 (by rfl))
  ·
    refine (G_aload rfl (mF fc166 (by rfl))).trans ?_
    refine (G_getR (c := 11) (k := 6) rfl rfl rfl (mF fc166 (by rfl))).trans (andR ?_)
    refine (G_Vi (q := 27713) (y := 54) (a := fR h1 a0 6) (c := 4) rfl rfl rfl rfl (by decide) rfl (as := [.ref (fR h1 a0 6)]) (rest := []) rfl rfl (mF fc166 (by rfl))).trans (andR (GoCi_congr fun v2 h2 => ?_))
    refine (G_eq (mF fc166 (by rfl))).trans (gi ?_ ?_)
    ·
      refine (G_iconst (mF fc166 (by rfl))).trans ?_
      exact G_ireturnI rfl (mF fc166 (by rfl))
    ·
      refine (G_aload rfl (mF fc166 (by rfl))).trans ?_
      refine (G_getR (c := 11) (k := 3) rfl rfl rfl (mF fc166 (by rfl))).trans (andR ?_)
      refine (G_aload rfl (mF fc166 (by rfl))).trans ?_
      refine (G_getR (c := 11) (k := 6) rfl rfl rfl (mF fc166 (by rfl))).trans (andR ?_)
      refine (G_iload rfl (mF fc166 (by rfl))).trans ?_
      refine (G_Vi (q := 46723) (y := 91) (a := fR h2 a0 3) (c := 8) rfl rfl rfl rfl (by decide) rfl (as := [.ref (fR h2 a0 3), .ref (fR h2 a0 6), .int x1]) (rest := []) rfl rfl (mF fc166 (by rfl))).trans (andR (GoCi_congr fun v3 h3 => ?_))
      refine (G_goto (mF fc166 (by rfl))).trans ?_
      exact G_ireturnI rfl (mF fc166 (by rfl))
theorem e166 {d : Nat} {h : mHeap} {K : Int32 → mHeap → Prop} {a0 : Nat} {x1 : Int32} : GoCi (d + 1) 166 [.ref a0, .int x1] h K ↔ Go d 166 0 [some (.ref a0), some (.int x1)] [] h (rI K) := GoCi_entry rfl rfl
set_option maxRecDepth 20000 in
theorem fc167 : mCodes[167]? = some mc167 := rfl
theorem b167_0 {d : Nat} {h : mHeap} {Q : Option Value → mHeap → Prop} {a0 : Nat} {x1 : Int32} : Go d 167 0 [some (.ref a0), some (.int x1), none] [] h Q ↔ (if ii 0 ≤ x1 then (okF h a0 11 6 2 ∧ okF h (fR h a0 6) 4 7 0 ∧ okF h a0 11 6 2 ∧ okP h (fR h a0 6) 4 7 ∧ Q (some (.int (fI h (fR h a0 6) 7))) (sF h (fR h a0 6) 7 (.int x1))) else (Q (some (.int (ii (-1)))) h)) := by
  refine (G_iload rfl (mF fc167 (by rfl))).trans ?_
  refine (G_ge (mF fc167 (by rfl))).trans (gi ?_ ?_)
  ·
    refine (G_aload rfl (mF fc167 (by rfl))).trans ?_
    refine (G_getR (c := 11) (k := 6) rfl rfl rfl (mF fc167 (by rfl))).trans (andR ?_)
    refine (G_getI (c := 4) (k := 7) rfl rfl rfl (mF fc167 (by rfl))).trans (andR ?_)
    refine (G_istore (k := 2) (L' := [some (.ref a0), some (.int x1), some (.int (fI h (fR h a0 6) 7))]) rfl (ltb rfl) rfl (mF fc167 (by rfl))).trans ?_
    refine (G_aload rfl (mF fc167 (by rfl))).trans ?_
    refine (G_getR (c := 11) (k := 6) rfl rfl rfl (mF fc167 (by rfl))).trans (andR ?_)
    refine (G_iload rfl (mF fc167 (by rfl))).trans ?_
    refine (G_putT (c := 4) (k := 7) rfl rfl rfl (mF fc167 (by rfl))).trans (andR ?_)
    refine (G_iload rfl (mF fc167 (by rfl))).trans ?_
    exact G_ireturnI rfl (mF fc167 (by rfl))
  ·
    refine (G_iconst (mF fc167 (by rfl))).trans ?_
    exact G_ireturnI rfl (mF fc167 (by rfl))
theorem e167 {d : Nat} {h : mHeap} {K : Int32 → mHeap → Prop} {a0 : Nat} {x1 : Int32} : GoCi (d + 1) 167 [.ref a0, .int x1] h K ↔ Go d 167 0 [some (.ref a0), some (.int x1), none] [] h (rI K) := GoCi_entry rfl rfl
set_option maxRecDepth 20000 in
theorem fc168 : mCodes[168]? = some mc168 := rfl
theorem b168_0 {d : Nat} {h : mHeap} {Q : Option Value → mHeap → Prop} {a0 : Nat} {x1 : Int32} {x2 : Int32} {x3 : Int32} : Go d 168 0 [some (.ref a0), some (.int x1), some (.int x2), some (.int x3)] [] h Q ↔ (if x1 < (ii 1) then (Q (some (.int (ii (-1)))) h) else ((if (ii 10) < x1 then (Q (some (.int (ii (-1)))) h) else ((if x2 < (ii 1) then (Q (some (.int (ii (-1)))) h) else ((if x2 ≤ (ii 60) then (GoCi d 180 [.int x3, .int (ii 3)] h (fun v1 h1 => (if v1 = ii 0 then (Q (some (.int (ii (-1)))) h1) else (okF h1 a0 11 6 2 ∧ oC h1 (fR h1 a0 6) = 4 ∧ GoCi d 54 [.ref (fR h1 a0 6)] h1 (fun v2 h2 => (if v2 = ii 0 then (Q (some (.int (ii (-1)))) h2) else (okF h2 a0 11 9 2 ∧ oC h2 (fR h2 a0 9) = 1 ∧ GoCi d 25 [.ref (fR h2 a0 9), .int x1, .int x2, .int x3] h2 (fun v3 h3 => Q (some (.int v3)) h3)))))))) else (Q (some (.int (ii (-1)))) h)))))))) := by
  refine (G_iload rfl (mF fc168 (by rfl))).trans ?_
  refine (G_iconst (mF fc168 (by rfl))).trans ?_
  refine (G_ilt (mF fc168 (by rfl))).trans (gi ?_ ?_)
  ·
    refine (G_iconst (mF fc168 (by rfl))).trans ?_
    exact G_ireturnI rfl (mF fc168 (by rfl))
  ·
    refine (G_iload rfl (mF fc168 (by rfl))).trans ?_
    refine (G_iconst (mF fc168 (by rfl))).trans ?_
    refine (G_igt (mF fc168 (by rfl))).trans (gi ?_ ?_)
    ·
      refine (G_iconst (mF fc168 (by rfl))).trans ?_
      exact G_ireturnI rfl (mF fc168 (by rfl))
    ·
      refine (G_iload rfl (mF fc168 (by rfl))).trans ?_
      refine (G_iconst (mF fc168 (by rfl))).trans ?_
      refine (G_ilt (mF fc168 (by rfl))).trans (gi ?_ ?_)
      ·
        refine (G_iconst (mF fc168 (by rfl))).trans ?_
        exact G_ireturnI rfl (mF fc168 (by rfl))
      ·
        refine (G_iload rfl (mF fc168 (by rfl))).trans ?_
        refine (G_iconst (mF fc168 (by rfl))).trans ?_
        refine (G_ile (mF fc168 (by rfl))).trans (gi ?_ ?_)
        ·
          refine (G_iload rfl (mF fc168 (by rfl))).trans ?_
          refine (G_iconst (mF fc168 (by rfl))).trans ?_
          refine (G_Ti (q := 92338) (y := 180) rfl rfl rfl (as := [.int x3, .int (ii 3)]) (rest := []) rfl rfl (mF fc168 (by rfl))).trans (GoCi_congr fun v1 h1 => ?_)
          refine (G_eq (mF fc168 (by rfl))).trans (gi ?_ ?_)
          ·
            refine (G_iconst (mF fc168 (by rfl))).trans ?_
            exact G_ireturnI rfl (mF fc168 (by rfl))
          ·
            refine (G_aload rfl (mF fc168 (by rfl))).trans ?_
            refine (G_getR (c := 11) (k := 6) rfl rfl rfl (mF fc168 (by rfl))).trans (andR ?_)
            refine (G_Vi (q := 27713) (y := 54) (a := fR h1 a0 6) (c := 4) rfl rfl rfl rfl (by decide) rfl (as := [.ref (fR h1 a0 6)]) (rest := []) rfl rfl (mF fc168 (by rfl))).trans (andR (GoCi_congr fun v2 h2 => ?_))
            refine (G_eq (mF fc168 (by rfl))).trans (gi ?_ ?_)
            ·
              refine (G_iconst (mF fc168 (by rfl))).trans ?_
              exact G_ireturnI rfl (mF fc168 (by rfl))
            ·
              refine (G_aload rfl (mF fc168 (by rfl))).trans ?_
              refine (G_getR (c := 11) (k := 9) rfl rfl rfl (mF fc168 (by rfl))).trans (andR ?_)
              refine (G_iload rfl (mF fc168 (by rfl))).trans ?_
              refine (G_iload rfl (mF fc168 (by rfl))).trans ?_
              refine (G_iload rfl (mF fc168 (by rfl))).trans ?_
              refine (G_Vi (q := 12820) (y := 25) (a := fR h2 a0 9) (c := 1) rfl rfl rfl rfl (by decide) rfl (as := [.ref (fR h2 a0 9), .int x1, .int x2, .int x3]) (rest := []) rfl rfl (mF fc168 (by rfl))).trans (andR (GoCi_congr fun v3 h3 => ?_))
              refine (G_goto (mF fc168 (by rfl))).trans ?_
              exact G_ireturnI rfl (mF fc168 (by rfl))
        ·
          refine (G_iconst (mF fc168 (by rfl))).trans ?_
          exact G_ireturnI rfl (mF fc168 (by rfl))
theorem e168 {d : Nat} {h : mHeap} {K : Int32 → mHeap → Prop} {a0 : Nat} {x1 : Int32} {x2 : Int32} {x3 : Int32} : GoCi (d + 1) 168 [.ref a0, .int x1, .int x2, .int x3] h K ↔ Go d 168 0 [some (.ref a0), some (.int x1), some (.int x2), some (.int x3)] [] h (rI K) := GoCi_entry rfl rfl
set_option maxRecDepth 20000 in
theorem fc169 : mCodes[169]? = some mc169 := rfl
theorem b169_0 {d : Nat} {h : mHeap} {Q : Option Value → mHeap → Prop} {a0 : Nat} {x1 : Int32} : Go d 169 0 [some (.ref a0), some (.int x1)] [] h Q ↔ (if x1 = ii 6 then (okF h a0 11 3 2 ∧ okF h (fR h a0 3) 8 1 0 ∧ Q (some (.int (fI h (fR h a0 3) 1))) h) else (if x1 = ii 7 then (okF h a0 11 5 0 ∧ Q (some (.int (fI h a0 5))) h) else (if x1 = ii 8 then (okF h a0 11 6 2 ∧ okF h (fR h a0 6) 4 1 2 ∧ okF h (fR h (fR h a0 6) 1) 3 0 0 ∧ Q (some (.int (fI h (fR h (fR h a0 6) 1) 0))) h) else (if x1 = ii 9 then (okF h a0 11 6 2 ∧ oC h (fR h a0 6) = 4 ∧ GoCi d 54 [.ref (fR h a0 6)] h (fun v1 h1 => (if v1 = ii 0 then (Q (some (.int (ii (-1)))) h1) else (okF h1 a0 11 6 2 ∧ okF h1 (fR h1 a0 6) 4 1 2 ∧ oC h1 (fR h1 (fR h1 a0 6) 1) = 3 ∧ GoCr d 46 [.ref (fR h1 (fR h1 a0 6) 1), .int (ii (-1))] h1 (fun v2 h2 => oC h2 v2 = 10 ∧ GoCi d 126 [.ref v2] h2 (fun v3 h3 => Q (some (.int v3)) h3)))))) else (if x1 = ii 10 then (okF h a0 11 6 2 ∧ okF h (fR h a0 6) 4 4 0 ∧ Q (some (.int (fI h (fR h a0 6) 4))) h) else (if x1 = ii 11 then (okF h a0 11 6 2 ∧ okF h (fR h a0 6) 4 3 0 ∧ Q (some (.int (fI h (fR h a0 6) 3))) h) else (if x1 = ii 12 then (okF h a0 11 6 2 ∧ okF h (fR h a0 6) 4 7 0 ∧ Q (some (.int (fI h (fR h a0 6) 7))) h) else (if x1 = ii 13 then (okF h a0 11 0 2 ∧ okF h (fR h a0 0) 9 1 0 ∧ Q (some (.int (fI h (fR h a0 0) 1))) h) else (oC h a0 = 11 ∧ GoCi d 172 [.ref a0, .int x1] h (fun v4 h4 => Q (some (.int v4)) h4)))))))))) := by
  refine (G_iload rfl (mF fc169 (by rfl))).trans ?_
  refine (G_tableswitch (lo := 6) (hi := 13) [48, 56, 61, 72, 101, 109, 117, 125] rfl (by decide) (by decide) (by decide) (mF fc169 (by rfl))).trans ?_
  refine gi ?_ ?_
  ·
    refine (G_aload rfl (mF fc169 (by rfl))).trans ?_
    refine (G_getR (c := 11) (k := 3) rfl rfl rfl (mF fc169 (by rfl))).trans (andR ?_)
    refine (G_getI (c := 8) (k := 1) rfl rfl rfl (mF fc169 (by rfl))).trans (andR ?_)
    exact G_ireturnI rfl (mF fc169 (by rfl))
  ·
    refine gi ?_ ?_
    ·
      refine (G_aload rfl (mF fc169 (by rfl))).trans ?_
      refine (G_getI (c := 11) (k := 5) rfl rfl rfl (mF fc169 (by rfl))).trans (andR ?_)
      exact G_ireturnI rfl (mF fc169 (by rfl))
    ·
      refine gi ?_ ?_
      ·
        refine (G_aload rfl (mF fc169 (by rfl))).trans ?_
        refine (G_getR (c := 11) (k := 6) rfl rfl rfl (mF fc169 (by rfl))).trans (andR ?_)
        refine (G_getR (c := 4) (k := 1) rfl rfl rfl (mF fc169 (by rfl))).trans (andR ?_)
        refine (G_getI (c := 3) (k := 0) rfl rfl rfl (mF fc169 (by rfl))).trans (andR ?_)
        exact G_ireturnI rfl (mF fc169 (by rfl))
      ·
        refine gi ?_ ?_
        ·
          refine (G_aload rfl (mF fc169 (by rfl))).trans ?_
          refine (G_getR (c := 11) (k := 6) rfl rfl rfl (mF fc169 (by rfl))).trans (andR ?_)
          refine (G_Vi (q := 27713) (y := 54) (a := fR h a0 6) (c := 4) rfl rfl rfl rfl (by decide) rfl (as := [.ref (fR h a0 6)]) (rest := []) rfl rfl (mF fc169 (by rfl))).trans (andR (GoCi_congr fun v1 h1 => ?_))
          refine (G_eq (mF fc169 (by rfl))).trans (gi ?_ ?_)
          ·
            refine (G_iconst (mF fc169 (by rfl))).trans ?_
            exact G_ireturnI rfl (mF fc169 (by rfl))
          ·
            refine (G_aload rfl (mF fc169 (by rfl))).trans ?_
            refine (G_getR (c := 11) (k := 6) rfl rfl rfl (mF fc169 (by rfl))).trans (andR ?_)
            refine (G_getR (c := 4) (k := 1) rfl rfl rfl (mF fc169 (by rfl))).trans (andR ?_)
            refine (G_iconst (mF fc169 (by rfl))).trans ?_
            refine (G_Vr (q := 23602) (y := 46) (a := fR h1 (fR h1 a0 6) 1) (c := 3) rfl rfl rfl rfl (by decide) rfl (as := [.ref (fR h1 (fR h1 a0 6) 1), .int (ii (-1))]) (rest := []) rfl rfl (mF fc169 (by rfl))).trans (andR (GoCr_congr fun v2 h2 => ?_))
            refine (G_Vi (q := 64673) (y := 126) (a := v2) (c := 10) rfl rfl rfl rfl (by decide) rfl (as := [.ref v2]) (rest := []) rfl rfl (mF fc169 (by rfl))).trans (andR (GoCi_congr fun v3 h3 => ?_))
            refine (G_goto (mF fc169 (by rfl))).trans ?_
            exact G_ireturnI rfl (mF fc169 (by rfl))
        ·
          refine gi ?_ ?_
          ·
            refine (G_aload rfl (mF fc169 (by rfl))).trans ?_
            refine (G_getR (c := 11) (k := 6) rfl rfl rfl (mF fc169 (by rfl))).trans (andR ?_)
            refine (G_getI (c := 4) (k := 4) rfl rfl rfl (mF fc169 (by rfl))).trans (andR ?_)
            exact G_ireturnI rfl (mF fc169 (by rfl))
          ·
            refine gi ?_ ?_
            ·
              refine (G_aload rfl (mF fc169 (by rfl))).trans ?_
              refine (G_getR (c := 11) (k := 6) rfl rfl rfl (mF fc169 (by rfl))).trans (andR ?_)
              refine (G_getI (c := 4) (k := 3) rfl rfl rfl (mF fc169 (by rfl))).trans (andR ?_)
              exact G_ireturnI rfl (mF fc169 (by rfl))
            ·
              refine gi ?_ ?_
              ·
                refine (G_aload rfl (mF fc169 (by rfl))).trans ?_
                refine (G_getR (c := 11) (k := 6) rfl rfl rfl (mF fc169 (by rfl))).trans (andR ?_)
                refine (G_getI (c := 4) (k := 7) rfl rfl rfl (mF fc169 (by rfl))).trans (andR ?_)
                exact G_ireturnI rfl (mF fc169 (by rfl))
              ·
                refine gi ?_ ?_
                ·
                  refine (G_aload rfl (mF fc169 (by rfl))).trans ?_
                  refine (G_getR (c := 11) (k := 0) rfl rfl rfl (mF fc169 (by rfl))).trans (andR ?_)
                  refine (G_getI (c := 9) (k := 1) rfl rfl rfl (mF fc169 (by rfl))).trans (andR ?_)
                  exact G_ireturnI rfl (mF fc169 (by rfl))
                ·
                  refine (G_aload rfl (mF fc169 (by rfl))).trans ?_
                  refine (G_iload rfl (mF fc169 (by rfl))).trans ?_
                  refine (G_Vi (q := 88242) (y := 172) (a := a0) (c := 11) rfl rfl rfl rfl (by decide) rfl (as := [.ref a0, .int x1]) (rest := []) rfl rfl (mF fc169 (by rfl))).trans (andR (GoCi_congr fun v4 h4 => ?_))
                  exact G_ireturnI rfl (mF fc169 (by rfl))
theorem e169 {d : Nat} {h : mHeap} {K : Int32 → mHeap → Prop} {a0 : Nat} {x1 : Int32} : GoCi (d + 1) 169 [.ref a0, .int x1] h K ↔ Go d 169 0 [some (.ref a0), some (.int x1)] [] h (rI K) := GoCi_entry rfl rfl
set_option maxRecDepth 20000 in
theorem fc170 : mCodes[170]? = some mc170 := rfl
theorem b170_0 {d : Nat} {h : mHeap} {Q : Option Value → mHeap → Prop} {a0 : Nat} {x1 : Int32} : Go d 170 0 [some (.ref a0), some (.int x1), none] [] h Q ↔ GoCi d 180 [.int x1, .int (ii 4)] h (fun v1 h1 => (if ¬ v1 = ii 0 then (okF h1 a0 11 7 2 ∧ ((nuR h1 (fR h1 a0 7) x1 ∧ (∃ h2 : mHeap, h2 = nO h1 4 ∧ 64 ≤ h1.length ∧ GoCv d 53 [.ref h1.length] h2 (fun h3 => okF h3 a0 11 7 2 ∧ okS h3 (fR h3 a0 7) x1 h1.length ∧ Go d 170 36 [some (.ref a0), some (.int x1), some (.ref h1.length)] [] (sR h3 (fR h3 a0 7) x1 h1.length) Q))) ∨ (okR h1 (fR h1 a0 7) x1 ∧ 64 ≤ (eR h1 (fR h1 a0 7) x1) ∧ Go d 170 36 [some (.ref a0), some (.int x1), some (.ref (eR h1 (fR h1 a0 7) x1))] [] h1 Q))) else (Q (some (.int (ii (-1)))) h1))) := by
  refine (G_iload rfl (mF fc170 (by rfl))).trans ?_
  refine (G_iconst (mF fc170 (by rfl))).trans ?_
  refine (G_Ti (q := 92338) (y := 180) rfl rfl rfl (as := [.int x1, .int (ii 4)]) (rest := []) rfl rfl (mF fc170 (by rfl))).trans (GoCi_congr fun v1 h1 => ?_)
  refine (G_ne (mF fc170 (by rfl))).trans (gi ?_ ?_)
  ·
    refine (G_aload rfl (mF fc170 (by rfl))).trans ?_
    refine (G_getR (c := 11) (k := 7) rfl rfl rfl (mF fc170 (by rfl))).trans (andR ?_)
    refine (G_iload rfl (mF fc170 (by rfl))).trans ?_
    refine (G_aaload rfl (mF fc170 (by rfl))).trans (or_congr (andR ?_) (andR ?_))
    ·
      refine (G_astoren (k := 2) (L' := [some (.ref a0), some (.int x1), some .null]) rfl (ltb rfl) rfl (mF fc170 (by rfl))).trans ?_
      refine (G_aloadn rfl (mF fc170 (by rfl))).trans ?_
      refine (G_ifnonnulln (mF fc170 (by rfl))).trans ?_
      refine (G_new (mF fc170 (by rfl))).trans ?_
      refine (exN (A := fun x => Go d 170 24 [some (.ref a0), some (.int x1), some .null] [.ref h1.length] x Q) (e := nO h1 4) fun h2 => ?_)
      refine (G_dupr (mF fc170 (by rfl))).trans ?_
      refine (G_Nv (q := 27201) (y := 53) (a := h1.length) rfl rfl rfl rfl (as := [.ref h1.length]) (rest := [.ref h1.length]) rfl rfl (mF fc170 (by rfl))).trans (andR (GoCv_congr fun h3 => ?_))
      refine (G_astore (k := 2) (L' := [some (.ref a0), some (.int x1), some (.ref h1.length)]) rfl (ltb rfl) rfl (mF fc170 (by rfl))).trans ?_
      refine (G_aload rfl (mF fc170 (by rfl))).trans ?_
      refine (G_getR (c := 11) (k := 7) rfl rfl rfl (mF fc170 (by rfl))).trans (andR ?_)
      refine (G_iload rfl (mF fc170 (by rfl))).trans ?_
      refine (G_aload rfl (mF fc170 (by rfl))).trans ?_
      refine (G_aastore (mF fc170 (by rfl))).trans (andR ?_)
      exact Iff.rfl
    ·
      refine (G_astore (k := 2) (L' := [some (.ref a0), some (.int x1), some (.ref (eR h1 (fR h1 a0 7) x1))]) rfl (ltb rfl) rfl (mF fc170 (by rfl))).trans ?_
      refine (G_aload rfl (mF fc170 (by rfl))).trans ?_
      refine (G_ifnonnullr (mF fc170 (by rfl))).trans (andR ?_)
      exact Iff.rfl
  ·
    refine (G_iconst (mF fc170 (by rfl))).trans ?_
    exact G_ireturnI rfl (mF fc170 (by rfl))
theorem b170_36 {d : Nat} {h : mHeap} {Q : Option Value → mHeap → Prop} {a0 : Nat} {l1 : Option Value} {a2 : Nat} : Go d 170 36 [some (.ref a0), l1, some (.ref a2)] [] h Q ↔ okF h a0 11 6 2 ∧ oC h a2 = 4 ∧ GoCv d 56 [.ref a2, .ref (fR h a0 6)] h (fun h1 => okF h1 a0 11 6 2 ∧ okF h1 (fR h1 a0 6) 4 1 2 ∧ okF h1 (fR h1 (fR h1 a0 6) 1) 3 0 0 ∧ Q (some (.int (fI h1 (fR h1 (fR h1 a0 6) 1) 0))) h1) := by
  refine (G_aload rfl (mF fc170 (by rfl))).trans ?_
  refine (G_aload rfl (mF fc170 (by rfl))).trans ?_
  refine (G_getR (c := 11) (k := 6) rfl rfl rfl (mF fc170 (by rfl))).trans (andR ?_)
  refine (G_Vv (q := 28738) (y := 56) (a := a2) (c := 4) rfl rfl rfl rfl (by decide) rfl (as := [.ref a2, .ref (fR h a0 6)]) (rest := []) rfl rfl (mF fc170 (by rfl))).trans (andR (GoCv_congr fun h1 => ?_))
  refine (G_aload rfl (mF fc170 (by rfl))).trans ?_
  refine (G_getR (c := 11) (k := 6) rfl rfl rfl (mF fc170 (by rfl))).trans (andR ?_)
  refine (G_getR (c := 4) (k := 1) rfl rfl rfl (mF fc170 (by rfl))).trans (andR ?_)
  refine (G_getI (c := 3) (k := 0) rfl rfl rfl (mF fc170 (by rfl))).trans (andR ?_)
  exact G_ireturnI rfl (mF fc170 (by rfl))
theorem e170 {d : Nat} {h : mHeap} {K : Int32 → mHeap → Prop} {a0 : Nat} {x1 : Int32} : GoCi (d + 1) 170 [.ref a0, .int x1] h K ↔ Go d 170 0 [some (.ref a0), some (.int x1), none] [] h (rI K) := GoCi_entry rfl rfl
set_option maxRecDepth 20000 in
theorem fc171 : mCodes[171]? = some mc171 := rfl
theorem b171_0 {d : Nat} {h : mHeap} {Q : Option Value → mHeap → Prop} {a0 : Nat} {x1 : Int32} : Go d 171 0 [some (.ref a0), some (.int x1), none] [] h Q ↔ GoCi d 180 [.int x1, .int (ii 4)] h (fun v1 h1 => (if ¬ v1 = ii 0 then (okF h1 a0 11 7 2 ∧ ((nuR h1 (fR h1 a0 7) x1 ∧ Q (some (.int (ii (-1)))) h1) ∨ (okR h1 (fR h1 a0 7) x1 ∧ 64 ≤ (eR h1 (fR h1 a0 7) x1) ∧ okF h1 a0 11 6 2 ∧ oC h1 (fR h1 a0 6) = 4 ∧ GoCv d 56 [.ref (fR h1 a0 6), .ref (eR h1 (fR h1 a0 7) x1)] h1 (fun h2 => okF h2 a0 11 6 2 ∧ okF h2 (fR h2 a0 6) 4 1 2 ∧ okF h2 (fR h2 (fR h2 a0 6) 1) 3 0 0 ∧ Q (some (.int (fI h2 (fR h2 (fR h2 a0 6) 1) 0))) h2)))) else (Q (some (.int (ii (-1)))) h1))) := by
  refine (G_iload rfl (mF fc171 (by rfl))).trans ?_
  refine (G_iconst (mF fc171 (by rfl))).trans ?_
  refine (G_Ti (q := 92338) (y := 180) rfl rfl rfl (as := [.int x1, .int (ii 4)]) (rest := []) rfl rfl (mF fc171 (by rfl))).trans (GoCi_congr fun v1 h1 => ?_)
  refine (G_ne (mF fc171 (by rfl))).trans (gi ?_ ?_)
  ·
    refine (G_aload rfl (mF fc171 (by rfl))).trans ?_
    refine (G_getR (c := 11) (k := 7) rfl rfl rfl (mF fc171 (by rfl))).trans (andR ?_)
    refine (G_iload rfl (mF fc171 (by rfl))).trans ?_
    refine (G_aaload rfl (mF fc171 (by rfl))).trans (or_congr (andR ?_) (andR ?_))
    ·
      refine (G_astoren (k := 2) (L' := [some (.ref a0), some (.int x1), some .null]) rfl (ltb rfl) rfl (mF fc171 (by rfl))).trans ?_
      refine (G_aloadn rfl (mF fc171 (by rfl))).trans ?_
      refine (G_ifnonnulln (mF fc171 (by rfl))).trans ?_
      refine (G_iconst (mF fc171 (by rfl))).trans ?_
      exact G_ireturnI rfl (mF fc171 (by rfl))
    ·
      refine (G_astore (k := 2) (L' := [some (.ref a0), some (.int x1), some (.ref (eR h1 (fR h1 a0 7) x1))]) rfl (ltb rfl) rfl (mF fc171 (by rfl))).trans ?_
      refine (G_aload rfl (mF fc171 (by rfl))).trans ?_
      refine (G_ifnonnullr (mF fc171 (by rfl))).trans (andR ?_)
      refine (G_aload rfl (mF fc171 (by rfl))).trans ?_
      refine (G_getR (c := 11) (k := 6) rfl rfl rfl (mF fc171 (by rfl))).trans (andR ?_)
      refine (G_aload rfl (mF fc171 (by rfl))).trans ?_
      refine (G_Vv (q := 28738) (y := 56) (a := fR h1 a0 6) (c := 4) rfl rfl rfl rfl (by decide) rfl (as := [.ref (fR h1 a0 6), .ref (eR h1 (fR h1 a0 7) x1)]) (rest := []) rfl rfl (mF fc171 (by rfl))).trans (andR (GoCv_congr fun h2 => ?_))
      refine (G_aload rfl (mF fc171 (by rfl))).trans ?_
      refine (G_getR (c := 11) (k := 6) rfl rfl rfl (mF fc171 (by rfl))).trans (andR ?_)
      refine (G_getR (c := 4) (k := 1) rfl rfl rfl (mF fc171 (by rfl))).trans (andR ?_)
      refine (G_getI (c := 3) (k := 0) rfl rfl rfl (mF fc171 (by rfl))).trans (andR ?_)
      exact G_ireturnI rfl (mF fc171 (by rfl))
  ·
    refine (G_iconst (mF fc171 (by rfl))).trans ?_
    exact G_ireturnI rfl (mF fc171 (by rfl))
theorem e171 {d : Nat} {h : mHeap} {K : Int32 → mHeap → Prop} {a0 : Nat} {x1 : Int32} : GoCi (d + 1) 171 [.ref a0, .int x1] h K ↔ Go d 171 0 [some (.ref a0), some (.int x1), none] [] h (rI K) := GoCi_entry rfl rfl
set_option maxRecDepth 20000 in
theorem fc172 : mCodes[172]? = some mc172 := rfl
theorem b172_0 {d : Nat} {h : mHeap} {Q : Option Value → mHeap → Prop} {a0 : Nat} {x1 : Int32} : Go d 172 0 [some (.ref a0), some (.int x1)] [] h Q ↔ (if x1 = ii 0 then (okF h a0 11 6 2 ∧ okF h (fR h a0 6) 4 0 2 ∧ okF h (fR h (fR h a0 6) 0) 2 0 0 ∧ Q (some (.int (fI h (fR h (fR h a0 6) 0) 0))) h) else (if x1 = ii 1 then (okF h a0 11 6 2 ∧ okF h (fR h a0 6) 4 1 2 ∧ okF h (fR h (fR h a0 6) 1) 3 1 0 ∧ Q (some (.int (fI h (fR h (fR h a0 6) 1) 1))) h) else (if x1 = ii 2 then (okF h a0 11 6 2 ∧ okF h (fR h a0 6) 4 0 2 ∧ okF h (fR h (fR h a0 6) 0) 2 2 0 ∧ Q (some (.int (fI h (fR h (fR h a0 6) 0) 2))) h) else (if x1 = ii 3 then (okF h a0 11 6 2 ∧ okF h (fR h a0 6) 4 0 2 ∧ okF h (fR h (fR h a0 6) 0) 2 7 0 ∧ Q (some (.int (fI h (fR h (fR h a0 6) 0) 7))) h) else (if x1 = ii 4 then (okF h a0 11 6 2 ∧ okF h (fR h a0 6) 4 0 2 ∧ okF h (fR h (fR h a0 6) 0) 2 9 0 ∧ Q (some (.int (fI h (fR h (fR h a0 6) 0) 9))) h) else (if x1 = ii 5 then (okF h a0 11 6 2 ∧ okF h (fR h a0 6) 4 0 2 ∧ okF h (fR h (fR h a0 6) 0) 2 11 0 ∧ Q (some (.int (fI h (fR h (fR h a0 6) 0) 11))) h) else (Q (some (.int (ii (-1)))) h))))))) := by
  refine (G_iload rfl (mF fc172 (by rfl))).trans ?_
  refine (G_tableswitch (lo := 0) (hi := 5) [40, 51, 62, 73, 84, 95] rfl (by decide) (by decide) (by decide) (mF fc172 (by rfl))).trans ?_
  refine gi ?_ ?_
  ·
    refine (G_aload rfl (mF fc172 (by rfl))).trans ?_
    refine (G_getR (c := 11) (k := 6) rfl rfl rfl (mF fc172 (by rfl))).trans (andR ?_)
    refine (G_getR (c := 4) (k := 0) rfl rfl rfl (mF fc172 (by rfl))).trans (andR ?_)
    refine (G_getI (c := 2) (k := 0) rfl rfl rfl (mF fc172 (by rfl))).trans (andR ?_)
    exact G_ireturnI rfl (mF fc172 (by rfl))
  ·
    refine gi ?_ ?_
    ·
      refine (G_aload rfl (mF fc172 (by rfl))).trans ?_
      refine (G_getR (c := 11) (k := 6) rfl rfl rfl (mF fc172 (by rfl))).trans (andR ?_)
      refine (G_getR (c := 4) (k := 1) rfl rfl rfl (mF fc172 (by rfl))).trans (andR ?_)
      refine (G_getI (c := 3) (k := 1) rfl rfl rfl (mF fc172 (by rfl))).trans (andR ?_)
      exact G_ireturnI rfl (mF fc172 (by rfl))
    ·
      refine gi ?_ ?_
      ·
        refine (G_aload rfl (mF fc172 (by rfl))).trans ?_
        refine (G_getR (c := 11) (k := 6) rfl rfl rfl (mF fc172 (by rfl))).trans (andR ?_)
        refine (G_getR (c := 4) (k := 0) rfl rfl rfl (mF fc172 (by rfl))).trans (andR ?_)
        refine (G_getI (c := 2) (k := 2) rfl rfl rfl (mF fc172 (by rfl))).trans (andR ?_)
        exact G_ireturnI rfl (mF fc172 (by rfl))
      ·
        refine gi ?_ ?_
        ·
          refine (G_aload rfl (mF fc172 (by rfl))).trans ?_
          refine (G_getR (c := 11) (k := 6) rfl rfl rfl (mF fc172 (by rfl))).trans (andR ?_)
          refine (G_getR (c := 4) (k := 0) rfl rfl rfl (mF fc172 (by rfl))).trans (andR ?_)
          refine (G_getI (c := 2) (k := 7) rfl rfl rfl (mF fc172 (by rfl))).trans (andR ?_)
          exact G_ireturnI rfl (mF fc172 (by rfl))
        ·
          refine gi ?_ ?_
          ·
            refine (G_aload rfl (mF fc172 (by rfl))).trans ?_
            refine (G_getR (c := 11) (k := 6) rfl rfl rfl (mF fc172 (by rfl))).trans (andR ?_)
            refine (G_getR (c := 4) (k := 0) rfl rfl rfl (mF fc172 (by rfl))).trans (andR ?_)
            refine (G_getI (c := 2) (k := 9) rfl rfl rfl (mF fc172 (by rfl))).trans (andR ?_)
            exact G_ireturnI rfl (mF fc172 (by rfl))
          ·
            refine gi ?_ ?_
            ·
              refine (G_aload rfl (mF fc172 (by rfl))).trans ?_
              refine (G_getR (c := 11) (k := 6) rfl rfl rfl (mF fc172 (by rfl))).trans (andR ?_)
              refine (G_getR (c := 4) (k := 0) rfl rfl rfl (mF fc172 (by rfl))).trans (andR ?_)
              refine (G_getI (c := 2) (k := 11) rfl rfl rfl (mF fc172 (by rfl))).trans (andR ?_)
              exact G_ireturnI rfl (mF fc172 (by rfl))
            ·
              refine (G_iconst (mF fc172 (by rfl))).trans ?_
              exact G_ireturnI rfl (mF fc172 (by rfl))
theorem e172 {d : Nat} {h : mHeap} {K : Int32 → mHeap → Prop} {a0 : Nat} {x1 : Int32} : GoCi (d + 1) 172 [.ref a0, .int x1] h K ↔ Go d 172 0 [some (.ref a0), some (.int x1)] [] h (rI K) := GoCi_entry rfl rfl
set_option maxRecDepth 20000 in
theorem fc173 : mCodes[173]? = some mc173 := rfl
theorem b173_0 {d : Nat} {h : mHeap} {Q : Option Value → mHeap → Prop} {a0 : Nat} {x1 : Int32} : Go d 173 0 [some (.ref a0), some (.int x1)] [] h Q ↔ (if x1 < ii 0 then (((ii 0) = ii 0 ∨ (ii 0) = ii 1) ∧ Q (some (.int (ii 0))) h) else (okF h a0 11 6 2 ∧ okF h (fR h a0 6) 4 0 2 ∧ okF h (fR h (fR h a0 6) 0) 2 2 0 ∧ (if (fI h (fR h (fR h a0 6) 0) 2) ≤ x1 then (((ii 0) = ii 0 ∨ (ii 0) = ii 1) ∧ Q (some (.int (ii 0))) h) else (((ii 1) = ii 0 ∨ (ii 1) = ii 1) ∧ Q (some (.int (ii 1))) h)))) := by
  refine (G_iload rfl (mF fc173 (by rfl))).trans ?_
  refine (G_lt (mF fc173 (by rfl))).trans (gi ?_ ?_)
  ·
    refine (G_iconst (mF fc173 (by rfl))).trans ?_
    exact G_ireturnZ rfl (mF fc173 (by rfl))
  ·
    refine (G_iload rfl (mF fc173 (by rfl))).trans ?_
    refine (G_aload rfl (mF fc173 (by rfl))).trans ?_
    refine (G_getR (c := 11) (k := 6) rfl rfl rfl (mF fc173 (by rfl))).trans (andR ?_)
    refine (G_getR (c := 4) (k := 0) rfl rfl rfl (mF fc173 (by rfl))).trans (andR ?_)
    refine (G_getI (c := 2) (k := 2) rfl rfl rfl (mF fc173 (by rfl))).trans (andR ?_)
    refine (G_ige (mF fc173 (by rfl))).trans (gi ?_ ?_)
    ·
      refine (G_iconst (mF fc173 (by rfl))).trans ?_
      exact G_ireturnZ rfl (mF fc173 (by rfl))
    ·
      refine (G_iconst (mF fc173 (by rfl))).trans ?_
      refine (G_goto (mF fc173 (by rfl))).trans ?_
      exact G_ireturnZ rfl (mF fc173 (by rfl))
theorem e173 {d : Nat} {h : mHeap} {K : Int32 → mHeap → Prop} {a0 : Nat} {x1 : Int32} : GoCi (d + 1) 173 [.ref a0, .int x1] h K ↔ Go d 173 0 [some (.ref a0), some (.int x1)] [] h (rI K) := GoCi_entry rfl rfl
set_option maxRecDepth 20000 in
theorem fc174 : mCodes[174]? = some mc174 := rfl
theorem b174_0 {d : Nat} {h : mHeap} {Q : Option Value → mHeap → Prop} {a0 : Nat} {x1 : Int32} : Go d 174 0 [some (.ref a0), some (.int x1)] [] h Q ↔ oC h a0 = 11 ∧ GoCi d 173 [.ref a0, .int x1] h (fun v1 h1 => (if v1 = ii 0 then (((ii 0) = ii 0 ∨ (ii 0) = ii 1) ∧ Q (some (.int (ii 0))) h1) else (okF h1 a0 11 6 2 ∧ okF h1 (fR h1 a0 6) 4 1 2 ∧ oC h1 (fR h1 (fR h1 a0 6) 1) = 3 ∧ GoCi d 49 [.ref (fR h1 (fR h1 a0 6) 1), .int x1] h1 (fun v2 h2 => (if ¬ v2 = ii 0 then (((ii 0) = ii 0 ∨ (ii 0) = ii 1) ∧ Q (some (.int (ii 0))) h2) else (((ii 1) = ii 0 ∨ (ii 1) = ii 1) ∧ Q (some (.int (ii 1))) h2)))))) := by
  refine (G_aload rfl (mF fc174 (by rfl))).trans ?_
  refine (G_iload rfl (mF fc174 (by rfl))).trans ?_
  refine (G_Vi (q := 88754) (y := 173) (a := a0) (c := 11) rfl rfl rfl rfl (by decide) rfl (as := [.ref a0, .int x1]) (rest := []) rfl rfl (mF fc174 (by rfl))).trans (andR (GoCi_congr fun v1 h1 => ?_))
  refine (G_eq (mF fc174 (by rfl))).trans (gi ?_ ?_)
  ·
    refine (G_iconst (mF fc174 (by rfl))).trans ?_
    exact G_ireturnZ rfl (mF fc174 (by rfl))
  ·
    refine (G_aload rfl (mF fc174 (by rfl))).trans ?_
    refine (G_getR (c := 11) (k := 6) rfl rfl rfl (mF fc174 (by rfl))).trans (andR ?_)
    refine (G_getR (c := 4) (k := 1) rfl rfl rfl (mF fc174 (by rfl))).trans (andR ?_)
    refine (G_iload rfl (mF fc174 (by rfl))).trans ?_
    refine (G_Vi (q := 25138) (y := 49) (a := fR h1 (fR h1 a0 6) 1) (c := 3) rfl rfl rfl rfl (by decide) rfl (as := [.ref (fR h1 (fR h1 a0 6) 1), .int x1]) (rest := []) rfl rfl (mF fc174 (by rfl))).trans (andR (GoCi_congr fun v2 h2 => ?_))
    refine (G_ne (mF fc174 (by rfl))).trans (gi ?_ ?_)
    ·
      refine (G_iconst (mF fc174 (by rfl))).trans ?_
      exact G_ireturnZ rfl (mF fc174 (by rfl))
    ·
      refine (G_iconst (mF fc174 (by rfl))).trans ?_
      refine (G_goto (mF fc174 (by rfl))).trans ?_
      exact G_ireturnZ rfl (mF fc174 (by rfl))
theorem e174 {d : Nat} {h : mHeap} {K : Int32 → mHeap → Prop} {a0 : Nat} {x1 : Int32} : GoCi (d + 1) 174 [.ref a0, .int x1] h K ↔ Go d 174 0 [some (.ref a0), some (.int x1)] [] h (rI K) := GoCi_entry rfl rfl
set_option maxRecDepth 20000 in
theorem fc175 : mCodes[175]? = some mc175 := rfl
theorem b175_0 {d : Nat} {h : mHeap} {Q : Option Value → mHeap → Prop} {a0 : Nat} {x1 : Int32} : Go d 175 0 [some (.ref a0), some (.int x1)] [] h Q ↔ okF h a0 11 6 2 ∧ oC h (fR h a0 6) = 4 ∧ GoCi d 54 [.ref (fR h a0 6)] h (fun v1 h1 => (if v1 = ii 0 then (((ii 0) = ii 0 ∨ (ii 0) = ii 1) ∧ Q (some (.int (ii 0))) h1) else ((if x1 = (ii (-1)) then (((ii 1) = ii 0 ∨ (ii 1) = ii 1) ∧ Q (some (.int (ii 1))) h1) else (oC h1 a0 = 11 ∧ GoCi d 173 [.ref a0, .int x1] h1 (fun v2 h2 => (if v2 = ii 0 then (((ii 0) = ii 0 ∨ (ii 0) = ii 1) ∧ Q (some (.int (ii 0))) h2) else (((ii 1) = ii 0 ∨ (ii 1) = ii 1) ∧ Q (some (.int (ii 1))) h2)))))))) := by
  refine (G_aload rfl (mF fc175 (by rfl))).trans ?_
  refine (G_getR (c := 11) (k := 6) rfl rfl rfl (mF fc175 (by rfl))).trans (andR ?_)
  refine (G_Vi (q := 27713) (y := 54) (a := fR h a0 6) (c := 4) rfl rfl rfl rfl (by decide) rfl (as := [.ref (fR h a0 6)]) (rest := []) rfl rfl (mF fc175 (by rfl))).trans (andR (GoCi_congr fun v1 h1 => ?_))
  refine (G_eq (mF fc175 (by rfl))).trans (gi ?_ ?_)
  ·
    refine (G_iconst (mF fc175 (by rfl))).trans ?_
    exact G_ireturnZ rfl (mF fc175 (by rfl))
  ·
    refine (G_iload rfl (mF fc175 (by rfl))).trans ?_
    refine (G_iconst (mF fc175 (by rfl))).trans ?_
    refine (G_ieq (mF fc175 (by rfl))).trans (gi ?_ ?_)
    ·
      refine (G_iconst (mF fc175 (by rfl))).trans ?_
      refine (G_goto (mF fc175 (by rfl))).trans ?_
      exact G_ireturnZ rfl (mF fc175 (by rfl))
    ·
      refine (G_aload rfl (mF fc175 (by rfl))).trans ?_
      refine (G_iload rfl (mF fc175 (by rfl))).trans ?_
      refine (G_Vi (q := 88754) (y := 173) (a := a0) (c := 11) rfl rfl rfl rfl (by decide) rfl (as := [.ref a0, .int x1]) (rest := []) rfl rfl (mF fc175 (by rfl))).trans (andR (GoCi_congr fun v2 h2 => ?_))
      refine (G_eq (mF fc175 (by rfl))).trans (gi ?_ ?_)
      ·
        refine (G_iconst (mF fc175 (by rfl))).trans ?_
        exact G_ireturnZ rfl (mF fc175 (by rfl))
      ·
        refine (G_iconst (mF fc175 (by rfl))).trans ?_
        refine (G_goto (mF fc175 (by rfl))).trans ?_
        exact G_ireturnZ rfl (mF fc175 (by rfl))
theorem e175 {d : Nat} {h : mHeap} {K : Int32 → mHeap → Prop} {a0 : Nat} {x1 : Int32} : GoCi (d + 1) 175 [.ref a0, .int x1] h K ↔ Go d 175 0 [some (.ref a0), some (.int x1)] [] h (rI K) := GoCi_entry rfl rfl
set_option maxRecDepth 20000 in
theorem fc176 : mCodes[176]? = some mc176 := rfl
theorem b176_0 {d : Nat} {h : mHeap} {Q : Option Value → mHeap → Prop} {a0 : Nat} {x1 : Int32} : Go d 176 0 [some (.ref a0), some (.int x1)] [] h Q ↔ (if x1 < ii 0 then (((ii 0) = ii 0 ∨ (ii 0) = ii 1) ∧ Q (some (.int (ii 0))) h) else (okF h a0 11 6 2 ∧ okF h (fR h a0 6) 4 0 2 ∧ okF h (fR h (fR h a0 6) 0) 2 7 0 ∧ (if (fI h (fR h (fR h a0 6) 0) 7) ≤ x1 then (((ii 0) = ii 0 ∨ (ii 0) = ii 1) ∧ Q (some (.int (ii 0))) h) else (((ii 1) = ii 0 ∨ (ii 1) = ii 1) ∧ Q (some (.int (ii 1))) h)))) := by
  refine (G_iload rfl (mF fc176 (by rfl))).trans ?_
  refine (G_lt (mF fc176 (by rfl))).trans (gi ?_ ?_)
  ·
    refine (G_iconst (mF fc176 (by rfl))).trans ?_
    exact G_ireturnZ rfl (mF fc176 (by rfl))
  ·
    refine (G_iload rfl (mF fc176 (by rfl))).trans ?_
    refine (G_aload rfl (mF fc176 (by rfl))).trans ?_
    refine (G_getR (c := 11) (k := 6) rfl rfl rfl (mF fc176 (by rfl))).trans (andR ?_)
    refine (G_getR (c := 4) (k := 0) rfl rfl rfl (mF fc176 (by rfl))).trans (andR ?_)
    refine (G_getI (c := 2) (k := 7) rfl rfl rfl (mF fc176 (by rfl))).trans (andR ?_)
    refine (G_ige (mF fc176 (by rfl))).trans (gi ?_ ?_)
    ·
      refine (G_iconst (mF fc176 (by rfl))).trans ?_
      exact G_ireturnZ rfl (mF fc176 (by rfl))
    ·
      refine (G_iconst (mF fc176 (by rfl))).trans ?_
      refine (G_goto (mF fc176 (by rfl))).trans ?_
      exact G_ireturnZ rfl (mF fc176 (by rfl))
theorem e176 {d : Nat} {h : mHeap} {K : Int32 → mHeap → Prop} {a0 : Nat} {x1 : Int32} : GoCi (d + 1) 176 [.ref a0, .int x1] h K ↔ Go d 176 0 [some (.ref a0), some (.int x1)] [] h (rI K) := GoCi_entry rfl rfl
set_option maxRecDepth 20000 in
theorem fc177 : mCodes[177]? = some mc177 := rfl
theorem b177_0 {d : Nat} {h : mHeap} {Q : Option Value → mHeap → Prop} {a0 : Nat} {x1 : Int32} : Go d 177 0 [some (.ref a0), some (.int x1)] [] h Q ↔ okF h a0 11 6 2 ∧ oC h (fR h a0 6) = 4 ∧ GoCi d 54 [.ref (fR h a0 6)] h (fun v1 h1 => (if v1 = ii 0 then (((ii 0) = ii 0 ∨ (ii 0) = ii 1) ∧ Q (some (.int (ii 0))) h1) else ((if x1 < ii 0 then (((ii 0) = ii 0 ∨ (ii 0) = ii 1) ∧ Q (some (.int (ii 0))) h1) else (okF h1 a0 11 6 2 ∧ okF h1 (fR h1 a0 6) 4 0 2 ∧ okF h1 (fR h1 (fR h1 a0 6) 0) 2 0 0 ∧ (if (shl (ii 1) (fI h1 (fR h1 (fR h1 a0 6) 0) 0)) ≤ x1 then (((ii 0) = ii 0 ∨ (ii 0) = ii 1) ∧ Q (some (.int (ii 0))) h1) else (((ii 1) = ii 0 ∨ (ii 1) = ii 1) ∧ Q (some (.int (ii 1))) h1))))))) := by
  refine (G_aload rfl (mF fc177 (by rfl))).trans ?_
  refine (G_getR (c := 11) (k := 6) rfl rfl rfl (mF fc177 (by rfl))).trans (andR ?_)
  refine (G_Vi (q := 27713) (y := 54) (a := fR h a0 6) (c := 4) rfl rfl rfl rfl (by decide) rfl (as := [.ref (fR h a0 6)]) (rest := []) rfl rfl (mF fc177 (by rfl))).trans (andR (GoCi_congr fun v1 h1 => ?_))
  refine (G_eq (mF fc177 (by rfl))).trans (gi ?_ ?_)
  ·
    refine (G_iconst (mF fc177 (by rfl))).trans ?_
    exact G_ireturnZ rfl (mF fc177 (by rfl))
  ·
    refine (G_iload rfl (mF fc177 (by rfl))).trans ?_
    refine (G_lt (mF fc177 (by rfl))).trans (gi ?_ ?_)
    ·
      refine (G_iconst (mF fc177 (by rfl))).trans ?_
      exact G_ireturnZ rfl (mF fc177 (by rfl))
    ·
      refine (G_iload rfl (mF fc177 (by rfl))).trans ?_
      refine (G_iconst (mF fc177 (by rfl))).trans ?_
      refine (G_aload rfl (mF fc177 (by rfl))).trans ?_
      refine (G_getR (c := 11) (k := 6) rfl rfl rfl (mF fc177 (by rfl))).trans (andR ?_)
      refine (G_getR (c := 4) (k := 0) rfl rfl rfl (mF fc177 (by rfl))).trans (andR ?_)
      refine (G_getI (c := 2) (k := 0) rfl rfl rfl (mF fc177 (by rfl))).trans (andR ?_)
      refine (G_ishl (mF fc177 (by rfl))).trans ?_
      refine (G_ige (mF fc177 (by rfl))).trans (gi ?_ ?_)
      ·
        refine (G_iconst (mF fc177 (by rfl))).trans ?_
        exact G_ireturnZ rfl (mF fc177 (by rfl))
      ·
        refine (G_iconst (mF fc177 (by rfl))).trans ?_
        refine (G_goto (mF fc177 (by rfl))).trans ?_
        exact G_ireturnZ rfl (mF fc177 (by rfl))
theorem e177 {d : Nat} {h : mHeap} {K : Int32 → mHeap → Prop} {a0 : Nat} {x1 : Int32} : GoCi (d + 1) 177 [.ref a0, .int x1] h K ↔ Go d 177 0 [some (.ref a0), some (.int x1)] [] h (rI K) := GoCi_entry rfl rfl
set_option maxRecDepth 20000 in
theorem fc178 : mCodes[178]? = some mc178 := rfl
theorem b178_0 {d : Nat} {h : mHeap} {Q : Option Value → mHeap → Prop} {a0 : Nat} {x1 : Int32} : Go d 178 0 [some (.ref a0), some (.int x1)] [] h Q ↔ (if x1 < ii 0 then (((ii 0) = ii 0 ∨ (ii 0) = ii 1) ∧ Q (some (.int (ii 0))) h) else (okF h a0 11 3 2 ∧ okF h (fR h a0 3) 8 1 0 ∧ (if (fI h (fR h a0 3) 1) ≤ x1 then (((ii 0) = ii 0 ∨ (ii 0) = ii 1) ∧ Q (some (.int (ii 0))) h) else (((ii 1) = ii 0 ∨ (ii 1) = ii 1) ∧ Q (some (.int (ii 1))) h)))) := by
  refine (G_iload rfl (mF fc178 (by rfl))).trans ?_
  refine (G_lt (mF fc178 (by rfl))).trans (gi ?_ ?_)
  ·
    refine (G_iconst (mF fc178 (by rfl))).trans ?_
    exact G_ireturnZ rfl (mF fc178 (by rfl))
  ·
    refine (G_iload rfl (mF fc178 (by rfl))).trans ?_
    refine (G_aload rfl (mF fc178 (by rfl))).trans ?_
    refine (G_getR (c := 11) (k := 3) rfl rfl rfl (mF fc178 (by rfl))).trans (andR ?_)
    refine (G_getI (c := 8) (k := 1) rfl rfl rfl (mF fc178 (by rfl))).trans (andR ?_)
    refine (G_ige (mF fc178 (by rfl))).trans (gi ?_ ?_)
    ·
      refine (G_iconst (mF fc178 (by rfl))).trans ?_
      exact G_ireturnZ rfl (mF fc178 (by rfl))
    ·
      refine (G_iconst (mF fc178 (by rfl))).trans ?_
      refine (G_goto (mF fc178 (by rfl))).trans ?_
      exact G_ireturnZ rfl (mF fc178 (by rfl))
theorem e178 {d : Nat} {h : mHeap} {K : Int32 → mHeap → Prop} {a0 : Nat} {x1 : Int32} : GoCi (d + 1) 178 [.ref a0, .int x1] h K ↔ Go d 178 0 [some (.ref a0), some (.int x1)] [] h (rI K) := GoCi_entry rfl rfl
set_option maxRecDepth 20000 in
theorem fc179 : mCodes[179]? = some mc179 := rfl
theorem b179_0 {d : Nat} {h : mHeap} {Q : Option Value → mHeap → Prop} {a0 : Nat} {x1 : Int32} : Go d 179 0 [some (.ref a0), some (.int x1)] [] h Q ↔ (if x1 < ii 0 then (((ii 0) = ii 0 ∨ (ii 0) = ii 1) ∧ Q (some (.int (ii 0))) h) else (okF h a0 11 3 2 ∧ okF h (fR h a0 3) 8 1 0 ∧ (if (shl (ii 1) (fI h (fR h a0 3) 1)) ≤ x1 then (((ii 0) = ii 0 ∨ (ii 0) = ii 1) ∧ Q (some (.int (ii 0))) h) else (((ii 1) = ii 0 ∨ (ii 1) = ii 1) ∧ Q (some (.int (ii 1))) h)))) := by
  refine (G_iload rfl (mF fc179 (by rfl))).trans ?_
  refine (G_lt (mF fc179 (by rfl))).trans (gi ?_ ?_)
  ·
    refine (G_iconst (mF fc179 (by rfl))).trans ?_
    exact G_ireturnZ rfl (mF fc179 (by rfl))
  ·
    refine (G_iload rfl (mF fc179 (by rfl))).trans ?_
    refine (G_iconst (mF fc179 (by rfl))).trans ?_
    refine (G_aload rfl (mF fc179 (by rfl))).trans ?_
    refine (G_getR (c := 11) (k := 3) rfl rfl rfl (mF fc179 (by rfl))).trans (andR ?_)
    refine (G_getI (c := 8) (k := 1) rfl rfl rfl (mF fc179 (by rfl))).trans (andR ?_)
    refine (G_ishl (mF fc179 (by rfl))).trans ?_
    refine (G_ige (mF fc179 (by rfl))).trans (gi ?_ ?_)
    ·
      refine (G_iconst (mF fc179 (by rfl))).trans ?_
      exact G_ireturnZ rfl (mF fc179 (by rfl))
    ·
      refine (G_iconst (mF fc179 (by rfl))).trans ?_
      refine (G_goto (mF fc179 (by rfl))).trans ?_
      exact G_ireturnZ rfl (mF fc179 (by rfl))
theorem e179 {d : Nat} {h : mHeap} {K : Int32 → mHeap → Prop} {a0 : Nat} {x1 : Int32} : GoCi (d + 1) 179 [.ref a0, .int x1] h K ↔ Go d 179 0 [some (.ref a0), some (.int x1)] [] h (rI K) := GoCi_entry rfl rfl
set_option maxRecDepth 20000 in
theorem fc180 : mCodes[180]? = some mc180 := rfl
theorem b180_0 {d : Nat} {h : mHeap} {Q : Option Value → mHeap → Prop} {x0 : Int32} {x1 : Int32} : Go d 180 0 [some (.int x0), some (.int x1)] [] h Q ↔ (if x0 < ii 0 then (((ii 0) = ii 0 ∨ (ii 0) = ii 1) ∧ Q (some (.int (ii 0))) h) else ((if x1 ≤ x0 then (((ii 0) = ii 0 ∨ (ii 0) = ii 1) ∧ Q (some (.int (ii 0))) h) else (((ii 1) = ii 0 ∨ (ii 1) = ii 1) ∧ Q (some (.int (ii 1))) h)))) := by
  refine (G_iload rfl (mF fc180 (by rfl))).trans ?_
  refine (G_lt (mF fc180 (by rfl))).trans (gi ?_ ?_)
  ·
    refine (G_iconst (mF fc180 (by rfl))).trans ?_
    exact G_ireturnZ rfl (mF fc180 (by rfl))
  ·
    refine (G_iload rfl (mF fc180 (by rfl))).trans ?_
    refine (G_iload rfl (mF fc180 (by rfl))).trans ?_
    refine (G_ige (mF fc180 (by rfl))).trans (gi ?_ ?_)
    ·
      refine (G_iconst (mF fc180 (by rfl))).trans ?_
      exact G_ireturnZ rfl (mF fc180 (by rfl))
    ·
      refine (G_iconst (mF fc180 (by rfl))).trans ?_
      refine (G_goto (mF fc180 (by rfl))).trans ?_
      exact G_ireturnZ rfl (mF fc180 (by rfl))
theorem e180 {d : Nat} {h : mHeap} {K : Int32 → mHeap → Prop} {x0 : Int32} {x1 : Int32} : GoCi (d + 1) 180 [.int x0, .int x1] h K ↔ Go d 180 0 [some (.int x0), some (.int x1)] [] h (rI K) := GoCi_entry rfl rfl
set_option maxRecDepth 20000 in
theorem fc181 : mCodes[181]? = some mc181 := rfl
theorem b181_0 {d : Nat} {h : mHeap} {Q : Option Value → mHeap → Prop} {x0 : Int32} : Go d 181 0 [some (.int x0)] [] h Q ↔ (if x0 = ii 0 then (Q (some (.int (ii 0))) h) else (Q (some (.int (ii 1))) h)) := by
  refine (G_iload rfl (mF fc181 (by rfl))).trans ?_
  refine (G_eq (mF fc181 (by rfl))).trans (gi ?_ ?_)
  ·
    refine (G_iconst (mF fc181 (by rfl))).trans ?_
    exact G_ireturnI rfl (mF fc181 (by rfl))
  ·
    refine (G_iconst (mF fc181 (by rfl))).trans ?_
    refine (G_goto (mF fc181 (by rfl))).trans ?_
    exact G_ireturnI rfl (mF fc181 (by rfl))
theorem e181 {d : Nat} {h : mHeap} {K : Int32 → mHeap → Prop} {x0 : Int32} : GoCi (d + 1) 181 [.int x0] h K ↔ Go d 181 0 [some (.int x0)] [] h (rI K) := GoCi_entry rfl rfl
