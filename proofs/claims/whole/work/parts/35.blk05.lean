set_option maxRecDepth 20000 in
theorem fc183 : mCodes[183]? = some mc183 := rfl
theorem b183_0 {d : Nat} {h : mHeap} {Q : Option Value → mHeap → Prop} {y0 : Int64} {y2 : Int64} {y4 : Int64} : Go d 183 0 [some (.long y0), none, some (.long y2), none, some (.long y4), none] [] h Q ↔ (if (lg_cmp y0 y2) < ii 0 then (((ii 0) = ii 0 ∨ (ii 0) = ii 1) ∧ Q (some (.int (ii 0))) h) else ((if ii 0 < (lg_cmp y0 y4) then (((ii 0) = ii 0 ∨ (ii 0) = ii 1) ∧ Q (some (.int (ii 0))) h) else (((ii 1) = ii 0 ∨ (ii 1) = ii 1) ∧ Q (some (.int (ii 1))) h)))) := by
  refine (G_lload rfl (mF fc183 (by rfl))).trans ?_
  refine (G_lload rfl (mF fc183 (by rfl))).trans ?_
  refine (G_lcmp (mF fc183 (by rfl))).trans ?_
  refine (G_lt (mF fc183 (by rfl))).trans (gi ?_ ?_)
  ·
    refine (G_iconst (mF fc183 (by rfl))).trans ?_
    exact G_ireturnZ rfl (mF fc183 (by rfl))
  ·
    refine (G_lload rfl (mF fc183 (by rfl))).trans ?_
    refine (G_lload rfl (mF fc183 (by rfl))).trans ?_
    refine (G_lcmp (mF fc183 (by rfl))).trans ?_
    refine (G_gt (mF fc183 (by rfl))).trans (gi ?_ ?_)
    ·
      refine (G_iconst (mF fc183 (by rfl))).trans ?_
      exact G_ireturnZ rfl (mF fc183 (by rfl))
    ·
      refine (G_iconst (mF fc183 (by rfl))).trans ?_
      refine (G_goto (mF fc183 (by rfl))).trans ?_
      exact G_ireturnZ rfl (mF fc183 (by rfl))
theorem e183 {d : Nat} {h : mHeap} {K : Int32 → mHeap → Prop} {y0 : Int64} {y2 : Int64} {y4 : Int64} : GoCi (d + 1) 183 [.long y0, .long y2, .long y4] h K ↔ Go d 183 0 [some (.long y0), none, some (.long y2), none, some (.long y4), none] [] h (rI K) := GoCi_entry rfl rfl
set_option maxRecDepth 20000 in
theorem fc184 : mCodes[184]? = some mc184 := rfl
theorem b184_0 {d : Nat} {h : mHeap} {Q : Option Value → mHeap → Prop} {x0 : Int32} : Go d 184 0 [some (.int x0), none, none] [] h Q ↔ Go d 184 4 [some (.int x0), some (.int (ii 0)), some (.int (ii 0))] [] h Q := by
  refine (G_iconst (mF fc184 (by rfl))).trans ?_
  refine (G_istore (k := 1) (L' := [some (.int x0), some (.int (ii 0)), none]) rfl (ltb rfl) rfl (mF fc184 (by rfl))).trans ?_
  refine (G_iconst (mF fc184 (by rfl))).trans ?_
  refine (G_istore (k := 2) (L' := [some (.int x0), some (.int (ii 0)), some (.int (ii 0))]) rfl (ltb rfl) rfl (mF fc184 (by rfl))).trans ?_
  exact Iff.rfl
theorem b184_4 {d : Nat} {h : mHeap} {Q : Option Value → mHeap → Prop} {x0 : Int32} {x1 : Int32} {x2 : Int32} : Go d 184 4 [some (.int x0), some (.int x1), some (.int x2)] [] h Q ↔ (if (ii 32) ≤ x2 then (Q (some (.int x1)) h) else (Go d 184 4 [some (.int x0), some (.int (x1 + ((ushr x0 x2) &&& (ii 1)))), some (.int (x2 + ii 1))] [] h Q)) := by
  refine (G_iload rfl (mF fc184 (by rfl))).trans ?_
  refine (G_iconst (mF fc184 (by rfl))).trans ?_
  refine (G_ige (mF fc184 (by rfl))).trans (gi ?_ ?_)
  ·
    refine (G_iload rfl (mF fc184 (by rfl))).trans ?_
    exact G_ireturnI rfl (mF fc184 (by rfl))
  ·
    refine (G_iload rfl (mF fc184 (by rfl))).trans ?_
    refine (G_iload rfl (mF fc184 (by rfl))).trans ?_
    refine (G_iload rfl (mF fc184 (by rfl))).trans ?_
    refine (G_iushr (mF fc184 (by rfl))).trans ?_
    refine (G_iconst (mF fc184 (by rfl))).trans ?_
    refine (G_iand (mF fc184 (by rfl))).trans ?_
    refine (G_iadd (mF fc184 (by rfl))).trans ?_
    refine (G_istore (k := 1) (L' := [some (.int x0), some (.int (x1 + ((ushr x0 x2) &&& (ii 1)))), some (.int x2)]) rfl (ltb rfl) rfl (mF fc184 (by rfl))).trans ?_
    refine (G_iinc (k := 2) (L' := [some (.int x0), some (.int (x1 + ((ushr x0 x2) &&& (ii 1)))), some (.int (x2 + ii 1))]) rfl rfl rfl (mF fc184 (by rfl))).trans ?_
    refine (G_goto (mF fc184 (by rfl))).trans ?_
    exact Iff.rfl
theorem e184 {d : Nat} {h : mHeap} {K : Int32 → mHeap → Prop} {x0 : Int32} : GoCi (d + 1) 184 [.int x0] h K ↔ Go d 184 0 [some (.int x0), none, none] [] h (rI K) := GoCi_entry rfl rfl
set_option maxRecDepth 20000 in
theorem fc185 : mCodes[185]? = some mc185 := rfl
theorem b185_0 {d : Nat} {h : mHeap} {Q : Option Value → mHeap → Prop} {x0 : Int32} {x1 : Int32} : Go d 185 0 [some (.int x0), some (.int x1)] [] h Q ↔ (if ¬ ((shr x0 x1) &&& (ii 1)) = (ii 1) then (((ii 0) = ii 0 ∨ (ii 0) = ii 1) ∧ Q (some (.int (ii 0))) h) else (((ii 1) = ii 0 ∨ (ii 1) = ii 1) ∧ Q (some (.int (ii 1))) h)) := by
  refine (G_iload rfl (mF fc185 (by rfl))).trans ?_
  refine (G_iload rfl (mF fc185 (by rfl))).trans ?_
  refine (G_ishr (mF fc185 (by rfl))).trans ?_
  refine (G_iconst (mF fc185 (by rfl))).trans ?_
  refine (G_iand (mF fc185 (by rfl))).trans ?_
  refine (G_iconst (mF fc185 (by rfl))).trans ?_
  refine (G_ine (mF fc185 (by rfl))).trans (gi ?_ ?_)
  ·
    refine (G_iconst (mF fc185 (by rfl))).trans ?_
    exact G_ireturnZ rfl (mF fc185 (by rfl))
  ·
    refine (G_iconst (mF fc185 (by rfl))).trans ?_
    refine (G_goto (mF fc185 (by rfl))).trans ?_
    exact G_ireturnZ rfl (mF fc185 (by rfl))
theorem e185 {d : Nat} {h : mHeap} {K : Int32 → mHeap → Prop} {x0 : Int32} {x1 : Int32} : GoCi (d + 1) 185 [.int x0, .int x1] h K ↔ Go d 185 0 [some (.int x0), some (.int x1)] [] h (rI K) := GoCi_entry rfl rfl
set_option maxRecDepth 20000 in
theorem fc186 : mCodes[186]? = some mc186 := rfl
theorem b186_0 {d : Nat} {h : mHeap} {Q : Option Value → mHeap → Prop} {a0 : Nat} : Go d 186 0 [some (.ref a0)] [] h Q ↔ okF h a0 12 1 2 ∧ okA h (fR h a0 1) .int (ii 0) ∧ (if (eI h (fR h a0 1) (ii 0)) ≤ ii 0 then (((ii 0) = ii 0 ∨ (ii 0) = ii 1) ∧ Q (some (.int (ii 0))) h) else (((ii 1) = ii 0 ∨ (ii 1) = ii 1) ∧ Q (some (.int (ii 1))) h)) := by
  refine (G_aload rfl (mF fc186 (by rfl))).trans ?_
  refine (G_getR (c := 12) (k := 1) rfl rfl rfl (mF fc186 (by rfl))).trans (andR ?_)
  refine (G_iconst (mF fc186 (by rfl))).trans ?_
  refine (G_iaload (mF fc186 (by rfl))).trans (andR ?_)
  refine (G_le (mF fc186 (by rfl))).trans (gi ?_ ?_)
  ·
    refine (G_iconst (mF fc186 (by rfl))).trans ?_
    exact G_ireturnZ rfl (mF fc186 (by rfl))
  ·
    refine (G_iconst (mF fc186 (by rfl))).trans ?_
    refine (G_goto (mF fc186 (by rfl))).trans ?_
    exact G_ireturnZ rfl (mF fc186 (by rfl))
theorem e186 {d : Nat} {h : mHeap} {K : Int32 → mHeap → Prop} {a0 : Nat} : GoCi (d + 1) 186 [.ref a0] h K ↔ Go d 186 0 [some (.ref a0)] [] h (rI K) := GoCi_entry rfl rfl
set_option maxRecDepth 20000 in
theorem fc187 : mCodes[187]? = some mc187 := rfl
theorem b187_0 {d : Nat} {h : mHeap} {Q : Option Value → mHeap → Prop} {a0 : Nat} {x1 : Int32} : Go d 187 0 [some (.ref a0), some (.int x1)] [] h Q ↔ okF h a0 12 1 2 ∧ okA h (fR h a0 1) .int (ii 2) ∧ GoCi d 183 [.long x1.toInt64, .long (jj 0), .long (((eI h (fR h a0 1) (ii 2)) - (ii 1)).toInt64)] h (fun v1 h1 => (v1 = ii 0 ∨ v1 = ii 1) ∧ Q (some (.int v1)) h1) := by
  refine (G_iload rfl (mF fc187 (by rfl))).trans ?_
  refine (G_i2l (mF fc187 (by rfl))).trans ?_
  refine (G_jsr_w (mF fc187 (by rfl))).trans ?_
  refine (G_aload rfl (mF fc187 (by rfl))).trans ?_
  refine (G_getR (c := 12) (k := 1) rfl rfl rfl (mF fc187 (by rfl))).trans (andR ?_)
  refine (G_iconst (mF fc187 (by rfl))).trans ?_
  refine (G_iaload (mF fc187 (by rfl))).trans (andR ?_)
  refine (G_iconst (mF fc187 (by rfl))).trans ?_
  refine (G_isub (mF fc187 (by rfl))).trans ?_
  refine (G_i2l (mF fc187 (by rfl))).trans ?_
  refine (G_Ti (q := 93891) (y := 183) rfl rfl rfl (as := [.long x1.toInt64, .long (jj 0), .long (((eI h (fR h a0 1) (ii 2)) - (ii 1)).toInt64)]) (rest := []) rfl rfl (mF fc187 (by rfl))).trans (GoCi_congr fun v1 h1 => ?_)
  exact G_ireturnZ rfl (mF fc187 (by rfl))
theorem e187 {d : Nat} {h : mHeap} {K : Int32 → mHeap → Prop} {a0 : Nat} {x1 : Int32} : GoCi (d + 1) 187 [.ref a0, .int x1] h K ↔ Go d 187 0 [some (.ref a0), some (.int x1)] [] h (rI K) := GoCi_entry rfl rfl
set_option maxRecDepth 20000 in
theorem fc188 : mCodes[188]? = some mc188 := rfl
theorem b188_0 {d : Nat} {h : mHeap} {Q : Option Value → mHeap → Prop} {a0 : Nat} {x1 : Int32} : Go d 188 0 [some (.ref a0), some (.int x1)] [] h Q ↔ okF h a0 12 1 2 ∧ okA h (fR h a0 1) .int (ii 3) ∧ GoCi d 183 [.long x1.toInt64, .long (jj 0), .long (((eI h (fR h a0 1) (ii 3)) - (ii 1)).toInt64)] h (fun v1 h1 => (v1 = ii 0 ∨ v1 = ii 1) ∧ Q (some (.int v1)) h1) := by
  refine (G_iload rfl (mF fc188 (by rfl))).trans ?_
  refine (G_i2l (mF fc188 (by rfl))).trans ?_
  refine (G_jsr_w (mF fc188 (by rfl))).trans ?_
  refine (G_aload rfl (mF fc188 (by rfl))).trans ?_
  refine (G_getR (c := 12) (k := 1) rfl rfl rfl (mF fc188 (by rfl))).trans (andR ?_)
  refine (G_iconst (mF fc188 (by rfl))).trans ?_
  refine (G_iaload (mF fc188 (by rfl))).trans (andR ?_)
  refine (G_iconst (mF fc188 (by rfl))).trans ?_
  refine (G_isub (mF fc188 (by rfl))).trans ?_
  refine (G_i2l (mF fc188 (by rfl))).trans ?_
  refine (G_Ti (q := 93891) (y := 183) rfl rfl rfl (as := [.long x1.toInt64, .long (jj 0), .long (((eI h (fR h a0 1) (ii 3)) - (ii 1)).toInt64)]) (rest := []) rfl rfl (mF fc188 (by rfl))).trans (GoCi_congr fun v1 h1 => ?_)
  exact G_ireturnZ rfl (mF fc188 (by rfl))
theorem e188 {d : Nat} {h : mHeap} {K : Int32 → mHeap → Prop} {a0 : Nat} {x1 : Int32} : GoCi (d + 1) 188 [.ref a0, .int x1] h K ↔ Go d 188 0 [some (.ref a0), some (.int x1)] [] h (rI K) := GoCi_entry rfl rfl
set_option maxRecDepth 20000 in
theorem fc189 : mCodes[189]? = some mc189 := rfl
theorem b189_0 {d : Nat} {h : mHeap} {Q : Option Value → mHeap → Prop} {a0 : Nat} {x1 : Int32} : Go d 189 0 [some (.ref a0), some (.int x1)] [] h Q ↔ okF h a0 12 1 2 ∧ okA h (fR h a0 1) .int (ii 0) ∧ GoCi d 183 [.long x1.toInt64, .long (jj 0), .long (((eI h (fR h a0 1) (ii 0)) - (ii 1)).toInt64)] h (fun v1 h1 => (v1 = ii 0 ∨ v1 = ii 1) ∧ Q (some (.int v1)) h1) := by
  refine (G_iload rfl (mF fc189 (by rfl))).trans ?_
  refine (G_i2l (mF fc189 (by rfl))).trans ?_
  refine (G_jsr_w (mF fc189 (by rfl))).trans ?_
  refine (G_aload rfl (mF fc189 (by rfl))).trans ?_
  refine (G_getR (c := 12) (k := 1) rfl rfl rfl (mF fc189 (by rfl))).trans (andR ?_)
  refine (G_iconst (mF fc189 (by rfl))).trans ?_
  refine (G_iaload (mF fc189 (by rfl))).trans (andR ?_)
  refine (G_iconst (mF fc189 (by rfl))).trans ?_
  refine (G_isub (mF fc189 (by rfl))).trans ?_
  refine (G_i2l (mF fc189 (by rfl))).trans ?_
  refine (G_Ti (q := 93891) (y := 183) rfl rfl rfl (as := [.long x1.toInt64, .long (jj 0), .long (((eI h (fR h a0 1) (ii 0)) - (ii 1)).toInt64)]) (rest := []) rfl rfl (mF fc189 (by rfl))).trans (GoCi_congr fun v1 h1 => ?_)
  exact G_ireturnZ rfl (mF fc189 (by rfl))
theorem e189 {d : Nat} {h : mHeap} {K : Int32 → mHeap → Prop} {a0 : Nat} {x1 : Int32} : GoCi (d + 1) 189 [.ref a0, .int x1] h K ↔ Go d 189 0 [some (.ref a0), some (.int x1)] [] h (rI K) := GoCi_entry rfl rfl
set_option maxRecDepth 20000 in
theorem fc190 : mCodes[190]? = some mc190 := rfl
theorem b190_0 {d : Nat} {h : mHeap} {Q : Option Value → mHeap → Prop} {a0 : Nat} {x1 : Int32} : Go d 190 0 [some (.ref a0), some (.int x1)] [] h Q ↔ okF h a0 12 32 0 ∧ GoCi d 183 [.long x1.toInt64, .long (jj 0), .long (((fI h a0 32) - (ii 1)).toInt64)] h (fun v1 h1 => (v1 = ii 0 ∨ v1 = ii 1) ∧ Q (some (.int v1)) h1) := by
  refine (G_iload rfl (mF fc190 (by rfl))).trans ?_
  refine (G_i2l (mF fc190 (by rfl))).trans ?_
  refine (G_jsr_w (mF fc190 (by rfl))).trans ?_
  refine (G_aload rfl (mF fc190 (by rfl))).trans ?_
  refine (G_getI (c := 12) (k := 32) rfl rfl rfl (mF fc190 (by rfl))).trans (andR ?_)
  refine (G_iconst (mF fc190 (by rfl))).trans ?_
  refine (G_isub (mF fc190 (by rfl))).trans ?_
  refine (G_i2l (mF fc190 (by rfl))).trans ?_
  refine (G_Ti (q := 93891) (y := 183) rfl rfl rfl (as := [.long x1.toInt64, .long (jj 0), .long (((fI h a0 32) - (ii 1)).toInt64)]) (rest := []) rfl rfl (mF fc190 (by rfl))).trans (GoCi_congr fun v1 h1 => ?_)
  exact G_ireturnZ rfl (mF fc190 (by rfl))
theorem e190 {d : Nat} {h : mHeap} {K : Int32 → mHeap → Prop} {a0 : Nat} {x1 : Int32} : GoCi (d + 1) 190 [.ref a0, .int x1] h K ↔ Go d 190 0 [some (.ref a0), some (.int x1)] [] h (rI K) := GoCi_entry rfl rfl
set_option maxRecDepth 20000 in
theorem fc191 : mCodes[191]? = some mc191 := rfl
theorem b191_0 {d : Nat} {h : mHeap} {Q : Option Value → mHeap → Prop} {a0 : Nat} : Go d 191 0 [some (.ref a0)] [] h Q ↔ okF h a0 12 1 2 ∧ okA h (fR h a0 1) .int (ii 0) ∧ Q (some (.int (shl (ii 1) (eI h (fR h a0 1) (ii 0))))) h := by
  refine (G_iconst (mF fc191 (by rfl))).trans ?_
  refine (G_aload rfl (mF fc191 (by rfl))).trans ?_
  refine (G_getR (c := 12) (k := 1) rfl rfl rfl (mF fc191 (by rfl))).trans (andR ?_)
  refine (G_iconst (mF fc191 (by rfl))).trans ?_
  refine (G_iaload (mF fc191 (by rfl))).trans (andR ?_)
  refine (G_ishl (mF fc191 (by rfl))).trans ?_
  exact G_ireturnI rfl (mF fc191 (by rfl))
theorem e191 {d : Nat} {h : mHeap} {K : Int32 → mHeap → Prop} {a0 : Nat} : GoCi (d + 1) 191 [.ref a0] h K ↔ Go d 191 0 [some (.ref a0)] [] h (rI K) := GoCi_entry rfl rfl
set_option maxRecDepth 20000 in
theorem fc192 : mCodes[192]? = some mc192 := rfl
theorem b192_0 {d : Nat} {h : mHeap} {Q : Option Value → mHeap → Prop} {a0 : Nat} {x1 : Int32} : Go d 192 0 [some (.ref a0), some (.int x1)] [] h Q ↔ oC h a0 = 12 ∧ GoCi d 186 [.ref a0] h (fun v1 h1 => (if v1 = ii 0 then (((ii 0) = ii 0 ∨ (ii 0) = ii 1) ∧ Q (some (.int (ii 0))) h1) else (oC h1 a0 = 12 ∧ GoCi d 191 [.ref a0] h1 (fun v2 h2 => GoCi d 183 [.long x1.toInt64, .long (jj 0), .long ((v2 - (ii 1)).toInt64)] h2 (fun v3 h3 => (if v3 = ii 0 then (((ii 0) = ii 0 ∨ (ii 0) = ii 1) ∧ Q (some (.int (ii 0))) h3) else (((ii 1) = ii 0 ∨ (ii 1) = ii 1) ∧ Q (some (.int (ii 1))) h3))))))) := by
  refine (G_aload rfl (mF fc192 (by rfl))).trans ?_
  refine (G_Vi (q := 95425) (y := 186) (a := a0) (c := 12) rfl rfl rfl rfl (by decide) rfl (as := [.ref a0]) (rest := []) rfl rfl (mF fc192 (by rfl))).trans (andR (GoCi_congr fun v1 h1 => ?_))
  refine (G_eq (mF fc192 (by rfl))).trans (gi ?_ ?_)
  ·
    refine (G_iconst (mF fc192 (by rfl))).trans ?_
    exact G_ireturnZ rfl (mF fc192 (by rfl))
  ·
    refine (G_iload rfl (mF fc192 (by rfl))).trans ?_
    refine (G_i2l (mF fc192 (by rfl))).trans ?_
    refine (G_jsr_w (mF fc192 (by rfl))).trans ?_
    refine (G_aload rfl (mF fc192 (by rfl))).trans ?_
    refine (G_Vi (q := 97985) (y := 191) (a := a0) (c := 12) rfl rfl rfl rfl (by decide) rfl (as := [.ref a0]) (rest := [.long (jj 0), .long x1.toInt64]) rfl rfl (mF fc192 (by rfl))).trans (andR (GoCi_congr fun v2 h2 => ?_))
    refine (G_iconst (mF fc192 (by rfl))).trans ?_
    refine (G_isub (mF fc192 (by rfl))).trans ?_
    refine (G_i2l (mF fc192 (by rfl))).trans ?_
    refine (G_Ti (q := 93891) (y := 183) rfl rfl rfl (as := [.long x1.toInt64, .long (jj 0), .long ((v2 - (ii 1)).toInt64)]) (rest := []) rfl rfl (mF fc192 (by rfl))).trans (GoCi_congr fun v3 h3 => ?_)
    refine (G_eq (mF fc192 (by rfl))).trans (gi ?_ ?_)
    ·
      refine (G_iconst (mF fc192 (by rfl))).trans ?_
      exact G_ireturnZ rfl (mF fc192 (by rfl))
    ·
      refine (G_iconst (mF fc192 (by rfl))).trans ?_
      refine (G_goto (mF fc192 (by rfl))).trans ?_
      exact G_ireturnZ rfl (mF fc192 (by rfl))
theorem e192 {d : Nat} {h : mHeap} {K : Int32 → mHeap → Prop} {a0 : Nat} {x1 : Int32} : GoCi (d + 1) 192 [.ref a0, .int x1] h K ↔ Go d 192 0 [some (.ref a0), some (.int x1)] [] h (rI K) := GoCi_entry rfl rfl
set_option maxRecDepth 20000 in
theorem fc193 : mCodes[193]? = some mc193 := rfl
theorem b193_0 {d : Nat} {h : mHeap} {Q : Option Value → mHeap → Prop} {a0 : Nat} {x1 : Int32} {x2 : Int32} {x3 : Int32} {x4 : Int32} {x5 : Int32} : Go d 193 0 [some (.ref a0), some (.int x1), some (.int x2), some (.int x3), some (.int x4), some (.int x5)] [] h Q ↔ okF h a0 12 27 0 ∧ (if ((fI h a0 27) + (ii 20)) ≤ (ii 400) then (oC h a0 = 12 ∧ GoCv d 194 [.ref a0, .int x1] h (fun h1 => oC h1 a0 = 12 ∧ GoCv d 194 [.ref a0, .int x2] h1 (fun h2 => oC h2 a0 = 12 ∧ GoCv d 194 [.ref a0, .int x3] h2 (fun h3 => oC h3 a0 = 12 ∧ GoCv d 194 [.ref a0, .int x4] h3 (fun h4 => oC h4 a0 = 12 ∧ GoCv d 194 [.ref a0, .int x5] h4 (fun h5 => okF h5 a0 12 27 0 ∧ Q (some (.int (fI h5 a0 27))) h5)))))) else (Q (some (.int (ii (-1)))) h)) := by
  refine (G_aload rfl (mF fc193 (by rfl))).trans ?_
  refine (G_getI (c := 12) (k := 27) rfl rfl rfl (mF fc193 (by rfl))).trans (andR ?_)
  refine (G_iconst (mF fc193 (by rfl))).trans ?_
  refine (G_iadd (mF fc193 (by rfl))).trans ?_
  refine (G_iconst (mF fc193 (by rfl))).trans ?_
  refine (G_ile (mF fc193 (by rfl))).trans (gi ?_ ?_)
  ·
    refine (G_aload rfl (mF fc193 (by rfl))).trans ?_
    refine (G_iload rfl (mF fc193 (by rfl))).trans ?_
    refine (G_Vv (q := 99522) (y := 194) (a := a0) (c := 12) rfl rfl rfl rfl (by decide) rfl (as := [.ref a0, .int x1]) (rest := []) rfl rfl (mF fc193 (by rfl))).trans (andR (GoCv_congr fun h1 => ?_))
    refine (G_aload rfl (mF fc193 (by rfl))).trans ?_
    refine (G_iload rfl (mF fc193 (by rfl))).trans ?_
    refine (G_Vv (q := 99522) (y := 194) (a := a0) (c := 12) rfl rfl rfl rfl (by decide) rfl (as := [.ref a0, .int x2]) (rest := []) rfl rfl (mF fc193 (by rfl))).trans (andR (GoCv_congr fun h2 => ?_))
    refine (G_aload rfl (mF fc193 (by rfl))).trans ?_
    refine (G_iload rfl (mF fc193 (by rfl))).trans ?_
    refine (G_Vv (q := 99522) (y := 194) (a := a0) (c := 12) rfl rfl rfl rfl (by decide) rfl (as := [.ref a0, .int x3]) (rest := []) rfl rfl (mF fc193 (by rfl))).trans (andR (GoCv_congr fun h3 => ?_))
    refine (G_aload rfl (mF fc193 (by rfl))).trans ?_
    refine (G_iload rfl (mF fc193 (by rfl))).trans ?_
    refine (G_Vv (q := 99522) (y := 194) (a := a0) (c := 12) rfl rfl rfl rfl (by decide) rfl (as := [.ref a0, .int x4]) (rest := []) rfl rfl (mF fc193 (by rfl))).trans (andR (GoCv_congr fun h4 => ?_))
    refine (G_aload rfl (mF fc193 (by rfl))).trans ?_
    refine (G_iload rfl (mF fc193 (by rfl))).trans ?_
    refine (G_Vv (q := 99522) (y := 194) (a := a0) (c := 12) rfl rfl rfl rfl (by decide) rfl (as := [.ref a0, .int x5]) (rest := []) rfl rfl (mF fc193 (by rfl))).trans (andR (GoCv_congr fun h5 => ?_))
    refine (G_aload rfl (mF fc193 (by rfl))).trans ?_
    refine (G_getI (c := 12) (k := 27) rfl rfl rfl (mF fc193 (by rfl))).trans (andR ?_)
    exact G_ireturnI rfl (mF fc193 (by rfl))
  ·
    refine (G_iconst (mF fc193 (by rfl))).trans ?_
    exact G_ireturnI rfl (mF fc193 (by rfl))
theorem e193 {d : Nat} {h : mHeap} {K : Int32 → mHeap → Prop} {a0 : Nat} {x1 : Int32} {x2 : Int32} {x3 : Int32} {x4 : Int32} {x5 : Int32} : GoCi (d + 1) 193 [.ref a0, .int x1, .int x2, .int x3, .int x4, .int x5] h K ↔ Go d 193 0 [some (.ref a0), some (.int x1), some (.int x2), some (.int x3), some (.int x4), some (.int x5)] [] h (rI K) := GoCi_entry rfl rfl
set_option maxRecDepth 20000 in
theorem fc194 : mCodes[194]? = some mc194 := rfl
theorem b194_0 {d : Nat} {h : mHeap} {Q : Option Value → mHeap → Prop} {a0 : Nat} {x1 : Int32} : Go d 194 0 [some (.ref a0), some (.int x1), none] [] h Q ↔ Go d 194 3 [some (.ref a0), some (.int x1), some (.int (ii 24))] [] h Q := by
  refine (G_iconst (mF fc194 (by rfl))).trans ?_
  refine (G_istore (k := 2) (L' := [some (.ref a0), some (.int x1), some (.int (ii 24))]) rfl (ltb rfl) rfl (mF fc194 (by rfl))).trans ?_
  exact Iff.rfl
theorem b194_3 {d : Nat} {h : mHeap} {Q : Option Value → mHeap → Prop} {a0 : Nat} {x1 : Int32} {x2 : Int32} : Go d 194 3 [some (.ref a0), some (.int x1), some (.int x2)] [] h Q ↔ (if x2 < ii 0 then (Q none h) else (okF h a0 12 38 2 ∧ okF h a0 12 27 0 ∧ (64 ≤ (fR h a0 38) ∧ okB h (fR h a0 38) (fI h a0 27)) ∧ okF (sB h (fR h a0 38) (fI h a0 27) ((shr x1 x2).toInt8.toInt32)) a0 12 27 0 ∧ okP (sB h (fR h a0 38) (fI h a0 27) ((shr x1 x2).toInt8.toInt32)) a0 12 27 ∧ Go d 194 3 [some (.ref a0), some (.int x1), some (.int (x2 + ii (-8)))] [] (sF (sB h (fR h a0 38) (fI h a0 27) ((shr x1 x2).toInt8.toInt32)) a0 27 (.int ((fI (sB h (fR h a0 38) (fI h a0 27) ((shr x1 x2).toInt8.toInt32)) a0 27) + (ii 1)))) Q)) := by
  refine (G_iload rfl (mF fc194 (by rfl))).trans ?_
  refine (G_lt (mF fc194 (by rfl))).trans (gi ?_ ?_)
  ·
    exact G_return rfl (mF fc194 (by rfl))
  ·
    refine (G_aload rfl (mF fc194 (by rfl))).trans ?_
    refine (G_getR (c := 12) (k := 38) rfl rfl rfl (mF fc194 (by rfl))).trans (andR ?_)
    refine (G_aload rfl (mF fc194 (by rfl))).trans ?_
    refine (G_getI (c := 12) (k := 27) rfl rfl rfl (mF fc194 (by rfl))).trans (andR ?_)
    refine (G_iload rfl (mF fc194 (by rfl))).trans ?_
    refine (G_iload rfl (mF fc194 (by rfl))).trans ?_
    refine (G_ishr (mF fc194 (by rfl))).trans ?_
    refine (G_i2b (mF fc194 (by rfl))).trans ?_
    refine (G_bastore (mF fc194 (by rfl))).trans (andR ?_)
    refine (G_aload rfl (mF fc194 (by rfl))).trans ?_
    refine (G_dupr (mF fc194 (by rfl))).trans ?_
    refine (G_getI (c := 12) (k := 27) rfl rfl rfl (mF fc194 (by rfl))).trans (andR ?_)
    refine (G_iconst (mF fc194 (by rfl))).trans ?_
    refine (G_iadd (mF fc194 (by rfl))).trans ?_
    refine (G_putT (c := 12) (k := 27) rfl rfl rfl (mF fc194 (by rfl))).trans (andR ?_)
    refine (G_iinc (k := 2) (L' := [some (.ref a0), some (.int x1), some (.int (x2 + ii (-8)))]) rfl rfl rfl (mF fc194 (by rfl))).trans ?_
    refine (G_goto (mF fc194 (by rfl))).trans ?_
    exact Iff.rfl
theorem e194 {d : Nat} {h : mHeap} {K : mHeap → Prop} {a0 : Nat} {x1 : Int32} : GoCv (d + 1) 194 [.ref a0, .int x1] h K ↔ Go d 194 0 [some (.ref a0), some (.int x1), none] [] h (rV K) := GoCv_entry rfl rfl
set_option maxRecDepth 20000 in
theorem fc195 : mCodes[195]? = some mc195 := rfl
theorem b195_0 {d : Nat} {h : mHeap} {Q : Option Value → mHeap → Prop} {a0 : Nat} {x1 : Int32} : Go d 195 0 [some (.ref a0), some (.int x1)] [] h Q ↔ (if x1 < ii 0 then (Q (some (.int (ii (-1)))) h) else (okF h a0 12 27 0 ∧ (if x1 ≤ (fI h a0 27) then (okP h a0 12 27 ∧ Q (some (.int x1)) (sF h a0 27 (.int x1))) else (Q (some (.int (ii (-1)))) h)))) := by
  refine (G_iload rfl (mF fc195 (by rfl))).trans ?_
  refine (G_lt (mF fc195 (by rfl))).trans (gi ?_ ?_)
  ·
    refine (G_iconst (mF fc195 (by rfl))).trans ?_
    exact G_ireturnI rfl (mF fc195 (by rfl))
  ·
    refine (G_iload rfl (mF fc195 (by rfl))).trans ?_
    refine (G_aload rfl (mF fc195 (by rfl))).trans ?_
    refine (G_getI (c := 12) (k := 27) rfl rfl rfl (mF fc195 (by rfl))).trans (andR ?_)
    refine (G_ile (mF fc195 (by rfl))).trans (gi ?_ ?_)
    ·
      refine (G_aload rfl (mF fc195 (by rfl))).trans ?_
      refine (G_iload rfl (mF fc195 (by rfl))).trans ?_
      refine (G_putT (c := 12) (k := 27) rfl rfl rfl (mF fc195 (by rfl))).trans (andR ?_)
      refine (G_iload rfl (mF fc195 (by rfl))).trans ?_
      exact G_ireturnI rfl (mF fc195 (by rfl))
    ·
      refine (G_iconst (mF fc195 (by rfl))).trans ?_
      exact G_ireturnI rfl (mF fc195 (by rfl))
theorem e195 {d : Nat} {h : mHeap} {K : Int32 → mHeap → Prop} {a0 : Nat} {x1 : Int32} : GoCi (d + 1) 195 [.ref a0, .int x1] h K ↔ Go d 195 0 [some (.ref a0), some (.int x1)] [] h (rI K) := GoCi_entry rfl rfl
set_option maxRecDepth 20000 in
theorem fc196 : mCodes[196]? = some mc196 := rfl
theorem b196_0 {d : Nat} {h : mHeap} {Q : Option Value → mHeap → Prop} {x0 : Int32} : Go d 196 0 [some (.int x0)] [] h Q ↔ (if x0 = ii 0 then (Q (some (.ref 4)) h) else (if x0 = ii 1 then (Q (some (.ref 20)) h) else (if x0 = ii 2 then (Q (some (.ref 21)) h) else (if x0 = ii 3 then (Q (some (.ref 22)) h) else (if x0 = ii 4 then (Q (some (.ref 23)) h) else (if x0 = ii 5 then (Q (some (.ref 24)) h) else (if x0 = ii 6 then (Q (some (.ref 25)) h) else (if x0 = ii 7 then (Q (some (.ref 26)) h) else (if x0 = ii 8 then (Q (some (.ref 27)) h) else (Q (some (.ref 28)) h)))))))))) := by
  refine (G_iload rfl (mF fc196 (by rfl))).trans ?_
  refine (G_tableswitch (lo := 0) (hi := 8) [52, 55, 58, 61, 64, 67, 70, 73, 76] rfl (by decide) (by decide) (by decide) (mF fc196 (by rfl))).trans ?_
  refine gi ?_ ?_
  ·
    refine (G_jsr (mF fc196 (by rfl))).trans ?_
    exact G_areturn rfl (mF fc196 (by rfl))
  ·
    refine gi ?_ ?_
    ·
      refine (G_jsr (mF fc196 (by rfl))).trans ?_
      exact G_areturn rfl (mF fc196 (by rfl))
    ·
      refine gi ?_ ?_
      ·
        refine (G_jsr (mF fc196 (by rfl))).trans ?_
        exact G_areturn rfl (mF fc196 (by rfl))
      ·
        refine gi ?_ ?_
        ·
          refine (G_jsr (mF fc196 (by rfl))).trans ?_
          exact G_areturn rfl (mF fc196 (by rfl))
        ·
          refine gi ?_ ?_
          ·
            refine (G_jsr (mF fc196 (by rfl))).trans ?_
            exact G_areturn rfl (mF fc196 (by rfl))
          ·
            refine gi ?_ ?_
            ·
              refine (G_jsr (mF fc196 (by rfl))).trans ?_
              exact G_areturn rfl (mF fc196 (by rfl))
            ·
              refine gi ?_ ?_
              ·
                refine (G_jsr (mF fc196 (by rfl))).trans ?_
                exact G_areturn rfl (mF fc196 (by rfl))
              ·
                refine gi ?_ ?_
                ·
                  refine (G_jsr (mF fc196 (by rfl))).trans ?_
                  exact G_areturn rfl (mF fc196 (by rfl))
                ·
                  refine gi ?_ ?_
                  ·
                    refine (G_jsr (mF fc196 (by rfl))).trans ?_
                    exact G_areturn rfl (mF fc196 (by rfl))
                  ·
                    refine (G_jsr (mF fc196 (by rfl))).trans ?_
                    exact G_areturn rfl (mF fc196 (by rfl))
theorem e196 {d : Nat} {h : mHeap} {K : Nat → mHeap → Prop} {x0 : Int32} : GoCr (d + 1) 196 [.int x0] h K ↔ Go d 196 0 [some (.int x0)] [] h (rR K) := GoCr_entry rfl rfl
set_option maxRecDepth 20000 in
theorem fc197 : mCodes[197]? = some mc197 := rfl
theorem b197_0 {d : Nat} {h : mHeap} {Q : Option Value → mHeap → Prop} {a0 : Nat} {x1 : Int32} {x2 : Int32} : Go d 197 0 [some (.ref a0), some (.int x1), some (.int x2)] [] h Q ↔ okF h a0 12 29 0 ∧ (if ¬ (fI h a0 29) = ii 0 then (okF h a0 12 29 0 ∧ okP h a0 12 29 ∧ Q none (sF h a0 29 (.int (fI h a0 29)))) else (okP h a0 12 29 ∧ Q none (sF h a0 29 (.int (((ii 1) + ((ii 8) * x2)) + x1))))) := by
  refine (G_aload rfl (mF fc197 (by rfl))).trans ?_
  refine (G_aload rfl (mF fc197 (by rfl))).trans ?_
  refine (G_getI (c := 12) (k := 29) rfl rfl rfl (mF fc197 (by rfl))).trans (andR ?_)
  refine (G_ne (mF fc197 (by rfl))).trans (gi ?_ ?_)
  ·
    refine (G_aload rfl (mF fc197 (by rfl))).trans ?_
    refine (G_getI (c := 12) (k := 29) rfl rfl rfl (mF fc197 (by rfl))).trans (andR ?_)
    refine (G_putT (c := 12) (k := 29) rfl rfl rfl (mF fc197 (by rfl))).trans (andR ?_)
    exact G_return rfl (mF fc197 (by rfl))
  ·
    refine (G_iconst (mF fc197 (by rfl))).trans ?_
    refine (G_iconst (mF fc197 (by rfl))).trans ?_
    refine (G_iload rfl (mF fc197 (by rfl))).trans ?_
    refine (G_imul (mF fc197 (by rfl))).trans ?_
    refine (G_iadd (mF fc197 (by rfl))).trans ?_
    refine (G_iload rfl (mF fc197 (by rfl))).trans ?_
    refine (G_iadd (mF fc197 (by rfl))).trans ?_
    refine (G_goto (mF fc197 (by rfl))).trans ?_
    refine (G_putT (c := 12) (k := 29) rfl rfl rfl (mF fc197 (by rfl))).trans (andR ?_)
    exact G_return rfl (mF fc197 (by rfl))
theorem e197 {d : Nat} {h : mHeap} {K : mHeap → Prop} {a0 : Nat} {x1 : Int32} {x2 : Int32} : GoCv (d + 1) 197 [.ref a0, .int x1, .int x2] h K ↔ Go d 197 0 [some (.ref a0), some (.int x1), some (.int x2)] [] h (rV K) := GoCv_entry rfl rfl
set_option maxRecDepth 20000 in
theorem fc198 : mCodes[198]? = some mc198 := rfl
theorem b198_0 {d : Nat} {h : mHeap} {Q : Option Value → mHeap → Prop} {a0 : Nat} : Go d 198 0 [some (.ref a0)] [] h Q ↔ okF h a0 12 28 0 ∧ okF h a0 12 27 0 ∧ (if (fI h a0 27) ≤ (fI h a0 28) then (Q (some (.int (ii (-1)))) h) else (okF h a0 12 38 2 ∧ okF h a0 12 28 0 ∧ okB h (fR h a0 38) (fI h a0 28) ∧ Q (some (.int ((eI h (fR h a0 38) (fI h a0 28)) &&& (ii 255)))) h)) := by
  refine (G_aload rfl (mF fc198 (by rfl))).trans ?_
  refine (G_getI (c := 12) (k := 28) rfl rfl rfl (mF fc198 (by rfl))).trans (andR ?_)
  refine (G_aload rfl (mF fc198 (by rfl))).trans ?_
  refine (G_getI (c := 12) (k := 27) rfl rfl rfl (mF fc198 (by rfl))).trans (andR ?_)
  refine (G_ige (mF fc198 (by rfl))).trans (gi ?_ ?_)
  ·
    refine (G_iconst (mF fc198 (by rfl))).trans ?_
    exact G_ireturnI rfl (mF fc198 (by rfl))
  ·
    refine (G_aload rfl (mF fc198 (by rfl))).trans ?_
    refine (G_getR (c := 12) (k := 38) rfl rfl rfl (mF fc198 (by rfl))).trans (andR ?_)
    refine (G_aload rfl (mF fc198 (by rfl))).trans ?_
    refine (G_getI (c := 12) (k := 28) rfl rfl rfl (mF fc198 (by rfl))).trans (andR ?_)
    refine (G_baload (mF fc198 (by rfl))).trans (andR ?_)
    refine (G_iconst (mF fc198 (by rfl))).trans ?_
    refine (G_iand (mF fc198 (by rfl))).trans ?_
    refine (G_goto (mF fc198 (by rfl))).trans ?_
    exact G_ireturnI rfl (mF fc198 (by rfl))
theorem e198 {d : Nat} {h : mHeap} {K : Int32 → mHeap → Prop} {a0 : Nat} : GoCi (d + 1) 198 [.ref a0] h K ↔ Go d 198 0 [some (.ref a0)] [] h (rI K) := GoCi_entry rfl rfl
set_option maxRecDepth 20000 in
theorem fc199 : mCodes[199]? = some mc199 := rfl
theorem b199_0 {d : Nat} {h : mHeap} {Q : Option Value → mHeap → Prop} {a0 : Nat} : Go d 199 0 [some (.ref a0)] [] h Q ↔ oC h a0 = 12 ∧ GoCi d 198 [.ref a0] h (fun v1 h1 => (if ¬ v1 = (ii 32) then (Q none h1) else (okF h1 a0 12 28 0 ∧ okP h1 a0 12 28 ∧ Go d 199 0 [some (.ref a0)] [] (sF h1 a0 28 (.int ((fI h1 a0 28) + (ii 1)))) Q))) := by
  refine (G_aload rfl (mF fc199 (by rfl))).trans ?_
  refine (G_Vi (q := 101569) (y := 198) (a := a0) (c := 12) rfl rfl rfl rfl (by decide) rfl (as := [.ref a0]) (rest := []) rfl rfl (mF fc199 (by rfl))).trans (andR (GoCi_congr fun v1 h1 => ?_))
  refine (G_iconst (mF fc199 (by rfl))).trans ?_
  refine (G_ine (mF fc199 (by rfl))).trans (gi ?_ ?_)
  ·
    exact G_return rfl (mF fc199 (by rfl))
  ·
    refine (G_aload rfl (mF fc199 (by rfl))).trans ?_
    refine (G_dupr (mF fc199 (by rfl))).trans ?_
    refine (G_getI (c := 12) (k := 28) rfl rfl rfl (mF fc199 (by rfl))).trans (andR ?_)
    refine (G_iconst (mF fc199 (by rfl))).trans ?_
    refine (G_iadd (mF fc199 (by rfl))).trans ?_
    refine (G_putT (c := 12) (k := 28) rfl rfl rfl (mF fc199 (by rfl))).trans (andR ?_)
    refine (G_goto (mF fc199 (by rfl))).trans ?_
    exact Iff.rfl
theorem e199 {d : Nat} {h : mHeap} {K : mHeap → Prop} {a0 : Nat} : GoCv (d + 1) 199 [.ref a0] h K ↔ Go d 199 0 [some (.ref a0)] [] h (rV K) := GoCv_entry rfl rfl
set_option maxRecDepth 20000 in
theorem fc200 : mCodes[200]? = some mc200 := rfl
theorem b200_0 {d : Nat} {h : mHeap} {Q : Option Value → mHeap → Prop} {a0 : Nat} : Go d 200 0 [some (.ref a0)] [] h Q ↔ oC h a0 = 12 ∧ GoCi d 198 [.ref a0] h (fun v1 h1 => GoCi d 183 [.long v1.toInt64, .long (jj 48), .long (jj 57)] h1 (fun v2 h2 => (v2 = ii 0 ∨ v2 = ii 1) ∧ Q (some (.int v2)) h2)) := by
  refine (G_aload rfl (mF fc200 (by rfl))).trans ?_
  refine (G_Vi (q := 101569) (y := 198) (a := a0) (c := 12) rfl rfl rfl rfl (by decide) rfl (as := [.ref a0]) (rest := []) rfl rfl (mF fc200 (by rfl))).trans (andR (GoCi_congr fun v1 h1 => ?_))
  refine (G_i2l (mF fc200 (by rfl))).trans ?_
  refine (G_jsr_w (mF fc200 (by rfl))).trans ?_
  refine (G_jsr_w (mF fc200 (by rfl))).trans ?_
  refine (G_Ti (q := 93891) (y := 183) rfl rfl rfl (as := [.long v1.toInt64, .long (jj 48), .long (jj 57)]) (rest := []) rfl rfl (mF fc200 (by rfl))).trans (GoCi_congr fun v2 h2 => ?_)
  exact G_ireturnZ rfl (mF fc200 (by rfl))
theorem e200 {d : Nat} {h : mHeap} {K : Int32 → mHeap → Prop} {a0 : Nat} : GoCi (d + 1) 200 [.ref a0] h K ↔ Go d 200 0 [some (.ref a0)] [] h (rI K) := GoCi_entry rfl rfl
set_option maxRecDepth 20000 in
theorem fc201 : mCodes[201]? = some mc201 := rfl
theorem b201_0 {d : Nat} {h : mHeap} {Q : Option Value → mHeap → Prop} {a0 : Nat} {a1 : Nat} : Go d 201 0 [some (.ref a0), some (.ref a1), none, none, none] [] h Q ↔ okF h a0 12 28 0 ∧ Go d 201 5 [some (.ref a0), some (.ref a1), some (.int (fI h a0 28)), none, none] [] h Q := by
  refine (G_aload rfl (mF fc201 (by rfl))).trans ?_
  refine (G_getI (c := 12) (k := 28) rfl rfl rfl (mF fc201 (by rfl))).trans (andR ?_)
  refine (G_istore (k := 2) (L' := [some (.ref a0), some (.ref a1), some (.int (fI h a0 28)), none, none]) rfl (ltb rfl) rfl (mF fc201 (by rfl))).trans ?_
  exact Iff.rfl
theorem b201_5 {d : Nat} {h : mHeap} {Q : Option Value → mHeap → Prop} {a0 : Nat} {a1 : Nat} {x2 : Int32} {l3 : Option Value} {l4 : Option Value} : Go d 201 5 [some (.ref a0), some (.ref a1), some (.int x2), l3, l4] [] h Q ↔ okF h a0 12 27 0 ∧ (if (fI h a0 27) ≤ x2 then (Go d 201 41 [some (.ref a0), some (.ref a1), some (.int x2), l3, l4] [] h Q) else (okF h a0 12 38 2 ∧ okB h (fR h a0 38) x2 ∧ (if (eI h (fR h a0 38) x2) < (ii 97) then (Go d 201 41 [some (.ref a0), some (.ref a1), some (.int x2), l3, l4] [] h Q) else (okF h a0 12 38 2 ∧ okB h (fR h a0 38) x2 ∧ (if (ii 122) < (eI h (fR h a0 38) x2) then (Go d 201 41 [some (.ref a0), some (.ref a1), some (.int x2), l3, l4] [] h Q) else (Go d 201 5 [some (.ref a0), some (.ref a1), some (.int (x2 + ii 1)), l3, l4] [] h Q)))))) := by
  refine (G_iload rfl (mF fc201 (by rfl))).trans ?_
  refine (G_aload rfl (mF fc201 (by rfl))).trans ?_
  refine (G_getI (c := 12) (k := 27) rfl rfl rfl (mF fc201 (by rfl))).trans (andR ?_)
  refine (G_ige (mF fc201 (by rfl))).trans (gi ?_ ?_)
  ·
    exact Iff.rfl
  ·
    refine (G_aload rfl (mF fc201 (by rfl))).trans ?_
    refine (G_getR (c := 12) (k := 38) rfl rfl rfl (mF fc201 (by rfl))).trans (andR ?_)
    refine (G_iload rfl (mF fc201 (by rfl))).trans ?_
    refine (G_baload (mF fc201 (by rfl))).trans (andR ?_)
    refine (G_iconst (mF fc201 (by rfl))).trans ?_
    refine (G_ilt (mF fc201 (by rfl))).trans (gi ?_ ?_)
    ·
      exact Iff.rfl
    ·
      refine (G_aload rfl (mF fc201 (by rfl))).trans ?_
      refine (G_getR (c := 12) (k := 38) rfl rfl rfl (mF fc201 (by rfl))).trans (andR ?_)
      refine (G_iload rfl (mF fc201 (by rfl))).trans ?_
      refine (G_baload (mF fc201 (by rfl))).trans (andR ?_)
      refine (G_iconst (mF fc201 (by rfl))).trans ?_
      refine (G_igt (mF fc201 (by rfl))).trans (gi ?_ ?_)
      ·
        exact Iff.rfl
      ·
        refine (G_iinc (k := 2) (L' := [some (.ref a0), some (.ref a1), some (.int (x2 + ii 1)), l3, l4]) rfl rfl rfl (mF fc201 (by rfl))).trans ?_
        refine (G_goto (mF fc201 (by rfl))).trans ?_
        exact Iff.rfl
theorem b201_41 {d : Nat} {h : mHeap} {Q : Option Value → mHeap → Prop} {a0 : Nat} {a1 : Nat} {x2 : Int32} {l3 : Option Value} {l4 : Option Value} : Go d 201 41 [some (.ref a0), some (.ref a1), some (.int x2), l3, l4] [] h Q ↔ okF h a0 12 28 0 ∧ oC h a1 = 16 ∧ GoCi d 319 [.ref a1] h (fun v1 h1 => (if ¬ (x2 - (fI h a0 28)) = v1 then (Go d 201 59 [some (.ref a0), some (.ref a1), some (.int x2), l3, l4] [.int (ii 0)] h1 Q) else (Go d 201 59 [some (.ref a0), some (.ref a1), some (.int x2), l3, l4] [.int (ii 1)] h1 Q))) := by
  refine (G_iload rfl (mF fc201 (by rfl))).trans ?_
  refine (G_aload rfl (mF fc201 (by rfl))).trans ?_
  refine (G_getI (c := 12) (k := 28) rfl rfl rfl (mF fc201 (by rfl))).trans (andR ?_)
  refine (G_isub (mF fc201 (by rfl))).trans ?_
  refine (G_aload rfl (mF fc201 (by rfl))).trans ?_
  refine (G_Vi (q := 163585) (y := 319) (a := a1) (c := 16) rfl rfl rfl rfl (by decide) rfl (as := [.ref a1]) (rest := [.int (x2 - (fI h a0 28))]) rfl rfl (mF fc201 (by rfl))).trans (andR (GoCi_congr fun v1 h1 => ?_))
  refine (G_ine (mF fc201 (by rfl))).trans (gi ?_ ?_)
  ·
    refine (G_iconst (mF fc201 (by rfl))).trans ?_
    exact Iff.rfl
  ·
    refine (G_iconst (mF fc201 (by rfl))).trans ?_
    refine (G_goto (mF fc201 (by rfl))).trans ?_
    exact Iff.rfl
theorem b201_59 {d : Nat} {h : mHeap} {Q : Option Value → mHeap → Prop} {a0 : Nat} {a1 : Nat} {l2 : Option Value} {l3 : Option Value} {l4 : Option Value} {s0 : Int32} (hl2 : mNo l2 = true) : Go d 201 59 [some (.ref a0), some (.ref a1), l2, l3, l4] [.int s0] h Q ↔ Go d 201 63 [some (.ref a0), some (.ref a1), l2, some (.int s0), some (.int (ii 0))] [] h Q := by
  refine (G_istore (k := 3) (L' := [some (.ref a0), some (.ref a1), l2, some (.int s0), l4]) rfl (ltb rfl) (by exact hl2) (mF fc201 (by rfl))).trans ?_
  refine (G_iconst (mF fc201 (by rfl))).trans ?_
  refine (G_istore (k := 4) (L' := [some (.ref a0), some (.ref a1), l2, some (.int s0), some (.int (ii 0))]) rfl (ltb rfl) rfl (mF fc201 (by rfl))).trans ?_
  exact Iff.rfl
theorem b201_63 {d : Nat} {h : mHeap} {Q : Option Value → mHeap → Prop} {a0 : Nat} {a1 : Nat} {l2 : Option Value} {x3 : Int32} {x4 : Int32} : Go d 201 63 [some (.ref a0), some (.ref a1), l2, some (.int x3), some (.int x4)] [] h Q ↔ oC h a1 = 16 ∧ GoCi d 319 [.ref a1] h (fun v1 h1 => (if v1 ≤ x4 then ((x3 = ii 0 ∨ x3 = ii 1) ∧ Q (some (.int x3)) h1) else ((if x3 = ii 0 then ((x3 = ii 0 ∨ x3 = ii 1) ∧ Q (some (.int x3)) h1) else (okF h1 a0 12 38 2 ∧ okF h1 a0 12 28 0 ∧ okB h1 (fR h1 a0 38) ((fI h1 a0 28) + x4) ∧ oC h1 a1 = 16 ∧ GoCi d 320 [.ref a1, .int x4] h1 (fun v2 h2 => (if ¬ (eI h1 (fR h1 a0 38) ((fI h1 a0 28) + x4)) = v2 then (Go d 201 102 [some (.ref a0), some (.ref a1), l2, some (.int x3), some (.int x4)] [.int (ii 0)] h2 Q) else (Go d 201 102 [some (.ref a0), some (.ref a1), l2, some (.int x3), some (.int x4)] [.int (ii 1)] h2 Q)))))))) := by
  refine (G_iload rfl (mF fc201 (by rfl))).trans ?_
  refine (G_aload rfl (mF fc201 (by rfl))).trans ?_
  refine (G_Vi (q := 163585) (y := 319) (a := a1) (c := 16) rfl rfl rfl rfl (by decide) rfl (as := [.ref a1]) (rest := [.int x4]) rfl rfl (mF fc201 (by rfl))).trans (andR (GoCi_congr fun v1 h1 => ?_))
  refine (G_ige (mF fc201 (by rfl))).trans (gi ?_ ?_)
  ·
    refine (G_iload rfl (mF fc201 (by rfl))).trans ?_
    exact G_ireturnZ rfl (mF fc201 (by rfl))
  ·
    refine (G_iload rfl (mF fc201 (by rfl))).trans ?_
    refine (G_eq (mF fc201 (by rfl))).trans (gi ?_ ?_)
    ·
      refine (G_iload rfl (mF fc201 (by rfl))).trans ?_
      exact G_ireturnZ rfl (mF fc201 (by rfl))
    ·
      refine (G_aload rfl (mF fc201 (by rfl))).trans ?_
      refine (G_getR (c := 12) (k := 38) rfl rfl rfl (mF fc201 (by rfl))).trans (andR ?_)
      refine (G_aload rfl (mF fc201 (by rfl))).trans ?_
      refine (G_getI (c := 12) (k := 28) rfl rfl rfl (mF fc201 (by rfl))).trans (andR ?_)
      refine (G_iload rfl (mF fc201 (by rfl))).trans ?_
      refine (G_iadd (mF fc201 (by rfl))).trans ?_
      refine (G_baload (mF fc201 (by rfl))).trans (andR ?_)
      refine (G_aload rfl (mF fc201 (by rfl))).trans ?_
      refine (G_iload rfl (mF fc201 (by rfl))).trans ?_
      refine (G_Vi (q := 164098) (y := 320) (a := a1) (c := 16) rfl rfl rfl rfl (by decide) rfl (as := [.ref a1, .int x4]) (rest := [.int (eI h1 (fR h1 a0 38) ((fI h1 a0 28) + x4))]) rfl rfl (mF fc201 (by rfl))).trans (andR (GoCi_congr fun v2 h2 => ?_))
      refine (G_ine (mF fc201 (by rfl))).trans (gi ?_ ?_)
      ·
        refine (G_iconst (mF fc201 (by rfl))).trans ?_
        exact Iff.rfl
      ·
        refine (G_iconst (mF fc201 (by rfl))).trans ?_
        refine (G_goto (mF fc201 (by rfl))).trans ?_
        exact Iff.rfl
theorem b201_102 {d : Nat} {h : mHeap} {Q : Option Value → mHeap → Prop} {a0 : Nat} {a1 : Nat} {l2 : Option Value} {l3 : Option Value} {x4 : Int32} {s0 : Int32} (hl2 : mNo l2 = true) : Go d 201 102 [some (.ref a0), some (.ref a1), l2, l3, some (.int x4)] [.int s0] h Q ↔ Go d 201 63 [some (.ref a0), some (.ref a1), l2, some (.int s0), some (.int (x4 + ii 1))] [] h Q := by
  refine (G_istore (k := 3) (L' := [some (.ref a0), some (.ref a1), l2, some (.int s0), some (.int x4)]) rfl (ltb rfl) (by exact hl2) (mF fc201 (by rfl))).trans ?_
  refine (G_iinc (k := 4) (L' := [some (.ref a0), some (.ref a1), l2, some (.int s0), some (.int (x4 + ii 1))]) rfl rfl rfl (mF fc201 (by rfl))).trans ?_
  refine (G_goto (mF fc201 (by rfl))).trans ?_
  exact Iff.rfl
theorem e201 {d : Nat} {h : mHeap} {K : Int32 → mHeap → Prop} {a0 : Nat} {a1 : Nat} : GoCi (d + 1) 201 [.ref a0, .ref a1] h K ↔ Go d 201 0 [some (.ref a0), some (.ref a1), none, none, none] [] h (rI K) := GoCi_entry rfl rfl
set_option maxRecDepth 20000 in
theorem fc202 : mCodes[202]? = some mc202 := rfl
theorem b202_0 {d : Nat} {h : mHeap} {Q : Option Value → mHeap → Prop} {a0 : Nat} {a1 : Nat} : Go d 202 0 [some (.ref a0), some (.ref a1), none] [] h Q ↔ oC h a0 = 12 ∧ GoCv d 199 [.ref a0] h (fun h1 => oC h1 a0 = 12 ∧ GoCi d 201 [.ref a0, .ref a1] h1 (fun v2 h2 => okF h2 a0 12 28 0 ∧ (if v2 = ii 0 then (okP h2 a0 12 28 ∧ (v2 = ii 0 ∨ v2 = ii 1) ∧ Q (some (.int v2)) (sF h2 a0 28 (.int ((fI h2 a0 28) + (ii 0))))) else (oC h2 a1 = 16 ∧ GoCi d 319 [.ref a1] h2 (fun v3 h3 => okP h3 a0 12 28 ∧ (v2 = ii 0 ∨ v2 = ii 1) ∧ Q (some (.int v2)) (sF h3 a0 28 (.int ((fI h2 a0 28) + v3)))))))) := by
  refine (G_aload rfl (mF fc202 (by rfl))).trans ?_
  refine (G_Vv (q := 102081) (y := 199) (a := a0) (c := 12) rfl rfl rfl rfl (by decide) rfl (as := [.ref a0]) (rest := []) rfl rfl (mF fc202 (by rfl))).trans (andR (GoCv_congr fun h1 => ?_))
  refine (G_aload rfl (mF fc202 (by rfl))).trans ?_
  refine (G_aload rfl (mF fc202 (by rfl))).trans ?_
  refine (G_Vi (q := 103106) (y := 201) (a := a0) (c := 12) rfl rfl rfl rfl (by decide) rfl (as := [.ref a0, .ref a1]) (rest := []) rfl rfl (mF fc202 (by rfl))).trans (andR (GoCi_congr fun v2 h2 => ?_))
  refine (G_istore (k := 2) (L' := [some (.ref a0), some (.ref a1), some (.int v2)]) rfl (ltb rfl) rfl (mF fc202 (by rfl))).trans ?_
  refine (G_aload rfl (mF fc202 (by rfl))).trans ?_
  refine (G_dupr (mF fc202 (by rfl))).trans ?_
  refine (G_getI (c := 12) (k := 28) rfl rfl rfl (mF fc202 (by rfl))).trans (andR ?_)
  refine (G_iload rfl (mF fc202 (by rfl))).trans ?_
  refine (G_eq (mF fc202 (by rfl))).trans (gi ?_ ?_)
  ·
    refine (G_iconst (mF fc202 (by rfl))).trans ?_
    refine (G_iadd (mF fc202 (by rfl))).trans ?_
    refine (G_putT (c := 12) (k := 28) rfl rfl rfl (mF fc202 (by rfl))).trans (andR ?_)
    refine (G_iload rfl (mF fc202 (by rfl))).trans ?_
    exact G_ireturnZ rfl (mF fc202 (by rfl))
  ·
    refine (G_aload rfl (mF fc202 (by rfl))).trans ?_
    refine (G_Vi (q := 163585) (y := 319) (a := a1) (c := 16) rfl rfl rfl rfl (by decide) rfl (as := [.ref a1]) (rest := [.int (fI h2 a0 28), .ref a0]) rfl rfl (mF fc202 (by rfl))).trans (andR (GoCi_congr fun v3 h3 => ?_))
    refine (G_goto (mF fc202 (by rfl))).trans ?_
    refine (G_iadd (mF fc202 (by rfl))).trans ?_
    refine (G_putT (c := 12) (k := 28) rfl rfl rfl (mF fc202 (by rfl))).trans (andR ?_)
    refine (G_iload rfl (mF fc202 (by rfl))).trans ?_
    exact G_ireturnZ rfl (mF fc202 (by rfl))
theorem e202 {d : Nat} {h : mHeap} {K : Int32 → mHeap → Prop} {a0 : Nat} {a1 : Nat} : GoCi (d + 1) 202 [.ref a0, .ref a1] h K ↔ Go d 202 0 [some (.ref a0), some (.ref a1), none] [] h (rI K) := GoCi_entry rfl rfl
set_option maxRecDepth 20000 in
theorem fc203 : mCodes[203]? = some mc203 := rfl
theorem b203_0 {d : Nat} {h : mHeap} {Q : Option Value → mHeap → Prop} {a0 : Nat} {x1 : Int32} {x2 : Int32} : Go d 203 0 [some (.ref a0), some (.int x1), some (.int x2)] [] h Q ↔ okF h a0 12 29 0 ∧ (if ¬ (fI h a0 29) = ii 0 then (Q none h) else (okF h a0 12 39 2 ∧ okF h a0 12 30 0 ∧ okF h a0 12 33 0 ∧ (64 ≤ (fR h a0 39) ∧ okA h (fR h a0 39) .int (((ii 300) * (fI h a0 30)) + (fI h a0 33))) ∧ okF (sI h (fR h a0 39) (((ii 300) * (fI h a0 30)) + (fI h a0 33)) x1) a0 12 40 2 ∧ okF (sI h (fR h a0 39) (((ii 300) * (fI h a0 30)) + (fI h a0 33)) x1) a0 12 30 0 ∧ okF (sI h (fR h a0 39) (((ii 300) * (fI h a0 30)) + (fI h a0 33)) x1) a0 12 33 0 ∧ (64 ≤ (fR (sI h (fR h a0 39) (((ii 300) * (fI h a0 30)) + (fI h a0 33)) x1) a0 40) ∧ okA (sI h (fR h a0 39) (((ii 300) * (fI h a0 30)) + (fI h a0 33)) x1) (fR (sI h (fR h a0 39) (((ii 300) * (fI h a0 30)) + (fI h a0 33)) x1) a0 40) .int (((ii 300) * (fI (sI h (fR h a0 39) (((ii 300) * (fI h a0 30)) + (fI h a0 33)) x1) a0 30)) + (fI (sI h (fR h a0 39) (((ii 300) * (fI h a0 30)) + (fI h a0 33)) x1) a0 33))) ∧ okF (sI (sI h (fR h a0 39) (((ii 300) * (fI h a0 30)) + (fI h a0 33)) x1) (fR (sI h (fR h a0 39) (((ii 300) * (fI h a0 30)) + (fI h a0 33)) x1) a0 40) (((ii 300) * (fI (sI h (fR h a0 39) (((ii 300) * (fI h a0 30)) + (fI h a0 33)) x1) a0 30)) + (fI (sI h (fR h a0 39) (((ii 300) * (fI h a0 30)) + (fI h a0 33)) x1) a0 33)) x2) a0 12 33 0 ∧ okP (sI (sI h (fR h a0 39) (((ii 300) * (fI h a0 30)) + (fI h a0 33)) x1) (fR (sI h (fR h a0 39) (((ii 300) * (fI h a0 30)) + (fI h a0 33)) x1) a0 40) (((ii 300) * (fI (sI h (fR h a0 39) (((ii 300) * (fI h a0 30)) + (fI h a0 33)) x1) a0 30)) + (fI (sI h (fR h a0 39) (((ii 300) * (fI h a0 30)) + (fI h a0 33)) x1) a0 33)) x2) a0 12 33 ∧ Q none (sF (sI (sI h (fR h a0 39) (((ii 300) * (fI h a0 30)) + (fI h a0 33)) x1) (fR (sI h (fR h a0 39) (((ii 300) * (fI h a0 30)) + (fI h a0 33)) x1) a0 40) (((ii 300) * (fI (sI h (fR h a0 39) (((ii 300) * (fI h a0 30)) + (fI h a0 33)) x1) a0 30)) + (fI (sI h (fR h a0 39) (((ii 300) * (fI h a0 30)) + (fI h a0 33)) x1) a0 33)) x2) a0 33 (.int ((fI (sI (sI h (fR h a0 39) (((ii 300) * (fI h a0 30)) + (fI h a0 33)) x1) (fR (sI h (fR h a0 39) (((ii 300) * (fI h a0 30)) + (fI h a0 33)) x1) a0 40) (((ii 300) * (fI (sI h (fR h a0 39) (((ii 300) * (fI h a0 30)) + (fI h a0 33)) x1) a0 30)) + (fI (sI h (fR h a0 39) (((ii 300) * (fI h a0 30)) + (fI h a0 33)) x1) a0 33)) x2) a0 33) + (ii 1)))))) := by
  refine (G_aload rfl (mF fc203 (by rfl))).trans ?_
  refine (G_getI (c := 12) (k := 29) rfl rfl rfl (mF fc203 (by rfl))).trans (andR ?_)
  refine (G_ne (mF fc203 (by rfl))).trans (gi ?_ ?_)
  ·
    exact G_return rfl (mF fc203 (by rfl))
  ·
    refine (G_aload rfl (mF fc203 (by rfl))).trans ?_
    refine (G_getR (c := 12) (k := 39) rfl rfl rfl (mF fc203 (by rfl))).trans (andR ?_)
    refine (G_iconst (mF fc203 (by rfl))).trans ?_
    refine (G_aload rfl (mF fc203 (by rfl))).trans ?_
    refine (G_getI (c := 12) (k := 30) rfl rfl rfl (mF fc203 (by rfl))).trans (andR ?_)
    refine (G_imul (mF fc203 (by rfl))).trans ?_
    refine (G_aload rfl (mF fc203 (by rfl))).trans ?_
    refine (G_getI (c := 12) (k := 33) rfl rfl rfl (mF fc203 (by rfl))).trans (andR ?_)
    refine (G_iadd (mF fc203 (by rfl))).trans ?_
    refine (G_iload rfl (mF fc203 (by rfl))).trans ?_
    refine (G_iastore (mF fc203 (by rfl))).trans (andR ?_)
    refine (G_aload rfl (mF fc203 (by rfl))).trans ?_
    refine (G_getR (c := 12) (k := 40) rfl rfl rfl (mF fc203 (by rfl))).trans (andR ?_)
    refine (G_iconst (mF fc203 (by rfl))).trans ?_
    refine (G_aload rfl (mF fc203 (by rfl))).trans ?_
    refine (G_getI (c := 12) (k := 30) rfl rfl rfl (mF fc203 (by rfl))).trans (andR ?_)
    refine (G_imul (mF fc203 (by rfl))).trans ?_
    refine (G_aload rfl (mF fc203 (by rfl))).trans ?_
    refine (G_getI (c := 12) (k := 33) rfl rfl rfl (mF fc203 (by rfl))).trans (andR ?_)
    refine (G_iadd (mF fc203 (by rfl))).trans ?_
    refine (G_iload rfl (mF fc203 (by rfl))).trans ?_
    refine (G_iastore (mF fc203 (by rfl))).trans (andR ?_)
    refine (G_aload rfl (mF fc203 (by rfl))).trans ?_
    refine (G_dupr (mF fc203 (by rfl))).trans ?_
    refine (G_getI (c := 12) (k := 33) rfl rfl rfl (mF fc203 (by rfl))).trans (andR ?_)
    refine (G_iconst (mF fc203 (by rfl))).trans ?_
    refine (G_iadd (mF fc203 (by rfl))).trans ?_
    refine (G_putT (c := 12) (k := 33) rfl rfl rfl (mF fc203 (by rfl))).trans (andR ?_)
    exact G_return rfl (mF fc203 (by rfl))
theorem e203 {d : Nat} {h : mHeap} {K : mHeap → Prop} {a0 : Nat} {x1 : Int32} {x2 : Int32} : GoCv (d + 1) 203 [.ref a0, .int x1, .int x2] h K ↔ Go d 203 0 [some (.ref a0), some (.int x1), some (.int x2)] [] h (rV K) := GoCv_entry rfl rfl
set_option maxRecDepth 20000 in
theorem fc204 : mCodes[204]? = some mc204 := rfl
theorem b204_0 {d : Nat} {h : mHeap} {Q : Option Value → mHeap → Prop} {a0 : Nat} {x1 : Int32} : Go d 204 0 [some (.ref a0), some (.int x1)] [] h Q ↔ okF h a0 12 35 0 ∧ (if ¬ (fI h a0 35) = (ii 60) then (okF h a0 12 35 0 ∧ okP h a0 12 35 ∧ Q none (sF h a0 35 (.int ((fI h a0 35) + (ii 1))))) else (oC h a0 = 12 ∧ GoCv d 197 [.ref a0, .int (ii 3), .int x1] h (fun h1 => okF h1 a0 12 35 0 ∧ okP h1 a0 12 35 ∧ Q none (sF h1 a0 35 (.int ((fI h1 a0 35) + (ii 1))))))) := by
  refine (G_aload rfl (mF fc204 (by rfl))).trans ?_
  refine (G_getI (c := 12) (k := 35) rfl rfl rfl (mF fc204 (by rfl))).trans (andR ?_)
  refine (G_iconst (mF fc204 (by rfl))).trans ?_
  refine (G_ine (mF fc204 (by rfl))).trans (gi ?_ ?_)
  ·
    refine (G_aload rfl (mF fc204 (by rfl))).trans ?_
    refine (G_dupr (mF fc204 (by rfl))).trans ?_
    refine (G_getI (c := 12) (k := 35) rfl rfl rfl (mF fc204 (by rfl))).trans (andR ?_)
    refine (G_iconst (mF fc204 (by rfl))).trans ?_
    refine (G_iadd (mF fc204 (by rfl))).trans ?_
    refine (G_putT (c := 12) (k := 35) rfl rfl rfl (mF fc204 (by rfl))).trans (andR ?_)
    exact G_return rfl (mF fc204 (by rfl))
  ·
    refine (G_aload rfl (mF fc204 (by rfl))).trans ?_
    refine (G_iconst (mF fc204 (by rfl))).trans ?_
    refine (G_iload rfl (mF fc204 (by rfl))).trans ?_
    refine (G_Vv (q := 101059) (y := 197) (a := a0) (c := 12) rfl rfl rfl rfl (by decide) rfl (as := [.ref a0, .int (ii 3), .int x1]) (rest := []) rfl rfl (mF fc204 (by rfl))).trans (andR (GoCv_congr fun h1 => ?_))
    refine (G_aload rfl (mF fc204 (by rfl))).trans ?_
    refine (G_dupr (mF fc204 (by rfl))).trans ?_
    refine (G_getI (c := 12) (k := 35) rfl rfl rfl (mF fc204 (by rfl))).trans (andR ?_)
    refine (G_iconst (mF fc204 (by rfl))).trans ?_
    refine (G_iadd (mF fc204 (by rfl))).trans ?_
    refine (G_putT (c := 12) (k := 35) rfl rfl rfl (mF fc204 (by rfl))).trans (andR ?_)
    exact G_return rfl (mF fc204 (by rfl))
theorem e204 {d : Nat} {h : mHeap} {K : mHeap → Prop} {a0 : Nat} {x1 : Int32} : GoCv (d + 1) 204 [.ref a0, .int x1] h K ↔ Go d 204 0 [some (.ref a0), some (.int x1)] [] h (rV K) := GoCv_entry rfl rfl
set_option maxRecDepth 20000 in
theorem fc205 : mCodes[205]? = some mc205 := rfl
theorem b205_0 {d : Nat} {h : mHeap} {Q : Option Value → mHeap → Prop} {a0 : Nat} {x1 : Int32} : Go d 205 0 [some (.ref a0), some (.int x1), none, none] [] h Q ↔ oC h a0 = 12 ∧ GoCi d 200 [.ref a0] h (fun v1 h1 => (if ¬ v1 = ii 0 then (okF h1 a0 12 28 0 ∧ Go d 205 25 [some (.ref a0), some (.int x1), some (.int (fI h1 a0 28)), some (.int (ii 0))] [] h1 Q) else (okF h1 a0 12 28 0 ∧ oC h1 a0 = 12 ∧ GoCv d 197 [.ref a0, .int (ii 0), .int (fI h1 a0 28)] h1 (fun h2 => Q (some (.int (ii 0))) h2)))) := by
  refine (G_aload rfl (mF fc205 (by rfl))).trans ?_
  refine (G_Vi (q := 102593) (y := 200) (a := a0) (c := 12) rfl rfl rfl rfl (by decide) rfl (as := [.ref a0]) (rest := []) rfl rfl (mF fc205 (by rfl))).trans (andR (GoCi_congr fun v1 h1 => ?_))
  refine (G_ne (mF fc205 (by rfl))).trans (gi ?_ ?_)
  ·
    refine (G_aload rfl (mF fc205 (by rfl))).trans ?_
    refine (G_getI (c := 12) (k := 28) rfl rfl rfl (mF fc205 (by rfl))).trans (andR ?_)
    refine (G_istore (k := 2) (L' := [some (.ref a0), some (.int x1), some (.int (fI h1 a0 28)), none]) rfl (ltb rfl) rfl (mF fc205 (by rfl))).trans ?_
    refine (G_iconst (mF fc205 (by rfl))).trans ?_
    refine (G_istore (k := 3) (L' := [some (.ref a0), some (.int x1), some (.int (fI h1 a0 28)), some (.int (ii 0))]) rfl (ltb rfl) rfl (mF fc205 (by rfl))).trans ?_
    exact Iff.rfl
  ·
    refine (G_aload rfl (mF fc205 (by rfl))).trans ?_
    refine (G_iconst (mF fc205 (by rfl))).trans ?_
    refine (G_aload rfl (mF fc205 (by rfl))).trans ?_
    refine (G_getI (c := 12) (k := 28) rfl rfl rfl (mF fc205 (by rfl))).trans (andR ?_)
    refine (G_Vv (q := 101059) (y := 197) (a := a0) (c := 12) rfl rfl rfl rfl (by decide) rfl (as := [.ref a0, .int (ii 0), .int (fI h1 a0 28)]) (rest := []) rfl rfl (mF fc205 (by rfl))).trans (andR (GoCv_congr fun h2 => ?_))
    refine (G_iconst (mF fc205 (by rfl))).trans ?_
    exact G_ireturnI rfl (mF fc205 (by rfl))
theorem b205_25 {d : Nat} {h : mHeap} {Q : Option Value → mHeap → Prop} {a0 : Nat} {x1 : Int32} {x2 : Int32} {x3 : Int32} : Go d 205 25 [some (.ref a0), some (.int x1), some (.int x2), some (.int x3)] [] h Q ↔ oC h a0 = 12 ∧ GoCi d 200 [.ref a0] h (fun v1 h1 => (if v1 = ii 0 then (okF h1 a0 12 28 0 ∧ (if (ii 5) < ((fI h1 a0 28) - x2) then (Go d 205 87 [some (.ref a0), some (.int x1), some (.int x2), some (.int x3)] [] h1 Q) else ((if x3 ≤ x1 then (Q (some (.int x3)) h1) else (Go d 205 87 [some (.ref a0), some (.int x1), some (.int x2), some (.int x3)] [] h1 Q))))) else (okF h1 a0 12 28 0 ∧ (if (ii 5) ≤ ((fI h1 a0 28) - x2) then (Go d 205 58 [some (.ref a0), some (.int x1), some (.int x2), some (.int x3)] [.int x3] h1 Q) else (oC h1 a0 = 12 ∧ GoCi d 198 [.ref a0] h1 (fun v2 h2 => Go d 205 58 [some (.ref a0), some (.int x1), some (.int x2), some (.int x3)] [.int ((((ii 10) * x3) + v2) - (ii 48))] h2 Q)))))) := by
  refine (G_aload rfl (mF fc205 (by rfl))).trans ?_
  refine (G_Vi (q := 102593) (y := 200) (a := a0) (c := 12) rfl rfl rfl rfl (by decide) rfl (as := [.ref a0]) (rest := []) rfl rfl (mF fc205 (by rfl))).trans (andR (GoCi_congr fun v1 h1 => ?_))
  refine (G_eq (mF fc205 (by rfl))).trans (gi ?_ ?_)
  ·
    refine (G_aload rfl (mF fc205 (by rfl))).trans ?_
    refine (G_getI (c := 12) (k := 28) rfl rfl rfl (mF fc205 (by rfl))).trans (andR ?_)
    refine (G_iload rfl (mF fc205 (by rfl))).trans ?_
    refine (G_isub (mF fc205 (by rfl))).trans ?_
    refine (G_iconst (mF fc205 (by rfl))).trans ?_
    refine (G_igt (mF fc205 (by rfl))).trans (gi ?_ ?_)
    ·
      exact Iff.rfl
    ·
      refine (G_iload rfl (mF fc205 (by rfl))).trans ?_
      refine (G_iload rfl (mF fc205 (by rfl))).trans ?_
      refine (G_ile (mF fc205 (by rfl))).trans (gi ?_ ?_)
      ·
        refine (G_iload rfl (mF fc205 (by rfl))).trans ?_
        exact G_ireturnI rfl (mF fc205 (by rfl))
      ·
        exact Iff.rfl
  ·
    refine (G_aload rfl (mF fc205 (by rfl))).trans ?_
    refine (G_getI (c := 12) (k := 28) rfl rfl rfl (mF fc205 (by rfl))).trans (andR ?_)
    refine (G_iload rfl (mF fc205 (by rfl))).trans ?_
    refine (G_isub (mF fc205 (by rfl))).trans ?_
    refine (G_iconst (mF fc205 (by rfl))).trans ?_
    refine (G_ige (mF fc205 (by rfl))).trans (gi ?_ ?_)
    ·
      refine (G_iload rfl (mF fc205 (by rfl))).trans ?_
      exact Iff.rfl
    ·
      refine (G_iconst (mF fc205 (by rfl))).trans ?_
      refine (G_iload rfl (mF fc205 (by rfl))).trans ?_
      refine (G_imul (mF fc205 (by rfl))).trans ?_
      refine (G_aload rfl (mF fc205 (by rfl))).trans ?_
      refine (G_Vi (q := 101569) (y := 198) (a := a0) (c := 12) rfl rfl rfl rfl (by decide) rfl (as := [.ref a0]) (rest := [.int ((ii 10) * x3)]) rfl rfl (mF fc205 (by rfl))).trans (andR (GoCi_congr fun v2 h2 => ?_))
      refine (G_iadd (mF fc205 (by rfl))).trans ?_
      refine (G_iconst (mF fc205 (by rfl))).trans ?_
      refine (G_isub (mF fc205 (by rfl))).trans ?_
      refine (G_goto (mF fc205 (by rfl))).trans ?_
      exact Iff.rfl
theorem b205_58 {d : Nat} {h : mHeap} {Q : Option Value → mHeap → Prop} {a0 : Nat} {x1 : Int32} {x2 : Int32} {l3 : Option Value} {s0 : Int32} : Go d 205 58 [some (.ref a0), some (.int x1), some (.int x2), l3] [.int s0] h Q ↔ okF h a0 12 28 0 ∧ okP h a0 12 28 ∧ Go d 205 25 [some (.ref a0), some (.int x1), some (.int x2), some (.int s0)] [] (sF h a0 28 (.int ((fI h a0 28) + (ii 1)))) Q := by
  refine (G_istore (k := 3) (L' := [some (.ref a0), some (.int x1), some (.int x2), some (.int s0)]) rfl (ltb rfl) rfl (mF fc205 (by rfl))).trans ?_
  refine (G_aload rfl (mF fc205 (by rfl))).trans ?_
  refine (G_dupr (mF fc205 (by rfl))).trans ?_
  refine (G_getI (c := 12) (k := 28) rfl rfl rfl (mF fc205 (by rfl))).trans (andR ?_)
  refine (G_iconst (mF fc205 (by rfl))).trans ?_
  refine (G_iadd (mF fc205 (by rfl))).trans ?_
  refine (G_putT (c := 12) (k := 28) rfl rfl rfl (mF fc205 (by rfl))).trans (andR ?_)
  refine (G_goto (mF fc205 (by rfl))).trans ?_
  exact Iff.rfl
theorem b205_87 {d : Nat} {h : mHeap} {Q : Option Value → mHeap → Prop} {a0 : Nat} {l1 : Option Value} {x2 : Int32} {x3 : Int32} : Go d 205 87 [some (.ref a0), l1, some (.int x2), some (.int x3)] [] h Q ↔ oC h a0 = 12 ∧ GoCv d 197 [.ref a0, .int (ii 1), .int x2] h (fun h1 => Q (some (.int x3)) h1) := by
  refine (G_aload rfl (mF fc205 (by rfl))).trans ?_
  refine (G_iconst (mF fc205 (by rfl))).trans ?_
  refine (G_iload rfl (mF fc205 (by rfl))).trans ?_
  refine (G_Vv (q := 101059) (y := 197) (a := a0) (c := 12) rfl rfl rfl rfl (by decide) rfl (as := [.ref a0, .int (ii 1), .int x2]) (rest := []) rfl rfl (mF fc205 (by rfl))).trans (andR (GoCv_congr fun h1 => ?_))
  refine (G_iload rfl (mF fc205 (by rfl))).trans ?_
  exact G_ireturnI rfl (mF fc205 (by rfl))
theorem e205 {d : Nat} {h : mHeap} {K : Int32 → mHeap → Prop} {a0 : Nat} {x1 : Int32} : GoCi (d + 1) 205 [.ref a0, .int x1] h K ↔ Go d 205 0 [some (.ref a0), some (.int x1), none, none] [] h (rI K) := GoCi_entry rfl rfl
set_option maxRecDepth 20000 in
theorem fc206 : mCodes[206]? = some mc206 := rfl
theorem b206_0 {d : Nat} {h : mHeap} {Q : Option Value → mHeap → Prop} {a0 : Nat} : Go d 206 0 [some (.ref a0), none, none] [] h Q ↔ oC h a0 = 12 ∧ GoCv d 199 [.ref a0] h (fun h1 => okF h1 a0 12 28 0 ∧ oC h1 a0 = 12 ∧ GoCi d 200 [.ref a0] h1 (fun v2 h2 => (if v2 = ii 0 then (Go d 206 38 [some (.ref a0), some (.int (fI h1 a0 28)), some (.int (ii 0))] [] h2 Q) else (oC h2 a0 = 12 ∧ GoCi d 205 [.ref a0, .int (ii 99999)] h2 (fun v3 h3 => oC h3 a0 = 12 ∧ GoCv d 204 [.ref a0, .int (fI h1 a0 28)] h3 (fun h4 => oC h4 a0 = 12 ∧ GoCv d 203 [.ref a0, .int (ii 0), .int v3] h4 (fun h5 => Q none h5))))))) := by
  refine (G_aload rfl (mF fc206 (by rfl))).trans ?_
  refine (G_Vv (q := 102081) (y := 199) (a := a0) (c := 12) rfl rfl rfl rfl (by decide) rfl (as := [.ref a0]) (rest := []) rfl rfl (mF fc206 (by rfl))).trans (andR (GoCv_congr fun h1 => ?_))
  refine (G_aload rfl (mF fc206 (by rfl))).trans ?_
  refine (G_getI (c := 12) (k := 28) rfl rfl rfl (mF fc206 (by rfl))).trans (andR ?_)
  refine (G_istore (k := 1) (L' := [some (.ref a0), some (.int (fI h1 a0 28)), none]) rfl (ltb rfl) rfl (mF fc206 (by rfl))).trans ?_
  refine (G_aload rfl (mF fc206 (by rfl))).trans ?_
  refine (G_Vi (q := 102593) (y := 200) (a := a0) (c := 12) rfl rfl rfl rfl (by decide) rfl (as := [.ref a0]) (rest := []) rfl rfl (mF fc206 (by rfl))).trans (andR (GoCi_congr fun v2 h2 => ?_))
  refine (G_eq (mF fc206 (by rfl))).trans (gi ?_ ?_)
  ·
    refine (G_iconst (mF fc206 (by rfl))).trans ?_
    refine (G_istore (k := 2) (L' := [some (.ref a0), some (.int (fI h1 a0 28)), some (.int (ii 0))]) rfl (ltb rfl) rfl (mF fc206 (by rfl))).trans ?_
    exact Iff.rfl
  ·
    refine (G_aload rfl (mF fc206 (by rfl))).trans ?_
    refine (G_iconst (mF fc206 (by rfl))).trans ?_
    refine (G_Vi (q := 105154) (y := 205) (a := a0) (c := 12) rfl rfl rfl rfl (by decide) rfl (as := [.ref a0, .int (ii 99999)]) (rest := []) rfl rfl (mF fc206 (by rfl))).trans (andR (GoCi_congr fun v3 h3 => ?_))
    refine (G_istore (k := 2) (L' := [some (.ref a0), some (.int (fI h1 a0 28)), some (.int v3)]) rfl (ltb rfl) rfl (mF fc206 (by rfl))).trans ?_
    refine (G_aload rfl (mF fc206 (by rfl))).trans ?_
    refine (G_iload rfl (mF fc206 (by rfl))).trans ?_
    refine (G_Vv (q := 104642) (y := 204) (a := a0) (c := 12) rfl rfl rfl rfl (by decide) rfl (as := [.ref a0, .int (fI h1 a0 28)]) (rest := []) rfl rfl (mF fc206 (by rfl))).trans (andR (GoCv_congr fun h4 => ?_))
    refine (G_aload rfl (mF fc206 (by rfl))).trans ?_
    refine (G_iconst (mF fc206 (by rfl))).trans ?_
    refine (G_iload rfl (mF fc206 (by rfl))).trans ?_
    refine (G_Vv (q := 104131) (y := 203) (a := a0) (c := 12) rfl rfl rfl rfl (by decide) rfl (as := [.ref a0, .int (ii 0), .int v3]) (rest := []) rfl rfl (mF fc206 (by rfl))).trans (andR (GoCv_congr fun h5 => ?_))
    exact G_return rfl (mF fc206 (by rfl))
theorem b206_38 {d : Nat} {h : mHeap} {Q : Option Value → mHeap → Prop} {a0 : Nat} {x1 : Int32} {x2 : Int32} : Go d 206 38 [some (.ref a0), some (.int x1), some (.int x2)] [] h Q ↔ okF h a0 12 37 0 ∧ (if (fI h a0 37) ≤ x2 then (Go d 206 63 [some (.ref a0), some (.int x1), some (.int x2)] [] h Q) else (GoCr d 196 [.int x2] h (fun v1 h1 => oC h1 a0 = 12 ∧ GoCi d 201 [.ref a0, .ref v1] h1 (fun v2 h2 => (if ¬ v2 = ii 0 then (Go d 206 63 [some (.ref a0), some (.int x1), some (.int x2)] [] h2 Q) else (Go d 206 38 [some (.ref a0), some (.int x1), some (.int (x2 + ii 1))] [] h2 Q)))))) := by
  refine (G_iload rfl (mF fc206 (by rfl))).trans ?_
  refine (G_aload rfl (mF fc206 (by rfl))).trans ?_
  refine (G_getI (c := 12) (k := 37) rfl rfl rfl (mF fc206 (by rfl))).trans (andR ?_)
  refine (G_ige (mF fc206 (by rfl))).trans (gi ?_ ?_)
  ·
    exact Iff.rfl
  ·
    refine (G_aload rfl (mF fc206 (by rfl))).trans ?_
    refine (G_iload rfl (mF fc206 (by rfl))).trans ?_
    refine (G_Tr (q := 100545) (y := 196) rfl rfl rfl (as := [.int x2]) (rest := [.ref a0]) rfl rfl (mF fc206 (by rfl))).trans (GoCr_congr fun v1 h1 => ?_)
    refine (G_Vi (q := 103106) (y := 201) (a := a0) (c := 12) rfl rfl rfl rfl (by decide) rfl (as := [.ref a0, .ref v1]) (rest := []) rfl rfl (mF fc206 (by rfl))).trans (andR (GoCi_congr fun v2 h2 => ?_))
    refine (G_ne (mF fc206 (by rfl))).trans (gi ?_ ?_)
    ·
      exact Iff.rfl
    ·
      refine (G_iinc (k := 2) (L' := [some (.ref a0), some (.int x1), some (.int (x2 + ii 1))]) rfl rfl rfl (mF fc206 (by rfl))).trans ?_
      refine (G_goto (mF fc206 (by rfl))).trans ?_
      exact Iff.rfl
theorem b206_63 {d : Nat} {h : mHeap} {Q : Option Value → mHeap → Prop} {a0 : Nat} {x1 : Int32} {x2 : Int32} : Go d 206 63 [some (.ref a0), some (.int x1), some (.int x2)] [] h Q ↔ okF h a0 12 37 0 ∧ (if ¬ x2 = (fI h a0 37) then (oC h a0 = 12 ∧ GoCv d 204 [.ref a0, .int x1] h (fun h1 => okF h1 a0 12 28 0 ∧ GoCr d 196 [.int x2] h1 (fun v2 h2 => oC h2 v2 = 16 ∧ GoCi d 319 [.ref v2] h2 (fun v3 h3 => okP h3 a0 12 28 ∧ oC (sF h3 a0 28 (.int ((fI h1 a0 28) + v3))) a0 = 12 ∧ GoCv d 203 [.ref a0, .int (ii 1), .int x2] (sF h3 a0 28 (.int ((fI h1 a0 28) + v3))) (fun h4 => Q none h4))))) else (oC h a0 = 12 ∧ GoCv d 197 [.ref a0, .int (ii 0), .int x1] h (fun h5 => Q none h5))) := by
  refine (G_iload rfl (mF fc206 (by rfl))).trans ?_
  refine (G_aload rfl (mF fc206 (by rfl))).trans ?_
  refine (G_getI (c := 12) (k := 37) rfl rfl rfl (mF fc206 (by rfl))).trans (andR ?_)
  refine (G_ine (mF fc206 (by rfl))).trans (gi ?_ ?_)
  ·
    refine (G_aload rfl (mF fc206 (by rfl))).trans ?_
    refine (G_iload rfl (mF fc206 (by rfl))).trans ?_
    refine (G_Vv (q := 104642) (y := 204) (a := a0) (c := 12) rfl rfl rfl rfl (by decide) rfl (as := [.ref a0, .int x1]) (rest := []) rfl rfl (mF fc206 (by rfl))).trans (andR (GoCv_congr fun h1 => ?_))
    refine (G_aload rfl (mF fc206 (by rfl))).trans ?_
    refine (G_dupr (mF fc206 (by rfl))).trans ?_
    refine (G_getI (c := 12) (k := 28) rfl rfl rfl (mF fc206 (by rfl))).trans (andR ?_)
    refine (G_iload rfl (mF fc206 (by rfl))).trans ?_
    refine (G_Tr (q := 100545) (y := 196) rfl rfl rfl (as := [.int x2]) (rest := [.int (fI h1 a0 28), .ref a0]) rfl rfl (mF fc206 (by rfl))).trans (GoCr_congr fun v2 h2 => ?_)
    refine (G_Vi (q := 163585) (y := 319) (a := v2) (c := 16) rfl rfl rfl rfl (by decide) rfl (as := [.ref v2]) (rest := [.int (fI h1 a0 28), .ref a0]) rfl rfl (mF fc206 (by rfl))).trans (andR (GoCi_congr fun v3 h3 => ?_))
    refine (G_iadd (mF fc206 (by rfl))).trans ?_
    refine (G_putT (c := 12) (k := 28) rfl rfl rfl (mF fc206 (by rfl))).trans (andR ?_)
    refine (G_aload rfl (mF fc206 (by rfl))).trans ?_
    refine (G_iconst (mF fc206 (by rfl))).trans ?_
    refine (G_iload rfl (mF fc206 (by rfl))).trans ?_
    refine (G_Vv (q := 104131) (y := 203) (a := a0) (c := 12) rfl rfl rfl rfl (by decide) rfl (as := [.ref a0, .int (ii 1), .int x2]) (rest := []) rfl rfl (mF fc206 (by rfl))).trans (andR (GoCv_congr fun h4 => ?_))
    exact G_return rfl (mF fc206 (by rfl))
  ·
    refine (G_aload rfl (mF fc206 (by rfl))).trans ?_
    refine (G_iconst (mF fc206 (by rfl))).trans ?_
    refine (G_iload rfl (mF fc206 (by rfl))).trans ?_
    refine (G_Vv (q := 101059) (y := 197) (a := a0) (c := 12) rfl rfl rfl rfl (by decide) rfl (as := [.ref a0, .int (ii 0), .int x1]) (rest := []) rfl rfl (mF fc206 (by rfl))).trans (andR (GoCv_congr fun h5 => ?_))
    exact G_return rfl (mF fc206 (by rfl))
theorem e206 {d : Nat} {h : mHeap} {K : mHeap → Prop} {a0 : Nat} : GoCv (d + 1) 206 [.ref a0] h K ↔ Go d 206 0 [some (.ref a0), none, none] [] h (rV K) := GoCv_entry rfl rfl
set_option maxRecDepth 20000 in
theorem fc207 : mCodes[207]? = some mc207 := rfl
theorem b207_0 {d : Nat} {h : mHeap} {Q : Option Value → mHeap → Prop} {a0 : Nat} : Go d 207 0 [some (.ref a0), none] [] h Q ↔ oC h a0 = 12 ∧ GoCv d 206 [.ref a0] h (fun h1 => oC h1 a0 = 12 ∧ GoCv d 199 [.ref a0] h1 (fun h2 => Go d 207 8 [some (.ref a0), none] [] h2 Q)) := by
  refine (G_aload rfl (mF fc207 (by rfl))).trans ?_
  refine (G_Vv (q := 105665) (y := 206) (a := a0) (c := 12) rfl rfl rfl rfl (by decide) rfl (as := [.ref a0]) (rest := []) rfl rfl (mF fc207 (by rfl))).trans (andR (GoCv_congr fun h1 => ?_))
  refine (G_aload rfl (mF fc207 (by rfl))).trans ?_
  refine (G_Vv (q := 102081) (y := 199) (a := a0) (c := 12) rfl rfl rfl rfl (by decide) rfl (as := [.ref a0]) (rest := []) rfl rfl (mF fc207 (by rfl))).trans (andR (GoCv_congr fun h2 => ?_))
  exact Iff.rfl
theorem b207_8 {d : Nat} {h : mHeap} {Q : Option Value → mHeap → Prop} {a0 : Nat} {l1 : Option Value} : Go d 207 8 [some (.ref a0), l1] [] h Q ↔ okF h a0 12 29 0 ∧ (if ¬ (fI h a0 29) = ii 0 then (Q none h) else (oC h a0 = 12 ∧ GoCi d 198 [.ref a0] h (fun v1 h1 => (if v1 = (ii 42) then (Go d 207 42 [some (.ref a0), l1] [] h1 Q) else (oC h1 a0 = 12 ∧ GoCi d 198 [.ref a0] h1 (fun v2 h2 => (if v2 = (ii 47) then (Go d 207 42 [some (.ref a0), l1] [] h2 Q) else (oC h2 a0 = 12 ∧ GoCi d 198 [.ref a0] h2 (fun v3 h3 => (if ¬ v3 = (ii 37) then (Q none h3) else (Go d 207 42 [some (.ref a0), l1] [] h3 Q))))))))))) := by
  refine (G_aload rfl (mF fc207 (by rfl))).trans ?_
  refine (G_getI (c := 12) (k := 29) rfl rfl rfl (mF fc207 (by rfl))).trans (andR ?_)
  refine (G_ne (mF fc207 (by rfl))).trans (gi ?_ ?_)
  ·
    exact G_return rfl (mF fc207 (by rfl))
  ·
    refine (G_aload rfl (mF fc207 (by rfl))).trans ?_
    refine (G_Vi (q := 101569) (y := 198) (a := a0) (c := 12) rfl rfl rfl rfl (by decide) rfl (as := [.ref a0]) (rest := []) rfl rfl (mF fc207 (by rfl))).trans (andR (GoCi_congr fun v1 h1 => ?_))
    refine (G_iconst (mF fc207 (by rfl))).trans ?_
    refine (G_ieq (mF fc207 (by rfl))).trans (gi ?_ ?_)
    ·
      exact Iff.rfl
    ·
      refine (G_aload rfl (mF fc207 (by rfl))).trans ?_
      refine (G_Vi (q := 101569) (y := 198) (a := a0) (c := 12) rfl rfl rfl rfl (by decide) rfl (as := [.ref a0]) (rest := []) rfl rfl (mF fc207 (by rfl))).trans (andR (GoCi_congr fun v2 h2 => ?_))
      refine (G_iconst (mF fc207 (by rfl))).trans ?_
      refine (G_ieq (mF fc207 (by rfl))).trans (gi ?_ ?_)
      ·
        exact Iff.rfl
      ·
        refine (G_aload rfl (mF fc207 (by rfl))).trans ?_
        refine (G_Vi (q := 101569) (y := 198) (a := a0) (c := 12) rfl rfl rfl rfl (by decide) rfl (as := [.ref a0]) (rest := []) rfl rfl (mF fc207 (by rfl))).trans (andR (GoCi_congr fun v3 h3 => ?_))
        refine (G_iconst (mF fc207 (by rfl))).trans ?_
        refine (G_ine (mF fc207 (by rfl))).trans (gi ?_ ?_)
        ·
          exact G_return rfl (mF fc207 (by rfl))
        ·
          exact Iff.rfl
theorem b207_42 {d : Nat} {h : mHeap} {Q : Option Value → mHeap → Prop} {a0 : Nat} {l1 : Option Value} : Go d 207 42 [some (.ref a0), l1] [] h Q ↔ oC h a0 = 12 ∧ GoCi d 198 [.ref a0] h (fun v1 h1 => (if ¬ v1 = (ii 42) then (oC h1 a0 = 12 ∧ GoCi d 198 [.ref a0] h1 (fun v2 h2 => (if ¬ v2 = (ii 47) then (Go d 207 72 [some (.ref a0), l1] [.int (ii 15)] h2 Q) else (Go d 207 72 [some (.ref a0), l1] [.int (ii 14)] h2 Q)))) else (Go d 207 72 [some (.ref a0), l1] [.int (ii 13)] h1 Q))) := by
  refine (G_aload rfl (mF fc207 (by rfl))).trans ?_
  refine (G_Vi (q := 101569) (y := 198) (a := a0) (c := 12) rfl rfl rfl rfl (by decide) rfl (as := [.ref a0]) (rest := []) rfl rfl (mF fc207 (by rfl))).trans (andR (GoCi_congr fun v1 h1 => ?_))
  refine (G_iconst (mF fc207 (by rfl))).trans ?_
  refine (G_ine (mF fc207 (by rfl))).trans (gi ?_ ?_)
  ·
    refine (G_aload rfl (mF fc207 (by rfl))).trans ?_
    refine (G_Vi (q := 101569) (y := 198) (a := a0) (c := 12) rfl rfl rfl rfl (by decide) rfl (as := [.ref a0]) (rest := []) rfl rfl (mF fc207 (by rfl))).trans (andR (GoCi_congr fun v2 h2 => ?_))
    refine (G_iconst (mF fc207 (by rfl))).trans ?_
    refine (G_ine (mF fc207 (by rfl))).trans (gi ?_ ?_)
    ·
      refine (G_iconst (mF fc207 (by rfl))).trans ?_
      exact Iff.rfl
    ·
      refine (G_iconst (mF fc207 (by rfl))).trans ?_
      refine (G_goto (mF fc207 (by rfl))).trans ?_
      exact Iff.rfl
  ·
    refine (G_iconst (mF fc207 (by rfl))).trans ?_
    refine (G_goto (mF fc207 (by rfl))).trans ?_
    exact Iff.rfl
theorem b207_72 {d : Nat} {h : mHeap} {Q : Option Value → mHeap → Prop} {a0 : Nat} {l1 : Option Value} {s0 : Int32} : Go d 207 72 [some (.ref a0), l1] [.int s0] h Q ↔ okF h a0 12 28 0 ∧ okP h a0 12 28 ∧ oC (sF h a0 28 (.int ((fI h a0 28) + (ii 1)))) a0 = 12 ∧ GoCv d 206 [.ref a0] (sF h a0 28 (.int ((fI h a0 28) + (ii 1)))) (fun h1 => oC h1 a0 = 12 ∧ GoCv d 203 [.ref a0, .int s0, .int (ii 0)] h1 (fun h2 => oC h2 a0 = 12 ∧ GoCv d 199 [.ref a0] h2 (fun h3 => Go d 207 8 [some (.ref a0), some (.int s0)] [] h3 Q))) := by
  refine (G_istore (k := 1) (L' := [some (.ref a0), some (.int s0)]) rfl (ltb rfl) rfl (mF fc207 (by rfl))).trans ?_
  refine (G_aload rfl (mF fc207 (by rfl))).trans ?_
  refine (G_dupr (mF fc207 (by rfl))).trans ?_
  refine (G_getI (c := 12) (k := 28) rfl rfl rfl (mF fc207 (by rfl))).trans (andR ?_)
  refine (G_iconst (mF fc207 (by rfl))).trans ?_
  refine (G_iadd (mF fc207 (by rfl))).trans ?_
  refine (G_putT (c := 12) (k := 28) rfl rfl rfl (mF fc207 (by rfl))).trans (andR ?_)
  refine (G_aload rfl (mF fc207 (by rfl))).trans ?_
  refine (G_Vv (q := 105665) (y := 206) (a := a0) (c := 12) rfl rfl rfl rfl (by decide) rfl (as := [.ref a0]) (rest := []) rfl rfl (mF fc207 (by rfl))).trans (andR (GoCv_congr fun h1 => ?_))
  refine (G_aload rfl (mF fc207 (by rfl))).trans ?_
  refine (G_iload rfl (mF fc207 (by rfl))).trans ?_
  refine (G_iconst (mF fc207 (by rfl))).trans ?_
  refine (G_Vv (q := 104131) (y := 203) (a := a0) (c := 12) rfl rfl rfl rfl (by decide) rfl (as := [.ref a0, .int s0, .int (ii 0)]) (rest := []) rfl rfl (mF fc207 (by rfl))).trans (andR (GoCv_congr fun h2 => ?_))
  refine (G_aload rfl (mF fc207 (by rfl))).trans ?_
  refine (G_Vv (q := 102081) (y := 199) (a := a0) (c := 12) rfl rfl rfl rfl (by decide) rfl (as := [.ref a0]) (rest := []) rfl rfl (mF fc207 (by rfl))).trans (andR (GoCv_congr fun h3 => ?_))
  refine (G_goto (mF fc207 (by rfl))).trans ?_
  exact Iff.rfl
theorem e207 {d : Nat} {h : mHeap} {K : mHeap → Prop} {a0 : Nat} : GoCv (d + 1) 207 [.ref a0] h K ↔ Go d 207 0 [some (.ref a0), none] [] h (rV K) := GoCv_entry rfl rfl
set_option maxRecDepth 20000 in
theorem fc208 : mCodes[208]? = some mc208 := rfl
theorem b208_0 {d : Nat} {h : mHeap} {Q : Option Value → mHeap → Prop} {a0 : Nat} : Go d 208 0 [some (.ref a0), none] [] h Q ↔ oC h a0 = 12 ∧ GoCv d 207 [.ref a0] h (fun h1 => Go d 208 4 [some (.ref a0), none] [] h1 Q) := by
  refine (G_aload rfl (mF fc208 (by rfl))).trans ?_
  refine (G_Vv (q := 106177) (y := 207) (a := a0) (c := 12) rfl rfl rfl rfl (by decide) rfl (as := [.ref a0]) (rest := []) rfl rfl (mF fc208 (by rfl))).trans (andR (GoCv_congr fun h1 => ?_))
  exact Iff.rfl
theorem b208_4 {d : Nat} {h : mHeap} {Q : Option Value → mHeap → Prop} {a0 : Nat} {l1 : Option Value} : Go d 208 4 [some (.ref a0), l1] [] h Q ↔ okF h a0 12 29 0 ∧ (if ¬ (fI h a0 29) = ii 0 then (Q none h) else (oC h a0 = 12 ∧ GoCi d 198 [.ref a0] h (fun v1 h1 => (if v1 = (ii 43) then (Go d 208 29 [some (.ref a0), l1] [] h1 Q) else (oC h1 a0 = 12 ∧ GoCi d 198 [.ref a0] h1 (fun v2 h2 => (if ¬ v2 = (ii 45) then (Q none h2) else (Go d 208 29 [some (.ref a0), l1] [] h2 Q)))))))) := by
  refine (G_aload rfl (mF fc208 (by rfl))).trans ?_
  refine (G_getI (c := 12) (k := 29) rfl rfl rfl (mF fc208 (by rfl))).trans (andR ?_)
  refine (G_ne (mF fc208 (by rfl))).trans (gi ?_ ?_)
  ·
    exact G_return rfl (mF fc208 (by rfl))
  ·
    refine (G_aload rfl (mF fc208 (by rfl))).trans ?_
    refine (G_Vi (q := 101569) (y := 198) (a := a0) (c := 12) rfl rfl rfl rfl (by decide) rfl (as := [.ref a0]) (rest := []) rfl rfl (mF fc208 (by rfl))).trans (andR (GoCi_congr fun v1 h1 => ?_))
    refine (G_iconst (mF fc208 (by rfl))).trans ?_
    refine (G_ieq (mF fc208 (by rfl))).trans (gi ?_ ?_)
    ·
      exact Iff.rfl
    ·
      refine (G_aload rfl (mF fc208 (by rfl))).trans ?_
      refine (G_Vi (q := 101569) (y := 198) (a := a0) (c := 12) rfl rfl rfl rfl (by decide) rfl (as := [.ref a0]) (rest := []) rfl rfl (mF fc208 (by rfl))).trans (andR (GoCi_congr fun v2 h2 => ?_))
      refine (G_iconst (mF fc208 (by rfl))).trans ?_
      refine (G_ine (mF fc208 (by rfl))).trans (gi ?_ ?_)
      ·
        exact G_return rfl (mF fc208 (by rfl))
      ·
        exact Iff.rfl
theorem b208_29 {d : Nat} {h : mHeap} {Q : Option Value → mHeap → Prop} {a0 : Nat} {l1 : Option Value} : Go d 208 29 [some (.ref a0), l1] [] h Q ↔ oC h a0 = 12 ∧ GoCi d 198 [.ref a0] h (fun v1 h1 => (if ¬ v1 = (ii 43) then (Go d 208 43 [some (.ref a0), l1] [.int (ii 3)] h1 Q) else (Go d 208 43 [some (.ref a0), l1] [.int (ii 2)] h1 Q))) := by
  refine (G_aload rfl (mF fc208 (by rfl))).trans ?_
  refine (G_Vi (q := 101569) (y := 198) (a := a0) (c := 12) rfl rfl rfl rfl (by decide) rfl (as := [.ref a0]) (rest := []) rfl rfl (mF fc208 (by rfl))).trans (andR (GoCi_congr fun v1 h1 => ?_))
  refine (G_iconst (mF fc208 (by rfl))).trans ?_
  refine (G_ine (mF fc208 (by rfl))).trans (gi ?_ ?_)
  ·
    refine (G_iconst (mF fc208 (by rfl))).trans ?_
    exact Iff.rfl
  ·
    refine (G_iconst (mF fc208 (by rfl))).trans ?_
    refine (G_goto (mF fc208 (by rfl))).trans ?_
    exact Iff.rfl
theorem b208_43 {d : Nat} {h : mHeap} {Q : Option Value → mHeap → Prop} {a0 : Nat} {l1 : Option Value} {s0 : Int32} : Go d 208 43 [some (.ref a0), l1] [.int s0] h Q ↔ okF h a0 12 28 0 ∧ okP h a0 12 28 ∧ oC (sF h a0 28 (.int ((fI h a0 28) + (ii 1)))) a0 = 12 ∧ GoCv d 207 [.ref a0] (sF h a0 28 (.int ((fI h a0 28) + (ii 1)))) (fun h1 => oC h1 a0 = 12 ∧ GoCv d 203 [.ref a0, .int s0, .int (ii 0)] h1 (fun h2 => Go d 208 4 [some (.ref a0), some (.int s0)] [] h2 Q)) := by
  refine (G_istore (k := 1) (L' := [some (.ref a0), some (.int s0)]) rfl (ltb rfl) rfl (mF fc208 (by rfl))).trans ?_
  refine (G_aload rfl (mF fc208 (by rfl))).trans ?_
  refine (G_dupr (mF fc208 (by rfl))).trans ?_
  refine (G_getI (c := 12) (k := 28) rfl rfl rfl (mF fc208 (by rfl))).trans (andR ?_)
  refine (G_iconst (mF fc208 (by rfl))).trans ?_
  refine (G_iadd (mF fc208 (by rfl))).trans ?_
  refine (G_putT (c := 12) (k := 28) rfl rfl rfl (mF fc208 (by rfl))).trans (andR ?_)
  refine (G_aload rfl (mF fc208 (by rfl))).trans ?_
  refine (G_Vv (q := 106177) (y := 207) (a := a0) (c := 12) rfl rfl rfl rfl (by decide) rfl (as := [.ref a0]) (rest := []) rfl rfl (mF fc208 (by rfl))).trans (andR (GoCv_congr fun h1 => ?_))
  refine (G_aload rfl (mF fc208 (by rfl))).trans ?_
  refine (G_iload rfl (mF fc208 (by rfl))).trans ?_
  refine (G_iconst (mF fc208 (by rfl))).trans ?_
  refine (G_Vv (q := 104131) (y := 203) (a := a0) (c := 12) rfl rfl rfl rfl (by decide) rfl (as := [.ref a0, .int s0, .int (ii 0)]) (rest := []) rfl rfl (mF fc208 (by rfl))).trans (andR (GoCv_congr fun h2 => ?_))
  refine (G_goto (mF fc208 (by rfl))).trans ?_
  exact Iff.rfl
theorem e208 {d : Nat} {h : mHeap} {K : mHeap → Prop} {a0 : Nat} : GoCv (d + 1) 208 [.ref a0] h K ↔ Go d 208 0 [some (.ref a0), none] [] h (rV K) := GoCv_entry rfl rfl
set_option maxRecDepth 20000 in
theorem fc209 : mCodes[209]? = some mc209 := rfl
theorem b209_0 {d : Nat} {h : mHeap} {Q : Option Value → mHeap → Prop} {a0 : Nat} : Go d 209 0 [some (.ref a0), none, none] [] h Q ↔ oC h a0 = 12 ∧ GoCv d 208 [.ref a0] h (fun h1 => oC h1 a0 = 12 ∧ GoCi d 198 [.ref a0] h1 (fun v2 h2 => (if v2 = (ii 60) then (Go d 209 37 [some (.ref a0), some (.int v2), none] [] h2 Q) else ((if v2 = (ii 61) then (Go d 209 37 [some (.ref a0), some (.int v2), none] [] h2 Q) else ((if v2 = (ii 62) then (Go d 209 37 [some (.ref a0), some (.int v2), none] [] h2 Q) else (okF h2 a0 12 28 0 ∧ oC h2 a0 = 12 ∧ GoCv d 197 [.ref a0, .int (ii 0), .int (fI h2 a0 28)] h2 (fun h3 => Q none h3))))))))) := by
  refine (G_aload rfl (mF fc209 (by rfl))).trans ?_
  refine (G_Vv (q := 106689) (y := 208) (a := a0) (c := 12) rfl rfl rfl rfl (by decide) rfl (as := [.ref a0]) (rest := []) rfl rfl (mF fc209 (by rfl))).trans (andR (GoCv_congr fun h1 => ?_))
  refine (G_aload rfl (mF fc209 (by rfl))).trans ?_
  refine (G_Vi (q := 101569) (y := 198) (a := a0) (c := 12) rfl rfl rfl rfl (by decide) rfl (as := [.ref a0]) (rest := []) rfl rfl (mF fc209 (by rfl))).trans (andR (GoCi_congr fun v2 h2 => ?_))
  refine (G_istore (k := 1) (L' := [some (.ref a0), some (.int v2), none]) rfl (ltb rfl) rfl (mF fc209 (by rfl))).trans ?_
  refine (G_iload rfl (mF fc209 (by rfl))).trans ?_
  refine (G_iconst (mF fc209 (by rfl))).trans ?_
  refine (G_ieq (mF fc209 (by rfl))).trans (gi ?_ ?_)
  ·
    exact Iff.rfl
  ·
    refine (G_iload rfl (mF fc209 (by rfl))).trans ?_
    refine (G_iconst (mF fc209 (by rfl))).trans ?_
    refine (G_ieq (mF fc209 (by rfl))).trans (gi ?_ ?_)
    ·
      exact Iff.rfl
    ·
      refine (G_iload rfl (mF fc209 (by rfl))).trans ?_
      refine (G_iconst (mF fc209 (by rfl))).trans ?_
      refine (G_ieq (mF fc209 (by rfl))).trans (gi ?_ ?_)
      ·
        exact Iff.rfl
      ·
        refine (G_aload rfl (mF fc209 (by rfl))).trans ?_
        refine (G_iconst (mF fc209 (by rfl))).trans ?_
        refine (G_aload rfl (mF fc209 (by rfl))).trans ?_
        refine (G_getI (c := 12) (k := 28) rfl rfl rfl (mF fc209 (by rfl))).trans (andR ?_)
        refine (G_Vv (q := 101059) (y := 197) (a := a0) (c := 12) rfl rfl rfl rfl (by decide) rfl (as := [.ref a0, .int (ii 0), .int (fI h2 a0 28)]) (rest := []) rfl rfl (mF fc209 (by rfl))).trans (andR (GoCv_congr fun h3 => ?_))
        exact G_return rfl (mF fc209 (by rfl))
theorem b209_37 {d : Nat} {h : mHeap} {Q : Option Value → mHeap → Prop} {a0 : Nat} {x1 : Int32} {l2 : Option Value} : Go d 209 37 [some (.ref a0), some (.int x1), l2] [] h Q ↔ okF h a0 12 28 0 ∧ oC h a0 = 12 ∧ GoCv d 204 [.ref a0, .int (fI h a0 28)] h (fun h1 => okF h1 a0 12 28 0 ∧ okP h1 a0 12 28 ∧ (if x1 = (ii 61) then (Go d 209 74 [some (.ref a0), some (.int x1), l2] [] (sF h1 a0 28 (.int ((fI h1 a0 28) + (ii 1)))) Q) else (oC (sF h1 a0 28 (.int ((fI h1 a0 28) + (ii 1)))) a0 = 12 ∧ GoCi d 198 [.ref a0] (sF h1 a0 28 (.int ((fI h1 a0 28) + (ii 1)))) (fun v2 h2 => (if ¬ v2 = (ii 61) then (Go d 209 74 [some (.ref a0), some (.int x1), l2] [] h2 Q) else (Go d 209 75 [some (.ref a0), some (.int x1), l2] [.int (ii 1)] h2 Q)))))) := by
  refine (G_aload rfl (mF fc209 (by rfl))).trans ?_
  refine (G_aload rfl (mF fc209 (by rfl))).trans ?_
  refine (G_getI (c := 12) (k := 28) rfl rfl rfl (mF fc209 (by rfl))).trans (andR ?_)
  refine (G_Vv (q := 104642) (y := 204) (a := a0) (c := 12) rfl rfl rfl rfl (by decide) rfl (as := [.ref a0, .int (fI h a0 28)]) (rest := []) rfl rfl (mF fc209 (by rfl))).trans (andR (GoCv_congr fun h1 => ?_))
  refine (G_aload rfl (mF fc209 (by rfl))).trans ?_
  refine (G_dupr (mF fc209 (by rfl))).trans ?_
  refine (G_getI (c := 12) (k := 28) rfl rfl rfl (mF fc209 (by rfl))).trans (andR ?_)
  refine (G_iconst (mF fc209 (by rfl))).trans ?_
  refine (G_iadd (mF fc209 (by rfl))).trans ?_
  refine (G_putT (c := 12) (k := 28) rfl rfl rfl (mF fc209 (by rfl))).trans (andR ?_)
  refine (G_iload rfl (mF fc209 (by rfl))).trans ?_
  refine (G_iconst (mF fc209 (by rfl))).trans ?_
  refine (G_ieq (mF fc209 (by rfl))).trans (gi ?_ ?_)
  ·
    exact Iff.rfl
  ·
    refine (G_aload rfl (mF fc209 (by rfl))).trans ?_
    refine (G_Vi (q := 101569) (y := 198) (a := a0) (c := 12) rfl rfl rfl rfl (by decide) rfl (as := [.ref a0]) (rest := []) rfl rfl (mF fc209 (by rfl))).trans (andR (GoCi_congr fun v2 h2 => ?_))
    refine (G_iconst (mF fc209 (by rfl))).trans ?_
    refine (G_ine (mF fc209 (by rfl))).trans (gi ?_ ?_)
    ·
      exact Iff.rfl
    ·
      refine (G_iconst (mF fc209 (by rfl))).trans ?_
      refine (G_goto (mF fc209 (by rfl))).trans ?_
      exact Iff.rfl
theorem b209_74 {d : Nat} {h : mHeap} {Q : Option Value → mHeap → Prop} {a0 : Nat} {x1 : Int32} {l2 : Option Value} : Go d 209 74 [some (.ref a0), some (.int x1), l2] [] h Q ↔ Go d 209 75 [some (.ref a0), some (.int x1), l2] [.int (ii 0)] h Q := by
  refine (G_iconst (mF fc209 (by rfl))).trans ?_
  exact Iff.rfl
theorem b209_75 {d : Nat} {h : mHeap} {Q : Option Value → mHeap → Prop} {a0 : Nat} {x1 : Int32} {l2 : Option Value} {s0 : Int32} : Go d 209 75 [some (.ref a0), some (.int x1), l2] [.int s0] h Q ↔ okF h a0 12 28 0 ∧ (if s0 = ii 0 then (Go d 209 90 [some (.ref a0), some (.int x1), some (.int s0)] [.int (ii 0), .int (fI h a0 28), .ref a0] h Q) else (Go d 209 90 [some (.ref a0), some (.int x1), some (.int s0)] [.int (ii 1), .int (fI h a0 28), .ref a0] h Q)) := by
  refine (G_istore (k := 2) (L' := [some (.ref a0), some (.int x1), some (.int s0)]) rfl (ltb rfl) rfl (mF fc209 (by rfl))).trans ?_
  refine (G_aload rfl (mF fc209 (by rfl))).trans ?_
  refine (G_dupr (mF fc209 (by rfl))).trans ?_
  refine (G_getI (c := 12) (k := 28) rfl rfl rfl (mF fc209 (by rfl))).trans (andR ?_)
  refine (G_iload rfl (mF fc209 (by rfl))).trans ?_
  refine (G_eq (mF fc209 (by rfl))).trans (gi ?_ ?_)
  ·
    refine (G_iconst (mF fc209 (by rfl))).trans ?_
    exact Iff.rfl
  ·
    refine (G_iconst (mF fc209 (by rfl))).trans ?_
    refine (G_goto (mF fc209 (by rfl))).trans ?_
    exact Iff.rfl
theorem b209_90 {d : Nat} {h : mHeap} {Q : Option Value → mHeap → Prop} {a0 : Nat} {x1 : Int32} {x2 : Int32} {r0 : Nat} {s1 : Int32} {s2 : Int32} : Go d 209 90 [some (.ref a0), some (.int x1), some (.int x2)] [.int s2, .int s1, .ref r0] h Q ↔ okP h r0 12 28 ∧ oC (sF h r0 28 (.int (s1 + s2))) a0 = 12 ∧ GoCv d 208 [.ref a0] (sF h r0 28 (.int (s1 + s2))) (fun h1 => (if ¬ x1 = (ii 61) then ((if ¬ x1 = (ii 60) then ((if x2 = ii 0 then (Go d 209 139 [some (.ref a0), some (.int x1), some (.int x2)] [.int (ii 8), .ref a0] h1 Q) else (Go d 209 139 [some (.ref a0), some (.int x1), some (.int x2)] [.int (ii 7), .ref a0] h1 Q))) else ((if x2 = ii 0 then (Go d 209 139 [some (.ref a0), some (.int x1), some (.int x2)] [.int (ii 4), .ref a0] h1 Q) else (Go d 209 139 [some (.ref a0), some (.int x1), some (.int x2)] [.int (ii 5), .ref a0] h1 Q))))) else (Go d 209 139 [some (.ref a0), some (.int x1), some (.int x2)] [.int (ii 6), .ref a0] h1 Q))) := by
  refine (G_iadd (mF fc209 (by rfl))).trans ?_
  refine (G_putT (c := 12) (k := 28) rfl rfl rfl (mF fc209 (by rfl))).trans (andR ?_)
  refine (G_aload rfl (mF fc209 (by rfl))).trans ?_
  refine (G_Vv (q := 106689) (y := 208) (a := a0) (c := 12) rfl rfl rfl rfl (by decide) rfl (as := [.ref a0]) (rest := []) rfl rfl (mF fc209 (by rfl))).trans (andR (GoCv_congr fun h1 => ?_))
  refine (G_aload rfl (mF fc209 (by rfl))).trans ?_
  refine (G_iload rfl (mF fc209 (by rfl))).trans ?_
  refine (G_iconst (mF fc209 (by rfl))).trans ?_
  refine (G_ine (mF fc209 (by rfl))).trans (gi ?_ ?_)
  ·
    refine (G_iload rfl (mF fc209 (by rfl))).trans ?_
    refine (G_iconst (mF fc209 (by rfl))).trans ?_
    refine (G_ine (mF fc209 (by rfl))).trans (gi ?_ ?_)
    ·
      refine (G_iload rfl (mF fc209 (by rfl))).trans ?_
      refine (G_eq (mF fc209 (by rfl))).trans (gi ?_ ?_)
      ·
        refine (G_iconst (mF fc209 (by rfl))).trans ?_
        exact Iff.rfl
      ·
        refine (G_iconst (mF fc209 (by rfl))).trans ?_
        refine (G_goto (mF fc209 (by rfl))).trans ?_
        exact Iff.rfl
    ·
      refine (G_iload rfl (mF fc209 (by rfl))).trans ?_
      refine (G_eq (mF fc209 (by rfl))).trans (gi ?_ ?_)
      ·
        refine (G_iconst (mF fc209 (by rfl))).trans ?_
        refine (G_goto (mF fc209 (by rfl))).trans ?_
        exact Iff.rfl
      ·
        refine (G_iconst (mF fc209 (by rfl))).trans ?_
        refine (G_goto (mF fc209 (by rfl))).trans ?_
        exact Iff.rfl
  ·
    refine (G_iconst (mF fc209 (by rfl))).trans ?_
    refine (G_goto (mF fc209 (by rfl))).trans ?_
    exact Iff.rfl
theorem b209_139 {d : Nat} {h : mHeap} {Q : Option Value → mHeap → Prop} {l0 : Option Value} {l1 : Option Value} {l2 : Option Value} {r0 : Nat} {s1 : Int32} : Go d 209 139 [l0, l1, l2] [.int s1, .ref r0] h Q ↔ oC h r0 = 12 ∧ GoCv d 203 [.ref r0, .int s1, .int (ii 0)] h (fun h1 => Q none h1) := by
  refine (G_iconst (mF fc209 (by rfl))).trans ?_
  refine (G_Vv (q := 104131) (y := 203) (a := r0) (c := 12) rfl rfl rfl rfl (by decide) rfl (as := [.ref r0, .int s1, .int (ii 0)]) (rest := []) rfl rfl (mF fc209 (by rfl))).trans (andR (GoCv_congr fun h1 => ?_))
  exact G_return rfl (mF fc209 (by rfl))
theorem e209 {d : Nat} {h : mHeap} {K : mHeap → Prop} {a0 : Nat} : GoCv (d + 1) 209 [.ref a0] h K ↔ Go d 209 0 [some (.ref a0), none, none] [] h (rV K) := GoCv_entry rfl rfl
set_option maxRecDepth 20000 in
theorem fc210 : mCodes[210]? = some mc210 := rfl
theorem b210_0 {d : Nat} {h : mHeap} {Q : Option Value → mHeap → Prop} {a0 : Nat} : Go d 210 0 [some (.ref a0)] [] h Q ↔ okF h a0 12 36 0 ∧ (if ¬ (fI h a0 36) = ii 0 then (okF h a0 12 45 2 ∧ okF h a0 12 36 0 ∧ okA h (fR h a0 45) .int ((fI h a0 36) - (ii 1)) ∧ Q (some (.int (eI h (fR h a0 45) ((fI h a0 36) - (ii 1))))) h) else (Q (some (.int (ii (-1)))) h)) := by
  refine (G_aload rfl (mF fc210 (by rfl))).trans ?_
  refine (G_getI (c := 12) (k := 36) rfl rfl rfl (mF fc210 (by rfl))).trans (andR ?_)
  refine (G_ne (mF fc210 (by rfl))).trans (gi ?_ ?_)
  ·
    refine (G_aload rfl (mF fc210 (by rfl))).trans ?_
    refine (G_getR (c := 12) (k := 45) rfl rfl rfl (mF fc210 (by rfl))).trans (andR ?_)
    refine (G_aload rfl (mF fc210 (by rfl))).trans ?_
    refine (G_getI (c := 12) (k := 36) rfl rfl rfl (mF fc210 (by rfl))).trans (andR ?_)
    refine (G_iconst (mF fc210 (by rfl))).trans ?_
    refine (G_isub (mF fc210 (by rfl))).trans ?_
    refine (G_iaload (mF fc210 (by rfl))).trans (andR ?_)
    exact G_ireturnI rfl (mF fc210 (by rfl))
  ·
    refine (G_iconst (mF fc210 (by rfl))).trans ?_
    refine (G_goto (mF fc210 (by rfl))).trans ?_
    exact G_ireturnI rfl (mF fc210 (by rfl))
theorem e210 {d : Nat} {h : mHeap} {K : Int32 → mHeap → Prop} {a0 : Nat} : GoCi (d + 1) 210 [.ref a0] h K ↔ Go d 210 0 [some (.ref a0)] [] h (rI K) := GoCi_entry rfl rfl
set_option maxRecDepth 20000 in
theorem fc211 : mCodes[211]? = some mc211 := rfl
theorem b211_0 {d : Nat} {h : mHeap} {Q : Option Value → mHeap → Prop} {a0 : Nat} {x1 : Int32} : Go d 211 0 [some (.ref a0), some (.int x1)] [] h Q ↔ (if x1 = (ii 9) then (Go d 211 12 [some (.ref a0), some (.int x1)] [] h Q) else ((if ¬ x1 = (ii 12) then (Go d 211 40 [some (.ref a0), some (.int x1)] [] h Q) else (Go d 211 12 [some (.ref a0), some (.int x1)] [] h Q)))) := by
  refine (G_iload rfl (mF fc211 (by rfl))).trans ?_
  refine (G_iconst (mF fc211 (by rfl))).trans ?_
  refine (G_ieq (mF fc211 (by rfl))).trans (gi ?_ ?_)
  ·
    exact Iff.rfl
  ·
    refine (G_iload rfl (mF fc211 (by rfl))).trans ?_
    refine (G_iconst (mF fc211 (by rfl))).trans ?_
    refine (G_ine (mF fc211 (by rfl))).trans (gi ?_ ?_)
    ·
      exact Iff.rfl
    ·
      exact Iff.rfl
theorem b211_12 {d : Nat} {h : mHeap} {Q : Option Value → mHeap → Prop} {a0 : Nat} {x1 : Int32} : Go d 211 12 [some (.ref a0), some (.int x1)] [] h Q ↔ okF h a0 12 34 0 ∧ (if ¬ (fI h a0 34) = (ii 10) then (Go d 211 30 [some (.ref a0), some (.int x1)] [] h Q) else (okF h a0 12 28 0 ∧ oC h a0 = 12 ∧ GoCv d 197 [.ref a0, .int (ii 2), .int (fI h a0 28)] h (fun h1 => Go d 211 30 [some (.ref a0), some (.int x1)] [] h1 Q))) := by
  refine (G_aload rfl (mF fc211 (by rfl))).trans ?_
  refine (G_getI (c := 12) (k := 34) rfl rfl rfl (mF fc211 (by rfl))).trans (andR ?_)
  refine (G_iconst (mF fc211 (by rfl))).trans ?_
  refine (G_ine (mF fc211 (by rfl))).trans (gi ?_ ?_)
  ·
    exact Iff.rfl
  ·
    refine (G_aload rfl (mF fc211 (by rfl))).trans ?_
    refine (G_iconst (mF fc211 (by rfl))).trans ?_
    refine (G_aload rfl (mF fc211 (by rfl))).trans ?_
    refine (G_getI (c := 12) (k := 28) rfl rfl rfl (mF fc211 (by rfl))).trans (andR ?_)
    refine (G_Vv (q := 101059) (y := 197) (a := a0) (c := 12) rfl rfl rfl rfl (by decide) rfl (as := [.ref a0, .int (ii 2), .int (fI h a0 28)]) (rest := []) rfl rfl (mF fc211 (by rfl))).trans (andR (GoCv_congr fun h1 => ?_))
    exact Iff.rfl
theorem b211_30 {d : Nat} {h : mHeap} {Q : Option Value → mHeap → Prop} {a0 : Nat} {x1 : Int32} : Go d 211 30 [some (.ref a0), some (.int x1)] [] h Q ↔ okF h a0 12 34 0 ∧ okP h a0 12 34 ∧ Go d 211 40 [some (.ref a0), some (.int x1)] [] (sF h a0 34 (.int ((fI h a0 34) + (ii 1)))) Q := by
  refine (G_aload rfl (mF fc211 (by rfl))).trans ?_
  refine (G_dupr (mF fc211 (by rfl))).trans ?_
  refine (G_getI (c := 12) (k := 34) rfl rfl rfl (mF fc211 (by rfl))).trans (andR ?_)
  refine (G_iconst (mF fc211 (by rfl))).trans ?_
  refine (G_iadd (mF fc211 (by rfl))).trans ?_
  refine (G_putT (c := 12) (k := 34) rfl rfl rfl (mF fc211 (by rfl))).trans (andR ?_)
  exact Iff.rfl
theorem b211_40 {d : Nat} {h : mHeap} {Q : Option Value → mHeap → Prop} {a0 : Nat} {x1 : Int32} : Go d 211 40 [some (.ref a0), some (.int x1)] [] h Q ↔ okF h a0 12 45 2 ∧ okF h a0 12 36 0 ∧ (64 ≤ (fR h a0 45) ∧ okA h (fR h a0 45) .int (fI h a0 36)) ∧ okF (sI h (fR h a0 45) (fI h a0 36) x1) a0 12 36 0 ∧ okP (sI h (fR h a0 45) (fI h a0 36) x1) a0 12 36 ∧ Q none (sF (sI h (fR h a0 45) (fI h a0 36) x1) a0 36 (.int ((fI (sI h (fR h a0 45) (fI h a0 36) x1) a0 36) + (ii 1)))) := by
  refine (G_aload rfl (mF fc211 (by rfl))).trans ?_
  refine (G_getR (c := 12) (k := 45) rfl rfl rfl (mF fc211 (by rfl))).trans (andR ?_)
  refine (G_aload rfl (mF fc211 (by rfl))).trans ?_
  refine (G_getI (c := 12) (k := 36) rfl rfl rfl (mF fc211 (by rfl))).trans (andR ?_)
  refine (G_iload rfl (mF fc211 (by rfl))).trans ?_
  refine (G_iastore (mF fc211 (by rfl))).trans (andR ?_)
  refine (G_aload rfl (mF fc211 (by rfl))).trans ?_
  refine (G_dupr (mF fc211 (by rfl))).trans ?_
  refine (G_getI (c := 12) (k := 36) rfl rfl rfl (mF fc211 (by rfl))).trans (andR ?_)
  refine (G_iconst (mF fc211 (by rfl))).trans ?_
  refine (G_iadd (mF fc211 (by rfl))).trans ?_
  refine (G_putT (c := 12) (k := 36) rfl rfl rfl (mF fc211 (by rfl))).trans (andR ?_)
  exact G_return rfl (mF fc211 (by rfl))
theorem e211 {d : Nat} {h : mHeap} {K : mHeap → Prop} {a0 : Nat} {x1 : Int32} : GoCv (d + 1) 211 [.ref a0, .int x1] h K ↔ Go d 211 0 [some (.ref a0), some (.int x1)] [] h (rV K) := GoCv_entry rfl rfl
set_option maxRecDepth 20000 in
theorem fc212 : mCodes[212]? = some mc212 := rfl
theorem b212_0 {d : Nat} {h : mHeap} {Q : Option Value → mHeap → Prop} {a0 : Nat} {x1 : Int32} : Go d 212 0 [some (.ref a0), some (.int x1)] [] h Q ↔ oC h a0 = 12 ∧ GoCi d 210 [.ref a0] h (fun v1 h1 => (if ¬ v1 = x1 then (Q none h1) else (okF h1 a0 12 29 0 ∧ (if ¬ (fI h1 a0 29) = ii 0 then (Q none h1) else (oC h1 a0 = 12 ∧ GoCv d 203 [.ref a0, .int x1, .int (ii 0)] h1 (fun h2 => okF h2 a0 12 36 0 ∧ okP h2 a0 12 36 ∧ okF (sF h2 a0 36 (.int ((fI h2 a0 36) - (ii 1)))) a0 12 34 0 ∧ (if ¬ x1 = (ii 9) then (Go d 212 47 [some (.ref a0), some (.int x1)] [.int (ii 0), .int (fI (sF h2 a0 36 (.int ((fI h2 a0 36) - (ii 1)))) a0 34), .ref a0] (sF h2 a0 36 (.int ((fI h2 a0 36) - (ii 1)))) Q) else (Go d 212 47 [some (.ref a0), some (.int x1)] [.int (ii 1), .int (fI (sF h2 a0 36 (.int ((fI h2 a0 36) - (ii 1)))) a0 34), .ref a0] (sF h2 a0 36 (.int ((fI h2 a0 36) - (ii 1)))) Q)))))))) := by
  refine (G_aload rfl (mF fc212 (by rfl))).trans ?_
  refine (G_Vi (q := 107713) (y := 210) (a := a0) (c := 12) rfl rfl rfl rfl (by decide) rfl (as := [.ref a0]) (rest := []) rfl rfl (mF fc212 (by rfl))).trans (andR (GoCi_congr fun v1 h1 => ?_))
  refine (G_iload rfl (mF fc212 (by rfl))).trans ?_
  refine (G_ine (mF fc212 (by rfl))).trans (gi ?_ ?_)
  ·
    exact G_return rfl (mF fc212 (by rfl))
  ·
    refine (G_aload rfl (mF fc212 (by rfl))).trans ?_
    refine (G_getI (c := 12) (k := 29) rfl rfl rfl (mF fc212 (by rfl))).trans (andR ?_)
    refine (G_ne (mF fc212 (by rfl))).trans (gi ?_ ?_)
    ·
      exact G_return rfl (mF fc212 (by rfl))
    ·
      refine (G_aload rfl (mF fc212 (by rfl))).trans ?_
      refine (G_iload rfl (mF fc212 (by rfl))).trans ?_
      refine (G_iconst (mF fc212 (by rfl))).trans ?_
      refine (G_Vv (q := 104131) (y := 203) (a := a0) (c := 12) rfl rfl rfl rfl (by decide) rfl (as := [.ref a0, .int x1, .int (ii 0)]) (rest := []) rfl rfl (mF fc212 (by rfl))).trans (andR (GoCv_congr fun h2 => ?_))
      refine (G_aload rfl (mF fc212 (by rfl))).trans ?_
      refine (G_dupr (mF fc212 (by rfl))).trans ?_
      refine (G_getI (c := 12) (k := 36) rfl rfl rfl (mF fc212 (by rfl))).trans (andR ?_)
      refine (G_iconst (mF fc212 (by rfl))).trans ?_
      refine (G_isub (mF fc212 (by rfl))).trans ?_
      refine (G_putT (c := 12) (k := 36) rfl rfl rfl (mF fc212 (by rfl))).trans (andR ?_)
      refine (G_aload rfl (mF fc212 (by rfl))).trans ?_
      refine (G_dupr (mF fc212 (by rfl))).trans ?_
      refine (G_getI (c := 12) (k := 34) rfl rfl rfl (mF fc212 (by rfl))).trans (andR ?_)
      refine (G_iload rfl (mF fc212 (by rfl))).trans ?_
      refine (G_iconst (mF fc212 (by rfl))).trans ?_
      refine (G_ine (mF fc212 (by rfl))).trans (gi ?_ ?_)
      ·
        refine (G_iconst (mF fc212 (by rfl))).trans ?_
        exact Iff.rfl
      ·
        refine (G_iconst (mF fc212 (by rfl))).trans ?_
        refine (G_goto (mF fc212 (by rfl))).trans ?_
        exact Iff.rfl
theorem b212_47 {d : Nat} {h : mHeap} {Q : Option Value → mHeap → Prop} {a0 : Nat} {x1 : Int32} {r0 : Nat} {s1 : Int32} {s2 : Int32} : Go d 212 47 [some (.ref a0), some (.int x1)] [.int s2, .int s1, .ref r0] h Q ↔ okP h r0 12 34 ∧ Go d 212 0 [some (.ref a0), some (.int x1)] [] (sF h r0 34 (.int (s1 - s2))) Q := by
  refine (G_isub (mF fc212 (by rfl))).trans ?_
  refine (G_putT (c := 12) (k := 34) rfl rfl rfl (mF fc212 (by rfl))).trans (andR ?_)
  refine (G_goto (mF fc212 (by rfl))).trans ?_
  exact Iff.rfl
theorem e212 {d : Nat} {h : mHeap} {K : mHeap → Prop} {a0 : Nat} {x1 : Int32} : GoCv (d + 1) 212 [.ref a0, .int x1] h K ↔ Go d 212 0 [some (.ref a0), some (.int x1)] [] h (rV K) := GoCv_entry rfl rfl
set_option maxRecDepth 20000 in
theorem fc213 : mCodes[213]? = some mc213 := rfl
theorem b213_0 {d : Nat} {h : mHeap} {Q : Option Value → mHeap → Prop} {a0 : Nat} : Go d 213 0 [some (.ref a0)] [] h Q ↔ oC h a0 = 12 ∧ GoCv d 199 [.ref a0] h (fun h1 => oC h1 a0 = 12 ∧ GoCi d 201 [.ref a0, .ref 8] h1 (fun v2 h2 => (if v2 = ii 0 then (oC h2 a0 = 12 ∧ GoCi d 198 [.ref a0] h2 (fun v3 h3 => (if ¬ v3 = (ii 91) then (oC h3 a0 = 12 ∧ GoCv d 209 [.ref a0] h3 (fun h4 => ((ii 1) = ii 0 ∨ (ii 1) = ii 1) ∧ Q (some (.int (ii 1))) h4)) else (oC h3 a0 = 12 ∧ GoCv d 211 [.ref a0, .int (ii 12)] h3 (fun h5 => okF h5 a0 12 28 0 ∧ okP h5 a0 12 28 ∧ ((ii 0) = ii 0 ∨ (ii 0) = ii 1) ∧ Q (some (.int (ii 0))) (sF h5 a0 28 (.int ((fI h5 a0 28) + (ii 1))))))))) else (oC h2 a0 = 12 ∧ GoCv d 211 [.ref a0, .int (ii 9)] h2 (fun h6 => okF h6 a0 12 28 0 ∧ okP h6 a0 12 28 ∧ ((ii 0) = ii 0 ∨ (ii 0) = ii 1) ∧ Q (some (.int (ii 0))) (sF h6 a0 28 (.int ((fI h6 a0 28) + (ii 3))))))))) := by
  refine (G_aload rfl (mF fc213 (by rfl))).trans ?_
  refine (G_Vv (q := 102081) (y := 199) (a := a0) (c := 12) rfl rfl rfl rfl (by decide) rfl (as := [.ref a0]) (rest := []) rfl rfl (mF fc213 (by rfl))).trans (andR (GoCv_congr fun h1 => ?_))
  refine (G_aload rfl (mF fc213 (by rfl))).trans ?_
  refine (G_jsr (mF fc213 (by rfl))).trans ?_
  refine (G_Vi (q := 103106) (y := 201) (a := a0) (c := 12) rfl rfl rfl rfl (by decide) rfl (as := [.ref a0, .ref 8]) (rest := []) rfl rfl (mF fc213 (by rfl))).trans (andR (GoCi_congr fun v2 h2 => ?_))
  refine (G_eq (mF fc213 (by rfl))).trans (gi ?_ ?_)
  ·
    refine (G_aload rfl (mF fc213 (by rfl))).trans ?_
    refine (G_Vi (q := 101569) (y := 198) (a := a0) (c := 12) rfl rfl rfl rfl (by decide) rfl (as := [.ref a0]) (rest := []) rfl rfl (mF fc213 (by rfl))).trans (andR (GoCi_congr fun v3 h3 => ?_))
    refine (G_iconst (mF fc213 (by rfl))).trans ?_
    refine (G_ine (mF fc213 (by rfl))).trans (gi ?_ ?_)
    ·
      refine (G_aload rfl (mF fc213 (by rfl))).trans ?_
      refine (G_Vv (q := 107201) (y := 209) (a := a0) (c := 12) rfl rfl rfl rfl (by decide) rfl (as := [.ref a0]) (rest := []) rfl rfl (mF fc213 (by rfl))).trans (andR (GoCv_congr fun h4 => ?_))
      refine (G_iconst (mF fc213 (by rfl))).trans ?_
      exact G_ireturnZ rfl (mF fc213 (by rfl))
    ·
      refine (G_aload rfl (mF fc213 (by rfl))).trans ?_
      refine (G_iconst (mF fc213 (by rfl))).trans ?_
      refine (G_Vv (q := 108226) (y := 211) (a := a0) (c := 12) rfl rfl rfl rfl (by decide) rfl (as := [.ref a0, .int (ii 12)]) (rest := []) rfl rfl (mF fc213 (by rfl))).trans (andR (GoCv_congr fun h5 => ?_))
      refine (G_aload rfl (mF fc213 (by rfl))).trans ?_
      refine (G_dupr (mF fc213 (by rfl))).trans ?_
      refine (G_getI (c := 12) (k := 28) rfl rfl rfl (mF fc213 (by rfl))).trans (andR ?_)
      refine (G_iconst (mF fc213 (by rfl))).trans ?_
      refine (G_iadd (mF fc213 (by rfl))).trans ?_
      refine (G_putT (c := 12) (k := 28) rfl rfl rfl (mF fc213 (by rfl))).trans (andR ?_)
      refine (G_iconst (mF fc213 (by rfl))).trans ?_
      exact G_ireturnZ rfl (mF fc213 (by rfl))
  ·
    refine (G_aload rfl (mF fc213 (by rfl))).trans ?_
    refine (G_iconst (mF fc213 (by rfl))).trans ?_
    refine (G_Vv (q := 108226) (y := 211) (a := a0) (c := 12) rfl rfl rfl rfl (by decide) rfl (as := [.ref a0, .int (ii 9)]) (rest := []) rfl rfl (mF fc213 (by rfl))).trans (andR (GoCv_congr fun h6 => ?_))
    refine (G_aload rfl (mF fc213 (by rfl))).trans ?_
    refine (G_dupr (mF fc213 (by rfl))).trans ?_
    refine (G_getI (c := 12) (k := 28) rfl rfl rfl (mF fc213 (by rfl))).trans (andR ?_)
    refine (G_iconst (mF fc213 (by rfl))).trans ?_
    refine (G_iadd (mF fc213 (by rfl))).trans ?_
    refine (G_putT (c := 12) (k := 28) rfl rfl rfl (mF fc213 (by rfl))).trans (andR ?_)
    refine (G_iconst (mF fc213 (by rfl))).trans ?_
    exact G_ireturnZ rfl (mF fc213 (by rfl))
theorem e213 {d : Nat} {h : mHeap} {K : Int32 → mHeap → Prop} {a0 : Nat} : GoCi (d + 1) 213 [.ref a0] h K ↔ Go d 213 0 [some (.ref a0)] [] h (rI K) := GoCi_entry rfl rfl
set_option maxRecDepth 20000 in
theorem fc214 : mCodes[214]? = some mc214 := rfl
theorem b214_0 {d : Nat} {h : mHeap} {Q : Option Value → mHeap → Prop} {a0 : Nat} : Go d 214 0 [some (.ref a0), none, none, none, none] [] h Q ↔ okP h a0 12 36 ∧ Go d 214 9 [some (.ref a0), some (.int (ii 1)), some (.int (ii 1)), none, none] [] (sF h a0 36 (.int (ii 0))) Q := by
  refine (G_aload rfl (mF fc214 (by rfl))).trans ?_
  refine (G_iconst (mF fc214 (by rfl))).trans ?_
  refine (G_putT (c := 12) (k := 36) rfl rfl rfl (mF fc214 (by rfl))).trans (andR ?_)
  refine (G_iconst (mF fc214 (by rfl))).trans ?_
  refine (G_istore (k := 1) (L' := [some (.ref a0), some (.int (ii 1)), none, none, none]) rfl (ltb rfl) rfl (mF fc214 (by rfl))).trans ?_
  refine (G_iconst (mF fc214 (by rfl))).trans ?_
  refine (G_istore (k := 2) (L' := [some (.ref a0), some (.int (ii 1)), some (.int (ii 1)), none, none]) rfl (ltb rfl) rfl (mF fc214 (by rfl))).trans ?_
  exact Iff.rfl
theorem b214_9 {d : Nat} {h : mHeap} {Q : Option Value → mHeap → Prop} {a0 : Nat} {x1 : Int32} {x2 : Int32} {l3 : Option Value} {l4 : Option Value} : Go d 214 9 [some (.ref a0), some (.int x1), some (.int x2), l3, l4] [] h Q ↔ (if x2 = ii 0 then (Q none h) else (okF h a0 12 29 0 ∧ (if ¬ (fI h a0 29) = ii 0 then (Q none h) else ((if x1 = ii 0 then (oC h a0 = 12 ∧ GoCv d 212 [.ref a0, .int (ii 9)] h (fun h1 => oC h1 a0 = 12 ∧ GoCv d 199 [.ref a0] h1 (fun h2 => oC h2 a0 = 12 ∧ GoCi d 201 [.ref a0, .ref 17] h2 (fun v3 h3 => oC h3 a0 = 12 ∧ GoCi d 201 [.ref a0, .ref 18] h3 (fun v4 h4 => oC h4 a0 = 12 ∧ GoCv d 212 [.ref a0, .int (ii 10)] h4 (fun h5 => (if ¬ v3 = ii 0 then (Go d 214 82 [some (.ref a0), some (.int x1), some (.int x2), some (.int v3), some (.int v4)] [] h5 Q) else ((if v4 = ii 0 then (oC h5 a0 = 12 ∧ GoCv d 212 [.ref a0, .int (ii 11)] h5 (fun h6 => oC h6 a0 = 12 ∧ GoCi d 210 [.ref a0] h6 (fun v7 h7 => (if ¬ v7 = (ii 12) then (Go d 214 199 [some (.ref a0), some (.int x1), some (.int (ii 0)), some (.int v3), some (.int v4)] [] h7 Q) else (oC h7 a0 = 12 ∧ GoCi d 198 [.ref a0] h7 (fun v8 h8 => (if v8 = (ii 93) then (Go d 214 164 [some (.ref a0), some (.int x1), some (.int x2), some (.int v3), some (.int v4)] [] h8 Q) else (okF h8 a0 12 28 0 ∧ oC h8 a0 = 12 ∧ GoCv d 197 [.ref a0, .int (ii 0), .int (fI h8 a0 28)] h8 (fun h9 => Go d 214 164 [some (.ref a0), some (.int x1), some (.int x2), some (.int v3), some (.int v4)] [] h9 Q))))))))) else (Go d 214 82 [some (.ref a0), some (.int x1), some (.int x2), some (.int v3), some (.int v4)] [] h5 Q)))))))))) else (oC h a0 = 12 ∧ GoCi d 213 [.ref a0] h (fun v10 h10 => (if ¬ v10 = ii 0 then (Go d 214 36 [some (.ref a0), some (.int x1), some (.int x2), l3, l4] [.int (ii 0)] h10 Q) else (Go d 214 36 [some (.ref a0), some (.int x1), some (.int x2), l3, l4] [.int (ii 1)] h10 Q))))))))) := by
  refine (G_iload rfl (mF fc214 (by rfl))).trans ?_
  refine (G_eq (mF fc214 (by rfl))).trans (gi ?_ ?_)
  ·
    exact G_return rfl (mF fc214 (by rfl))
  ·
    refine (G_aload rfl (mF fc214 (by rfl))).trans ?_
    refine (G_getI (c := 12) (k := 29) rfl rfl rfl (mF fc214 (by rfl))).trans (andR ?_)
    refine (G_ne (mF fc214 (by rfl))).trans (gi ?_ ?_)
    ·
      exact G_return rfl (mF fc214 (by rfl))
    ·
      refine (G_iload rfl (mF fc214 (by rfl))).trans ?_
      refine (G_eq (mF fc214 (by rfl))).trans (gi ?_ ?_)
      ·
        refine (G_aload rfl (mF fc214 (by rfl))).trans ?_
        refine (G_iconst (mF fc214 (by rfl))).trans ?_
        refine (G_Vv (q := 108738) (y := 212) (a := a0) (c := 12) rfl rfl rfl rfl (by decide) rfl (as := [.ref a0, .int (ii 9)]) (rest := []) rfl rfl (mF fc214 (by rfl))).trans (andR (GoCv_congr fun h1 => ?_))
        refine (G_aload rfl (mF fc214 (by rfl))).trans ?_
        refine (G_Vv (q := 102081) (y := 199) (a := a0) (c := 12) rfl rfl rfl rfl (by decide) rfl (as := [.ref a0]) (rest := []) rfl rfl (mF fc214 (by rfl))).trans (andR (GoCv_congr fun h2 => ?_))
        refine (G_aload rfl (mF fc214 (by rfl))).trans ?_
        refine (G_jsr (mF fc214 (by rfl))).trans ?_
        refine (G_Vi (q := 103106) (y := 201) (a := a0) (c := 12) rfl rfl rfl rfl (by decide) rfl (as := [.ref a0, .ref 17]) (rest := []) rfl rfl (mF fc214 (by rfl))).trans (andR (GoCi_congr fun v3 h3 => ?_))
        refine (G_istore (k := 3) (L' := [some (.ref a0), some (.int x1), some (.int x2), some (.int v3), l4]) rfl (ltb rfl) rfl (mF fc214 (by rfl))).trans ?_
        refine (G_aload rfl (mF fc214 (by rfl))).trans ?_
        refine (G_jsr (mF fc214 (by rfl))).trans ?_
        refine (G_Vi (q := 103106) (y := 201) (a := a0) (c := 12) rfl rfl rfl rfl (by decide) rfl (as := [.ref a0, .ref 18]) (rest := []) rfl rfl (mF fc214 (by rfl))).trans (andR (GoCi_congr fun v4 h4 => ?_))
        refine (G_istore (k := 4) (L' := [some (.ref a0), some (.int x1), some (.int x2), some (.int v3), some (.int v4)]) rfl (ltb rfl) rfl (mF fc214 (by rfl))).trans ?_
        refine (G_aload rfl (mF fc214 (by rfl))).trans ?_
        refine (G_iconst (mF fc214 (by rfl))).trans ?_
        refine (G_Vv (q := 108738) (y := 212) (a := a0) (c := 12) rfl rfl rfl rfl (by decide) rfl (as := [.ref a0, .int (ii 10)]) (rest := []) rfl rfl (mF fc214 (by rfl))).trans (andR (GoCv_congr fun h5 => ?_))
        refine (G_iload rfl (mF fc214 (by rfl))).trans ?_
        refine (G_ne (mF fc214 (by rfl))).trans (gi ?_ ?_)
        ·
          exact Iff.rfl
        ·
          refine (G_iload rfl (mF fc214 (by rfl))).trans ?_
          refine (G_eq (mF fc214 (by rfl))).trans (gi ?_ ?_)
          ·
            refine (G_aload rfl (mF fc214 (by rfl))).trans ?_
            refine (G_iconst (mF fc214 (by rfl))).trans ?_
            refine (G_Vv (q := 108738) (y := 212) (a := a0) (c := 12) rfl rfl rfl rfl (by decide) rfl (as := [.ref a0, .int (ii 11)]) (rest := []) rfl rfl (mF fc214 (by rfl))).trans (andR (GoCv_congr fun h6 => ?_))
            refine (G_aload rfl (mF fc214 (by rfl))).trans ?_
            refine (G_Vi (q := 107713) (y := 210) (a := a0) (c := 12) rfl rfl rfl rfl (by decide) rfl (as := [.ref a0]) (rest := []) rfl rfl (mF fc214 (by rfl))).trans (andR (GoCi_congr fun v7 h7 => ?_))
            refine (G_iconst (mF fc214 (by rfl))).trans ?_
            refine (G_ine (mF fc214 (by rfl))).trans (gi ?_ ?_)
            ·
              refine (G_iconst (mF fc214 (by rfl))).trans ?_
              refine (G_istore (k := 2) (L' := [some (.ref a0), some (.int x1), some (.int (ii 0)), some (.int v3), some (.int v4)]) rfl (ltb rfl) rfl (mF fc214 (by rfl))).trans ?_
              exact Iff.rfl
            ·
              refine (G_aload rfl (mF fc214 (by rfl))).trans ?_
              refine (G_Vi (q := 101569) (y := 198) (a := a0) (c := 12) rfl rfl rfl rfl (by decide) rfl (as := [.ref a0]) (rest := []) rfl rfl (mF fc214 (by rfl))).trans (andR (GoCi_congr fun v8 h8 => ?_))
              refine (G_iconst (mF fc214 (by rfl))).trans ?_
              refine (G_ieq (mF fc214 (by rfl))).trans (gi ?_ ?_)
              ·
                exact Iff.rfl
              ·
                refine (G_aload rfl (mF fc214 (by rfl))).trans ?_
                refine (G_iconst (mF fc214 (by rfl))).trans ?_
                refine (G_aload rfl (mF fc214 (by rfl))).trans ?_
                refine (G_getI (c := 12) (k := 28) rfl rfl rfl (mF fc214 (by rfl))).trans (andR ?_)
                refine (G_Vv (q := 101059) (y := 197) (a := a0) (c := 12) rfl rfl rfl rfl (by decide) rfl (as := [.ref a0, .int (ii 0), .int (fI h8 a0 28)]) (rest := []) rfl rfl (mF fc214 (by rfl))).trans (andR (GoCv_congr fun h9 => ?_))
                exact Iff.rfl
          ·
            exact Iff.rfl
      ·
        refine (G_aload rfl (mF fc214 (by rfl))).trans ?_
        refine (G_Vi (q := 109249) (y := 213) (a := a0) (c := 12) rfl rfl rfl rfl (by decide) rfl (as := [.ref a0]) (rest := []) rfl rfl (mF fc214 (by rfl))).trans (andR (GoCi_congr fun v10 h10 => ?_))
        refine (G_ne (mF fc214 (by rfl))).trans (gi ?_ ?_)
        ·
          refine (G_iconst (mF fc214 (by rfl))).trans ?_
          exact Iff.rfl
        ·
          refine (G_iconst (mF fc214 (by rfl))).trans ?_
          refine (G_goto (mF fc214 (by rfl))).trans ?_
          exact Iff.rfl
theorem b214_36 {d : Nat} {h : mHeap} {Q : Option Value → mHeap → Prop} {a0 : Nat} {l1 : Option Value} {x2 : Int32} {l3 : Option Value} {l4 : Option Value} {s0 : Int32} : Go d 214 36 [some (.ref a0), l1, some (.int x2), l3, l4] [.int s0] h Q ↔ Go d 214 9 [some (.ref a0), some (.int s0), some (.int x2), l3, l4] [] h Q := by
  refine (G_istore (k := 1) (L' := [some (.ref a0), some (.int s0), some (.int x2), l3, l4]) rfl (ltb rfl) rfl (mF fc214 (by rfl))).trans ?_
  refine (G_goto (mF fc214 (by rfl))).trans ?_
  exact Iff.rfl
theorem b214_82 {d : Nat} {h : mHeap} {Q : Option Value → mHeap → Prop} {a0 : Nat} {l1 : Option Value} {x2 : Int32} {x3 : Int32} {x4 : Int32} : Go d 214 82 [some (.ref a0), l1, some (.int x2), some (.int x3), some (.int x4)] [] h Q ↔ (if x4 = ii 0 then (Go d 214 93 [some (.ref a0), l1, some (.int x2), some (.int x3), some (.int x4)] [] h Q) else (oC h a0 = 12 ∧ GoCv d 212 [.ref a0, .int (ii 11)] h (fun h1 => Go d 214 93 [some (.ref a0), l1, some (.int x2), some (.int x3), some (.int x4)] [] h1 Q))) := by
  refine (G_iload rfl (mF fc214 (by rfl))).trans ?_
  refine (G_eq (mF fc214 (by rfl))).trans (gi ?_ ?_)
  ·
    exact Iff.rfl
  ·
    refine (G_aload rfl (mF fc214 (by rfl))).trans ?_
    refine (G_iconst (mF fc214 (by rfl))).trans ?_
    refine (G_Vv (q := 108738) (y := 212) (a := a0) (c := 12) rfl rfl rfl rfl (by decide) rfl (as := [.ref a0, .int (ii 11)]) (rest := []) rfl rfl (mF fc214 (by rfl))).trans (andR (GoCv_congr fun h1 => ?_))
    exact Iff.rfl
theorem b214_93 {d : Nat} {h : mHeap} {Q : Option Value → mHeap → Prop} {a0 : Nat} {l1 : Option Value} {x2 : Int32} {x3 : Int32} {l4 : Option Value} : Go d 214 93 [some (.ref a0), l1, some (.int x2), some (.int x3), l4] [] h Q ↔ (if x3 = ii 0 then (Go d 214 105 [some (.ref a0), l1, some (.int x2), some (.int x3), l4] [.int (ii 11), .ref a0] h Q) else (Go d 214 105 [some (.ref a0), l1, some (.int x2), some (.int x3), l4] [.int (ii 10), .ref a0] h Q)) := by
  refine (G_aload rfl (mF fc214 (by rfl))).trans ?_
  refine (G_iload rfl (mF fc214 (by rfl))).trans ?_
  refine (G_eq (mF fc214 (by rfl))).trans (gi ?_ ?_)
  ·
    refine (G_iconst (mF fc214 (by rfl))).trans ?_
    exact Iff.rfl
  ·
    refine (G_iconst (mF fc214 (by rfl))).trans ?_
    refine (G_goto (mF fc214 (by rfl))).trans ?_
    exact Iff.rfl
theorem b214_105 {d : Nat} {h : mHeap} {Q : Option Value → mHeap → Prop} {a0 : Nat} {l1 : Option Value} {x2 : Int32} {x3 : Int32} {l4 : Option Value} {r0 : Nat} {s1 : Int32} : Go d 214 105 [some (.ref a0), l1, some (.int x2), some (.int x3), l4] [.int s1, .ref r0] h Q ↔ oC h r0 = 12 ∧ GoCv d 211 [.ref r0, .int s1] h (fun h1 => okF h1 a0 12 28 0 ∧ (if x3 = ii 0 then (Go d 214 122 [some (.ref a0), l1, some (.int x2), some (.int x3), l4] [.int (ii 2), .int (fI h1 a0 28), .ref a0] h1 Q) else (Go d 214 122 [some (.ref a0), l1, some (.int x2), some (.int x3), l4] [.int (ii 3), .int (fI h1 a0 28), .ref a0] h1 Q))) := by
  refine (G_Vv (q := 108226) (y := 211) (a := r0) (c := 12) rfl rfl rfl rfl (by decide) rfl (as := [.ref r0, .int s1]) (rest := []) rfl rfl (mF fc214 (by rfl))).trans (andR (GoCv_congr fun h1 => ?_))
  refine (G_aload rfl (mF fc214 (by rfl))).trans ?_
  refine (G_dupr (mF fc214 (by rfl))).trans ?_
  refine (G_getI (c := 12) (k := 28) rfl rfl rfl (mF fc214 (by rfl))).trans (andR ?_)
  refine (G_iload rfl (mF fc214 (by rfl))).trans ?_
  refine (G_eq (mF fc214 (by rfl))).trans (gi ?_ ?_)
  ·
    refine (G_iconst (mF fc214 (by rfl))).trans ?_
    exact Iff.rfl
  ·
    refine (G_iconst (mF fc214 (by rfl))).trans ?_
    refine (G_goto (mF fc214 (by rfl))).trans ?_
    exact Iff.rfl
theorem b214_122 {d : Nat} {h : mHeap} {Q : Option Value → mHeap → Prop} {a0 : Nat} {l1 : Option Value} {x2 : Int32} {l3 : Option Value} {l4 : Option Value} {r0 : Nat} {s1 : Int32} {s2 : Int32} : Go d 214 122 [some (.ref a0), l1, some (.int x2), l3, l4] [.int s2, .int s1, .ref r0] h Q ↔ okP h r0 12 28 ∧ Go d 214 199 [some (.ref a0), some (.int (ii 1)), some (.int x2), l3, l4] [] (sF h r0 28 (.int (s1 + s2))) Q := by
  refine (G_iadd (mF fc214 (by rfl))).trans ?_
  refine (G_putT (c := 12) (k := 28) rfl rfl rfl (mF fc214 (by rfl))).trans (andR ?_)
  refine (G_iconst (mF fc214 (by rfl))).trans ?_
  refine (G_istore (k := 1) (L' := [some (.ref a0), some (.int (ii 1)), some (.int x2), l3, l4]) rfl (ltb rfl) rfl (mF fc214 (by rfl))).trans ?_
  refine (G_goto (mF fc214 (by rfl))).trans ?_
  exact Iff.rfl
theorem b214_164 {d : Nat} {h : mHeap} {Q : Option Value → mHeap → Prop} {a0 : Nat} {x1 : Int32} {x2 : Int32} {l3 : Option Value} {l4 : Option Value} : Go d 214 164 [some (.ref a0), some (.int x1), some (.int x2), l3, l4] [] h Q ↔ okF h a0 12 28 0 ∧ okP h a0 12 28 ∧ okF (sF h a0 28 (.int ((fI h a0 28) + (ii 1)))) a0 12 36 0 ∧ okP (sF h a0 28 (.int ((fI h a0 28) + (ii 1)))) a0 12 36 ∧ okF (sF (sF h a0 28 (.int ((fI h a0 28) + (ii 1)))) a0 36 (.int ((fI (sF h a0 28 (.int ((fI h a0 28) + (ii 1)))) a0 36) - (ii 1)))) a0 12 34 0 ∧ okP (sF (sF h a0 28 (.int ((fI h a0 28) + (ii 1)))) a0 36 (.int ((fI (sF h a0 28 (.int ((fI h a0 28) + (ii 1)))) a0 36) - (ii 1)))) a0 12 34 ∧ Go d 214 199 [some (.ref a0), some (.int x1), some (.int x2), l3, l4] [] (sF (sF (sF h a0 28 (.int ((fI h a0 28) + (ii 1)))) a0 36 (.int ((fI (sF h a0 28 (.int ((fI h a0 28) + (ii 1)))) a0 36) - (ii 1)))) a0 34 (.int ((fI (sF (sF h a0 28 (.int ((fI h a0 28) + (ii 1)))) a0 36 (.int ((fI (sF h a0 28 (.int ((fI h a0 28) + (ii 1)))) a0 36) - (ii 1)))) a0 34) - (ii 1)))) Q := by
  refine (G_aload rfl (mF fc214 (by rfl))).trans ?_
  refine (G_dupr (mF fc214 (by rfl))).trans ?_
  refine (G_getI (c := 12) (k := 28) rfl rfl rfl (mF fc214 (by rfl))).trans (andR ?_)
  refine (G_iconst (mF fc214 (by rfl))).trans ?_
  refine (G_iadd (mF fc214 (by rfl))).trans ?_
  refine (G_putT (c := 12) (k := 28) rfl rfl rfl (mF fc214 (by rfl))).trans (andR ?_)
  refine (G_aload rfl (mF fc214 (by rfl))).trans ?_
  refine (G_dupr (mF fc214 (by rfl))).trans ?_
  refine (G_getI (c := 12) (k := 36) rfl rfl rfl (mF fc214 (by rfl))).trans (andR ?_)
  refine (G_iconst (mF fc214 (by rfl))).trans ?_
  refine (G_isub (mF fc214 (by rfl))).trans ?_
  refine (G_putT (c := 12) (k := 36) rfl rfl rfl (mF fc214 (by rfl))).trans (andR ?_)
  refine (G_aload rfl (mF fc214 (by rfl))).trans ?_
  refine (G_dupr (mF fc214 (by rfl))).trans ?_
  refine (G_getI (c := 12) (k := 34) rfl rfl rfl (mF fc214 (by rfl))).trans (andR ?_)
  refine (G_iconst (mF fc214 (by rfl))).trans ?_
  refine (G_isub (mF fc214 (by rfl))).trans ?_
  refine (G_putT (c := 12) (k := 34) rfl rfl rfl (mF fc214 (by rfl))).trans (andR ?_)
  refine (G_goto (mF fc214 (by rfl))).trans ?_
  exact Iff.rfl
theorem b214_199 {d : Nat} {h : mHeap} {Q : Option Value → mHeap → Prop} {a0 : Nat} {x1 : Int32} {x2 : Int32} {l3 : Option Value} {l4 : Option Value} : Go d 214 199 [some (.ref a0), some (.int x1), some (.int x2), l3, l4] [] h Q ↔ Go d 214 9 [some (.ref a0), some (.int x1), some (.int x2), l3, l4] [] h Q := by
  refine (G_goto (mF fc214 (by rfl))).trans ?_
  exact Iff.rfl
theorem e214 {d : Nat} {h : mHeap} {K : mHeap → Prop} {a0 : Nat} : GoCv (d + 1) 214 [.ref a0] h K ↔ Go d 214 0 [some (.ref a0), none, none, none, none] [] h (rV K) := GoCv_entry rfl rfl
set_option maxRecDepth 20000 in
theorem fc215 : mCodes[215]? = some mc215 := rfl
theorem b215_0 {d : Nat} {h : mHeap} {Q : Option Value → mHeap → Prop} {a0 : Nat} {x1 : Int32} {x2 : Int32} : Go d 215 0 [some (.ref a0), some (.int x1), some (.int x2), none, none] [] h Q ↔ oC h a0 = 12 ∧ GoCv d 199 [.ref a0] h (fun h1 => okF h1 a0 12 28 0 ∧ okF h1 a0 12 29 0 ∧ (if ¬ (fI h1 a0 29) = ii 0 then (Go d 215 27 [some (.ref a0), some (.int x1), some (.int x2), some (.int (fI h1 a0 28)), none] [.int (ii 0)] h1 Q) else (oC h1 a0 = 12 ∧ GoCi d 205 [.ref a0, .int (ii 99999)] h1 (fun v2 h2 => Go d 215 27 [some (.ref a0), some (.int x1), some (.int x2), some (.int (fI h1 a0 28)), none] [.int v2] h2 Q)))) := by
  refine (G_aload rfl (mF fc215 (by rfl))).trans ?_
  refine (G_Vv (q := 102081) (y := 199) (a := a0) (c := 12) rfl rfl rfl rfl (by decide) rfl (as := [.ref a0]) (rest := []) rfl rfl (mF fc215 (by rfl))).trans (andR (GoCv_congr fun h1 => ?_))
  refine (G_aload rfl (mF fc215 (by rfl))).trans ?_
  refine (G_getI (c := 12) (k := 28) rfl rfl rfl (mF fc215 (by rfl))).trans (andR ?_)
  refine (G_istore (k := 3) (L' := [some (.ref a0), some (.int x1), some (.int x2), some (.int (fI h1 a0 28)), none]) rfl (ltb rfl) rfl (mF fc215 (by rfl))).trans ?_
  refine (G_aload rfl (mF fc215 (by rfl))).trans ?_
  refine (G_getI (c := 12) (k := 29) rfl rfl rfl (mF fc215 (by rfl))).trans (andR ?_)
  refine (G_ne (mF fc215 (by rfl))).trans (gi ?_ ?_)
  ·
    refine (G_iconst (mF fc215 (by rfl))).trans ?_
    exact Iff.rfl
  ·
    refine (G_aload rfl (mF fc215 (by rfl))).trans ?_
    refine (G_iconst (mF fc215 (by rfl))).trans ?_
    refine (G_Vi (q := 105154) (y := 205) (a := a0) (c := 12) rfl rfl rfl rfl (by decide) rfl (as := [.ref a0, .int (ii 99999)]) (rest := []) rfl rfl (mF fc215 (by rfl))).trans (andR (GoCi_congr fun v2 h2 => ?_))
    refine (G_goto (mF fc215 (by rfl))).trans ?_
    exact Iff.rfl
theorem b215_27 {d : Nat} {h : mHeap} {Q : Option Value → mHeap → Prop} {a0 : Nat} {x1 : Int32} {x2 : Int32} {x3 : Int32} {l4 : Option Value} {s0 : Int32} : Go d 215 27 [some (.ref a0), some (.int x1), some (.int x2), some (.int x3), l4] [.int s0] h Q ↔ okF h a0 12 29 0 ∧ (if ¬ (fI h a0 29) = ii 0 then (Q (some (.int s0)) h) else (GoCi d 183 [.long s0.toInt64, .long x1.toInt64, .long x2.toInt64] h (fun v1 h1 => (if ¬ v1 = ii 0 then (Q (some (.int s0)) h1) else (oC h1 a0 = 12 ∧ GoCv d 197 [.ref a0, .int (ii 1), .int x3] h1 (fun h2 => Q (some (.int s0)) h2)))))) := by
  refine (G_istore (k := 4) (L' := [some (.ref a0), some (.int x1), some (.int x2), some (.int x3), some (.int s0)]) rfl (ltb rfl) rfl (mF fc215 (by rfl))).trans ?_
  refine (G_aload rfl (mF fc215 (by rfl))).trans ?_
  refine (G_getI (c := 12) (k := 29) rfl rfl rfl (mF fc215 (by rfl))).trans (andR ?_)
  refine (G_ne (mF fc215 (by rfl))).trans (gi ?_ ?_)
  ·
    refine (G_iload rfl (mF fc215 (by rfl))).trans ?_
    exact G_ireturnI rfl (mF fc215 (by rfl))
  ·
    refine (G_iload rfl (mF fc215 (by rfl))).trans ?_
    refine (G_i2l (mF fc215 (by rfl))).trans ?_
    refine (G_iload rfl (mF fc215 (by rfl))).trans ?_
    refine (G_i2l (mF fc215 (by rfl))).trans ?_
    refine (G_iload rfl (mF fc215 (by rfl))).trans ?_
    refine (G_i2l (mF fc215 (by rfl))).trans ?_
    refine (G_Ti (q := 93891) (y := 183) rfl rfl rfl (as := [.long s0.toInt64, .long x1.toInt64, .long x2.toInt64]) (rest := []) rfl rfl (mF fc215 (by rfl))).trans (GoCi_congr fun v1 h1 => ?_)
    refine (G_ne (mF fc215 (by rfl))).trans (gi ?_ ?_)
    ·
      refine (G_iload rfl (mF fc215 (by rfl))).trans ?_
      exact G_ireturnI rfl (mF fc215 (by rfl))
    ·
      refine (G_aload rfl (mF fc215 (by rfl))).trans ?_
      refine (G_iconst (mF fc215 (by rfl))).trans ?_
      refine (G_iload rfl (mF fc215 (by rfl))).trans ?_
      refine (G_Vv (q := 101059) (y := 197) (a := a0) (c := 12) rfl rfl rfl rfl (by decide) rfl (as := [.ref a0, .int (ii 1), .int x3]) (rest := []) rfl rfl (mF fc215 (by rfl))).trans (andR (GoCv_congr fun h2 => ?_))
      refine (G_iload rfl (mF fc215 (by rfl))).trans ?_
      exact G_ireturnI rfl (mF fc215 (by rfl))
theorem e215 {d : Nat} {h : mHeap} {K : Int32 → mHeap → Prop} {a0 : Nat} {x1 : Int32} {x2 : Int32} : GoCi (d + 1) 215 [.ref a0, .int x1, .int x2] h K ↔ Go d 215 0 [some (.ref a0), some (.int x1), some (.int x2), none, none] [] h (rI K) := GoCi_entry rfl rfl
set_option maxRecDepth 20000 in
theorem fc216 : mCodes[216]? = some mc216 := rfl
theorem b216_0 {d : Nat} {h : mHeap} {Q : Option Value → mHeap → Prop} {x0 : Int32} : Go d 216 0 [some (.int x0)] [] h Q ↔ (if x0 = ii 0 then (Q (some (.ref 3)) h) else (if x0 = ii 1 then (Q (some (.ref 4)) h) else (if x0 = ii 2 then (Q (some (.ref 5)) h) else (if x0 = ii 3 then (Q (some (.ref 6)) h) else (Q (some (.ref 7)) h))))) := by
  refine (G_iload rfl (mF fc216 (by rfl))).trans ?_
  refine (G_tableswitch (lo := 0) (hi := 3) [32, 36, 39, 43] rfl (by decide) (by decide) (by decide) (mF fc216 (by rfl))).trans ?_
  refine gi ?_ ?_
  ·
    refine (G_jsr (mF fc216 (by rfl))).trans ?_
    exact G_areturn rfl (mF fc216 (by rfl))
  ·
    refine gi ?_ ?_
    ·
      refine (G_jsr (mF fc216 (by rfl))).trans ?_
      exact G_areturn rfl (mF fc216 (by rfl))
    ·
      refine gi ?_ ?_
      ·
        refine (G_jsr (mF fc216 (by rfl))).trans ?_
        exact G_areturn rfl (mF fc216 (by rfl))
      ·
        refine gi ?_ ?_
        ·
          refine (G_jsr (mF fc216 (by rfl))).trans ?_
          exact G_areturn rfl (mF fc216 (by rfl))
        ·
          refine (G_jsr (mF fc216 (by rfl))).trans ?_
          exact G_areturn rfl (mF fc216 (by rfl))
theorem e216 {d : Nat} {h : mHeap} {K : Nat → mHeap → Prop} {x0 : Int32} : GoCr (d + 1) 216 [.int x0] h K ↔ Go d 216 0 [some (.int x0)] [] h (rR K) := GoCr_entry rfl rfl
set_option maxRecDepth 20000 in
theorem fc217 : mCodes[217]? = some mc217 := rfl
theorem b217_0 {d : Nat} {h : mHeap} {Q : Option Value → mHeap → Prop} {a0 : Nat} : Go d 217 0 [some (.ref a0)] [] h Q ↔ okF h a0 12 16 2 ∧ okA h (fR h a0 16) .int (ii 0) ∧ Q (some (.int ((shl (ii 1) (eI h (fR h a0 16) (ii 0))) - (ii 1)))) h := by
  refine (G_iconst (mF fc217 (by rfl))).trans ?_
  refine (G_aload rfl (mF fc217 (by rfl))).trans ?_
  refine (G_getR (c := 12) (k := 16) rfl rfl rfl (mF fc217 (by rfl))).trans (andR ?_)
  refine (G_iconst (mF fc217 (by rfl))).trans ?_
  refine (G_iaload (mF fc217 (by rfl))).trans (andR ?_)
  refine (G_ishl (mF fc217 (by rfl))).trans ?_
  refine (G_iconst (mF fc217 (by rfl))).trans ?_
  refine (G_isub (mF fc217 (by rfl))).trans ?_
  exact G_ireturnI rfl (mF fc217 (by rfl))
theorem e217 {d : Nat} {h : mHeap} {K : Int32 → mHeap → Prop} {a0 : Nat} : GoCi (d + 1) 217 [.ref a0] h K ↔ Go d 217 0 [some (.ref a0)] [] h (rI K) := GoCi_entry rfl rfl
set_option maxRecDepth 20000 in
theorem fc218 : mCodes[218]? = some mc218 := rfl
theorem b218_0 {d : Nat} {h : mHeap} {Q : Option Value → mHeap → Prop} {a0 : Nat} : Go d 218 0 [some (.ref a0), none, none] [] h Q ↔ okF h a0 12 16 2 ∧ okA h (fR h a0 16) .int (ii 4) ∧ okF h a0 12 22 2 ∧ okF h a0 12 16 2 ∧ okA h (fR h a0 16) .int (ii 3) ∧ oC h a0 = 12 ∧ GoCi d 215 [.ref a0, .int (ii 0), .int ((eI h (fR h a0 16) (ii 3)) - (ii 1))] h (fun v1 h1 => (64 ≤ (fR h a0 22) ∧ okA h1 (fR h a0 22) .int (eI h (fR h a0 16) (ii 4))) ∧ oC (sI h1 (fR h a0 22) (eI h (fR h a0 16) (ii 4)) v1) a0 = 12 ∧ GoCv d 199 [.ref a0] (sI h1 (fR h a0 22) (eI h (fR h a0 16) (ii 4)) v1) (fun h2 => okF h2 a0 12 28 0 ∧ okF h2 a0 12 23 2 ∧ okF h2 a0 12 16 2 ∧ okA h2 (fR h2 a0 16) .int (ii 3) ∧ oC h2 a0 = 12 ∧ GoCi d 215 [.ref a0, .int (ii 0), .int ((eI h2 (fR h2 a0 16) (ii 3)) - (ii 1))] h2 (fun v3 h3 => (64 ≤ (fR h2 a0 23) ∧ okA h3 (fR h2 a0 23) .int (eI h (fR h a0 16) (ii 4))) ∧ okF (sI h3 (fR h2 a0 23) (eI h (fR h a0 16) (ii 4)) v3) a0 12 29 0 ∧ (if ¬ (fI (sI h3 (fR h2 a0 23) (eI h (fR h a0 16) (ii 4)) v3) a0 29) = ii 0 then (Go d 218 82 [some (.ref a0), some (.int (eI h (fR h a0 16) (ii 4))), some (.int (fI h2 a0 28))] [] (sI h3 (fR h2 a0 23) (eI h (fR h a0 16) (ii 4)) v3) Q) else (okF (sI h3 (fR h2 a0 23) (eI h (fR h a0 16) (ii 4)) v3) a0 12 23 2 ∧ okA (sI h3 (fR h2 a0 23) (eI h (fR h a0 16) (ii 4)) v3) (fR (sI h3 (fR h2 a0 23) (eI h (fR h a0 16) (ii 4)) v3) a0 23) .int (eI h (fR h a0 16) (ii 4)) ∧ okF (sI h3 (fR h2 a0 23) (eI h (fR h a0 16) (ii 4)) v3) a0 12 22 2 ∧ okA (sI h3 (fR h2 a0 23) (eI h (fR h a0 16) (ii 4)) v3) (fR (sI h3 (fR h2 a0 23) (eI h (fR h a0 16) (ii 4)) v3) a0 22) .int (eI h (fR h a0 16) (ii 4)) ∧ (if ¬ (eI (sI h3 (fR h2 a0 23) (eI h (fR h a0 16) (ii 4)) v3) (fR (sI h3 (fR h2 a0 23) (eI h (fR h a0 16) (ii 4)) v3) a0 23) (eI h (fR h a0 16) (ii 4))) = (eI (sI h3 (fR h2 a0 23) (eI h (fR h a0 16) (ii 4)) v3) (fR (sI h3 (fR h2 a0 23) (eI h (fR h a0 16) (ii 4)) v3) a0 22) (eI h (fR h a0 16) (ii 4))) then (Go d 218 82 [some (.ref a0), some (.int (eI h (fR h a0 16) (ii 4))), some (.int (fI h2 a0 28))] [] (sI h3 (fR h2 a0 23) (eI h (fR h a0 16) (ii 4)) v3) Q) else (oC (sI h3 (fR h2 a0 23) (eI h (fR h a0 16) (ii 4)) v3) a0 = 12 ∧ GoCv d 197 [.ref a0, .int (ii 1), .int (fI h2 a0 28)] (sI h3 (fR h2 a0 23) (eI h (fR h a0 16) (ii 4)) v3) (fun h4 => Go d 218 82 [some (.ref a0), some (.int (eI h (fR h a0 16) (ii 4))), some (.int (fI h2 a0 28))] [] h4 Q)))))))) := by
  refine (G_aload rfl (mF fc218 (by rfl))).trans ?_
  refine (G_getR (c := 12) (k := 16) rfl rfl rfl (mF fc218 (by rfl))).trans (andR ?_)
  refine (G_iconst (mF fc218 (by rfl))).trans ?_
  refine (G_iaload (mF fc218 (by rfl))).trans (andR ?_)
  refine (G_istore (k := 1) (L' := [some (.ref a0), some (.int (eI h (fR h a0 16) (ii 4))), none]) rfl (ltb rfl) rfl (mF fc218 (by rfl))).trans ?_
  refine (G_aload rfl (mF fc218 (by rfl))).trans ?_
  refine (G_getR (c := 12) (k := 22) rfl rfl rfl (mF fc218 (by rfl))).trans (andR ?_)
  refine (G_iload rfl (mF fc218 (by rfl))).trans ?_
  refine (G_aload rfl (mF fc218 (by rfl))).trans ?_
  refine (G_iconst (mF fc218 (by rfl))).trans ?_
  refine (G_aload rfl (mF fc218 (by rfl))).trans ?_
  refine (G_getR (c := 12) (k := 16) rfl rfl rfl (mF fc218 (by rfl))).trans (andR ?_)
  refine (G_iconst (mF fc218 (by rfl))).trans ?_
  refine (G_iaload (mF fc218 (by rfl))).trans (andR ?_)
  refine (G_iconst (mF fc218 (by rfl))).trans ?_
  refine (G_isub (mF fc218 (by rfl))).trans ?_
  refine (G_Vi (q := 110275) (y := 215) (a := a0) (c := 12) rfl rfl rfl rfl (by decide) rfl (as := [.ref a0, .int (ii 0), .int ((eI h (fR h a0 16) (ii 3)) - (ii 1))]) (rest := [.int (eI h (fR h a0 16) (ii 4)), .ref (fR h a0 22)]) rfl rfl (mF fc218 (by rfl))).trans (andR (GoCi_congr fun v1 h1 => ?_))
  refine (G_iastore (mF fc218 (by rfl))).trans (andR ?_)
  refine (G_aload rfl (mF fc218 (by rfl))).trans ?_
  refine (G_Vv (q := 102081) (y := 199) (a := a0) (c := 12) rfl rfl rfl rfl (by decide) rfl (as := [.ref a0]) (rest := []) rfl rfl (mF fc218 (by rfl))).trans (andR (GoCv_congr fun h2 => ?_))
  refine (G_aload rfl (mF fc218 (by rfl))).trans ?_
  refine (G_getI (c := 12) (k := 28) rfl rfl rfl (mF fc218 (by rfl))).trans (andR ?_)
  refine (G_istore (k := 2) (L' := [some (.ref a0), some (.int (eI h (fR h a0 16) (ii 4))), some (.int (fI h2 a0 28))]) rfl (ltb rfl) rfl (mF fc218 (by rfl))).trans ?_
  refine (G_aload rfl (mF fc218 (by rfl))).trans ?_
  refine (G_getR (c := 12) (k := 23) rfl rfl rfl (mF fc218 (by rfl))).trans (andR ?_)
  refine (G_iload rfl (mF fc218 (by rfl))).trans ?_
  refine (G_aload rfl (mF fc218 (by rfl))).trans ?_
  refine (G_iconst (mF fc218 (by rfl))).trans ?_
  refine (G_aload rfl (mF fc218 (by rfl))).trans ?_
  refine (G_getR (c := 12) (k := 16) rfl rfl rfl (mF fc218 (by rfl))).trans (andR ?_)
  refine (G_iconst (mF fc218 (by rfl))).trans ?_
  refine (G_iaload (mF fc218 (by rfl))).trans (andR ?_)
  refine (G_iconst (mF fc218 (by rfl))).trans ?_
  refine (G_isub (mF fc218 (by rfl))).trans ?_
  refine (G_Vi (q := 110275) (y := 215) (a := a0) (c := 12) rfl rfl rfl rfl (by decide) rfl (as := [.ref a0, .int (ii 0), .int ((eI h2 (fR h2 a0 16) (ii 3)) - (ii 1))]) (rest := [.int (eI h (fR h a0 16) (ii 4)), .ref (fR h2 a0 23)]) rfl rfl (mF fc218 (by rfl))).trans (andR (GoCi_congr fun v3 h3 => ?_))
  refine (G_iastore (mF fc218 (by rfl))).trans (andR ?_)
  refine (G_aload rfl (mF fc218 (by rfl))).trans ?_
  refine (G_getI (c := 12) (k := 29) rfl rfl rfl (mF fc218 (by rfl))).trans (andR ?_)
  refine (G_ne (mF fc218 (by rfl))).trans (gi ?_ ?_)
  ·
    exact Iff.rfl
  ·
    refine (G_aload rfl (mF fc218 (by rfl))).trans ?_
    refine (G_getR (c := 12) (k := 23) rfl rfl rfl (mF fc218 (by rfl))).trans (andR ?_)
    refine (G_iload rfl (mF fc218 (by rfl))).trans ?_
    refine (G_iaload (mF fc218 (by rfl))).trans (andR ?_)
    refine (G_aload rfl (mF fc218 (by rfl))).trans ?_
    refine (G_getR (c := 12) (k := 22) rfl rfl rfl (mF fc218 (by rfl))).trans (andR ?_)
    refine (G_iload rfl (mF fc218 (by rfl))).trans ?_
    refine (G_iaload (mF fc218 (by rfl))).trans (andR ?_)
    refine (G_ine (mF fc218 (by rfl))).trans (gi ?_ ?_)
    ·
      exact Iff.rfl
    ·
      refine (G_aload rfl (mF fc218 (by rfl))).trans ?_
      refine (G_iconst (mF fc218 (by rfl))).trans ?_
      refine (G_iload rfl (mF fc218 (by rfl))).trans ?_
      refine (G_Vv (q := 101059) (y := 197) (a := a0) (c := 12) rfl rfl rfl rfl (by decide) rfl (as := [.ref a0, .int (ii 1), .int (fI h2 a0 28)]) (rest := []) rfl rfl (mF fc218 (by rfl))).trans (andR (GoCv_congr fun h4 => ?_))
      exact Iff.rfl
theorem b218_82 {d : Nat} {h : mHeap} {Q : Option Value → mHeap → Prop} {a0 : Nat} {x1 : Int32} {l2 : Option Value} : Go d 218 82 [some (.ref a0), some (.int x1), l2] [] h Q ↔ okF h a0 12 24 2 ∧ oC h a0 = 12 ∧ GoCi d 215 [.ref a0, .int (ii 1), .int (ii 9)] h (fun v1 h1 => (64 ≤ (fR h a0 24) ∧ okA h1 (fR h a0 24) .int x1) ∧ okF (sI h1 (fR h a0 24) x1 v1) a0 12 16 2 ∧ okA (sI h1 (fR h a0 24) x1 v1) (fR (sI h1 (fR h a0 24) x1 v1) a0 16) .int (ii 4) ∧ (64 ≤ (fR (sI h1 (fR h a0 24) x1 v1) a0 16) ∧ okA (sI h1 (fR h a0 24) x1 v1) (fR (sI h1 (fR h a0 24) x1 v1) a0 16) .int (ii 4)) ∧ Q none (sI (sI h1 (fR h a0 24) x1 v1) (fR (sI h1 (fR h a0 24) x1 v1) a0 16) (ii 4) ((eI (sI h1 (fR h a0 24) x1 v1) (fR (sI h1 (fR h a0 24) x1 v1) a0 16) (ii 4)) + (ii 1)))) := by
  refine (G_aload rfl (mF fc218 (by rfl))).trans ?_
  refine (G_getR (c := 12) (k := 24) rfl rfl rfl (mF fc218 (by rfl))).trans (andR ?_)
  refine (G_iload rfl (mF fc218 (by rfl))).trans ?_
  refine (G_aload rfl (mF fc218 (by rfl))).trans ?_
  refine (G_iconst (mF fc218 (by rfl))).trans ?_
  refine (G_iconst (mF fc218 (by rfl))).trans ?_
  refine (G_Vi (q := 110275) (y := 215) (a := a0) (c := 12) rfl rfl rfl rfl (by decide) rfl (as := [.ref a0, .int (ii 1), .int (ii 9)]) (rest := [.int x1, .ref (fR h a0 24)]) rfl rfl (mF fc218 (by rfl))).trans (andR (GoCi_congr fun v1 h1 => ?_))
  refine (G_iastore (mF fc218 (by rfl))).trans (andR ?_)
  refine (G_aload rfl (mF fc218 (by rfl))).trans ?_
  refine (G_getR (c := 12) (k := 16) rfl rfl rfl (mF fc218 (by rfl))).trans (andR ?_)
  refine (G_iconst (mF fc218 (by rfl))).trans ?_
  refine (G_dup2r (mF fc218 (by rfl))).trans ?_
  refine (G_iaload (mF fc218 (by rfl))).trans (andR ?_)
  refine (G_iconst (mF fc218 (by rfl))).trans ?_
  refine (G_iadd (mF fc218 (by rfl))).trans ?_
  refine (G_iastore (mF fc218 (by rfl))).trans (andR ?_)
  exact G_return rfl (mF fc218 (by rfl))
theorem e218 {d : Nat} {h : mHeap} {K : mHeap → Prop} {a0 : Nat} : GoCv (d + 1) 218 [.ref a0] h K ↔ Go d 218 0 [some (.ref a0), none, none] [] h (rV K) := GoCv_entry rfl rfl
set_option maxRecDepth 20000 in
theorem fc219 : mCodes[219]? = some mc219 := rfl
theorem b219_0 {d : Nat} {h : mHeap} {Q : Option Value → mHeap → Prop} {a0 : Nat} {x1 : Int32} : Go d 219 0 [some (.ref a0), some (.int x1), none] [] h Q ↔ (if x1 = ii 0 then (okF h a0 12 16 2 ∧ oC h a0 = 12 ∧ GoCi d 215 [.ref a0, .int (ii 1), .int (ii 8)] h (fun v1 h1 => (64 ≤ (fR h a0 16) ∧ okA h1 (fR h a0 16) .int (ii 0)) ∧ okF (sI h1 (fR h a0 16) (ii 0) v1) a0 12 16 2 ∧ okF (sI h1 (fR h a0 16) (ii 0) v1) a0 12 29 0 ∧ (if ¬ (fI (sI h1 (fR h a0 16) (ii 0) v1) a0 29) = ii 0 then (Go d 219 67 [some (.ref a0), some (.int x1), none] [.int (ii 0), .int (ii 0), .ref a0, .int (ii 1), .ref (fR (sI h1 (fR h a0 16) (ii 0) v1) a0 16)] (sI h1 (fR h a0 16) (ii 0) v1) Q) else (oC (sI h1 (fR h a0 16) (ii 0) v1) a0 = 12 ∧ GoCi d 217 [.ref a0] (sI h1 (fR h a0 16) (ii 0) v1) (fun v2 h2 => Go d 219 67 [some (.ref a0), some (.int x1), none] [.int v2, .int (ii 0), .ref a0, .int (ii 1), .ref (fR (sI h1 (fR h a0 16) (ii 0) v1) a0 16)] h2 Q))))) else (if x1 = ii 1 then (okF h a0 12 16 2 ∧ okA h (fR h a0 16) .int (ii 2) ∧ okF h a0 12 17 2 ∧ oC h a0 = 12 ∧ GoCi d 215 [.ref a0, .int (ii 0), .int (ii 1)] h (fun v3 h3 => (64 ≤ (fR h a0 17) ∧ okA h3 (fR h a0 17) .int (eI h (fR h a0 16) (ii 2))) ∧ okF (sI h3 (fR h a0 17) (eI h (fR h a0 16) (ii 2)) v3) a0 12 18 2 ∧ oC (sI h3 (fR h a0 17) (eI h (fR h a0 16) (ii 2)) v3) a0 = 12 ∧ GoCi d 215 [.ref a0, .int (ii 1), .int (ii 128)] (sI h3 (fR h a0 17) (eI h (fR h a0 16) (ii 2)) v3) (fun v4 h4 => (64 ≤ (fR (sI h3 (fR h a0 17) (eI h (fR h a0 16) (ii 2)) v3) a0 18) ∧ okA h4 (fR (sI h3 (fR h a0 17) (eI h (fR h a0 16) (ii 2)) v3) a0 18) .int (eI h (fR h a0 16) (ii 2))) ∧ okF (sI h4 (fR (sI h3 (fR h a0 17) (eI h (fR h a0 16) (ii 2)) v3) a0 18) (eI h (fR h a0 16) (ii 2)) v4) a0 12 19 2 ∧ oC (sI h4 (fR (sI h3 (fR h a0 17) (eI h (fR h a0 16) (ii 2)) v3) a0 18) (eI h (fR h a0 16) (ii 2)) v4) a0 = 12 ∧ GoCi d 217 [.ref a0] (sI h4 (fR (sI h3 (fR h a0 17) (eI h (fR h a0 16) (ii 2)) v3) a0 18) (eI h (fR h a0 16) (ii 2)) v4) (fun v5 h5 => oC h5 a0 = 12 ∧ GoCi d 215 [.ref a0, .int (ii 0), .int v5] h5 (fun v6 h6 => (64 ≤ (fR (sI h4 (fR (sI h3 (fR h a0 17) (eI h (fR h a0 16) (ii 2)) v3) a0 18) (eI h (fR h a0 16) (ii 2)) v4) a0 19) ∧ okA h6 (fR (sI h4 (fR (sI h3 (fR h a0 17) (eI h (fR h a0 16) (ii 2)) v3) a0 18) (eI h (fR h a0 16) (ii 2)) v4) a0 19) .int (eI h (fR h a0 16) (ii 2))) ∧ okF (sI h6 (fR (sI h4 (fR (sI h3 (fR h a0 17) (eI h (fR h a0 16) (ii 2)) v3) a0 18) (eI h (fR h a0 16) (ii 2)) v4) a0 19) (eI h (fR h a0 16) (ii 2)) v6) a0 12 20 2 ∧ oC (sI h6 (fR (sI h4 (fR (sI h3 (fR h a0 17) (eI h (fR h a0 16) (ii 2)) v3) a0 18) (eI h (fR h a0 16) (ii 2)) v4) a0 19) (eI h (fR h a0 16) (ii 2)) v6) a0 = 12 ∧ GoCi d 215 [.ref a0, .int (ii 0), .int (ii 99)] (sI h6 (fR (sI h4 (fR (sI h3 (fR h a0 17) (eI h (fR h a0 16) (ii 2)) v3) a0 18) (eI h (fR h a0 16) (ii 2)) v4) a0 19) (eI h (fR h a0 16) (ii 2)) v6) (fun v7 h7 => (64 ≤ (fR (sI h6 (fR (sI h4 (fR (sI h3 (fR h a0 17) (eI h (fR h a0 16) (ii 2)) v3) a0 18) (eI h (fR h a0 16) (ii 2)) v4) a0 19) (eI h (fR h a0 16) (ii 2)) v6) a0 20) ∧ okA h7 (fR (sI h6 (fR (sI h4 (fR (sI h3 (fR h a0 17) (eI h (fR h a0 16) (ii 2)) v3) a0 18) (eI h (fR h a0 16) (ii 2)) v4) a0 19) (eI h (fR h a0 16) (ii 2)) v6) a0 20) .int (eI h (fR h a0 16) (ii 2))) ∧ okF (sI h7 (fR (sI h6 (fR (sI h4 (fR (sI h3 (fR h a0 17) (eI h (fR h a0 16) (ii 2)) v3) a0 18) (eI h (fR h a0 16) (ii 2)) v4) a0 19) (eI h (fR h a0 16) (ii 2)) v6) a0 20) (eI h (fR h a0 16) (ii 2)) v7) a0 12 16 2 ∧ okA (sI h7 (fR (sI h6 (fR (sI h4 (fR (sI h3 (fR h a0 17) (eI h (fR h a0 16) (ii 2)) v3) a0 18) (eI h (fR h a0 16) (ii 2)) v4) a0 19) (eI h (fR h a0 16) (ii 2)) v6) a0 20) (eI h (fR h a0 16) (ii 2)) v7) (fR (sI h7 (fR (sI h6 (fR (sI h4 (fR (sI h3 (fR h a0 17) (eI h (fR h a0 16) (ii 2)) v3) a0 18) (eI h (fR h a0 16) (ii 2)) v4) a0 19) (eI h (fR h a0 16) (ii 2)) v6) a0 20) (eI h (fR h a0 16) (ii 2)) v7) a0 16) .int (ii 2) ∧ (64 ≤ (fR (sI h7 (fR (sI h6 (fR (sI h4 (fR (sI h3 (fR h a0 17) (eI h (fR h a0 16) (ii 2)) v3) a0 18) (eI h (fR h a0 16) (ii 2)) v4) a0 19) (eI h (fR h a0 16) (ii 2)) v6) a0 20) (eI h (fR h a0 16) (ii 2)) v7) a0 16) ∧ okA (sI h7 (fR (sI h6 (fR (sI h4 (fR (sI h3 (fR h a0 17) (eI h (fR h a0 16) (ii 2)) v3) a0 18) (eI h (fR h a0 16) (ii 2)) v4) a0 19) (eI h (fR h a0 16) (ii 2)) v6) a0 20) (eI h (fR h a0 16) (ii 2)) v7) (fR (sI h7 (fR (sI h6 (fR (sI h4 (fR (sI h3 (fR h a0 17) (eI h (fR h a0 16) (ii 2)) v3) a0 18) (eI h (fR h a0 16) (ii 2)) v4) a0 19) (eI h (fR h a0 16) (ii 2)) v6) a0 20) (eI h (fR h a0 16) (ii 2)) v7) a0 16) .int (ii 2)) ∧ Q none (sI (sI h7 (fR (sI h6 (fR (sI h4 (fR (sI h3 (fR h a0 17) (eI h (fR h a0 16) (ii 2)) v3) a0 18) (eI h (fR h a0 16) (ii 2)) v4) a0 19) (eI h (fR h a0 16) (ii 2)) v6) a0 20) (eI h (fR h a0 16) (ii 2)) v7) (fR (sI h7 (fR (sI h6 (fR (sI h4 (fR (sI h3 (fR h a0 17) (eI h (fR h a0 16) (ii 2)) v3) a0 18) (eI h (fR h a0 16) (ii 2)) v4) a0 19) (eI h (fR h a0 16) (ii 2)) v6) a0 20) (eI h (fR h a0 16) (ii 2)) v7) a0 16) (ii 2) ((eI (sI h7 (fR (sI h6 (fR (sI h4 (fR (sI h3 (fR h a0 17) (eI h (fR h a0 16) (ii 2)) v3) a0 18) (eI h (fR h a0 16) (ii 2)) v4) a0 19) (eI h (fR h a0 16) (ii 2)) v6) a0 20) (eI h (fR h a0 16) (ii 2)) v7) (fR (sI h7 (fR (sI h6 (fR (sI h4 (fR (sI h3 (fR h a0 17) (eI h (fR h a0 16) (ii 2)) v3) a0 18) (eI h (fR h a0 16) (ii 2)) v4) a0 19) (eI h (fR h a0 16) (ii 2)) v6) a0 20) (eI h (fR h a0 16) (ii 2)) v7) a0 16) (ii 2)) + (ii 1))))))))) else (if x1 = ii 2 then (okF h a0 12 21 2 ∧ okF h a0 12 16 2 ∧ okA h (fR h a0 16) .int (ii 3) ∧ okF h a0 12 16 2 ∧ okA h (fR h a0 16) .int (ii 0) ∧ oC h a0 = 12 ∧ GoCi d 215 [.ref a0, .int (ii 0), .int ((eI h (fR h a0 16) (ii 0)) - (ii 1))] h (fun v8 h8 => (64 ≤ (fR h a0 21) ∧ okA h8 (fR h a0 21) .int (eI h (fR h a0 16) (ii 3))) ∧ okF (sI h8 (fR h a0 21) (eI h (fR h a0 16) (ii 3)) v8) a0 12 16 2 ∧ okA (sI h8 (fR h a0 21) (eI h (fR h a0 16) (ii 3)) v8) (fR (sI h8 (fR h a0 21) (eI h (fR h a0 16) (ii 3)) v8) a0 16) .int (ii 3) ∧ (64 ≤ (fR (sI h8 (fR h a0 21) (eI h (fR h a0 16) (ii 3)) v8) a0 16) ∧ okA (sI h8 (fR h a0 21) (eI h (fR h a0 16) (ii 3)) v8) (fR (sI h8 (fR h a0 21) (eI h (fR h a0 16) (ii 3)) v8) a0 16) .int (ii 3)) ∧ Q none (sI (sI h8 (fR h a0 21) (eI h (fR h a0 16) (ii 3)) v8) (fR (sI h8 (fR h a0 21) (eI h (fR h a0 16) (ii 3)) v8) a0 16) (ii 3) ((eI (sI h8 (fR h a0 21) (eI h (fR h a0 16) (ii 3)) v8) (fR (sI h8 (fR h a0 21) (eI h (fR h a0 16) (ii 3)) v8) a0 16) (ii 3)) + (ii 1))))) else (if x1 = ii 3 then (oC h a0 = 12 ∧ GoCv d 218 [.ref a0] h (fun h9 => Q none h9)) else (okF h a0 12 16 2 ∧ okA h (fR h a0 16) .int (ii 5) ∧ okF h a0 12 25 2 ∧ okF h a0 12 16 2 ∧ okA h (fR h a0 16) .int (ii 0) ∧ oC h a0 = 12 ∧ GoCi d 215 [.ref a0, .int (ii 0), .int ((eI h (fR h a0 16) (ii 0)) - (ii 1))] h (fun v10 h10 => (64 ≤ (fR h a0 25) ∧ okA h10 (fR h a0 25) .int (eI h (fR h a0 16) (ii 5))) ∧ okF (sI h10 (fR h a0 25) (eI h (fR h a0 16) (ii 5)) v10) a0 12 26 2 ∧ oC (sI h10 (fR h a0 25) (eI h (fR h a0 16) (ii 5)) v10) a0 = 12 ∧ GoCi d 215 [.ref a0, .int (ii 1), .int (ii 99)] (sI h10 (fR h a0 25) (eI h (fR h a0 16) (ii 5)) v10) (fun v11 h11 => (64 ≤ (fR (sI h10 (fR h a0 25) (eI h (fR h a0 16) (ii 5)) v10) a0 26) ∧ okA h11 (fR (sI h10 (fR h a0 25) (eI h (fR h a0 16) (ii 5)) v10) a0 26) .int (eI h (fR h a0 16) (ii 5))) ∧ okF (sI h11 (fR (sI h10 (fR h a0 25) (eI h (fR h a0 16) (ii 5)) v10) a0 26) (eI h (fR h a0 16) (ii 5)) v11) a0 12 16 2 ∧ okA (sI h11 (fR (sI h10 (fR h a0 25) (eI h (fR h a0 16) (ii 5)) v10) a0 26) (eI h (fR h a0 16) (ii 5)) v11) (fR (sI h11 (fR (sI h10 (fR h a0 25) (eI h (fR h a0 16) (ii 5)) v10) a0 26) (eI h (fR h a0 16) (ii 5)) v11) a0 16) .int (ii 5) ∧ (64 ≤ (fR (sI h11 (fR (sI h10 (fR h a0 25) (eI h (fR h a0 16) (ii 5)) v10) a0 26) (eI h (fR h a0 16) (ii 5)) v11) a0 16) ∧ okA (sI h11 (fR (sI h10 (fR h a0 25) (eI h (fR h a0 16) (ii 5)) v10) a0 26) (eI h (fR h a0 16) (ii 5)) v11) (fR (sI h11 (fR (sI h10 (fR h a0 25) (eI h (fR h a0 16) (ii 5)) v10) a0 26) (eI h (fR h a0 16) (ii 5)) v11) a0 16) .int (ii 5)) ∧ Q none (sI (sI h11 (fR (sI h10 (fR h a0 25) (eI h (fR h a0 16) (ii 5)) v10) a0 26) (eI h (fR h a0 16) (ii 5)) v11) (fR (sI h11 (fR (sI h10 (fR h a0 25) (eI h (fR h a0 16) (ii 5)) v10) a0 26) (eI h (fR h a0 16) (ii 5)) v11) a0 16) (ii 5) ((eI (sI h11 (fR (sI h10 (fR h a0 25) (eI h (fR h a0 16) (ii 5)) v10) a0 26) (eI h (fR h a0 16) (ii 5)) v11) (fR (sI h11 (fR (sI h10 (fR h a0 25) (eI h (fR h a0 16) (ii 5)) v10) a0 26) (eI h (fR h a0 16) (ii 5)) v11) a0 16) (ii 5)) + (ii 1)))))))))) := by
  refine (G_iload rfl (mF fc219 (by rfl))).trans ?_
  refine (G_tableswitch (lo := 0) (hi := 3) [32, 74, 148, 185] rfl (by decide) (by decide) (by decide) (mF fc219 (by rfl))).trans ?_
  refine gi ?_ ?_
  ·
    refine (G_aload rfl (mF fc219 (by rfl))).trans ?_
    refine (G_getR (c := 12) (k := 16) rfl rfl rfl (mF fc219 (by rfl))).trans (andR ?_)
    refine (G_iconst (mF fc219 (by rfl))).trans ?_
    refine (G_aload rfl (mF fc219 (by rfl))).trans ?_
    refine (G_iconst (mF fc219 (by rfl))).trans ?_
    refine (G_iconst (mF fc219 (by rfl))).trans ?_
    refine (G_Vi (q := 110275) (y := 215) (a := a0) (c := 12) rfl rfl rfl rfl (by decide) rfl (as := [.ref a0, .int (ii 1), .int (ii 8)]) (rest := [.int (ii 0), .ref (fR h a0 16)]) rfl rfl (mF fc219 (by rfl))).trans (andR (GoCi_congr fun v1 h1 => ?_))
    refine (G_iastore (mF fc219 (by rfl))).trans (andR ?_)
    refine (G_aload rfl (mF fc219 (by rfl))).trans ?_
    refine (G_getR (c := 12) (k := 16) rfl rfl rfl (mF fc219 (by rfl))).trans (andR ?_)
    refine (G_iconst (mF fc219 (by rfl))).trans ?_
    refine (G_aload rfl (mF fc219 (by rfl))).trans ?_
    refine (G_iconst (mF fc219 (by rfl))).trans ?_
    refine (G_aload rfl (mF fc219 (by rfl))).trans ?_
    refine (G_getI (c := 12) (k := 29) rfl rfl rfl (mF fc219 (by rfl))).trans (andR ?_)
    refine (G_ne (mF fc219 (by rfl))).trans (gi ?_ ?_)
    ·
      refine (G_iconst (mF fc219 (by rfl))).trans ?_
      exact Iff.rfl
    ·
      refine (G_aload rfl (mF fc219 (by rfl))).trans ?_
      refine (G_Vi (q := 111297) (y := 217) (a := a0) (c := 12) rfl rfl rfl rfl (by decide) rfl (as := [.ref a0]) (rest := [.int (ii 0), .ref a0, .int (ii 1), .ref (fR (sI h1 (fR h a0 16) (ii 0) v1) a0 16)]) rfl rfl (mF fc219 (by rfl))).trans (andR (GoCi_congr fun v2 h2 => ?_))
      refine (G_goto (mF fc219 (by rfl))).trans ?_
      exact Iff.rfl
  ·
    refine gi ?_ ?_
    ·
      refine (G_aload rfl (mF fc219 (by rfl))).trans ?_
      refine (G_getR (c := 12) (k := 16) rfl rfl rfl (mF fc219 (by rfl))).trans (andR ?_)
      refine (G_iconst (mF fc219 (by rfl))).trans ?_
      refine (G_iaload (mF fc219 (by rfl))).trans (andR ?_)
      refine (G_istore (k := 2) (L' := [some (.ref a0), some (.int x1), some (.int (eI h (fR h a0 16) (ii 2)))]) rfl (ltb rfl) rfl (mF fc219 (by rfl))).trans ?_
      refine (G_aload rfl (mF fc219 (by rfl))).trans ?_
      refine (G_getR (c := 12) (k := 17) rfl rfl rfl (mF fc219 (by rfl))).trans (andR ?_)
      refine (G_iload rfl (mF fc219 (by rfl))).trans ?_
      refine (G_aload rfl (mF fc219 (by rfl))).trans ?_
      refine (G_iconst (mF fc219 (by rfl))).trans ?_
      refine (G_iconst (mF fc219 (by rfl))).trans ?_
      refine (G_Vi (q := 110275) (y := 215) (a := a0) (c := 12) rfl rfl rfl rfl (by decide) rfl (as := [.ref a0, .int (ii 0), .int (ii 1)]) (rest := [.int (eI h (fR h a0 16) (ii 2)), .ref (fR h a0 17)]) rfl rfl (mF fc219 (by rfl))).trans (andR (GoCi_congr fun v3 h3 => ?_))
      refine (G_iastore (mF fc219 (by rfl))).trans (andR ?_)
      refine (G_aload rfl (mF fc219 (by rfl))).trans ?_
      refine (G_getR (c := 12) (k := 18) rfl rfl rfl (mF fc219 (by rfl))).trans (andR ?_)
      refine (G_iload rfl (mF fc219 (by rfl))).trans ?_
      refine (G_aload rfl (mF fc219 (by rfl))).trans ?_
      refine (G_iconst (mF fc219 (by rfl))).trans ?_
      refine (G_iconst (mF fc219 (by rfl))).trans ?_
      refine (G_Vi (q := 110275) (y := 215) (a := a0) (c := 12) rfl rfl rfl rfl (by decide) rfl (as := [.ref a0, .int (ii 1), .int (ii 128)]) (rest := [.int (eI h (fR h a0 16) (ii 2)), .ref (fR (sI h3 (fR h a0 17) (eI h (fR h a0 16) (ii 2)) v3) a0 18)]) rfl rfl (mF fc219 (by rfl))).trans (andR (GoCi_congr fun v4 h4 => ?_))
      refine (G_iastore (mF fc219 (by rfl))).trans (andR ?_)
      refine (G_aload rfl (mF fc219 (by rfl))).trans ?_
      refine (G_getR (c := 12) (k := 19) rfl rfl rfl (mF fc219 (by rfl))).trans (andR ?_)
      refine (G_iload rfl (mF fc219 (by rfl))).trans ?_
      refine (G_aload rfl (mF fc219 (by rfl))).trans ?_
      refine (G_iconst (mF fc219 (by rfl))).trans ?_
      refine (G_aload rfl (mF fc219 (by rfl))).trans ?_
      refine (G_Vi (q := 111297) (y := 217) (a := a0) (c := 12) rfl rfl rfl rfl (by decide) rfl (as := [.ref a0]) (rest := [.int (ii 0), .ref a0, .int (eI h (fR h a0 16) (ii 2)), .ref (fR (sI h4 (fR (sI h3 (fR h a0 17) (eI h (fR h a0 16) (ii 2)) v3) a0 18) (eI h (fR h a0 16) (ii 2)) v4) a0 19)]) rfl rfl (mF fc219 (by rfl))).trans (andR (GoCi_congr fun v5 h5 => ?_))
      refine (G_Vi (q := 110275) (y := 215) (a := a0) (c := 12) rfl rfl rfl rfl (by decide) rfl (as := [.ref a0, .int (ii 0), .int v5]) (rest := [.int (eI h (fR h a0 16) (ii 2)), .ref (fR (sI h4 (fR (sI h3 (fR h a0 17) (eI h (fR h a0 16) (ii 2)) v3) a0 18) (eI h (fR h a0 16) (ii 2)) v4) a0 19)]) rfl rfl (mF fc219 (by rfl))).trans (andR (GoCi_congr fun v6 h6 => ?_))
      refine (G_iastore (mF fc219 (by rfl))).trans (andR ?_)
      refine (G_aload rfl (mF fc219 (by rfl))).trans ?_
      refine (G_getR (c := 12) (k := 20) rfl rfl rfl (mF fc219 (by rfl))).trans (andR ?_)
      refine (G_iload rfl (mF fc219 (by rfl))).trans ?_
      refine (G_aload rfl (mF fc219 (by rfl))).trans ?_
      refine (G_iconst (mF fc219 (by rfl))).trans ?_
      refine (G_iconst (mF fc219 (by rfl))).trans ?_
      refine (G_Vi (q := 110275) (y := 215) (a := a0) (c := 12) rfl rfl rfl rfl (by decide) rfl (as := [.ref a0, .int (ii 0), .int (ii 99)]) (rest := [.int (eI h (fR h a0 16) (ii 2)), .ref (fR (sI h6 (fR (sI h4 (fR (sI h3 (fR h a0 17) (eI h (fR h a0 16) (ii 2)) v3) a0 18) (eI h (fR h a0 16) (ii 2)) v4) a0 19) (eI h (fR h a0 16) (ii 2)) v6) a0 20)]) rfl rfl (mF fc219 (by rfl))).trans (andR (GoCi_congr fun v7 h7 => ?_))
      refine (G_iastore (mF fc219 (by rfl))).trans (andR ?_)
      refine (G_aload rfl (mF fc219 (by rfl))).trans ?_
      refine (G_getR (c := 12) (k := 16) rfl rfl rfl (mF fc219 (by rfl))).trans (andR ?_)
      refine (G_iconst (mF fc219 (by rfl))).trans ?_
      refine (G_dup2r (mF fc219 (by rfl))).trans ?_
      refine (G_iaload (mF fc219 (by rfl))).trans (andR ?_)
      refine (G_iconst (mF fc219 (by rfl))).trans ?_
      refine (G_iadd (mF fc219 (by rfl))).trans ?_
      refine (G_iastore (mF fc219 (by rfl))).trans (andR ?_)
      refine (G_goto (mF fc219 (by rfl))).trans ?_
      exact G_return rfl (mF fc219 (by rfl))
    ·
      refine gi ?_ ?_
      ·
        refine (G_aload rfl (mF fc219 (by rfl))).trans ?_
        refine (G_getR (c := 12) (k := 21) rfl rfl rfl (mF fc219 (by rfl))).trans (andR ?_)
        refine (G_aload rfl (mF fc219 (by rfl))).trans ?_
        refine (G_getR (c := 12) (k := 16) rfl rfl rfl (mF fc219 (by rfl))).trans (andR ?_)
        refine (G_iconst (mF fc219 (by rfl))).trans ?_
        refine (G_iaload (mF fc219 (by rfl))).trans (andR ?_)
        refine (G_aload rfl (mF fc219 (by rfl))).trans ?_
        refine (G_iconst (mF fc219 (by rfl))).trans ?_
        refine (G_aload rfl (mF fc219 (by rfl))).trans ?_
        refine (G_getR (c := 12) (k := 16) rfl rfl rfl (mF fc219 (by rfl))).trans (andR ?_)
        refine (G_iconst (mF fc219 (by rfl))).trans ?_
        refine (G_iaload (mF fc219 (by rfl))).trans (andR ?_)
        refine (G_iconst (mF fc219 (by rfl))).trans ?_
        refine (G_isub (mF fc219 (by rfl))).trans ?_
        refine (G_Vi (q := 110275) (y := 215) (a := a0) (c := 12) rfl rfl rfl rfl (by decide) rfl (as := [.ref a0, .int (ii 0), .int ((eI h (fR h a0 16) (ii 0)) - (ii 1))]) (rest := [.int (eI h (fR h a0 16) (ii 3)), .ref (fR h a0 21)]) rfl rfl (mF fc219 (by rfl))).trans (andR (GoCi_congr fun v8 h8 => ?_))
        refine (G_iastore (mF fc219 (by rfl))).trans (andR ?_)
        refine (G_aload rfl (mF fc219 (by rfl))).trans ?_
        refine (G_getR (c := 12) (k := 16) rfl rfl rfl (mF fc219 (by rfl))).trans (andR ?_)
        refine (G_iconst (mF fc219 (by rfl))).trans ?_
        refine (G_dup2r (mF fc219 (by rfl))).trans ?_
        refine (G_iaload (mF fc219 (by rfl))).trans (andR ?_)
        refine (G_iconst (mF fc219 (by rfl))).trans ?_
        refine (G_iadd (mF fc219 (by rfl))).trans ?_
        refine (G_iastore (mF fc219 (by rfl))).trans (andR ?_)
        refine (G_goto (mF fc219 (by rfl))).trans ?_
        exact G_return rfl (mF fc219 (by rfl))
      ·
        refine gi ?_ ?_
        ·
          refine (G_aload rfl (mF fc219 (by rfl))).trans ?_
          refine (G_Vv (q := 111809) (y := 218) (a := a0) (c := 12) rfl rfl rfl rfl (by decide) rfl (as := [.ref a0]) (rest := []) rfl rfl (mF fc219 (by rfl))).trans (andR (GoCv_congr fun h9 => ?_))
          refine (G_goto (mF fc219 (by rfl))).trans ?_
          exact G_return rfl (mF fc219 (by rfl))
        ·
          refine (G_aload rfl (mF fc219 (by rfl))).trans ?_
          refine (G_getR (c := 12) (k := 16) rfl rfl rfl (mF fc219 (by rfl))).trans (andR ?_)
          refine (G_iconst (mF fc219 (by rfl))).trans ?_
          refine (G_iaload (mF fc219 (by rfl))).trans (andR ?_)
          refine (G_istore (k := 2) (L' := [some (.ref a0), some (.int x1), some (.int (eI h (fR h a0 16) (ii 5)))]) rfl (ltb rfl) rfl (mF fc219 (by rfl))).trans ?_
          refine (G_aload rfl (mF fc219 (by rfl))).trans ?_
          refine (G_getR (c := 12) (k := 25) rfl rfl rfl (mF fc219 (by rfl))).trans (andR ?_)
          refine (G_iload rfl (mF fc219 (by rfl))).trans ?_
          refine (G_aload rfl (mF fc219 (by rfl))).trans ?_
          refine (G_iconst (mF fc219 (by rfl))).trans ?_
          refine (G_aload rfl (mF fc219 (by rfl))).trans ?_
          refine (G_getR (c := 12) (k := 16) rfl rfl rfl (mF fc219 (by rfl))).trans (andR ?_)
          refine (G_iconst (mF fc219 (by rfl))).trans ?_
          refine (G_iaload (mF fc219 (by rfl))).trans (andR ?_)
          refine (G_iconst (mF fc219 (by rfl))).trans ?_
          refine (G_isub (mF fc219 (by rfl))).trans ?_
          refine (G_Vi (q := 110275) (y := 215) (a := a0) (c := 12) rfl rfl rfl rfl (by decide) rfl (as := [.ref a0, .int (ii 0), .int ((eI h (fR h a0 16) (ii 0)) - (ii 1))]) (rest := [.int (eI h (fR h a0 16) (ii 5)), .ref (fR h a0 25)]) rfl rfl (mF fc219 (by rfl))).trans (andR (GoCi_congr fun v10 h10 => ?_))
          refine (G_iastore (mF fc219 (by rfl))).trans (andR ?_)
          refine (G_aload rfl (mF fc219 (by rfl))).trans ?_
          refine (G_getR (c := 12) (k := 26) rfl rfl rfl (mF fc219 (by rfl))).trans (andR ?_)
          refine (G_iload rfl (mF fc219 (by rfl))).trans ?_
          refine (G_aload rfl (mF fc219 (by rfl))).trans ?_
          refine (G_iconst (mF fc219 (by rfl))).trans ?_
          refine (G_iconst (mF fc219 (by rfl))).trans ?_
          refine (G_Vi (q := 110275) (y := 215) (a := a0) (c := 12) rfl rfl rfl rfl (by decide) rfl (as := [.ref a0, .int (ii 1), .int (ii 99)]) (rest := [.int (eI h (fR h a0 16) (ii 5)), .ref (fR (sI h10 (fR h a0 25) (eI h (fR h a0 16) (ii 5)) v10) a0 26)]) rfl rfl (mF fc219 (by rfl))).trans (andR (GoCi_congr fun v11 h11 => ?_))
          refine (G_iastore (mF fc219 (by rfl))).trans (andR ?_)
          refine (G_aload rfl (mF fc219 (by rfl))).trans ?_
          refine (G_getR (c := 12) (k := 16) rfl rfl rfl (mF fc219 (by rfl))).trans (andR ?_)
          refine (G_iconst (mF fc219 (by rfl))).trans ?_
          refine (G_dup2r (mF fc219 (by rfl))).trans ?_
          refine (G_iaload (mF fc219 (by rfl))).trans (andR ?_)
          refine (G_iconst (mF fc219 (by rfl))).trans ?_
          refine (G_iadd (mF fc219 (by rfl))).trans ?_
          refine (G_iastore (mF fc219 (by rfl))).trans (andR ?_)
          exact G_return rfl (mF fc219 (by rfl))
theorem b219_67 {d : Nat} {h : mHeap} {Q : Option Value → mHeap → Prop} {l0 : Option Value} {l1 : Option Value} {l2 : Option Value} {r0 : Nat} {s1 : Int32} {r2 : Nat} {s3 : Int32} {s4 : Int32} : Go d 219 67 [l0, l1, l2] [.int s4, .int s3, .ref r2, .int s1, .ref r0] h Q ↔ oC h r2 = 12 ∧ GoCi d 215 [.ref r2, .int s3, .int s4] h (fun v1 h1 => (64 ≤ r0 ∧ okA h1 r0 .int s1) ∧ Q none (sI h1 r0 s1 v1)) := by
  refine (G_Vi (q := 110275) (y := 215) (a := r2) (c := 12) rfl rfl rfl rfl (by decide) rfl (as := [.ref r2, .int s3, .int s4]) (rest := [.int s1, .ref r0]) rfl rfl (mF fc219 (by rfl))).trans (andR (GoCi_congr fun v1 h1 => ?_))
  refine (G_iastore (mF fc219 (by rfl))).trans (andR ?_)
  refine (G_goto (mF fc219 (by rfl))).trans ?_
  exact G_return rfl (mF fc219 (by rfl))
theorem e219 {d : Nat} {h : mHeap} {K : mHeap → Prop} {a0 : Nat} {x1 : Int32} : GoCv (d + 1) 219 [.ref a0, .int x1] h K ↔ Go d 219 0 [some (.ref a0), some (.int x1), none] [] h (rV K) := GoCv_entry rfl rfl
set_option maxRecDepth 20000 in
theorem fc220 : mCodes[220]? = some mc220 := rfl
theorem b220_0 {d : Nat} {h : mHeap} {Q : Option Value → mHeap → Prop} {a0 : Nat} {x1 : Int32} {x2 : Int32} : Go d 220 0 [some (.ref a0), some (.int x1), some (.int x2)] [] h Q ↔ (if x2 = (ii 40) then (((ii 1) = ii 0 ∨ (ii 1) = ii 1) ∧ Q (some (.int (ii 1))) h) else ((if ¬ x1 = ii 0 then (Go d 220 15 [some (.ref a0), some (.int x1), some (.int x2)] [.int (ii 0)] h Q) else (Go d 220 15 [some (.ref a0), some (.int x1), some (.int x2)] [.int (ii 1)] h Q)))) := by
  refine (G_iload rfl (mF fc220 (by rfl))).trans ?_
  refine (G_iconst (mF fc220 (by rfl))).trans ?_
  refine (G_ieq (mF fc220 (by rfl))).trans (gi ?_ ?_)
  ·
    refine (G_iconst (mF fc220 (by rfl))).trans ?_
    exact G_ireturnZ rfl (mF fc220 (by rfl))
  ·
    refine (G_iload rfl (mF fc220 (by rfl))).trans ?_
    refine (G_ne (mF fc220 (by rfl))).trans (gi ?_ ?_)
    ·
      refine (G_iconst (mF fc220 (by rfl))).trans ?_
      exact Iff.rfl
    ·
      refine (G_iconst (mF fc220 (by rfl))).trans ?_
      refine (G_goto (mF fc220 (by rfl))).trans ?_
      exact Iff.rfl
theorem b220_15 {d : Nat} {h : mHeap} {Q : Option Value → mHeap → Prop} {a0 : Nat} {x1 : Int32} {x2 : Int32} {s0 : Int32} : Go d 220 15 [some (.ref a0), some (.int x1), some (.int x2)] [.int s0] h Q ↔ (if ¬ x2 = ii 0 then (Go d 220 24 [some (.ref a0), some (.int x1), some (.int x2)] [.int (ii 0), .int s0] h Q) else (Go d 220 24 [some (.ref a0), some (.int x1), some (.int x2)] [.int (ii 1), .int s0] h Q)) := by
  refine (G_iload rfl (mF fc220 (by rfl))).trans ?_
  refine (G_ne (mF fc220 (by rfl))).trans (gi ?_ ?_)
  ·
    refine (G_iconst (mF fc220 (by rfl))).trans ?_
    exact Iff.rfl
  ·
    refine (G_iconst (mF fc220 (by rfl))).trans ?_
    refine (G_goto (mF fc220 (by rfl))).trans ?_
    exact Iff.rfl
theorem b220_24 {d : Nat} {h : mHeap} {Q : Option Value → mHeap → Prop} {a0 : Nat} {x1 : Int32} {l2 : Option Value} {s0 : Int32} {s1 : Int32} : Go d 220 24 [some (.ref a0), some (.int x1), l2] [.int s1, .int s0] h Q ↔ (if s0 = s1 then ((if x1 = ii 1 then (okF h a0 12 16 2 ∧ okA h (fR h a0 16) .int (ii 2) ∧ (if ¬ (eI h (fR h a0 16) (ii 2)) = (ii 6) then (((ii 0) = ii 0 ∨ (ii 0) = ii 1) ∧ Q (some (.int (ii 0))) h) else (((ii 1) = ii 0 ∨ (ii 1) = ii 1) ∧ Q (some (.int (ii 1))) h))) else (if x1 = ii 2 then (okF h a0 12 16 2 ∧ okA h (fR h a0 16) .int (ii 3) ∧ (if ¬ (eI h (fR h a0 16) (ii 3)) = (ii 6) then (((ii 0) = ii 0 ∨ (ii 0) = ii 1) ∧ Q (some (.int (ii 0))) h) else (((ii 1) = ii 0 ∨ (ii 1) = ii 1) ∧ Q (some (.int (ii 1))) h))) else (if x1 = ii 3 then (okF h a0 12 16 2 ∧ okA h (fR h a0 16) .int (ii 4) ∧ (if ¬ (eI h (fR h a0 16) (ii 4)) = (ii 10) then (((ii 0) = ii 0 ∨ (ii 0) = ii 1) ∧ Q (some (.int (ii 0))) h) else (((ii 1) = ii 0 ∨ (ii 1) = ii 1) ∧ Q (some (.int (ii 1))) h))) else (if x1 = ii 4 then (okF h a0 12 16 2 ∧ okA h (fR h a0 16) .int (ii 5) ∧ (if ¬ (eI h (fR h a0 16) (ii 5)) = (ii 8) then (((ii 0) = ii 0 ∨ (ii 0) = ii 1) ∧ Q (some (.int (ii 0))) h) else (((ii 1) = ii 0 ∨ (ii 1) = ii 1) ∧ Q (some (.int (ii 1))) h))) else (((ii 0) = ii 0 ∨ (ii 0) = ii 1) ∧ Q (some (.int (ii 0))) h)))))) else (((ii 1) = ii 0 ∨ (ii 1) = ii 1) ∧ Q (some (.int (ii 1))) h)) := by
  refine (G_ieq (mF fc220 (by rfl))).trans (gi ?_ ?_)
  ·
    refine (G_iload rfl (mF fc220 (by rfl))).trans ?_
    refine (G_tableswitch (lo := 1) (hi := 4) [60, 77, 94, 111] rfl (by decide) (by decide) (by decide) (mF fc220 (by rfl))).trans ?_
    refine gi ?_ ?_
    ·
      refine (G_aload rfl (mF fc220 (by rfl))).trans ?_
      refine (G_getR (c := 12) (k := 16) rfl rfl rfl (mF fc220 (by rfl))).trans (andR ?_)
      refine (G_iconst (mF fc220 (by rfl))).trans ?_
      refine (G_iaload (mF fc220 (by rfl))).trans (andR ?_)
      refine (G_iconst (mF fc220 (by rfl))).trans ?_
      refine (G_ine (mF fc220 (by rfl))).trans (gi ?_ ?_)
      ·
        refine (G_iconst (mF fc220 (by rfl))).trans ?_
        exact G_ireturnZ rfl (mF fc220 (by rfl))
      ·
        refine (G_iconst (mF fc220 (by rfl))).trans ?_
        refine (G_goto (mF fc220 (by rfl))).trans ?_
        exact G_ireturnZ rfl (mF fc220 (by rfl))
    ·
      refine gi ?_ ?_
      ·
        refine (G_aload rfl (mF fc220 (by rfl))).trans ?_
        refine (G_getR (c := 12) (k := 16) rfl rfl rfl (mF fc220 (by rfl))).trans (andR ?_)
        refine (G_iconst (mF fc220 (by rfl))).trans ?_
        refine (G_iaload (mF fc220 (by rfl))).trans (andR ?_)
        refine (G_iconst (mF fc220 (by rfl))).trans ?_
        refine (G_ine (mF fc220 (by rfl))).trans (gi ?_ ?_)
        ·
          refine (G_iconst (mF fc220 (by rfl))).trans ?_
          exact G_ireturnZ rfl (mF fc220 (by rfl))
        ·
          refine (G_iconst (mF fc220 (by rfl))).trans ?_
          refine (G_goto (mF fc220 (by rfl))).trans ?_
          exact G_ireturnZ rfl (mF fc220 (by rfl))
      ·
        refine gi ?_ ?_
        ·
          refine (G_aload rfl (mF fc220 (by rfl))).trans ?_
          refine (G_getR (c := 12) (k := 16) rfl rfl rfl (mF fc220 (by rfl))).trans (andR ?_)
          refine (G_iconst (mF fc220 (by rfl))).trans ?_
          refine (G_iaload (mF fc220 (by rfl))).trans (andR ?_)
          refine (G_iconst (mF fc220 (by rfl))).trans ?_
          refine (G_ine (mF fc220 (by rfl))).trans (gi ?_ ?_)
          ·
            refine (G_iconst (mF fc220 (by rfl))).trans ?_
            exact G_ireturnZ rfl (mF fc220 (by rfl))
          ·
            refine (G_iconst (mF fc220 (by rfl))).trans ?_
            refine (G_goto (mF fc220 (by rfl))).trans ?_
            exact G_ireturnZ rfl (mF fc220 (by rfl))
        ·
          refine gi ?_ ?_
          ·
            refine (G_aload rfl (mF fc220 (by rfl))).trans ?_
            refine (G_getR (c := 12) (k := 16) rfl rfl rfl (mF fc220 (by rfl))).trans (andR ?_)
            refine (G_iconst (mF fc220 (by rfl))).trans ?_
            refine (G_iaload (mF fc220 (by rfl))).trans (andR ?_)
            refine (G_iconst (mF fc220 (by rfl))).trans ?_
            refine (G_ine (mF fc220 (by rfl))).trans (gi ?_ ?_)
            ·
              refine (G_iconst (mF fc220 (by rfl))).trans ?_
              exact G_ireturnZ rfl (mF fc220 (by rfl))
            ·
              refine (G_iconst (mF fc220 (by rfl))).trans ?_
              refine (G_goto (mF fc220 (by rfl))).trans ?_
              exact G_ireturnZ rfl (mF fc220 (by rfl))
          ·
            refine (G_iconst (mF fc220 (by rfl))).trans ?_
            exact G_ireturnZ rfl (mF fc220 (by rfl))
  ·
    refine (G_iconst (mF fc220 (by rfl))).trans ?_
    exact G_ireturnZ rfl (mF fc220 (by rfl))
theorem e220 {d : Nat} {h : mHeap} {K : Int32 → mHeap → Prop} {a0 : Nat} {x1 : Int32} {x2 : Int32} : GoCi (d + 1) 220 [.ref a0, .int x1, .int x2] h K ↔ Go d 220 0 [some (.ref a0), some (.int x1), some (.int x2)] [] h (rI K) := GoCi_entry rfl rfl
set_option maxRecDepth 20000 in
theorem fc221 : mCodes[221]? = some mc221 := rfl
theorem b221_0 {d : Nat} {h : mHeap} {Q : Option Value → mHeap → Prop} {a0 : Nat} {x1 : Int32} : Go d 221 0 [some (.ref a0), some (.int x1), none, none] [] h Q ↔ oC h a0 = 12 ∧ GoCv d 199 [.ref a0] h (fun h1 => okF h1 a0 12 28 0 ∧ Go d 221 11 [some (.ref a0), some (.int x1), some (.int (fI h1 a0 28)), some (.int (ii 0))] [] h1 Q) := by
  refine (G_aload rfl (mF fc221 (by rfl))).trans ?_
  refine (G_Vv (q := 102081) (y := 199) (a := a0) (c := 12) rfl rfl rfl rfl (by decide) rfl (as := [.ref a0]) (rest := []) rfl rfl (mF fc221 (by rfl))).trans (andR (GoCv_congr fun h1 => ?_))
  refine (G_aload rfl (mF fc221 (by rfl))).trans ?_
  refine (G_getI (c := 12) (k := 28) rfl rfl rfl (mF fc221 (by rfl))).trans (andR ?_)
  refine (G_istore (k := 2) (L' := [some (.ref a0), some (.int x1), some (.int (fI h1 a0 28)), none]) rfl (ltb rfl) rfl (mF fc221 (by rfl))).trans ?_
  refine (G_iconst (mF fc221 (by rfl))).trans ?_
  refine (G_istore (k := 3) (L' := [some (.ref a0), some (.int x1), some (.int (fI h1 a0 28)), some (.int (ii 0))]) rfl (ltb rfl) rfl (mF fc221 (by rfl))).trans ?_
  exact Iff.rfl
theorem b221_11 {d : Nat} {h : mHeap} {Q : Option Value → mHeap → Prop} {a0 : Nat} {x1 : Int32} {x2 : Int32} {x3 : Int32} : Go d 221 11 [some (.ref a0), some (.int x1), some (.int x2), some (.int x3)] [] h Q ↔ (if (ii 5) ≤ x3 then (Go d 221 33 [some (.ref a0), some (.int x1), some (.int x2), some (.int x3)] [] h Q) else (GoCr d 216 [.int x3] h (fun v1 h1 => oC h1 a0 = 12 ∧ GoCi d 201 [.ref a0, .ref v1] h1 (fun v2 h2 => (if ¬ v2 = ii 0 then (Go d 221 33 [some (.ref a0), some (.int x1), some (.int x2), some (.int x3)] [] h2 Q) else (Go d 221 11 [some (.ref a0), some (.int x1), some (.int x2), some (.int (x3 + ii 1))] [] h2 Q)))))) := by
  refine (G_iload rfl (mF fc221 (by rfl))).trans ?_
  refine (G_iconst (mF fc221 (by rfl))).trans ?_
  refine (G_ige (mF fc221 (by rfl))).trans (gi ?_ ?_)
  ·
    exact Iff.rfl
  ·
    refine (G_aload rfl (mF fc221 (by rfl))).trans ?_
    refine (G_iload rfl (mF fc221 (by rfl))).trans ?_
    refine (G_Tr (q := 110785) (y := 216) rfl rfl rfl (as := [.int x3]) (rest := [.ref a0]) rfl rfl (mF fc221 (by rfl))).trans (GoCr_congr fun v1 h1 => ?_)
    refine (G_Vi (q := 103106) (y := 201) (a := a0) (c := 12) rfl rfl rfl rfl (by decide) rfl (as := [.ref a0, .ref v1]) (rest := []) rfl rfl (mF fc221 (by rfl))).trans (andR (GoCi_congr fun v2 h2 => ?_))
    refine (G_ne (mF fc221 (by rfl))).trans (gi ?_ ?_)
    ·
      exact Iff.rfl
    ·
      refine (G_iinc (k := 3) (L' := [some (.ref a0), some (.int x1), some (.int x2), some (.int (x3 + ii 1))]) rfl rfl rfl (mF fc221 (by rfl))).trans ?_
      refine (G_goto (mF fc221 (by rfl))).trans ?_
      exact Iff.rfl
theorem b221_33 {d : Nat} {h : mHeap} {Q : Option Value → mHeap → Prop} {a0 : Nat} {x1 : Int32} {x2 : Int32} {x3 : Int32} : Go d 221 33 [some (.ref a0), some (.int x1), some (.int x2), some (.int x3)] [] h Q ↔ (if ¬ x3 = (ii 5) then (oC h a0 = 12 ∧ GoCi d 220 [.ref a0, .int x3, .int x1] h (fun v1 h1 => (if v1 = ii 0 then (okF h1 a0 12 28 0 ∧ GoCr d 216 [.int x3] h1 (fun v2 h2 => oC h2 v2 = 16 ∧ GoCi d 319 [.ref v2] h2 (fun v3 h3 => okP h3 a0 12 28 ∧ oC (sF h3 a0 28 (.int ((fI h1 a0 28) + v3))) a0 = 12 ∧ GoCv d 219 [.ref a0, .int x3] (sF h3 a0 28 (.int ((fI h1 a0 28) + v3))) (fun h4 => Q none h4)))) else (oC h1 a0 = 12 ∧ GoCv d 197 [.ref a0, .int (ii 4), .int x2] h1 (fun h5 => Q none h5))))) else (oC h a0 = 12 ∧ GoCv d 197 [.ref a0, .int (ii 0), .int x2] h (fun h6 => Q none h6))) := by
  refine (G_iload rfl (mF fc221 (by rfl))).trans ?_
  refine (G_iconst (mF fc221 (by rfl))).trans ?_
  refine (G_ine (mF fc221 (by rfl))).trans (gi ?_ ?_)
  ·
    refine (G_aload rfl (mF fc221 (by rfl))).trans ?_
    refine (G_iload rfl (mF fc221 (by rfl))).trans ?_
    refine (G_iload rfl (mF fc221 (by rfl))).trans ?_
    refine (G_Vi (q := 112835) (y := 220) (a := a0) (c := 12) rfl rfl rfl rfl (by decide) rfl (as := [.ref a0, .int x3, .int x1]) (rest := []) rfl rfl (mF fc221 (by rfl))).trans (andR (GoCi_congr fun v1 h1 => ?_))
    refine (G_eq (mF fc221 (by rfl))).trans (gi ?_ ?_)
    ·
      refine (G_aload rfl (mF fc221 (by rfl))).trans ?_
      refine (G_dupr (mF fc221 (by rfl))).trans ?_
      refine (G_getI (c := 12) (k := 28) rfl rfl rfl (mF fc221 (by rfl))).trans (andR ?_)
      refine (G_iload rfl (mF fc221 (by rfl))).trans ?_
      refine (G_Tr (q := 110785) (y := 216) rfl rfl rfl (as := [.int x3]) (rest := [.int (fI h1 a0 28), .ref a0]) rfl rfl (mF fc221 (by rfl))).trans (GoCr_congr fun v2 h2 => ?_)
      refine (G_Vi (q := 163585) (y := 319) (a := v2) (c := 16) rfl rfl rfl rfl (by decide) rfl (as := [.ref v2]) (rest := [.int (fI h1 a0 28), .ref a0]) rfl rfl (mF fc221 (by rfl))).trans (andR (GoCi_congr fun v3 h3 => ?_))
      refine (G_iadd (mF fc221 (by rfl))).trans ?_
      refine (G_putT (c := 12) (k := 28) rfl rfl rfl (mF fc221 (by rfl))).trans (andR ?_)
      refine (G_aload rfl (mF fc221 (by rfl))).trans ?_
      refine (G_iload rfl (mF fc221 (by rfl))).trans ?_
      refine (G_Vv (q := 112322) (y := 219) (a := a0) (c := 12) rfl rfl rfl rfl (by decide) rfl (as := [.ref a0, .int x3]) (rest := []) rfl rfl (mF fc221 (by rfl))).trans (andR (GoCv_congr fun h4 => ?_))
      exact G_return rfl (mF fc221 (by rfl))
    ·
      refine (G_aload rfl (mF fc221 (by rfl))).trans ?_
      refine (G_iconst (mF fc221 (by rfl))).trans ?_
      refine (G_iload rfl (mF fc221 (by rfl))).trans ?_
      refine (G_Vv (q := 101059) (y := 197) (a := a0) (c := 12) rfl rfl rfl rfl (by decide) rfl (as := [.ref a0, .int (ii 4), .int x2]) (rest := []) rfl rfl (mF fc221 (by rfl))).trans (andR (GoCv_congr fun h5 => ?_))
      exact G_return rfl (mF fc221 (by rfl))
  ·
    refine (G_aload rfl (mF fc221 (by rfl))).trans ?_
    refine (G_iconst (mF fc221 (by rfl))).trans ?_
    refine (G_iload rfl (mF fc221 (by rfl))).trans ?_
    refine (G_Vv (q := 101059) (y := 197) (a := a0) (c := 12) rfl rfl rfl rfl (by decide) rfl (as := [.ref a0, .int (ii 0), .int x2]) (rest := []) rfl rfl (mF fc221 (by rfl))).trans (andR (GoCv_congr fun h6 => ?_))
    exact G_return rfl (mF fc221 (by rfl))
theorem e221 {d : Nat} {h : mHeap} {K : mHeap → Prop} {a0 : Nat} {x1 : Int32} : GoCv (d + 1) 221 [.ref a0, .int x1] h K ↔ Go d 221 0 [some (.ref a0), some (.int x1), none, none] [] h (rV K) := GoCv_entry rfl rfl
set_option maxRecDepth 20000 in
theorem fc222 : mCodes[222]? = some mc222 := rfl
theorem b222_0 {d : Nat} {h : mHeap} {Q : Option Value → mHeap → Prop} {a0 : Nat} {a1 : Nat} : Go d 222 0 [some (.ref a0), some (.ref a1), none] [] h Q ↔ Go d 222 2 [some (.ref a0), some (.ref a1), some (.int (ii 0))] [] h Q := by
  refine (G_iconst (mF fc222 (by rfl))).trans ?_
  refine (G_istore (k := 2) (L' := [some (.ref a0), some (.ref a1), some (.int (ii 0))]) rfl (ltb rfl) rfl (mF fc222 (by rfl))).trans ?_
  exact Iff.rfl
theorem b222_2 {d : Nat} {h : mHeap} {Q : Option Value → mHeap → Prop} {a0 : Nat} {a1 : Nat} {x2 : Int32} : Go d 222 2 [some (.ref a0), some (.ref a1), some (.int x2)] [] h Q ↔ okL h a0 ∧ (if (ii (nL h a0)) ≤ x2 then (Q none h) else (okA h a0 .int x2 ∧ (64 ≤ a1 ∧ okA h a1 .int x2) ∧ Go d 222 2 [some (.ref a0), some (.ref a1), some (.int (x2 + ii 1))] [] (sI h a1 x2 (eI h a0 x2)) Q)) := by
  refine (G_iload rfl (mF fc222 (by rfl))).trans ?_
  refine (G_aload rfl (mF fc222 (by rfl))).trans ?_
  refine (G_arraylength (mF fc222 (by rfl))).trans (andR ?_)
  refine (G_ige (mF fc222 (by rfl))).trans (gi ?_ ?_)
  ·
    exact G_return rfl (mF fc222 (by rfl))
  ·
    refine (G_aload rfl (mF fc222 (by rfl))).trans ?_
    refine (G_iload rfl (mF fc222 (by rfl))).trans ?_
    refine (G_aload rfl (mF fc222 (by rfl))).trans ?_
    refine (G_iload rfl (mF fc222 (by rfl))).trans ?_
    refine (G_iaload (mF fc222 (by rfl))).trans (andR ?_)
    refine (G_iastore (mF fc222 (by rfl))).trans (andR ?_)
    refine (G_iinc (k := 2) (L' := [some (.ref a0), some (.ref a1), some (.int (x2 + ii 1))]) rfl rfl rfl (mF fc222 (by rfl))).trans ?_
    refine (G_goto (mF fc222 (by rfl))).trans ?_
    exact Iff.rfl
theorem e222 {d : Nat} {h : mHeap} {K : mHeap → Prop} {a0 : Nat} {a1 : Nat} : GoCv (d + 1) 222 [.ref a0, .ref a1] h K ↔ Go d 222 0 [some (.ref a0), some (.ref a1), none] [] h (rV K) := GoCv_entry rfl rfl
set_option maxRecDepth 20000 in
theorem fc223 : mCodes[223]? = some mc223 := rfl
theorem b223_0 {d : Nat} {h : mHeap} {Q : Option Value → mHeap → Prop} {a0 : Nat} : Go d 223 0 [some (.ref a0), none] [] h Q ↔ oC h a0 = 12 ∧ GoCv d 199 [.ref a0] h (fun h1 => okF h1 a0 12 29 0 ∧ (if ¬ (fI h1 a0 29) = ii 0 then (Go d 223 40 [some (.ref a0), none] [] h1 Q) else (okF h1 a0 12 28 0 ∧ okF h1 a0 12 27 0 ∧ (if (fI h1 a0 27) ≤ (fI h1 a0 28) then (Go d 223 40 [some (.ref a0), none] [] h1 Q) else (oC h1 a0 = 12 ∧ GoCi d 198 [.ref a0] h1 (fun v2 h2 => (if v2 = (ii 59) then (Go d 223 40 [some (.ref a0), none] [] h2 Q) else (okF h2 a0 12 28 0 ∧ oC h2 a0 = 12 ∧ GoCv d 197 [.ref a0, .int (ii 0), .int (fI h2 a0 28)] h2 (fun h3 => Go d 223 40 [some (.ref a0), none] [] h3 Q))))))))) := by
  refine (G_aload rfl (mF fc223 (by rfl))).trans ?_
  refine (G_Vv (q := 102081) (y := 199) (a := a0) (c := 12) rfl rfl rfl rfl (by decide) rfl (as := [.ref a0]) (rest := []) rfl rfl (mF fc223 (by rfl))).trans (andR (GoCv_congr fun h1 => ?_))
  refine (G_aload rfl (mF fc223 (by rfl))).trans ?_
  refine (G_getI (c := 12) (k := 29) rfl rfl rfl (mF fc223 (by rfl))).trans (andR ?_)
  refine (G_ne (mF fc223 (by rfl))).trans (gi ?_ ?_)
  ·
    exact Iff.rfl
  ·
    refine (G_aload rfl (mF fc223 (by rfl))).trans ?_
    refine (G_getI (c := 12) (k := 28) rfl rfl rfl (mF fc223 (by rfl))).trans (andR ?_)
    refine (G_aload rfl (mF fc223 (by rfl))).trans ?_
    refine (G_getI (c := 12) (k := 27) rfl rfl rfl (mF fc223 (by rfl))).trans (andR ?_)
    refine (G_ige (mF fc223 (by rfl))).trans (gi ?_ ?_)
    ·
      exact Iff.rfl
    ·
      refine (G_aload rfl (mF fc223 (by rfl))).trans ?_
      refine (G_Vi (q := 101569) (y := 198) (a := a0) (c := 12) rfl rfl rfl rfl (by decide) rfl (as := [.ref a0]) (rest := []) rfl rfl (mF fc223 (by rfl))).trans (andR (GoCi_congr fun v2 h2 => ?_))
      refine (G_iconst (mF fc223 (by rfl))).trans ?_
      refine (G_ieq (mF fc223 (by rfl))).trans (gi ?_ ?_)
      ·
        exact Iff.rfl
      ·
        refine (G_aload rfl (mF fc223 (by rfl))).trans ?_
        refine (G_iconst (mF fc223 (by rfl))).trans ?_
        refine (G_aload rfl (mF fc223 (by rfl))).trans ?_
        refine (G_getI (c := 12) (k := 28) rfl rfl rfl (mF fc223 (by rfl))).trans (andR ?_)
        refine (G_Vv (q := 101059) (y := 197) (a := a0) (c := 12) rfl rfl rfl rfl (by decide) rfl (as := [.ref a0, .int (ii 0), .int (fI h2 a0 28)]) (rest := []) rfl rfl (mF fc223 (by rfl))).trans (andR (GoCv_congr fun h3 => ?_))
        exact Iff.rfl
theorem b223_40 {d : Nat} {h : mHeap} {Q : Option Value → mHeap → Prop} {a0 : Nat} {l1 : Option Value} : Go d 223 40 [some (.ref a0), l1] [] h Q ↔ okF h a0 12 29 0 ∧ (if ¬ (fI h a0 29) = ii 0 then (Go d 223 62 [some (.ref a0), l1] [] h Q) else (okF h a0 12 28 0 ∧ okF h a0 12 27 0 ∧ (if (fI h a0 27) ≤ (fI h a0 28) then (Go d 223 62 [some (.ref a0), l1] [] h Q) else (Go d 223 63 [some (.ref a0), l1] [.int (ii 1)] h Q)))) := by
  refine (G_aload rfl (mF fc223 (by rfl))).trans ?_
  refine (G_getI (c := 12) (k := 29) rfl rfl rfl (mF fc223 (by rfl))).trans (andR ?_)
  refine (G_ne (mF fc223 (by rfl))).trans (gi ?_ ?_)
  ·
    exact Iff.rfl
  ·
    refine (G_aload rfl (mF fc223 (by rfl))).trans ?_
    refine (G_getI (c := 12) (k := 28) rfl rfl rfl (mF fc223 (by rfl))).trans (andR ?_)
    refine (G_aload rfl (mF fc223 (by rfl))).trans ?_
    refine (G_getI (c := 12) (k := 27) rfl rfl rfl (mF fc223 (by rfl))).trans (andR ?_)
    refine (G_ige (mF fc223 (by rfl))).trans (gi ?_ ?_)
    ·
      exact Iff.rfl
    ·
      refine (G_iconst (mF fc223 (by rfl))).trans ?_
      refine (G_goto (mF fc223 (by rfl))).trans ?_
      exact Iff.rfl
theorem b223_62 {d : Nat} {h : mHeap} {Q : Option Value → mHeap → Prop} {a0 : Nat} {l1 : Option Value} : Go d 223 62 [some (.ref a0), l1] [] h Q ↔ Go d 223 63 [some (.ref a0), l1] [.int (ii 0)] h Q := by
  refine (G_iconst (mF fc223 (by rfl))).trans ?_
  exact Iff.rfl
theorem b223_63 {d : Nat} {h : mHeap} {Q : Option Value → mHeap → Prop} {a0 : Nat} {l1 : Option Value} {s0 : Int32} : Go d 223 63 [some (.ref a0), l1] [.int s0] h Q ↔ okF h a0 12 28 0 ∧ okP h a0 12 28 ∧ (s0 = ii 0 ∨ s0 = ii 1) ∧ Q (some (.int s0)) (sF h a0 28 (.int ((fI h a0 28) + (ii 1)))) := by
  refine (G_istore (k := 1) (L' := [some (.ref a0), some (.int s0)]) rfl (ltb rfl) rfl (mF fc223 (by rfl))).trans ?_
  refine (G_aload rfl (mF fc223 (by rfl))).trans ?_
  refine (G_dupr (mF fc223 (by rfl))).trans ?_
  refine (G_getI (c := 12) (k := 28) rfl rfl rfl (mF fc223 (by rfl))).trans (andR ?_)
  refine (G_iconst (mF fc223 (by rfl))).trans ?_
  refine (G_iadd (mF fc223 (by rfl))).trans ?_
  refine (G_putT (c := 12) (k := 28) rfl rfl rfl (mF fc223 (by rfl))).trans (andR ?_)
  refine (G_iload rfl (mF fc223 (by rfl))).trans ?_
  exact G_ireturnZ rfl (mF fc223 (by rfl))
theorem e223 {d : Nat} {h : mHeap} {K : Int32 → mHeap → Prop} {a0 : Nat} : GoCi (d + 1) 223 [.ref a0] h K ↔ Go d 223 0 [some (.ref a0), none] [] h (rI K) := GoCi_entry rfl rfl
set_option maxRecDepth 20000 in
theorem fc224 : mCodes[224]? = some mc224 := rfl
theorem b224_0 {d : Nat} {h : mHeap} {Q : Option Value → mHeap → Prop} {a0 : Nat} : Go d 224 0 [some (.ref a0)] [] h Q ↔ okP h a0 12 28 ∧ okP (sF h a0 28 (.int (ii 0))) a0 12 29 ∧ okP (sF (sF h a0 28 (.int (ii 0))) a0 29 (.int (ii 0))) a0 12 33 ∧ okP (sF (sF (sF h a0 28 (.int (ii 0))) a0 29 (.int (ii 0))) a0 33 (.int (ii 0))) a0 12 34 ∧ okP (sF (sF (sF (sF h a0 28 (.int (ii 0))) a0 29 (.int (ii 0))) a0 33 (.int (ii 0))) a0 34 (.int (ii 0))) a0 12 35 ∧ Q none (sF (sF (sF (sF (sF h a0 28 (.int (ii 0))) a0 29 (.int (ii 0))) a0 33 (.int (ii 0))) a0 34 (.int (ii 0))) a0 35 (.int (ii 0))) := by
  refine (G_aload rfl (mF fc224 (by rfl))).trans ?_
  refine (G_iconst (mF fc224 (by rfl))).trans ?_
  refine (G_putT (c := 12) (k := 28) rfl rfl rfl (mF fc224 (by rfl))).trans (andR ?_)
  refine (G_aload rfl (mF fc224 (by rfl))).trans ?_
  refine (G_iconst (mF fc224 (by rfl))).trans ?_
  refine (G_putT (c := 12) (k := 29) rfl rfl rfl (mF fc224 (by rfl))).trans (andR ?_)
  refine (G_aload rfl (mF fc224 (by rfl))).trans ?_
  refine (G_iconst (mF fc224 (by rfl))).trans ?_
  refine (G_putT (c := 12) (k := 33) rfl rfl rfl (mF fc224 (by rfl))).trans (andR ?_)
  refine (G_aload rfl (mF fc224 (by rfl))).trans ?_
  refine (G_iconst (mF fc224 (by rfl))).trans ?_
  refine (G_putT (c := 12) (k := 34) rfl rfl rfl (mF fc224 (by rfl))).trans (andR ?_)
  refine (G_aload rfl (mF fc224 (by rfl))).trans ?_
  refine (G_iconst (mF fc224 (by rfl))).trans ?_
  refine (G_putT (c := 12) (k := 35) rfl rfl rfl (mF fc224 (by rfl))).trans (andR ?_)
  exact G_return rfl (mF fc224 (by rfl))
theorem e224 {d : Nat} {h : mHeap} {K : mHeap → Prop} {a0 : Nat} : GoCv (d + 1) 224 [.ref a0] h K ↔ Go d 224 0 [some (.ref a0)] [] h (rV K) := GoCv_entry rfl rfl
set_option maxRecDepth 20000 in
theorem fc225 : mCodes[225]? = some mc225 := rfl
theorem b225_0 {d : Nat} {h : mHeap} {Q : Option Value → mHeap → Prop} {a0 : Nat} : Go d 225 0 [some (.ref a0), none, none] [] h Q ↔ oC h a0 = 12 ∧ GoCv d 224 [.ref a0] h (fun h1 => Go d 225 6 [some (.ref a0), some (.int (ii 0)), none] [] h1 Q) := by
  refine (G_aload rfl (mF fc225 (by rfl))).trans ?_
  refine (G_Vv (q := 114881) (y := 224) (a := a0) (c := 12) rfl rfl rfl rfl (by decide) rfl (as := [.ref a0]) (rest := []) rfl rfl (mF fc225 (by rfl))).trans (andR (GoCv_congr fun h1 => ?_))
  refine (G_iconst (mF fc225 (by rfl))).trans ?_
  refine (G_istore (k := 1) (L' := [some (.ref a0), some (.int (ii 0)), none]) rfl (ltb rfl) rfl (mF fc225 (by rfl))).trans ?_
  exact Iff.rfl
theorem b225_6 {d : Nat} {h : mHeap} {Q : Option Value → mHeap → Prop} {a0 : Nat} {x1 : Int32} {l2 : Option Value} : Go d 225 6 [some (.ref a0), some (.int x1), l2] [] h Q ↔ (if (ii 6) ≤ x1 then (Go d 225 29 [some (.ref a0), some (.int (ii 0)), some (.int (ii 1))] [] h Q) else (okF h a0 12 16 2 ∧ (64 ≤ (fR h a0 16) ∧ okA h (fR h a0 16) .int x1) ∧ Go d 225 6 [some (.ref a0), some (.int (x1 + ii 1)), l2] [] (sI h (fR h a0 16) x1 (ii 0)) Q)) := by
  refine (G_iload rfl (mF fc225 (by rfl))).trans ?_
  refine (G_iconst (mF fc225 (by rfl))).trans ?_
  refine (G_ige (mF fc225 (by rfl))).trans (gi ?_ ?_)
  ·
    refine (G_iconst (mF fc225 (by rfl))).trans ?_
    refine (G_istore (k := 1) (L' := [some (.ref a0), some (.int (ii 0)), l2]) rfl (ltb rfl) rfl (mF fc225 (by rfl))).trans ?_
    refine (G_iconst (mF fc225 (by rfl))).trans ?_
    refine (G_istore (k := 2) (L' := [some (.ref a0), some (.int (ii 0)), some (.int (ii 1))]) rfl (ltb rfl) rfl (mF fc225 (by rfl))).trans ?_
    exact Iff.rfl
  ·
    refine (G_aload rfl (mF fc225 (by rfl))).trans ?_
    refine (G_getR (c := 12) (k := 16) rfl rfl rfl (mF fc225 (by rfl))).trans (andR ?_)
    refine (G_iload rfl (mF fc225 (by rfl))).trans ?_
    refine (G_iconst (mF fc225 (by rfl))).trans ?_
    refine (G_iastore (mF fc225 (by rfl))).trans (andR ?_)
    refine (G_iinc (k := 1) (L' := [some (.ref a0), some (.int (x1 + ii 1)), l2]) rfl rfl rfl (mF fc225 (by rfl))).trans ?_
    refine (G_goto (mF fc225 (by rfl))).trans ?_
    exact Iff.rfl
theorem b225_29 {d : Nat} {h : mHeap} {Q : Option Value → mHeap → Prop} {a0 : Nat} {x1 : Int32} {x2 : Int32} : Go d 225 29 [some (.ref a0), some (.int x1), some (.int x2)] [] h Q ↔ (if x2 = ii 0 then (okP h a0 12 27 ∧ Q none (sF h a0 27 (.int (ii 0)))) else (oC h a0 = 12 ∧ GoCv d 221 [.ref a0, .int x1] h (fun h1 => oC h1 a0 = 12 ∧ GoCi d 223 [.ref a0] h1 (fun v2 h2 => Go d 225 29 [some (.ref a0), some (.int (x1 + ii 1)), some (.int v2)] [] h2 Q)))) := by
  refine (G_iload rfl (mF fc225 (by rfl))).trans ?_
  refine (G_eq (mF fc225 (by rfl))).trans (gi ?_ ?_)
  ·
    refine (G_aload rfl (mF fc225 (by rfl))).trans ?_
    refine (G_iconst (mF fc225 (by rfl))).trans ?_
    refine (G_putT (c := 12) (k := 27) rfl rfl rfl (mF fc225 (by rfl))).trans (andR ?_)
    exact G_return rfl (mF fc225 (by rfl))
  ·
    refine (G_aload rfl (mF fc225 (by rfl))).trans ?_
    refine (G_iload rfl (mF fc225 (by rfl))).trans ?_
    refine (G_Vv (q := 113346) (y := 221) (a := a0) (c := 12) rfl rfl rfl rfl (by decide) rfl (as := [.ref a0, .int x1]) (rest := []) rfl rfl (mF fc225 (by rfl))).trans (andR (GoCv_congr fun h1 => ?_))
    refine (G_iinc (k := 1) (L' := [some (.ref a0), some (.int (x1 + ii 1)), some (.int x2)]) rfl rfl rfl (mF fc225 (by rfl))).trans ?_
    refine (G_aload rfl (mF fc225 (by rfl))).trans ?_
    refine (G_Vi (q := 114369) (y := 223) (a := a0) (c := 12) rfl rfl rfl rfl (by decide) rfl (as := [.ref a0]) (rest := []) rfl rfl (mF fc225 (by rfl))).trans (andR (GoCi_congr fun v2 h2 => ?_))
    refine (G_istore (k := 2) (L' := [some (.ref a0), some (.int (x1 + ii 1)), some (.int v2)]) rfl (ltb rfl) rfl (mF fc225 (by rfl))).trans ?_
    refine (G_goto (mF fc225 (by rfl))).trans ?_
    exact Iff.rfl
theorem e225 {d : Nat} {h : mHeap} {K : mHeap → Prop} {a0 : Nat} : GoCv (d + 1) 225 [.ref a0] h K ↔ Go d 225 0 [some (.ref a0), none, none] [] h (rV K) := GoCv_entry rfl rfl
set_option maxRecDepth 20000 in
theorem fc226 : mCodes[226]? = some mc226 := rfl
theorem b226_0 {d : Nat} {h : mHeap} {Q : Option Value → mHeap → Prop} {a0 : Nat} : Go d 226 0 [some (.ref a0), none, none] [] h Q ↔ oC h a0 = 12 ∧ GoCv d 225 [.ref a0] h (fun h1 => okF h1 a0 12 29 0 ∧ (if (fI h1 a0 29) ≤ ii 0 then (Go d 226 21 [some (.ref a0), some (.int (ii 0)), none] [] h1 Q) else (okF h1 a0 12 29 0 ∧ Q (some (.int ((ii (-2)) - (fI h1 a0 29)))) h1))) := by
  refine (G_aload rfl (mF fc226 (by rfl))).trans ?_
  refine (G_Vv (q := 115393) (y := 225) (a := a0) (c := 12) rfl rfl rfl rfl (by decide) rfl (as := [.ref a0]) (rest := []) rfl rfl (mF fc226 (by rfl))).trans (andR (GoCv_congr fun h1 => ?_))
  refine (G_aload rfl (mF fc226 (by rfl))).trans ?_
  refine (G_getI (c := 12) (k := 29) rfl rfl rfl (mF fc226 (by rfl))).trans (andR ?_)
  refine (G_le (mF fc226 (by rfl))).trans (gi ?_ ?_)
  ·
    refine (G_iconst (mF fc226 (by rfl))).trans ?_
    refine (G_istore (k := 1) (L' := [some (.ref a0), some (.int (ii 0)), none]) rfl (ltb rfl) rfl (mF fc226 (by rfl))).trans ?_
    exact Iff.rfl
  ·
    refine (G_iconst (mF fc226 (by rfl))).trans ?_
    refine (G_aload rfl (mF fc226 (by rfl))).trans ?_
    refine (G_getI (c := 12) (k := 29) rfl rfl rfl (mF fc226 (by rfl))).trans (andR ?_)
    refine (G_isub (mF fc226 (by rfl))).trans ?_
    exact G_ireturnI rfl (mF fc226 (by rfl))
theorem b226_21 {d : Nat} {h : mHeap} {Q : Option Value → mHeap → Prop} {a0 : Nat} {x1 : Int32} {l2 : Option Value} : Go d 226 21 [some (.ref a0), some (.int x1), l2] [] h Q ↔ (if (ii 8) ≤ x1 then (okF h a0 12 17 2 ∧ okF h a0 12 2 2 ∧ GoCv d 222 [.ref (fR h a0 17), .ref (fR h a0 2)] h (fun h1 => okF h1 a0 12 18 2 ∧ okF h1 a0 12 3 2 ∧ GoCv d 222 [.ref (fR h1 a0 18), .ref (fR h1 a0 3)] h1 (fun h2 => okF h2 a0 12 20 2 ∧ okF h2 a0 12 4 2 ∧ GoCv d 222 [.ref (fR h2 a0 20), .ref (fR h2 a0 4)] h2 (fun h3 => okF h3 a0 12 21 2 ∧ okF h3 a0 12 7 2 ∧ GoCv d 222 [.ref (fR h3 a0 21), .ref (fR h3 a0 7)] h3 (fun h4 => okF h4 a0 12 22 2 ∧ okF h4 a0 12 8 2 ∧ GoCv d 222 [.ref (fR h4 a0 22), .ref (fR h4 a0 8)] h4 (fun h5 => okF h5 a0 12 23 2 ∧ okF h5 a0 12 9 2 ∧ GoCv d 222 [.ref (fR h5 a0 23), .ref (fR h5 a0 9)] h5 (fun h6 => okF h6 a0 12 24 2 ∧ okF h6 a0 12 10 2 ∧ GoCv d 222 [.ref (fR h6 a0 24), .ref (fR h6 a0 10)] h6 (fun h7 => okF h7 a0 12 25 2 ∧ okF h7 a0 12 11 2 ∧ GoCv d 222 [.ref (fR h7 a0 25), .ref (fR h7 a0 11)] h7 (fun h8 => okF h8 a0 12 26 2 ∧ okF h8 a0 12 12 2 ∧ GoCv d 222 [.ref (fR h8 a0 26), .ref (fR h8 a0 12)] h8 (fun h9 => Go d 226 156 [some (.ref a0), some (.int (ii 0)), l2] [] h9 Q)))))))))) else (okF h a0 12 1 2 ∧ (if (ii 6) ≤ x1 then (Go d 226 48 [some (.ref a0), some (.int x1), l2] [.int (ii 0), .int x1, .ref (fR h a0 1)] h Q) else (okF h a0 12 16 2 ∧ okA h (fR h a0 16) .int x1 ∧ Go d 226 48 [some (.ref a0), some (.int x1), l2] [.int (eI h (fR h a0 16) x1), .int x1, .ref (fR h a0 1)] h Q)))) := by
  refine (G_iload rfl (mF fc226 (by rfl))).trans ?_
  refine (G_iconst (mF fc226 (by rfl))).trans ?_
  refine (G_ige (mF fc226 (by rfl))).trans (gi ?_ ?_)
  ·
    refine (G_aload rfl (mF fc226 (by rfl))).trans ?_
    refine (G_getR (c := 12) (k := 17) rfl rfl rfl (mF fc226 (by rfl))).trans (andR ?_)
    refine (G_aload rfl (mF fc226 (by rfl))).trans ?_
    refine (G_getR (c := 12) (k := 2) rfl rfl rfl (mF fc226 (by rfl))).trans (andR ?_)
    refine (G_Tv (q := 113858) (y := 222) rfl rfl rfl (as := [.ref (fR h a0 17), .ref (fR h a0 2)]) (rest := []) rfl rfl (mF fc226 (by rfl))).trans (GoCv_congr fun h1 => ?_)
    refine (G_aload rfl (mF fc226 (by rfl))).trans ?_
    refine (G_getR (c := 12) (k := 18) rfl rfl rfl (mF fc226 (by rfl))).trans (andR ?_)
    refine (G_aload rfl (mF fc226 (by rfl))).trans ?_
    refine (G_getR (c := 12) (k := 3) rfl rfl rfl (mF fc226 (by rfl))).trans (andR ?_)
    refine (G_Tv (q := 113858) (y := 222) rfl rfl rfl (as := [.ref (fR h1 a0 18), .ref (fR h1 a0 3)]) (rest := []) rfl rfl (mF fc226 (by rfl))).trans (GoCv_congr fun h2 => ?_)
    refine (G_aload rfl (mF fc226 (by rfl))).trans ?_
    refine (G_getR (c := 12) (k := 20) rfl rfl rfl (mF fc226 (by rfl))).trans (andR ?_)
    refine (G_aload rfl (mF fc226 (by rfl))).trans ?_
    refine (G_getR (c := 12) (k := 4) rfl rfl rfl (mF fc226 (by rfl))).trans (andR ?_)
    refine (G_Tv (q := 113858) (y := 222) rfl rfl rfl (as := [.ref (fR h2 a0 20), .ref (fR h2 a0 4)]) (rest := []) rfl rfl (mF fc226 (by rfl))).trans (GoCv_congr fun h3 => ?_)
    refine (G_aload rfl (mF fc226 (by rfl))).trans ?_
    refine (G_getR (c := 12) (k := 21) rfl rfl rfl (mF fc226 (by rfl))).trans (andR ?_)
    refine (G_aload rfl (mF fc226 (by rfl))).trans ?_
    refine (G_getR (c := 12) (k := 7) rfl rfl rfl (mF fc226 (by rfl))).trans (andR ?_)
    refine (G_Tv (q := 113858) (y := 222) rfl rfl rfl (as := [.ref (fR h3 a0 21), .ref (fR h3 a0 7)]) (rest := []) rfl rfl (mF fc226 (by rfl))).trans (GoCv_congr fun h4 => ?_)
    refine (G_aload rfl (mF fc226 (by rfl))).trans ?_
    refine (G_getR (c := 12) (k := 22) rfl rfl rfl (mF fc226 (by rfl))).trans (andR ?_)
    refine (G_aload rfl (mF fc226 (by rfl))).trans ?_
    refine (G_getR (c := 12) (k := 8) rfl rfl rfl (mF fc226 (by rfl))).trans (andR ?_)
    refine (G_Tv (q := 113858) (y := 222) rfl rfl rfl (as := [.ref (fR h4 a0 22), .ref (fR h4 a0 8)]) (rest := []) rfl rfl (mF fc226 (by rfl))).trans (GoCv_congr fun h5 => ?_)
    refine (G_aload rfl (mF fc226 (by rfl))).trans ?_
    refine (G_getR (c := 12) (k := 23) rfl rfl rfl (mF fc226 (by rfl))).trans (andR ?_)
    refine (G_aload rfl (mF fc226 (by rfl))).trans ?_
    refine (G_getR (c := 12) (k := 9) rfl rfl rfl (mF fc226 (by rfl))).trans (andR ?_)
    refine (G_Tv (q := 113858) (y := 222) rfl rfl rfl (as := [.ref (fR h5 a0 23), .ref (fR h5 a0 9)]) (rest := []) rfl rfl (mF fc226 (by rfl))).trans (GoCv_congr fun h6 => ?_)
    refine (G_aload rfl (mF fc226 (by rfl))).trans ?_
    refine (G_getR (c := 12) (k := 24) rfl rfl rfl (mF fc226 (by rfl))).trans (andR ?_)
    refine (G_aload rfl (mF fc226 (by rfl))).trans ?_
    refine (G_getR (c := 12) (k := 10) rfl rfl rfl (mF fc226 (by rfl))).trans (andR ?_)
    refine (G_Tv (q := 113858) (y := 222) rfl rfl rfl (as := [.ref (fR h6 a0 24), .ref (fR h6 a0 10)]) (rest := []) rfl rfl (mF fc226 (by rfl))).trans (GoCv_congr fun h7 => ?_)
    refine (G_aload rfl (mF fc226 (by rfl))).trans ?_
    refine (G_getR (c := 12) (k := 25) rfl rfl rfl (mF fc226 (by rfl))).trans (andR ?_)
    refine (G_aload rfl (mF fc226 (by rfl))).trans ?_
    refine (G_getR (c := 12) (k := 11) rfl rfl rfl (mF fc226 (by rfl))).trans (andR ?_)
    refine (G_Tv (q := 113858) (y := 222) rfl rfl rfl (as := [.ref (fR h7 a0 25), .ref (fR h7 a0 11)]) (rest := []) rfl rfl (mF fc226 (by rfl))).trans (GoCv_congr fun h8 => ?_)
    refine (G_aload rfl (mF fc226 (by rfl))).trans ?_
    refine (G_getR (c := 12) (k := 26) rfl rfl rfl (mF fc226 (by rfl))).trans (andR ?_)
    refine (G_aload rfl (mF fc226 (by rfl))).trans ?_
    refine (G_getR (c := 12) (k := 12) rfl rfl rfl (mF fc226 (by rfl))).trans (andR ?_)
    refine (G_Tv (q := 113858) (y := 222) rfl rfl rfl (as := [.ref (fR h8 a0 26), .ref (fR h8 a0 12)]) (rest := []) rfl rfl (mF fc226 (by rfl))).trans (GoCv_congr fun h9 => ?_)
    refine (G_iconst (mF fc226 (by rfl))).trans ?_
    refine (G_istore (k := 1) (L' := [some (.ref a0), some (.int (ii 0)), l2]) rfl (ltb rfl) rfl (mF fc226 (by rfl))).trans ?_
    exact Iff.rfl
  ·
    refine (G_aload rfl (mF fc226 (by rfl))).trans ?_
    refine (G_getR (c := 12) (k := 1) rfl rfl rfl (mF fc226 (by rfl))).trans (andR ?_)
    refine (G_iload rfl (mF fc226 (by rfl))).trans ?_
    refine (G_iload rfl (mF fc226 (by rfl))).trans ?_
    refine (G_iconst (mF fc226 (by rfl))).trans ?_
    refine (G_ige (mF fc226 (by rfl))).trans (gi ?_ ?_)
    ·
      refine (G_iconst (mF fc226 (by rfl))).trans ?_
      exact Iff.rfl
    ·
      refine (G_aload rfl (mF fc226 (by rfl))).trans ?_
      refine (G_getR (c := 12) (k := 16) rfl rfl rfl (mF fc226 (by rfl))).trans (andR ?_)
      refine (G_iload rfl (mF fc226 (by rfl))).trans ?_
      refine (G_iaload (mF fc226 (by rfl))).trans (andR ?_)
      refine (G_goto (mF fc226 (by rfl))).trans ?_
      exact Iff.rfl
theorem b226_48 {d : Nat} {h : mHeap} {Q : Option Value → mHeap → Prop} {a0 : Nat} {x1 : Int32} {l2 : Option Value} {r0 : Nat} {s1 : Int32} {s2 : Int32} : Go d 226 48 [some (.ref a0), some (.int x1), l2] [.int s2, .int s1, .ref r0] h Q ↔ (64 ≤ r0 ∧ okA h r0 .int s1) ∧ Go d 226 21 [some (.ref a0), some (.int (x1 + ii 1)), l2] [] (sI h r0 s1 s2) Q := by
  refine (G_iastore (mF fc226 (by rfl))).trans (andR ?_)
  refine (G_iinc (k := 1) (L' := [some (.ref a0), some (.int (x1 + ii 1)), l2]) rfl rfl rfl (mF fc226 (by rfl))).trans ?_
  refine (G_goto (mF fc226 (by rfl))).trans ?_
  exact Iff.rfl
theorem b226_156 {d : Nat} {h : mHeap} {Q : Option Value → mHeap → Prop} {a0 : Nat} {x1 : Int32} {l2 : Option Value} : Go d 226 156 [some (.ref a0), some (.int x1), l2] [] h Q ↔ okF h a0 12 15 2 ∧ okL h (fR h a0 15) ∧ (if (ii (nL h (fR h a0 15))) ≤ x1 then (Go d 226 180 [some (.ref a0), some (.int (ii 0)), l2] [] h Q) else (okF h a0 12 15 2 ∧ (64 ≤ (fR h a0 15) ∧ okA h (fR h a0 15) .int x1) ∧ Go d 226 156 [some (.ref a0), some (.int (x1 + ii 1)), l2] [] (sI h (fR h a0 15) x1 (ii 0)) Q)) := by
  refine (G_iload rfl (mF fc226 (by rfl))).trans ?_
  refine (G_aload rfl (mF fc226 (by rfl))).trans ?_
  refine (G_getR (c := 12) (k := 15) rfl rfl rfl (mF fc226 (by rfl))).trans (andR ?_)
  refine (G_arraylength (mF fc226 (by rfl))).trans (andR ?_)
  refine (G_ige (mF fc226 (by rfl))).trans (gi ?_ ?_)
  ·
    refine (G_iconst (mF fc226 (by rfl))).trans ?_
    refine (G_istore (k := 1) (L' := [some (.ref a0), some (.int (ii 0)), l2]) rfl (ltb rfl) rfl (mF fc226 (by rfl))).trans ?_
    exact Iff.rfl
  ·
    refine (G_aload rfl (mF fc226 (by rfl))).trans ?_
    refine (G_getR (c := 12) (k := 15) rfl rfl rfl (mF fc226 (by rfl))).trans (andR ?_)
    refine (G_iload rfl (mF fc226 (by rfl))).trans ?_
    refine (G_iconst (mF fc226 (by rfl))).trans ?_
    refine (G_iastore (mF fc226 (by rfl))).trans (andR ?_)
    refine (G_iinc (k := 1) (L' := [some (.ref a0), some (.int (x1 + ii 1)), l2]) rfl rfl rfl (mF fc226 (by rfl))).trans ?_
    refine (G_goto (mF fc226 (by rfl))).trans ?_
    exact Iff.rfl
theorem b226_180 {d : Nat} {h : mHeap} {Q : Option Value → mHeap → Prop} {a0 : Nat} {x1 : Int32} {l2 : Option Value} : Go d 226 180 [some (.ref a0), some (.int x1), l2] [] h Q ↔ oC h a0 = 12 ∧ GoCi d 191 [.ref a0] h (fun v1 h1 => (if v1 ≤ x1 then (Go d 226 280 [some (.ref a0), some (.int (ii 0)), l2] [] h1 Q) else (okF h1 a0 12 15 2 ∧ (¬ (ii 32) = ii 0) ∧ okA h1 (fR h1 a0 15) .int ((ii 48) + (x1 / (ii 32))) ∧ (¬ (ii 32) = ii 0) ∧ (64 ≤ (fR h1 a0 15) ∧ okA h1 (fR h1 a0 15) .int ((ii 48) + (x1 / (ii 32)))) ∧ Go d 226 211 [some (.ref a0), some (.int x1), some (.int (ii 0))] [] (sI h1 (fR h1 a0 15) ((ii 48) + (x1 / (ii 32))) ((eI h1 (fR h1 a0 15) ((ii 48) + (x1 / (ii 32)))) ||| (shl (ii 1) (irm x1 (ii 32))))) Q))) := by
  refine (G_iload rfl (mF fc226 (by rfl))).trans ?_
  refine (G_aload rfl (mF fc226 (by rfl))).trans ?_
  refine (G_Vi (q := 97985) (y := 191) (a := a0) (c := 12) rfl rfl rfl rfl (by decide) rfl (as := [.ref a0]) (rest := [.int x1]) rfl rfl (mF fc226 (by rfl))).trans (andR (GoCi_congr fun v1 h1 => ?_))
  refine (G_ige (mF fc226 (by rfl))).trans (gi ?_ ?_)
  ·
    refine (G_iconst (mF fc226 (by rfl))).trans ?_
    refine (G_istore (k := 1) (L' := [some (.ref a0), some (.int (ii 0)), l2]) rfl (ltb rfl) rfl (mF fc226 (by rfl))).trans ?_
    exact Iff.rfl
  ·
    refine (G_aload rfl (mF fc226 (by rfl))).trans ?_
    refine (G_getR (c := 12) (k := 15) rfl rfl rfl (mF fc226 (by rfl))).trans (andR ?_)
    refine (G_iconst (mF fc226 (by rfl))).trans ?_
    refine (G_iload rfl (mF fc226 (by rfl))).trans ?_
    refine (G_iconst (mF fc226 (by rfl))).trans ?_
    refine (G_idiv (mF fc226 (by rfl))).trans (andR ?_)
    refine (G_iadd (mF fc226 (by rfl))).trans ?_
    refine (G_dup2r (mF fc226 (by rfl))).trans ?_
    refine (G_iaload (mF fc226 (by rfl))).trans (andR ?_)
    refine (G_iconst (mF fc226 (by rfl))).trans ?_
    refine (G_iload rfl (mF fc226 (by rfl))).trans ?_
    refine (G_iconst (mF fc226 (by rfl))).trans ?_
    refine (G_irem (mF fc226 (by rfl))).trans (andR ?_)
    refine (G_ishl (mF fc226 (by rfl))).trans ?_
    refine (G_ior (mF fc226 (by rfl))).trans ?_
    refine (G_iastore (mF fc226 (by rfl))).trans (andR ?_)
    refine (G_iconst (mF fc226 (by rfl))).trans ?_
    refine (G_istore (k := 2) (L' := [some (.ref a0), some (.int x1), some (.int (ii 0))]) rfl (ltb rfl) rfl (mF fc226 (by rfl))).trans ?_
    exact Iff.rfl
theorem b226_211 {d : Nat} {h : mHeap} {Q : Option Value → mHeap → Prop} {a0 : Nat} {x1 : Int32} {x2 : Int32} : Go d 226 211 [some (.ref a0), some (.int x1), some (.int x2)] [] h Q ↔ okF h a0 12 1 2 ∧ okA h (fR h a0 1) .int (ii 2) ∧ (if (eI h (fR h a0 1) (ii 2)) ≤ x2 then (Go d 226 180 [some (.ref a0), some (.int (x1 + ii 1)), some (.int x2)] [] h Q) else (okF h a0 12 15 2 ∧ (¬ (ii 32) = ii 0) ∧ okA h (fR h a0 15) .int (((ii 8) * x2) + (x1 / (ii 32))) ∧ okF h a0 12 1 2 ∧ okA h (fR h a0 1) .int (ii 1) ∧ okF h a0 12 19 2 ∧ okA h (fR h a0 19) .int x2 ∧ (if ¬ ((x1 ^^^ (eI h (fR h a0 1) (ii 1))) &&& (eI h (fR h a0 19) x2)) = ii 0 then (Go d 226 264 [some (.ref a0), some (.int x1), some (.int x2)] [.int (ii 0), .int (eI h (fR h a0 15) (((ii 8) * x2) + (x1 / (ii 32)))), .int (((ii 8) * x2) + (x1 / (ii 32))), .ref (fR h a0 15)] h Q) else ((¬ (ii 32) = ii 0) ∧ Go d 226 264 [some (.ref a0), some (.int x1), some (.int x2)] [.int (shl (ii 1) (irm x1 (ii 32))), .int (eI h (fR h a0 15) (((ii 8) * x2) + (x1 / (ii 32)))), .int (((ii 8) * x2) + (x1 / (ii 32))), .ref (fR h a0 15)] h Q)))) := by
  refine (G_iload rfl (mF fc226 (by rfl))).trans ?_
  refine (G_aload rfl (mF fc226 (by rfl))).trans ?_
  refine (G_getR (c := 12) (k := 1) rfl rfl rfl (mF fc226 (by rfl))).trans (andR ?_)
  refine (G_iconst (mF fc226 (by rfl))).trans ?_
  refine (G_iaload (mF fc226 (by rfl))).trans (andR ?_)
  refine (G_ige (mF fc226 (by rfl))).trans (gi ?_ ?_)
  ·
    refine (G_iinc (k := 1) (L' := [some (.ref a0), some (.int (x1 + ii 1)), some (.int x2)]) rfl rfl rfl (mF fc226 (by rfl))).trans ?_
    refine (G_goto (mF fc226 (by rfl))).trans ?_
    exact Iff.rfl
  ·
    refine (G_aload rfl (mF fc226 (by rfl))).trans ?_
    refine (G_getR (c := 12) (k := 15) rfl rfl rfl (mF fc226 (by rfl))).trans (andR ?_)
    refine (G_iconst (mF fc226 (by rfl))).trans ?_
    refine (G_iload rfl (mF fc226 (by rfl))).trans ?_
    refine (G_imul (mF fc226 (by rfl))).trans ?_
    refine (G_iload rfl (mF fc226 (by rfl))).trans ?_
    refine (G_iconst (mF fc226 (by rfl))).trans ?_
    refine (G_idiv (mF fc226 (by rfl))).trans (andR ?_)
    refine (G_iadd (mF fc226 (by rfl))).trans ?_
    refine (G_dup2r (mF fc226 (by rfl))).trans ?_
    refine (G_iaload (mF fc226 (by rfl))).trans (andR ?_)
    refine (G_iload rfl (mF fc226 (by rfl))).trans ?_
    refine (G_aload rfl (mF fc226 (by rfl))).trans ?_
    refine (G_getR (c := 12) (k := 1) rfl rfl rfl (mF fc226 (by rfl))).trans (andR ?_)
    refine (G_iconst (mF fc226 (by rfl))).trans ?_
    refine (G_iaload (mF fc226 (by rfl))).trans (andR ?_)
    refine (G_ixor (mF fc226 (by rfl))).trans ?_
    refine (G_aload rfl (mF fc226 (by rfl))).trans ?_
    refine (G_getR (c := 12) (k := 19) rfl rfl rfl (mF fc226 (by rfl))).trans (andR ?_)
    refine (G_iload rfl (mF fc226 (by rfl))).trans ?_
    refine (G_iaload (mF fc226 (by rfl))).trans (andR ?_)
    refine (G_iand (mF fc226 (by rfl))).trans ?_
    refine (G_ne (mF fc226 (by rfl))).trans (gi ?_ ?_)
    ·
      refine (G_iconst (mF fc226 (by rfl))).trans ?_
      exact Iff.rfl
    ·
      refine (G_iconst (mF fc226 (by rfl))).trans ?_
      refine (G_iload rfl (mF fc226 (by rfl))).trans ?_
      refine (G_iconst (mF fc226 (by rfl))).trans ?_
      refine (G_irem (mF fc226 (by rfl))).trans (andR ?_)
      refine (G_ishl (mF fc226 (by rfl))).trans ?_
      refine (G_goto (mF fc226 (by rfl))).trans ?_
      exact Iff.rfl
theorem b226_264 {d : Nat} {h : mHeap} {Q : Option Value → mHeap → Prop} {a0 : Nat} {x1 : Int32} {x2 : Int32} {r0 : Nat} {s1 : Int32} {s2 : Int32} {s3 : Int32} : Go d 226 264 [some (.ref a0), some (.int x1), some (.int x2)] [.int s3, .int s2, .int s1, .ref r0] h Q ↔ (64 ≤ r0 ∧ okA h r0 .int s1) ∧ Go d 226 211 [some (.ref a0), some (.int x1), some (.int (x2 + ii 1))] [] (sI h r0 s1 (s2 ||| s3)) Q := by
  refine (G_ior (mF fc226 (by rfl))).trans ?_
  refine (G_iastore (mF fc226 (by rfl))).trans (andR ?_)
  refine (G_iinc (k := 2) (L' := [some (.ref a0), some (.int x1), some (.int (x2 + ii 1))]) rfl rfl rfl (mF fc226 (by rfl))).trans ?_
  refine (G_goto (mF fc226 (by rfl))).trans ?_
  exact Iff.rfl
theorem b226_280 {d : Nat} {h : mHeap} {Q : Option Value → mHeap → Prop} {a0 : Nat} {x1 : Int32} {l2 : Option Value} : Go d 226 280 [some (.ref a0), some (.int x1), l2] [] h Q ↔ (if (ii 6) ≤ x1 then (okP h a0 12 59 ∧ okF (sF h a0 59 (.int (ii 0))) a0 12 1 2 ∧ okA (sF h a0 59 (.int (ii 0))) (fR (sF h a0 59 (.int (ii 0))) a0 1) .int (ii 2) ∧ Q (some (.int (eI (sF h a0 59 (.int (ii 0))) (fR (sF h a0 59 (.int (ii 0))) a0 1) (ii 2)))) (sF h a0 59 (.int (ii 0)))) else (okF h a0 12 5 2 ∧ (64 ≤ (fR h a0 5) ∧ okA h (fR h a0 5) .int x1) ∧ okF (sI h (fR h a0 5) x1 (ii 0)) a0 12 6 2 ∧ (64 ≤ (fR (sI h (fR h a0 5) x1 (ii 0)) a0 6) ∧ okA (sI h (fR h a0 5) x1 (ii 0)) (fR (sI h (fR h a0 5) x1 (ii 0)) a0 6) .int x1) ∧ Go d 226 280 [some (.ref a0), some (.int (x1 + ii 1)), l2] [] (sI (sI h (fR h a0 5) x1 (ii 0)) (fR (sI h (fR h a0 5) x1 (ii 0)) a0 6) x1 (ii 0)) Q)) := by
  refine (G_iload rfl (mF fc226 (by rfl))).trans ?_
  refine (G_iconst (mF fc226 (by rfl))).trans ?_
  refine (G_ige (mF fc226 (by rfl))).trans (gi ?_ ?_)
  ·
    refine (G_aload rfl (mF fc226 (by rfl))).trans ?_
    refine (G_iconst (mF fc226 (by rfl))).trans ?_
    refine (G_putT (c := 12) (k := 59) rfl rfl rfl (mF fc226 (by rfl))).trans (andR ?_)
    refine (G_aload rfl (mF fc226 (by rfl))).trans ?_
    refine (G_getR (c := 12) (k := 1) rfl rfl rfl (mF fc226 (by rfl))).trans (andR ?_)
    refine (G_iconst (mF fc226 (by rfl))).trans ?_
    refine (G_iaload (mF fc226 (by rfl))).trans (andR ?_)
    exact G_ireturnI rfl (mF fc226 (by rfl))
  ·
    refine (G_aload rfl (mF fc226 (by rfl))).trans ?_
    refine (G_getR (c := 12) (k := 5) rfl rfl rfl (mF fc226 (by rfl))).trans (andR ?_)
    refine (G_iload rfl (mF fc226 (by rfl))).trans ?_
    refine (G_iconst (mF fc226 (by rfl))).trans ?_
    refine (G_iastore (mF fc226 (by rfl))).trans (andR ?_)
    refine (G_aload rfl (mF fc226 (by rfl))).trans ?_
    refine (G_getR (c := 12) (k := 6) rfl rfl rfl (mF fc226 (by rfl))).trans (andR ?_)
    refine (G_iload rfl (mF fc226 (by rfl))).trans ?_
    refine (G_iconst (mF fc226 (by rfl))).trans ?_
    refine (G_iastore (mF fc226 (by rfl))).trans (andR ?_)
    refine (G_iinc (k := 1) (L' := [some (.ref a0), some (.int (x1 + ii 1)), l2]) rfl rfl rfl (mF fc226 (by rfl))).trans ?_
    refine (G_goto (mF fc226 (by rfl))).trans ?_
    exact Iff.rfl
theorem e226 {d : Nat} {h : mHeap} {K : Int32 → mHeap → Prop} {a0 : Nat} : GoCi (d + 1) 226 [.ref a0] h K ↔ Go d 226 0 [some (.ref a0), none, none] [] h (rI K) := GoCi_entry rfl rfl
