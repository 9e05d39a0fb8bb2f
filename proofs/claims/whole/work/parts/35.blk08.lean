set_option maxRecDepth 20000 in
theorem fc317 : mCodes[317]? = some mc317 := rfl
theorem b317_0 {d : Nat} {h : mHeap} {Q : Option Value → mHeap → Prop} {x0 : Int32} : Go d 317 0 [some (.int x0)] [] h Q ↔ Q (some (.int ((((((((x0 - ((ushr x0 (ii 1)) &&& (ii 1431655765))) &&& (ii 858993459)) + ((ushr (x0 - ((ushr x0 (ii 1)) &&& (ii 1431655765))) (ii 2)) &&& (ii 858993459))) + (ushr (((x0 - ((ushr x0 (ii 1)) &&& (ii 1431655765))) &&& (ii 858993459)) + ((ushr (x0 - ((ushr x0 (ii 1)) &&& (ii 1431655765))) (ii 2)) &&& (ii 858993459))) (ii 4))) &&& (ii 252645135)) + (ushr (((((x0 - ((ushr x0 (ii 1)) &&& (ii 1431655765))) &&& (ii 858993459)) + ((ushr (x0 - ((ushr x0 (ii 1)) &&& (ii 1431655765))) (ii 2)) &&& (ii 858993459))) + (ushr (((x0 - ((ushr x0 (ii 1)) &&& (ii 1431655765))) &&& (ii 858993459)) + ((ushr (x0 - ((ushr x0 (ii 1)) &&& (ii 1431655765))) (ii 2)) &&& (ii 858993459))) (ii 4))) &&& (ii 252645135)) (ii 8))) + (ushr ((((((x0 - ((ushr x0 (ii 1)) &&& (ii 1431655765))) &&& (ii 858993459)) + ((ushr (x0 - ((ushr x0 (ii 1)) &&& (ii 1431655765))) (ii 2)) &&& (ii 858993459))) + (ushr (((x0 - ((ushr x0 (ii 1)) &&& (ii 1431655765))) &&& (ii 858993459)) + ((ushr (x0 - ((ushr x0 (ii 1)) &&& (ii 1431655765))) (ii 2)) &&& (ii 858993459))) (ii 4))) &&& (ii 252645135)) + (ushr (((((x0 - ((ushr x0 (ii 1)) &&& (ii 1431655765))) &&& (ii 858993459)) + ((ushr (x0 - ((ushr x0 (ii 1)) &&& (ii 1431655765))) (ii 2)) &&& (ii 858993459))) + (ushr (((x0 - ((ushr x0 (ii 1)) &&& (ii 1431655765))) &&& (ii 858993459)) + ((ushr (x0 - ((ushr x0 (ii 1)) &&& (ii 1431655765))) (ii 2)) &&& (ii 858993459))) (ii 4))) &&& (ii 252645135)) (ii 8))) (ii 16))) &&& (ii 63)))) h := by
  refine (G_iload rfl (mF fc317 (by rfl))).trans ?_
  refine (G_iload rfl (mF fc317 (by rfl))).trans ?_
  refine (G_iconst (mF fc317 (by rfl))).trans ?_
  refine (G_iushr (mF fc317 (by rfl))).trans ?_
  refine (G_iconst (mF fc317 (by rfl))).trans ?_
  refine (G_iand (mF fc317 (by rfl))).trans ?_
  refine (G_isub (mF fc317 (by rfl))).trans ?_
  refine (G_istore (k := 0) (L' := [some (.int (x0 - ((ushr x0 (ii 1)) &&& (ii 1431655765))))]) rfl (ltb rfl) rfl (mF fc317 (by rfl))).trans ?_
  refine (G_iload rfl (mF fc317 (by rfl))).trans ?_
  refine (G_iconst (mF fc317 (by rfl))).trans ?_
  refine (G_iand (mF fc317 (by rfl))).trans ?_
  refine (G_iload rfl (mF fc317 (by rfl))).trans ?_
  refine (G_iconst (mF fc317 (by rfl))).trans ?_
  refine (G_iushr (mF fc317 (by rfl))).trans ?_
  refine (G_iconst (mF fc317 (by rfl))).trans ?_
  refine (G_iand (mF fc317 (by rfl))).trans ?_
  refine (G_iadd (mF fc317 (by rfl))).trans ?_
  refine (G_istore (k := 0) (L' := [some (.int (((x0 - ((ushr x0 (ii 1)) &&& (ii 1431655765))) &&& (ii 858993459)) + ((ushr (x0 - ((ushr x0 (ii 1)) &&& (ii 1431655765))) (ii 2)) &&& (ii 858993459))))]) rfl (ltb rfl) rfl (mF fc317 (by rfl))).trans ?_
  refine (G_iload rfl (mF fc317 (by rfl))).trans ?_
  refine (G_iload rfl (mF fc317 (by rfl))).trans ?_
  refine (G_iconst (mF fc317 (by rfl))).trans ?_
  refine (G_iushr (mF fc317 (by rfl))).trans ?_
  refine (G_iadd (mF fc317 (by rfl))).trans ?_
  refine (G_iconst (mF fc317 (by rfl))).trans ?_
  refine (G_iand (mF fc317 (by rfl))).trans ?_
  refine (G_istore (k := 0) (L' := [some (.int (((((x0 - ((ushr x0 (ii 1)) &&& (ii 1431655765))) &&& (ii 858993459)) + ((ushr (x0 - ((ushr x0 (ii 1)) &&& (ii 1431655765))) (ii 2)) &&& (ii 858993459))) + (ushr (((x0 - ((ushr x0 (ii 1)) &&& (ii 1431655765))) &&& (ii 858993459)) + ((ushr (x0 - ((ushr x0 (ii 1)) &&& (ii 1431655765))) (ii 2)) &&& (ii 858993459))) (ii 4))) &&& (ii 252645135)))]) rfl (ltb rfl) rfl (mF fc317 (by rfl))).trans ?_
  refine (G_iload rfl (mF fc317 (by rfl))).trans ?_
  refine (G_iload rfl (mF fc317 (by rfl))).trans ?_
  refine (G_iconst (mF fc317 (by rfl))).trans ?_
  refine (G_iushr (mF fc317 (by rfl))).trans ?_
  refine (G_iadd (mF fc317 (by rfl))).trans ?_
  refine (G_istore (k := 0) (L' := [some (.int ((((((x0 - ((ushr x0 (ii 1)) &&& (ii 1431655765))) &&& (ii 858993459)) + ((ushr (x0 - ((ushr x0 (ii 1)) &&& (ii 1431655765))) (ii 2)) &&& (ii 858993459))) + (ushr (((x0 - ((ushr x0 (ii 1)) &&& (ii 1431655765))) &&& (ii 858993459)) + ((ushr (x0 - ((ushr x0 (ii 1)) &&& (ii 1431655765))) (ii 2)) &&& (ii 858993459))) (ii 4))) &&& (ii 252645135)) + (ushr (((((x0 - ((ushr x0 (ii 1)) &&& (ii 1431655765))) &&& (ii 858993459)) + ((ushr (x0 - ((ushr x0 (ii 1)) &&& (ii 1431655765))) (ii 2)) &&& (ii 858993459))) + (ushr (((x0 - ((ushr x0 (ii 1)) &&& (ii 1431655765))) &&& (ii 858993459)) + ((ushr (x0 - ((ushr x0 (ii 1)) &&& (ii 1431655765))) (ii 2)) &&& (ii 858993459))) (ii 4))) &&& (ii 252645135)) (ii 8))))]) rfl (ltb rfl) rfl (mF fc317 (by rfl))).trans ?_
  refine (G_iload rfl (mF fc317 (by rfl))).trans ?_
  refine (G_iload rfl (mF fc317 (by rfl))).trans ?_
  refine (G_iconst (mF fc317 (by rfl))).trans ?_
  refine (G_iushr (mF fc317 (by rfl))).trans ?_
  refine (G_iadd (mF fc317 (by rfl))).trans ?_
  refine (G_istore (k := 0) (L' := [some (.int (((((((x0 - ((ushr x0 (ii 1)) &&& (ii 1431655765))) &&& (ii 858993459)) + ((ushr (x0 - ((ushr x0 (ii 1)) &&& (ii 1431655765))) (ii 2)) &&& (ii 858993459))) + (ushr (((x0 - ((ushr x0 (ii 1)) &&& (ii 1431655765))) &&& (ii 858993459)) + ((ushr (x0 - ((ushr x0 (ii 1)) &&& (ii 1431655765))) (ii 2)) &&& (ii 858993459))) (ii 4))) &&& (ii 252645135)) + (ushr (((((x0 - ((ushr x0 (ii 1)) &&& (ii 1431655765))) &&& (ii 858993459)) + ((ushr (x0 - ((ushr x0 (ii 1)) &&& (ii 1431655765))) (ii 2)) &&& (ii 858993459))) + (ushr (((x0 - ((ushr x0 (ii 1)) &&& (ii 1431655765))) &&& (ii 858993459)) + ((ushr (x0 - ((ushr x0 (ii 1)) &&& (ii 1431655765))) (ii 2)) &&& (ii 858993459))) (ii 4))) &&& (ii 252645135)) (ii 8))) + (ushr ((((((x0 - ((ushr x0 (ii 1)) &&& (ii 1431655765))) &&& (ii 858993459)) + ((ushr (x0 - ((ushr x0 (ii 1)) &&& (ii 1431655765))) (ii 2)) &&& (ii 858993459))) + (ushr (((x0 - ((ushr x0 (ii 1)) &&& (ii 1431655765))) &&& (ii 858993459)) + ((ushr (x0 - ((ushr x0 (ii 1)) &&& (ii 1431655765))) (ii 2)) &&& (ii 858993459))) (ii 4))) &&& (ii 252645135)) + (ushr (((((x0 - ((ushr x0 (ii 1)) &&& (ii 1431655765))) &&& (ii 858993459)) + ((ushr (x0 - ((ushr x0 (ii 1)) &&& (ii 1431655765))) (ii 2)) &&& (ii 858993459))) + (ushr (((x0 - ((ushr x0 (ii 1)) &&& (ii 1431655765))) &&& (ii 858993459)) + ((ushr (x0 - ((ushr x0 (ii 1)) &&& (ii 1431655765))) (ii 2)) &&& (ii 858993459))) (ii 4))) &&& (ii 252645135)) (ii 8))) (ii 16))))]) rfl (ltb rfl) rfl (mF fc317 (by rfl))).trans ?_
  refine (G_iload rfl (mF fc317 (by rfl))).trans ?_
  refine (G_iconst (mF fc317 (by rfl))).trans ?_
  refine (G_iand (mF fc317 (by rfl))).trans ?_
  exact G_ireturnI rfl (mF fc317 (by rfl))
theorem e317 {d : Nat} {h : mHeap} {K : Int32 → mHeap → Prop} {x0 : Int32} : GoCi (d + 1) 317 [.int x0] h K ↔ Go d 317 0 [some (.int x0)] [] h (rI K) := GoCi_entry rfl rfl
set_option maxRecDepth 20000 in
theorem fc318 : mCodes[318]? = some mc318 := rfl
theorem b318_0 {d : Nat} {h : mHeap} {Q : Option Value → mHeap → Prop} {y0 : Int64} : Go d 318 0 [some (.long y0), none] [] h Q ↔ Q (some (.int ((((((((((y0 - ((lushr y0 (ii 1)) &&& (jj 6148914691236517205))) &&& (jj 3689348814741910323)) + ((lushr (y0 - ((lushr y0 (ii 1)) &&& (jj 6148914691236517205))) (ii 2)) &&& (jj 3689348814741910323))) + (lushr (((y0 - ((lushr y0 (ii 1)) &&& (jj 6148914691236517205))) &&& (jj 3689348814741910323)) + ((lushr (y0 - ((lushr y0 (ii 1)) &&& (jj 6148914691236517205))) (ii 2)) &&& (jj 3689348814741910323))) (ii 4))) &&& (jj 1085102592571150095)) + (lushr (((((y0 - ((lushr y0 (ii 1)) &&& (jj 6148914691236517205))) &&& (jj 3689348814741910323)) + ((lushr (y0 - ((lushr y0 (ii 1)) &&& (jj 6148914691236517205))) (ii 2)) &&& (jj 3689348814741910323))) + (lushr (((y0 - ((lushr y0 (ii 1)) &&& (jj 6148914691236517205))) &&& (jj 3689348814741910323)) + ((lushr (y0 - ((lushr y0 (ii 1)) &&& (jj 6148914691236517205))) (ii 2)) &&& (jj 3689348814741910323))) (ii 4))) &&& (jj 1085102592571150095)) (ii 8))) + (lushr ((((((y0 - ((lushr y0 (ii 1)) &&& (jj 6148914691236517205))) &&& (jj 3689348814741910323)) + ((lushr (y0 - ((lushr y0 (ii 1)) &&& (jj 6148914691236517205))) (ii 2)) &&& (jj 3689348814741910323))) + (lushr (((y0 - ((lushr y0 (ii 1)) &&& (jj 6148914691236517205))) &&& (jj 3689348814741910323)) + ((lushr (y0 - ((lushr y0 (ii 1)) &&& (jj 6148914691236517205))) (ii 2)) &&& (jj 3689348814741910323))) (ii 4))) &&& (jj 1085102592571150095)) + (lushr (((((y0 - ((lushr y0 (ii 1)) &&& (jj 6148914691236517205))) &&& (jj 3689348814741910323)) + ((lushr (y0 - ((lushr y0 (ii 1)) &&& (jj 6148914691236517205))) (ii 2)) &&& (jj 3689348814741910323))) + (lushr (((y0 - ((lushr y0 (ii 1)) &&& (jj 6148914691236517205))) &&& (jj 3689348814741910323)) + ((lushr (y0 - ((lushr y0 (ii 1)) &&& (jj 6148914691236517205))) (ii 2)) &&& (jj 3689348814741910323))) (ii 4))) &&& (jj 1085102592571150095)) (ii 8))) (ii 16))) + (lushr (((((((y0 - ((lushr y0 (ii 1)) &&& (jj 6148914691236517205))) &&& (jj 3689348814741910323)) + ((lushr (y0 - ((lushr y0 (ii 1)) &&& (jj 6148914691236517205))) (ii 2)) &&& (jj 3689348814741910323))) + (lushr (((y0 - ((lushr y0 (ii 1)) &&& (jj 6148914691236517205))) &&& (jj 3689348814741910323)) + ((lushr (y0 - ((lushr y0 (ii 1)) &&& (jj 6148914691236517205))) (ii 2)) &&& (jj 3689348814741910323))) (ii 4))) &&& (jj 1085102592571150095)) + (lushr (((((y0 - ((lushr y0 (ii 1)) &&& (jj 6148914691236517205))) &&& (jj 3689348814741910323)) + ((lushr (y0 - ((lushr y0 (ii 1)) &&& (jj 6148914691236517205))) (ii 2)) &&& (jj 3689348814741910323))) + (lushr (((y0 - ((lushr y0 (ii 1)) &&& (jj 6148914691236517205))) &&& (jj 3689348814741910323)) + ((lushr (y0 - ((lushr y0 (ii 1)) &&& (jj 6148914691236517205))) (ii 2)) &&& (jj 3689348814741910323))) (ii 4))) &&& (jj 1085102592571150095)) (ii 8))) + (lushr ((((((y0 - ((lushr y0 (ii 1)) &&& (jj 6148914691236517205))) &&& (jj 3689348814741910323)) + ((lushr (y0 - ((lushr y0 (ii 1)) &&& (jj 6148914691236517205))) (ii 2)) &&& (jj 3689348814741910323))) + (lushr (((y0 - ((lushr y0 (ii 1)) &&& (jj 6148914691236517205))) &&& (jj 3689348814741910323)) + ((lushr (y0 - ((lushr y0 (ii 1)) &&& (jj 6148914691236517205))) (ii 2)) &&& (jj 3689348814741910323))) (ii 4))) &&& (jj 1085102592571150095)) + (lushr (((((y0 - ((lushr y0 (ii 1)) &&& (jj 6148914691236517205))) &&& (jj 3689348814741910323)) + ((lushr (y0 - ((lushr y0 (ii 1)) &&& (jj 6148914691236517205))) (ii 2)) &&& (jj 3689348814741910323))) + (lushr (((y0 - ((lushr y0 (ii 1)) &&& (jj 6148914691236517205))) &&& (jj 3689348814741910323)) + ((lushr (y0 - ((lushr y0 (ii 1)) &&& (jj 6148914691236517205))) (ii 2)) &&& (jj 3689348814741910323))) (ii 4))) &&& (jj 1085102592571150095)) (ii 8))) (ii 16))) (ii 32))).toInt32) &&& (ii 127)))) h := by
  refine (G_lload rfl (mF fc318 (by rfl))).trans ?_
  refine (G_lload rfl (mF fc318 (by rfl))).trans ?_
  refine (G_iconst (mF fc318 (by rfl))).trans ?_
  refine (G_lushr (mF fc318 (by rfl))).trans ?_
  refine (G_jsr_w (mF fc318 (by rfl))).trans ?_
  refine (G_land (mF fc318 (by rfl))).trans ?_
  refine (G_lsub (mF fc318 (by rfl))).trans ?_
  refine (G_lstore (k := 0) (L' := [some (.long (y0 - ((lushr y0 (ii 1)) &&& (jj 6148914691236517205)))), none]) rfl (ltb rfl) rfl (mF fc318 (by rfl))).trans ?_
  refine (G_lload rfl (mF fc318 (by rfl))).trans ?_
  refine (G_jsr_w (mF fc318 (by rfl))).trans ?_
  refine (G_land (mF fc318 (by rfl))).trans ?_
  refine (G_lload rfl (mF fc318 (by rfl))).trans ?_
  refine (G_iconst (mF fc318 (by rfl))).trans ?_
  refine (G_lushr (mF fc318 (by rfl))).trans ?_
  refine (G_jsr_w (mF fc318 (by rfl))).trans ?_
  refine (G_land (mF fc318 (by rfl))).trans ?_
  refine (G_ladd (mF fc318 (by rfl))).trans ?_
  refine (G_lstore (k := 0) (L' := [some (.long (((y0 - ((lushr y0 (ii 1)) &&& (jj 6148914691236517205))) &&& (jj 3689348814741910323)) + ((lushr (y0 - ((lushr y0 (ii 1)) &&& (jj 6148914691236517205))) (ii 2)) &&& (jj 3689348814741910323)))), none]) rfl (ltb rfl) rfl (mF fc318 (by rfl))).trans ?_
  refine (G_lload rfl (mF fc318 (by rfl))).trans ?_
  refine (G_lload rfl (mF fc318 (by rfl))).trans ?_
  refine (G_iconst (mF fc318 (by rfl))).trans ?_
  refine (G_lushr (mF fc318 (by rfl))).trans ?_
  refine (G_ladd (mF fc318 (by rfl))).trans ?_
  refine (G_jsr_w (mF fc318 (by rfl))).trans ?_
  refine (G_land (mF fc318 (by rfl))).trans ?_
  refine (G_lstore (k := 0) (L' := [some (.long (((((y0 - ((lushr y0 (ii 1)) &&& (jj 6148914691236517205))) &&& (jj 3689348814741910323)) + ((lushr (y0 - ((lushr y0 (ii 1)) &&& (jj 6148914691236517205))) (ii 2)) &&& (jj 3689348814741910323))) + (lushr (((y0 - ((lushr y0 (ii 1)) &&& (jj 6148914691236517205))) &&& (jj 3689348814741910323)) + ((lushr (y0 - ((lushr y0 (ii 1)) &&& (jj 6148914691236517205))) (ii 2)) &&& (jj 3689348814741910323))) (ii 4))) &&& (jj 1085102592571150095))), none]) rfl (ltb rfl) rfl (mF fc318 (by rfl))).trans ?_
  refine (G_lload rfl (mF fc318 (by rfl))).trans ?_
  refine (G_lload rfl (mF fc318 (by rfl))).trans ?_
  refine (G_iconst (mF fc318 (by rfl))).trans ?_
  refine (G_lushr (mF fc318 (by rfl))).trans ?_
  refine (G_ladd (mF fc318 (by rfl))).trans ?_
  refine (G_lstore (k := 0) (L' := [some (.long ((((((y0 - ((lushr y0 (ii 1)) &&& (jj 6148914691236517205))) &&& (jj 3689348814741910323)) + ((lushr (y0 - ((lushr y0 (ii 1)) &&& (jj 6148914691236517205))) (ii 2)) &&& (jj 3689348814741910323))) + (lushr (((y0 - ((lushr y0 (ii 1)) &&& (jj 6148914691236517205))) &&& (jj 3689348814741910323)) + ((lushr (y0 - ((lushr y0 (ii 1)) &&& (jj 6148914691236517205))) (ii 2)) &&& (jj 3689348814741910323))) (ii 4))) &&& (jj 1085102592571150095)) + (lushr (((((y0 - ((lushr y0 (ii 1)) &&& (jj 6148914691236517205))) &&& (jj 3689348814741910323)) + ((lushr (y0 - ((lushr y0 (ii 1)) &&& (jj 6148914691236517205))) (ii 2)) &&& (jj 3689348814741910323))) + (lushr (((y0 - ((lushr y0 (ii 1)) &&& (jj 6148914691236517205))) &&& (jj 3689348814741910323)) + ((lushr (y0 - ((lushr y0 (ii 1)) &&& (jj 6148914691236517205))) (ii 2)) &&& (jj 3689348814741910323))) (ii 4))) &&& (jj 1085102592571150095)) (ii 8)))), none]) rfl (ltb rfl) rfl (mF fc318 (by rfl))).trans ?_
  refine (G_lload rfl (mF fc318 (by rfl))).trans ?_
  refine (G_lload rfl (mF fc318 (by rfl))).trans ?_
  refine (G_iconst (mF fc318 (by rfl))).trans ?_
  refine (G_lushr (mF fc318 (by rfl))).trans ?_
  refine (G_ladd (mF fc318 (by rfl))).trans ?_
  refine (G_lstore (k := 0) (L' := [some (.long (((((((y0 - ((lushr y0 (ii 1)) &&& (jj 6148914691236517205))) &&& (jj 3689348814741910323)) + ((lushr (y0 - ((lushr y0 (ii 1)) &&& (jj 6148914691236517205))) (ii 2)) &&& (jj 3689348814741910323))) + (lushr (((y0 - ((lushr y0 (ii 1)) &&& (jj 6148914691236517205))) &&& (jj 3689348814741910323)) + ((lushr (y0 - ((lushr y0 (ii 1)) &&& (jj 6148914691236517205))) (ii 2)) &&& (jj 3689348814741910323))) (ii 4))) &&& (jj 1085102592571150095)) + (lushr (((((y0 - ((lushr y0 (ii 1)) &&& (jj 6148914691236517205))) &&& (jj 3689348814741910323)) + ((lushr (y0 - ((lushr y0 (ii 1)) &&& (jj 6148914691236517205))) (ii 2)) &&& (jj 3689348814741910323))) + (lushr (((y0 - ((lushr y0 (ii 1)) &&& (jj 6148914691236517205))) &&& (jj 3689348814741910323)) + ((lushr (y0 - ((lushr y0 (ii 1)) &&& (jj 6148914691236517205))) (ii 2)) &&& (jj 3689348814741910323))) (ii 4))) &&& (jj 1085102592571150095)) (ii 8))) + (lushr ((((((y0 - ((lushr y0 (ii 1)) &&& (jj 6148914691236517205))) &&& (jj 3689348814741910323)) + ((lushr (y0 - ((lushr y0 (ii 1)) &&& (jj 6148914691236517205))) (ii 2)) &&& (jj 3689348814741910323))) + (lushr (((y0 - ((lushr y0 (ii 1)) &&& (jj 6148914691236517205))) &&& (jj 3689348814741910323)) + ((lushr (y0 - ((lushr y0 (ii 1)) &&& (jj 6148914691236517205))) (ii 2)) &&& (jj 3689348814741910323))) (ii 4))) &&& (jj 1085102592571150095)) + (lushr (((((y0 - ((lushr y0 (ii 1)) &&& (jj 6148914691236517205))) &&& (jj 3689348814741910323)) + ((lushr (y0 - ((lushr y0 (ii 1)) &&& (jj 6148914691236517205))) (ii 2)) &&& (jj 3689348814741910323))) + (lushr (((y0 - ((lushr y0 (ii 1)) &&& (jj 6148914691236517205))) &&& (jj 3689348814741910323)) + ((lushr (y0 - ((lushr y0 (ii 1)) &&& (jj 6148914691236517205))) (ii 2)) &&& (jj 3689348814741910323))) (ii 4))) &&& (jj 1085102592571150095)) (ii 8))) (ii 16)))), none]) rfl (ltb rfl) rfl (mF fc318 (by rfl))).trans ?_
  refine (G_lload rfl (mF fc318 (by rfl))).trans ?_
  refine (G_lload rfl (mF fc318 (by rfl))).trans ?_
  refine (G_iconst (mF fc318 (by rfl))).trans ?_
  refine (G_lushr (mF fc318 (by rfl))).trans ?_
  refine (G_ladd (mF fc318 (by rfl))).trans ?_
  refine (G_lstore (k := 0) (L' := [some (.long ((((((((y0 - ((lushr y0 (ii 1)) &&& (jj 6148914691236517205))) &&& (jj 3689348814741910323)) + ((lushr (y0 - ((lushr y0 (ii 1)) &&& (jj 6148914691236517205))) (ii 2)) &&& (jj 3689348814741910323))) + (lushr (((y0 - ((lushr y0 (ii 1)) &&& (jj 6148914691236517205))) &&& (jj 3689348814741910323)) + ((lushr (y0 - ((lushr y0 (ii 1)) &&& (jj 6148914691236517205))) (ii 2)) &&& (jj 3689348814741910323))) (ii 4))) &&& (jj 1085102592571150095)) + (lushr (((((y0 - ((lushr y0 (ii 1)) &&& (jj 6148914691236517205))) &&& (jj 3689348814741910323)) + ((lushr (y0 - ((lushr y0 (ii 1)) &&& (jj 6148914691236517205))) (ii 2)) &&& (jj 3689348814741910323))) + (lushr (((y0 - ((lushr y0 (ii 1)) &&& (jj 6148914691236517205))) &&& (jj 3689348814741910323)) + ((lushr (y0 - ((lushr y0 (ii 1)) &&& (jj 6148914691236517205))) (ii 2)) &&& (jj 3689348814741910323))) (ii 4))) &&& (jj 1085102592571150095)) (ii 8))) + (lushr ((((((y0 - ((lushr y0 (ii 1)) &&& (jj 6148914691236517205))) &&& (jj 3689348814741910323)) + ((lushr (y0 - ((lushr y0 (ii 1)) &&& (jj 6148914691236517205))) (ii 2)) &&& (jj 3689348814741910323))) + (lushr (((y0 - ((lushr y0 (ii 1)) &&& (jj 6148914691236517205))) &&& (jj 3689348814741910323)) + ((lushr (y0 - ((lushr y0 (ii 1)) &&& (jj 6148914691236517205))) (ii 2)) &&& (jj 3689348814741910323))) (ii 4))) &&& (jj 1085102592571150095)) + (lushr (((((y0 - ((lushr y0 (ii 1)) &&& (jj 6148914691236517205))) &&& (jj 3689348814741910323)) + ((lushr (y0 - ((lushr y0 (ii 1)) &&& (jj 6148914691236517205))) (ii 2)) &&& (jj 3689348814741910323))) + (lushr (((y0 - ((lushr y0 (ii 1)) &&& (jj 6148914691236517205))) &&& (jj 3689348814741910323)) + ((lushr (y0 - ((lushr y0 (ii 1)) &&& (jj 6148914691236517205))) (ii 2)) &&& (jj 3689348814741910323))) (ii 4))) &&& (jj 1085102592571150095)) (ii 8))) (ii 16))) + (lushr (((((((y0 - ((lushr y0 (ii 1)) &&& (jj 6148914691236517205))) &&& (jj 3689348814741910323)) + ((lushr (y0 - ((lushr y0 (ii 1)) &&& (jj 6148914691236517205))) (ii 2)) &&& (jj 3689348814741910323))) + (lushr (((y0 - ((lushr y0 (ii 1)) &&& (jj 6148914691236517205))) &&& (jj 3689348814741910323)) + ((lushr (y0 - ((lushr y0 (ii 1)) &&& (jj 6148914691236517205))) (ii 2)) &&& (jj 3689348814741910323))) (ii 4))) &&& (jj 1085102592571150095)) + (lushr (((((y0 - ((lushr y0 (ii 1)) &&& (jj 6148914691236517205))) &&& (jj 3689348814741910323)) + ((lushr (y0 - ((lushr y0 (ii 1)) &&& (jj 6148914691236517205))) (ii 2)) &&& (jj 3689348814741910323))) + (lushr (((y0 - ((lushr y0 (ii 1)) &&& (jj 6148914691236517205))) &&& (jj 3689348814741910323)) + ((lushr (y0 - ((lushr y0 (ii 1)) &&& (jj 6148914691236517205))) (ii 2)) &&& (jj 3689348814741910323))) (ii 4))) &&& (jj 1085102592571150095)) (ii 8))) + (lushr ((((((y0 - ((lushr y0 (ii 1)) &&& (jj 6148914691236517205))) &&& (jj 3689348814741910323)) + ((lushr (y0 - ((lushr y0 (ii 1)) &&& (jj 6148914691236517205))) (ii 2)) &&& (jj 3689348814741910323))) + (lushr (((y0 - ((lushr y0 (ii 1)) &&& (jj 6148914691236517205))) &&& (jj 3689348814741910323)) + ((lushr (y0 - ((lushr y0 (ii 1)) &&& (jj 6148914691236517205))) (ii 2)) &&& (jj 3689348814741910323))) (ii 4))) &&& (jj 1085102592571150095)) + (lushr (((((y0 - ((lushr y0 (ii 1)) &&& (jj 6148914691236517205))) &&& (jj 3689348814741910323)) + ((lushr (y0 - ((lushr y0 (ii 1)) &&& (jj 6148914691236517205))) (ii 2)) &&& (jj 3689348814741910323))) + (lushr (((y0 - ((lushr y0 (ii 1)) &&& (jj 6148914691236517205))) &&& (jj 3689348814741910323)) + ((lushr (y0 - ((lushr y0 (ii 1)) &&& (jj 6148914691236517205))) (ii 2)) &&& (jj 3689348814741910323))) (ii 4))) &&& (jj 1085102592571150095)) (ii 8))) (ii 16))) (ii 32)))), none]) rfl (ltb rfl) rfl (mF fc318 (by rfl))).trans ?_
  refine (G_lload rfl (mF fc318 (by rfl))).trans ?_
  refine (G_l2i (mF fc318 (by rfl))).trans ?_
  refine (G_iconst (mF fc318 (by rfl))).trans ?_
  refine (G_iand (mF fc318 (by rfl))).trans ?_
  exact G_ireturnI rfl (mF fc318 (by rfl))
theorem e318 {d : Nat} {h : mHeap} {K : Int32 → mHeap → Prop} {y0 : Int64} : GoCi (d + 1) 318 [.long y0] h K ↔ Go d 318 0 [some (.long y0), none] [] h (rI K) := GoCi_entry rfl rfl
set_option maxRecDepth 20000 in
theorem fc319 : mCodes[319]? = some mc319 := rfl
theorem b319_0 {d : Nat} {h : mHeap} {Q : Option Value → mHeap → Prop} {a0 : Nat} : Go d 319 0 [some (.ref a0)] [] h Q ↔ okF h a0 16 0 2 ∧ okL h (fR h a0 0) ∧ oC h a0 = 16 ∧ GoCi d 321 [.ref a0] h (fun v1 h1 => Q (some (.int (shr (ii (nL h (fR h a0 0))) v1))) h1) := by
  refine (G_aload rfl (mF fc319 (by rfl))).trans ?_
  refine (G_getR (c := 16) (k := 0) rfl rfl rfl (mF fc319 (by rfl))).trans (andR ?_)
  refine (G_arraylength (mF fc319 (by rfl))).trans (andR ?_)
  refine (G_aload rfl (mF fc319 (by rfl))).trans ?_
  refine (G_Vi (q := 164609) (y := 321) (a := a0) (c := 16) rfl rfl rfl rfl (by decide) rfl (as := [.ref a0]) (rest := [.int (ii (nL h (fR h a0 0)))]) rfl rfl (mF fc319 (by rfl))).trans (andR (GoCi_congr fun v1 h1 => ?_))
  refine (G_ishr (mF fc319 (by rfl))).trans ?_
  exact G_ireturnI rfl (mF fc319 (by rfl))
theorem e319 {d : Nat} {h : mHeap} {K : Int32 → mHeap → Prop} {a0 : Nat} : GoCi (d + 1) 319 [.ref a0] h K ↔ Go d 319 0 [some (.ref a0)] [] h (rI K) := GoCi_entry rfl rfl
set_option maxRecDepth 20000 in
theorem fc320 : mCodes[320]? = some mc320 := rfl
theorem b320_0 {d : Nat} {h : mHeap} {Q : Option Value → mHeap → Prop} {a0 : Nat} {x1 : Int32} : Go d 320 0 [some (.ref a0), some (.int x1)] [] h Q ↔ oC h a0 = 16 ∧ GoCi d 322 [.ref a0] h (fun v1 h1 => (if v1 = ii 0 then (okF h1 a0 16 0 2 ∧ False) else (okF h1 a0 16 0 2 ∧ GoCi d 324 [.ref (fR h1 a0 0), .int x1] h1 (fun v2 h2 => mNar .char v2 = true ∧ Q (some (.int v2)) h2)))) := by
  refine (G_aload rfl (mF fc320 (by rfl))).trans ?_
  refine (G_Vi (q := 165121) (y := 322) (a := a0) (c := 16) rfl rfl rfl rfl (by decide) rfl (as := [.ref a0]) (rest := []) rfl rfl (mF fc320 (by rfl))).trans (andR (GoCi_congr fun v1 h1 => ?_))
  refine (G_eq (mF fc320 (by rfl))).trans (gi ?_ ?_)
  ·
    refine (G_aload rfl (mF fc320 (by rfl))).trans ?_
    refine (G_getR (c := 16) (k := 0) rfl rfl rfl (mF fc320 (by rfl))).trans (andR ?_)
    refine (G_iload rfl (mF fc320 (by rfl))).trans ?_
    exact Go_none (mFn fc320 (by rfl))
  ·
    refine (G_aload rfl (mF fc320 (by rfl))).trans ?_
    refine (G_getR (c := 16) (k := 0) rfl rfl rfl (mF fc320 (by rfl))).trans (andR ?_)
    refine (G_iload rfl (mF fc320 (by rfl))).trans ?_
    refine (G_Ti (q := 166162) (y := 324) rfl rfl rfl (as := [.ref (fR h1 a0 0), .int x1]) (rest := []) rfl rfl (mF fc320 (by rfl))).trans (GoCi_congr fun v2 h2 => ?_)
    exact G_ireturnC rfl (mF fc320 (by rfl))
theorem e320 {d : Nat} {h : mHeap} {K : Int32 → mHeap → Prop} {a0 : Nat} {x1 : Int32} : GoCi (d + 1) 320 [.ref a0, .int x1] h K ↔ Go d 320 0 [some (.ref a0), some (.int x1)] [] h (rI K) := GoCi_entry rfl rfl
set_option maxRecDepth 20000 in
theorem fc321 : mCodes[321]? = some mc321 := rfl
theorem b321_0 {d : Nat} {h : mHeap} {Q : Option Value → mHeap → Prop} {a0 : Nat} : Go d 321 0 [some (.ref a0)] [] h Q ↔ (if (ii 1) = ii 0 then (mNar .byte (ii 1) = true ∧ Q (some (.int (ii 1))) h) else (okF h a0 16 1 0 ∧ mNar .byte (fI h a0 1) = true ∧ Q (some (.int (fI h a0 1))) h)) := by
  refine (G_iconst (mF fc321 (by rfl))).trans ?_
  refine (G_eq (mF fc321 (by rfl))).trans (gi ?_ ?_)
  ·
    refine (G_iconst (mF fc321 (by rfl))).trans ?_
    exact G_ireturnB rfl (mF fc321 (by rfl))
  ·
    refine (G_aload rfl (mF fc321 (by rfl))).trans ?_
    refine (G_getI (c := 16) (k := 1) rfl rfl rfl (mF fc321 (by rfl))).trans (andR ?_)
    refine (G_goto (mF fc321 (by rfl))).trans ?_
    exact G_ireturnB rfl (mF fc321 (by rfl))
theorem e321 {d : Nat} {h : mHeap} {K : Int32 → mHeap → Prop} {a0 : Nat} : GoCi (d + 1) 321 [.ref a0] h K ↔ Go d 321 0 [some (.ref a0)] [] h (rI K) := GoCi_entry rfl rfl
set_option maxRecDepth 20000 in
theorem fc322 : mCodes[322]? = some mc322 := rfl
theorem b322_0 {d : Nat} {h : mHeap} {Q : Option Value → mHeap → Prop} {a0 : Nat} : Go d 322 0 [some (.ref a0)] [] h Q ↔ (if (ii 1) = ii 0 then (((ii 0) = ii 0 ∨ (ii 0) = ii 1) ∧ Q (some (.int (ii 0))) h) else (okF h a0 16 1 0 ∧ (if ¬ (fI h a0 1) = ii 0 then (((ii 0) = ii 0 ∨ (ii 0) = ii 1) ∧ Q (some (.int (ii 0))) h) else (((ii 1) = ii 0 ∨ (ii 1) = ii 1) ∧ Q (some (.int (ii 1))) h)))) := by
  refine (G_iconst (mF fc322 (by rfl))).trans ?_
  refine (G_eq (mF fc322 (by rfl))).trans (gi ?_ ?_)
  ·
    refine (G_iconst (mF fc322 (by rfl))).trans ?_
    exact G_ireturnZ rfl (mF fc322 (by rfl))
  ·
    refine (G_aload rfl (mF fc322 (by rfl))).trans ?_
    refine (G_getI (c := 16) (k := 1) rfl rfl rfl (mF fc322 (by rfl))).trans (andR ?_)
    refine (G_ne (mF fc322 (by rfl))).trans (gi ?_ ?_)
    ·
      refine (G_iconst (mF fc322 (by rfl))).trans ?_
      exact G_ireturnZ rfl (mF fc322 (by rfl))
    ·
      refine (G_iconst (mF fc322 (by rfl))).trans ?_
      refine (G_goto (mF fc322 (by rfl))).trans ?_
      exact G_ireturnZ rfl (mF fc322 (by rfl))
theorem e322 {d : Nat} {h : mHeap} {K : Int32 → mHeap → Prop} {a0 : Nat} : GoCi (d + 1) 322 [.ref a0] h K ↔ Go d 322 0 [some (.ref a0)] [] h (rI K) := GoCi_entry rfl rfl
set_option maxRecDepth 20000 in
theorem fc323 : mCodes[323]? = some mc323 := rfl
theorem b323_0 {d : Nat} {h : mHeap} {Q : Option Value → mHeap → Prop} {x0 : Int32} {x1 : Int32} : Go d 323 0 [some (.int x0), some (.int x1)] [] h Q ↔ GoCi d 327 [.int x0, .int x1, .ref 63] h (fun v1 h1 => Q none h1) := by
  refine (G_iload rfl (mF fc323 (by rfl))).trans ?_
  refine (G_iload rfl (mF fc323 (by rfl))).trans ?_
  refine (G_jsr (mF fc323 (by rfl))).trans ?_
  refine (G_Ti (q := 167731) (y := 327) rfl rfl rfl (as := [.int x0, .int x1, .ref 63]) (rest := []) rfl rfl (mF fc323 (by rfl))).trans (GoCi_congr fun v1 h1 => ?_)
  refine (G_popi (mF fc323 (by rfl))).trans ?_
  exact G_return rfl (mF fc323 (by rfl))
theorem e323 {d : Nat} {h : mHeap} {K : mHeap → Prop} {x0 : Int32} {x1 : Int32} : GoCv (d + 1) 323 [.int x0, .int x1] h K ↔ Go d 323 0 [some (.int x0), some (.int x1)] [] h (rV K) := GoCv_entry rfl rfl
set_option maxRecDepth 20000 in
theorem fc324 : mCodes[324]? = some mc324 := rfl
theorem b324_0 {d : Nat} {h : mHeap} {Q : Option Value → mHeap → Prop} {a0 : Nat} {x1 : Int32} : Go d 324 0 [some (.ref a0), some (.int x1)] [] h Q ↔ okL h a0 ∧ GoCv d 323 [.int x1, .int (ii (nL h a0))] h (fun h1 => okB h1 a0 x1 ∧ mNar .char ((((eI h1 a0 x1) &&& (ii 255)).toUInt32 % 65536).toInt32) = true ∧ Q (some (.int ((((eI h1 a0 x1) &&& (ii 255)).toUInt32 % 65536).toInt32))) h1) := by
  refine (G_iload rfl (mF fc324 (by rfl))).trans ?_
  refine (G_aload rfl (mF fc324 (by rfl))).trans ?_
  refine (G_arraylength (mF fc324 (by rfl))).trans (andR ?_)
  refine (G_Tv (q := 165634) (y := 323) rfl rfl rfl (as := [.int x1, .int (ii (nL h a0))]) (rest := []) rfl rfl (mF fc324 (by rfl))).trans (GoCv_congr fun h1 => ?_)
  refine (G_aload rfl (mF fc324 (by rfl))).trans ?_
  refine (G_iload rfl (mF fc324 (by rfl))).trans ?_
  refine (G_baload (mF fc324 (by rfl))).trans (andR ?_)
  refine (G_iconst (mF fc324 (by rfl))).trans ?_
  refine (G_iand (mF fc324 (by rfl))).trans ?_
  refine (G_i2c (mF fc324 (by rfl))).trans ?_
  exact G_ireturnC rfl (mF fc324 (by rfl))
theorem e324 {d : Nat} {h : mHeap} {K : Int32 → mHeap → Prop} {a0 : Nat} {x1 : Int32} : GoCi (d + 1) 324 [.ref a0, .int x1] h K ↔ Go d 324 0 [some (.ref a0), some (.int x1)] [] h (rI K) := GoCi_entry rfl rfl
set_option maxRecDepth 20000 in
theorem fc325 : mCodes[325]? = some mc325 := rfl
theorem b325_0 {d : Nat} {h : mHeap} {Q : Option Value → mHeap → Prop} {a0 : Nat} {x1 : Int32} : Go d 325 0 [some (.ref a0), some (.int x1), none, none] [] h Q ↔ okL h a0 ∧ Go d 325 5 [some (.ref a0), some (.int x1), some (.int (ii 0)), some (.int (ii (nL h a0)))] [] h Q := by
  refine (G_iconst (mF fc325 (by rfl))).trans ?_
  refine (G_istore (k := 2) (L' := [some (.ref a0), some (.int x1), some (.int (ii 0)), none]) rfl (ltb rfl) rfl (mF fc325 (by rfl))).trans ?_
  refine (G_aload rfl (mF fc325 (by rfl))).trans ?_
  refine (G_arraylength (mF fc325 (by rfl))).trans (andR ?_)
  refine (G_istore (k := 3) (L' := [some (.ref a0), some (.int x1), some (.int (ii 0)), some (.int (ii (nL h a0)))]) rfl (ltb rfl) rfl (mF fc325 (by rfl))).trans ?_
  exact Iff.rfl
theorem b325_5 {d : Nat} {h : mHeap} {Q : Option Value → mHeap → Prop} {a0 : Nat} {x1 : Int32} {x2 : Int32} {x3 : Int32} : Go d 325 5 [some (.ref a0), some (.int x1), some (.int x2), some (.int x3)] [] h Q ↔ (if x3 ≤ x2 then (Q none h) else ((64 ≤ a0 ∧ okA h a0 .int x2) ∧ Go d 325 5 [some (.ref a0), some (.int x1), some (.int (x2 + ii 1)), some (.int x3)] [] (sI h a0 x2 x1) Q)) := by
  refine (G_iload rfl (mF fc325 (by rfl))).trans ?_
  refine (G_iload rfl (mF fc325 (by rfl))).trans ?_
  refine (G_ige (mF fc325 (by rfl))).trans (gi ?_ ?_)
  ·
    exact G_return rfl (mF fc325 (by rfl))
  ·
    refine (G_aload rfl (mF fc325 (by rfl))).trans ?_
    refine (G_iload rfl (mF fc325 (by rfl))).trans ?_
    refine (G_iload rfl (mF fc325 (by rfl))).trans ?_
    refine (G_iastore (mF fc325 (by rfl))).trans (andR ?_)
    refine (G_iinc (k := 2) (L' := [some (.ref a0), some (.int x1), some (.int (x2 + ii 1)), some (.int x3)]) rfl rfl rfl (mF fc325 (by rfl))).trans ?_
    refine (G_goto (mF fc325 (by rfl))).trans ?_
    exact Iff.rfl
theorem e325 {d : Nat} {h : mHeap} {K : mHeap → Prop} {a0 : Nat} {x1 : Int32} : GoCv (d + 1) 325 [.ref a0, .int x1] h K ↔ Go d 325 0 [some (.ref a0), some (.int x1), none, none] [] h (rV K) := GoCv_entry rfl rfl
set_option maxRecDepth 20000 in
theorem fc326 : mCodes[326]? = some mc326 := rfl
theorem b326_0 {d : Nat} {h : mHeap} {Q : Option Value → mHeap → Prop} {a0 : Nat} {x1 : Int32} : Go d 326 0 [some (.ref a0), some (.int x1), none] [] h Q ↔ okL h a0 ∧ (if ¬ x1 = (ii (nL h a0)) then (okN x1 ∧ (∃ h1 : mHeap, h1 = nA h .int x1 ∧ okL h1 a0 ∧ okC h1 a0 h.length (ii 0) (ii 0) (if x1 < (ii (nL h1 a0)) then x1 else (ii (nL h1 a0))) ∧ Q (some (.ref h.length)) (sC h1 a0 h.length (if x1 < (ii (nL h1 a0)) then x1 else (ii (nL h1 a0)))))) else ((64 ≤ a0 ∧ aT h a0 = .int) ∧ (∃ h2 : mHeap, h2 = nCl h a0 ∧ (64 ≤ h.length ∧ aT h2 h.length = .int) ∧ Q (some (.ref h.length)) h2))) := by
  refine (G_iload rfl (mF fc326 (by rfl))).trans ?_
  refine (G_aload rfl (mF fc326 (by rfl))).trans ?_
  refine (G_arraylength (mF fc326 (by rfl))).trans (andR ?_)
  refine (G_ine (mF fc326 (by rfl))).trans (gi ?_ ?_)
  ·
    refine (G_iload rfl (mF fc326 (by rfl))).trans ?_
    refine (G_newarrayI (mF fc326 (by rfl))).trans (andR ?_)
    refine (exN (A := fun x => Go d 326 17 [some (.ref a0), some (.int x1), none] [.ref h.length] x Q) (e := nA h .int x1) fun h1 => ?_)
    refine (G_astore (k := 2) (L' := [some (.ref a0), some (.int x1), some (.ref h.length)]) rfl (ltb rfl) rfl (mF fc326 (by rfl))).trans ?_
    refine (G_aload rfl (mF fc326 (by rfl))).trans ?_
    refine (G_iconst (mF fc326 (by rfl))).trans ?_
    refine (G_aload rfl (mF fc326 (by rfl))).trans ?_
    refine (G_iconst (mF fc326 (by rfl))).trans ?_
    refine (G_aload rfl (mF fc326 (by rfl))).trans ?_
    refine (G_arraylength (mF fc326 (by rfl))).trans (andR ?_)
    refine (G_iload rfl (mF fc326 (by rfl))).trans ?_
    refine (G_min (Nat.le_of_ble_eq_true rfl) (mF fc326 (by rfl))).trans ?_
    refine (G_arraycopy (Nat.le_of_ble_eq_true rfl) (mF fc326 (by rfl))).trans (andR ?_)
    refine (G_aload rfl (mF fc326 (by rfl))).trans ?_
    exact G_areturn rfl (mF fc326 (by rfl))
  ·
    refine (G_aload rfl (mF fc326 (by rfl))).trans ?_
    refine (G_clone (Nat.le_of_ble_eq_true rfl) (mF fc326 (by rfl))).trans (andR ?_)
    refine (exN (A := fun x => Go d 326 10 [some (.ref a0), some (.int x1), none] [.ref h.length] x Q) (e := nCl h a0) fun h2 => ?_)
    refine (G_checkcast (mF fc326 (by rfl))).trans (andR ?_)
    exact G_areturn rfl (mF fc326 (by rfl))
theorem e326 {d : Nat} {h : mHeap} {K : Nat → mHeap → Prop} {a0 : Nat} {x1 : Int32} : GoCr (d + 1) 326 [.ref a0, .int x1] h K ↔ Go d 326 0 [some (.ref a0), some (.int x1), none] [] h (rR K) := GoCr_entry rfl rfl
set_option maxRecDepth 20000 in
theorem fc327 : mCodes[327]? = some mc327 := rfl
theorem b327_0 {d : Nat} {h : mHeap} {Q : Option Value → mHeap → Prop} {x0 : Int32} {x1 : Int32} {a2 : Nat} : Go d 327 0 [some (.int x0), some (.int x1), some (.ref a2)] [] h Q ↔ (if x0 < ii 0 then (Go d 327 9 [some (.int x0), some (.int x1), some (.ref a2)] [] h Q) else ((if x0 < x1 then (Q (some (.int x0)) h) else (Go d 327 9 [some (.int x0), some (.int x1), some (.ref a2)] [] h Q)))) := by
  refine (G_iload rfl (mF fc327 (by rfl))).trans ?_
  refine (G_lt (mF fc327 (by rfl))).trans (gi ?_ ?_)
  ·
    exact Iff.rfl
  ·
    refine (G_iload rfl (mF fc327 (by rfl))).trans ?_
    refine (G_iload rfl (mF fc327 (by rfl))).trans ?_
    refine (G_ilt (mF fc327 (by rfl))).trans (gi ?_ ?_)
    ·
      refine (G_iload rfl (mF fc327 (by rfl))).trans ?_
      exact G_ireturnI rfl (mF fc327 (by rfl))
    ·
      exact Iff.rfl
theorem b327_9 {d : Nat} {h : mHeap} {Q : Option Value → mHeap → Prop} {x0 : Int32} {x1 : Int32} {a2 : Nat} : Go d 327 9 [some (.int x0), some (.int x1), some (.ref a2)] [] h Q ↔ False := by
  refine (G_aload rfl (mF fc327 (by rfl))).trans ?_
  refine (G_iload rfl (mF fc327 (by rfl))).trans ?_
  refine (G_iload rfl (mF fc327 (by rfl))).trans ?_
  exact Go_none (mFn fc327 (by rfl))
theorem e327 {d : Nat} {h : mHeap} {K : Int32 → mHeap → Prop} {x0 : Int32} {x1 : Int32} {a2 : Nat} : GoCi (d + 1) 327 [.int x0, .int x1, .ref a2] h K ↔ Go d 327 0 [some (.int x0), some (.int x1), some (.ref a2)] [] h (rI K) := GoCi_entry rfl rfl
