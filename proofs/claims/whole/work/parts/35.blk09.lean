set_option maxRecDepth 20000 in
theorem fc328 : mCodes[328]? = some mc328 := rfl
set_option maxRecDepth 50000 in
theorem b328_0 {d : Nat} {h : mHeap} {Q : Option Value → mHeap → Prop} {a0 : Nat} : Go d 328 0 [some (.ref a0), none, none, none] [] h Q ↔ (∃ h1 : mHeap, h1 = nO h 11 ∧ 64 ≤ h.length ∧ GoCv d 134 [.ref h.length] h1 (fun h2 => (∃ h3 : mHeap, h3 = nO h2 12 ∧ 64 ≤ h2.length ∧ GoCv d 182 [.ref h2.length] h3 (fun h4 => Go d 328 18 [some (.ref a0), some (.ref h.length), some (.ref h2.length), some (.int (ii 0))] [] h4 Q)))) := by
  refine (G_new (mF fc328 (by rfl))).trans ?_
  refine (exN (A := fun x => Go d 328 3 [some (.ref a0), none, none, none] [.ref h.length] x Q) (e := nO h 11) fun h1 => ?_)
  refine (G_dupr (mF fc328 (by rfl))).trans ?_
  refine (G_Nv (q := 68785) (y := 134) (a := h.length) rfl rfl rfl rfl (as := [.ref h.length]) (rest := [.ref h.length]) rfl rfl (mF fc328 (by rfl))).trans (andR (GoCv_congr fun h2 => ?_))
  refine (G_astore (k := 1) (L' := [some (.ref a0), some (.ref h.length), none, none]) rfl (ltb rfl) rfl (mF fc328 (by rfl))).trans ?_
  refine (G_new (mF fc328 (by rfl))).trans ?_
  refine (exN (A := fun x => Go d 328 11 [some (.ref a0), some (.ref h.length), none, none] [.ref h2.length] x Q) (e := nO h2 12) fun h3 => ?_)
  refine (G_dupr (mF fc328 (by rfl))).trans ?_
  refine (G_Nv (q := 93377) (y := 182) (a := h2.length) rfl rfl rfl rfl (as := [.ref h2.length]) (rest := [.ref h2.length]) rfl rfl (mF fc328 (by rfl))).trans (andR (GoCv_congr fun h4 => ?_))
  refine (G_astore (k := 2) (L' := [some (.ref a0), some (.ref h.length), some (.ref h2.length), none]) rfl (ltb rfl) rfl (mF fc328 (by rfl))).trans ?_
  refine (G_iconst (mF fc328 (by rfl))).trans ?_
  refine (G_istore (k := 3) (L' := [some (.ref a0), some (.ref h.length), some (.ref h2.length), some (.int (ii 0))]) rfl (ltb rfl) rfl (mF fc328 (by rfl))).trans ?_
  exact Iff.rfl
set_option maxRecDepth 50000 in
theorem b328_18 {d : Nat} {h : mHeap} {Q : Option Value → mHeap → Prop} {a0 : Nat} {a1 : Nat} {a2 : Nat} {x3 : Int32} : Go d 328 18 [some (.ref a0), some (.ref a1), some (.ref a2), some (.int x3)] [] h Q ↔ okL h a0 ∧ (if ((ii (nL h a0)) - (ii 6)) < x3 then (((ii 1) = ii 0 ∨ (ii 1) = ii 1) ∧ Q (some (.int (ii 1))) h) else (okA h a0 .int x3 ∧ (if ((eI h a0 x3) &&& (ii 63)) = ii 0 then (Go d 328 196 [some (.ref a0), some (.ref a1), some (.ref a2), some (.int x3)] [] h Q) else (if ((eI h a0 x3) &&& (ii 63)) = ii 1 then (Go d 328 259 [some (.ref a0), some (.ref a1), some (.ref a2), some (.int x3)] [] h Q) else (if ((eI h a0 x3) &&& (ii 63)) = ii 2 then (Go d 328 282 [some (.ref a0), some (.ref a1), some (.ref a2), some (.int x3)] [] h Q) else (if ((eI h a0 x3) &&& (ii 63)) = ii 3 then (Go d 328 295 [some (.ref a0), some (.ref a1), some (.ref a2), some (.int x3)] [] h Q) else (if ((eI h a0 x3) &&& (ii 63)) = ii 4 then (Go d 328 308 [some (.ref a0), some (.ref a1), some (.ref a2), some (.int x3)] [] h Q) else (if ((eI h a0 x3) &&& (ii 63)) = ii 5 then (Go d 328 321 [some (.ref a0), some (.ref a1), some (.ref a2), some (.int x3)] [] h Q) else (if ((eI h a0 x3) &&& (ii 63)) = ii 6 then (Go d 328 354 [some (.ref a0), some (.ref a1), some (.ref a2), some (.int x3)] [] h Q) else (if ((eI h a0 x3) &&& (ii 63)) = ii 7 then (Go d 328 377 [some (.ref a0), some (.ref a1), some (.ref a2), some (.int x3)] [] h Q) else (if ((eI h a0 x3) &&& (ii 63)) = ii 8 then (Go d 328 400 [some (.ref a0), some (.ref a1), some (.ref a2), some (.int x3)] [] h Q) else (if ((eI h a0 x3) &&& (ii 63)) = ii 9 then (Go d 328 433 [some (.ref a0), some (.ref a1), some (.ref a2), some (.int x3)] [] h Q) else (if ((eI h a0 x3) &&& (ii 63)) = ii 10 then (Go d 328 466 [some (.ref a0), some (.ref a1), some (.ref a2), some (.int x3)] [] h Q) else (if ((eI h a0 x3) &&& (ii 63)) = ii 11 then (Go d 328 489 [some (.ref a0), some (.ref a1), some (.ref a2), some (.int x3)] [] h Q) else (if ((eI h a0 x3) &&& (ii 63)) = ii 12 then (Go d 328 522 [some (.ref a0), some (.ref a1), some (.ref a2), some (.int x3)] [] h Q) else (if ((eI h a0 x3) &&& (ii 63)) = ii 13 then (Go d 328 555 [some (.ref a0), some (.ref a1), some (.ref a2), some (.int x3)] [] h Q) else (if ((eI h a0 x3) &&& (ii 63)) = ii 14 then (Go d 328 578 [some (.ref a0), some (.ref a1), some (.ref a2), some (.int x3)] [] h Q) else (if ((eI h a0 x3) &&& (ii 63)) = ii 15 then (Go d 328 601 [some (.ref a0), some (.ref a1), some (.ref a2), some (.int x3)] [] h Q) else (if ((eI h a0 x3) &&& (ii 63)) = ii 16 then (Go d 328 634 [some (.ref a0), some (.ref a1), some (.ref a2), some (.int x3)] [] h Q) else (if ((eI h a0 x3) &&& (ii 63)) = ii 17 then (Go d 328 677 [some (.ref a0), some (.ref a1), some (.ref a2), some (.int x3)] [] h Q) else (if ((eI h a0 x3) &&& (ii 63)) = ii 18 then (Go d 328 710 [some (.ref a0), some (.ref a1), some (.ref a2), some (.int x3)] [] h Q) else (if ((eI h a0 x3) &&& (ii 63)) = ii 19 then (Go d 328 723 [some (.ref a0), some (.ref a1), some (.ref a2), some (.int x3)] [] h Q) else (if ((eI h a0 x3) &&& (ii 63)) = ii 20 then (Go d 328 736 [some (.ref a0), some (.ref a1), some (.ref a2), some (.int x3)] [] h Q) else (if ((eI h a0 x3) &&& (ii 63)) = ii 21 then (Go d 328 769 [some (.ref a0), some (.ref a1), some (.ref a2), some (.int x3)] [] h Q) else (if ((eI h a0 x3) &&& (ii 63)) = ii 22 then (Go d 328 802 [some (.ref a0), some (.ref a1), some (.ref a2), some (.int x3)] [] h Q) else (if ((eI h a0 x3) &&& (ii 63)) = ii 23 then (Go d 328 835 [some (.ref a0), some (.ref a1), some (.ref a2), some (.int x3)] [] h Q) else (if ((eI h a0 x3) &&& (ii 63)) = ii 24 then (Go d 328 868 [some (.ref a0), some (.ref a1), some (.ref a2), some (.int x3)] [] h Q) else (if ((eI h a0 x3) &&& (ii 63)) = ii 25 then (Go d 328 901 [some (.ref a0), some (.ref a1), some (.ref a2), some (.int x3)] [] h Q) else (if ((eI h a0 x3) &&& (ii 63)) = ii 26 then (Go d 328 934 [some (.ref a0), some (.ref a1), some (.ref a2), some (.int x3)] [] h Q) else (if ((eI h a0 x3) &&& (ii 63)) = ii 27 then (Go d 328 967 [some (.ref a0), some (.ref a1), some (.ref a2), some (.int x3)] [] h Q) else (if ((eI h a0 x3) &&& (ii 63)) = ii 28 then (Go d 328 1000 [some (.ref a0), some (.ref a1), some (.ref a2), some (.int x3)] [] h Q) else (if ((eI h a0 x3) &&& (ii 63)) = ii 29 then (Go d 328 1033 [some (.ref a0), some (.ref a1), some (.ref a2), some (.int x3)] [] h Q) else (if ((eI h a0 x3) &&& (ii 63)) = ii 30 then (Go d 328 1082 [some (.ref a0), some (.ref a1), some (.ref a2), some (.int x3)] [] h Q) else (if ((eI h a0 x3) &&& (ii 63)) = ii 31 then (Go d 328 1105 [some (.ref a0), some (.ref a1), some (.ref a2), some (.int x3)] [] h Q) else (if ((eI h a0 x3) &&& (ii 63)) = ii 32 then (Go d 328 1128 [some (.ref a0), some (.ref a1), some (.ref a2), some (.int x3)] [] h Q) else (if ((eI h a0 x3) &&& (ii 63)) = ii 33 then (Go d 328 1151 [some (.ref a0), some (.ref a1), some (.ref a2), some (.int x3)] [] h Q) else (if ((eI h a0 x3) &&& (ii 63)) = ii 34 then (Go d 328 1194 [some (.ref a0), some (.ref a1), some (.ref a2), some (.int x3)] [] h Q) else (if ((eI h a0 x3) &&& (ii 63)) = ii 35 then (Go d 328 1217 [some (.ref a0), some (.ref a1), some (.ref a2), some (.int x3)] [] h Q) else (if ((eI h a0 x3) &&& (ii 63)) = ii 36 then (Go d 328 1240 [some (.ref a0), some (.ref a1), some (.ref a2), some (.int x3)] [] h Q) else (Go d 328 1263 [some (.ref a0), some (.ref a1), some (.ref a2), some (.int x3)] [] h Q)))))))))))))))))))))))))))))))))))))))) := by
  refine (G_iload rfl (mF fc328 (by rfl))).trans ?_
  refine (G_aload rfl (mF fc328 (by rfl))).trans ?_
  refine (G_arraylength (mF fc328 (by rfl))).trans (andR ?_)
  refine (G_iconst (mF fc328 (by rfl))).trans ?_
  refine (G_isub (mF fc328 (by rfl))).trans ?_
  refine (G_igt (mF fc328 (by rfl))).trans (gi ?_ ?_)
  ·
    refine (G_iconst (mF fc328 (by rfl))).trans ?_
    exact G_ireturnZ rfl (mF fc328 (by rfl))
  ·
    refine (G_aload rfl (mF fc328 (by rfl))).trans ?_
    refine (G_iload rfl (mF fc328 (by rfl))).trans ?_
    refine (G_iaload (mF fc328 (by rfl))).trans (andR ?_)
    refine (G_iconst (mF fc328 (by rfl))).trans ?_
    refine (G_iand (mF fc328 (by rfl))).trans ?_
    refine (G_tableswitch (lo := 0) (hi := 36) [196, 259, 282, 295, 308, 321, 354, 377, 400, 433, 466, 489, 522, 555, 578, 601, 634, 677, 710, 723, 736, 769, 802, 835, 868, 901, 934, 967, 1000, 1033, 1082, 1105, 1128, 1151, 1194, 1217, 1240] rfl (by decide) (by decide) (by decide) (mF fc328 (by rfl))).trans ?_
    refine gi ?_ ?_
    ·
      exact Iff.rfl
    ·
      refine gi ?_ ?_
      ·
        exact Iff.rfl
      ·
        refine gi ?_ ?_
        ·
          exact Iff.rfl
        ·
          refine gi ?_ ?_
          ·
            exact Iff.rfl
          ·
            refine gi ?_ ?_
            ·
              exact Iff.rfl
            ·
              refine gi ?_ ?_
              ·
                exact Iff.rfl
              ·
                refine gi ?_ ?_
                ·
                  exact Iff.rfl
                ·
                  refine gi ?_ ?_
                  ·
                    exact Iff.rfl
                  ·
                    refine gi ?_ ?_
                    ·
                      exact Iff.rfl
                    ·
                      refine gi ?_ ?_
                      ·
                        exact Iff.rfl
                      ·
                        refine gi ?_ ?_
                        ·
                          exact Iff.rfl
                        ·
                          refine gi ?_ ?_
                          ·
                            exact Iff.rfl
                          ·
                            refine gi ?_ ?_
                            ·
                              exact Iff.rfl
                            ·
                              refine gi ?_ ?_
                              ·
                                exact Iff.rfl
                              ·
                                refine gi ?_ ?_
                                ·
                                  exact Iff.rfl
                                ·
                                  refine gi ?_ ?_
                                  ·
                                    exact Iff.rfl
                                  ·
                                    refine gi ?_ ?_
                                    ·
                                      exact Iff.rfl
                                    ·
                                      refine gi ?_ ?_
                                      ·
                                        exact Iff.rfl
                                      ·
                                        refine gi ?_ ?_
                                        ·
                                          exact Iff.rfl
                                        ·
                                          refine gi ?_ ?_
                                          ·
                                            exact Iff.rfl
                                          ·
                                            refine gi ?_ ?_
                                            ·
                                              exact Iff.rfl
                                            ·
                                              refine gi ?_ ?_
                                              ·
                                                exact Iff.rfl
                                              ·
                                                refine gi ?_ ?_
                                                ·
                                                  exact Iff.rfl
                                                ·
                                                  refine gi ?_ ?_
                                                  ·
                                                    exact Iff.rfl
                                                  ·
                                                    refine gi ?_ ?_
                                                    ·
                                                      exact Iff.rfl
                                                    ·
                                                      refine gi ?_ ?_
                                                      ·
                                                        exact Iff.rfl
                                                      ·
                                                        refine gi ?_ ?_
                                                        ·
                                                          exact Iff.rfl
                                                        ·
                                                          refine gi ?_ ?_
                                                          ·
                                                            exact Iff.rfl
                                                          ·
                                                            refine gi ?_ ?_
                                                            ·
                                                              exact Iff.rfl
                                                            ·
                                                              refine gi ?_ ?_
                                                              ·
                                                                exact Iff.rfl
                                                              ·
                                                                refine gi ?_ ?_
                                                                ·
                                                                  exact Iff.rfl
                                                                ·
                                                                  refine gi ?_ ?_
                                                                  ·
                                                                    exact Iff.rfl
                                                                  ·
                                                                    refine gi ?_ ?_
                                                                    ·
                                                                      exact Iff.rfl
                                                                    ·
                                                                      refine gi ?_ ?_
                                                                      ·
                                                                        exact Iff.rfl
                                                                      ·
                                                                        refine gi ?_ ?_
                                                                        ·
                                                                          exact Iff.rfl
                                                                        ·
                                                                          refine gi ?_ ?_
                                                                          ·
                                                                            exact Iff.rfl
                                                                          ·
                                                                            refine gi ?_ ?_
                                                                            ·
                                                                              exact Iff.rfl
                                                                            ·
                                                                              exact Iff.rfl
set_option maxRecDepth 50000 in
theorem b328_196 {d : Nat} {h : mHeap} {Q : Option Value → mHeap → Prop} {a0 : Nat} {a1 : Nat} {a2 : Nat} {x3 : Int32} : Go d 328 196 [some (.ref a0), some (.ref a1), some (.ref a2), some (.int x3)] [] h Q ↔ okA h a0 .int (x3 + (ii 1)) ∧ okA h a0 .int (x3 + (ii 2)) ∧ okA h a0 .int (x3 + (ii 3)) ∧ okA h a0 .int (x3 + (ii 4)) ∧ okA h a0 .int (x3 + (ii 5)) ∧ oC h a1 = 11 ∧ GoCi d 135 [.ref a1, .int (eI h a0 (x3 + (ii 1))), .int (eI h a0 (x3 + (ii 2))), .int (eI h a0 (x3 + (ii 3))), .int (eI h a0 (x3 + (ii 4))), .int (eI h a0 (x3 + (ii 5)))] h (fun v1 h1 => okA h1 a0 .int (x3 + (ii 1)) ∧ okA h1 a0 .int (x3 + (ii 2)) ∧ okA h1 a0 .int (x3 + (ii 3)) ∧ okA h1 a0 .int (x3 + (ii 4)) ∧ okA h1 a0 .int (x3 + (ii 5)) ∧ oC h1 a2 = 12 ∧ GoCi d 193 [.ref a2, .int (eI h1 a0 (x3 + (ii 1))), .int (eI h1 a0 (x3 + (ii 2))), .int (eI h1 a0 (x3 + (ii 3))), .int (eI h1 a0 (x3 + (ii 4))), .int (eI h1 a0 (x3 + (ii 5)))] h1 (fun v2 h2 => (if v1 = v2 then (Go d 328 1263 [some (.ref a0), some (.ref a1), some (.ref a2), some (.int x3)] [] h2 Q) else (((ii 0) = ii 0 ∨ (ii 0) = ii 1) ∧ Q (some (.int (ii 0))) h2)))) := by
  refine (G_aload rfl (mF fc328 (by rfl))).trans ?_
  refine (G_aload rfl (mF fc328 (by rfl))).trans ?_
  refine (G_iload rfl (mF fc328 (by rfl))).trans ?_
  refine (G_iconst (mF fc328 (by rfl))).trans ?_
  refine (G_iadd (mF fc328 (by rfl))).trans ?_
  refine (G_iaload (mF fc328 (by rfl))).trans (andR ?_)
  refine (G_aload rfl (mF fc328 (by rfl))).trans ?_
  refine (G_iload rfl (mF fc328 (by rfl))).trans ?_
  refine (G_iconst (mF fc328 (by rfl))).trans ?_
  refine (G_iadd (mF fc328 (by rfl))).trans ?_
  refine (G_iaload (mF fc328 (by rfl))).trans (andR ?_)
  refine (G_aload rfl (mF fc328 (by rfl))).trans ?_
  refine (G_iload rfl (mF fc328 (by rfl))).trans ?_
  refine (G_iconst (mF fc328 (by rfl))).trans ?_
  refine (G_iadd (mF fc328 (by rfl))).trans ?_
  refine (G_iaload (mF fc328 (by rfl))).trans (andR ?_)
  refine (G_aload rfl (mF fc328 (by rfl))).trans ?_
  refine (G_iload rfl (mF fc328 (by rfl))).trans ?_
  refine (G_iconst (mF fc328 (by rfl))).trans ?_
  refine (G_iadd (mF fc328 (by rfl))).trans ?_
  refine (G_iaload (mF fc328 (by rfl))).trans (andR ?_)
  refine (G_aload rfl (mF fc328 (by rfl))).trans ?_
  refine (G_iload rfl (mF fc328 (by rfl))).trans ?_
  refine (G_iconst (mF fc328 (by rfl))).trans ?_
  refine (G_iadd (mF fc328 (by rfl))).trans ?_
  refine (G_iaload (mF fc328 (by rfl))).trans (andR ?_)
  refine (G_Vi (q := 69302) (y := 135) (a := a1) (c := 11) rfl rfl rfl rfl (by decide) rfl (as := [.ref a1, .int (eI h a0 (x3 + (ii 1))), .int (eI h a0 (x3 + (ii 2))), .int (eI h a0 (x3 + (ii 3))), .int (eI h a0 (x3 + (ii 4))), .int (eI h a0 (x3 + (ii 5)))]) (rest := []) rfl rfl (mF fc328 (by rfl))).trans (andR (GoCi_congr fun v1 h1 => ?_))
  refine (G_aload rfl (mF fc328 (by rfl))).trans ?_
  refine (G_aload rfl (mF fc328 (by rfl))).trans ?_
  refine (G_iload rfl (mF fc328 (by rfl))).trans ?_
  refine (G_iconst (mF fc328 (by rfl))).trans ?_
  refine (G_iadd (mF fc328 (by rfl))).trans ?_
  refine (G_iaload (mF fc328 (by rfl))).trans (andR ?_)
  refine (G_aload rfl (mF fc328 (by rfl))).trans ?_
  refine (G_iload rfl (mF fc328 (by rfl))).trans ?_
  refine (G_iconst (mF fc328 (by rfl))).trans ?_
  refine (G_iadd (mF fc328 (by rfl))).trans ?_
  refine (G_iaload (mF fc328 (by rfl))).trans (andR ?_)
  refine (G_aload rfl (mF fc328 (by rfl))).trans ?_
  refine (G_iload rfl (mF fc328 (by rfl))).trans ?_
  refine (G_iconst (mF fc328 (by rfl))).trans ?_
  refine (G_iadd (mF fc328 (by rfl))).trans ?_
  refine (G_iaload (mF fc328 (by rfl))).trans (andR ?_)
  refine (G_aload rfl (mF fc328 (by rfl))).trans ?_
  refine (G_iload rfl (mF fc328 (by rfl))).trans ?_
  refine (G_iconst (mF fc328 (by rfl))).trans ?_
  refine (G_iadd (mF fc328 (by rfl))).trans ?_
  refine (G_iaload (mF fc328 (by rfl))).trans (andR ?_)
  refine (G_aload rfl (mF fc328 (by rfl))).trans ?_
  refine (G_iload rfl (mF fc328 (by rfl))).trans ?_
  refine (G_iconst (mF fc328 (by rfl))).trans ?_
  refine (G_iadd (mF fc328 (by rfl))).trans ?_
  refine (G_iaload (mF fc328 (by rfl))).trans (andR ?_)
  refine (G_Vi (q := 99014) (y := 193) (a := a2) (c := 12) rfl rfl rfl rfl (by decide) rfl (as := [.ref a2, .int (eI h1 a0 (x3 + (ii 1))), .int (eI h1 a0 (x3 + (ii 2))), .int (eI h1 a0 (x3 + (ii 3))), .int (eI h1 a0 (x3 + (ii 4))), .int (eI h1 a0 (x3 + (ii 5)))]) (rest := [.int v1]) rfl rfl (mF fc328 (by rfl))).trans (andR (GoCi_congr fun v2 h2 => ?_))
  refine (G_ieq (mF fc328 (by rfl))).trans (gi ?_ ?_)
  ·
    exact Iff.rfl
  ·
    refine (G_iconst (mF fc328 (by rfl))).trans ?_
    exact G_ireturnZ rfl (mF fc328 (by rfl))
set_option maxRecDepth 50000 in
theorem b328_259 {d : Nat} {h : mHeap} {Q : Option Value → mHeap → Prop} {a0 : Nat} {a1 : Nat} {a2 : Nat} {x3 : Int32} : Go d 328 259 [some (.ref a0), some (.ref a1), some (.ref a2), some (.int x3)] [] h Q ↔ okA h a0 .int (x3 + (ii 1)) ∧ oC h a1 = 11 ∧ GoCi d 136 [.ref a1, .int (eI h a0 (x3 + (ii 1)))] h (fun v1 h1 => okA h1 a0 .int (x3 + (ii 1)) ∧ oC h1 a2 = 12 ∧ GoCi d 195 [.ref a2, .int (eI h1 a0 (x3 + (ii 1)))] h1 (fun v2 h2 => (if v1 = v2 then (Go d 328 1263 [some (.ref a0), some (.ref a1), some (.ref a2), some (.int x3)] [] h2 Q) else (((ii 0) = ii 0 ∨ (ii 0) = ii 1) ∧ Q (some (.int (ii 0))) h2)))) := by
  refine (G_aload rfl (mF fc328 (by rfl))).trans ?_
  refine (G_aload rfl (mF fc328 (by rfl))).trans ?_
  refine (G_iload rfl (mF fc328 (by rfl))).trans ?_
  refine (G_iconst (mF fc328 (by rfl))).trans ?_
  refine (G_iadd (mF fc328 (by rfl))).trans ?_
  refine (G_iaload (mF fc328 (by rfl))).trans (andR ?_)
  refine (G_Vi (q := 69810) (y := 136) (a := a1) (c := 11) rfl rfl rfl rfl (by decide) rfl (as := [.ref a1, .int (eI h a0 (x3 + (ii 1)))]) (rest := []) rfl rfl (mF fc328 (by rfl))).trans (andR (GoCi_congr fun v1 h1 => ?_))
  refine (G_aload rfl (mF fc328 (by rfl))).trans ?_
  refine (G_aload rfl (mF fc328 (by rfl))).trans ?_
  refine (G_iload rfl (mF fc328 (by rfl))).trans ?_
  refine (G_iconst (mF fc328 (by rfl))).trans ?_
  refine (G_iadd (mF fc328 (by rfl))).trans ?_
  refine (G_iaload (mF fc328 (by rfl))).trans (andR ?_)
  refine (G_Vi (q := 100034) (y := 195) (a := a2) (c := 12) rfl rfl rfl rfl (by decide) rfl (as := [.ref a2, .int (eI h1 a0 (x3 + (ii 1)))]) (rest := [.int v1]) rfl rfl (mF fc328 (by rfl))).trans (andR (GoCi_congr fun v2 h2 => ?_))
  refine (G_ieq (mF fc328 (by rfl))).trans (gi ?_ ?_)
  ·
    exact Iff.rfl
  ·
    refine (G_iconst (mF fc328 (by rfl))).trans ?_
    exact G_ireturnZ rfl (mF fc328 (by rfl))
set_option maxRecDepth 50000 in
theorem b328_282 {d : Nat} {h : mHeap} {Q : Option Value → mHeap → Prop} {a0 : Nat} {a1 : Nat} {a2 : Nat} {x3 : Int32} : Go d 328 282 [some (.ref a0), some (.ref a1), some (.ref a2), some (.int x3)] [] h Q ↔ oC h a1 = 11 ∧ GoCi d 137 [.ref a1] h (fun v1 h1 => oC h1 a2 = 12 ∧ GoCi d 226 [.ref a2] h1 (fun v2 h2 => (if v1 = v2 then (Go d 328 1263 [some (.ref a0), some (.ref a1), some (.ref a2), some (.int x3)] [] h2 Q) else (((ii 0) = ii 0 ∨ (ii 0) = ii 1) ∧ Q (some (.int (ii 0))) h2)))) := by
  refine (G_aload rfl (mF fc328 (by rfl))).trans ?_
  refine (G_Vi (q := 70321) (y := 137) (a := a1) (c := 11) rfl rfl rfl rfl (by decide) rfl (as := [.ref a1]) (rest := []) rfl rfl (mF fc328 (by rfl))).trans (andR (GoCi_congr fun v1 h1 => ?_))
  refine (G_aload rfl (mF fc328 (by rfl))).trans ?_
  refine (G_Vi (q := 115905) (y := 226) (a := a2) (c := 12) rfl rfl rfl rfl (by decide) rfl (as := [.ref a2]) (rest := [.int v1]) rfl rfl (mF fc328 (by rfl))).trans (andR (GoCi_congr fun v2 h2 => ?_))
  refine (G_ieq (mF fc328 (by rfl))).trans (gi ?_ ?_)
  ·
    exact Iff.rfl
  ·
    refine (G_iconst (mF fc328 (by rfl))).trans ?_
    exact G_ireturnZ rfl (mF fc328 (by rfl))
set_option maxRecDepth 50000 in
theorem b328_295 {d : Nat} {h : mHeap} {Q : Option Value → mHeap → Prop} {a0 : Nat} {a1 : Nat} {a2 : Nat} {x3 : Int32} : Go d 328 295 [some (.ref a0), some (.ref a1), some (.ref a2), some (.int x3)] [] h Q ↔ oC h a1 = 11 ∧ GoCi d 138 [.ref a1] h (fun v1 h1 => oC h1 a2 = 12 ∧ GoCi d 237 [.ref a2] h1 (fun v2 h2 => (if v1 = v2 then (Go d 328 1263 [some (.ref a0), some (.ref a1), some (.ref a2), some (.int x3)] [] h2 Q) else (((ii 0) = ii 0 ∨ (ii 0) = ii 1) ∧ Q (some (.int (ii 0))) h2)))) := by
  refine (G_aload rfl (mF fc328 (by rfl))).trans ?_
  refine (G_Vi (q := 70833) (y := 138) (a := a1) (c := 11) rfl rfl rfl rfl (by decide) rfl (as := [.ref a1]) (rest := []) rfl rfl (mF fc328 (by rfl))).trans (andR (GoCi_congr fun v1 h1 => ?_))
  refine (G_aload rfl (mF fc328 (by rfl))).trans ?_
  refine (G_Vi (q := 121537) (y := 237) (a := a2) (c := 12) rfl rfl rfl rfl (by decide) rfl (as := [.ref a2]) (rest := [.int v1]) rfl rfl (mF fc328 (by rfl))).trans (andR (GoCi_congr fun v2 h2 => ?_))
  refine (G_ieq (mF fc328 (by rfl))).trans (gi ?_ ?_)
  ·
    exact Iff.rfl
  ·
    refine (G_iconst (mF fc328 (by rfl))).trans ?_
    exact G_ireturnZ rfl (mF fc328 (by rfl))
set_option maxRecDepth 50000 in
theorem b328_308 {d : Nat} {h : mHeap} {Q : Option Value → mHeap → Prop} {a0 : Nat} {a1 : Nat} {a2 : Nat} {x3 : Int32} : Go d 328 308 [some (.ref a0), some (.ref a1), some (.ref a2), some (.int x3)] [] h Q ↔ oC h a1 = 11 ∧ GoCi d 139 [.ref a1] h (fun v1 h1 => oC h1 a2 = 12 ∧ GoCi d 239 [.ref a2] h1 (fun v2 h2 => (if v1 = v2 then (Go d 328 1263 [some (.ref a0), some (.ref a1), some (.ref a2), some (.int x3)] [] h2 Q) else (((ii 0) = ii 0 ∨ (ii 0) = ii 1) ∧ Q (some (.int (ii 0))) h2)))) := by
  refine (G_aload rfl (mF fc328 (by rfl))).trans ?_
  refine (G_Vi (q := 71345) (y := 139) (a := a1) (c := 11) rfl rfl rfl rfl (by decide) rfl (as := [.ref a1]) (rest := []) rfl rfl (mF fc328 (by rfl))).trans (andR (GoCi_congr fun v1 h1 => ?_))
  refine (G_aload rfl (mF fc328 (by rfl))).trans ?_
  refine (G_Vi (q := 122561) (y := 239) (a := a2) (c := 12) rfl rfl rfl rfl (by decide) rfl (as := [.ref a2]) (rest := [.int v1]) rfl rfl (mF fc328 (by rfl))).trans (andR (GoCi_congr fun v2 h2 => ?_))
  refine (G_ieq (mF fc328 (by rfl))).trans (gi ?_ ?_)
  ·
    exact Iff.rfl
  ·
    refine (G_iconst (mF fc328 (by rfl))).trans ?_
    exact G_ireturnZ rfl (mF fc328 (by rfl))
set_option maxRecDepth 50000 in
theorem b328_321 {d : Nat} {h : mHeap} {Q : Option Value → mHeap → Prop} {a0 : Nat} {a1 : Nat} {a2 : Nat} {x3 : Int32} : Go d 328 321 [some (.ref a0), some (.ref a1), some (.ref a2), some (.int x3)] [] h Q ↔ okA h a0 .int (x3 + (ii 1)) ∧ okA h a0 .int (x3 + (ii 2)) ∧ oC h a1 = 11 ∧ GoCi d 140 [.ref a1, .int (eI h a0 (x3 + (ii 1))), .int (eI h a0 (x3 + (ii 2)))] h (fun v1 h1 => okA h1 a0 .int (x3 + (ii 1)) ∧ okA h1 a0 .int (x3 + (ii 2)) ∧ oC h1 a2 = 12 ∧ GoCi d 254 [.ref a2, .int (eI h1 a0 (x3 + (ii 1))), .int (eI h1 a0 (x3 + (ii 2)))] h1 (fun v2 h2 => (if v1 = v2 then (Go d 328 1263 [some (.ref a0), some (.ref a1), some (.ref a2), some (.int x3)] [] h2 Q) else (((ii 0) = ii 0 ∨ (ii 0) = ii 1) ∧ Q (some (.int (ii 0))) h2)))) := by
  refine (G_aload rfl (mF fc328 (by rfl))).trans ?_
  refine (G_aload rfl (mF fc328 (by rfl))).trans ?_
  refine (G_iload rfl (mF fc328 (by rfl))).trans ?_
  refine (G_iconst (mF fc328 (by rfl))).trans ?_
  refine (G_iadd (mF fc328 (by rfl))).trans ?_
  refine (G_iaload (mF fc328 (by rfl))).trans (andR ?_)
  refine (G_aload rfl (mF fc328 (by rfl))).trans ?_
  refine (G_iload rfl (mF fc328 (by rfl))).trans ?_
  refine (G_iconst (mF fc328 (by rfl))).trans ?_
  refine (G_iadd (mF fc328 (by rfl))).trans ?_
  refine (G_iaload (mF fc328 (by rfl))).trans (andR ?_)
  refine (G_Vi (q := 71859) (y := 140) (a := a1) (c := 11) rfl rfl rfl rfl (by decide) rfl (as := [.ref a1, .int (eI h a0 (x3 + (ii 1))), .int (eI h a0 (x3 + (ii 2)))]) (rest := []) rfl rfl (mF fc328 (by rfl))).trans (andR (GoCi_congr fun v1 h1 => ?_))
  refine (G_aload rfl (mF fc328 (by rfl))).trans ?_
  refine (G_aload rfl (mF fc328 (by rfl))).trans ?_
  refine (G_iload rfl (mF fc328 (by rfl))).trans ?_
  refine (G_iconst (mF fc328 (by rfl))).trans ?_
  refine (G_iadd (mF fc328 (by rfl))).trans ?_
  refine (G_iaload (mF fc328 (by rfl))).trans (andR ?_)
  refine (G_aload rfl (mF fc328 (by rfl))).trans ?_
  refine (G_iload rfl (mF fc328 (by rfl))).trans ?_
  refine (G_iconst (mF fc328 (by rfl))).trans ?_
  refine (G_iadd (mF fc328 (by rfl))).trans ?_
  refine (G_iaload (mF fc328 (by rfl))).trans (andR ?_)
  refine (G_Vi (q := 130243) (y := 254) (a := a2) (c := 12) rfl rfl rfl rfl (by decide) rfl (as := [.ref a2, .int (eI h1 a0 (x3 + (ii 1))), .int (eI h1 a0 (x3 + (ii 2)))]) (rest := [.int v1]) rfl rfl (mF fc328 (by rfl))).trans (andR (GoCi_congr fun v2 h2 => ?_))
  refine (G_ieq (mF fc328 (by rfl))).trans (gi ?_ ?_)
  ·
    exact Iff.rfl
  ·
    refine (G_iconst (mF fc328 (by rfl))).trans ?_
    exact G_ireturnZ rfl (mF fc328 (by rfl))
set_option maxRecDepth 50000 in
theorem b328_354 {d : Nat} {h : mHeap} {Q : Option Value → mHeap → Prop} {a0 : Nat} {a1 : Nat} {a2 : Nat} {x3 : Int32} : Go d 328 354 [some (.ref a0), some (.ref a1), some (.ref a2), some (.int x3)] [] h Q ↔ okA h a0 .int (x3 + (ii 1)) ∧ oC h a1 = 11 ∧ GoCi d 141 [.ref a1, .int (eI h a0 (x3 + (ii 1)))] h (fun v1 h1 => okA h1 a0 .int (x3 + (ii 1)) ∧ oC h1 a2 = 12 ∧ GoCi d 255 [.ref a2, .int (eI h1 a0 (x3 + (ii 1)))] h1 (fun v2 h2 => (if v1 = v2 then (Go d 328 1263 [some (.ref a0), some (.ref a1), some (.ref a2), some (.int x3)] [] h2 Q) else (((ii 0) = ii 0 ∨ (ii 0) = ii 1) ∧ Q (some (.int (ii 0))) h2)))) := by
  refine (G_aload rfl (mF fc328 (by rfl))).trans ?_
  refine (G_aload rfl (mF fc328 (by rfl))).trans ?_
  refine (G_iload rfl (mF fc328 (by rfl))).trans ?_
  refine (G_iconst (mF fc328 (by rfl))).trans ?_
  refine (G_iadd (mF fc328 (by rfl))).trans ?_
  refine (G_iaload (mF fc328 (by rfl))).trans (andR ?_)
  refine (G_Vi (q := 72370) (y := 141) (a := a1) (c := 11) rfl rfl rfl rfl (by decide) rfl (as := [.ref a1, .int (eI h a0 (x3 + (ii 1)))]) (rest := []) rfl rfl (mF fc328 (by rfl))).trans (andR (GoCi_congr fun v1 h1 => ?_))
  refine (G_aload rfl (mF fc328 (by rfl))).trans ?_
  refine (G_aload rfl (mF fc328 (by rfl))).trans ?_
  refine (G_iload rfl (mF fc328 (by rfl))).trans ?_
  refine (G_iconst (mF fc328 (by rfl))).trans ?_
  refine (G_iadd (mF fc328 (by rfl))).trans ?_
  refine (G_iaload (mF fc328 (by rfl))).trans (andR ?_)
  refine (G_Vi (q := 130754) (y := 255) (a := a2) (c := 12) rfl rfl rfl rfl (by decide) rfl (as := [.ref a2, .int (eI h1 a0 (x3 + (ii 1)))]) (rest := [.int v1]) rfl rfl (mF fc328 (by rfl))).trans (andR (GoCi_congr fun v2 h2 => ?_))
  refine (G_ieq (mF fc328 (by rfl))).trans (gi ?_ ?_)
  ·
    exact Iff.rfl
  ·
    refine (G_iconst (mF fc328 (by rfl))).trans ?_
    exact G_ireturnZ rfl (mF fc328 (by rfl))
set_option maxRecDepth 50000 in
theorem b328_377 {d : Nat} {h : mHeap} {Q : Option Value → mHeap → Prop} {a0 : Nat} {a1 : Nat} {a2 : Nat} {x3 : Int32} : Go d 328 377 [some (.ref a0), some (.ref a1), some (.ref a2), some (.int x3)] [] h Q ↔ okA h a0 .int (x3 + (ii 1)) ∧ oC h a1 = 11 ∧ GoCi d 142 [.ref a1, .int (eI h a0 (x3 + (ii 1)))] h (fun v1 h1 => okA h1 a0 .int (x3 + (ii 1)) ∧ oC h1 a2 = 12 ∧ GoCi d 256 [.ref a2, .int (eI h1 a0 (x3 + (ii 1)))] h1 (fun v2 h2 => (if v1 = v2 then (Go d 328 1263 [some (.ref a0), some (.ref a1), some (.ref a2), some (.int x3)] [] h2 Q) else (((ii 0) = ii 0 ∨ (ii 0) = ii 1) ∧ Q (some (.int (ii 0))) h2)))) := by
  refine (G_aload rfl (mF fc328 (by rfl))).trans ?_
  refine (G_aload rfl (mF fc328 (by rfl))).trans ?_
  refine (G_iload rfl (mF fc328 (by rfl))).trans ?_
  refine (G_iconst (mF fc328 (by rfl))).trans ?_
  refine (G_iadd (mF fc328 (by rfl))).trans ?_
  refine (G_iaload (mF fc328 (by rfl))).trans (andR ?_)
  refine (G_Vi (q := 72882) (y := 142) (a := a1) (c := 11) rfl rfl rfl rfl (by decide) rfl (as := [.ref a1, .int (eI h a0 (x3 + (ii 1)))]) (rest := []) rfl rfl (mF fc328 (by rfl))).trans (andR (GoCi_congr fun v1 h1 => ?_))
  refine (G_aload rfl (mF fc328 (by rfl))).trans ?_
  refine (G_aload rfl (mF fc328 (by rfl))).trans ?_
  refine (G_iload rfl (mF fc328 (by rfl))).trans ?_
  refine (G_iconst (mF fc328 (by rfl))).trans ?_
  refine (G_iadd (mF fc328 (by rfl))).trans ?_
  refine (G_iaload (mF fc328 (by rfl))).trans (andR ?_)
  refine (G_Vi (q := 131266) (y := 256) (a := a2) (c := 12) rfl rfl rfl rfl (by decide) rfl (as := [.ref a2, .int (eI h1 a0 (x3 + (ii 1)))]) (rest := [.int v1]) rfl rfl (mF fc328 (by rfl))).trans (andR (GoCi_congr fun v2 h2 => ?_))
  refine (G_ieq (mF fc328 (by rfl))).trans (gi ?_ ?_)
  ·
    exact Iff.rfl
  ·
    refine (G_iconst (mF fc328 (by rfl))).trans ?_
    exact G_ireturnZ rfl (mF fc328 (by rfl))
set_option maxRecDepth 50000 in
theorem b328_400 {d : Nat} {h : mHeap} {Q : Option Value → mHeap → Prop} {a0 : Nat} {a1 : Nat} {a2 : Nat} {x3 : Int32} : Go d 328 400 [some (.ref a0), some (.ref a1), some (.ref a2), some (.int x3)] [] h Q ↔ okA h a0 .int (x3 + (ii 1)) ∧ okA h a0 .int (x3 + (ii 2)) ∧ oC h a1 = 11 ∧ GoCi d 143 [.ref a1, .int (eI h a0 (x3 + (ii 1))), .int (eI h a0 (x3 + (ii 2)))] h (fun v1 h1 => okA h1 a0 .int (x3 + (ii 1)) ∧ okA h1 a0 .int (x3 + (ii 2)) ∧ oC h1 a2 = 12 ∧ GoCi d 259 [.ref a2, .int (eI h1 a0 (x3 + (ii 1))), .int (eI h1 a0 (x3 + (ii 2)))] h1 (fun v2 h2 => (if v1 = v2 then (Go d 328 1263 [some (.ref a0), some (.ref a1), some (.ref a2), some (.int x3)] [] h2 Q) else (((ii 0) = ii 0 ∨ (ii 0) = ii 1) ∧ Q (some (.int (ii 0))) h2)))) := by
  refine (G_aload rfl (mF fc328 (by rfl))).trans ?_
  refine (G_aload rfl (mF fc328 (by rfl))).trans ?_
  refine (G_iload rfl (mF fc328 (by rfl))).trans ?_
  refine (G_iconst (mF fc328 (by rfl))).trans ?_
  refine (G_iadd (mF fc328 (by rfl))).trans ?_
  refine (G_iaload (mF fc328 (by rfl))).trans (andR ?_)
  refine (G_aload rfl (mF fc328 (by rfl))).trans ?_
  refine (G_iload rfl (mF fc328 (by rfl))).trans ?_
  refine (G_iconst (mF fc328 (by rfl))).trans ?_
  refine (G_iadd (mF fc328 (by rfl))).trans ?_
  refine (G_iaload (mF fc328 (by rfl))).trans (andR ?_)
  refine (G_Vi (q := 73395) (y := 143) (a := a1) (c := 11) rfl rfl rfl rfl (by decide) rfl (as := [.ref a1, .int (eI h a0 (x3 + (ii 1))), .int (eI h a0 (x3 + (ii 2)))]) (rest := []) rfl rfl (mF fc328 (by rfl))).trans (andR (GoCi_congr fun v1 h1 => ?_))
  refine (G_aload rfl (mF fc328 (by rfl))).trans ?_
  refine (G_aload rfl (mF fc328 (by rfl))).trans ?_
  refine (G_iload rfl (mF fc328 (by rfl))).trans ?_
  refine (G_iconst (mF fc328 (by rfl))).trans ?_
  refine (G_iadd (mF fc328 (by rfl))).trans ?_
  refine (G_iaload (mF fc328 (by rfl))).trans (andR ?_)
  refine (G_aload rfl (mF fc328 (by rfl))).trans ?_
  refine (G_iload rfl (mF fc328 (by rfl))).trans ?_
  refine (G_iconst (mF fc328 (by rfl))).trans ?_
  refine (G_iadd (mF fc328 (by rfl))).trans ?_
  refine (G_iaload (mF fc328 (by rfl))).trans (andR ?_)
  refine (G_Vi (q := 132803) (y := 259) (a := a2) (c := 12) rfl rfl rfl rfl (by decide) rfl (as := [.ref a2, .int (eI h1 a0 (x3 + (ii 1))), .int (eI h1 a0 (x3 + (ii 2)))]) (rest := [.int v1]) rfl rfl (mF fc328 (by rfl))).trans (andR (GoCi_congr fun v2 h2 => ?_))
  refine (G_ieq (mF fc328 (by rfl))).trans (gi ?_ ?_)
  ·
    exact Iff.rfl
  ·
    refine (G_iconst (mF fc328 (by rfl))).trans ?_
    exact G_ireturnZ rfl (mF fc328 (by rfl))
set_option maxRecDepth 50000 in
theorem b328_433 {d : Nat} {h : mHeap} {Q : Option Value → mHeap → Prop} {a0 : Nat} {a1 : Nat} {a2 : Nat} {x3 : Int32} : Go d 328 433 [some (.ref a0), some (.ref a1), some (.ref a2), some (.int x3)] [] h Q ↔ okA h a0 .int (x3 + (ii 1)) ∧ okA h a0 .int (x3 + (ii 2)) ∧ oC h a1 = 11 ∧ GoCi d 144 [.ref a1, .int (eI h a0 (x3 + (ii 1))), .int (eI h a0 (x3 + (ii 2)))] h (fun v1 h1 => okA h1 a0 .int (x3 + (ii 1)) ∧ okA h1 a0 .int (x3 + (ii 2)) ∧ oC h1 a2 = 12 ∧ GoCi d 260 [.ref a2, .int (eI h1 a0 (x3 + (ii 1))), .int (eI h1 a0 (x3 + (ii 2)))] h1 (fun v2 h2 => (if v1 = v2 then (Go d 328 1263 [some (.ref a0), some (.ref a1), some (.ref a2), some (.int x3)] [] h2 Q) else (((ii 0) = ii 0 ∨ (ii 0) = ii 1) ∧ Q (some (.int (ii 0))) h2)))) := by
  refine (G_aload rfl (mF fc328 (by rfl))).trans ?_
  refine (G_aload rfl (mF fc328 (by rfl))).trans ?_
  refine (G_iload rfl (mF fc328 (by rfl))).trans ?_
  refine (G_iconst (mF fc328 (by rfl))).trans ?_
  refine (G_iadd (mF fc328 (by rfl))).trans ?_
  refine (G_iaload (mF fc328 (by rfl))).trans (andR ?_)
  refine (G_aload rfl (mF fc328 (by rfl))).trans ?_
  refine (G_iload rfl (mF fc328 (by rfl))).trans ?_
  refine (G_iconst (mF fc328 (by rfl))).trans ?_
  refine (G_iadd (mF fc328 (by rfl))).trans ?_
  refine (G_iaload (mF fc328 (by rfl))).trans (andR ?_)
  refine (G_Vi (q := 73907) (y := 144) (a := a1) (c := 11) rfl rfl rfl rfl (by decide) rfl (as := [.ref a1, .int (eI h a0 (x3 + (ii 1))), .int (eI h a0 (x3 + (ii 2)))]) (rest := []) rfl rfl (mF fc328 (by rfl))).trans (andR (GoCi_congr fun v1 h1 => ?_))
  refine (G_aload rfl (mF fc328 (by rfl))).trans ?_
  refine (G_aload rfl (mF fc328 (by rfl))).trans ?_
  refine (G_iload rfl (mF fc328 (by rfl))).trans ?_
  refine (G_iconst (mF fc328 (by rfl))).trans ?_
  refine (G_iadd (mF fc328 (by rfl))).trans ?_
  refine (G_iaload (mF fc328 (by rfl))).trans (andR ?_)
  refine (G_aload rfl (mF fc328 (by rfl))).trans ?_
  refine (G_iload rfl (mF fc328 (by rfl))).trans ?_
  refine (G_iconst (mF fc328 (by rfl))).trans ?_
  refine (G_iadd (mF fc328 (by rfl))).trans ?_
  refine (G_iaload (mF fc328 (by rfl))).trans (andR ?_)
  refine (G_Vi (q := 133315) (y := 260) (a := a2) (c := 12) rfl rfl rfl rfl (by decide) rfl (as := [.ref a2, .int (eI h1 a0 (x3 + (ii 1))), .int (eI h1 a0 (x3 + (ii 2)))]) (rest := [.int v1]) rfl rfl (mF fc328 (by rfl))).trans (andR (GoCi_congr fun v2 h2 => ?_))
  refine (G_ieq (mF fc328 (by rfl))).trans (gi ?_ ?_)
  ·
    exact Iff.rfl
  ·
    refine (G_iconst (mF fc328 (by rfl))).trans ?_
    exact G_ireturnZ rfl (mF fc328 (by rfl))
set_option maxRecDepth 50000 in
theorem b328_466 {d : Nat} {h : mHeap} {Q : Option Value → mHeap → Prop} {a0 : Nat} {a1 : Nat} {a2 : Nat} {x3 : Int32} : Go d 328 466 [some (.ref a0), some (.ref a1), some (.ref a2), some (.int x3)] [] h Q ↔ okA h a0 .int (x3 + (ii 1)) ∧ oC h a1 = 11 ∧ GoCi d 145 [.ref a1, .int (eI h a0 (x3 + (ii 1)))] h (fun v1 h1 => okA h1 a0 .int (x3 + (ii 1)) ∧ oC h1 a2 = 12 ∧ GoCi d 261 [.ref a2, .int (eI h1 a0 (x3 + (ii 1)))] h1 (fun v2 h2 => (if v1 = v2 then (Go d 328 1263 [some (.ref a0), some (.ref a1), some (.ref a2), some (.int x3)] [] h2 Q) else (((ii 0) = ii 0 ∨ (ii 0) = ii 1) ∧ Q (some (.int (ii 0))) h2)))) := by
  refine (G_aload rfl (mF fc328 (by rfl))).trans ?_
  refine (G_aload rfl (mF fc328 (by rfl))).trans ?_
  refine (G_iload rfl (mF fc328 (by rfl))).trans ?_
  refine (G_iconst (mF fc328 (by rfl))).trans ?_
  refine (G_iadd (mF fc328 (by rfl))).trans ?_
  refine (G_iaload (mF fc328 (by rfl))).trans (andR ?_)
  refine (G_Vi (q := 74418) (y := 145) (a := a1) (c := 11) rfl rfl rfl rfl (by decide) rfl (as := [.ref a1, .int (eI h a0 (x3 + (ii 1)))]) (rest := []) rfl rfl (mF fc328 (by rfl))).trans (andR (GoCi_congr fun v1 h1 => ?_))
  refine (G_aload rfl (mF fc328 (by rfl))).trans ?_
  refine (G_aload rfl (mF fc328 (by rfl))).trans ?_
  refine (G_iload rfl (mF fc328 (by rfl))).trans ?_
  refine (G_iconst (mF fc328 (by rfl))).trans ?_
  refine (G_iadd (mF fc328 (by rfl))).trans ?_
  refine (G_iaload (mF fc328 (by rfl))).trans (andR ?_)
  refine (G_Vi (q := 133826) (y := 261) (a := a2) (c := 12) rfl rfl rfl rfl (by decide) rfl (as := [.ref a2, .int (eI h1 a0 (x3 + (ii 1)))]) (rest := [.int v1]) rfl rfl (mF fc328 (by rfl))).trans (andR (GoCi_congr fun v2 h2 => ?_))
  refine (G_ieq (mF fc328 (by rfl))).trans (gi ?_ ?_)
  ·
    exact Iff.rfl
  ·
    refine (G_iconst (mF fc328 (by rfl))).trans ?_
    exact G_ireturnZ rfl (mF fc328 (by rfl))
set_option maxRecDepth 50000 in
theorem b328_489 {d : Nat} {h : mHeap} {Q : Option Value → mHeap → Prop} {a0 : Nat} {a1 : Nat} {a2 : Nat} {x3 : Int32} : Go d 328 489 [some (.ref a0), some (.ref a1), some (.ref a2), some (.int x3)] [] h Q ↔ okA h a0 .int (x3 + (ii 1)) ∧ okA h a0 .int (x3 + (ii 2)) ∧ oC h a1 = 11 ∧ GoCi d 146 [.ref a1, .int (eI h a0 (x3 + (ii 1))), .int (eI h a0 (x3 + (ii 2)))] h (fun v1 h1 => okA h1 a0 .int (x3 + (ii 1)) ∧ okA h1 a0 .int (x3 + (ii 2)) ∧ oC h1 a2 = 12 ∧ GoCi d 263 [.ref a2, .int (eI h1 a0 (x3 + (ii 1))), .int (eI h1 a0 (x3 + (ii 2)))] h1 (fun v2 h2 => (if v1 = v2 then (Go d 328 1263 [some (.ref a0), some (.ref a1), some (.ref a2), some (.int x3)] [] h2 Q) else (((ii 0) = ii 0 ∨ (ii 0) = ii 1) ∧ Q (some (.int (ii 0))) h2)))) := by
  refine (G_aload rfl (mF fc328 (by rfl))).trans ?_
  refine (G_aload rfl (mF fc328 (by rfl))).trans ?_
  refine (G_iload rfl (mF fc328 (by rfl))).trans ?_
  refine (G_iconst (mF fc328 (by rfl))).trans ?_
  refine (G_iadd (mF fc328 (by rfl))).trans ?_
  refine (G_iaload (mF fc328 (by rfl))).trans (andR ?_)
  refine (G_aload rfl (mF fc328 (by rfl))).trans ?_
  refine (G_iload rfl (mF fc328 (by rfl))).trans ?_
  refine (G_iconst (mF fc328 (by rfl))).trans ?_
  refine (G_iadd (mF fc328 (by rfl))).trans ?_
  refine (G_iaload (mF fc328 (by rfl))).trans (andR ?_)
  refine (G_Vi (q := 74931) (y := 146) (a := a1) (c := 11) rfl rfl rfl rfl (by decide) rfl (as := [.ref a1, .int (eI h a0 (x3 + (ii 1))), .int (eI h a0 (x3 + (ii 2)))]) (rest := []) rfl rfl (mF fc328 (by rfl))).trans (andR (GoCi_congr fun v1 h1 => ?_))
  refine (G_aload rfl (mF fc328 (by rfl))).trans ?_
  refine (G_aload rfl (mF fc328 (by rfl))).trans ?_
  refine (G_iload rfl (mF fc328 (by rfl))).trans ?_
  refine (G_iconst (mF fc328 (by rfl))).trans ?_
  refine (G_iadd (mF fc328 (by rfl))).trans ?_
  refine (G_iaload (mF fc328 (by rfl))).trans (andR ?_)
  refine (G_aload rfl (mF fc328 (by rfl))).trans ?_
  refine (G_iload rfl (mF fc328 (by rfl))).trans ?_
  refine (G_iconst (mF fc328 (by rfl))).trans ?_
  refine (G_iadd (mF fc328 (by rfl))).trans ?_
  refine (G_iaload (mF fc328 (by rfl))).trans (andR ?_)
  refine (G_Vi (q := 134851) (y := 263) (a := a2) (c := 12) rfl rfl rfl rfl (by decide) rfl (as := [.ref a2, .int (eI h1 a0 (x3 + (ii 1))), .int (eI h1 a0 (x3 + (ii 2)))]) (rest := [.int v1]) rfl rfl (mF fc328 (by rfl))).trans (andR (GoCi_congr fun v2 h2 => ?_))
  refine (G_ieq (mF fc328 (by rfl))).trans (gi ?_ ?_)
  ·
    exact Iff.rfl
  ·
    refine (G_iconst (mF fc328 (by rfl))).trans ?_
    exact G_ireturnZ rfl (mF fc328 (by rfl))
set_option maxRecDepth 50000 in
theorem b328_522 {d : Nat} {h : mHeap} {Q : Option Value → mHeap → Prop} {a0 : Nat} {a1 : Nat} {a2 : Nat} {x3 : Int32} : Go d 328 522 [some (.ref a0), some (.ref a1), some (.ref a2), some (.int x3)] [] h Q ↔ okA h a0 .int (x3 + (ii 1)) ∧ okA h a0 .int (x3 + (ii 2)) ∧ oC h a1 = 11 ∧ GoCi d 147 [.ref a1, .int (eI h a0 (x3 + (ii 1))), .int (eI h a0 (x3 + (ii 2)))] h (fun v1 h1 => okA h1 a0 .int (x3 + (ii 1)) ∧ okA h1 a0 .int (x3 + (ii 2)) ∧ oC h1 a2 = 12 ∧ GoCi d 264 [.ref a2, .int (eI h1 a0 (x3 + (ii 1))), .int (eI h1 a0 (x3 + (ii 2)))] h1 (fun v2 h2 => (if v1 = v2 then (Go d 328 1263 [some (.ref a0), some (.ref a1), some (.ref a2), some (.int x3)] [] h2 Q) else (((ii 0) = ii 0 ∨ (ii 0) = ii 1) ∧ Q (some (.int (ii 0))) h2)))) := by
  refine (G_aload rfl (mF fc328 (by rfl))).trans ?_
  refine (G_aload rfl (mF fc328 (by rfl))).trans ?_
  refine (G_iload rfl (mF fc328 (by rfl))).trans ?_
  refine (G_iconst (mF fc328 (by rfl))).trans ?_
  refine (G_iadd (mF fc328 (by rfl))).trans ?_
  refine (G_iaload (mF fc328 (by rfl))).trans (andR ?_)
  refine (G_aload rfl (mF fc328 (by rfl))).trans ?_
  refine (G_iload rfl (mF fc328 (by rfl))).trans ?_
  refine (G_iconst (mF fc328 (by rfl))).trans ?_
  refine (G_iadd (mF fc328 (by rfl))).trans ?_
  refine (G_iaload (mF fc328 (by rfl))).trans (andR ?_)
  refine (G_Vi (q := 75443) (y := 147) (a := a1) (c := 11) rfl rfl rfl rfl (by decide) rfl (as := [.ref a1, .int (eI h a0 (x3 + (ii 1))), .int (eI h a0 (x3 + (ii 2)))]) (rest := []) rfl rfl (mF fc328 (by rfl))).trans (andR (GoCi_congr fun v1 h1 => ?_))
  refine (G_aload rfl (mF fc328 (by rfl))).trans ?_
  refine (G_aload rfl (mF fc328 (by rfl))).trans ?_
  refine (G_iload rfl (mF fc328 (by rfl))).trans ?_
  refine (G_iconst (mF fc328 (by rfl))).trans ?_
  refine (G_iadd (mF fc328 (by rfl))).trans ?_
  refine (G_iaload (mF fc328 (by rfl))).trans (andR ?_)
  refine (G_aload rfl (mF fc328 (by rfl))).trans ?_
  refine (G_iload rfl (mF fc328 (by rfl))).trans ?_
  refine (G_iconst (mF fc328 (by rfl))).trans ?_
  refine (G_iadd (mF fc328 (by rfl))).trans ?_
  refine (G_iaload (mF fc328 (by rfl))).trans (andR ?_)
  refine (G_Vi (q := 135363) (y := 264) (a := a2) (c := 12) rfl rfl rfl rfl (by decide) rfl (as := [.ref a2, .int (eI h1 a0 (x3 + (ii 1))), .int (eI h1 a0 (x3 + (ii 2)))]) (rest := [.int v1]) rfl rfl (mF fc328 (by rfl))).trans (andR (GoCi_congr fun v2 h2 => ?_))
  refine (G_ieq (mF fc328 (by rfl))).trans (gi ?_ ?_)
  ·
    exact Iff.rfl
  ·
    refine (G_iconst (mF fc328 (by rfl))).trans ?_
    exact G_ireturnZ rfl (mF fc328 (by rfl))
set_option maxRecDepth 50000 in
theorem b328_555 {d : Nat} {h : mHeap} {Q : Option Value → mHeap → Prop} {a0 : Nat} {a1 : Nat} {a2 : Nat} {x3 : Int32} : Go d 328 555 [some (.ref a0), some (.ref a1), some (.ref a2), some (.int x3)] [] h Q ↔ okA h a0 .int (x3 + (ii 1)) ∧ oC h a1 = 11 ∧ GoCi d 148 [.ref a1, .int (eI h a0 (x3 + (ii 1)))] h (fun v1 h1 => okA h1 a0 .int (x3 + (ii 1)) ∧ oC h1 a2 = 12 ∧ GoCi d 265 [.ref a2, .int (eI h1 a0 (x3 + (ii 1)))] h1 (fun v2 h2 => (if v1 = v2 then (Go d 328 1263 [some (.ref a0), some (.ref a1), some (.ref a2), some (.int x3)] [] h2 Q) else (((ii 0) = ii 0 ∨ (ii 0) = ii 1) ∧ Q (some (.int (ii 0))) h2)))) := by
  refine (G_aload rfl (mF fc328 (by rfl))).trans ?_
  refine (G_aload rfl (mF fc328 (by rfl))).trans ?_
  refine (G_iload rfl (mF fc328 (by rfl))).trans ?_
  refine (G_iconst (mF fc328 (by rfl))).trans ?_
  refine (G_iadd (mF fc328 (by rfl))).trans ?_
  refine (G_iaload (mF fc328 (by rfl))).trans (andR ?_)
  refine (G_Vi (q := 75954) (y := 148) (a := a1) (c := 11) rfl rfl rfl rfl (by decide) rfl (as := [.ref a1, .int (eI h a0 (x3 + (ii 1)))]) (rest := []) rfl rfl (mF fc328 (by rfl))).trans (andR (GoCi_congr fun v1 h1 => ?_))
  refine (G_aload rfl (mF fc328 (by rfl))).trans ?_
  refine (G_aload rfl (mF fc328 (by rfl))).trans ?_
  refine (G_iload rfl (mF fc328 (by rfl))).trans ?_
  refine (G_iconst (mF fc328 (by rfl))).trans ?_
  refine (G_iadd (mF fc328 (by rfl))).trans ?_
  refine (G_iaload (mF fc328 (by rfl))).trans (andR ?_)
  refine (G_Vi (q := 135874) (y := 265) (a := a2) (c := 12) rfl rfl rfl rfl (by decide) rfl (as := [.ref a2, .int (eI h1 a0 (x3 + (ii 1)))]) (rest := [.int v1]) rfl rfl (mF fc328 (by rfl))).trans (andR (GoCi_congr fun v2 h2 => ?_))
  refine (G_ieq (mF fc328 (by rfl))).trans (gi ?_ ?_)
  ·
    exact Iff.rfl
  ·
    refine (G_iconst (mF fc328 (by rfl))).trans ?_
    exact G_ireturnZ rfl (mF fc328 (by rfl))
set_option maxRecDepth 50000 in
theorem b328_578 {d : Nat} {h : mHeap} {Q : Option Value → mHeap → Prop} {a0 : Nat} {a1 : Nat} {a2 : Nat} {x3 : Int32} : Go d 328 578 [some (.ref a0), some (.ref a1), some (.ref a2), some (.int x3)] [] h Q ↔ okA h a0 .int (x3 + (ii 1)) ∧ oC h a1 = 11 ∧ GoCi d 149 [.ref a1, .int (eI h a0 (x3 + (ii 1)))] h (fun v1 h1 => okA h1 a0 .int (x3 + (ii 1)) ∧ oC h1 a2 = 12 ∧ GoCi d 266 [.ref a2, .int (eI h1 a0 (x3 + (ii 1)))] h1 (fun v2 h2 => (if v1 = v2 then (Go d 328 1263 [some (.ref a0), some (.ref a1), some (.ref a2), some (.int x3)] [] h2 Q) else (((ii 0) = ii 0 ∨ (ii 0) = ii 1) ∧ Q (some (.int (ii 0))) h2)))) := by
  refine (G_aload rfl (mF fc328 (by rfl))).trans ?_
  refine (G_aload rfl (mF fc328 (by rfl))).trans ?_
  refine (G_iload rfl (mF fc328 (by rfl))).trans ?_
  refine (G_iconst (mF fc328 (by rfl))).trans ?_
  refine (G_iadd (mF fc328 (by rfl))).trans ?_
  refine (G_iaload (mF fc328 (by rfl))).trans (andR ?_)
  refine (G_Vi (q := 76466) (y := 149) (a := a1) (c := 11) rfl rfl rfl rfl (by decide) rfl (as := [.ref a1, .int (eI h a0 (x3 + (ii 1)))]) (rest := []) rfl rfl (mF fc328 (by rfl))).trans (andR (GoCi_congr fun v1 h1 => ?_))
  refine (G_aload rfl (mF fc328 (by rfl))).trans ?_
  refine (G_aload rfl (mF fc328 (by rfl))).trans ?_
  refine (G_iload rfl (mF fc328 (by rfl))).trans ?_
  refine (G_iconst (mF fc328 (by rfl))).trans ?_
  refine (G_iadd (mF fc328 (by rfl))).trans ?_
  refine (G_iaload (mF fc328 (by rfl))).trans (andR ?_)
  refine (G_Vi (q := 136386) (y := 266) (a := a2) (c := 12) rfl rfl rfl rfl (by decide) rfl (as := [.ref a2, .int (eI h1 a0 (x3 + (ii 1)))]) (rest := [.int v1]) rfl rfl (mF fc328 (by rfl))).trans (andR (GoCi_congr fun v2 h2 => ?_))
  refine (G_ieq (mF fc328 (by rfl))).trans (gi ?_ ?_)
  ·
    exact Iff.rfl
  ·
    refine (G_iconst (mF fc328 (by rfl))).trans ?_
    exact G_ireturnZ rfl (mF fc328 (by rfl))
set_option maxRecDepth 50000 in
theorem b328_601 {d : Nat} {h : mHeap} {Q : Option Value → mHeap → Prop} {a0 : Nat} {a1 : Nat} {a2 : Nat} {x3 : Int32} : Go d 328 601 [some (.ref a0), some (.ref a1), some (.ref a2), some (.int x3)] [] h Q ↔ okA h a0 .int (x3 + (ii 1)) ∧ okA h a0 .int (x3 + (ii 2)) ∧ oC h a1 = 11 ∧ GoCi d 150 [.ref a1, .int (eI h a0 (x3 + (ii 1))), .int (eI h a0 (x3 + (ii 2)))] h (fun v1 h1 => okA h1 a0 .int (x3 + (ii 1)) ∧ okA h1 a0 .int (x3 + (ii 2)) ∧ oC h1 a2 = 12 ∧ GoCi d 273 [.ref a2, .int (eI h1 a0 (x3 + (ii 1))), .int (eI h1 a0 (x3 + (ii 2)))] h1 (fun v2 h2 => (if v1 = v2 then (Go d 328 1263 [some (.ref a0), some (.ref a1), some (.ref a2), some (.int x3)] [] h2 Q) else (((ii 0) = ii 0 ∨ (ii 0) = ii 1) ∧ Q (some (.int (ii 0))) h2)))) := by
  refine (G_aload rfl (mF fc328 (by rfl))).trans ?_
  refine (G_aload rfl (mF fc328 (by rfl))).trans ?_
  refine (G_iload rfl (mF fc328 (by rfl))).trans ?_
  refine (G_iconst (mF fc328 (by rfl))).trans ?_
  refine (G_iadd (mF fc328 (by rfl))).trans ?_
  refine (G_iaload (mF fc328 (by rfl))).trans (andR ?_)
  refine (G_aload rfl (mF fc328 (by rfl))).trans ?_
  refine (G_iload rfl (mF fc328 (by rfl))).trans ?_
  refine (G_iconst (mF fc328 (by rfl))).trans ?_
  refine (G_iadd (mF fc328 (by rfl))).trans ?_
  refine (G_iaload (mF fc328 (by rfl))).trans (andR ?_)
  refine (G_Vi (q := 76979) (y := 150) (a := a1) (c := 11) rfl rfl rfl rfl (by decide) rfl (as := [.ref a1, .int (eI h a0 (x3 + (ii 1))), .int (eI h a0 (x3 + (ii 2)))]) (rest := []) rfl rfl (mF fc328 (by rfl))).trans (andR (GoCi_congr fun v1 h1 => ?_))
  refine (G_aload rfl (mF fc328 (by rfl))).trans ?_
  refine (G_aload rfl (mF fc328 (by rfl))).trans ?_
  refine (G_iload rfl (mF fc328 (by rfl))).trans ?_
  refine (G_iconst (mF fc328 (by rfl))).trans ?_
  refine (G_iadd (mF fc328 (by rfl))).trans ?_
  refine (G_iaload (mF fc328 (by rfl))).trans (andR ?_)
  refine (G_aload rfl (mF fc328 (by rfl))).trans ?_
  refine (G_iload rfl (mF fc328 (by rfl))).trans ?_
  refine (G_iconst (mF fc328 (by rfl))).trans ?_
  refine (G_iadd (mF fc328 (by rfl))).trans ?_
  refine (G_iaload (mF fc328 (by rfl))).trans (andR ?_)
  refine (G_Vi (q := 139971) (y := 273) (a := a2) (c := 12) rfl rfl rfl rfl (by decide) rfl (as := [.ref a2, .int (eI h1 a0 (x3 + (ii 1))), .int (eI h1 a0 (x3 + (ii 2)))]) (rest := [.int v1]) rfl rfl (mF fc328 (by rfl))).trans (andR (GoCi_congr fun v2 h2 => ?_))
  refine (G_ieq (mF fc328 (by rfl))).trans (gi ?_ ?_)
  ·
    exact Iff.rfl
  ·
    refine (G_iconst (mF fc328 (by rfl))).trans ?_
    exact G_ireturnZ rfl (mF fc328 (by rfl))
set_option maxRecDepth 50000 in
theorem b328_634 {d : Nat} {h : mHeap} {Q : Option Value → mHeap → Prop} {a0 : Nat} {a1 : Nat} {a2 : Nat} {x3 : Int32} : Go d 328 634 [some (.ref a0), some (.ref a1), some (.ref a2), some (.int x3)] [] h Q ↔ okA h a0 .int (x3 + (ii 1)) ∧ okA h a0 .int (x3 + (ii 2)) ∧ okA h a0 .int (x3 + (ii 3)) ∧ oC h a1 = 11 ∧ GoCi d 151 [.ref a1, .int (eI h a0 (x3 + (ii 1))), .int (eI h a0 (x3 + (ii 2))), .int (eI h a0 (x3 + (ii 3)))] h (fun v1 h1 => okA h1 a0 .int (x3 + (ii 1)) ∧ okA h1 a0 .int (x3 + (ii 2)) ∧ okA h1 a0 .int (x3 + (ii 3)) ∧ oC h1 a2 = 12 ∧ GoCi d 274 [.ref a2, .int (eI h1 a0 (x3 + (ii 1))), .int (eI h1 a0 (x3 + (ii 2))), .int (eI h1 a0 (x3 + (ii 3)))] h1 (fun v2 h2 => (if v1 = v2 then (Go d 328 1263 [some (.ref a0), some (.ref a1), some (.ref a2), some (.int x3)] [] h2 Q) else (((ii 0) = ii 0 ∨ (ii 0) = ii 1) ∧ Q (some (.int (ii 0))) h2)))) := by
  refine (G_aload rfl (mF fc328 (by rfl))).trans ?_
  refine (G_aload rfl (mF fc328 (by rfl))).trans ?_
  refine (G_iload rfl (mF fc328 (by rfl))).trans ?_
  refine (G_iconst (mF fc328 (by rfl))).trans ?_
  refine (G_iadd (mF fc328 (by rfl))).trans ?_
  refine (G_iaload (mF fc328 (by rfl))).trans (andR ?_)
  refine (G_aload rfl (mF fc328 (by rfl))).trans ?_
  refine (G_iload rfl (mF fc328 (by rfl))).trans ?_
  refine (G_iconst (mF fc328 (by rfl))).trans ?_
  refine (G_iadd (mF fc328 (by rfl))).trans ?_
  refine (G_iaload (mF fc328 (by rfl))).trans (andR ?_)
  refine (G_aload rfl (mF fc328 (by rfl))).trans ?_
  refine (G_iload rfl (mF fc328 (by rfl))).trans ?_
  refine (G_iconst (mF fc328 (by rfl))).trans ?_
  refine (G_iadd (mF fc328 (by rfl))).trans ?_
  refine (G_iaload (mF fc328 (by rfl))).trans (andR ?_)
  refine (G_Vi (q := 77492) (y := 151) (a := a1) (c := 11) rfl rfl rfl rfl (by decide) rfl (as := [.ref a1, .int (eI h a0 (x3 + (ii 1))), .int (eI h a0 (x3 + (ii 2))), .int (eI h a0 (x3 + (ii 3)))]) (rest := []) rfl rfl (mF fc328 (by rfl))).trans (andR (GoCi_congr fun v1 h1 => ?_))
  refine (G_aload rfl (mF fc328 (by rfl))).trans ?_
  refine (G_aload rfl (mF fc328 (by rfl))).trans ?_
  refine (G_iload rfl (mF fc328 (by rfl))).trans ?_
  refine (G_iconst (mF fc328 (by rfl))).trans ?_
  refine (G_iadd (mF fc328 (by rfl))).trans ?_
  refine (G_iaload (mF fc328 (by rfl))).trans (andR ?_)
  refine (G_aload rfl (mF fc328 (by rfl))).trans ?_
  refine (G_iload rfl (mF fc328 (by rfl))).trans ?_
  refine (G_iconst (mF fc328 (by rfl))).trans ?_
  refine (G_iadd (mF fc328 (by rfl))).trans ?_
  refine (G_iaload (mF fc328 (by rfl))).trans (andR ?_)
  refine (G_aload rfl (mF fc328 (by rfl))).trans ?_
  refine (G_iload rfl (mF fc328 (by rfl))).trans ?_
  refine (G_iconst (mF fc328 (by rfl))).trans ?_
  refine (G_iadd (mF fc328 (by rfl))).trans ?_
  refine (G_iaload (mF fc328 (by rfl))).trans (andR ?_)
  refine (G_Vi (q := 140484) (y := 274) (a := a2) (c := 12) rfl rfl rfl rfl (by decide) rfl (as := [.ref a2, .int (eI h1 a0 (x3 + (ii 1))), .int (eI h1 a0 (x3 + (ii 2))), .int (eI h1 a0 (x3 + (ii 3)))]) (rest := [.int v1]) rfl rfl (mF fc328 (by rfl))).trans (andR (GoCi_congr fun v2 h2 => ?_))
  refine (G_ieq (mF fc328 (by rfl))).trans (gi ?_ ?_)
  ·
    exact Iff.rfl
  ·
    refine (G_iconst (mF fc328 (by rfl))).trans ?_
    exact G_ireturnZ rfl (mF fc328 (by rfl))
set_option maxRecDepth 50000 in
theorem b328_677 {d : Nat} {h : mHeap} {Q : Option Value → mHeap → Prop} {a0 : Nat} {a1 : Nat} {a2 : Nat} {x3 : Int32} : Go d 328 677 [some (.ref a0), some (.ref a1), some (.ref a2), some (.int x3)] [] h Q ↔ okA h a0 .int (x3 + (ii 1)) ∧ okA h a0 .int (x3 + (ii 2)) ∧ oC h a1 = 11 ∧ GoCi d 152 [.ref a1, .int (eI h a0 (x3 + (ii 1))), .int (eI h a0 (x3 + (ii 2)))] h (fun v1 h1 => okA h1 a0 .int (x3 + (ii 1)) ∧ okA h1 a0 .int (x3 + (ii 2)) ∧ oC h1 a2 = 12 ∧ GoCi d 275 [.ref a2, .int (eI h1 a0 (x3 + (ii 1))), .int (eI h1 a0 (x3 + (ii 2)))] h1 (fun v2 h2 => (if v1 = v2 then (Go d 328 1263 [some (.ref a0), some (.ref a1), some (.ref a2), some (.int x3)] [] h2 Q) else (((ii 0) = ii 0 ∨ (ii 0) = ii 1) ∧ Q (some (.int (ii 0))) h2)))) := by
  refine (G_aload rfl (mF fc328 (by rfl))).trans ?_
  refine (G_aload rfl (mF fc328 (by rfl))).trans ?_
  refine (G_iload rfl (mF fc328 (by rfl))).trans ?_
  refine (G_iconst (mF fc328 (by rfl))).trans ?_
  refine (G_iadd (mF fc328 (by rfl))).trans ?_
  refine (G_iaload (mF fc328 (by rfl))).trans (andR ?_)
  refine (G_aload rfl (mF fc328 (by rfl))).trans ?_
  refine (G_iload rfl (mF fc328 (by rfl))).trans ?_
  refine (G_iconst (mF fc328 (by rfl))).trans ?_
  refine (G_iadd (mF fc328 (by rfl))).trans ?_
  refine (G_iaload (mF fc328 (by rfl))).trans (andR ?_)
  refine (G_Vi (q := 78003) (y := 152) (a := a1) (c := 11) rfl rfl rfl rfl (by decide) rfl (as := [.ref a1, .int (eI h a0 (x3 + (ii 1))), .int (eI h a0 (x3 + (ii 2)))]) (rest := []) rfl rfl (mF fc328 (by rfl))).trans (andR (GoCi_congr fun v1 h1 => ?_))
  refine (G_aload rfl (mF fc328 (by rfl))).trans ?_
  refine (G_aload rfl (mF fc328 (by rfl))).trans ?_
  refine (G_iload rfl (mF fc328 (by rfl))).trans ?_
  refine (G_iconst (mF fc328 (by rfl))).trans ?_
  refine (G_iadd (mF fc328 (by rfl))).trans ?_
  refine (G_iaload (mF fc328 (by rfl))).trans (andR ?_)
  refine (G_aload rfl (mF fc328 (by rfl))).trans ?_
  refine (G_iload rfl (mF fc328 (by rfl))).trans ?_
  refine (G_iconst (mF fc328 (by rfl))).trans ?_
  refine (G_iadd (mF fc328 (by rfl))).trans ?_
  refine (G_iaload (mF fc328 (by rfl))).trans (andR ?_)
  refine (G_Vi (q := 140995) (y := 275) (a := a2) (c := 12) rfl rfl rfl rfl (by decide) rfl (as := [.ref a2, .int (eI h1 a0 (x3 + (ii 1))), .int (eI h1 a0 (x3 + (ii 2)))]) (rest := [.int v1]) rfl rfl (mF fc328 (by rfl))).trans (andR (GoCi_congr fun v2 h2 => ?_))
  refine (G_ieq (mF fc328 (by rfl))).trans (gi ?_ ?_)
  ·
    exact Iff.rfl
  ·
    refine (G_iconst (mF fc328 (by rfl))).trans ?_
    exact G_ireturnZ rfl (mF fc328 (by rfl))
set_option maxRecDepth 50000 in
theorem b328_710 {d : Nat} {h : mHeap} {Q : Option Value → mHeap → Prop} {a0 : Nat} {a1 : Nat} {a2 : Nat} {x3 : Int32} : Go d 328 710 [some (.ref a0), some (.ref a1), some (.ref a2), some (.int x3)] [] h Q ↔ oC h a1 = 11 ∧ GoCi d 153 [.ref a1] h (fun v1 h1 => oC h1 a2 = 12 ∧ GoCi d 278 [.ref a2] h1 (fun v2 h2 => (if v1 = v2 then (Go d 328 1263 [some (.ref a0), some (.ref a1), some (.ref a2), some (.int x3)] [] h2 Q) else (((ii 0) = ii 0 ∨ (ii 0) = ii 1) ∧ Q (some (.int (ii 0))) h2)))) := by
  refine (G_aload rfl (mF fc328 (by rfl))).trans ?_
  refine (G_Vi (q := 78513) (y := 153) (a := a1) (c := 11) rfl rfl rfl rfl (by decide) rfl (as := [.ref a1]) (rest := []) rfl rfl (mF fc328 (by rfl))).trans (andR (GoCi_congr fun v1 h1 => ?_))
  refine (G_aload rfl (mF fc328 (by rfl))).trans ?_
  refine (G_Vi (q := 142529) (y := 278) (a := a2) (c := 12) rfl rfl rfl rfl (by decide) rfl (as := [.ref a2]) (rest := [.int v1]) rfl rfl (mF fc328 (by rfl))).trans (andR (GoCi_congr fun v2 h2 => ?_))
  refine (G_ieq (mF fc328 (by rfl))).trans (gi ?_ ?_)
  ·
    exact Iff.rfl
  ·
    refine (G_iconst (mF fc328 (by rfl))).trans ?_
    exact G_ireturnZ rfl (mF fc328 (by rfl))
set_option maxRecDepth 50000 in
theorem b328_723 {d : Nat} {h : mHeap} {Q : Option Value → mHeap → Prop} {a0 : Nat} {a1 : Nat} {a2 : Nat} {x3 : Int32} : Go d 328 723 [some (.ref a0), some (.ref a1), some (.ref a2), some (.int x3)] [] h Q ↔ oC h a1 = 11 ∧ GoCi d 154 [.ref a1] h (fun v1 h1 => oC h1 a2 = 12 ∧ GoCi d 271 [.ref a2] h1 (fun v2 h2 => (if v1 = v2 then (Go d 328 1263 [some (.ref a0), some (.ref a1), some (.ref a2), some (.int x3)] [] h2 Q) else (((ii 0) = ii 0 ∨ (ii 0) = ii 1) ∧ Q (some (.int (ii 0))) h2)))) := by
  refine (G_aload rfl (mF fc328 (by rfl))).trans ?_
  refine (G_Vi (q := 79025) (y := 154) (a := a1) (c := 11) rfl rfl rfl rfl (by decide) rfl (as := [.ref a1]) (rest := []) rfl rfl (mF fc328 (by rfl))).trans (andR (GoCi_congr fun v1 h1 => ?_))
  refine (G_aload rfl (mF fc328 (by rfl))).trans ?_
  refine (G_Vi (q := 138945) (y := 271) (a := a2) (c := 12) rfl rfl rfl rfl (by decide) rfl (as := [.ref a2]) (rest := [.int v1]) rfl rfl (mF fc328 (by rfl))).trans (andR (GoCi_congr fun v2 h2 => ?_))
  refine (G_ieq (mF fc328 (by rfl))).trans (gi ?_ ?_)
  ·
    exact Iff.rfl
  ·
    refine (G_iconst (mF fc328 (by rfl))).trans ?_
    exact G_ireturnZ rfl (mF fc328 (by rfl))
set_option maxRecDepth 50000 in
theorem b328_736 {d : Nat} {h : mHeap} {Q : Option Value → mHeap → Prop} {a0 : Nat} {a1 : Nat} {a2 : Nat} {x3 : Int32} : Go d 328 736 [some (.ref a0), some (.ref a1), some (.ref a2), some (.int x3)] [] h Q ↔ okA h a0 .int (x3 + (ii 1)) ∧ okA h a0 .int (x3 + (ii 2)) ∧ oC h a1 = 11 ∧ GoCi d 155 [.ref a1, .int (eI h a0 (x3 + (ii 1))), .int (eI h a0 (x3 + (ii 2)))] h (fun v1 h1 => okA h1 a0 .int (x3 + (ii 1)) ∧ okA h1 a0 .int (x3 + (ii 2)) ∧ oC h1 a2 = 12 ∧ GoCi d 282 [.ref a2, .int (eI h1 a0 (x3 + (ii 1))), .int (eI h1 a0 (x3 + (ii 2)))] h1 (fun v2 h2 => (if v1 = v2 then (Go d 328 1263 [some (.ref a0), some (.ref a1), some (.ref a2), some (.int x3)] [] h2 Q) else (((ii 0) = ii 0 ∨ (ii 0) = ii 1) ∧ Q (some (.int (ii 0))) h2)))) := by
  refine (G_aload rfl (mF fc328 (by rfl))).trans ?_
  refine (G_aload rfl (mF fc328 (by rfl))).trans ?_
  refine (G_iload rfl (mF fc328 (by rfl))).trans ?_
  refine (G_iconst (mF fc328 (by rfl))).trans ?_
  refine (G_iadd (mF fc328 (by rfl))).trans ?_
  refine (G_iaload (mF fc328 (by rfl))).trans (andR ?_)
  refine (G_aload rfl (mF fc328 (by rfl))).trans ?_
  refine (G_iload rfl (mF fc328 (by rfl))).trans ?_
  refine (G_iconst (mF fc328 (by rfl))).trans ?_
  refine (G_iadd (mF fc328 (by rfl))).trans ?_
  refine (G_iaload (mF fc328 (by rfl))).trans (andR ?_)
  refine (G_Vi (q := 79539) (y := 155) (a := a1) (c := 11) rfl rfl rfl rfl (by decide) rfl (as := [.ref a1, .int (eI h a0 (x3 + (ii 1))), .int (eI h a0 (x3 + (ii 2)))]) (rest := []) rfl rfl (mF fc328 (by rfl))).trans (andR (GoCi_congr fun v1 h1 => ?_))
  refine (G_aload rfl (mF fc328 (by rfl))).trans ?_
  refine (G_aload rfl (mF fc328 (by rfl))).trans ?_
  refine (G_iload rfl (mF fc328 (by rfl))).trans ?_
  refine (G_iconst (mF fc328 (by rfl))).trans ?_
  refine (G_iadd (mF fc328 (by rfl))).trans ?_
  refine (G_iaload (mF fc328 (by rfl))).trans (andR ?_)
  refine (G_aload rfl (mF fc328 (by rfl))).trans ?_
  refine (G_iload rfl (mF fc328 (by rfl))).trans ?_
  refine (G_iconst (mF fc328 (by rfl))).trans ?_
  refine (G_iadd (mF fc328 (by rfl))).trans ?_
  refine (G_iaload (mF fc328 (by rfl))).trans (andR ?_)
  refine (G_Vi (q := 144579) (y := 282) (a := a2) (c := 12) rfl rfl rfl rfl (by decide) rfl (as := [.ref a2, .int (eI h1 a0 (x3 + (ii 1))), .int (eI h1 a0 (x3 + (ii 2)))]) (rest := [.int v1]) rfl rfl (mF fc328 (by rfl))).trans (andR (GoCi_congr fun v2 h2 => ?_))
  refine (G_ieq (mF fc328 (by rfl))).trans (gi ?_ ?_)
  ·
    exact Iff.rfl
  ·
    refine (G_iconst (mF fc328 (by rfl))).trans ?_
    exact G_ireturnZ rfl (mF fc328 (by rfl))
set_option maxRecDepth 50000 in
theorem b328_769 {d : Nat} {h : mHeap} {Q : Option Value → mHeap → Prop} {a0 : Nat} {a1 : Nat} {a2 : Nat} {x3 : Int32} : Go d 328 769 [some (.ref a0), some (.ref a1), some (.ref a2), some (.int x3)] [] h Q ↔ okA h a0 .int (x3 + (ii 1)) ∧ okA h a0 .int (x3 + (ii 2)) ∧ oC h a1 = 11 ∧ GoCi d 156 [.ref a1, .int (eI h a0 (x3 + (ii 1))), .int (eI h a0 (x3 + (ii 2)))] h (fun v1 h1 => okA h1 a0 .int (x3 + (ii 1)) ∧ okA h1 a0 .int (x3 + (ii 2)) ∧ oC h1 a2 = 12 ∧ GoCi d 285 [.ref a2, .int (eI h1 a0 (x3 + (ii 1))), .int (eI h1 a0 (x3 + (ii 2)))] h1 (fun v2 h2 => (if v1 = v2 then (Go d 328 1263 [some (.ref a0), some (.ref a1), some (.ref a2), some (.int x3)] [] h2 Q) else (((ii 0) = ii 0 ∨ (ii 0) = ii 1) ∧ Q (some (.int (ii 0))) h2)))) := by
  refine (G_aload rfl (mF fc328 (by rfl))).trans ?_
  refine (G_aload rfl (mF fc328 (by rfl))).trans ?_
  refine (G_iload rfl (mF fc328 (by rfl))).trans ?_
  refine (G_iconst (mF fc328 (by rfl))).trans ?_
  refine (G_iadd (mF fc328 (by rfl))).trans ?_
  refine (G_iaload (mF fc328 (by rfl))).trans (andR ?_)
  refine (G_aload rfl (mF fc328 (by rfl))).trans ?_
  refine (G_iload rfl (mF fc328 (by rfl))).trans ?_
  refine (G_iconst (mF fc328 (by rfl))).trans ?_
  refine (G_iadd (mF fc328 (by rfl))).trans ?_
  refine (G_iaload (mF fc328 (by rfl))).trans (andR ?_)
  refine (G_Vi (q := 80051) (y := 156) (a := a1) (c := 11) rfl rfl rfl rfl (by decide) rfl (as := [.ref a1, .int (eI h a0 (x3 + (ii 1))), .int (eI h a0 (x3 + (ii 2)))]) (rest := []) rfl rfl (mF fc328 (by rfl))).trans (andR (GoCi_congr fun v1 h1 => ?_))
  refine (G_aload rfl (mF fc328 (by rfl))).trans ?_
  refine (G_aload rfl (mF fc328 (by rfl))).trans ?_
  refine (G_iload rfl (mF fc328 (by rfl))).trans ?_
  refine (G_iconst (mF fc328 (by rfl))).trans ?_
  refine (G_iadd (mF fc328 (by rfl))).trans ?_
  refine (G_iaload (mF fc328 (by rfl))).trans (andR ?_)
  refine (G_aload rfl (mF fc328 (by rfl))).trans ?_
  refine (G_iload rfl (mF fc328 (by rfl))).trans ?_
  refine (G_iconst (mF fc328 (by rfl))).trans ?_
  refine (G_iadd (mF fc328 (by rfl))).trans ?_
  refine (G_iaload (mF fc328 (by rfl))).trans (andR ?_)
  refine (G_Vi (q := 146115) (y := 285) (a := a2) (c := 12) rfl rfl rfl rfl (by decide) rfl (as := [.ref a2, .int (eI h1 a0 (x3 + (ii 1))), .int (eI h1 a0 (x3 + (ii 2)))]) (rest := [.int v1]) rfl rfl (mF fc328 (by rfl))).trans (andR (GoCi_congr fun v2 h2 => ?_))
  refine (G_ieq (mF fc328 (by rfl))).trans (gi ?_ ?_)
  ·
    exact Iff.rfl
  ·
    refine (G_iconst (mF fc328 (by rfl))).trans ?_
    exact G_ireturnZ rfl (mF fc328 (by rfl))
set_option maxRecDepth 50000 in
theorem b328_802 {d : Nat} {h : mHeap} {Q : Option Value → mHeap → Prop} {a0 : Nat} {a1 : Nat} {a2 : Nat} {x3 : Int32} : Go d 328 802 [some (.ref a0), some (.ref a1), some (.ref a2), some (.int x3)] [] h Q ↔ okA h a0 .int (x3 + (ii 1)) ∧ okA h a0 .int (x3 + (ii 2)) ∧ oC h a1 = 11 ∧ GoCi d 157 [.ref a1, .int (eI h a0 (x3 + (ii 1))), .int (eI h a0 (x3 + (ii 2)))] h (fun v1 h1 => okA h1 a0 .int (x3 + (ii 1)) ∧ okA h1 a0 .int (x3 + (ii 2)) ∧ oC h1 a2 = 12 ∧ GoCi d 286 [.ref a2, .int (eI h1 a0 (x3 + (ii 1))), .int (eI h1 a0 (x3 + (ii 2)))] h1 (fun v2 h2 => (if v1 = v2 then (Go d 328 1263 [some (.ref a0), some (.ref a1), some (.ref a2), some (.int x3)] [] h2 Q) else (((ii 0) = ii 0 ∨ (ii 0) = ii 1) ∧ Q (some (.int (ii 0))) h2)))) := by
  refine (G_aload rfl (mF fc328 (by rfl))).trans ?_
  refine (G_aload rfl (mF fc328 (by rfl))).trans ?_
  refine (G_iload rfl (mF fc328 (by rfl))).trans ?_
  refine (G_iconst (mF fc328 (by rfl))).trans ?_
  refine (G_iadd (mF fc328 (by rfl))).trans ?_
  refine (G_iaload (mF fc328 (by rfl))).trans (andR ?_)
  refine (G_aload rfl (mF fc328 (by rfl))).trans ?_
  refine (G_iload rfl (mF fc328 (by rfl))).trans ?_
  refine (G_iconst (mF fc328 (by rfl))).trans ?_
  refine (G_iadd (mF fc328 (by rfl))).trans ?_
  refine (G_iaload (mF fc328 (by rfl))).trans (andR ?_)
  refine (G_Vi (q := 80563) (y := 157) (a := a1) (c := 11) rfl rfl rfl rfl (by decide) rfl (as := [.ref a1, .int (eI h a0 (x3 + (ii 1))), .int (eI h a0 (x3 + (ii 2)))]) (rest := []) rfl rfl (mF fc328 (by rfl))).trans (andR (GoCi_congr fun v1 h1 => ?_))
  refine (G_aload rfl (mF fc328 (by rfl))).trans ?_
  refine (G_aload rfl (mF fc328 (by rfl))).trans ?_
  refine (G_iload rfl (mF fc328 (by rfl))).trans ?_
  refine (G_iconst (mF fc328 (by rfl))).trans ?_
  refine (G_iadd (mF fc328 (by rfl))).trans ?_
  refine (G_iaload (mF fc328 (by rfl))).trans (andR ?_)
  refine (G_aload rfl (mF fc328 (by rfl))).trans ?_
  refine (G_iload rfl (mF fc328 (by rfl))).trans ?_
  refine (G_iconst (mF fc328 (by rfl))).trans ?_
  refine (G_iadd (mF fc328 (by rfl))).trans ?_
  refine (G_iaload (mF fc328 (by rfl))).trans (andR ?_)
  refine (G_Vi (q := 146627) (y := 286) (a := a2) (c := 12) rfl rfl rfl rfl (by decide) rfl (as := [.ref a2, .int (eI h1 a0 (x3 + (ii 1))), .int (eI h1 a0 (x3 + (ii 2)))]) (rest := [.int v1]) rfl rfl (mF fc328 (by rfl))).trans (andR (GoCi_congr fun v2 h2 => ?_))
  refine (G_ieq (mF fc328 (by rfl))).trans (gi ?_ ?_)
  ·
    exact Iff.rfl
  ·
    refine (G_iconst (mF fc328 (by rfl))).trans ?_
    exact G_ireturnZ rfl (mF fc328 (by rfl))
set_option maxRecDepth 50000 in
theorem b328_835 {d : Nat} {h : mHeap} {Q : Option Value → mHeap → Prop} {a0 : Nat} {a1 : Nat} {a2 : Nat} {x3 : Int32} : Go d 328 835 [some (.ref a0), some (.ref a1), some (.ref a2), some (.int x3)] [] h Q ↔ okA h a0 .int (x3 + (ii 1)) ∧ okA h a0 .int (x3 + (ii 2)) ∧ oC h a1 = 11 ∧ GoCi d 158 [.ref a1, .int (eI h a0 (x3 + (ii 1))), .int (eI h a0 (x3 + (ii 2)))] h (fun v1 h1 => okA h1 a0 .int (x3 + (ii 1)) ∧ okA h1 a0 .int (x3 + (ii 2)) ∧ oC h1 a2 = 12 ∧ GoCi d 287 [.ref a2, .int (eI h1 a0 (x3 + (ii 1))), .int (eI h1 a0 (x3 + (ii 2)))] h1 (fun v2 h2 => (if v1 = v2 then (Go d 328 1263 [some (.ref a0), some (.ref a1), some (.ref a2), some (.int x3)] [] h2 Q) else (((ii 0) = ii 0 ∨ (ii 0) = ii 1) ∧ Q (some (.int (ii 0))) h2)))) := by
  refine (G_aload rfl (mF fc328 (by rfl))).trans ?_
  refine (G_aload rfl (mF fc328 (by rfl))).trans ?_
  refine (G_iload rfl (mF fc328 (by rfl))).trans ?_
  refine (G_iconst (mF fc328 (by rfl))).trans ?_
  refine (G_iadd (mF fc328 (by rfl))).trans ?_
  refine (G_iaload (mF fc328 (by rfl))).trans (andR ?_)
  refine (G_aload rfl (mF fc328 (by rfl))).trans ?_
  refine (G_iload rfl (mF fc328 (by rfl))).trans ?_
  refine (G_iconst (mF fc328 (by rfl))).trans ?_
  refine (G_iadd (mF fc328 (by rfl))).trans ?_
  refine (G_iaload (mF fc328 (by rfl))).trans (andR ?_)
  refine (G_Vi (q := 81075) (y := 158) (a := a1) (c := 11) rfl rfl rfl rfl (by decide) rfl (as := [.ref a1, .int (eI h a0 (x3 + (ii 1))), .int (eI h a0 (x3 + (ii 2)))]) (rest := []) rfl rfl (mF fc328 (by rfl))).trans (andR (GoCi_congr fun v1 h1 => ?_))
  refine (G_aload rfl (mF fc328 (by rfl))).trans ?_
  refine (G_aload rfl (mF fc328 (by rfl))).trans ?_
  refine (G_iload rfl (mF fc328 (by rfl))).trans ?_
  refine (G_iconst (mF fc328 (by rfl))).trans ?_
  refine (G_iadd (mF fc328 (by rfl))).trans ?_
  refine (G_iaload (mF fc328 (by rfl))).trans (andR ?_)
  refine (G_aload rfl (mF fc328 (by rfl))).trans ?_
  refine (G_iload rfl (mF fc328 (by rfl))).trans ?_
  refine (G_iconst (mF fc328 (by rfl))).trans ?_
  refine (G_iadd (mF fc328 (by rfl))).trans ?_
  refine (G_iaload (mF fc328 (by rfl))).trans (andR ?_)
  refine (G_Vi (q := 147139) (y := 287) (a := a2) (c := 12) rfl rfl rfl rfl (by decide) rfl (as := [.ref a2, .int (eI h1 a0 (x3 + (ii 1))), .int (eI h1 a0 (x3 + (ii 2)))]) (rest := [.int v1]) rfl rfl (mF fc328 (by rfl))).trans (andR (GoCi_congr fun v2 h2 => ?_))
  refine (G_ieq (mF fc328 (by rfl))).trans (gi ?_ ?_)
  ·
    exact Iff.rfl
  ·
    refine (G_iconst (mF fc328 (by rfl))).trans ?_
    exact G_ireturnZ rfl (mF fc328 (by rfl))
set_option maxRecDepth 50000 in
theorem b328_868 {d : Nat} {h : mHeap} {Q : Option Value → mHeap → Prop} {a0 : Nat} {a1 : Nat} {a2 : Nat} {x3 : Int32} : Go d 328 868 [some (.ref a0), some (.ref a1), some (.ref a2), some (.int x3)] [] h Q ↔ okA h a0 .int (x3 + (ii 1)) ∧ okA h a0 .int (x3 + (ii 2)) ∧ oC h a1 = 11 ∧ GoCi d 159 [.ref a1, .int (eI h a0 (x3 + (ii 1))), .int (eI h a0 (x3 + (ii 2)))] h (fun v1 h1 => okA h1 a0 .int (x3 + (ii 1)) ∧ okA h1 a0 .int (x3 + (ii 2)) ∧ oC h1 a2 = 12 ∧ GoCi d 288 [.ref a2, .int (eI h1 a0 (x3 + (ii 1))), .int (eI h1 a0 (x3 + (ii 2)))] h1 (fun v2 h2 => (if v1 = v2 then (Go d 328 1263 [some (.ref a0), some (.ref a1), some (.ref a2), some (.int x3)] [] h2 Q) else (((ii 0) = ii 0 ∨ (ii 0) = ii 1) ∧ Q (some (.int (ii 0))) h2)))) := by
  refine (G_aload rfl (mF fc328 (by rfl))).trans ?_
  refine (G_aload rfl (mF fc328 (by rfl))).trans ?_
  refine (G_iload rfl (mF fc328 (by rfl))).trans ?_
  refine (G_iconst (mF fc328 (by rfl))).trans ?_
  refine (G_iadd (mF fc328 (by rfl))).trans ?_
  refine (G_iaload (mF fc328 (by rfl))).trans (andR ?_)
  refine (G_aload rfl (mF fc328 (by rfl))).trans ?_
  refine (G_iload rfl (mF fc328 (by rfl))).trans ?_
  refine (G_iconst (mF fc328 (by rfl))).trans ?_
  refine (G_iadd (mF fc328 (by rfl))).trans ?_
  refine (G_iaload (mF fc328 (by rfl))).trans (andR ?_)
  refine (G_Vi (q := 81587) (y := 159) (a := a1) (c := 11) rfl rfl rfl rfl (by decide) rfl (as := [.ref a1, .int (eI h a0 (x3 + (ii 1))), .int (eI h a0 (x3 + (ii 2)))]) (rest := []) rfl rfl (mF fc328 (by rfl))).trans (andR (GoCi_congr fun v1 h1 => ?_))
  refine (G_aload rfl (mF fc328 (by rfl))).trans ?_
  refine (G_aload rfl (mF fc328 (by rfl))).trans ?_
  refine (G_iload rfl (mF fc328 (by rfl))).trans ?_
  refine (G_iconst (mF fc328 (by rfl))).trans ?_
  refine (G_iadd (mF fc328 (by rfl))).trans ?_
  refine (G_iaload (mF fc328 (by rfl))).trans (andR ?_)
  refine (G_aload rfl (mF fc328 (by rfl))).trans ?_
  refine (G_iload rfl (mF fc328 (by rfl))).trans ?_
  refine (G_iconst (mF fc328 (by rfl))).trans ?_
  refine (G_iadd (mF fc328 (by rfl))).trans ?_
  refine (G_iaload (mF fc328 (by rfl))).trans (andR ?_)
  refine (G_Vi (q := 147651) (y := 288) (a := a2) (c := 12) rfl rfl rfl rfl (by decide) rfl (as := [.ref a2, .int (eI h1 a0 (x3 + (ii 1))), .int (eI h1 a0 (x3 + (ii 2)))]) (rest := [.int v1]) rfl rfl (mF fc328 (by rfl))).trans (andR (GoCi_congr fun v2 h2 => ?_))
  refine (G_ieq (mF fc328 (by rfl))).trans (gi ?_ ?_)
  ·
    exact Iff.rfl
  ·
    refine (G_iconst (mF fc328 (by rfl))).trans ?_
    exact G_ireturnZ rfl (mF fc328 (by rfl))
set_option maxRecDepth 50000 in
theorem b328_901 {d : Nat} {h : mHeap} {Q : Option Value → mHeap → Prop} {a0 : Nat} {a1 : Nat} {a2 : Nat} {x3 : Int32} : Go d 328 901 [some (.ref a0), some (.ref a1), some (.ref a2), some (.int x3)] [] h Q ↔ okA h a0 .int (x3 + (ii 1)) ∧ okA h a0 .int (x3 + (ii 2)) ∧ oC h a1 = 11 ∧ GoCi d 160 [.ref a1, .int (eI h a0 (x3 + (ii 1))), .int (eI h a0 (x3 + (ii 2)))] h (fun v1 h1 => okA h1 a0 .int (x3 + (ii 1)) ∧ okA h1 a0 .int (x3 + (ii 2)) ∧ oC h1 a2 = 12 ∧ GoCi d 293 [.ref a2, .int (eI h1 a0 (x3 + (ii 1))), .int (eI h1 a0 (x3 + (ii 2)))] h1 (fun v2 h2 => (if v1 = v2 then (Go d 328 1263 [some (.ref a0), some (.ref a1), some (.ref a2), some (.int x3)] [] h2 Q) else (((ii 0) = ii 0 ∨ (ii 0) = ii 1) ∧ Q (some (.int (ii 0))) h2)))) := by
  refine (G_aload rfl (mF fc328 (by rfl))).trans ?_
  refine (G_aload rfl (mF fc328 (by rfl))).trans ?_
  refine (G_iload rfl (mF fc328 (by rfl))).trans ?_
  refine (G_iconst (mF fc328 (by rfl))).trans ?_
  refine (G_iadd (mF fc328 (by rfl))).trans ?_
  refine (G_iaload (mF fc328 (by rfl))).trans (andR ?_)
  refine (G_aload rfl (mF fc328 (by rfl))).trans ?_
  refine (G_iload rfl (mF fc328 (by rfl))).trans ?_
  refine (G_iconst (mF fc328 (by rfl))).trans ?_
  refine (G_iadd (mF fc328 (by rfl))).trans ?_
  refine (G_iaload (mF fc328 (by rfl))).trans (andR ?_)
  refine (G_Vi (q := 82099) (y := 160) (a := a1) (c := 11) rfl rfl rfl rfl (by decide) rfl (as := [.ref a1, .int (eI h a0 (x3 + (ii 1))), .int (eI h a0 (x3 + (ii 2)))]) (rest := []) rfl rfl (mF fc328 (by rfl))).trans (andR (GoCi_congr fun v1 h1 => ?_))
  refine (G_aload rfl (mF fc328 (by rfl))).trans ?_
  refine (G_aload rfl (mF fc328 (by rfl))).trans ?_
  refine (G_iload rfl (mF fc328 (by rfl))).trans ?_
  refine (G_iconst (mF fc328 (by rfl))).trans ?_
  refine (G_iadd (mF fc328 (by rfl))).trans ?_
  refine (G_iaload (mF fc328 (by rfl))).trans (andR ?_)
  refine (G_aload rfl (mF fc328 (by rfl))).trans ?_
  refine (G_iload rfl (mF fc328 (by rfl))).trans ?_
  refine (G_iconst (mF fc328 (by rfl))).trans ?_
  refine (G_iadd (mF fc328 (by rfl))).trans ?_
  refine (G_iaload (mF fc328 (by rfl))).trans (andR ?_)
  refine (G_Vi (q := 150211) (y := 293) (a := a2) (c := 12) rfl rfl rfl rfl (by decide) rfl (as := [.ref a2, .int (eI h1 a0 (x3 + (ii 1))), .int (eI h1 a0 (x3 + (ii 2)))]) (rest := [.int v1]) rfl rfl (mF fc328 (by rfl))).trans (andR (GoCi_congr fun v2 h2 => ?_))
  refine (G_ieq (mF fc328 (by rfl))).trans (gi ?_ ?_)
  ·
    exact Iff.rfl
  ·
    refine (G_iconst (mF fc328 (by rfl))).trans ?_
    exact G_ireturnZ rfl (mF fc328 (by rfl))
set_option maxRecDepth 50000 in
theorem b328_934 {d : Nat} {h : mHeap} {Q : Option Value → mHeap → Prop} {a0 : Nat} {a1 : Nat} {a2 : Nat} {x3 : Int32} : Go d 328 934 [some (.ref a0), some (.ref a1), some (.ref a2), some (.int x3)] [] h Q ↔ okA h a0 .int (x3 + (ii 1)) ∧ okA h a0 .int (x3 + (ii 2)) ∧ oC h a1 = 11 ∧ GoCi d 161 [.ref a1, .int (eI h a0 (x3 + (ii 1))), .int (eI h a0 (x3 + (ii 2)))] h (fun v1 h1 => okA h1 a0 .int (x3 + (ii 1)) ∧ okA h1 a0 .int (x3 + (ii 2)) ∧ oC h1 a2 = 12 ∧ GoCi d 298 [.ref a2, .int (eI h1 a0 (x3 + (ii 1))), .int (eI h1 a0 (x3 + (ii 2)))] h1 (fun v2 h2 => (if v1 = v2 then (Go d 328 1263 [some (.ref a0), some (.ref a1), some (.ref a2), some (.int x3)] [] h2 Q) else (((ii 0) = ii 0 ∨ (ii 0) = ii 1) ∧ Q (some (.int (ii 0))) h2)))) := by
  refine (G_aload rfl (mF fc328 (by rfl))).trans ?_
  refine (G_aload rfl (mF fc328 (by rfl))).trans ?_
  refine (G_iload rfl (mF fc328 (by rfl))).trans ?_
  refine (G_iconst (mF fc328 (by rfl))).trans ?_
  refine (G_iadd (mF fc328 (by rfl))).trans ?_
  refine (G_iaload (mF fc328 (by rfl))).trans (andR ?_)
  refine (G_aload rfl (mF fc328 (by rfl))).trans ?_
  refine (G_iload rfl (mF fc328 (by rfl))).trans ?_
  refine (G_iconst (mF fc328 (by rfl))).trans ?_
  refine (G_iadd (mF fc328 (by rfl))).trans ?_
  refine (G_iaload (mF fc328 (by rfl))).trans (andR ?_)
  refine (G_Vi (q := 82611) (y := 161) (a := a1) (c := 11) rfl rfl rfl rfl (by decide) rfl (as := [.ref a1, .int (eI h a0 (x3 + (ii 1))), .int (eI h a0 (x3 + (ii 2)))]) (rest := []) rfl rfl (mF fc328 (by rfl))).trans (andR (GoCi_congr fun v1 h1 => ?_))
  refine (G_aload rfl (mF fc328 (by rfl))).trans ?_
  refine (G_aload rfl (mF fc328 (by rfl))).trans ?_
  refine (G_iload rfl (mF fc328 (by rfl))).trans ?_
  refine (G_iconst (mF fc328 (by rfl))).trans ?_
  refine (G_iadd (mF fc328 (by rfl))).trans ?_
  refine (G_iaload (mF fc328 (by rfl))).trans (andR ?_)
  refine (G_aload rfl (mF fc328 (by rfl))).trans ?_
  refine (G_iload rfl (mF fc328 (by rfl))).trans ?_
  refine (G_iconst (mF fc328 (by rfl))).trans ?_
  refine (G_iadd (mF fc328 (by rfl))).trans ?_
  refine (G_iaload (mF fc328 (by rfl))).trans (andR ?_)
  refine (G_Vi (q := 152771) (y := 298) (a := a2) (c := 12) rfl rfl rfl rfl (by decide) rfl (as := [.ref a2, .int (eI h1 a0 (x3 + (ii 1))), .int (eI h1 a0 (x3 + (ii 2)))]) (rest := [.int v1]) rfl rfl (mF fc328 (by rfl))).trans (andR (GoCi_congr fun v2 h2 => ?_))
  refine (G_ieq (mF fc328 (by rfl))).trans (gi ?_ ?_)
  ·
    exact Iff.rfl
  ·
    refine (G_iconst (mF fc328 (by rfl))).trans ?_
    exact G_ireturnZ rfl (mF fc328 (by rfl))
set_option maxRecDepth 50000 in
theorem b328_967 {d : Nat} {h : mHeap} {Q : Option Value → mHeap → Prop} {a0 : Nat} {a1 : Nat} {a2 : Nat} {x3 : Int32} : Go d 328 967 [some (.ref a0), some (.ref a1), some (.ref a2), some (.int x3)] [] h Q ↔ okA h a0 .int (x3 + (ii 1)) ∧ okA h a0 .int (x3 + (ii 2)) ∧ oC h a1 = 11 ∧ GoCi d 162 [.ref a1, .int (eI h a0 (x3 + (ii 1))), .int (eI h a0 (x3 + (ii 2)))] h (fun v1 h1 => okA h1 a0 .int (x3 + (ii 1)) ∧ okA h1 a0 .int (x3 + (ii 2)) ∧ oC h1 a2 = 12 ∧ GoCi d 301 [.ref a2, .int (eI h1 a0 (x3 + (ii 1))), .int (eI h1 a0 (x3 + (ii 2)))] h1 (fun v2 h2 => (if v1 = v2 then (Go d 328 1263 [some (.ref a0), some (.ref a1), some (.ref a2), some (.int x3)] [] h2 Q) else (((ii 0) = ii 0 ∨ (ii 0) = ii 1) ∧ Q (some (.int (ii 0))) h2)))) := by
  refine (G_aload rfl (mF fc328 (by rfl))).trans ?_
  refine (G_aload rfl (mF fc328 (by rfl))).trans ?_
  refine (G_iload rfl (mF fc328 (by rfl))).trans ?_
  refine (G_iconst (mF fc328 (by rfl))).trans ?_
  refine (G_iadd (mF fc328 (by rfl))).trans ?_
  refine (G_iaload (mF fc328 (by rfl))).trans (andR ?_)
  refine (G_aload rfl (mF fc328 (by rfl))).trans ?_
  refine (G_iload rfl (mF fc328 (by rfl))).trans ?_
  refine (G_iconst (mF fc328 (by rfl))).trans ?_
  refine (G_iadd (mF fc328 (by rfl))).trans ?_
  refine (G_iaload (mF fc328 (by rfl))).trans (andR ?_)
  refine (G_Vi (q := 83123) (y := 162) (a := a1) (c := 11) rfl rfl rfl rfl (by decide) rfl (as := [.ref a1, .int (eI h a0 (x3 + (ii 1))), .int (eI h a0 (x3 + (ii 2)))]) (rest := []) rfl rfl (mF fc328 (by rfl))).trans (andR (GoCi_congr fun v1 h1 => ?_))
  refine (G_aload rfl (mF fc328 (by rfl))).trans ?_
  refine (G_aload rfl (mF fc328 (by rfl))).trans ?_
  refine (G_iload rfl (mF fc328 (by rfl))).trans ?_
  refine (G_iconst (mF fc328 (by rfl))).trans ?_
  refine (G_iadd (mF fc328 (by rfl))).trans ?_
  refine (G_iaload (mF fc328 (by rfl))).trans (andR ?_)
  refine (G_aload rfl (mF fc328 (by rfl))).trans ?_
  refine (G_iload rfl (mF fc328 (by rfl))).trans ?_
  refine (G_iconst (mF fc328 (by rfl))).trans ?_
  refine (G_iadd (mF fc328 (by rfl))).trans ?_
  refine (G_iaload (mF fc328 (by rfl))).trans (andR ?_)
  refine (G_Vi (q := 154307) (y := 301) (a := a2) (c := 12) rfl rfl rfl rfl (by decide) rfl (as := [.ref a2, .int (eI h1 a0 (x3 + (ii 1))), .int (eI h1 a0 (x3 + (ii 2)))]) (rest := [.int v1]) rfl rfl (mF fc328 (by rfl))).trans (andR (GoCi_congr fun v2 h2 => ?_))
  refine (G_ieq (mF fc328 (by rfl))).trans (gi ?_ ?_)
  ·
    exact Iff.rfl
  ·
    refine (G_iconst (mF fc328 (by rfl))).trans ?_
    exact G_ireturnZ rfl (mF fc328 (by rfl))
set_option maxRecDepth 50000 in
theorem b328_1000 {d : Nat} {h : mHeap} {Q : Option Value → mHeap → Prop} {a0 : Nat} {a1 : Nat} {a2 : Nat} {x3 : Int32} : Go d 328 1000 [some (.ref a0), some (.ref a1), some (.ref a2), some (.int x3)] [] h Q ↔ okA h a0 .int (x3 + (ii 1)) ∧ okA h a0 .int (x3 + (ii 2)) ∧ oC h a1 = 11 ∧ GoCi d 163 [.ref a1, .int (eI h a0 (x3 + (ii 1))), .int (eI h a0 (x3 + (ii 2)))] h (fun v1 h1 => okA h1 a0 .int (x3 + (ii 1)) ∧ okA h1 a0 .int (x3 + (ii 2)) ∧ oC h1 a2 = 12 ∧ GoCi d 302 [.ref a2, .int (eI h1 a0 (x3 + (ii 1))), .int (eI h1 a0 (x3 + (ii 2)))] h1 (fun v2 h2 => (if v1 = v2 then (Go d 328 1263 [some (.ref a0), some (.ref a1), some (.ref a2), some (.int x3)] [] h2 Q) else (((ii 0) = ii 0 ∨ (ii 0) = ii 1) ∧ Q (some (.int (ii 0))) h2)))) := by
  refine (G_aload rfl (mF fc328 (by rfl))).trans ?_
  refine (G_aload rfl (mF fc328 (by rfl))).trans ?_
  refine (G_iload rfl (mF fc328 (by rfl))).trans ?_
  refine (G_iconst (mF fc328 (by rfl))).trans ?_
  refine (G_iadd (mF fc328 (by rfl))).trans ?_
  refine (G_iaload (mF fc328 (by rfl))).trans (andR ?_)
  refine (G_aload rfl (mF fc328 (by rfl))).trans ?_
  refine (G_iload rfl (mF fc328 (by rfl))).trans ?_
  refine (G_iconst (mF fc328 (by rfl))).trans ?_
  refine (G_iadd (mF fc328 (by rfl))).trans ?_
  refine (G_iaload (mF fc328 (by rfl))).trans (andR ?_)
  refine (G_Vi (q := 83635) (y := 163) (a := a1) (c := 11) rfl rfl rfl rfl (by decide) rfl (as := [.ref a1, .int (eI h a0 (x3 + (ii 1))), .int (eI h a0 (x3 + (ii 2)))]) (rest := []) rfl rfl (mF fc328 (by rfl))).trans (andR (GoCi_congr fun v1 h1 => ?_))
  refine (G_aload rfl (mF fc328 (by rfl))).trans ?_
  refine (G_aload rfl (mF fc328 (by rfl))).trans ?_
  refine (G_iload rfl (mF fc328 (by rfl))).trans ?_
  refine (G_iconst (mF fc328 (by rfl))).trans ?_
  refine (G_iadd (mF fc328 (by rfl))).trans ?_
  refine (G_iaload (mF fc328 (by rfl))).trans (andR ?_)
  refine (G_aload rfl (mF fc328 (by rfl))).trans ?_
  refine (G_iload rfl (mF fc328 (by rfl))).trans ?_
  refine (G_iconst (mF fc328 (by rfl))).trans ?_
  refine (G_iadd (mF fc328 (by rfl))).trans ?_
  refine (G_iaload (mF fc328 (by rfl))).trans (andR ?_)
  refine (G_Vi (q := 154819) (y := 302) (a := a2) (c := 12) rfl rfl rfl rfl (by decide) rfl (as := [.ref a2, .int (eI h1 a0 (x3 + (ii 1))), .int (eI h1 a0 (x3 + (ii 2)))]) (rest := [.int v1]) rfl rfl (mF fc328 (by rfl))).trans (andR (GoCi_congr fun v2 h2 => ?_))
  refine (G_ieq (mF fc328 (by rfl))).trans (gi ?_ ?_)
  ·
    exact Iff.rfl
  ·
    refine (G_iconst (mF fc328 (by rfl))).trans ?_
    exact G_ireturnZ rfl (mF fc328 (by rfl))
set_option maxRecDepth 50000 in
theorem b328_1033 {d : Nat} {h : mHeap} {Q : Option Value → mHeap → Prop} {a0 : Nat} {a1 : Nat} {a2 : Nat} {x3 : Int32} : Go d 328 1033 [some (.ref a0), some (.ref a1), some (.ref a2), some (.int x3)] [] h Q ↔ okA h a0 .int (x3 + (ii 1)) ∧ okA h a0 .int (x3 + (ii 2)) ∧ (if (eI h a0 (x3 + (ii 2))) = ii 0 then (Go d 328 1052 [some (.ref a0), some (.ref a1), some (.ref a2), some (.int x3)] [.int (ii 0), .int (eI h a0 (x3 + (ii 1))), .ref a1] h Q) else (Go d 328 1052 [some (.ref a0), some (.ref a1), some (.ref a2), some (.int x3)] [.int (ii 1), .int (eI h a0 (x3 + (ii 1))), .ref a1] h Q)) := by
  refine (G_aload rfl (mF fc328 (by rfl))).trans ?_
  refine (G_aload rfl (mF fc328 (by rfl))).trans ?_
  refine (G_iload rfl (mF fc328 (by rfl))).trans ?_
  refine (G_iconst (mF fc328 (by rfl))).trans ?_
  refine (G_iadd (mF fc328 (by rfl))).trans ?_
  refine (G_iaload (mF fc328 (by rfl))).trans (andR ?_)
  refine (G_aload rfl (mF fc328 (by rfl))).trans ?_
  refine (G_iload rfl (mF fc328 (by rfl))).trans ?_
  refine (G_iconst (mF fc328 (by rfl))).trans ?_
  refine (G_iadd (mF fc328 (by rfl))).trans ?_
  refine (G_iaload (mF fc328 (by rfl))).trans (andR ?_)
  refine (G_eq (mF fc328 (by rfl))).trans (gi ?_ ?_)
  ·
    refine (G_iconst (mF fc328 (by rfl))).trans ?_
    exact Iff.rfl
  ·
    refine (G_iconst (mF fc328 (by rfl))).trans ?_
    refine (G_goto (mF fc328 (by rfl))).trans ?_
    exact Iff.rfl
set_option maxRecDepth 50000 in
theorem b328_1052 {d : Nat} {h : mHeap} {Q : Option Value → mHeap → Prop} {a0 : Nat} {a1 : Nat} {a2 : Nat} {x3 : Int32} {r0 : Nat} {s1 : Int32} {s2 : Int32} : Go d 328 1052 [some (.ref a0), some (.ref a1), some (.ref a2), some (.int x3)] [.int s2, .int s1, .ref r0] h Q ↔ oC h r0 = 11 ∧ GoCi d 164 [.ref r0, .int s1, .int s2] h (fun v1 h1 => okA h1 a0 .int (x3 + (ii 1)) ∧ okA h1 a0 .int (x3 + (ii 2)) ∧ (if (eI h1 a0 (x3 + (ii 2))) = ii 0 then (Go d 328 1074 [some (.ref a0), some (.ref a1), some (.ref a2), some (.int x3)] [.int (ii 0), .int (eI h1 a0 (x3 + (ii 1))), .ref a2, .int v1] h1 Q) else (Go d 328 1074 [some (.ref a0), some (.ref a1), some (.ref a2), some (.int x3)] [.int (ii 1), .int (eI h1 a0 (x3 + (ii 1))), .ref a2, .int v1] h1 Q))) := by
  refine (G_Vi (q := 84147) (y := 164) (a := r0) (c := 11) rfl rfl rfl rfl (by decide) rfl (as := [.ref r0, .int s1, .int s2]) (rest := []) rfl rfl (mF fc328 (by rfl))).trans (andR (GoCi_congr fun v1 h1 => ?_))
  refine (G_aload rfl (mF fc328 (by rfl))).trans ?_
  refine (G_aload rfl (mF fc328 (by rfl))).trans ?_
  refine (G_iload rfl (mF fc328 (by rfl))).trans ?_
  refine (G_iconst (mF fc328 (by rfl))).trans ?_
  refine (G_iadd (mF fc328 (by rfl))).trans ?_
  refine (G_iaload (mF fc328 (by rfl))).trans (andR ?_)
  refine (G_aload rfl (mF fc328 (by rfl))).trans ?_
  refine (G_iload rfl (mF fc328 (by rfl))).trans ?_
  refine (G_iconst (mF fc328 (by rfl))).trans ?_
  refine (G_iadd (mF fc328 (by rfl))).trans ?_
  refine (G_iaload (mF fc328 (by rfl))).trans (andR ?_)
  refine (G_eq (mF fc328 (by rfl))).trans (gi ?_ ?_)
  ·
    refine (G_iconst (mF fc328 (by rfl))).trans ?_
    exact Iff.rfl
  ·
    refine (G_iconst (mF fc328 (by rfl))).trans ?_
    refine (G_goto (mF fc328 (by rfl))).trans ?_
    exact Iff.rfl
set_option maxRecDepth 50000 in
theorem b328_1074 {d : Nat} {h : mHeap} {Q : Option Value → mHeap → Prop} {a0 : Nat} {a1 : Nat} {a2 : Nat} {x3 : Int32} {s0 : Int32} {r1 : Nat} {s2 : Int32} {s3 : Int32} : Go d 328 1074 [some (.ref a0), some (.ref a1), some (.ref a2), some (.int x3)] [.int s3, .int s2, .ref r1, .int s0] h Q ↔ oC h r1 = 12 ∧ GoCi d 303 [.ref r1, .int s2, .int s3] h (fun v1 h1 => (if s0 = v1 then (Go d 328 1263 [some (.ref a0), some (.ref a1), some (.ref a2), some (.int x3)] [] h1 Q) else (((ii 0) = ii 0 ∨ (ii 0) = ii 1) ∧ Q (some (.int (ii 0))) h1))) := by
  refine (G_Vi (q := 155331) (y := 303) (a := r1) (c := 12) rfl rfl rfl rfl (by decide) rfl (as := [.ref r1, .int s2, .int s3]) (rest := [.int s0]) rfl rfl (mF fc328 (by rfl))).trans (andR (GoCi_congr fun v1 h1 => ?_))
  refine (G_ieq (mF fc328 (by rfl))).trans (gi ?_ ?_)
  ·
    exact Iff.rfl
  ·
    refine (G_iconst (mF fc328 (by rfl))).trans ?_
    exact G_ireturnZ rfl (mF fc328 (by rfl))
set_option maxRecDepth 50000 in
theorem b328_1082 {d : Nat} {h : mHeap} {Q : Option Value → mHeap → Prop} {a0 : Nat} {a1 : Nat} {a2 : Nat} {x3 : Int32} : Go d 328 1082 [some (.ref a0), some (.ref a1), some (.ref a2), some (.int x3)] [] h Q ↔ okA h a0 .int (x3 + (ii 1)) ∧ oC h a1 = 11 ∧ GoCi d 165 [.ref a1, .int (eI h a0 (x3 + (ii 1)))] h (fun v1 h1 => okA h1 a0 .int (x3 + (ii 1)) ∧ oC h1 a2 = 12 ∧ GoCi d 306 [.ref a2, .int (eI h1 a0 (x3 + (ii 1)))] h1 (fun v2 h2 => (if v1 = v2 then (Go d 328 1263 [some (.ref a0), some (.ref a1), some (.ref a2), some (.int x3)] [] h2 Q) else (((ii 0) = ii 0 ∨ (ii 0) = ii 1) ∧ Q (some (.int (ii 0))) h2)))) := by
  refine (G_aload rfl (mF fc328 (by rfl))).trans ?_
  refine (G_aload rfl (mF fc328 (by rfl))).trans ?_
  refine (G_iload rfl (mF fc328 (by rfl))).trans ?_
  refine (G_iconst (mF fc328 (by rfl))).trans ?_
  refine (G_iadd (mF fc328 (by rfl))).trans ?_
  refine (G_iaload (mF fc328 (by rfl))).trans (andR ?_)
  refine (G_Vi (q := 84658) (y := 165) (a := a1) (c := 11) rfl rfl rfl rfl (by decide) rfl (as := [.ref a1, .int (eI h a0 (x3 + (ii 1)))]) (rest := []) rfl rfl (mF fc328 (by rfl))).trans (andR (GoCi_congr fun v1 h1 => ?_))
  refine (G_aload rfl (mF fc328 (by rfl))).trans ?_
  refine (G_aload rfl (mF fc328 (by rfl))).trans ?_
  refine (G_iload rfl (mF fc328 (by rfl))).trans ?_
  refine (G_iconst (mF fc328 (by rfl))).trans ?_
  refine (G_iadd (mF fc328 (by rfl))).trans ?_
  refine (G_iaload (mF fc328 (by rfl))).trans (andR ?_)
  refine (G_Vi (q := 156866) (y := 306) (a := a2) (c := 12) rfl rfl rfl rfl (by decide) rfl (as := [.ref a2, .int (eI h1 a0 (x3 + (ii 1)))]) (rest := [.int v1]) rfl rfl (mF fc328 (by rfl))).trans (andR (GoCi_congr fun v2 h2 => ?_))
  refine (G_ieq (mF fc328 (by rfl))).trans (gi ?_ ?_)
  ·
    exact Iff.rfl
  ·
    refine (G_iconst (mF fc328 (by rfl))).trans ?_
    exact G_ireturnZ rfl (mF fc328 (by rfl))
set_option maxRecDepth 50000 in
theorem b328_1105 {d : Nat} {h : mHeap} {Q : Option Value → mHeap → Prop} {a0 : Nat} {a1 : Nat} {a2 : Nat} {x3 : Int32} : Go d 328 1105 [some (.ref a0), some (.ref a1), some (.ref a2), some (.int x3)] [] h Q ↔ okA h a0 .int (x3 + (ii 1)) ∧ oC h a1 = 11 ∧ GoCi d 166 [.ref a1, .int (eI h a0 (x3 + (ii 1)))] h (fun v1 h1 => okA h1 a0 .int (x3 + (ii 1)) ∧ oC h1 a2 = 12 ∧ GoCi d 307 [.ref a2, .int (eI h1 a0 (x3 + (ii 1)))] h1 (fun v2 h2 => (if v1 = v2 then (Go d 328 1263 [some (.ref a0), some (.ref a1), some (.ref a2), some (.int x3)] [] h2 Q) else (((ii 0) = ii 0 ∨ (ii 0) = ii 1) ∧ Q (some (.int (ii 0))) h2)))) := by
  refine (G_aload rfl (mF fc328 (by rfl))).trans ?_
  refine (G_aload rfl (mF fc328 (by rfl))).trans ?_
  refine (G_iload rfl (mF fc328 (by rfl))).trans ?_
  refine (G_iconst (mF fc328 (by rfl))).trans ?_
  refine (G_iadd (mF fc328 (by rfl))).trans ?_
  refine (G_iaload (mF fc328 (by rfl))).trans (andR ?_)
  refine (G_Vi (q := 85170) (y := 166) (a := a1) (c := 11) rfl rfl rfl rfl (by decide) rfl (as := [.ref a1, .int (eI h a0 (x3 + (ii 1)))]) (rest := []) rfl rfl (mF fc328 (by rfl))).trans (andR (GoCi_congr fun v1 h1 => ?_))
  refine (G_aload rfl (mF fc328 (by rfl))).trans ?_
  refine (G_aload rfl (mF fc328 (by rfl))).trans ?_
  refine (G_iload rfl (mF fc328 (by rfl))).trans ?_
  refine (G_iconst (mF fc328 (by rfl))).trans ?_
  refine (G_iadd (mF fc328 (by rfl))).trans ?_
  refine (G_iaload (mF fc328 (by rfl))).trans (andR ?_)
  refine (G_Vi (q := 157378) (y := 307) (a := a2) (c := 12) rfl rfl rfl rfl (by decide) rfl (as := [.ref a2, .int (eI h1 a0 (x3 + (ii 1)))]) (rest := [.int v1]) rfl rfl (mF fc328 (by rfl))).trans (andR (GoCi_congr fun v2 h2 => ?_))
  refine (G_ieq (mF fc328 (by rfl))).trans (gi ?_ ?_)
  ·
    exact Iff.rfl
  ·
    refine (G_iconst (mF fc328 (by rfl))).trans ?_
    exact G_ireturnZ rfl (mF fc328 (by rfl))
set_option maxRecDepth 50000 in
theorem b328_1128 {d : Nat} {h : mHeap} {Q : Option Value → mHeap → Prop} {a0 : Nat} {a1 : Nat} {a2 : Nat} {x3 : Int32} : Go d 328 1128 [some (.ref a0), some (.ref a1), some (.ref a2), some (.int x3)] [] h Q ↔ okA h a0 .int (x3 + (ii 1)) ∧ oC h a1 = 11 ∧ GoCi d 167 [.ref a1, .int (eI h a0 (x3 + (ii 1)))] h (fun v1 h1 => okA h1 a0 .int (x3 + (ii 1)) ∧ oC h1 a2 = 12 ∧ GoCi d 308 [.ref a2, .int (eI h1 a0 (x3 + (ii 1)))] h1 (fun v2 h2 => (if v1 = v2 then (Go d 328 1263 [some (.ref a0), some (.ref a1), some (.ref a2), some (.int x3)] [] h2 Q) else (((ii 0) = ii 0 ∨ (ii 0) = ii 1) ∧ Q (some (.int (ii 0))) h2)))) := by
  refine (G_aload rfl (mF fc328 (by rfl))).trans ?_
  refine (G_aload rfl (mF fc328 (by rfl))).trans ?_
  refine (G_iload rfl (mF fc328 (by rfl))).trans ?_
  refine (G_iconst (mF fc328 (by rfl))).trans ?_
  refine (G_iadd (mF fc328 (by rfl))).trans ?_
  refine (G_iaload (mF fc328 (by rfl))).trans (andR ?_)
  refine (G_Vi (q := 85682) (y := 167) (a := a1) (c := 11) rfl rfl rfl rfl (by decide) rfl (as := [.ref a1, .int (eI h a0 (x3 + (ii 1)))]) (rest := []) rfl rfl (mF fc328 (by rfl))).trans (andR (GoCi_congr fun v1 h1 => ?_))
  refine (G_aload rfl (mF fc328 (by rfl))).trans ?_
  refine (G_aload rfl (mF fc328 (by rfl))).trans ?_
  refine (G_iload rfl (mF fc328 (by rfl))).trans ?_
  refine (G_iconst (mF fc328 (by rfl))).trans ?_
  refine (G_iadd (mF fc328 (by rfl))).trans ?_
  refine (G_iaload (mF fc328 (by rfl))).trans (andR ?_)
  refine (G_Vi (q := 157890) (y := 308) (a := a2) (c := 12) rfl rfl rfl rfl (by decide) rfl (as := [.ref a2, .int (eI h1 a0 (x3 + (ii 1)))]) (rest := [.int v1]) rfl rfl (mF fc328 (by rfl))).trans (andR (GoCi_congr fun v2 h2 => ?_))
  refine (G_ieq (mF fc328 (by rfl))).trans (gi ?_ ?_)
  ·
    exact Iff.rfl
  ·
    refine (G_iconst (mF fc328 (by rfl))).trans ?_
    exact G_ireturnZ rfl (mF fc328 (by rfl))
set_option maxRecDepth 50000 in
theorem b328_1151 {d : Nat} {h : mHeap} {Q : Option Value → mHeap → Prop} {a0 : Nat} {a1 : Nat} {a2 : Nat} {x3 : Int32} : Go d 328 1151 [some (.ref a0), some (.ref a1), some (.ref a2), some (.int x3)] [] h Q ↔ okA h a0 .int (x3 + (ii 1)) ∧ okA h a0 .int (x3 + (ii 2)) ∧ okA h a0 .int (x3 + (ii 3)) ∧ oC h a1 = 11 ∧ GoCi d 168 [.ref a1, .int (eI h a0 (x3 + (ii 1))), .int (eI h a0 (x3 + (ii 2))), .int (eI h a0 (x3 + (ii 3)))] h (fun v1 h1 => okA h1 a0 .int (x3 + (ii 1)) ∧ okA h1 a0 .int (x3 + (ii 2)) ∧ okA h1 a0 .int (x3 + (ii 3)) ∧ oC h1 a2 = 12 ∧ GoCi d 311 [.ref a2, .int (eI h1 a0 (x3 + (ii 1))), .int (eI h1 a0 (x3 + (ii 2))), .int (eI h1 a0 (x3 + (ii 3)))] h1 (fun v2 h2 => (if v1 = v2 then (Go d 328 1263 [some (.ref a0), some (.ref a1), some (.ref a2), some (.int x3)] [] h2 Q) else (((ii 0) = ii 0 ∨ (ii 0) = ii 1) ∧ Q (some (.int (ii 0))) h2)))) := by
  refine (G_aload rfl (mF fc328 (by rfl))).trans ?_
  refine (G_aload rfl (mF fc328 (by rfl))).trans ?_
  refine (G_iload rfl (mF fc328 (by rfl))).trans ?_
  refine (G_iconst (mF fc328 (by rfl))).trans ?_
  refine (G_iadd (mF fc328 (by rfl))).trans ?_
  refine (G_iaload (mF fc328 (by rfl))).trans (andR ?_)
  refine (G_aload rfl (mF fc328 (by rfl))).trans ?_
  refine (G_iload rfl (mF fc328 (by rfl))).trans ?_
  refine (G_iconst (mF fc328 (by rfl))).trans ?_
  refine (G_iadd (mF fc328 (by rfl))).trans ?_
  refine (G_iaload (mF fc328 (by rfl))).trans (andR ?_)
  refine (G_aload rfl (mF fc328 (by rfl))).trans ?_
  refine (G_iload rfl (mF fc328 (by rfl))).trans ?_
  refine (G_iconst (mF fc328 (by rfl))).trans ?_
  refine (G_iadd (mF fc328 (by rfl))).trans ?_
  refine (G_iaload (mF fc328 (by rfl))).trans (andR ?_)
  refine (G_Vi (q := 86196) (y := 168) (a := a1) (c := 11) rfl rfl rfl rfl (by decide) rfl (as := [.ref a1, .int (eI h a0 (x3 + (ii 1))), .int (eI h a0 (x3 + (ii 2))), .int (eI h a0 (x3 + (ii 3)))]) (rest := []) rfl rfl (mF fc328 (by rfl))).trans (andR (GoCi_congr fun v1 h1 => ?_))
  refine (G_aload rfl (mF fc328 (by rfl))).trans ?_
  refine (G_aload rfl (mF fc328 (by rfl))).trans ?_
  refine (G_iload rfl (mF fc328 (by rfl))).trans ?_
  refine (G_iconst (mF fc328 (by rfl))).trans ?_
  refine (G_iadd (mF fc328 (by rfl))).trans ?_
  refine (G_iaload (mF fc328 (by rfl))).trans (andR ?_)
  refine (G_aload rfl (mF fc328 (by rfl))).trans ?_
  refine (G_iload rfl (mF fc328 (by rfl))).trans ?_
  refine (G_iconst (mF fc328 (by rfl))).trans ?_
  refine (G_iadd (mF fc328 (by rfl))).trans ?_
  refine (G_iaload (mF fc328 (by rfl))).trans (andR ?_)
  refine (G_aload rfl (mF fc328 (by rfl))).trans ?_
  refine (G_iload rfl (mF fc328 (by rfl))).trans ?_
  refine (G_iconst (mF fc328 (by rfl))).trans ?_
  refine (G_iadd (mF fc328 (by rfl))).trans ?_
  refine (G_iaload (mF fc328 (by rfl))).trans (andR ?_)
  refine (G_Vi (q := 159428) (y := 311) (a := a2) (c := 12) rfl rfl rfl rfl (by decide) rfl (as := [.ref a2, .int (eI h1 a0 (x3 + (ii 1))), .int (eI h1 a0 (x3 + (ii 2))), .int (eI h1 a0 (x3 + (ii 3)))]) (rest := [.int v1]) rfl rfl (mF fc328 (by rfl))).trans (andR (GoCi_congr fun v2 h2 => ?_))
  refine (G_ieq (mF fc328 (by rfl))).trans (gi ?_ ?_)
  ·
    exact Iff.rfl
  ·
    refine (G_iconst (mF fc328 (by rfl))).trans ?_
    exact G_ireturnZ rfl (mF fc328 (by rfl))
set_option maxRecDepth 50000 in
theorem b328_1194 {d : Nat} {h : mHeap} {Q : Option Value → mHeap → Prop} {a0 : Nat} {a1 : Nat} {a2 : Nat} {x3 : Int32} : Go d 328 1194 [some (.ref a0), some (.ref a1), some (.ref a2), some (.int x3)] [] h Q ↔ okA h a0 .int (x3 + (ii 1)) ∧ oC h a1 = 11 ∧ GoCi d 169 [.ref a1, .int (eI h a0 (x3 + (ii 1)))] h (fun v1 h1 => okA h1 a0 .int (x3 + (ii 1)) ∧ oC h1 a2 = 12 ∧ GoCi d 312 [.ref a2, .int (eI h1 a0 (x3 + (ii 1)))] h1 (fun v2 h2 => (if v1 = v2 then (Go d 328 1263 [some (.ref a0), some (.ref a1), some (.ref a2), some (.int x3)] [] h2 Q) else (((ii 0) = ii 0 ∨ (ii 0) = ii 1) ∧ Q (some (.int (ii 0))) h2)))) := by
  refine (G_aload rfl (mF fc328 (by rfl))).trans ?_
  refine (G_aload rfl (mF fc328 (by rfl))).trans ?_
  refine (G_iload rfl (mF fc328 (by rfl))).trans ?_
  refine (G_iconst (mF fc328 (by rfl))).trans ?_
  refine (G_iadd (mF fc328 (by rfl))).trans ?_
  refine (G_iaload (mF fc328 (by rfl))).trans (andR ?_)
  refine (G_Vi (q := 86706) (y := 169) (a := a1) (c := 11) rfl rfl rfl rfl (by decide) rfl (as := [.ref a1, .int (eI h a0 (x3 + (ii 1)))]) (rest := []) rfl rfl (mF fc328 (by rfl))).trans (andR (GoCi_congr fun v1 h1 => ?_))
  refine (G_aload rfl (mF fc328 (by rfl))).trans ?_
  refine (G_aload rfl (mF fc328 (by rfl))).trans ?_
  refine (G_iload rfl (mF fc328 (by rfl))).trans ?_
  refine (G_iconst (mF fc328 (by rfl))).trans ?_
  refine (G_iadd (mF fc328 (by rfl))).trans ?_
  refine (G_iaload (mF fc328 (by rfl))).trans (andR ?_)
  refine (G_Vi (q := 159938) (y := 312) (a := a2) (c := 12) rfl rfl rfl rfl (by decide) rfl (as := [.ref a2, .int (eI h1 a0 (x3 + (ii 1)))]) (rest := [.int v1]) rfl rfl (mF fc328 (by rfl))).trans (andR (GoCi_congr fun v2 h2 => ?_))
  refine (G_ieq (mF fc328 (by rfl))).trans (gi ?_ ?_)
  ·
    exact Iff.rfl
  ·
    refine (G_iconst (mF fc328 (by rfl))).trans ?_
    exact G_ireturnZ rfl (mF fc328 (by rfl))
set_option maxRecDepth 50000 in
theorem b328_1217 {d : Nat} {h : mHeap} {Q : Option Value → mHeap → Prop} {a0 : Nat} {a1 : Nat} {a2 : Nat} {x3 : Int32} : Go d 328 1217 [some (.ref a0), some (.ref a1), some (.ref a2), some (.int x3)] [] h Q ↔ okA h a0 .int (x3 + (ii 1)) ∧ oC h a1 = 11 ∧ GoCi d 170 [.ref a1, .int (eI h a0 (x3 + (ii 1)))] h (fun v1 h1 => okA h1 a0 .int (x3 + (ii 1)) ∧ oC h1 a2 = 12 ∧ GoCi d 315 [.ref a2, .int (eI h1 a0 (x3 + (ii 1)))] h1 (fun v2 h2 => (if v1 = v2 then (Go d 328 1263 [some (.ref a0), some (.ref a1), some (.ref a2), some (.int x3)] [] h2 Q) else (((ii 0) = ii 0 ∨ (ii 0) = ii 1) ∧ Q (some (.int (ii 0))) h2)))) := by
  refine (G_aload rfl (mF fc328 (by rfl))).trans ?_
  refine (G_aload rfl (mF fc328 (by rfl))).trans ?_
  refine (G_iload rfl (mF fc328 (by rfl))).trans ?_
  refine (G_iconst (mF fc328 (by rfl))).trans ?_
  refine (G_iadd (mF fc328 (by rfl))).trans ?_
  refine (G_iaload (mF fc328 (by rfl))).trans (andR ?_)
  refine (G_Vi (q := 87218) (y := 170) (a := a1) (c := 11) rfl rfl rfl rfl (by decide) rfl (as := [.ref a1, .int (eI h a0 (x3 + (ii 1)))]) (rest := []) rfl rfl (mF fc328 (by rfl))).trans (andR (GoCi_congr fun v1 h1 => ?_))
  refine (G_aload rfl (mF fc328 (by rfl))).trans ?_
  refine (G_aload rfl (mF fc328 (by rfl))).trans ?_
  refine (G_iload rfl (mF fc328 (by rfl))).trans ?_
  refine (G_iconst (mF fc328 (by rfl))).trans ?_
  refine (G_iadd (mF fc328 (by rfl))).trans ?_
  refine (G_iaload (mF fc328 (by rfl))).trans (andR ?_)
  refine (G_Vi (q := 161474) (y := 315) (a := a2) (c := 12) rfl rfl rfl rfl (by decide) rfl (as := [.ref a2, .int (eI h1 a0 (x3 + (ii 1)))]) (rest := [.int v1]) rfl rfl (mF fc328 (by rfl))).trans (andR (GoCi_congr fun v2 h2 => ?_))
  refine (G_ieq (mF fc328 (by rfl))).trans (gi ?_ ?_)
  ·
    exact Iff.rfl
  ·
    refine (G_iconst (mF fc328 (by rfl))).trans ?_
    exact G_ireturnZ rfl (mF fc328 (by rfl))
set_option maxRecDepth 50000 in
theorem b328_1240 {d : Nat} {h : mHeap} {Q : Option Value → mHeap → Prop} {a0 : Nat} {a1 : Nat} {a2 : Nat} {x3 : Int32} : Go d 328 1240 [some (.ref a0), some (.ref a1), some (.ref a2), some (.int x3)] [] h Q ↔ okA h a0 .int (x3 + (ii 1)) ∧ oC h a1 = 11 ∧ GoCi d 171 [.ref a1, .int (eI h a0 (x3 + (ii 1)))] h (fun v1 h1 => okA h1 a0 .int (x3 + (ii 1)) ∧ oC h1 a2 = 12 ∧ GoCi d 316 [.ref a2, .int (eI h1 a0 (x3 + (ii 1)))] h1 (fun v2 h2 => (if v1 = v2 then (Go d 328 1263 [some (.ref a0), some (.ref a1), some (.ref a2), some (.int x3)] [] h2 Q) else (((ii 0) = ii 0 ∨ (ii 0) = ii 1) ∧ Q (some (.int (ii 0))) h2)))) := by
  refine (G_aload rfl (mF fc328 (by rfl))).trans ?_
  refine (G_aload rfl (mF fc328 (by rfl))).trans ?_
  refine (G_iload rfl (mF fc328 (by rfl))).trans ?_
  refine (G_iconst (mF fc328 (by rfl))).trans ?_
  refine (G_iadd (mF fc328 (by rfl))).trans ?_
  refine (G_iaload (mF fc328 (by rfl))).trans (andR ?_)
  refine (G_Vi (q := 87730) (y := 171) (a := a1) (c := 11) rfl rfl rfl rfl (by decide) rfl (as := [.ref a1, .int (eI h a0 (x3 + (ii 1)))]) (rest := []) rfl rfl (mF fc328 (by rfl))).trans (andR (GoCi_congr fun v1 h1 => ?_))
  refine (G_aload rfl (mF fc328 (by rfl))).trans ?_
  refine (G_aload rfl (mF fc328 (by rfl))).trans ?_
  refine (G_iload rfl (mF fc328 (by rfl))).trans ?_
  refine (G_iconst (mF fc328 (by rfl))).trans ?_
  refine (G_iadd (mF fc328 (by rfl))).trans ?_
  refine (G_iaload (mF fc328 (by rfl))).trans (andR ?_)
  refine (G_Vi (q := 161986) (y := 316) (a := a2) (c := 12) rfl rfl rfl rfl (by decide) rfl (as := [.ref a2, .int (eI h1 a0 (x3 + (ii 1)))]) (rest := [.int v1]) rfl rfl (mF fc328 (by rfl))).trans (andR (GoCi_congr fun v2 h2 => ?_))
  refine (G_ieq (mF fc328 (by rfl))).trans (gi ?_ ?_)
  ·
    exact Iff.rfl
  ·
    refine (G_iconst (mF fc328 (by rfl))).trans ?_
    exact G_ireturnZ rfl (mF fc328 (by rfl))
set_option maxRecDepth 50000 in
theorem b328_1263 {d : Nat} {h : mHeap} {Q : Option Value → mHeap → Prop} {a0 : Nat} {a1 : Nat} {a2 : Nat} {x3 : Int32} : Go d 328 1263 [some (.ref a0), some (.ref a1), some (.ref a2), some (.int x3)] [] h Q ↔ Go d 328 18 [some (.ref a0), some (.ref a1), some (.ref a2), some (.int (x3 + ii 6))] [] h Q := by
  refine (G_iinc (k := 3) (L' := [some (.ref a0), some (.ref a1), some (.ref a2), some (.int (x3 + ii 6))]) rfl rfl rfl (mF fc328 (by rfl))).trans ?_
  refine (G_goto (mF fc328 (by rfl))).trans ?_
  exact Iff.rfl
theorem e328 {d : Nat} {h : mHeap} {K : Int32 → mHeap → Prop} {a0 : Nat} : GoCi (d + 1) 328 [.ref a0] h K ↔ Go d 328 0 [some (.ref a0), none, none, none] [] h (rI K) := GoCi_entry rfl rfl
