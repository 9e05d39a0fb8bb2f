set_option maxRecDepth 20000 in
theorem fc328 : mCodes[328]? = some mc328 := rfl
theorem b328_0 {d : Nat} {h : mHeap} {Q : Option Value → mHeap → Prop} {a0 : Nat} : Go d 328 0 [some (.ref a0), none, none, none] [] h Q ↔ (∃ h1 : mHeap, h1 = nO h 11 ∧ 64 ≤ h.length ∧ GoCv d 134 [.ref h.length] h1 (fun h2 => (∃ h3 : mHeap, h3 = nO h2 12 ∧ 64 ≤ h2.length ∧ GoCv d 182 [.ref h2.length] h3 (fun h4 => Go d 328 18 [some (.ref a0), some (.ref h.length), some (.ref h2.length), some (.int (ii 0))] [] h4 Q)))) := by
  refine (G_new (mF fc328 (by rfl))).trans ?_
  refine (exN (A := fun x => Go d 328 3 [some (.ref a0), none, none, none] [.ref h.length] x Q) (e := nO h 11) fun h1 => ?_)
  refine (G_dupr (mF fc328 (by rfl))).trans ?_
  refine (G_Nv (q := 68785) (y := 134) (a := h.length) rfl rfl rfl rfl (as := [.ref h.length]) (rest := [.ref h.length]) rfl rfl (mF fc328 (by rfl))).trans (andR (GoCv_congr fun h2 => ?_))
  refine (G_astore (k := 1) (L' := [some (.ref a0), some (.ref h.length), none, none]) rfl (ltb rfl) rfl (mF fc328 (by rfl))).trans ?_
  refine (G_new (mF fc328 (by rfl))).trans ?_
  refine (exN (A := fun x => Go d 328 11 [some (.ref a0), some (.ref h.length), none, none] [.ref h2.length] x Q) (e := nO h2 12) fun h3 => ?_)
  refine (G_dupr (mF fc328 (by rfl))).trans ?_
  refine (G_Nv (q := 93377) (y := 182) (a := h2.length) rfl rfl rfl rfl (as := [.ref h2.length]) (rest := [.ref h2.length]) rfl rfl (mF fc328 (by rfl))).trans (andR (GoCv_congr fun h4 => ?_))
  refine (G_astore (k := 2) (L' := [some (.ref a0), some (.ref h.length), some (.ref h2.length), none]) rfl (ltb rfl) rfl (mF fc328 (by rfl))).trans ?_
  refine (G_iconst (mF fc328 (by rfl))).trans ?_
  refine (G_istore (k := 3) (L' := [some (.ref a0), some (.ref h.length), some (.ref h2.length), some (.int (ii 0))]) rfl (ltb rfl) rfl (mF fc328 (by rfl))).trans ?_
  exact Iff.rfl
theorem b328_18 {d : Nat} {h : mHeap} {Q : Option Value → mHeap → Prop} {a0 : Nat} {a1 : Nat} {a2 : Nat} {x3 : Int32} : Go d 328 18 [some (.ref a0), some (.ref a1), some (.ref a2), some (.int x3)] [] h Q ↔ okL h a0 ∧ (if ((ii (nL h a0)) - (ii 6)) < x3 then (((ii 1) = ii 0 ∨ (ii 1) = ii 1) ∧ Q (some (.int (ii 1))) h) else (okA h a0 .int x3 ∧ (if ((eI h a0 x3) &&& (ii 63)) = ii 0 then (okA h a0 .int (x3 + (ii 1)) ∧ okA h a0 .int (x3 + (ii 2)) ∧ okA h a0 .int (x3 + (ii 3)) ∧ okA h a0 .int (x3 + (ii 4)) ∧ okA h a0 .int (x3 + (ii 5)) ∧ oC h a1 = 11 ∧ GoCi d 135 [.ref a1, .int (eI h a0 (x3 + (ii 1))), .int (eI h a0 (x3 + (ii 2))), .int (eI h a0 (x3 + (ii 3))), .int (eI h a0 (x3 + (ii 4))), .int (eI h a0 (x3 + (ii 5)))] h (fun v1 h1 => okA h1 a0 .int (x3 + (ii 1)) ∧ okA h1 a0 .int (x3 + (ii 2)) ∧ okA h1 a0 .int (x3 + (ii 3)) ∧ okA h1 a0 .int (x3 + (ii 4)) ∧ okA h1 a0 .int (x3 + (ii 5)) ∧ oC h1 a2 = 12 ∧ GoCi d 193 [.ref a2, .int (eI h1 a0 (x3 + (ii 1))), .int (eI h1 a0 (x3 + (ii 2))), .int (eI h1 a0 (x3 + (ii 3))), .int (eI h1 a0 (x3 + (ii 4))), .int (eI h1 a0 (x3 + (ii 5)))] h1 (fun v2 h2 => (if v1 = v2 then (Go d 328 1263 [some (.ref a0), some (.ref a1), some (.ref a2), some (.int x3)] [] h2 Q) else (((ii 0) = ii 0 ∨ (ii 0) = ii 1) ∧ Q (some (.int (ii 0))) h2))))) else (if ((eI h a0 x3) &&& (ii 63)) = ii 1 then (okA h a0 .int (x3 + (ii 1)) ∧ oC h a1 = 11 ∧ GoCi d 136 [.ref a1, .int (eI h a0 (x3 + (ii 1)))] h (fun v3 h3 => okA h3 a0 .int (x3 + (ii 1)) ∧ oC h3 a2 = 12 ∧ GoCi d 195 [.ref a2, .int (eI h3 a0 (x3 + (ii 1)))] h3 (fun v4 h4 => (if v3 = v4 then (Go d 328 1263 [some (.ref a0), some (.ref a1), some (.ref a2), some (.int x3)] [] h4 Q) else (((ii 0) = ii 0 ∨ (ii 0) = ii 1) ∧ Q (some (.int (ii 0))) h4))))) else (if ((eI h a0 x3) &&& (ii 63)) = ii 2 then (oC h a1 = 11 ∧ GoCi d 137 [.ref a1] h (fun v5 h5 => oC h5 a2 = 12 ∧ GoCi d 226 [.ref a2] h5 (fun v6 h6 => (if v5 = v6 then (Go d 328 1263 [some (.ref a0), some (.ref a1), some (.ref a2), some (.int x3)] [] h6 Q) else (((ii 0) = ii 0 ∨ (ii 0) = ii 1) ∧ Q (some (.int (ii 0))) h6))))) else (if ((eI h a0 x3) &&& (ii 63)) = ii 3 then (oC h a1 = 11 ∧ GoCi d 138 [.ref a1] h (fun v7 h7 => oC h7 a2 = 12 ∧ GoCi d 237 [.ref a2] h7 (fun v8 h8 => (if v7 = v8 then (Go d 328 1263 [some (.ref a0), some (.ref a1), some (.ref a2), some (.int x3)] [] h8 Q) else (((ii 0) = ii 0 ∨ (ii 0) = ii 1) ∧ Q (some (.int (ii 0))) h8))))) else (if ((eI h a0 x3) &&& (ii 63)) = ii 4 then (oC h a1 = 11 ∧ GoCi d 139 [.ref a1] h (fun v9 h9 => oC h9 a2 = 12 ∧ GoCi d 239 [.ref a2] h9 (fun v10 h10 => (if v9 = v10 then (Go d 328 1263 [some (.ref a0), some (.ref a1), some (.ref a2), some (.int x3)] [] h10 Q) else (((ii 0) = ii 0 ∨ (ii 0) = ii 1) ∧ Q (some (.int (ii 0))) h10))))) else (if ((eI h a0 x3) &&& (ii 63)) = ii 5 then (okA h a0 .int (x3 + (ii 1)) ∧ okA h a0 .int (x3 + (ii 2)) ∧ oC h a1 = 11 ∧ GoCi d 140 [.ref a1, .int (eI h a0 (x3 + (ii 1))), .int (eI h a0 (x3 + (ii 2)))] h (fun v11 h11 => okA h11 a0 .int (x3 + (ii 1)) ∧ okA h11 a0 .int (x3 + (ii 2)) ∧ oC h11 a2 = 12 ∧ GoCi d 254 [.ref a2, .int (eI h11 a0 (x3 + (ii 1))), .int (eI h11 a0 (x3 + (ii 2)))] h11 (fun v12 h12 => (if v11 = v12 then (Go d 328 1263 [some (.ref a0), some (.ref a1), some (.ref a2), some (.int x3)] [] h12 Q) else (((ii 0) = ii 0 ∨ (ii 0) = ii 1) ∧ Q (some (.int (ii 0))) h12))))) else (if ((eI h a0 x3) &&& (ii 63)) = ii 6 then (okA h a0 .int (x3 + (ii 1)) ∧ oC h a1 = 11 ∧ GoCi d 141 [.ref a1, .int (eI h a0 (x3 + (ii 1)))] h (fun v13 h13 => okA h13 a0 .int (x3 + (ii 1)) ∧ oC h13 a2 = 12 ∧ GoCi d 255 [.ref a2, .int (eI h13 a0 (x3 + (ii 1)))] h13 (fun v14 h14 => (if v13 = v14 then (Go d 328 1263 [some (.ref a0), some (.ref a1), some (.ref a2), some (.int x3)] [] h14 Q) else (((ii 0) = ii 0 ∨ (ii 0) = ii 1) ∧ Q (some (.int (ii 0))) h14))))) else (if ((eI h a0 x3) &&& (ii 63)) = ii 7 then (okA h a0 .int (x3 + (ii 1)) ∧ oC h a1 = 11 ∧ GoCi d 142 [.ref a1, .int (eI h a0 (x3 + (ii 1)))] h (fun v15 h15 => okA h15 a0 .int (x3 + (ii 1)) ∧ oC h15 a2 = 12 ∧ GoCi d 256 [.ref a2, .int (eI h15 a0 (x3 + (ii 1)))] h15 (fun v16 h16 => (if v15 = v16 then (Go d 328 1263 [some (.ref a0), some (.ref a1), some (.ref a2), some (.int x3)] [] h16 Q) else (((ii 0) = ii 0 ∨ (ii 0) = ii 1) ∧ Q (some (.int (ii 0))) h16))))) else (if ((eI h a0 x3) &&& (ii 63)) = ii 8 then (okA h a0 .int (x3 + (ii 1)) ∧ okA h a0 .int (x3 + (ii 2)) ∧ oC h a1 = 11 ∧ GoCi d 143 [.ref a1, .int (eI h a0 (x3 + (ii 1))), .int (eI h a0 (x3 + (ii 2)))] h (fun v17 h17 => okA h17 a0 .int (x3 + (ii 1)) ∧ okA h17 a0 .int (x3 + (ii 2)) ∧ oC h17 a2 = 12 ∧ GoCi d 259 [.ref a2, .int (eI h17 a0 (x3 + (ii 1))), .int (eI h17 a0 (x3 + (ii 2)))] h17 (fun v18 h18 => (if v17 = v18 then (Go d 328 1263 [some (.ref a0), some (.ref a1), some (.ref a2), some (.int x3)] [] h18 Q) else (((ii 0) = ii 0 ∨ (ii 0) = ii 1) ∧ Q (some (.int (ii 0))) h18))))) else (if ((eI h a0 x3) &&& (ii 63)) = ii 9 then (okA h a0 .int (x3 + (ii 1)) ∧ okA h a0 .int (x3 + (ii 2)) ∧ oC h a1 = 11 ∧ GoCi d 144 [.ref a1, .int (eI h a0 (x3 + (ii 1))), .int (eI h a0 (x3 + (ii 2)))] h (fun v19 h19 => okA h19 a0 .int (x3 + (ii 1)) ∧ okA h19 a0 .int (x3 + (ii 2)) ∧ oC h19 a2 = 12 ∧ GoCi d 260 [.ref a2, .int (eI h19 a0 (x3 + (ii 1))), .int (eI h19 a0 (x3 + (ii 2)))] h19 (fun v20 h20 => (if v19 = v20 then (Go d 328 1263 [some (.ref a0), some (.ref a1), some (.ref a2), some (.int x3)] [] h20 Q) else (((ii 0) = ii 0 ∨ (ii 0) = ii 1) ∧ Q (some (.int (ii 0))) h20))))) else (if ((eI h a0 x3) &&& (ii 63)) = ii 10 then (okA h a0 .int (x3 + (ii 1)) ∧ oC h a1 = 11 ∧ GoCi d 145 [.ref a1, .int (eI h a0 (x3 + (ii 1)))] h (fun v21 h21 => okA h21 a0 .int (x3 + (ii 1)) ∧ oC h21 a2 = 12 ∧ GoCi d 261 [.ref a2, .int (eI h21 a0 (x3 + (ii 1)))] h21 (fun v22 h22 => (if v21 = v22 then (Go d 328 1263 [some (.ref a0), some (.ref a1), some (.ref a2), some (.int x3)] [] h22 Q) else (((ii 0) = ii 0 ∨ (ii 0) = ii 1) ∧ Q (some (.int (ii 0))) h22))))) else (if ((eI h a0 x3) &&& (ii 63)) = ii 11 then (okA h a0 .int (x3 + (ii 1)) ∧ okA h a0 .int (x3 + (ii 2)) ∧ oC h a1 = 11 ∧ GoCi d 146 [.ref a1, .int (eI h a0 (x3 + (ii 1))), .int (eI h a0 (x3 + (ii 2)))] h (fun v23 h23 => okA h23 a0 .int (x3 + (ii 1)) ∧ okA h23 a0 .int (x3 + (ii 2)) ∧ oC h23 a2 = 12 ∧ GoCi d 263 [.ref a2, .int (eI h23 a0 (x3 + (ii 1))), .int (eI h23 a0 (x3 + (ii 2)))] h23 (fun v24 h24 => (if v23 = v24 then (Go d 328 1263 [some (.ref a0), some (.ref a1), some (.ref a2), some (.int x3)] [] h24 Q) else (((ii 0) = ii 0 ∨ (ii 0) = ii 1) ∧ Q (some (.int (ii 0))) h24))))) else (if ((eI h a0 x3) &&& (ii 63)) = ii 12 then (okA h a0 .int (x3 + (ii 1)) ∧ okA h a0 .int (x3 + (ii 2)) ∧ oC h a1 = 11 ∧ GoCi d 147 [.ref a1, .int (eI h a0 (x3 + (ii 1))), .int (eI h a0 (x3 + (ii 2)))] h (fun v25 h25 => okA h25 a0 .int (x3 + (ii 1)) ∧ okA h25 a0 .int (x3 + (ii 2)) ∧ oC h25 a2 = 12 ∧ GoCi d 264 [.ref a2, .int (eI h25 a0 (x3 + (ii 1))), .int (eI h25 a0 (x3 + (ii 2)))] h25 (fun v26 h26 => (if v25 = v26 then (Go d 328 1263 [some (.ref a0), some (.ref a1), some (.ref a2), some (.int x3)] [] h26 Q) else (((ii 0) = ii 0 ∨ (ii 0) = ii 1) ∧ Q (some (.int (ii 0))) h26))))) else (if ((eI h a0 x3) &&& (ii 63)) = ii 13 then (okA h a0 .int (x3 + (ii 1)) ∧ oC h a1 = 11 ∧ GoCi d 148 [.ref a1, .int (eI h a0 (x3 + (ii 1)))] h (fun v27 h27 => okA h27 a0 .int (x3 + (ii 1)) ∧ oC h27 a2 = 12 ∧ GoCi d 265 [.ref a2, .int (eI h27 a0 (x3 + (ii 1)))] h27 (fun v28 h28 => (if v27 = v28 then (Go d 328 1263 [some (.ref a0), some (.ref a1), some (.ref a2), some (.int x3)] [] h28 Q) else (((ii 0) = ii 0 ∨ (ii 0) = ii 1) ∧ Q (some (.int (ii 0))) h28))))) else (if ((eI h a0 x3) &&& (ii 63)) = ii 14 then (okA h a0 .int (x3 + (ii 1)) ∧ oC h a1 = 11 ∧ GoCi d 149 [.ref a1, .int (eI h a0 (x3 + (ii 1)))] h (fun v29 h29 => okA h29 a0 .int (x3 + (ii 1)) ∧ oC h29 a2 = 12 ∧ GoCi d 266 [.ref a2, .int (eI h29 a0 (x3 + (ii 1)))] h29 (fun v30 h30 => (if v29 = v30 then (Go d 328 1263 [some (.ref a0), some (.ref a1), some (.ref a2), some (.int x3)] [] h30 Q) else (((ii 0) = ii 0 ∨ (ii 0) = ii 1) ∧ Q (some (.int (ii 0))) h30))))) else (if ((eI h a0 x3) &&& (ii 63)) = ii 15 then (okA h a0 .int (x3 + (ii 1)) ∧ okA h a0 .int (x3 + (ii 2)) ∧ oC h a1 = 11 ∧ GoCi d 150 [.ref a1, .int (eI h a0 (x3 + (ii 1))), .int (eI h a0 (x3 + (ii 2)))] h (fun v31 h31 => okA h31 a0 .int (x3 + (ii 1)) ∧ okA h31 a0 .int (x3 + (ii 2)) ∧ oC h31 a2 = 12 ∧ GoCi d 273 [.ref a2, .int (eI h31 a0 (x3 + (ii 1))), .int (eI h31 a0 (x3 + (ii 2)))] h31 (fun v32 h32 => (if v31 = v32 then (Go d 328 1263 [some (.ref a0), some (.ref a1), some (.ref a2), some (.int x3)] [] h32 Q) else (((ii 0) = ii 0 ∨ (ii 0) = ii 1) ∧ Q (some (.int (ii 0))) h32))))) else (if ((eI h a0 x3) &&& (ii 63)) = ii 16 then (okA h a0 .int (x3 + (ii 1)) ∧ okA h a0 .int (x3 + (ii 2)) ∧ okA h a0 .int (x3 + (ii 3)) ∧ oC h a1 = 11 ∧ GoCi d 151 [.ref a1, .int (eI h a0 (x3 + (ii 1))), .int (eI h a0 (x3 + (ii 2))), .int (eI h a0 (x3 + (ii 3)))] h (fun v33 h33 => okA h33 a0 .int (x3 + (ii 1)) ∧ okA h33 a0 .int (x3 + (ii 2)) ∧ okA h33 a0 .int (x3 + (ii 3)) ∧ oC h33 a2 = 12 ∧ GoCi d 274 [.ref a2, .int (eI h33 a0 (x3 + (ii 1))), .int (eI h33 a0 (x3 + (ii 2))), .int (eI h33 a0 (x3 + (ii 3)))] h33 (fun v34 h34 => (if v33 = v34 then (Go d 328 1263 [some (.ref a0), some (.ref a1), some (.ref a2), some (.int x3)] [] h34 Q) else (((ii 0) = ii 0 ∨ (ii 0) = ii 1) ∧ Q (some (.int (ii 0))) h34))))) else (if ((eI h a0 x3) &&& (ii 63)) = ii 17 then (okA h a0 .int (x3 + (ii 1)) ∧ okA h a0 .int (x3 + (ii 2)) ∧ oC h a1 = 11 ∧ GoCi d 152 [.ref a1, .int (eI h a0 (x3 + (ii 1))), .int (eI h a0 (x3 + (ii 2)))] h (fun v35 h35 => okA h35 a0 .int (x3 + (ii 1)) ∧ okA h35 a0 .int (x3 + (ii 2)) ∧ oC h35 a2 = 12 ∧ GoCi d 275 [.ref a2, .int (eI h35 a0 (x3 + (ii 1))), .int (eI h35 a0 (x3 + (ii 2)))] h35 (fun v36 h36 => (if v35 = v36 then (Go d 328 1263 [some (.ref a0), some (.ref a1), some (.ref a2), some (.int x3)] [] h36 Q) else (((ii 0) = ii 0 ∨ (ii 0) = ii 1) ∧ Q (some (.int (ii 0))) h36))))) else (if ((eI h a0 x3) &&& (ii 63)) = ii 18 then (oC h a1 = 11 ∧ GoCi d 153 [.ref a1] h (fun v37 h37 => oC h37 a2 = 12 ∧ GoCi d 278 [.ref a2] h37 (fun v38 h38 => (if v37 = v38 then (Go d 328 1263 [some (.ref a0), some (.ref a1), some (.ref a2), some (.int x3)] [] h38 Q) else (((ii 0) = ii 0 ∨ (ii 0) = ii 1) ∧ Q (some (.int (ii 0))) h38))))) else (if ((eI h a0 x3) &&& (ii 63)) = ii 19 then (oC h a1 = 11 ∧ GoCi d 154 [.ref a1] h (fun v39 h39 => oC h39 a2 = 12 ∧ GoCi d 271 [.ref a2] h39 (fun v40 h40 => (if v39 = v40 then (Go d 328 1263 [some (.ref a0), some (.ref a1), some (.ref a2), some (.int x3)] [] h40 Q) else (((ii 0) = ii 0 ∨ (ii 0) = ii 1) ∧ Q (some (.int (ii 0))) h40))))) else (if ((eI h a0 x3) &&& (ii 63)) = ii 20 then (okA h a0 .int (x3 + (ii 1)) ∧ okA h a0 .int (x3 + (ii 2)) ∧ oC h a1 = 11 ∧ GoCi d 155 [.ref a1, .int (eI h a0 (x3 + (ii 1))), .int (eI h a0 (x3 + (ii 2)))] h (fun v41 h41 => okA h41 a0 .int (x3 + (ii 1)) ∧ okA h41 a0 .int (x3 + (ii 2)) ∧ oC h41 a2 = 12 ∧ GoCi d 282 [.ref a2, .int (eI h41 a0 (x3 + (ii 1))), .int (eI h41 a0 (x3 + (ii 2)))] h41 (fun v42 h42 => (if v41 = v42 then (Go d 328 1263 [some (.ref a0), some (.ref a1), some (.ref a2), some (.int x3)] [] h42 Q) else (((ii 0) = ii 0 ∨ (ii 0) = ii 1) ∧ Q (some (.int (ii 0))) h42))))) else (if ((eI h a0 x3) &&& (ii 63)) = ii 21 then (okA h a0 .int (x3 + (ii 1)) ∧ okA h a0 .int (x3 + (ii 2)) ∧ oC h a1 = 11 ∧ GoCi d 156 [.ref a1, .int (eI h a0 (x3 + (ii 1))), .int (eI h a0 (x3 + (ii 2)))] h (fun v43 h43 => okA h43 a0 .int (x3 + (ii 1)) ∧ okA h43 a0 .int (x3 + (ii 2)) ∧ oC h43 a2 = 12 ∧ GoCi d 285 [.ref a2, .int (eI h43 a0 (x3 + (ii 1))), .int (eI h43 a0 (x3 + (ii 2)))] h43 (fun v44 h44 => (if v43 = v44 then (Go d 328 1263 [some (.ref a0), some (.ref a1), some (.ref a2), some (.int x3)] [] h44 Q) else (((ii 0) = ii 0 ∨ (ii 0) = ii 1) ∧ Q (some (.int (ii 0))) h44))))) else (if ((eI h a0 x3) &&& (ii 63)) = ii 22 then (okA h a0 .int (x3 + (ii 1)) ∧ okA h a0 .int (x3 + (ii 2)) ∧ oC h a1 = 11 ∧ GoCi d 157 [.ref a1, .int (eI h a0 (x3 + (ii 1))), .int (eI h a0 (x3 + (ii 2)))] h (fun v45 h45 => okA h45 a0 .int (x3 + (ii 1)) ∧ okA h45 a0 .int (x3 + (ii 2)) ∧ oC h45 a2 = 12 ∧ GoCi d 286 [.ref a2, .int (eI h45 a0 (x3 + (ii 1))), .int (eI h45 a0 (x3 + (ii 2)))] h45 (fun v46 h46 => (if v45 = v46 then (Go d 328 1263 [some (.ref a0), some (.ref a1), some (.ref a2), some (.int x3)] [] h46 Q) else (((ii 0) = ii 0 ∨ (ii 0) = ii 1) ∧ Q (some (.int (ii 0))) h46))))) else (if ((eI h a0 x3) &&& (ii 63)) = ii 23 then (okA h a0 .int (x3 + (ii 1)) ∧ okA h a0 .int (x3 + (ii 2)) ∧ oC h a1 = 11 ∧ GoCi d 158 [.ref a1, .int (eI h a0 (x3 + (ii 1))), .int (eI h a0 (x3 + (ii 2)))] h (fun v47 h47 => okA h47 a0 .int (x3 + (ii 1)) ∧ okA h47 a0 .int (x3 + (ii 2)) ∧ oC h47 a2 = 12 ∧ GoCi d 287 [.ref a2, .int (eI h47 a0 (x3 + (ii 1))), .int (eI h47 a0 (x3 + (ii 2)))] h47 (fun v48 h48 => (if v47 = v48 then (Go d 328 1263 [some (.ref a0), some (.ref a1), some (.ref a2), some (.int x3)] [] h48 Q) else (((ii 0) = ii 0 ∨ (ii 0) = ii 1) ∧ Q (some (.int (ii 0))) h48))))) else (if ((eI h a0 x3) &&& (ii 63)) = ii 24 then (okA h a0 .int (x3 + (ii 1)) ∧ okA h a0 .int (x3 + (ii 2)) ∧ oC h a1 = 11 ∧ GoCi d 159 [.ref a1, .int (eI h a0 (x3 + (ii 1))), .int (eI h a0 (x3 + (ii 2)))] h (fun v49 h49 => okA h49 a0 .int (x3 + (ii 1)) ∧ okA h49 a0 .int (x3 + (ii 2)) ∧ oC h49 a2 = 12 ∧ GoCi d 288 [.ref a2, .int (eI h49 a0 (x3 + (ii 1))), .int (eI h49 a0 (x3 + (ii 2)))] h49 (fun v50 h50 => (if v49 = v50 then (Go d 328 1263 [some (.ref a0), some (.ref a1), some (.ref a2), some (.int x3)] [] h50 Q) else (((ii 0) = ii 0 ∨ (ii 0) = ii 1) ∧ Q (some (.int (ii 0))) h50))))) else (if ((eI h a0 x3) &&& (ii 63)) = ii 25 then (okA h a0 .int (x3 + (ii 1)) ∧ okA h a0 .int (x3 + (ii 2)) ∧ oC h a1 = 11 ∧ GoCi d 160 [.ref a1, .int (eI h a0 (x3 + (ii 1))), .int (eI h a0 (x3 + (ii 2)))] h (fun v51 h51 => okA h51 a0 .int (x3 + (ii 1)) ∧ okA h51 a0 .int (x3 + (ii 2)) ∧ oC h51 a2 = 12 ∧ GoCi d 293 [.ref a2, .int (eI h51 a0 (x3 + (ii 1))), .int (eI h51 a0 (x3 + (ii 2)))] h51 (fun v52 h52 => (if v51 = v52 then (Go d 328 1263 [some (.ref a0), some (.ref a1), some (.ref a2), some (.int x3)] [] h52 Q) else (((ii 0) = ii 0 ∨ (ii 0) = ii 1) ∧ Q (some (.int (ii 0))) h52))))) else (if ((eI h a0 x3) &&& (ii 63)) = ii 26 then (okA h a0 .int (x3 + (ii 1)) ∧ okA h a0 .int (x3 + (ii 2)) ∧ oC h a1 = 11 ∧ GoCi d 161 [.ref a1, .int (eI h a0 (x3 + (ii 1))), .int (eI h a0 (x3 + (ii 2)))] h (fun v53 h53 => okA h53 a0 .int (x3 + (ii 1)) ∧ okA h53 a0 .int (x3 + (ii 2)) ∧ oC h53 a2 = 12 ∧ GoCi d 298 [.ref a2, .int (eI h53 a0 (x3 + (ii 1))), .int (eI h53 a0 (x3 + (ii 2)))] h53 (fun v54 h54 => (if v53 = v54 then (Go d 328 1263 [some (.ref a0), some (.ref a1), some (.ref a2), some (.int x3)] [] h54 Q) else (((ii 0) = ii 0 ∨ (ii 0) = ii 1) ∧ Q (some (.int (ii 0))) h54))))) else (if ((eI h a0 x3) &&& (ii 63)) = ii 27 then (okA h a0 .int (x3 + (ii 1)) ∧ okA h a0 .int (x3 + (ii 2)) ∧ oC h a1 = 11 ∧ GoCi d 162 [.ref a1, .int (eI h a0 (x3 + (ii 1))), .int (eI h a0 (x3 + (ii 2)))] h (fun v55 h55 => okA h55 a0 .int (x3 + (ii 1)) ∧ okA h55 a0 .int (x3 + (ii 2)) ∧ oC h55 a2 = 12 ∧ GoCi d 301 [.ref a2, .int (eI h55 a0 (x3 + (ii 1))), .int (eI h55 a0 (x3 + (ii 2)))] h55 (fun v56 h56 => (if v55 = v56 then (Go d 328 1263 [some (.ref a0), some (.ref a1), some (.ref a2), some (.int x3)] [] h56 Q) else (((ii 0) = ii 0 ∨ (ii 0) = ii 1) ∧ Q (some (.int (ii 0))) h56))))) else (if ((eI h a0 x3) &&& (ii 63)) = ii 28 then (okA h a0 .int (x3 + (ii 1)) ∧ okA h a0 .int (x3 + (ii 2)) ∧ oC h a1 = 11 ∧ GoCi d 163 [.ref a1, .int (eI h a0 (x3 + (ii 1))), .int (eI h a0 (x3 + (ii 2)))] h (fun v57 h57 => okA h57 a0 .int (x3 + (ii 1)) ∧ okA h57 a0 .int (x3 + (ii 2)) ∧ oC h57 a2 = 12 ∧ GoCi d 302 [.ref a2, .int (eI h57 a0 (x3 + (ii 1))), .int (eI h57 a0 (x3 + (ii 2)))] h57 (fun v58 h58 => (if v57 = v58 then (Go d 328 1263 [some (.ref a0), some (.ref a1), some (.ref a2), some (.int x3)] [] h58 Q) else (((ii 0) = ii 0 ∨ (ii 0) = ii 1) ∧ Q (some (.int (ii 0))) h58))))) else (if ((eI h a0 x3) &&& (ii 63)) = ii 29 then (okA h a0 .int (x3 + (ii 1)) ∧ okA h a0 .int (x3 + (ii 2)) ∧ (if (eI h a0 (x3 + (ii 2))) = ii 0 then (Go d 328 1052 [some (.ref a0), some (.ref a1), some (.ref a2), some (.int x3)] [.int (ii 0), .int (eI h a0 (x3 + (ii 1))), .ref a1] h Q) else (Go d 328 1052 [some (.ref a0), some (.ref a1), some (.ref a2), some (.int x3)] [.int (ii 1), .int (eI h a0 (x3 + (ii 1))), .ref a1] h Q))) else (if ((eI h a0 x3) &&& (ii 63)) = ii 30 then (okA h a0 .int (x3 + (ii 1)) ∧ oC h a1 = 11 ∧ GoCi d 165 [.ref a1, .int (eI h a0 (x3 + (ii 1)))] h (fun v59 h59 => okA h59 a0 .int (x3 + (ii 1)) ∧ oC h59 a2 = 12 ∧ GoCi d 306 [.ref a2, .int (eI h59 a0 (x3 + (ii 1)))] h59 (fun v60 h60 => (if v59 = v60 then (Go d 328 1263 [some (.ref a0), some (.ref a1), some (.ref a2), some (.int x3)] [] h60 Q) else (((ii 0) = ii 0 ∨ (ii 0) = ii 1) ∧ Q (some (.int (ii 0))) h60))))) else (if ((eI h a0 x3) &&& (ii 63)) = ii 31 then (okA h a0 .int (x3 + (ii 1)) ∧ oC h a1 = 11 ∧ GoCi d 166 [.ref a1, .int (eI h a0 (x3 + (ii 1)))] h (fun v61 h61 => okA h61 a0 .int (x3 + (ii 1)) ∧ oC h61 a2 = 12 ∧ GoCi d 307 [.ref a2, .int (eI h61 a0 (x3 + (ii 1)))] h61 (fun v62 h62 => (if v61 = v62 then (Go d 328 1263 [some (.ref a0), some (.ref a1), some (.ref a2), some (.int x3)] [] h62 Q) else (((ii 0) = ii 0 ∨ (ii 0) = ii 1) ∧ Q (some (.int (ii 0))) h62))))) else (if ((eI h a0 x3) &&& (ii 63)) = ii 32 then (okA h a0 .int (x3 + (ii 1)) ∧ oC h a1 = 11 ∧ GoCi d 167 [.ref a1, .int (eI h a0 (x3 + (ii 1)))] h (fun v63 h63 => okA h63 a0 .int (x3 + (ii 1)) ∧ oC h63 a2 = 12 ∧ GoCi d 308 [.ref a2, .int (eI h63 a0 (x3 + (ii 1)))] h63 (fun v64 h64 => (if v63 = v64 then (Go d 328 1263 [some (.ref a0), some (.ref a1), some (.ref a2), some (.int x3)] [] h64 Q) else (((ii 0) = ii 0 ∨ (ii 0) = ii 1) ∧ Q (some (.int (ii 0))) h64))))) else (if ((eI h a0 x3) &&& (ii 63)) = ii 33 then (okA h a0 .int (x3 + (ii 1)) ∧ okA h a0 .int (x3 + (ii 2)) ∧ okA h a0 .int (x3 + (ii 3)) ∧ oC h a1 = 11 ∧ GoCi d 168 [.ref a1, .int (eI h a0 (x3 + (ii 1))), .int (eI h a0 (x3 + (ii 2))), .int (eI h a0 (x3 + (ii 3)))] h (fun v65 h65 => okA h65 a0 .int (x3 + (ii 1)) ∧ okA h65 a0 .int (x3 + (ii 2)) ∧ okA h65 a0 .int (x3 + (ii 3)) ∧ oC h65 a2 = 12 ∧ GoCi d 311 [.ref a2, .int (eI h65 a0 (x3 + (ii 1))), .int (eI h65 a0 (x3 + (ii 2))), .int (eI h65 a0 (x3 + (ii 3)))] h65 (fun v66 h66 => (if v65 = v66 then (Go d 328 1263 [some (.ref a0), some (.ref a1), some (.ref a2), some (.int x3)] [] h66 Q) else (((ii 0) = ii 0 ∨ (ii 0) = ii 1) ∧ Q (some (.int (ii 0))) h66))))) else (if ((eI h a0 x3) &&& (ii 63)) = ii 34 then (okA h a0 .int (x3 + (ii 1)) ∧ oC h a1 = 11 ∧ GoCi d 169 [.ref a1, .int (eI h a0 (x3 + (ii 1)))] h (fun v67 h67 => okA h67 a0 .int (x3 + (ii 1)) ∧ oC h67 a2 = 12 ∧ GoCi d 312 [.ref a2, .int (eI h67 a0 (x3 + (ii 1)))] h67 (fun v68 h68 => (if v67 = v68 then (Go d 328 1263 [some (.ref a0), some (.ref a1), some (.ref a2), some (.int x3)] [] h68 Q) else (((ii 0) = ii 0 ∨ (ii 0) = ii 1) ∧ Q (some (.int (ii 0))) h68))))) else (if ((eI h a0 x3) &&& (ii 63)) = ii 35 then (okA h a0 .int (x3 + (ii 1)) ∧ oC h a1 = 11 ∧ GoCi d 170 [.ref a1, .int (eI h a0 (x3 + (ii 1)))] h (fun v69 h69 => okA h69 a0 .int (x3 + (ii 1)) ∧ oC h69 a2 = 12 ∧ GoCi d 315 [.ref a2, .int (eI h69 a0 (x3 + (ii 1)))] h69 (fun v70 h70 => (if v69 = v70 then (Go d 328 1263 [some (.ref a0), some (.ref a1), some (.ref a2), some (.int x3)] [] h70 Q) else (((ii 0) = ii 0 ∨ (ii 0) = ii 1) ∧ Q (some (.int (ii 0))) h70))))) else (if ((eI h a0 x3) &&& (ii 63)) = ii 36 then (okA h a0 .int (x3 + (ii 1)) ∧ oC h a1 = 11 ∧ GoCi d 171 [.ref a1, .int (eI h a0 (x3 + (ii 1)))] h (fun v71 h71 => okA h71 a0 .int (x3 + (ii 1)) ∧ oC h71 a2 = 12 ∧ GoCi d 316 [.ref a2, .int (eI h71 a0 (x3 + (ii 1)))] h71 (fun v72 h72 => (if v71 = v72 then (Go d 328 1263 [some (.ref a0), some (.ref a1), some (.ref a2), some (.int x3)] [] h72 Q) else (((ii 0) = ii 0 ∨ (ii 0) = ii 1) ∧ Q (some (.int (ii 0))) h72))))) else (Go d 328 1263 [some (.ref a0), some (.ref a1), some (.ref a2), some (.int x3)] [] h Q)))))))))))))))))))))))))))))))))))))))) := by
  refine (G_iload rfl (mF fc328 (by rfl))).trans ?_
  refine (G_aload rfl (mF fc328 (by rfl))).trans ?_
  refine (G_arraylength (mF fc328 (by rfl))).trans (andR ?_)
  refine (G_iconst (mF fc328 (by rfl))).trans ?_
  refine (G_isub (mF fc328 (by rfl))).trans ?_
  refine (G_igt (mF fc328 (by rfl))).trans (gi ?_ ?_)
  ·
    refine (G_iconst (mF fc328 (by rfl))).trans ?_
    exact G_ireturnZ rfl (mF fc328 (by rfl))
  ·
    refine (G_aload rfl (mF fc328 (by rfl))).trans ?_
    refine (G_iload rfl (mF fc328 (by rfl))).trans ?_
    refine (G_iaload (mF fc328 (by rfl))).trans (andR ?_)
    refine (G_iconst (mF fc328 (by rfl))).trans ?_
    refine (G_iand (mF fc328 (by rfl))).trans ?_
    refine (G_tableswitch (lo := 0) (hi := 36) [196, 259, 282, 295, 308, 321, 354, 377, 400, 433, 466, 489, 522, 555, 578, 601, 634, 677, 710, 723, 736, 769, 802, 835, 868, 901, 934, 967, 1000, 1033, 1082, 1105, 1128, 1151, 1194, 1217, 1240] rfl (by decide) (by decide) (by decide) (mF fc328 (by rfl))).trans ?_
    refine gi ?_ ?_
    ·
      refine (G_aload rfl (mF fc328 (by rfl))).trans ?_
      refine (G_aload rfl (mF fc328 (by rfl))).trans ?_
      refine (G_iload rfl (mF fc328 (by rfl))).trans ?_
      refine (G_iconst (mF fc328 (by rfl))).trans ?_
      refine (G_iadd (mF fc328 (by rfl))).trans ?_
      refine (G_iaload (mF fc328 (by rfl))).trans (andR ?_)
      refine (G_aload rfl (mF fc328 (by rfl))).trans ?_
      refine (G_iload rfl (mF fc328 (by rfl))).trans ?_
      refine (G_iconst (mF fc328 (by rfl))).trans ?_
      refine (G_iadd (mF fc328 (by rfl))).trans ?_
      refine (G_iaload (mF fc328 (by rfl))).trans (andR ?_)
      refine (G_aload rfl (mF fc328 (by rfl))).trans ?_
      refine (G_iload rfl (mF fc328 (by rfl))).trans ?_
      refine (G_iconst (mF fc328 (by rfl))).trans ?_
      refine (G_iadd (mF fc328 (by rfl))).trans ?_
      refine (G_iaload (mF fc328 (by rfl))).trans (andR ?_)
      refine (G_aload rfl (mF fc328 (by rfl))).trans ?_
      refine (G_iload rfl (mF fc328 (by rfl))).trans ?_
      refine (G_iconst (mF fc328 (by rfl))).trans ?_
      refine (G_iadd (mF fc328 (by rfl))).trans ?_
      refine (G_iaload (mF fc328 (by rfl))).trans (andR ?_)
      refine (G_aload rfl (mF fc328 (by rfl))).trans ?_
      refine (G_iload rfl (mF fc328 (by rfl))).trans ?_
      refine (G_iconst (mF fc328 (by rfl))).trans ?_
      refine (G_iadd (mF fc328 (by rfl))).trans ?_
      refine (G_iaload (mF fc328 (by rfl))).trans (andR ?_)
      refine (G_Vi (q := 69302) (y := 135) (a := a1) (c := 11) rfl rfl rfl rfl (by decide) rfl (as := [.ref a1, .int (eI h a0 (x3 + (ii 1))), .int (eI h a0 (x3 + (ii 2))), .int (eI h a0 (x3 + (ii 3))), .int (eI h a0 (x3 + (ii 4))), .int (eI h a0 (x3 + (ii 5)))]) (rest := []) rfl rfl (mF fc328 (by rfl))).trans (andR (GoCi_congr fun v1 h1 => ?_))
      refine (G_aload rfl (mF fc328 (by rfl))).trans ?_
      refine (G_aload rfl (mF fc328 (by rfl))).trans ?_
      refine (G_iload rfl (mF fc328 (by rfl))).trans ?_
      refine (G_iconst (mF fc328 (by rfl))).trans ?_
      refine (G_iadd (mF fc328 (by rfl))).trans ?_
      refine (G_iaload (mF fc328 (by rfl))).trans (andR ?_)
      refine (G_aload rfl (mF fc328 (by rfl))).trans ?_
      refine (G_iload rfl (mF fc328 (by rfl))).trans ?_
      refine (G_iconst (mF fc328 (by rfl))).trans ?_
      refine (G_iadd (mF fc328 (by rfl))).trans ?_
      refine (G_iaload (mF fc328 (by rfl))).trans (andR ?_)
      refine (G_aload rfl (mF fc328 (by rfl))).trans ?_
      refine (G_iload rfl (mF fc328 (by rfl))).trans ?_
      refine (G_iconst (mF fc328 (by rfl))).trans ?_
      refine (G_iadd (mF fc328 (by rfl))).trans ?_
      refine (G_iaload (mF fc328 (by rfl))).trans (andR ?_)
      refine (G_aload rfl (mF fc328 (by rfl))).trans ?_
      refine (G_iload rfl (mF fc328 (by rfl))).trans ?_
      refine (G_iconst (mF fc328 (by rfl))).trans ?_
      refine (G_iadd (mF fc328 (by rfl))).trans ?_
      refine (G_iaload (mF fc328 (by rfl))).trans (andR ?_)
      refine (G_aload rfl (mF fc328 (by rfl))).trans ?_
      refine (G_iload rfl (mF fc328 (by rfl))).trans ?_
      refine (G_iconst (mF fc328 (by rfl))).trans ?_
      refine (G_iadd (mF fc328 (by rfl))).trans ?_
      refine (G_iaload (mF fc328 (by rfl))).trans (andR ?_)
      refine (G_Vi (q := 99014) (y := 193) (a := a2) (c := 12) rfl rfl rfl rfl (by decide) rfl (as := [.ref a2, .int (eI h1 a0 (x3 + (ii 1))), .int (eI h1 a0 (x3 + (ii 2))), .int (eI h1 a0 (x3 + (ii 3))), .int (eI h1 a0 (x3 + (ii 4))), .int (eI h1 a0 (x3 + (ii 5)))]) (rest := [.int v1]) rfl rfl (mF fc328 (by rfl))).trans (andR (GoCi_congr fun v2 h2 => ?_))
      refine (G_ieq (mF fc328 (by rfl))).trans (gi ?_ ?_)
      ·
        exact Iff.rfl
      ·
        refine (G_iconst (mF fc328 (by rfl))).trans ?_
        exact G_ireturnZ rfl (mF fc328 (by rfl))
    ·
      refine gi ?_ ?_
      ·
        refine (G_aload rfl (mF fc328 (by rfl))).trans ?_
        refine (G_aload rfl (mF fc328 (by rfl))).trans ?_
        refine (G_iload rfl (mF fc328 (by rfl))).trans ?_
        refine (G_iconst (mF fc328 (by rfl))).trans ?_
        refine (G_iadd (mF fc328 (by rfl))).trans ?_
        refine (G_iaload (mF fc328 (by rfl))).trans (andR ?_)
        refine (G_Vi (q := 69810) (y := 136) (a := a1) (c := 11) rfl rfl rfl rfl (by decide) rfl (as := [.ref a1, .int (eI h a0 (x3 + (ii 1)))]) (rest := []) rfl rfl (mF fc328 (by rfl))).trans (andR (GoCi_congr fun v3 h3 => ?_))
        refine (G_aload rfl (mF fc328 (by rfl))).trans ?_
        refine (G_aload rfl (mF fc328 (by rfl))).trans ?_
        refine (G_iload rfl (mF fc328 (by rfl))).trans ?_
        refine (G_iconst (mF fc328 (by rfl))).trans ?_
        refine (G_iadd (mF fc328 (by rfl))).trans ?_
        refine (G_iaload (mF fc328 (by rfl))).trans (andR ?_)
        refine (G_Vi (q := 100034) (y := 195) (a := a2) (c := 12) rfl rfl rfl rfl (by decide) rfl (as := [.ref a2, .int (eI h3 a0 (x3 + (ii 1)))]) (rest := [.int v3]) rfl rfl (mF fc328 (by rfl))).trans (andR (GoCi_congr fun v4 h4 => ?_))
        refine (G_ieq (mF fc328 (by rfl))).trans (gi ?_ ?_)
        ·
          exact Iff.rfl
        ·
          refine (G_iconst (mF fc328 (by rfl))).trans ?_
          exact G_ireturnZ rfl (mF fc328 (by rfl))
      ·
        refine gi ?_ ?_
        ·
          refine (G_aload rfl (mF fc328 (by rfl))).trans ?_
          refine (G_Vi (q := 70321) (y := 137) (a := a1) (c := 11) rfl rfl rfl rfl (by decide) rfl (as := [.ref a1]) (rest := []) rfl rfl (mF fc328 (by rfl))).trans (andR (GoCi_congr fun v5 h5 => ?_))
          refine (G_aload rfl (mF fc328 (by rfl))).trans ?_
          refine (G_Vi (q := 115905) (y := 226) (a := a2) (c := 12) rfl rfl rfl rfl (by decide) rfl (as := [.ref a2]) (rest := [.int v5]) rfl rfl (mF fc328 (by rfl))).trans (andR (GoCi_congr fun v6 h6 => ?_))
          refine (G_ieq (mF fc328 (by rfl))).trans (gi ?_ ?_)
          ·
            exact Iff.rfl
          ·
            refine (G_iconst (mF fc328 (by rfl))).trans ?_
            exact G_ireturnZ rfl (mF fc328 (by rfl))
        ·
          refine gi ?_ ?_
          ·
            refine (G_aload rfl (mF fc328 (by rfl))).trans ?_
            refine (G_Vi (q := 70833) (y := 138) (a := a1) (c := 11) rfl rfl rfl rfl (by decide) rfl (as := [.ref a1]) (rest := []) rfl rfl (mF fc328 (by rfl))).trans (andR (GoCi_congr fun v7 h7 => ?_))
            refine (G_aload rfl (mF fc328 (by rfl))).trans ?_
            refine (G_Vi (q := 121537) (y := 237) (a := a2) (c := 12) rfl rfl rfl rfl (by decide) rfl (as := [.ref a2]) (rest := [.int v7]) rfl rfl (mF fc328 (by rfl))).trans (andR (GoCi_congr fun v8 h8 => ?_))
            refine (G_ieq (mF fc328 (by rfl))).trans (gi ?_ ?_)
            ·
              exact Iff.rfl
            ·
              refine (G_iconst (mF fc328 (by rfl))).trans ?_
              exact G_ireturnZ rfl (mF fc328 (by rfl))
          ·
            refine gi ?_ ?_
            ·
              refine (G_aload rfl (mF fc328 (by rfl))).trans ?_
              refine (G_Vi (q := 71345) (y := 139) (a := a1) (c := 11) rfl rfl rfl rfl (by decide) rfl (as := [.ref a1]) (rest := []) rfl rfl (mF fc328 (by rfl))).trans (andR (GoCi_congr fun v9 h9 => ?_))
              refine (G_aload rfl (mF fc328 (by rfl))).trans ?_
              refine (G_Vi (q := 122561) (y := 239) (a := a2) (c := 12) rfl rfl rfl rfl (by decide) rfl (as := [.ref a2]) (rest := [.int v9]) rfl rfl (mF fc328 (by rfl))).trans (andR (GoCi_congr fun v10 h10 => ?_))
              refine (G_ieq (mF fc328 (by rfl))).trans (gi ?_ ?_)
              ·
                exact Iff.rfl
              ·
                refine (G_iconst (mF fc328 (by rfl))).trans ?_
                exact G_ireturnZ rfl (mF fc328 (by rfl))
            ·
              refine gi ?_ ?_
              ·
                refine (G_aload rfl (mF fc328 (by rfl))).trans ?_
                refine (G_aload rfl (mF fc328 (by rfl))).trans ?_
                refine (G_iload rfl (mF fc328 (by rfl))).trans ?_
                refine (G_iconst (mF fc328 (by rfl))).trans ?_
                refine (G_iadd (mF fc328 (by rfl))).trans ?_
                refine (G_iaload (mF fc328 (by rfl))).trans (andR ?_)
                refine (G_aload rfl (mF fc328 (by rfl))).trans ?_
                refine (G_iload rfl (mF fc328 (by rfl))).trans ?_
                refine (G_iconst (mF fc328 (by rfl))).trans ?_
                refine (G_iadd (mF fc328 (by rfl))).trans ?_
                refine (G_iaload (mF fc328 (by rfl))).trans (andR ?_)
                refine (G_Vi (q := 71859) (y := 140) (a := a1) (c := 11) rfl rfl rfl rfl (by decide) rfl (as := [.ref a1, .int (eI h a0 (x3 + (ii 1))), .int (eI h a0 (x3 + (ii 2)))]) (rest := []) rfl rfl (mF fc328 (by rfl))).trans (andR (GoCi_congr fun v11 h11 => ?_))
                refine (G_aload rfl (mF fc328 (by rfl))).trans ?_
                refine (G_aload rfl (mF fc328 (by rfl))).trans ?_
                refine (G_iload rfl (mF fc328 (by rfl))).trans ?_
                refine (G_iconst (mF fc328 (by rfl))).trans ?_
                refine (G_iadd (mF fc328 (by rfl))).trans ?_
                refine (G_iaload (mF fc328 (by rfl))).trans (andR ?_)
                refine (G_aload rfl (mF fc328 (by rfl))).trans ?_
                refine (G_iload rfl (mF fc328 (by rfl))).trans ?_
                refine (G_iconst (mF fc328 (by rfl))).trans ?_
                refine (G_iadd (mF fc328 (by rfl))).trans ?_
                refine (G_iaload (mF fc328 (by rfl))).trans (andR ?_)
                refine (G_Vi (q := 130243) (y := 254) (a := a2) (c := 12) rfl rfl rfl rfl (by decide) rfl (as := [.ref a2, .int (eI h11 a0 (x3 + (ii 1))), .int (eI h11 a0 (x3 + (ii 2)))]) (rest := [.int v11]) rfl rfl (mF fc328 (by rfl))).trans (andR (GoCi_congr fun v12 h12 => ?_))
                refine (G_ieq (mF fc328 (by rfl))).trans (gi ?_ ?_)
                ·
                  exact Iff.rfl
                ·
                  refine (G_iconst (mF fc328 (by rfl))).trans ?_
                  exact G_ireturnZ rfl (mF fc328 (by rfl))
              ·
                refine gi ?_ ?_
                ·
                  refine (G_aload rfl (mF fc328 (by rfl))).trans ?_
                  refine (G_aload rfl (mF fc328 (by rfl))).trans ?_
                  refine (G_iload rfl (mF fc328 (by rfl))).trans ?_
                  refine (G_iconst (mF fc328 (by rfl))).trans ?_
                  refine (G_iadd (mF fc328 (by rfl))).trans ?_
                  refine (G_iaload (mF fc328 (by rfl))).trans (andR ?_)
                  refine (G_Vi (q := 72370) (y := 141) (a := a1) (c := 11) rfl rfl rfl rfl (by decide) rfl (as := [.ref a1, .int (eI h a0 (x3 + (ii 1)))]) (rest := []) rfl rfl (mF fc328 (by rfl))).trans (andR (GoCi_congr fun v13 h13 => ?_))
                  refine (G_aload rfl (mF fc328 (by rfl))).trans ?_
                  refine (G_aload rfl (mF fc328 (by rfl))).trans ?_
                  refine (G_iload rfl (mF fc328 (by rfl))).trans ?_
                  refine (G_iconst (mF fc328 (by rfl))).trans ?_
                  refine (G_iadd (mF fc328 (by rfl))).trans ?_
                  refine (G_iaload (mF fc328 (by rfl))).trans (andR ?_)
                  refine (G_Vi (q := 130754) (y := 255) (a := a2) (c := 12) rfl rfl rfl rfl (by decide) rfl (as := [.ref a2, .int (eI h13 a0 (x3 + (ii 1)))]) (rest := [.int v13]) rfl rfl (mF fc328 (by rfl))).trans (andR (GoCi_congr fun v14 h14 => ?_))
                  refine (G_ieq (mF fc328 (by rfl))).trans (gi ?_ ?_)
                  ·
                    exact Iff.rfl
                  ·
                    refine (G_iconst (mF fc328 (by rfl))).trans ?_
                    exact G_ireturnZ rfl (mF fc328 (by rfl))
                ·
                  refine gi ?_ ?_
                  ·
                    refine (G_aload rfl (mF fc328 (by rfl))).trans ?_
                    refine (G_aload rfl (mF fc328 (by rfl))).trans ?_
                    refine (G_iload rfl (mF fc328 (by rfl))).trans ?_
                    refine (G_iconst (mF fc328 (by rfl))).trans ?_
                    refine (G_iadd (mF fc328 (by rfl))).trans ?_
                    refine (G_iaload (mF fc328 (by rfl))).trans (andR ?_)
                    refine (G_Vi (q := 72882) (y := 142) (a := a1) (c := 11) rfl rfl rfl rfl (by decide) rfl (as := [.ref a1, .int (eI h a0 (x3 + (ii 1)))]) (rest := []) rfl rfl (mF fc328 (by rfl))).trans (andR (GoCi_congr fun v15 h15 => ?_))
                    refine (G_aload rfl (mF fc328 (by rfl))).trans ?_
                    refine (G_aload rfl (mF fc328 (by rfl))).trans ?_
                    refine (G_iload rfl (mF fc328 (by rfl))).trans ?_
                    refine (G_iconst (mF fc328 (by rfl))).trans ?_
                    refine (G_iadd (mF fc328 (by rfl))).trans ?_
                    refine (G_iaload (mF fc328 (by rfl))).trans (andR ?_)
                    refine (G_Vi (q := 131266) (y := 256) (a := a2) (c := 12) rfl rfl rfl rfl (by decide) rfl (as := [.ref a2, .int (eI h15 a0 (x3 + (ii 1)))]) (rest := [.int v15]) rfl rfl (mF fc328 (by rfl))).trans (andR (GoCi_congr fun v16 h16 => ?_))
                    refine (G_ieq (mF fc328 (by rfl))).trans (gi ?_ ?_)
                    ·
                      exact Iff.rfl
                    ·
                      refine (G_iconst (mF fc328 (by rfl))).trans ?_
                      exact G_ireturnZ rfl (mF fc328 (by rfl))
                  ·
                    refine gi ?_ ?_
                    ·
                      refine (G_aload rfl (mF fc328 (by rfl))).trans ?_
                      refine (G_aload rfl (mF fc328 (by rfl))).trans ?_
                      refine (G_iload rfl (mF fc328 (by rfl))).trans ?_
                      refine (G_iconst (mF fc328 (by rfl))).trans ?_
                      refine (G_iadd (mF fc328 (by rfl))).trans ?_
                      refine (G_iaload (mF fc328 (by rfl))).trans (andR ?_)
                      refine (G_aload rfl (mF fc328 (by rfl))).trans ?_
                      refine (G_iload rfl (mF fc328 (by rfl))).trans ?_
                      refine (G_iconst (mF fc328 (by rfl))).trans ?_
                      refine (G_iadd (mF fc328 (by rfl))).trans ?_
                      refine (G_iaload (mF fc328 (by rfl))).trans (andR ?_)
                      refine (G_Vi (q := 73395) (y := 143) (a := a1) (c := 11) rfl rfl rfl rfl (by decide) rfl (as := [.ref a1, .int (eI h a0 (x3 + (ii 1))), .int (eI h a0 (x3 + (ii 2)))]) (rest := []) rfl rfl (mF fc328 (by rfl))).trans (andR (GoCi_congr fun v17 h17 => ?_))
                      refine (G_aload rfl (mF fc328 (by rfl))).trans ?_
                      refine (G_aload rfl (mF fc328 (by rfl))).trans ?_
                      refine (G_iload rfl (mF fc328 (by rfl))).trans ?_
                      refine (G_iconst (mF fc328 (by rfl))).trans ?_
                      refine (G_iadd (mF fc328 (by rfl))).trans ?_
                      refine (G_iaload (mF fc328 (by rfl))).trans (andR ?_)
                      refine (G_aload rfl (mF fc328 (by rfl))).trans ?_
                      refine (G_iload rfl (mF fc328 (by rfl))).trans ?_
                      refine (G_iconst (mF fc328 (by rfl))).trans ?_
                      refine (G_iadd (mF fc328 (by rfl))).trans ?_
                      refine (G_iaload (mF fc328 (by rfl))).trans (andR ?_)
                      refine (G_Vi (q := 132803) (y := 259) (a := a2) (c := 12) rfl rfl rfl rfl (by decide) rfl (as := [.ref a2, .int (eI h17 a0 (x3 + (ii 1))), .int (eI h17 a0 (x3 + (ii 2)))]) (rest := [.int v17]) rfl rfl (mF fc328 (by rfl))).trans (andR (GoCi_congr fun v18 h18 => ?_))
                      refine (G_ieq (mF fc328 (by rfl))).trans (gi ?_ ?_)
                      ·
                        exact Iff.rfl
                      ·
                        refine (G_iconst (mF fc328 (by rfl))).trans ?_
                        exact G_ireturnZ rfl (mF fc328 (by rfl))
                    ·
                      refine gi ?_ ?_
                      ·
                        refine (G_aload rfl (mF fc328 (by rfl))).trans ?_
                        refine (G_aload rfl (mF fc328 (by rfl))).trans ?_
                        refine (G_iload rfl (mF fc328 (by rfl))).trans ?_
                        refine (G_iconst (mF fc328 (by rfl))).trans ?_
                        refine (G_iadd (mF fc328 (by rfl))).trans ?_
                        refine (G_iaload (mF fc328 (by rfl))).trans (andR ?_)
                        refine (G_aload rfl (mF fc328 (by rfl))).trans ?_
                        refine (G_iload rfl (mF fc328 (by rfl))).trans ?_
                        refine (G_iconst (mF fc328 (by rfl))).trans ?_
                        refine (G_iadd (mF fc328 (by rfl))).trans ?_
                        refine (G_iaload (mF fc328 (by rfl))).trans (andR ?_)
                        refine (G_Vi (q := 73907) (y := 144) (a := a1) (c := 11) rfl rfl rfl rfl (by decide) rfl (as := [.ref a1, .int (eI h a0 (x3 + (ii 1))), .int (eI h a0 (x3 + (ii 2)))]) (rest := []) rfl rfl (mF fc328 (by rfl))).trans (andR (GoCi_congr fun v19 h19 => ?_))
                        refine (G_aload rfl (mF fc328 (by rfl))).trans ?_
                        refine (G_aload rfl (mF fc328 (by rfl))).trans ?_
                        refine (G_iload rfl (mF fc328 (by rfl))).trans ?_
                        refine (G_iconst (mF fc328 (by rfl))).trans ?_
                        refine (G_iadd (mF fc328 (by rfl))).trans ?_
                        refine (G_iaload (mF fc328 (by rfl))).trans (andR ?_)
                        refine (G_aload rfl (mF fc328 (by rfl))).trans ?_
                        refine (G_iload rfl (mF fc328 (by rfl))).trans ?_
                        refine (G_iconst (mF fc328 (by rfl))).trans ?_
                        refine (G_iadd (mF fc328 (by rfl))).trans ?_
                        refine (G_iaload (mF fc328 (by rfl))).trans (andR ?_)
                        refine (G_Vi (q := 133315) (y := 260) (a := a2) (c := 12) rfl rfl rfl rfl (by decide) rfl (as := [.ref a2, .int (eI h19 a0 (x3 + (ii 1))), .int (eI h19 a0 (x3 + (ii 2)))]) (rest := [.int v19]) rfl rfl (mF fc328 (by rfl))).trans (andR (GoCi_congr fun v20 h20 => ?_))
                        refine (G_ieq (mF fc328 (by rfl))).trans (gi ?_ ?_)
                        ·
                          exact Iff.rfl
                        ·
                          refine (G_iconst (mF fc328 (by rfl))).trans ?_
                          exact G_ireturnZ rfl (mF fc328 (by rfl))
                      ·
                        refine gi ?_ ?_
                        ·
                          refine (G_aload rfl (mF fc328 (by rfl))).trans ?_
                          refine (G_aload rfl (mF fc328 (by rfl))).trans ?_
                          refine (G_iload rfl (mF fc328 (by rfl))).trans ?_
                          refine (G_iconst (mF fc328 (by rfl))).trans ?_
                          refine (G_iadd (mF fc328 (by rfl))).trans ?_
                          refine (G_iaload (mF fc328 (by rfl))).trans (andR ?_)
                          refine (G_Vi (q := 74418) (y := 145) (a := a1) (c := 11) rfl rfl rfl rfl (by decide) rfl (as := [.ref a1, .int (eI h a0 (x3 + (ii 1)))]) (rest := []) rfl rfl (mF fc328 (by rfl))).trans (andR (GoCi_congr fun v21 h21 => ?_))
                          refine (G_aload rfl (mF fc328 (by rfl))).trans ?_
                          refine (G_aload rfl (mF fc328 (by rfl))).trans ?_
                          refine (G_iload rfl (mF fc328 (by rfl))).trans ?_
                          refine (G_iconst (mF fc328 (by rfl))).trans ?_
                          refine (G_iadd (mF fc328 (by rfl))).trans ?_
                          refine (G_iaload (mF fc328 (by rfl))).trans (andR ?_)
                          refine (G_Vi (q := 133826) (y := 261) (a := a2) (c := 12) rfl rfl rfl rfl (by decide) rfl (as := [.ref a2, .int (eI h21 a0 (x3 + (ii 1)))]) (rest := [.int v21]) rfl rfl (mF fc328 (by rfl))).trans (andR (GoCi_congr fun v22 h22 => ?_))
                          refine (G_ieq (mF fc328 (by rfl))).trans (gi ?_ ?_)
                          ·
                            exact Iff.rfl
                          ·
                            refine (G_iconst (mF fc328 (by rfl))).trans ?_
                            exact G_ireturnZ rfl (mF fc328 (by rfl))
                        ·
                          refine gi ?_ ?_
                          ·
                            refine (G_aload rfl (mF fc328 (by rfl))).trans ?_
                            refine (G_aload rfl (mF fc328 (by rfl))).trans ?_
                            refine (G_iload rfl (mF fc328 (by rfl))).trans ?_
                            refine (G_iconst (mF fc328 (by rfl))).trans ?_
                            refine (G_iadd (mF fc328 (by rfl))).trans ?_
                            refine (G_iaload (mF fc328 (by rfl))).trans (andR ?_)
                            refine (G_aload rfl (mF fc328 (by rfl))).trans ?_
                            refine (G_iload rfl (mF fc328 (by rfl))).trans ?_
                            refine (G_iconst (mF fc328 (by rfl))).trans ?_
                            refine (G_iadd (mF fc328 (by rfl))).trans ?_
                            refine (G_iaload (mF fc328 (by rfl))).trans (andR ?_)
                            refine (G_Vi (q := 74931) (y := 146) (a := a1) (c := 11) rfl rfl rfl rfl (by decide) rfl (as := [.ref a1, .int (eI h a0 (x3 + (ii 1))), .int (eI h a0 (x3 + (ii 2)))]) (rest := []) rfl rfl (mF fc328 (by rfl))).trans (andR (GoCi_congr fun v23 h23 => ?_))
                            refine (G_aload rfl (mF fc328 (by rfl))).trans ?_
                            refine (G_aload rfl (mF fc328 (by rfl))).trans ?_
                            refine (G_iload rfl (mF fc328 (by rfl))).trans ?_
                            refine (G_iconst (mF fc328 (by rfl))).trans ?_
                            refine (G_iadd (mF fc328 (by rfl))).trans ?_
                            refine (G_iaload (mF fc328 (by rfl))).trans (andR ?_)
                            refine (G_aload rfl (mF fc328 (by rfl))).trans ?_
                            refine (G_iload rfl (mF fc328 (by rfl))).trans ?_
                            refine (G_iconst (mF fc328 (by rfl))).trans ?_
                            refine (G_iadd (mF fc328 (by rfl))).trans ?_
                            refine (G_iaload (mF fc328 (by rfl))).trans (andR ?_)
                            refine (G_Vi (q := 134851) (y := 263) (a := a2) (c := 12) rfl rfl rfl rfl (by decide) rfl (as := [.ref a2, .int (eI h23 a0 (x3 + (ii 1))), .int (eI h23 a0 (x3 + (ii 2)))]) (rest := [.int v23]) rfl rfl (mF fc328 (by rfl))).trans (andR (GoCi_congr fun v24 h24 => ?_))
                            refine (G_ieq (mF fc328 (by rfl))).trans (gi ?_ ?_)
                            ·
                              exact Iff.rfl
                            ·
                              refine (G_iconst (mF fc328 (by rfl))).trans ?_
                              exact G_ireturnZ rfl (mF fc328 (by rfl))
                          ·
                            refine gi ?_ ?_
                            ·
                              refine (G_aload rfl (mF fc328 (by rfl))).trans ?_
                              refine (G_aload rfl (mF fc328 (by rfl))).trans ?_
                              refine (G_iload rfl (mF fc328 (by rfl))).trans ?_
                              refine (G_iconst (mF fc328 (by rfl))).trans ?_
                              refine (G_iadd (mF fc328 (by rfl))).trans ?_
                              refine (G_iaload (mF fc328 (by rfl))).trans (andR ?_)
                              refine (G_aload rfl (mF fc328 (by rfl))).trans ?_
                              refine (G_iload rfl (mF fc328 (by rfl))).trans ?_
                              refine (G_iconst (mF fc328 (by rfl))).trans ?_
                              refine (G_iadd (mF fc328 (by rfl))).trans ?_
                              refine (G_iaload (mF fc328 (by rfl))).trans (andR ?_)
                              refine (G_Vi (q := 75443) (y := 147) (a := a1) (c := 11) rfl rfl rfl rfl (by decide) rfl (as := [.ref a1, .int (eI h a0 (x3 + (ii 1))), .int (eI h a0 (x3 + (ii 2)))]) (rest := []) rfl rfl (mF fc328 (by rfl))).trans (andR (GoCi_congr fun v25 h25 => ?_))
                              refine (G_aload rfl (mF fc328 (by rfl))).trans ?_
                              refine (G_aload rfl (mF fc328 (by rfl))).trans ?_
                              refine (G_iload rfl (mF fc328 (by rfl))).trans ?_
                              refine (G_iconst (mF fc328 (by rfl))).trans ?_
                              refine (G_iadd (mF fc328 (by rfl))).trans ?_
                              refine (G_iaload (mF fc328 (by rfl))).trans (andR ?_)
                              refine (G_aload rfl (mF fc328 (by rfl))).trans ?_
                              refine (G_iload rfl (mF fc328 (by rfl))).trans ?_
                              refine (G_iconst (mF fc328 (by rfl))).trans ?_
                              refine (G_iadd (mF fc328 (by rfl))).trans ?_
                              refine (G_iaload (mF fc328 (by rfl))).trans (andR ?_)
                              refine (G_Vi (q := 135363) (y := 264) (a := a2) (c := 12) rfl rfl rfl rfl (by decide) rfl (as := [.ref a2, .int (eI h25 a0 (x3 + (ii 1))), .int (eI h25 a0 (x3 + (ii 2)))]) (rest := [.int v25]) rfl rfl (mF fc328 (by rfl))).trans (andR (GoCi_congr fun v26 h26 => ?_))
                              refine (G_ieq (mF fc328 (by rfl))).trans (gi ?_ ?_)
                              ·
                                exact Iff.rfl
                              ·
                                refine (G_iconst (mF fc328 (by rfl))).trans ?_
                                exact G_ireturnZ rfl (mF fc328 (by rfl))
                            ·
                              refine gi ?_ ?_
                              ·
                                refine (G_aload rfl (mF fc328 (by rfl))).trans ?_
                                refine (G_aload rfl (mF fc328 (by rfl))).trans ?_
                                refine (G_iload rfl (mF fc328 (by rfl))).trans ?_
                                refine (G_iconst (mF fc328 (by rfl))).trans ?_
                                refine (G_iadd (mF fc328 (by rfl))).trans ?_
                                refine (G_iaload (mF fc328 (by rfl))).trans (andR ?_)
                                refine (G_Vi (q := 75954) (y := 148) (a := a1) (c := 11) rfl rfl rfl rfl (by decide) rfl (as := [.ref a1, .int (eI h a0 (x3 + (ii 1)))]) (rest := []) rfl rfl (mF fc328 (by rfl))).trans (andR (GoCi_congr fun v27 h27 => ?_))
                                refine (G_aload rfl (mF fc328 (by rfl))).trans ?_
                                refine (G_aload rfl (mF fc328 (by rfl))).trans ?_
                                refine (G_iload rfl (mF fc328 (by rfl))).trans ?_
                                refine (G_iconst (mF fc328 (by rfl))).trans ?_
                                refine (G_iadd (mF fc328 (by rfl))).trans ?_
                                refine (G_iaload (mF fc328 (by rfl))).trans (andR ?_)
                                refine (G_Vi (q := 135874) (y := 265) (a := a2) (c := 12) rfl rfl rfl rfl (by decide) rfl (as := [.ref a2, .int (eI h27 a0 (x3 + (ii 1)))]) (rest := [.int v27]) rfl rfl (mF fc328 (by rfl))).trans (andR (GoCi_congr fun v28 h28 => ?_))
                                refine (G_ieq (mF fc328 (by rfl))).trans (gi ?_ ?_)
                                ·
                                  exact Iff.rfl
                                ·
                                  refine (G_iconst (mF fc328 (by rfl))).trans ?_
                                  exact G_ireturnZ rfl (mF fc328 (by rfl))
                              ·
                                refine gi ?_ ?_
                                ·
                                  refine (G_aload rfl (mF fc328 (by rfl))).trans ?_
                                  refine (G_aload rfl (mF fc328 (by rfl))).trans ?_
                                  refine (G_iload rfl (mF fc328 (by rfl))).trans ?_
                                  refine (G_iconst (mF fc328 (by rfl))).trans ?_
                                  refine (G_iadd (mF fc328 (by rfl))).trans ?_
                                  refine (G_iaload (mF fc328 (by rfl))).trans (andR ?_)
                                  refine (G_Vi (q := 76466) (y := 149) (a := a1) (c := 11) rfl rfl rfl rfl (by decide) rfl (as := [.ref a1, .int (eI h a0 (x3 + (ii 1)))]) (rest := []) rfl rfl (mF fc328 (by rfl))).trans (andR (GoCi_congr fun v29 h29 => ?_))
                                  refine (G_aload rfl (mF fc328 (by rfl))).trans ?_
                                  refine (G_aload rfl (mF fc328 (by rfl))).trans ?_
                                  refine (G_iload rfl (mF fc328 (by rfl))).trans ?_
                                  refine (G_iconst (mF fc328 (by rfl))).trans ?_
                                  refine (G_iadd (mF fc328 (by rfl))).trans ?_
                                  refine (G_iaload (mF fc328 (by rfl))).trans (andR ?_)
                                  refine (G_Vi (q := 136386) (y := 266) (a := a2) (c := 12) rfl rfl rfl rfl (by decide) rfl (as := [.ref a2, .int (eI h29 a0 (x3 + (ii 1)))]) (rest := [.int v29]) rfl rfl (mF fc328 (by rfl))).trans (andR (GoCi_congr fun v30 h30 => ?_))
                                  refine (G_ieq (mF fc328 (by rfl))).trans (gi ?_ ?_)
                                  ·
                                    exact Iff.rfl
                                  ·
                                    refine (G_iconst (mF fc328 (by rfl))).trans ?_
                                    exact G_ireturnZ rfl (mF fc328 (by rfl))
                                ·
                                  refine gi ?_ ?_
                                  ·
                                    refine (G_aload rfl (mF fc328 (by rfl))).trans ?_
                                    refine (G_aload rfl (mF fc328 (by rfl))).trans ?_
                                    refine (G_iload rfl (mF fc328 (by rfl))).trans ?_
                                    refine (G_iconst (mF fc328 (by rfl))).trans ?_
                                    refine (G_iadd (mF fc328 (by rfl))).trans ?_
                                    refine (G_iaload (mF fc328 (by rfl))).trans (andR ?_)
                                    refine (G_aload rfl (mF fc328 (by rfl))).trans ?_
                                    refine (G_iload rfl (mF fc328 (by rfl))).trans ?_
                                    refine (G_iconst (mF fc328 (by rfl))).trans ?_
                                    refine (G_iadd (mF fc328 (by rfl))).trans ?_
                                    refine (G_iaload (mF fc328 (by rfl))).trans (andR ?_)
                                    refine (G_Vi (q := 76979) (y := 150) (a := a1) (c := 11) rfl rfl rfl rfl (by decide) rfl (as := [.ref a1, .int (eI h a0 (x3 + (ii 1))), .int (eI h a0 (x3 + (ii 2)))]) (rest := []) rfl rfl (mF fc328 (by rfl))).trans (andR (GoCi_congr fun v31 h31 => ?_))
                                    refine (G_aload rfl (mF fc328 (by rfl))).trans ?_
                                    refine (G_aload rfl (mF fc328 (by rfl))).trans ?_
                                    refine (G_iload rfl (mF fc328 (by rfl))).trans ?_
                                    refine (G_iconst (mF fc328 (by rfl))).trans ?_
                                    refine (G_iadd (mF fc328 (by rfl))).trans ?_
                                    refine (G_iaload (mF fc328 (by rfl))).trans (andR ?_)
                                    refine (G_aload rfl (mF fc328 (by rfl))).trans ?_
                                    refine (G_iload rfl (mF fc328 (by rfl))).trans ?_
                                    refine (G_iconst (mF fc328 (by rfl))).trans ?_
                                    refine (G_iadd (mF fc328 (by rfl))).trans ?_
                                    refine (G_iaload (mF fc328 (by rfl))).trans (andR ?_)
                                    refine (G_Vi (q := 139971) (y := 273) (a := a2) (c := 12) rfl rfl rfl rfl (by decide) rfl (as := [.ref a2, .int (eI h31 a0 (x3 + (ii 1))), .int (eI h31 a0 (x3 + (ii 2)))]) (rest := [.int v31]) rfl rfl (mF fc328 (by rfl))).trans (andR (GoCi_congr fun v32 h32 => ?_))
                                    refine (G_ieq (mF fc328 (by rfl))).trans (gi ?_ ?_)
                                    ·
                                      exact Iff.rfl
                                    ·
                                      refine (G_iconst (mF fc328 (by rfl))).trans ?_
                                      exact G_ireturnZ rfl (mF fc328 (by rfl))
                                  ·
                                    refine gi ?_ ?_
                                    ·
                                      refine (G_aload rfl (mF fc328 (by rfl))).trans ?_
                                      refine (G_aload rfl (mF fc328 (by rfl))).trans ?_
                                      refine (G_iload rfl (mF fc328 (by rfl))).trans ?_
                                      refine (G_iconst (mF fc328 (by rfl))).trans ?_
                                      refine (G_iadd (mF fc328 (by rfl))).trans ?_
                                      refine (G_iaload (mF fc328 (by rfl))).trans (andR ?_)
                                      refine (G_aload rfl (mF fc328 (by rfl))).trans ?_
                                      refine (G_iload rfl (mF fc328 (by rfl))).trans ?_
                                      refine (G_iconst (mF fc328 (by rfl))).trans ?_
                                      refine (G_iadd (mF fc328 (by rfl))).trans ?_
                                      refine (G_iaload (mF fc328 (by rfl))).trans (andR ?_)
                                      refine (G_aload rfl (mF fc328 (by rfl))).trans ?_
                                      refine (G_iload rfl (mF fc328 (by rfl))).trans ?_
                                      refine (G_iconst (mF fc328 (by rfl))).trans ?_
                                      refine (G_iadd (mF fc328 (by rfl))).trans ?_
                                      refine (G_iaload (mF fc328 (by rfl))).trans (andR ?_)
                                      refine (G_Vi (q := 77492) (y := 151) (a := a1) (c := 11) rfl rfl rfl rfl (by decide) rfl (as := [.ref a1, .int (eI h a0 (x3 + (ii 1))), .int (eI h a0 (x3 + (ii 2))), .int (eI h a0 (x3 + (ii 3)))]) (rest := []) rfl rfl (mF fc328 (by rfl))).trans (andR (GoCi_congr fun v33 h33 => ?_))
                                      refine (G_aload rfl (mF fc328 (by rfl))).trans ?_
                                      refine (G_aload rfl (mF fc328 (by rfl))).trans ?_
                                      refine (G_iload rfl (mF fc328 (by rfl))).trans ?_
                                      refine (G_iconst (mF fc328 (by rfl))).trans ?_
                                      refine (G_iadd (mF fc328 (by rfl))).trans ?_
                                      refine (G_iaload (mF fc328 (by rfl))).trans (andR ?_)
                                      refine (G_aload rfl (mF fc328 (by rfl))).trans ?_
                                      refine (G_iload rfl (mF fc328 (by rfl))).trans ?_
                                      refine (G_iconst (mF fc328 (by rfl))).trans ?_
                                      refine (G_iadd (mF fc328 (by rfl))).trans ?_
                                      refine (G_iaload (mF fc328 (by rfl))).trans (andR ?_)
                                      refine (G_aload rfl (mF fc328 (by rfl))).trans ?_
                                      refine (G_iload rfl (mF fc328 (by rfl))).trans ?_
                                      refine (G_iconst (mF fc328 (by rfl))).trans ?_
                                      refine (G_iadd (mF fc328 (by rfl))).trans ?_
                                      refine (G_iaload (mF fc328 (by rfl))).trans (andR ?_)
                                      refine (G_Vi (q := 140484) (y := 274) (a := a2) (c := 12) rfl rfl rfl rfl (by decide) rfl (as := [.ref a2, .int (eI h33 a0 (x3 + (ii 1))), .int (eI h33 a0 (x3 + (ii 2))), .int (eI h33 a0 (x3 + (ii 3)))]) (rest := [.int v33]) rfl rfl (mF fc328 (by rfl))).trans (andR (GoCi_congr fun v34 h34 => ?_))
                                      refine (G_ieq (mF fc328 (by rfl))).trans (gi ?_ ?_)
                                      ·
                                        exact Iff.rfl
                                      ·
                                        refine (G_iconst (mF fc328 (by rfl))).trans ?_
                                        exact G_ireturnZ rfl (mF fc328 (by rfl))
                                    ·
                                      refine gi ?_ ?_
                                      ·
                                        refine (G_aload rfl (mF fc328 (by rfl))).trans ?_
                                        refine (G_aload rfl (mF fc328 (by rfl))).trans ?_
                                        refine (G_iload rfl (mF fc328 (by rfl))).trans ?_
                                        refine (G_iconst (mF fc328 (by rfl))).trans ?_
                                        refine (G_iadd (mF fc328 (by rfl))).trans ?_
                                        refine (G_iaload (mF fc328 (by rfl))).trans (andR ?_)
                                        refine (G_aload rfl (mF fc328 (by rfl))).trans ?_
                                        refine (G_iload rfl (mF fc328 (by rfl))).trans ?_
                                        refine (G_iconst (mF fc328 (by rfl))).trans ?_
                                        refine (G_iadd (mF fc328 (by rfl))).trans ?_
                                        refine (G_iaload (mF fc328 (by rfl))).trans (andR ?_)
                                        refine (G_Vi (q := 78003) (y := 152) (a := a1) (c := 11) rfl rfl rfl rfl (by decide) rfl (as := [.ref a1, .int (eI h a0 (x3 + (ii 1))), .int (eI h a0 (x3 + (ii 2)))]) (rest := []) rfl rfl (mF fc328 (by rfl))).trans (andR (GoCi_congr fun v35 h35 => ?_))
                                        refine (G_aload rfl (mF fc328 (by rfl))).trans ?_
                                        refine (G_aload rfl (mF fc328 (by rfl))).trans ?_
                                        refine (G_iload rfl (mF fc328 (by rfl))).trans ?_
                                        refine (G_iconst (mF fc328 (by rfl))).trans ?_
                                        refine (G_iadd (mF fc328 (by rfl))).trans ?_
                                        refine (G_iaload (mF fc328 (by rfl))).trans (andR ?_)
                                        refine (G_aload rfl (mF fc328 (by rfl))).trans ?_
                                        refine (G_iload rfl (mF fc328 (by rfl))).trans ?_
                                        refine (G_iconst (mF fc328 (by rfl))).trans ?_
                                        refine (G_iadd (mF fc328 (by rfl))).trans ?_
                                        refine (G_iaload (mF fc328 (by rfl))).trans (andR ?_)
                                        refine (G_Vi (q := 140995) (y := 275) (a := a2) (c := 12) rfl rfl rfl rfl (by decide) rfl (as := [.ref a2, .int (eI h35 a0 (x3 + (ii 1))), .int (eI h35 a0 (x3 + (ii 2)))]) (rest := [.int v35]) rfl rfl (mF fc328 (by rfl))).trans (andR (GoCi_congr fun v36 h36 => ?_))
                                        refine (G_ieq (mF fc328 (by rfl))).trans (gi ?_ ?_)
                                        ·
                                          exact Iff.rfl
                                        ·
                                          refine (G_iconst (mF fc328 (by rfl))).trans ?_
                                          exact G_ireturnZ rfl (mF fc328 (by rfl))
                                      ·
                                        refine gi ?_ ?_
                                        ·
                                          refine (G_aload rfl (mF fc328 (by rfl))).trans ?_
                                          refine (G_Vi (q := 78513) (y := 153) (a := a1) (c := 11) rfl rfl rfl rfl (by decide) rfl (as := [.ref a1]) (rest := []) rfl rfl (mF fc328 (by rfl))).trans (andR (GoCi_congr fun v37 h37 => ?_))
                                          refine (G_aload rfl (mF fc328 (by rfl))).trans ?_
                                          refine (G_Vi (q := 142529) (y := 278) (a := a2) (c := 12) rfl rfl rfl rfl (by decide) rfl (as := [.ref a2]) (rest := [.int v37]) rfl rfl (mF fc328 (by rfl))).trans (andR (GoCi_congr fun v38 h38 => ?_))
                                          refine (G_ieq (mF fc328 (by rfl))).trans (gi ?_ ?_)
                                          ·
                                            exact Iff.rfl
                                          ·
                                            refine (G_iconst (mF fc328 (by rfl))).trans ?_
                                            exact G_ireturnZ rfl (mF fc328 (by rfl))
                                        ·
                                          refine gi ?_ ?_
                                          ·
                                            refine (G_aload rfl (mF fc328 (by rfl))).trans ?_
                                            refine (G_Vi (q := 79025) (y := 154) (a := a1) (c := 11) rfl rfl rfl rfl (by decide) rfl (as := [.ref a1]) (rest := []) rfl rfl (mF fc328 (by rfl))).trans (andR (GoCi_congr fun v39 h39 => ?_))
                                            refine (G_aload rfl (mF fc328 (by rfl))).trans ?_
                                            refine (G_Vi (q := 138945) (y := 271) (a := a2) (c := 12) rfl rfl rfl rfl (by decide) rfl (as := [.ref a2]) (rest := [.int v39]) rfl rfl (mF fc328 (by rfl))).trans (andR (GoCi_congr fun v40 h40 => ?_))
                                            refine (G_ieq (mF fc328 (by rfl))).trans (gi ?_ ?_)
                                            ·
                                              exact Iff.rfl
                                            ·
                                              refine (G_iconst (mF fc328 (by rfl))).trans ?_
                                              exact G_ireturnZ rfl (mF fc328 (by rfl))
                                          ·
                                            refine gi ?_ ?_
                                            ·
                                              refine (G_aload rfl (mF fc328 (by rfl))).trans ?_
                                              refine (G_aload rfl (mF fc328 (by rfl))).trans ?_
                                              refine (G_iload rfl (mF fc328 (by rfl))).trans ?_
                                              refine (G_iconst (mF fc328 (by rfl))).trans ?_
                                              refine (G_iadd (mF fc328 (by rfl))).trans ?_
                                              refine (G_iaload (mF fc328 (by rfl))).trans (andR ?_)
                                              refine (G_aload rfl (mF fc328 (by rfl))).trans ?_
                                              refine (G_iload rfl (mF fc328 (by rfl))).trans ?_
                                              refine (G_iconst (mF fc328 (by rfl))).trans ?_
                                              refine (G_iadd (mF fc328 (by rfl))).trans ?_
                                              refine (G_iaload (mF fc328 (by rfl))).trans (andR ?_)
                                              refine (G_Vi (q := 79539) (y := 155) (a := a1) (c := 11) rfl rfl rfl rfl (by decide) rfl (as := [.ref a1, .int (eI h a0 (x3 + (ii 1))), .int (eI h a0 (x3 + (ii 2)))]) (rest := []) rfl rfl (mF fc328 (by rfl))).trans (andR (GoCi_congr fun v41 h41 => ?_))
                                              refine (G_aload rfl (mF fc328 (by rfl))).trans ?_
                                              refine (G_aload rfl (mF fc328 (by rfl))).trans ?_
                                              refine (G_iload rfl (mF fc328 (by rfl))).trans ?_
                                              refine (G_iconst (mF fc328 (by rfl))).trans ?_
                                              refine (G_iadd (mF fc328 (by rfl))).trans ?_
                                              refine (G_iaload (mF fc328 (by rfl))).trans (andR ?_)
                                              refine (G_aload rfl (mF fc328 (by rfl))).trans ?_
                                              refine (G_iload rfl (mF fc328 (by rfl))).trans ?_
                                              refine (G_iconst (mF fc328 (by rfl))).trans ?_
                                              refine (G_iadd (mF fc328 (by rfl))).trans ?_
                                              refine (G_iaload (mF fc328 (by rfl))).trans (andR ?_)
                                              refine (G_Vi (q := 144579) (y := 282) (a := a2) (c := 12) rfl rfl rfl rfl (by decide) rfl (as := [.ref a2, .int (eI h41 a0 (x3 + (ii 1))), .int (eI h41 a0 (x3 + (ii 2)))]) (rest := [.int v41]) rfl rfl (mF fc328 (by rfl))).trans (andR (GoCi_congr fun v42 h42 => ?_))
                                              refine (G_ieq (mF fc328 (by rfl))).trans (gi ?_ ?_)
                                              ·
                                                exact Iff.rfl
                                              ·
                                                refine (G_iconst (mF fc328 (by rfl))).trans ?_
                                                exact G_ireturnZ rfl (mF fc328 (by rfl))
                                            ·
                                              refine gi ?_ ?_
                                              ·
                                                refine (G_aload rfl (mF fc328 (by rfl))).trans ?_
                                                refine (G_aload rfl (mF fc328 (by rfl))).trans ?_
                                                refine (G_iload rfl (mF fc328 (by rfl))).trans ?_
                                                refine (G_iconst (mF fc328 (by rfl))).trans ?_
                                                refine (G_iadd (mF fc328 (by rfl))).trans ?_
                                                refine (G_iaload (mF fc328 (by rfl))).trans (andR ?_)
                                                refine (G_aload rfl (mF fc328 (by rfl))).trans ?_
                                                refine (G_iload rfl (mF fc328 (by rfl))).trans ?_
                                                refine (G_iconst (mF fc328 (by rfl))).trans ?_
                                                refine (G_iadd (mF fc328 (by rfl))).trans ?_
                                                refine (G_iaload (mF fc328 (by rfl))).trans (andR ?_)
                                                refine (G_Vi (q := 80051) (y := 156) (a := a1) (c := 11) rfl rfl rfl rfl (by decide) rfl (as := [.ref a1, .int (eI h a0 (x3 + (ii 1))), .int (eI h a0 (x3 + (ii 2)))]) (rest := []) rfl rfl (mF fc328 (by rfl))).trans (andR (GoCi_congr fun v43 h43 => ?_))
                                                refine (G_aload rfl (mF fc328 (by rfl))).trans ?_
                                                refine (G_aload rfl (mF fc328 (by rfl))).trans ?_
                                                refine (G_iload rfl (mF fc328 (by rfl))).trans ?_
                                                refine (G_iconst (mF fc328 (by rfl))).trans ?_
                                                refine (G_iadd (mF fc328 (by rfl))).trans ?_
                                                refine (G_iaload (mF fc328 (by rfl))).trans (andR ?_)
                                                refine (G_aload rfl (mF fc328 (by rfl))).trans ?_
                                                refine (G_iload rfl (mF fc328 (by rfl))).trans ?_
                                                refine (G_iconst (mF fc328 (by rfl))).trans ?_
                                                refine (G_iadd (mF fc328 (by rfl))).trans ?_
                                                refine (G_iaload (mF fc328 (by rfl))).trans (andR ?_)
                                                refine (G_Vi (q := 146115) (y := 285) (a := a2) (c := 12) rfl rfl rfl rfl (by decide) rfl (as := [.ref a2, .int (eI h43 a0 (x3 + (ii 1))), .int (eI h43 a0 (x3 + (ii 2)))]) (rest := [.int v43]) rfl rfl (mF fc328 (by rfl))).trans (andR (GoCi_congr fun v44 h44 => ?_))
                                                refine (G_ieq (mF fc328 (by rfl))).trans (gi ?_ ?_)
                                                ·
                                                  exact Iff.rfl
                                                ·
                                                  refine (G_iconst (mF fc328 (by rfl))).trans ?_
                                                  exact G_ireturnZ rfl (mF fc328 (by rfl))
                                              ·
                                                refine gi ?_ ?_
                                                ·
                                                  refine (G_aload rfl (mF fc328 (by rfl))).trans ?_
                                                  refine (G_aload rfl (mF fc328 (by rfl))).trans ?_
                                                  refine (G_iload rfl (mF fc328 (by rfl))).trans ?_
                                                  refine (G_iconst (mF fc328 (by rfl))).trans ?_
                                                  refine (G_iadd (mF fc328 (by rfl))).trans ?_
                                                  refine (G_iaload (mF fc328 (by rfl))).trans (andR ?_)
                                                  refine (G_aload rfl (mF fc328 (by rfl))).trans ?_
                                                  refine (G_iload rfl (mF fc328 (by rfl))).trans ?_
                                                  refine (G_iconst (mF fc328 (by rfl))).trans ?_
                                                  refine (G_iadd (mF fc328 (by rfl))).trans ?_
                                                  refine (G_iaload (mF fc328 (by rfl))).trans (andR ?_)
                                                  refine (G_Vi (q := 80563) (y := 157) (a := a1) (c := 11) rfl rfl rfl rfl (by decide) rfl (as := [.ref a1, .int (eI h a0 (x3 + (ii 1))), .int (eI h a0 (x3 + (ii 2)))]) (rest := []) rfl rfl (mF fc328 (by rfl))).trans (andR (GoCi_congr fun v45 h45 => ?_))
                                                  refine (G_aload rfl (mF fc328 (by rfl))).trans ?_
                                                  refine (G_aload rfl (mF fc328 (by rfl))).trans ?_
                                                  refine (G_iload rfl (mF fc328 (by rfl))).trans ?_
                                                  refine (G_iconst (mF fc328 (by rfl))).trans ?_
                                                  refine (G_iadd (mF fc328 (by rfl))).trans ?_
                                                  refine (G_iaload (mF fc328 (by rfl))).trans (andR ?_)
                                                  refine (G_aload rfl (mF fc328 (by rfl))).trans ?_
                                                  refine (G_iload rfl (mF fc328 (by rfl))).trans ?_
                                                  refine (G_iconst (mF fc328 (by rfl))).trans ?_
                                                  refine (G_iadd (mF fc328 (by rfl))).trans ?_
                                                  refine (G_iaload (mF fc328 (by rfl))).trans (andR ?_)
                                                  refine (G_Vi (q := 146627) (y := 286) (a := a2) (c := 12) rfl rfl rfl rfl (by decide) rfl (as := [.ref a2, .int (eI h45 a0 (x3 + (ii 1))), .int (eI h45 a0 (x3 + (ii 2)))]) (rest := [.int v45]) rfl rfl (mF fc328 (by rfl))).trans (andR (GoCi_congr fun v46 h46 => ?_))
                                                  refine (G_ieq (mF fc328 (by rfl))).trans (gi ?_ ?_)
                                                  ·
                                                    exact Iff.rfl
                                                  ·
                                                    refine (G_iconst (mF fc328 (by rfl))).trans ?_
                                                    exact G_ireturnZ rfl (mF fc328 (by rfl))
                                                ·
                                                  refine gi ?_ ?_
                                                  ·
                                                    refine (G_aload rfl (mF fc328 (by rfl))).trans ?_
                                                    refine (G_aload rfl (mF fc328 (by rfl))).trans ?_
                                                    refine (G_iload rfl (mF fc328 (by rfl))).trans ?_
                                                    refine (G_iconst (mF fc328 (by rfl))).trans ?_
                                                    refine (G_iadd (mF fc328 (by rfl))).trans ?_
                                                    refine (G_iaload (mF fc328 (by rfl))).trans (andR ?_)
                                                    refine (G_aload rfl (mF fc328 (by rfl))).trans ?_
                                                    refine (G_iload rfl (mF fc328 (by rfl))).trans ?_
                                                    refine (G_iconst (mF fc328 (by rfl))).trans ?_
                                                    refine (G_iadd (mF fc328 (by rfl))).trans ?_
                                                    refine (G_iaload (mF fc328 (by rfl))).trans (andR ?_)
                                                    refine (G_Vi (q := 81075) (y := 158) (a := a1) (c := 11) rfl rfl rfl rfl (by decide) rfl (as := [.ref a1, .int (eI h a0 (x3 + (ii 1))), .int (eI h a0 (x3 + (ii 2)))]) (rest := []) rfl rfl (mF fc328 (by rfl))).trans (andR (GoCi_congr fun v47 h47 => ?_))
                                                    refine (G_aload rfl (mF fc328 (by rfl))).trans ?_
                                                    refine (G_aload rfl (mF fc328 (by rfl))).trans ?_
                                                    refine (G_iload rfl (mF fc328 (by rfl))).trans ?_
                                                    refine (G_iconst (mF fc328 (by rfl))).trans ?_
                                                    refine (G_iadd (mF fc328 (by rfl))).trans ?_
                                                    refine (G_iaload (mF fc328 (by rfl))).trans (andR ?_)
                                                    refine (G_aload rfl (mF fc328 (by rfl))).trans ?_
                                                    refine (G_iload rfl (mF fc328 (by rfl))).trans ?_
                                                    refine (G_iconst (mF fc328 (by rfl))).trans ?_
                                                    refine (G_iadd (mF fc328 (by rfl))).trans ?_
                                                    refine (G_iaload (mF fc328 (by rfl))).trans (andR ?_)
                                                    refine (G_Vi (q := 147139) (y := 287) (a := a2) (c := 12) rfl rfl rfl rfl (by decide) rfl (as := [.ref a2, .int (eI h47 a0 (x3 + (ii 1))), .int (eI h47 a0 (x3 + (ii 2)))]) (rest := [.int v47]) rfl rfl (mF fc328 (by rfl))).trans (andR (GoCi_congr fun v48 h48 => ?_))
                                                    refine (G_ieq (mF fc328 (by rfl))).trans (gi ?_ ?_)
                                                    ·
                                                      exact Iff.rfl
                                                    ·
                                                      refine (G_iconst (mF fc328 (by rfl))).trans ?_
                                                      exact G_ireturnZ rfl (mF fc328 (by rfl))
                                                  ·
                                                    refine gi ?_ ?_
                                                    ·
                                                      refine (G_aload rfl (mF fc328 (by rfl))).trans ?_
                                                      refine (G_aload rfl (mF fc328 (by rfl))).trans ?_
                                                      refine (G_iload rfl (mF fc328 (by rfl))).trans ?_
                                                      refine (G_iconst (mF fc328 (by rfl))).trans ?_
                                                      refine (G_iadd (mF fc328 (by rfl))).trans ?_
                                                      refine (G_iaload (mF fc328 (by rfl))).trans (andR ?_)
                                                      refine (G_aload rfl (mF fc328 (by rfl))).trans ?_
                                                      refine (G_iload rfl (mF fc328 (by rfl))).trans ?_
                                                      refine (G_iconst (mF fc328 (by rfl))).trans ?_
                                                      refine (G_iadd (mF fc328 (by rfl))).trans ?_
                                                      refine (G_iaload (mF fc328 (by rfl))).trans (andR ?_)
                                                      refine (G_Vi (q := 81587) (y := 159) (a := a1) (c := 11) rfl rfl rfl rfl (by decide) rfl (as := [.ref a1, .int (eI h a0 (x3 + (ii 1))), .int (eI h a0 (x3 + (ii 2)))]) (rest := []) rfl rfl (mF fc328 (by rfl))).trans (andR (GoCi_congr fun v49 h49 => ?_))
                                                      refine (G_aload rfl (mF fc328 (by rfl))).trans ?_
                                                      refine (G_aload rfl (mF fc328 (by rfl))).trans ?_
                                                      refine (G_iload rfl (mF fc328 (by rfl))).trans ?_
                                                      refine (G_iconst (mF fc328 (by rfl))).trans ?_
                                                      refine (G_iadd (mF fc328 (by rfl))).trans ?_
                                                      refine (G_iaload (mF fc328 (by rfl))).trans (andR ?_)
                                                      refine (G_aload rfl (mF fc328 (by rfl))).trans ?_
                                                      refine (G_iload rfl (mF fc328 (by rfl))).trans ?_
                                                      refine (G_iconst (mF fc328 (by rfl))).trans ?_
                                                      refine (G_iadd (mF fc328 (by rfl))).trans ?_
                                                      refine (G_iaload (mF fc328 (by rfl))).trans (andR ?_)
                                                      refine (G_Vi (q := 147651) (y := 288) (a := a2) (c := 12) rfl rfl rfl rfl (by decide) rfl (as := [.ref a2, .int (eI h49 a0 (x3 + (ii 1))), .int (eI h49 a0 (x3 + (ii 2)))]) (rest := [.int v49]) rfl rfl (mF fc328 (by rfl))).trans (andR (GoCi_congr fun v50 h50 => ?_))
                                                      refine (G_ieq (mF fc328 (by rfl))).trans (gi ?_ ?_)
                                                      ·
                                                        exact Iff.rfl
                                                      ·
                                                        refine (G_iconst (mF fc328 (by rfl))).trans ?_
                                                        exact G_ireturnZ rfl (mF fc328 (by rfl))
                                                    ·
                                                      refine gi ?_ ?_
                                                      ·
                                                        refine (G_aload rfl (mF fc328 (by rfl))).trans ?_
                                                        refine (G_aload rfl (mF fc328 (by rfl))).trans ?_
                                                        refine (G_iload rfl (mF fc328 (by rfl))).trans ?_
                                                        refine (G_iconst (mF fc328 (by rfl))).trans ?_
                                                        refine (G_iadd (mF fc328 (by rfl))).trans ?_
                                                        refine (G_iaload (mF fc328 (by rfl))).trans (andR ?_)
                                                        refine (G_aload rfl (mF fc328 (by rfl))).trans ?_
                                                        refine (G_iload rfl (mF fc328 (by rfl))).trans ?_
                                                        refine (G_iconst (mF fc328 (by rfl))).trans ?_
                                                        refine (G_iadd (mF fc328 (by rfl))).trans ?_
                                                        refine (G_iaload (mF fc328 (by rfl))).trans (andR ?_)
                                                        refine (G_Vi (q := 82099) (y := 160) (a := a1) (c := 11) rfl rfl rfl rfl (by decide) rfl (as := [.ref a1, .int (eI h a0 (x3 + (ii 1))), .int (eI h a0 (x3 + (ii 2)))]) (rest := []) rfl rfl (mF fc328 (by rfl))).trans (andR (GoCi_congr fun v51 h51 => ?_))
                                                        refine (G_aload rfl (mF fc328 (by rfl))).trans ?_
                                                        refine (G_aload rfl (mF fc328 (by rfl))).trans ?_
                                                        refine (G_iload rfl (mF fc328 (by rfl))).trans ?_
                                                        refine (G_iconst (mF fc328 (by rfl))).trans ?_
                                                        refine (G_iadd (mF fc328 (by rfl))).trans ?_
                                                        refine (G_iaload (mF fc328 (by rfl))).trans (andR ?_)
                                                        refine (G_aload rfl (mF fc328 (by rfl))).trans ?_
                                                        refine (G_iload rfl (mF fc328 (by rfl))).trans ?_
                                                        refine (G_iconst (mF fc328 (by rfl))).trans ?_
                                                        refine (G_iadd (mF fc328 (by rfl))).trans ?_
                                                        refine (G_iaload (mF fc328 (by rfl))).trans (andR ?_)
                                                        refine (G_Vi (q := 150211) (y := 293) (a := a2) (c := 12) rfl rfl rfl rfl (by decide) rfl (as := [.ref a2, .int (eI h51 a0 (x3 + (ii 1))), .int (eI h51 a0 (x3 + (ii 2)))]) (rest := [.int v51]) rfl rfl (mF fc328 (by rfl))).trans (andR (GoCi_congr fun v52 h52 => ?_))
                                                        refine (G_ieq (mF fc328 (by rfl))).trans (gi ?_ ?_)
                                                        ·
                                                          exact Iff.rfl
                                                        ·
                                                          refine (G_iconst (mF fc328 (by rfl))).trans ?_
                                                          exact G_ireturnZ rfl (mF fc328 (by rfl))
                                                      ·
                                                        refine gi ?_ ?_
                                                        ·
                                                          refine (G_aload rfl (mF fc328 (by rfl))).trans ?_
                                                          refine (G_aload rfl (mF fc328 (by rfl))).trans ?_
                                                          refine (G_iload rfl (mF fc328 (by rfl))).trans ?_
                                                          refine (G_iconst (mF fc328 (by rfl))).trans ?_
                                                          refine (G_iadd (mF fc328 (by rfl))).trans ?_
                                                          refine (G_iaload (mF fc328 (by rfl))).trans (andR ?_)
                                                          refine (G_aload rfl (mF fc328 (by rfl))).trans ?_
                                                          refine (G_iload rfl (mF fc328 (by rfl))).trans ?_
                                                          refine (G_iconst (mF fc328 (by rfl))).trans ?_
                                                          refine (G_iadd (mF fc328 (by rfl))).trans ?_
                                                          refine (G_iaload (mF fc328 (by rfl))).trans (andR ?_)
                                                          refine (G_Vi (q := 82611) (y := 161) (a := a1) (c := 11) rfl rfl rfl rfl (by decide) rfl (as := [.ref a1, .int (eI h a0 (x3 + (ii 1))), .int (eI h a0 (x3 + (ii 2)))]) (rest := []) rfl rfl (mF fc328 (by rfl))).trans (andR (GoCi_congr fun v53 h53 => ?_))
                                                          refine (G_aload rfl (mF fc328 (by rfl))).trans ?_
                                                          refine (G_aload rfl (mF fc328 (by rfl))).trans ?_
                                                          refine (G_iload rfl (mF fc328 (by rfl))).trans ?_
                                                          refine (G_iconst (mF fc328 (by rfl))).trans ?_
                                                          refine (G_iadd (mF fc328 (by rfl))).trans ?_
                                                          refine (G_iaload (mF fc328 (by rfl))).trans (andR ?_)
                                                          refine (G_aload rfl (mF fc328 (by rfl))).trans ?_
                                                          refine (G_iload rfl (mF fc328 (by rfl))).trans ?_
                                                          refine (G_iconst (mF fc328 (by rfl))).trans ?_
                                                          refine (G_iadd (mF fc328 (by rfl))).trans ?_
                                                          refine (G_iaload (mF fc328 (by rfl))).trans (andR ?_)
                                                          refine (G_Vi (q := 152771) (y := 298) (a := a2) (c := 12) rfl rfl rfl rfl (by decide) rfl (as := [.ref a2, .int (eI h53 a0 (x3 + (ii 1))), .int (eI h53 a0 (x3 + (ii 2)))]) (rest := [.int v53]) rfl rfl (mF fc328 (by rfl))).trans (andR (GoCi_congr fun v54 h54 => ?_))
                                                          refine (G_ieq (mF fc328 (by rfl))).trans (gi ?_ ?_)
                                                          ·
                                                            exact Iff.rfl
                                                          ·
                                                            refine (G_iconst (mF fc328 (by rfl))).trans ?_
                                                            exact G_ireturnZ rfl (mF fc328 (by rfl))
                                                        ·
                                                          refine gi ?_ ?_
                                                          ·
                                                            refine (G_aload rfl (mF fc328 (by rfl))).trans ?_
                                                            refine (G_aload rfl (mF fc328 (by rfl))).trans ?_
                                                            refine (G_iload rfl (mF fc328 (by rfl))).trans ?_
                                                            refine (G_iconst (mF fc328 (by rfl))).trans ?_
                                                            refine (G_iadd (mF fc328 (by rfl))).trans ?_
                                                            refine (G_iaload (mF fc328 (by rfl))).trans (andR ?_)
                                                            refine (G_aload rfl (mF fc328 (by rfl))).trans ?_
                                                            refine (G_iload rfl (mF fc328 (by rfl))).trans ?_
                                                            refine (G_iconst (mF fc328 (by rfl))).trans ?_
                                                            refine (G_iadd (mF fc328 (by rfl))).trans ?_
                                                            refine (G_iaload (mF fc328 (by rfl))).trans (andR ?_)
                                                            refine (G_Vi (q := 83123) (y := 162) (a := a1) (c := 11) rfl rfl rfl rfl (by decide) rfl (as := [.ref a1, .int (eI h a0 (x3 + (ii 1))), .int (eI h a0 (x3 + (ii 2)))]) (rest := []) rfl rfl (mF fc328 (by rfl))).trans (andR (GoCi_congr fun v55 h55 => ?_))
                                                            refine (G_aload rfl (mF fc328 (by rfl))).trans ?_
                                                            refine (G_aload rfl (mF fc328 (by rfl))).trans ?_
                                                            refine (G_iload rfl (mF fc328 (by rfl))).trans ?_
                                                            refine (G_iconst (mF fc328 (by rfl))).trans ?_
                                                            refine (G_iadd (mF fc328 (by rfl))).trans ?_
                                                            refine (G_iaload (mF fc328 (by rfl))).trans (andR ?_)
                                                            refine (G_aload rfl (mF fc328 (by rfl))).trans ?_
                                                            refine (G_iload rfl (mF fc328 (by rfl))).trans ?_
                                                            refine (G_iconst (mF fc328 (by rfl))).trans ?_
                                                            refine (G_iadd (mF fc328 (by rfl))).trans ?_
                                                            refine (G_iaload (mF fc328 (by rfl))).trans (andR ?_)
                                                            refine (G_Vi (q := 154307) (y := 301) (a := a2) (c := 12) rfl rfl rfl rfl (by decide) rfl (as := [.ref a2, .int (eI h55 a0 (x3 + (ii 1))), .int (eI h55 a0 (x3 + (ii 2)))]) (rest := [.int v55]) rfl rfl (mF fc328 (by rfl))).trans (andR (GoCi_congr fun v56 h56 => ?_))
                                                            refine (G_ieq (mF fc328 (by rfl))).trans (gi ?_ ?_)
                                                            ·
                                                              exact Iff.rfl
                                                            ·
                                                              refine (G_iconst (mF fc328 (by rfl))).trans ?_
                                                              exact G_ireturnZ rfl (mF fc328 (by rfl))
                                                          ·
                                                            refine gi ?_ ?_
                                                            ·
                                                              refine (G_aload rfl (mF fc328 (by rfl))).trans ?_
                                                              refine (G_aload rfl (mF fc328 (by rfl))).trans ?_
                                                              refine (G_iload rfl (mF fc328 (by rfl))).trans ?_
                                                              refine (G_iconst (mF fc328 (by rfl))).trans ?_
                                                              refine (G_iadd (mF fc328 (by rfl))).trans ?_
                                                              refine (G_iaload (mF fc328 (by rfl))).trans (andR ?_)
                                                              refine (G_aload rfl (mF fc328 (by rfl))).trans ?_
                                                              refine (G_iload rfl (mF fc328 (by rfl))).trans ?_
                                                              refine (G_iconst (mF fc328 (by rfl))).trans ?_
                                                              refine (G_iadd (mF fc328 (by rfl))).trans ?_
                                                              refine (G_iaload (mF fc328 (by rfl))).trans (andR ?_)
                                                              refine (G_Vi (q := 83635) (y := 163) (a := a1) (c := 11) rfl rfl rfl rfl (by decide) rfl (as := [.ref a1, .int (eI h a0 (x3 + (ii 1))), .int (eI h a0 (x3 + (ii 2)))]) (rest := []) rfl rfl (mF fc328 (by rfl))).trans (andR (GoCi_congr fun v57 h57 => ?_))
                                                              refine (G_aload rfl (mF fc328 (by rfl))).trans ?_
                                                              refine (G_aload rfl (mF fc328 (by rfl))).trans ?_
                                                              refine (G_iload rfl (mF fc328 (by rfl))).trans ?_
                                                              refine (G_iconst (mF fc328 (by rfl))).trans ?_
                                                              refine (G_iadd (mF fc328 (by rfl))).trans ?_
                                                              refine (G_iaload (mF fc328 (by rfl))).trans (andR ?_)
                                                              refine (G_aload rfl (mF fc328 (by rfl))).trans ?_
                                                              refine (G_iload rfl (mF fc328 (by rfl))).trans ?_
                                                              refine (G_iconst (mF fc328 (by rfl))).trans ?_
                                                              refine (G_iadd (mF fc328 (by rfl))).trans ?_
                                                              refine (G_iaload (mF fc328 (by rfl))).trans (andR ?_)
                                                              refine (G_Vi (q := 154819) (y := 302) (a := a2) (c := 12) rfl rfl rfl rfl (by decide) rfl (as := [.ref a2, .int (eI h57 a0 (x3 + (ii 1))), .int (eI h57 a0 (x3 + (ii 2)))]) (rest := [.int v57]) rfl rfl (mF fc328 (by rfl))).trans (andR (GoCi_congr fun v58 h58 => ?_))
                                                              refine (G_ieq (mF fc328 (by rfl))).trans (gi ?_ ?_)
                                                              ·
                                                                exact Iff.rfl
                                                              ·
                                                                refine (G_iconst (mF fc328 (by rfl))).trans ?_
                                                                exact G_ireturnZ rfl (mF fc328 (by rfl))
                                                            ·
                                                              refine gi ?_ ?_
                                                              ·
                                                                refine (G_aload rfl (mF fc328 (by rfl))).trans ?_
                                                                refine (G_aload rfl (mF fc328 (by rfl))).trans ?_
                                                                refine (G_iload rfl (mF fc328 (by rfl))).trans ?_
                                                                refine (G_iconst (mF fc328 (by rfl))).trans ?_
                                                                refine (G_iadd (mF fc328 (by rfl))).trans ?_
                                                                refine (G_iaload (mF fc328 (by rfl))).trans (andR ?_)
                                                                refine (G_aload rfl (mF fc328 (by rfl))).trans ?_
                                                                refine (G_iload rfl (mF fc328 (by rfl))).trans ?_
                                                                refine (G_iconst (mF fc328 (by rfl))).trans ?_
                                                                refine (G_iadd (mF fc328 (by rfl))).trans ?_
                                                                refine (G_iaload (mF fc328 (by rfl))).trans (andR ?_)
                                                                refine (G_eq (mF fc328 (by rfl))).trans (gi ?_ ?_)
                                                                ·
                                                                  refine (G_iconst (mF fc328 (by rfl))).trans ?_
                                                                  exact Iff.rfl
                                                                ·
                                                                  refine (G_iconst (mF fc328 (by rfl))).trans ?_
                                                                  refine (G_goto (mF fc328 (by rfl))).trans ?_
                                                                  exact Iff.rfl
                                                              ·
                                                                refine gi ?_ ?_
                                                                ·
                                                                  refine (G_aload rfl (mF fc328 (by rfl))).trans ?_
                                                                  refine (G_aload rfl (mF fc328 (by rfl))).trans ?_
                                                                  refine (G_iload rfl (mF fc328 (by rfl))).trans ?_
                                                                  refine (G_iconst (mF fc328 (by rfl))).trans ?_
                                                                  refine (G_iadd (mF fc328 (by rfl))).trans ?_
                                                                  refine (G_iaload (mF fc328 (by rfl))).trans (andR ?_)
                                                                  refine (G_Vi (q := 84658) (y := 165) (a := a1) (c := 11) rfl rfl rfl rfl (by decide) rfl (as := [.ref a1, .int (eI h a0 (x3 + (ii 1)))]) (rest := []) rfl rfl (mF fc328 (by rfl))).trans (andR (GoCi_congr fun v59 h59 => ?_))
                                                                  refine (G_aload rfl (mF fc328 (by rfl))).trans ?_
                                                                  refine (G_aload rfl (mF fc328 (by rfl))).trans ?_
                                                                  refine (G_iload rfl (mF fc328 (by rfl))).trans ?_
                                                                  refine (G_iconst (mF fc328 (by rfl))).trans ?_
                                                                  refine (G_iadd (mF fc328 (by rfl))).trans ?_
                                                                  refine (G_iaload (mF fc328 (by rfl))).trans (andR ?_)
                                                                  refine (G_Vi (q := 156866) (y := 306) (a := a2) (c := 12) rfl rfl rfl rfl (by decide) rfl (as := [.ref a2, .int (eI h59 a0 (x3 + (ii 1)))]) (rest := [.int v59]) rfl rfl (mF fc328 (by rfl))).trans (andR (GoCi_congr fun v60 h60 => ?_))
                                                                  refine (G_ieq (mF fc328 (by rfl))).trans (gi ?_ ?_)
                                                                  ·
                                                                    exact Iff.rfl
                                                                  ·
                                                                    refine (G_iconst (mF fc328 (by rfl))).trans ?_
                                                                    exact G_ireturnZ rfl (mF fc328 (by rfl))
                                                                ·
                                                                  refine gi ?_ ?_
                                                                  ·
                                                                    refine (G_aload rfl (mF fc328 (by rfl))).trans ?_
                                                                    refine (G_aload rfl (mF fc328 (by rfl))).trans ?_
                                                                    refine (G_iload rfl (mF fc328 (by rfl))).trans ?_
                                                                    refine (G_iconst (mF fc328 (by rfl))).trans ?_
                                                                    refine (G_iadd (mF fc328 (by rfl))).trans ?_
                                                                    refine (G_iaload (mF fc328 (by rfl))).trans (andR ?_)
                                                                    refine (G_Vi (q := 85170) (y := 166) (a := a1) (c := 11) rfl rfl rfl rfl (by decide) rfl (as := [.ref a1, .int (eI h a0 (x3 + (ii 1)))]) (rest := []) rfl rfl (mF fc328 (by rfl))).trans (andR (GoCi_congr fun v61 h61 => ?_))
                                                                    refine (G_aload rfl (mF fc328 (by rfl))).trans ?_
                                                                    refine (G_aload rfl (mF fc328 (by rfl))).trans ?_
                                                                    refine (G_iload rfl (mF fc328 (by rfl))).trans ?_
                                                                    refine (G_iconst (mF fc328 (by rfl))).trans ?_
                                                                    refine (G_iadd (mF fc328 (by rfl))).trans ?_
                                                                    refine (G_iaload (mF fc328 (by rfl))).trans (andR ?_)
                                                                    refine (G_Vi (q := 157378) (y := 307) (a := a2) (c := 12) rfl rfl rfl rfl (by decide) rfl (as := [.ref a2, .int (eI h61 a0 (x3 + (ii 1)))]) (rest := [.int v61]) rfl rfl (mF fc328 (by rfl))).trans (andR (GoCi_congr fun v62 h62 => ?_))
                                                                    refine (G_ieq (mF fc328 (by rfl))).trans (gi ?_ ?_)
                                                                    ·
                                                                      exact Iff.rfl
                                                                    ·
                                                                      refine (G_iconst (mF fc328 (by rfl))).trans ?_
                                                                      exact G_ireturnZ rfl (mF fc328 (by rfl))
                                                                  ·
                                                                    refine gi ?_ ?_
                                                                    ·
                                                                      refine (G_aload rfl (mF fc328 (by rfl))).trans ?_
                                                                      refine (G_aload rfl (mF fc328 (by rfl))).trans ?_
                                                                      refine (G_iload rfl (mF fc328 (by rfl))).trans ?_
                                                                      refine (G_iconst (mF fc328 (by rfl))).trans ?_
                                                                      refine (G_iadd (mF fc328 (by rfl))).trans ?_
                                                                      refine (G_iaload (mF fc328 (by rfl))).trans (andR ?_)
                                                                      refine (G_Vi (q := 85682) (y := 167) (a := a1) (c := 11) rfl rfl rfl rfl (by decide) rfl (as := [.ref a1, .int (eI h a0 (x3 + (ii 1)))]) (rest := []) rfl rfl (mF fc328 (by rfl))).trans (andR (GoCi_congr fun v63 h63 => ?_))
                                                                      refine (G_aload rfl (mF fc328 (by rfl))).trans ?_
                                                                      refine (G_aload rfl (mF fc328 (by rfl))).trans ?_
                                                                      refine (G_iload rfl (mF fc328 (by rfl))).trans ?_
                                                                      refine (G_iconst (mF fc328 (by rfl))).trans ?_
                                                                      refine (G_iadd (mF fc328 (by rfl))).trans ?_
                                                                      refine (G_iaload (mF fc328 (by rfl))).trans (andR ?_)
                                                                      refine (G_Vi (q := 157890) (y := 308) (a := a2) (c := 12) rfl rfl rfl rfl (by decide) rfl (as := [.ref a2, .int (eI h63 a0 (x3 + (ii 1)))]) (rest := [.int v63]) rfl rfl (mF fc328 (by rfl))).trans (andR (GoCi_congr fun v64 h64 => ?_))
                                                                      refine (G_ieq (mF fc328 (by rfl))).trans (gi ?_ ?_)
                                                                      ·
                                                                        exact Iff.rfl
                                                                      ·
                                                                        refine (G_iconst (mF fc328 (by rfl))).trans ?_
                                                                        exact G_ireturnZ rfl (mF fc328 (by rfl))
                                                                    ·
                                                                      refine gi ?_ ?_
                                                                      ·
                                                                        refine (G_aload rfl (mF fc328 (by rfl))).trans ?_
                                                                        refine (G_aload rfl (mF fc328 (by rfl))).trans ?_
                                                                        refine (G_iload rfl (mF fc328 (by rfl))).trans ?_
                                                                        refine (G_iconst (mF fc328 (by rfl))).trans ?_
                                                                        refine (G_iadd (mF fc328 (by rfl))).trans ?_
                                                                        refine (G_iaload (mF fc328 (by rfl))).trans (andR ?_)
                                                                        refine (G_aload rfl (mF fc328 (by rfl))).trans ?_
                                                                        refine (G_iload rfl (mF fc328 (by rfl))).trans ?_
                                                                        refine (G_iconst (mF fc328 (by rfl))).trans ?_
                                                                        refine (G_iadd (mF fc328 (by rfl))).trans ?_
                                                                        refine (G_iaload (mF fc328 (by rfl))).trans (andR ?_)
                                                                        refine (G_aload rfl (mF fc328 (by rfl))).trans ?_
                                                                        refine (G_iload rfl (mF fc328 (by rfl))).trans ?_
                                                                        refine (G_iconst (mF fc328 (by rfl))).trans ?_
                                                                        refine (G_iadd (mF fc328 (by rfl))).trans ?_
                                                                        refine (G_iaload (mF fc328 (by rfl))).trans (andR ?_)
                                                                        refine (G_Vi (q := 86196) (y := 168) (a := a1) (c := 11) rfl rfl rfl rfl (by decide) rfl (as := [.ref a1, .int (eI h a0 (x3 + (ii 1))), .int (eI h a0 (x3 + (ii 2))), .int (eI h a0 (x3 + (ii 3)))]) (rest := []) rfl rfl (mF fc328 (by rfl))).trans (andR (GoCi_congr fun v65 h65 => ?_))
                                                                        refine (G_aload rfl (mF fc328 (by rfl))).trans ?_
                                                                        refine (G_aload rfl (mF fc328 (by rfl))).trans ?_
                                                                        refine (G_iload rfl (mF fc328 (by rfl))).trans ?_
                                                                        refine (G_iconst (mF fc328 (by rfl))).trans ?_
                                                                        refine (G_iadd (mF fc328 (by rfl))).trans ?_
                                                                        refine (G_iaload (mF fc328 (by rfl))).trans (andR ?_)
                                                                        refine (G_aload rfl (mF fc328 (by rfl))).trans ?_
                                                                        refine (G_iload rfl (mF fc328 (by rfl))).trans ?_
                                                                        refine (G_iconst (mF fc328 (by rfl))).trans ?_
                                                                        refine (G_iadd (mF fc328 (by rfl))).trans ?_
                                                                        refine (G_iaload (mF fc328 (by rfl))).trans (andR ?_)
                                                                        refine (G_aload rfl (mF fc328 (by rfl))).trans ?_
                                                                        refine (G_iload rfl (mF fc328 (by rfl))).trans ?_
                                                                        refine (G_iconst (mF fc328 (by rfl))).trans ?_
                                                                        refine (G_iadd (mF fc328 (by rfl))).trans ?_
                                                                        refine (G_iaload (mF fc328 (by rfl))).trans (andR ?_)
                                                                        refine (G_Vi (q := 159428) (y := 311) (a := a2) (c := 12) rfl rfl rfl rfl (by decide) rfl (as := [.ref a2, .int (eI h65 a0 (x3 + (ii 1))), .int (eI h65 a0 (x3 + (ii 2))), .int (eI h65 a0 (x3 + (ii 3)))]) (rest := [.int v65]) rfl rfl (mF fc328 (by rfl))).trans (andR (GoCi_congr fun v66 h66 => ?_))
                                                                        refine (G_ieq (mF fc328 (by rfl))).trans (gi ?_ ?_)
                                                                        ·
                                                                          exact Iff.rfl
                                                                        ·
                                                                          refine (G_iconst (mF fc328 (by rfl))).trans ?_
                                                                          exact G_ireturnZ rfl (mF fc328 (by rfl))
                                                                      ·
                                                                        refine gi ?_ ?_
                                                                        ·
                                                                          refine (G_aload rfl (mF fc328 (by rfl))).trans ?_
                                                                          refine (G_aload rfl (mF fc328 (by rfl))).trans ?_
                                                                          refine (G_iload rfl (mF fc328 (by rfl))).trans ?_
                                                                          refine (G_iconst (mF fc328 (by rfl))).trans ?_
                                                                          refine (G_iadd (mF fc328 (by rfl))).trans ?_
                                                                          refine (G_iaload (mF fc328 (by rfl))).trans (andR ?_)
                                                                          refine (G_Vi (q := 86706) (y := 169) (a := a1) (c := 11) rfl rfl rfl rfl (by decide) rfl (as := [.ref a1, .int (eI h a0 (x3 + (ii 1)))]) (rest := []) rfl rfl (mF fc328 (by rfl))).trans (andR (GoCi_congr fun v67 h67 => ?_))
                                                                          refine (G_aload rfl (mF fc328 (by rfl))).trans ?_
                                                                          refine (G_aload rfl (mF fc328 (by rfl))).trans ?_
                                                                          refine (G_iload rfl (mF fc328 (by rfl))).trans ?_
                                                                          refine (G_iconst (mF fc328 (by rfl))).trans ?_
                                                                          refine (G_iadd (mF fc328 (by rfl))).trans ?_
                                                                          refine (G_iaload (mF fc328 (by rfl))).trans (andR ?_)
                                                                          refine (G_Vi (q := 159938) (y := 312) (a := a2) (c := 12) rfl rfl rfl rfl (by decide) rfl (as := [.ref a2, .int (eI h67 a0 (x3 + (ii 1)))]) (rest := [.int v67]) rfl rfl (mF fc328 (by rfl))).trans (andR (GoCi_congr fun v68 h68 => ?_))
                                                                          refine (G_ieq (mF fc328 (by rfl))).trans (gi ?_ ?_)
                                                                          ·
                                                                            exact Iff.rfl
                                                                          ·
                                                                            refine (G_iconst (mF fc328 (by rfl))).trans ?_
                                                                            exact G_ireturnZ rfl (mF fc328 (by rfl))
                                                                        ·
                                                                          refine gi ?_ ?_
                                                                          ·
                                                                            refine (G_aload rfl (mF fc328 (by rfl))).trans ?_
                                                                            refine (G_aload rfl (mF fc328 (by rfl))).trans ?_
                                                                            refine (G_iload rfl (mF fc328 (by rfl))).trans ?_
                                                                            refine (G_iconst (mF fc328 (by rfl))).trans ?_
                                                                            refine (G_iadd (mF fc328 (by rfl))).trans ?_
                                                                            refine (G_iaload (mF fc328 (by rfl))).trans (andR ?_)
                                                                            refine (G_Vi (q := 87218) (y := 170) (a := a1) (c := 11) rfl rfl rfl rfl (by decide) rfl (as := [.ref a1, .int (eI h a0 (x3 + (ii 1)))]) (rest := []) rfl rfl (mF fc328 (by rfl))).trans (andR (GoCi_congr fun v69 h69 => ?_))
                                                                            refine (G_aload rfl (mF fc328 (by rfl))).trans ?_
                                                                            refine (G_aload rfl (mF fc328 (by rfl))).trans ?_
                                                                            refine (G_iload rfl (mF fc328 (by rfl))).trans ?_
                                                                            refine (G_iconst (mF fc328 (by rfl))).trans ?_
                                                                            refine (G_iadd (mF fc328 (by rfl))).trans ?_
                                                                            refine (G_iaload (mF fc328 (by rfl))).trans (andR ?_)
                                                                            refine (G_Vi (q := 161474) (y := 315) (a := a2) (c := 12) rfl rfl rfl rfl (by decide) rfl (as := [.ref a2, .int (eI h69 a0 (x3 + (ii 1)))]) (rest := [.int v69]) rfl rfl (mF fc328 (by rfl))).trans (andR (GoCi_congr fun v70 h70 => ?_))
                                                                            refine (G_ieq (mF fc328 (by rfl))).trans (gi ?_ ?_)
                                                                            ·
                                                                              exact Iff.rfl
                                                                            ·
                                                                              refine (G_iconst (mF fc328 (by rfl))).trans ?_
                                                                              exact G_ireturnZ rfl (mF fc328 (by rfl))
                                                                          ·
                                                                            refine gi ?_ ?_
                                                                            ·
                                                                              refine (G_aload rfl (mF fc328 (by rfl))).trans ?_
                                                                              refine (G_aload rfl (mF fc328 (by rfl))).trans ?_
                                                                              refine (G_iload rfl (mF fc328 (by rfl))).trans ?_
                                                                              refine (G_iconst (mF fc328 (by rfl))).trans ?_
                                                                              refine (G_iadd (mF fc328 (by rfl))).trans ?_
                                                                              refine (G_iaload (mF fc328 (by rfl))).trans (andR ?_)
                                                                              refine (G_Vi (q := 87730) (y := 171) (a := a1) (c := 11) rfl rfl rfl rfl (by decide) rfl (as := [.ref a1, .int (eI h a0 (x3 + (ii 1)))]) (rest := []) rfl rfl (mF fc328 (by rfl))).trans (andR (GoCi_congr fun v71 h71 => ?_))
                                                                              refine (G_aload rfl (mF fc328 (by rfl))).trans ?_
                                                                              refine (G_aload rfl (mF fc328 (by rfl))).trans ?_
                                                                              refine (G_iload rfl (mF fc328 (by rfl))).trans ?_
                                                                              refine (G_iconst (mF fc328 (by rfl))).trans ?_
                                                                              refine (G_iadd (mF fc328 (by rfl))).trans ?_
                                                                              refine (G_iaload (mF fc328 (by rfl))).trans (andR ?_)
                                                                              refine (G_Vi (q := 161986) (y := 316) (a := a2) (c := 12) rfl rfl rfl rfl (by decide) rfl (as := [.ref a2, .int (eI h71 a0 (x3 + (ii 1)))]) (rest := [.int v71]) rfl rfl (mF fc328 (by rfl))).trans (andR (GoCi_congr fun v72 h72 => ?_))
                                                                              refine (G_ieq (mF fc328 (by rfl))).trans (gi ?_ ?_)
                                                                              ·
                                                                                exact Iff.rfl
                                                                              ·
                                                                                refine (G_iconst (mF fc328 (by rfl))).trans ?_
                                                                                exact G_ireturnZ rfl (mF fc328 (by rfl))
                                                                            ·
                                                                              exact Iff.rfl
theorem b328_1052 {d : Nat} {h : mHeap} {Q : Option Value → mHeap → Prop} {a0 : Nat} {a1 : Nat} {a2 : Nat} {x3 : Int32} {r0 : Nat} {s1 : Int32} {s2 : Int32} : Go d 328 1052 [some (.ref a0), some (.ref a1), some (.ref a2), some (.int x3)] [.int s2, .int s1, .ref r0] h Q ↔ oC h r0 = 11 ∧ GoCi d 164 [.ref r0, .int s1, .int s2] h (fun v1 h1 => okA h1 a0 .int (x3 + (ii 1)) ∧ okA h1 a0 .int (x3 + (ii 2)) ∧ (if (eI h1 a0 (x3 + (ii 2))) = ii 0 then (Go d 328 1074 [some (.ref a0), some (.ref a1), some (.ref a2), some (.int x3)] [.int (ii 0), .int (eI h1 a0 (x3 + (ii 1))), .ref a2, .int v1] h1 Q) else (Go d 328 1074 [some (.ref a0), some (.ref a1), some (.ref a2), some (.int x3)] [.int (ii 1), .int (eI h1 a0 (x3 + (ii 1))), .ref a2, .int v1] h1 Q))) := by
  refine (G_Vi (q := 84147) (y := 164) (a := r0) (c := 11) rfl rfl rfl rfl (by decide) rfl (as := [.ref r0, .int s1, .int s2]) (rest := []) rfl rfl (mF fc328 (by rfl))).trans (andR (GoCi_congr fun v1 h1 => ?_))
  refine (G_aload rfl (mF fc328 (by rfl))).trans ?_
  refine (G_aload rfl (mF fc328 (by rfl))).trans ?_
  refine (G_iload rfl (mF fc328 (by rfl))).trans ?_
  refine (G_iconst (mF fc328 (by rfl))).trans ?_
  refine (G_iadd (mF fc328 (by rfl))).trans ?_
  refine (G_iaload (mF fc328 (by rfl))).trans (andR ?_)
  refine (G_aload rfl (mF fc328 (by rfl))).trans ?_
  refine (G_iload rfl (mF fc328 (by rfl))).trans ?_
  refine (G_iconst (mF fc328 (by rfl))).trans ?_
  refine (G_iadd (mF fc328 (by rfl))).trans ?_
  refine (G_iaload (mF fc328 (by rfl))).trans (andR ?_)
  refine (G_eq (mF fc328 (by rfl))).trans (gi ?_ ?_)
  ·
    refine (G_iconst (mF fc328 (by rfl))).trans ?_
    exact Iff.rfl
  ·
    refine (G_iconst (mF fc328 (by rfl))).trans ?_
    refine (G_goto (mF fc328 (by rfl))).trans ?_
    exact Iff.rfl
theorem b328_1074 {d : Nat} {h : mHeap} {Q : Option Value → mHeap → Prop} {a0 : Nat} {a1 : Nat} {a2 : Nat} {x3 : Int32} {s0 : Int32} {r1 : Nat} {s2 : Int32} {s3 : Int32} : Go d 328 1074 [some (.ref a0), some (.ref a1), some (.ref a2), some (.int x3)] [.int s3, .int s2, .ref r1, .int s0] h Q ↔ oC h r1 = 12 ∧ GoCi d 303 [.ref r1, .int s2, .int s3] h (fun v1 h1 => (if s0 = v1 then (Go d 328 1263 [some (.ref a0), some (.ref a1), some (.ref a2), some (.int x3)] [] h1 Q) else (((ii 0) = ii 0 ∨ (ii 0) = ii 1) ∧ Q (some (.int (ii 0))) h1))) := by
  refine (G_Vi (q := 155331) (y := 303) (a := r1) (c := 12) rfl rfl rfl rfl (by decide) rfl (as := [.ref r1, .int s2, .int s3]) (rest := [.int s0]) rfl rfl (mF fc328 (by rfl))).trans (andR (GoCi_congr fun v1 h1 => ?_))
  refine (G_ieq (mF fc328 (by rfl))).trans (gi ?_ ?_)
  ·
    exact Iff.rfl
  ·
    refine (G_iconst (mF fc328 (by rfl))).trans ?_
    exact G_ireturnZ rfl (mF fc328 (by rfl))
theorem b328_1263 {d : Nat} {h : mHeap} {Q : Option Value → mHeap → Prop} {a0 : Nat} {a1 : Nat} {a2 : Nat} {x3 : Int32} : Go d 328 1263 [some (.ref a0), some (.ref a1), some (.ref a2), some (.int x3)] [] h Q ↔ Go d 328 18 [some (.ref a0), some (.ref a1), some (.ref a2), some (.int (x3 + ii 6))] [] h Q := by
  refine (G_iinc (k := 3) (L' := [some (.ref a0), some (.ref a1), some (.ref a2), some (.int (x3 + ii 6))]) rfl rfl rfl (mF fc328 (by rfl))).trans ?_
  refine (G_goto (mF fc328 (by rfl))).trans ?_
  exact Iff.rfl
theorem e328 {d : Nat} {h : mHeap} {K : Int32 → mHeap → Prop} {a0 : Nat} : GoCi (d + 1) 328 [.ref a0] h K ↔ Go d 328 0 [some (.ref a0), none, none, none] [] h (rI K) := GoCi_entry rfl rfl
