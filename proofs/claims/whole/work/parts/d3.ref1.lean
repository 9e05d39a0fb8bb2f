/-! THE REFERENCE: rows, bits, sets as rows of words -/
section Rx
variable {d : Nat} {h h1 : mHeap} {i : Nat}
theorem RS.k149 (hR : RS h) : kd h 149 = (1, 1, [9]) := hR.2.2 1 (by decide)
theorem RS.x149 (hR : RS h) (hi : i < 9) : okA h 149 .int (ii i) ∧ eI h 149 (ii i) = xA h 149 i := row_ok hR.k149 hi (by omega)
theorem RS.s149 {b : Nat} {v : Int32} (hR : RS h) (hi : i < 9) : xA (sI h 149 (ii i) v) b = if 149 = b then upf (xA h 149) i v else xA h b := sI_row hR.k149 hi (by omega)
theorem RS.k150 (hR : RS h) : kd h 150 = (1, 1, [6]) := hR.2.2 2 (by decide)
theorem RS.x150 (hR : RS h) (hi : i < 6) : okA h 150 .int (ii i) ∧ eI h 150 (ii i) = xA h 150 i := row_ok hR.k150 hi (by omega)
theorem RS.s150 {b : Nat} {v : Int32} (hR : RS h) (hi : i < 6) : xA (sI h 150 (ii i) v) b = if 150 = b then upf (xA h 150) i v else xA h b := sI_row hR.k150 hi (by omega)
theorem RS.k151 (hR : RS h) : kd h 151 = (1, 1, [6]) := hR.2.2 3 (by decide)
theorem RS.x151 (hR : RS h) (hi : i < 6) : okA h 151 .int (ii i) ∧ eI h 151 (ii i) = xA h 151 i := row_ok hR.k151 hi (by omega)
theorem RS.s151 {b : Nat} {v : Int32} (hR : RS h) (hi : i < 6) : xA (sI h 151 (ii i) v) b = if 151 = b then upf (xA h 151) i v else xA h b := sI_row hR.k151 hi (by omega)
theorem RS.k152 (hR : RS h) : kd h 152 = (1, 1, [6]) := hR.2.2 4 (by decide)
theorem RS.x152 (hR : RS h) (hi : i < 6) : okA h 152 .int (ii i) ∧ eI h 152 (ii i) = xA h 152 i := row_ok hR.k152 hi (by omega)
theorem RS.s152 {b : Nat} {v : Int32} (hR : RS h) (hi : i < 6) : xA (sI h 152 (ii i) v) b = if 152 = b then upf (xA h 152) i v else xA h b := sI_row hR.k152 hi (by omega)
theorem RS.k153 (hR : RS h) : kd h 153 = (1, 1, [6]) := hR.2.2 5 (by decide)
theorem RS.x153 (hR : RS h) (hi : i < 6) : okA h 153 .int (ii i) ∧ eI h 153 (ii i) = xA h 153 i := row_ok hR.k153 hi (by omega)
theorem RS.s153 {b : Nat} {v : Int32} (hR : RS h) (hi : i < 6) : xA (sI h 153 (ii i) v) b = if 153 = b then upf (xA h 153) i v else xA h b := sI_row hR.k153 hi (by omega)
theorem RS.k154 (hR : RS h) : kd h 154 = (1, 1, [6]) := hR.2.2 6 (by decide)
theorem RS.x154 (hR : RS h) (hi : i < 6) : okA h 154 .int (ii i) ∧ eI h 154 (ii i) = xA h 154 i := row_ok hR.k154 hi (by omega)
theorem RS.s154 {b : Nat} {v : Int32} (hR : RS h) (hi : i < 6) : xA (sI h 154 (ii i) v) b = if 154 = b then upf (xA h 154) i v else xA h b := sI_row hR.k154 hi (by omega)
theorem RS.k155 (hR : RS h) : kd h 155 = (1, 1, [6]) := hR.2.2 7 (by decide)
theorem RS.x155 (hR : RS h) (hi : i < 6) : okA h 155 .int (ii i) ∧ eI h 155 (ii i) = xA h 155 i := row_ok hR.k155 hi (by omega)
theorem RS.s155 {b : Nat} {v : Int32} (hR : RS h) (hi : i < 6) : xA (sI h 155 (ii i) v) b = if 155 = b then upf (xA h 155) i v else xA h b := sI_row hR.k155 hi (by omega)
theorem RS.k156 (hR : RS h) : kd h 156 = (1, 1, [10]) := hR.2.2 8 (by decide)
theorem RS.x156 (hR : RS h) (hi : i < 10) : okA h 156 .int (ii i) ∧ eI h 156 (ii i) = xA h 156 i := row_ok hR.k156 hi (by omega)
theorem RS.s156 {b : Nat} {v : Int32} (hR : RS h) (hi : i < 10) : xA (sI h 156 (ii i) v) b = if 156 = b then upf (xA h 156) i v else xA h b := sI_row hR.k156 hi (by omega)
theorem RS.k157 (hR : RS h) : kd h 157 = (1, 1, [10]) := hR.2.2 9 (by decide)
theorem RS.x157 (hR : RS h) (hi : i < 10) : okA h 157 .int (ii i) ∧ eI h 157 (ii i) = xA h 157 i := row_ok hR.k157 hi (by omega)
theorem RS.s157 {b : Nat} {v : Int32} (hR : RS h) (hi : i < 10) : xA (sI h 157 (ii i) v) b = if 157 = b then upf (xA h 157) i v else xA h b := sI_row hR.k157 hi (by omega)
theorem RS.k158 (hR : RS h) : kd h 158 = (1, 1, [10]) := hR.2.2 10 (by decide)
theorem RS.x158 (hR : RS h) (hi : i < 10) : okA h 158 .int (ii i) ∧ eI h 158 (ii i) = xA h 158 i := row_ok hR.k158 hi (by omega)
theorem RS.s158 {b : Nat} {v : Int32} (hR : RS h) (hi : i < 10) : xA (sI h 158 (ii i) v) b = if 158 = b then upf (xA h 158) i v else xA h b := sI_row hR.k158 hi (by omega)
theorem RS.k159 (hR : RS h) : kd h 159 = (1, 1, [8]) := hR.2.2 11 (by decide)
theorem RS.x159 (hR : RS h) (hi : i < 8) : okA h 159 .int (ii i) ∧ eI h 159 (ii i) = xA h 159 i := row_ok hR.k159 hi (by omega)
theorem RS.s159 {b : Nat} {v : Int32} (hR : RS h) (hi : i < 8) : xA (sI h 159 (ii i) v) b = if 159 = b then upf (xA h 159) i v else xA h b := sI_row hR.k159 hi (by omega)
theorem RS.k160 (hR : RS h) : kd h 160 = (1, 1, [8]) := hR.2.2 12 (by decide)
theorem RS.x160 (hR : RS h) (hi : i < 8) : okA h 160 .int (ii i) ∧ eI h 160 (ii i) = xA h 160 i := row_ok hR.k160 hi (by omega)
theorem RS.s160 {b : Nat} {v : Int32} (hR : RS h) (hi : i < 8) : xA (sI h 160 (ii i) v) b = if 160 = b then upf (xA h 160) i v else xA h b := sI_row hR.k160 hi (by omega)
theorem RS.k161 (hR : RS h) : kd h 161 = (1, 1, [10]) := hR.2.2 13 (by decide)
theorem RS.x161 (hR : RS h) (hi : i < 10) : okA h 161 .int (ii i) ∧ eI h 161 (ii i) = xA h 161 i := row_ok hR.k161 hi (by omega)
theorem RS.s161 {b : Nat} {v : Int32} (hR : RS h) (hi : i < 10) : xA (sI h 161 (ii i) v) b = if 161 = b then upf (xA h 161) i v else xA h b := sI_row hR.k161 hi (by omega)
theorem RS.k162 (hR : RS h) : kd h 162 = (1, 1, [10]) := hR.2.2 14 (by decide)
theorem RS.x162 (hR : RS h) (hi : i < 10) : okA h 162 .int (ii i) ∧ eI h 162 (ii i) = xA h 162 i := row_ok hR.k162 hi (by omega)
theorem RS.s162 {b : Nat} {v : Int32} (hR : RS h) (hi : i < 10) : xA (sI h 162 (ii i) v) b = if 162 = b then upf (xA h 162) i v else xA h b := sI_row hR.k162 hi (by omega)
theorem RS.k163 (hR : RS h) : kd h 163 = (1, 1, [56]) := hR.2.2 15 (by decide)
theorem RS.x163 (hR : RS h) (hi : i < 56) : okA h 163 .int (ii i) ∧ eI h 163 (ii i) = xA h 163 i := row_ok hR.k163 hi (by omega)
theorem RS.s163 {b : Nat} {v : Int32} (hR : RS h) (hi : i < 56) : xA (sI h 163 (ii i) v) b = if 163 = b then upf (xA h 163) i v else xA h b := sI_row hR.k163 hi (by omega)
theorem RS.k164 (hR : RS h) : kd h 164 = (1, 1, [6]) := hR.2.2 16 (by decide)
theorem RS.x164 (hR : RS h) (hi : i < 6) : okA h 164 .int (ii i) ∧ eI h 164 (ii i) = xA h 164 i := row_ok hR.k164 hi (by omega)
theorem RS.s164 {b : Nat} {v : Int32} (hR : RS h) (hi : i < 6) : xA (sI h 164 (ii i) v) b = if 164 = b then upf (xA h 164) i v else xA h b := sI_row hR.k164 hi (by omega)
theorem RS.k165 (hR : RS h) : kd h 165 = (1, 1, [6]) := hR.2.2 17 (by decide)
theorem RS.x165 (hR : RS h) (hi : i < 6) : okA h 165 .int (ii i) ∧ eI h 165 (ii i) = xA h 165 i := row_ok hR.k165 hi (by omega)
theorem RS.s165 {b : Nat} {v : Int32} (hR : RS h) (hi : i < 6) : xA (sI h 165 (ii i) v) b = if 165 = b then upf (xA h 165) i v else xA h b := sI_row hR.k165 hi (by omega)
theorem RS.k166 (hR : RS h) : kd h 166 = (1, 1, [6]) := hR.2.2 18 (by decide)
theorem RS.x166 (hR : RS h) (hi : i < 6) : okA h 166 .int (ii i) ∧ eI h 166 (ii i) = xA h 166 i := row_ok hR.k166 hi (by omega)
theorem RS.s166 {b : Nat} {v : Int32} (hR : RS h) (hi : i < 6) : xA (sI h 166 (ii i) v) b = if 166 = b then upf (xA h 166) i v else xA h b := sI_row hR.k166 hi (by omega)
theorem RS.k167 (hR : RS h) : kd h 167 = (1, 1, [6]) := hR.2.2 19 (by decide)
theorem RS.x167 (hR : RS h) (hi : i < 6) : okA h 167 .int (ii i) ∧ eI h 167 (ii i) = xA h 167 i := row_ok hR.k167 hi (by omega)
theorem RS.s167 {b : Nat} {v : Int32} (hR : RS h) (hi : i < 6) : xA (sI h 167 (ii i) v) b = if 167 = b then upf (xA h 167) i v else xA h b := sI_row hR.k167 hi (by omega)
theorem RS.k168 (hR : RS h) : kd h 168 = (1, 1, [6]) := hR.2.2 20 (by decide)
theorem RS.x168 (hR : RS h) (hi : i < 6) : okA h 168 .int (ii i) ∧ eI h 168 (ii i) = xA h 168 i := row_ok hR.k168 hi (by omega)
theorem RS.s168 {b : Nat} {v : Int32} (hR : RS h) (hi : i < 6) : xA (sI h 168 (ii i) v) b = if 168 = b then upf (xA h 168) i v else xA h b := sI_row hR.k168 hi (by omega)
theorem RS.k169 (hR : RS h) : kd h 169 = (1, 1, [6]) := hR.2.2 21 (by decide)
theorem RS.x169 (hR : RS h) (hi : i < 6) : okA h 169 .int (ii i) ∧ eI h 169 (ii i) = xA h 169 i := row_ok hR.k169 hi (by omega)
theorem RS.s169 {b : Nat} {v : Int32} (hR : RS h) (hi : i < 6) : xA (sI h 169 (ii i) v) b = if 169 = b then upf (xA h 169) i v else xA h b := sI_row hR.k169 hi (by omega)
theorem RS.k170 (hR : RS h) : kd h 170 = (1, 1, [10]) := hR.2.2 22 (by decide)
theorem RS.x170 (hR : RS h) (hi : i < 10) : okA h 170 .int (ii i) ∧ eI h 170 (ii i) = xA h 170 i := row_ok hR.k170 hi (by omega)
theorem RS.s170 {b : Nat} {v : Int32} (hR : RS h) (hi : i < 10) : xA (sI h 170 (ii i) v) b = if 170 = b then upf (xA h 170) i v else xA h b := sI_row hR.k170 hi (by omega)
theorem RS.k171 (hR : RS h) : kd h 171 = (1, 1, [10]) := hR.2.2 23 (by decide)
theorem RS.x171 (hR : RS h) (hi : i < 10) : okA h 171 .int (ii i) ∧ eI h 171 (ii i) = xA h 171 i := row_ok hR.k171 hi (by omega)
theorem RS.s171 {b : Nat} {v : Int32} (hR : RS h) (hi : i < 10) : xA (sI h 171 (ii i) v) b = if 171 = b then upf (xA h 171) i v else xA h b := sI_row hR.k171 hi (by omega)
theorem RS.k172 (hR : RS h) : kd h 172 = (1, 1, [10]) := hR.2.2 24 (by decide)
theorem RS.x172 (hR : RS h) (hi : i < 10) : okA h 172 .int (ii i) ∧ eI h 172 (ii i) = xA h 172 i := row_ok hR.k172 hi (by omega)
theorem RS.s172 {b : Nat} {v : Int32} (hR : RS h) (hi : i < 10) : xA (sI h 172 (ii i) v) b = if 172 = b then upf (xA h 172) i v else xA h b := sI_row hR.k172 hi (by omega)
theorem RS.k173 (hR : RS h) : kd h 173 = (1, 1, [8]) := hR.2.2 25 (by decide)
theorem RS.x173 (hR : RS h) (hi : i < 8) : okA h 173 .int (ii i) ∧ eI h 173 (ii i) = xA h 173 i := row_ok hR.k173 hi (by omega)
theorem RS.s173 {b : Nat} {v : Int32} (hR : RS h) (hi : i < 8) : xA (sI h 173 (ii i) v) b = if 173 = b then upf (xA h 173) i v else xA h b := sI_row hR.k173 hi (by omega)
theorem RS.k174 (hR : RS h) : kd h 174 = (1, 1, [8]) := hR.2.2 26 (by decide)
theorem RS.x174 (hR : RS h) (hi : i < 8) : okA h 174 .int (ii i) ∧ eI h 174 (ii i) = xA h 174 i := row_ok hR.k174 hi (by omega)
theorem RS.s174 {b : Nat} {v : Int32} (hR : RS h) (hi : i < 8) : xA (sI h 174 (ii i) v) b = if 174 = b then upf (xA h 174) i v else xA h b := sI_row hR.k174 hi (by omega)
theorem RS.k176 (hR : RS h) : kd h 176 = (1, 1, [1800]) := hR.2.2 28 (by decide)
theorem RS.x176 (hR : RS h) (hi : i < 1800) : okA h 176 .int (ii i) ∧ eI h 176 (ii i) = xA h 176 i := row_ok hR.k176 hi (by omega)
theorem RS.s176 {b : Nat} {v : Int32} (hR : RS h) (hi : i < 1800) : xA (sI h 176 (ii i) v) b = if 176 = b then upf (xA h 176) i v else xA h b := sI_row hR.k176 hi (by omega)
theorem RS.k177 (hR : RS h) : kd h 177 = (1, 1, [1800]) := hR.2.2 29 (by decide)
theorem RS.x177 (hR : RS h) (hi : i < 1800) : okA h 177 .int (ii i) ∧ eI h 177 (ii i) = xA h 177 i := row_ok hR.k177 hi (by omega)
theorem RS.s177 {b : Nat} {v : Int32} (hR : RS h) (hi : i < 1800) : xA (sI h 177 (ii i) v) b = if 177 = b then upf (xA h 177) i v else xA h b := sI_row hR.k177 hi (by omega)
theorem RS.k178 (hR : RS h) : kd h 178 = (1, 1, [6]) := hR.2.2 30 (by decide)
theorem RS.x178 (hR : RS h) (hi : i < 6) : okA h 178 .int (ii i) ∧ eI h 178 (ii i) = xA h 178 i := row_ok hR.k178 hi (by omega)
theorem RS.s178 {b : Nat} {v : Int32} (hR : RS h) (hi : i < 6) : xA (sI h 178 (ii i) v) b = if 178 = b then upf (xA h 178) i v else xA h b := sI_row hR.k178 hi (by omega)
theorem RS.k179 (hR : RS h) : kd h 179 = (1, 1, [72]) := hR.2.2 31 (by decide)
theorem RS.x179 (hR : RS h) (hi : i < 72) : okA h 179 .int (ii i) ∧ eI h 179 (ii i) = xA h 179 i := row_ok hR.k179 hi (by omega)
theorem RS.s179 {b : Nat} {v : Int32} (hR : RS h) (hi : i < 72) : xA (sI h 179 (ii i) v) b = if 179 = b then upf (xA h 179) i v else xA h b := sI_row hR.k179 hi (by omega)
theorem RS.k180 (hR : RS h) : kd h 180 = (1, 1, [72]) := hR.2.2 32 (by decide)
theorem RS.x180 (hR : RS h) (hi : i < 72) : okA h 180 .int (ii i) ∧ eI h 180 (ii i) = xA h 180 i := row_ok hR.k180 hi (by omega)
theorem RS.s180 {b : Nat} {v : Int32} (hR : RS h) (hi : i < 72) : xA (sI h 180 (ii i) v) b = if 180 = b then upf (xA h 180) i v else xA h b := sI_row hR.k180 hi (by omega)
theorem RS.k181 (hR : RS h) : kd h 181 = (1, 1, [72]) := hR.2.2 33 (by decide)
theorem RS.x181 (hR : RS h) (hi : i < 72) : okA h 181 .int (ii i) ∧ eI h 181 (ii i) = xA h 181 i := row_ok hR.k181 hi (by omega)
theorem RS.s181 {b : Nat} {v : Int32} (hR : RS h) (hi : i < 72) : xA (sI h 181 (ii i) v) b = if 181 = b then upf (xA h 181) i v else xA h b := sI_row hR.k181 hi (by omega)
theorem RS.k182 (hR : RS h) : kd h 182 = (1, 1, [402]) := hR.2.2 34 (by decide)
theorem RS.x182 (hR : RS h) (hi : i < 402) : okA h 182 .int (ii i) ∧ eI h 182 (ii i) = xA h 182 i := row_ok hR.k182 hi (by omega)
theorem RS.s182 {b : Nat} {v : Int32} (hR : RS h) (hi : i < 402) : xA (sI h 182 (ii i) v) b = if 182 = b then upf (xA h 182) i v else xA h b := sI_row hR.k182 hi (by omega)
theorem RS.k183 (hR : RS h) : kd h 183 = (1, 1, [192]) := hR.2.2 35 (by decide)
theorem RS.x183 (hR : RS h) (hi : i < 192) : okA h 183 .int (ii i) ∧ eI h 183 (ii i) = xA h 183 i := row_ok hR.k183 hi (by omega)
theorem RS.s183 {b : Nat} {v : Int32} (hR : RS h) (hi : i < 192) : xA (sI h 183 (ii i) v) b = if 183 = b then upf (xA h 183) i v else xA h b := sI_row hR.k183 hi (by omega)
theorem RS.k184 (hR : RS h) : kd h 184 = (1, 1, [88]) := hR.2.2 36 (by decide)
theorem RS.x184 (hR : RS h) (hi : i < 88) : okA h 184 .int (ii i) ∧ eI h 184 (ii i) = xA h 184 i := row_ok hR.k184 hi (by omega)
theorem RS.s184 {b : Nat} {v : Int32} (hR : RS h) (hi : i < 88) : xA (sI h 184 (ii i) v) b = if 184 = b then upf (xA h 184) i v else xA h b := sI_row hR.k184 hi (by omega)
theorem RS.k185 (hR : RS h) : kd h 185 = (1, 1, [88]) := hR.2.2 37 (by decide)
theorem RS.x185 (hR : RS h) (hi : i < 88) : okA h 185 .int (ii i) ∧ eI h 185 (ii i) = xA h 185 i := row_ok hR.k185 hi (by omega)
theorem RS.s185 {b : Nat} {v : Int32} (hR : RS h) (hi : i < 88) : xA (sI h 185 (ii i) v) b = if 185 = b then upf (xA h 185) i v else xA h b := sI_row hR.k185 hi (by omega)
theorem RS.k186 (hR : RS h) : kd h 186 = (1, 1, [8]) := hR.2.2 38 (by decide)
theorem RS.x186 (hR : RS h) (hi : i < 8) : okA h 186 .int (ii i) ∧ eI h 186 (ii i) = xA h 186 i := row_ok hR.k186 hi (by omega)
theorem RS.s186 {b : Nat} {v : Int32} (hR : RS h) (hi : i < 8) : xA (sI h 186 (ii i) v) b = if 186 = b then upf (xA h 186) i v else xA h b := sI_row hR.k186 hi (by omega)
theorem RS.k187 (hR : RS h) : kd h 187 = (1, 1, [11]) := hR.2.2 39 (by decide)
theorem RS.x187 (hR : RS h) (hi : i < 11) : okA h 187 .int (ii i) ∧ eI h 187 (ii i) = xA h 187 i := row_ok hR.k187 hi (by omega)
theorem RS.s187 {b : Nat} {v : Int32} (hR : RS h) (hi : i < 11) : xA (sI h 187 (ii i) v) b = if 187 = b then upf (xA h 187) i v else xA h b := sI_row hR.k187 hi (by omega)
theorem RS.k190 (hR : RS h) : kd h 190 = (1, 1, [36]) := hR.2.2 42 (by decide)
theorem RS.x190 (hR : RS h) (hi : i < 36) : okA h 190 .int (ii i) ∧ eI h 190 (ii i) = xA h 190 i := row_ok hR.k190 hi (by omega)
theorem RS.s190 {b : Nat} {v : Int32} (hR : RS h) (hi : i < 36) : xA (sI h 190 (ii i) v) b = if 190 = b then upf (xA h 190) i v else xA h b := sI_row hR.k190 hi (by omega)
theorem RS.k191 (hR : RS h) : kd h 191 = (1, 1, [1520]) := hR.2.2 43 (by decide)
theorem RS.x191 (hR : RS h) (hi : i < 1520) : okA h 191 .int (ii i) ∧ eI h 191 (ii i) = xA h 191 i := row_ok hR.k191 hi (by omega)
theorem RS.s191 {b : Nat} {v : Int32} (hR : RS h) (hi : i < 1520) : xA (sI h 191 (ii i) v) b = if 191 = b then upf (xA h 191) i v else xA h b := sI_row hR.k191 hi (by omega)
theorem RS.k192 (hR : RS h) : kd h 192 = (1, 1, [1]) := hR.2.2 44 (by decide)
theorem RS.x192 (hR : RS h) (hi : i < 1) : okA h 192 .int (ii i) ∧ eI h 192 (ii i) = xA h 192 i := row_ok hR.k192 hi (by omega)
theorem RS.s192 {b : Nat} {v : Int32} (hR : RS h) (hi : i < 1) : xA (sI h 192 (ii i) v) b = if 192 = b then upf (xA h 192) i v else xA h b := sI_row hR.k192 hi (by omega)
theorem RS.k193 (hR : RS h) : kd h 193 = (1, 1, [8]) := hR.2.2 45 (by decide)
theorem RS.x193 (hR : RS h) (hi : i < 8) : okA h 193 .int (ii i) ∧ eI h 193 (ii i) = xA h 193 i := row_ok hR.k193 hi (by omega)
theorem RS.s193 {b : Nat} {v : Int32} (hR : RS h) (hi : i < 8) : xA (sI h 193 (ii i) v) b = if 193 = b then upf (xA h 193) i v else xA h b := sI_row hR.k193 hi (by omega)
theorem RS.k194 (hR : RS h) : kd h 194 = (1, 1, [6]) := hR.2.2 46 (by decide)
theorem RS.x194 (hR : RS h) (hi : i < 6) : okA h 194 .int (ii i) ∧ eI h 194 (ii i) = xA h 194 i := row_ok hR.k194 hi (by omega)
theorem RS.s194 {b : Nat} {v : Int32} (hR : RS h) (hi : i < 6) : xA (sI h 194 (ii i) v) b = if 194 = b then upf (xA h 194) i v else xA h b := sI_row hR.k194 hi (by omega)
theorem RS.k195 (hR : RS h) : kd h 195 = (1, 1, [5]) := hR.2.2 47 (by decide)
theorem RS.x195 (hR : RS h) (hi : i < 5) : okA h 195 .int (ii i) ∧ eI h 195 (ii i) = xA h 195 i := row_ok hR.k195 hi (by omega)
theorem RS.s195 {b : Nat} {v : Int32} (hR : RS h) (hi : i < 5) : xA (sI h 195 (ii i) v) b = if 195 = b then upf (xA h 195) i v else xA h b := sI_row hR.k195 hi (by omega)
theorem RS.k196 (hR : RS h) : kd h 196 = (1, 1, [5]) := hR.2.2 48 (by decide)
theorem RS.x196 (hR : RS h) (hi : i < 5) : okA h 196 .int (ii i) ∧ eI h 196 (ii i) = xA h 196 i := row_ok hR.k196 hi (by omega)
theorem RS.s196 {b : Nat} {v : Int32} (hR : RS h) (hi : i < 5) : xA (sI h 196 (ii i) v) b = if 196 = b then upf (xA h 196) i v else xA h b := sI_row hR.k196 hi (by omega)
theorem RS.k197 (hR : RS h) : kd h 197 = (1, 1, [40]) := hR.2.2 49 (by decide)
theorem RS.x197 (hR : RS h) (hi : i < 40) : okA h 197 .int (ii i) ∧ eI h 197 (ii i) = xA h 197 i := row_ok hR.k197 hi (by omega)
theorem RS.s197 {b : Nat} {v : Int32} (hR : RS h) (hi : i < 40) : xA (sI h 197 (ii i) v) b = if 197 = b then upf (xA h 197) i v else xA h b := sI_row hR.k197 hi (by omega)
theorem RS.k198 (hR : RS h) : kd h 198 = (1, 1, [384]) := hR.2.2 50 (by decide)
theorem RS.x198 (hR : RS h) (hi : i < 384) : okA h 198 .int (ii i) ∧ eI h 198 (ii i) = xA h 198 i := row_ok hR.k198 hi (by omega)
theorem RS.s198 {b : Nat} {v : Int32} (hR : RS h) (hi : i < 384) : xA (sI h 198 (ii i) v) b = if 198 = b then upf (xA h 198) i v else xA h b := sI_row hR.k198 hi (by omega)
theorem RS.k199 (hR : RS h) : kd h 199 = (1, 1, [24]) := hR.2.2 51 (by decide)
theorem RS.x199 (hR : RS h) (hi : i < 24) : okA h 199 .int (ii i) ∧ eI h 199 (ii i) = xA h 199 i := row_ok hR.k199 hi (by omega)
theorem RS.s199 {b : Nat} {v : Int32} (hR : RS h) (hi : i < 24) : xA (sI h 199 (ii i) v) b = if 199 = b then upf (xA h 199) i v else xA h b := sI_row hR.k199 hi (by omega)
theorem RS.k200 (hR : RS h) : kd h 200 = (1, 1, [8800]) := hR.2.2 52 (by decide)
theorem RS.x200 (hR : RS h) (hi : i < 8800) : okA h 200 .int (ii i) ∧ eI h 200 (ii i) = xA h 200 i := row_ok hR.k200 hi (by omega)
theorem RS.s200 {b : Nat} {v : Int32} (hR : RS h) (hi : i < 8800) : xA (sI h 200 (ii i) v) b = if 200 = b then upf (xA h 200) i v else xA h b := sI_row hR.k200 hi (by omega)
theorem RS.k175 (hR : RS h) : kd h 175 = (1, 2, [400]) := hR.2.2 27 (by decide)
theorem RS.k201 (hR : RS h) : kd h 201 = (1, 3, [4]) := hR.2.2 53 (by decide)
theorem RS.k188 (hR : RS h) : kd h 188 = (2, 0, [10]) := hR.2.2 40 (by decide)
theorem RS.k189 (hR : RS h) : kd h 189 = (2, 0, [300]) := hR.2.2 41 (by decide)
end Rx
section Bits
variable {d : Nat} {h h1 : mHeap} {x y : Int32} {k n j : Nat}
theorem downI {P : Nat → Prop} {n : Nat} (h0 : P n) (hs : ∀ k, k < n → P (k + 1) → P k) : ∀ j k, k + j = n → P k := by
  intro j
  induction j with
  | zero => intro k hk; rw [show k = n by omega]; exact h0
  | succ j ih => intro k hk; exact hs k (by omega) (ih (k + 1) (by omega))
theorem downA {P : Nat → Prop} {n : Nat} (h0 : P n) (hs : ∀ k, k < n → P (k + 1) → P k) {k : Nat} (hk : k ≤ n) : P k := downI h0 hs (n - k) k (by omega)
/-- bit k of a word -/
def wb (x : Int32) (k : Nat) : Bool := x.toBitVec.getLsbD k
theorem wb_ii (hk : k < 32) : wb (ii (n : Int)) k = n.testBit k := by
  unfold wb
  rw [ii_bv, BitVec.getLsbD_ofNat]
  simp [hk]
theorem wb_ge (hk : 32 ≤ k) : wb x k = false := BitVec.getLsbD_of_ge _ _ hk
theorem wb_and : wb (x &&& y) k = (wb x k && wb y k) := by
  unfold wb
  rw [Int32.toBitVec_and, BitVec.getLsbD_and]
theorem wb_or : wb (x ||| y) k = (wb x k || wb y k) := by
  unfold wb
  rw [Int32.toBitVec_or, BitVec.getLsbD_or]
theorem wb_no (hk : k < 32) : wb (x ^^^ ii (-1)) k = !wb x k := by
  unfold wb
  rw [Int32.toBitVec_xor, BitVec.getLsbD_xor, show (ii (-1)).toBitVec = BitVec.allOnes 32 by decide, BitVec.getLsbD_allOnes]
  simp [hk]
theorem wb_ext (e : ∀ k, k < 32 → wb x k = wb y k) : x = y := Int32.toBitVec_inj.mp (BitVec.eq_of_getLsbD_eq e)
theorem wb_0 : wb (ii 0) k = false := by
  unfold wb
  rw [show (ii 0).toBitVec = 0#32 by rfl, BitVec.getLsbD_zero]
theorem wb_z : x = ii 0 ↔ ∀ k, k < 32 → wb x k = false := ⟨fun e k _ => by rw [e]; exact wb_0, fun e => wb_ext fun k hk => by rw [e k hk, wb_0]⟩
theorem wb_m1 (hk : k < 32) : wb (ii (-1)) k = true := by
  unfold wb
  rw [show (ii (-1)).toBitVec = BitVec.allOnes 32 by decide, BitVec.getLsbD_allOnes]
  simp [hk]
theorem wb_shl (hj : j < 32) (hk : k < 32) : wb (shl (ii 1) (ii k)) j = decide (k = j) := by
  rw [shl1 hk, wb_ii hj, Nat.testBit_two_pow]
theorem shB (hk : k < 32) : shr x (ii k) &&& ii 1 = ii (if wb x k = true then 1 else 0) := by
  apply wb_ext
  intro j hj
  rw [wb_and]
  have e1 : wb (ii 1) j = decide (j = 0) := by
    rw [show ii 1 = ii ((1 : Nat) : Int) from rfl, wb_ii hj, show (1 : Nat) = 2 ^ 0 from rfl, Nat.testBit_two_pow]
    exact decide_eq_decide.mpr ⟨fun e => e.symm, fun e => e.symm⟩
  have e2 : wb (shr x (ii k)) 0 = wb x k := by
    unfold wb
    rw [shr_bv hk, BitVec.getLsbD_sshiftRight]
    simp [hk]
  rw [e1]
  by_cases c : j = 0
  · subst c
    rw [e2]
    cases e3 : wb x k with
    | true => rw [if_pos rfl, e1]; rfl
    | false => rw [if_neg Bool.false_ne_true, wb_0]; rfl
  · rw [decide_eq_false c, Bool.and_false]
    cases e3 : wb x k with
    | true => rw [if_pos rfl, e1, decide_eq_false c]
    | false => rw [if_neg Bool.false_ne_true, wb_0]
theorem ushB (hk : k < 32) : ushr x (ii k) &&& ii 1 = ii (if wb x k = true then 1 else 0) := by
  have e : nI32 (ushr x (ii k) &&& ii 1) = nI32 (ii ((if wb x k = true then 1 else 0 : Nat) : Int)) := by
    rw [nI32_and, nI32_shr x hk, show nI32 (ii 1) = 1 from rfl, Nat.and_one_is_mod, nI32_ii (by split <;> omega)]
    have t : wb x k = decide (nI32 x / 2 ^ k % 2 = 1) := by
      show (nI32 x).testBit k = _
      rw [Nat.testBit_eq_decide_div_mod_eq]
    by_cases c : nI32 x / 2 ^ k % 2 = 1
    · rw [c, if_pos (by rw [t]; exact decide_eq_true c)]
    · rw [if_neg (by rw [t, decide_eq_false c]; exact Bool.false_ne_true)]
      omega
  have e2 : (ushr x (ii k) &&& ii 1).toBitVec = (ii ((if wb x k = true then 1 else 0 : Nat) : Int)).toBitVec := BitVec.eq_of_toNat_eq e
  rw [Int32.toBitVec_inj.mp e2]
  cases wb x k <;> rfl
theorem c184 {K : Int32 → mHeap → Prop} : GoCi (d + 1) 184 [.int x] h K ↔ K (ii (cB (wb x) 32)) h := by
  rw [e184, b184_0]
  have L := downA (n := 32) (P := fun k => (Go d 184 4 [some (.int x), some (.int (ii (cB (wb x) k : Nat))), some (.int (ii (k : Nat)))] [] h (rI K) ↔ K (ii (cB (wb x) 32)) h)) (by
    rw [b184_4, if_pos (by rw [show ii 32 = ii ((32 : Nat) : Int) from rfl]; exact Int32.le_refl _), rI_s]) (fun k hk ih => by
    rw [b184_4, if_neg (by rw [show ii 32 = ii (32 : Int) from rfl, ii_le (by omega) (by omega) (by omega) (by omega)]; omega), ushB hk, ii_add, ii_add]
    rw [show (cB (wb x) k : Int) + (if wb x k = true then 1 else 0) = ((cB (wb x) (k + 1) : Nat) : Int) by
      show _ = ((cB (wb x) k + (if wb x k = true then 1 else 0) : Nat) : Int)
      cases wb x k <;> rfl]
    exact ih) (Nat.zero_le _)
  exact L
theorem c185 {K : Int32 → mHeap → Prop} (hk : k < 32) : GoCi (d + 1) 185 [.int x, .int (ii k)] h K ↔ K (if wb x k = true then ii 1 else ii 0) h := by
  rw [e185, b185_0, shB hk]
  simp only [true_or, or_true, true_and, rI_s]
  cases e : wb x k with
  | true => rw [if_pos rfl, if_neg (by decide), if_pos rfl]
  | false => rw [if_neg Bool.false_ne_true, if_pos (by decide), if_neg Bool.false_ne_true]
theorem jj_lt {a b : Int} (h1 : -9223372036854775808 ≤ a) (h2 : a < 9223372036854775808) (h3 : -9223372036854775808 ≤ b) (h4 : b < 9223372036854775808) : jj a < jj b ↔ a < b := by
  rw [Int64.lt_iff_toInt_lt, jj_toInt h1 h2, jj_toInt h3 h4]
theorem c183 {K : Int32 → mHeap → Prop} {a b c : Int} (ha : i32 a) (hb : i32 b) (hc : i32 c) : GoCi (d + 1) 183 [.long (jj a), .long (jj b), .long (jj c)] h K ↔ K (if b ≤ a ∧ a ≤ c then ii 1 else ii 0) h := by
  rw [e183, b183_0]
  simp only [true_or, or_true, true_and, rI_s]
  by_cases q : a < b
  · rw [if_pos (lg_lt.mpr ((jj_lt (by omega) (by omega) (by omega) (by omega)).mpr q)), if_neg (by omega)]
  · rw [if_neg (fun g => q ((jj_lt (by omega) (by omega) (by omega) (by omega)).mp (lg_lt.mp g)))]
    by_cases q2 : c < a
    · rw [if_pos (lg_gt.mpr ((jj_lt (by omega) (by omega) (by omega) (by omega)).mpr q2)), if_neg (by omega)]
    · rw [if_neg (fun g => q2 ((jj_lt (by omega) (by omega) (by omega) (by omega)).mp (lg_gt.mp g))), if_pos (by omega)]
theorem cin {K : Int32 → mHeap → Prop} {z m : Int} (hz : i32 z) (h0 : 0 ≤ m) (hm : m < 2147483648) : GoCi (d + 1) 183 [.long (ii z).toInt64, .long (jj 0), .long (ii m - ii 1).toInt64] h K ↔ K (if 0 ≤ z ∧ z < m then ii 1 else ii 0) h := by
  rw [ii_sub, i2l_ii hz.1 hz.2, i2l_ii (by omega) (by omega), show jj 0 = jj (0 : Int) from rfl, c183 hz ⟨by omega, by omega⟩ ⟨by omega, by omega⟩]
  by_cases q : 0 ≤ z ∧ z < m
  · rw [if_pos q, if_pos (by omega)]
  · rw [if_neg q, if_neg (by omega)]
theorem cin2 {K : Int32 → mHeap → Prop} {z a b : Int} (hz : i32 z) (ha : i32 a) (hb : i32 b) : GoCi (d + 1) 183 [.long (ii z).toInt64, .long (jj a), .long (jj b)] h K ↔ K (if a ≤ z ∧ z ≤ b then ii 1 else ii 0) h := by
  rw [i2l_ii hz.1 hz.2, c183 hz ha hb]
end Bits
/-! a set of worlds as eight words -/
section Rw8
variable {x y : Nat → Int32} {b k w : Nat} {W : Wd}
def rw8 (x : Nat → Int32) (b : Nat) : Wd := fun w => decide (w < 256) && wb (x (8 * b + w / 32)) (w % 32)
theorem rw8_at (hk : k < 8) {j : Nat} (hj : j < 32) : rw8 x b (32 * k + j) = wb (x (8 * b + k)) j := by
  unfold rw8
  rw [show (32 * k + j) / 32 = k by omega, show (32 * k + j) % 32 = j by omega, decide_eq_true (by omega : 32 * k + j < 256), Bool.true_and]
theorem rw8_ge (hw : 256 ≤ w) : rw8 x b w = false := by
  unfold rw8
  rw [decide_eq_false (by omega), Bool.false_and]
theorem rw8_ext (e : ∀ k j, k < 8 → j < 32 → wb (x (8 * b + k)) j = W (32 * k + j)) (g : ∀ w, 256 ≤ w → W w = false) : rw8 x b = W := by
  funext w
  by_cases c : w < 256
  · have := e (w / 32) (w % 32) (by omega) (by omega)
    rw [show 32 * (w / 32) + w % 32 = w by omega] at this
    rw [← this]
    unfold rw8
    rw [decide_eq_true c, Bool.true_and]
  · rw [rw8_ge (by omega), g w (by omega)]
theorem rw8_cong (e : ∀ k, k < 8 → x (8 * b + k) = y (8 * b + k)) : rw8 x b = rw8 y b := rw8_ext (fun k j hk hj => by rw [e k hk, rw8_at hk hj]) (fun w hw => rw8_ge hw)
theorem cB_rw8 (hk : k < 8) : cB (rw8 x b) (32 * (k + 1)) = cB (rw8 x b) (32 * k) + cB (wb (x (8 * b + k))) 32 := by
  rw [show 32 * (k + 1) = 32 * k + 32 by omega, cB_add]
  rw [cB_cong (u := fun i => rw8 x b (32 * k + i)) (v := wb (x (8 * b + k))) (fun i hi => rw8_at hk hi)]
end Rw8
