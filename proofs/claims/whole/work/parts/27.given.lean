def mLow : List Int64 := [-6148914691236517206, -3689348814741910324, -1085102592571150096, -71777214294589696, -281470681808896, -4294967296]
def mByts : List (List Int32) := [[102, 97, 99, 116, 115, 32, 112, 108, 97, 99, 101, 32, 112, 97, 116, 104, 32, 116, 117, 114, 110, 32, 112, 101, 114, 115, 111, 110, 32, 115, 105, 100, 101, 32, 119, 101, 105, 103, 104, 116, 32, 115, 97, 121, 105, 110, 103, 32, 107, 110, 111, 119, 115, 32, 103, 97, 105, 110, 32, 108, 101, 102, 116, 32, 104, 101, 114, 101, 32, 100, 97, 121, 32, 112, 114, 105, 99, 101, 32, 110, 111, 116, 32, 97, 110, 100, 32, 111, 114, 32, 115, 97, 121, 32, 105, 102, 32], [102, 97, 99, 116, 115], [112, 101, 114, 115, 111, 110], [112, 108, 97, 99, 101], [112, 97, 116, 104], [116, 117, 114, 110], [110, 111, 116], [97], [98], [99], [100], [101], [102], [103], [104], [97, 110, 100], [111, 114], [115, 97, 121], [115, 105, 100, 101], [119, 101, 105, 103, 104, 116], [115, 97, 121, 105, 110, 103], [107, 110, 111, 119, 115], [103, 97, 105, 110], [108, 101, 102, 116], [104, 101, 114, 101], [100, 97, 121], [112, 114, 105, 99, 101], [105, 102]]
def mS0 (X : List Int32) : mHeap := mI .int X :: mJ mLow :: ((List.range 28).map (fun i => mO 16 [.ref (30 + i), .int 0]) ++ ((List.range 28).map (fun i => mI .byte (mByts.getD i [])) ++ List.replicate 6 (mO 99 [])))
def mTm (i : Nat) : Term := .string (mOw (mStrs.getD i (0, 0, 0)).1) (mStrs.getD i (0, 0, 0)).2.1
abbrev mGiv : Cond := Jvm.Cond.and given_1 narrow_1
theorem st_ex : ∀ i, i < 28 → Cond.exactly (mTm i) "java/lang/String" ∈ flatC mGiv := by decide +kernel
theorem st_co : ∀ i, i < 28 → Cond.eq (.field (mTm i) "java/lang/String" "coder" "B") (.int 0) ∈ flatC mGiv := by decide +kernel
theorem st_ar : ∀ i, i < 28 → Cond.arrayOf (.field (mTm i) "java/lang/String" "value" "[B") .byte ∈ flatC mGiv := by decide +kernel
theorem st_le : ∀ i, i < 28 → Cond.eq (.length (.field (mTm i) "java/lang/String" "value" "[B")) (.int (Int32.ofNat (mByts.getD i []).length)) ∈ flatC mGiv := by decide +kernel
theorem st_el_0 : (List.range 97).map (fun j => Cond.eq (.elem (.field (mTm 0) "java/lang/String" "value" "[B") (.int (Int32.ofNat j))) (.int ((mByts.getD 0 []).getD j 0))) = ((flatC mGiv).drop 74).take 97 := by decide +kernel
theorem st_el_1 : (List.range 5).map (fun j => Cond.eq (.elem (.field (mTm 1) "java/lang/String" "value" "[B") (.int (Int32.ofNat j))) (.int ((mByts.getD 1 []).getD j 0))) = ((flatC mGiv).drop 175).take 5 := by decide +kernel
theorem st_el_2 : (List.range 6).map (fun j => Cond.eq (.elem (.field (mTm 2) "java/lang/String" "value" "[B") (.int (Int32.ofNat j))) (.int ((mByts.getD 2 []).getD j 0))) = ((flatC mGiv).drop 184).take 6 := by decide +kernel
theorem st_el_3 : (List.range 5).map (fun j => Cond.eq (.elem (.field (mTm 3) "java/lang/String" "value" "[B") (.int (Int32.ofNat j))) (.int ((mByts.getD 3 []).getD j 0))) = ((flatC mGiv).drop 194).take 5 := by decide +kernel
theorem st_el_4 : (List.range 4).map (fun j => Cond.eq (.elem (.field (mTm 4) "java/lang/String" "value" "[B") (.int (Int32.ofNat j))) (.int ((mByts.getD 4 []).getD j 0))) = ((flatC mGiv).drop 203).take 4 := by decide +kernel
theorem st_el_5 : (List.range 4).map (fun j => Cond.eq (.elem (.field (mTm 5) "java/lang/String" "value" "[B") (.int (Int32.ofNat j))) (.int ((mByts.getD 5 []).getD j 0))) = ((flatC mGiv).drop 211).take 4 := by decide +kernel
theorem st_el_6 : (List.range 3).map (fun j => Cond.eq (.elem (.field (mTm 6) "java/lang/String" "value" "[B") (.int (Int32.ofNat j))) (.int ((mByts.getD 6 []).getD j 0))) = ((flatC mGiv).drop 219).take 3 := by decide +kernel
theorem st_el_7 : (List.range 1).map (fun j => Cond.eq (.elem (.field (mTm 7) "java/lang/String" "value" "[B") (.int (Int32.ofNat j))) (.int ((mByts.getD 7 []).getD j 0))) = ((flatC mGiv).drop 226).take 1 := by decide +kernel
theorem st_el_8 : (List.range 1).map (fun j => Cond.eq (.elem (.field (mTm 8) "java/lang/String" "value" "[B") (.int (Int32.ofNat j))) (.int ((mByts.getD 8 []).getD j 0))) = ((flatC mGiv).drop 231).take 1 := by decide +kernel
theorem st_el_9 : (List.range 1).map (fun j => Cond.eq (.elem (.field (mTm 9) "java/lang/String" "value" "[B") (.int (Int32.ofNat j))) (.int ((mByts.getD 9 []).getD j 0))) = ((flatC mGiv).drop 236).take 1 := by decide +kernel
theorem st_el_10 : (List.range 1).map (fun j => Cond.eq (.elem (.field (mTm 10) "java/lang/String" "value" "[B") (.int (Int32.ofNat j))) (.int ((mByts.getD 10 []).getD j 0))) = ((flatC mGiv).drop 241).take 1 := by decide +kernel
theorem st_el_11 : (List.range 1).map (fun j => Cond.eq (.elem (.field (mTm 11) "java/lang/String" "value" "[B") (.int (Int32.ofNat j))) (.int ((mByts.getD 11 []).getD j 0))) = ((flatC mGiv).drop 246).take 1 := by decide +kernel
theorem st_el_12 : (List.range 1).map (fun j => Cond.eq (.elem (.field (mTm 12) "java/lang/String" "value" "[B") (.int (Int32.ofNat j))) (.int ((mByts.getD 12 []).getD j 0))) = ((flatC mGiv).drop 251).take 1 := by decide +kernel
theorem st_el_13 : (List.range 1).map (fun j => Cond.eq (.elem (.field (mTm 13) "java/lang/String" "value" "[B") (.int (Int32.ofNat j))) (.int ((mByts.getD 13 []).getD j 0))) = ((flatC mGiv).drop 256).take 1 := by decide +kernel
theorem st_el_14 : (List.range 1).map (fun j => Cond.eq (.elem (.field (mTm 14) "java/lang/String" "value" "[B") (.int (Int32.ofNat j))) (.int ((mByts.getD 14 []).getD j 0))) = ((flatC mGiv).drop 261).take 1 := by decide +kernel
theorem st_el_15 : (List.range 3).map (fun j => Cond.eq (.elem (.field (mTm 15) "java/lang/String" "value" "[B") (.int (Int32.ofNat j))) (.int ((mByts.getD 15 []).getD j 0))) = ((flatC mGiv).drop 266).take 3 := by decide +kernel
theorem st_el_16 : (List.range 2).map (fun j => Cond.eq (.elem (.field (mTm 16) "java/lang/String" "value" "[B") (.int (Int32.ofNat j))) (.int ((mByts.getD 16 []).getD j 0))) = ((flatC mGiv).drop 273).take 2 := by decide +kernel
theorem st_el_17 : (List.range 3).map (fun j => Cond.eq (.elem (.field (mTm 17) "java/lang/String" "value" "[B") (.int (Int32.ofNat j))) (.int ((mByts.getD 17 []).getD j 0))) = ((flatC mGiv).drop 279).take 3 := by decide +kernel
theorem st_el_18 : (List.range 4).map (fun j => Cond.eq (.elem (.field (mTm 18) "java/lang/String" "value" "[B") (.int (Int32.ofNat j))) (.int ((mByts.getD 18 []).getD j 0))) = ((flatC mGiv).drop 286).take 4 := by decide +kernel
theorem st_el_19 : (List.range 6).map (fun j => Cond.eq (.elem (.field (mTm 19) "java/lang/String" "value" "[B") (.int (Int32.ofNat j))) (.int ((mByts.getD 19 []).getD j 0))) = ((flatC mGiv).drop 294).take 6 := by decide +kernel
theorem st_el_20 : (List.range 6).map (fun j => Cond.eq (.elem (.field (mTm 20) "java/lang/String" "value" "[B") (.int (Int32.ofNat j))) (.int ((mByts.getD 20 []).getD j 0))) = ((flatC mGiv).drop 304).take 6 := by decide +kernel
theorem st_el_21 : (List.range 5).map (fun j => Cond.eq (.elem (.field (mTm 21) "java/lang/String" "value" "[B") (.int (Int32.ofNat j))) (.int ((mByts.getD 21 []).getD j 0))) = ((flatC mGiv).drop 314).take 5 := by decide +kernel
theorem st_el_22 : (List.range 4).map (fun j => Cond.eq (.elem (.field (mTm 22) "java/lang/String" "value" "[B") (.int (Int32.ofNat j))) (.int ((mByts.getD 22 []).getD j 0))) = ((flatC mGiv).drop 323).take 4 := by decide +kernel
theorem st_el_23 : (List.range 4).map (fun j => Cond.eq (.elem (.field (mTm 23) "java/lang/String" "value" "[B") (.int (Int32.ofNat j))) (.int ((mByts.getD 23 []).getD j 0))) = ((flatC mGiv).drop 331).take 4 := by decide +kernel
theorem st_el_24 : (List.range 4).map (fun j => Cond.eq (.elem (.field (mTm 24) "java/lang/String" "value" "[B") (.int (Int32.ofNat j))) (.int ((mByts.getD 24 []).getD j 0))) = ((flatC mGiv).drop 339).take 4 := by decide +kernel
theorem st_el_25 : (List.range 3).map (fun j => Cond.eq (.elem (.field (mTm 25) "java/lang/String" "value" "[B") (.int (Int32.ofNat j))) (.int ((mByts.getD 25 []).getD j 0))) = ((flatC mGiv).drop 347).take 3 := by decide +kernel
theorem st_el_26 : (List.range 5).map (fun j => Cond.eq (.elem (.field (mTm 26) "java/lang/String" "value" "[B") (.int (Int32.ofNat j))) (.int ((mByts.getD 26 []).getD j 0))) = ((flatC mGiv).drop 354).take 5 := by decide +kernel
theorem st_el_27 : (List.range 2).map (fun j => Cond.eq (.elem (.field (mTm 27) "java/lang/String" "value" "[B") (.int (Int32.ofNat j))) (.int ((mByts.getD 27 []).getD j 0))) = ((flatC mGiv).drop 363).take 2 := by decide +kernel
theorem st_el : ∀ i, i < 28 → ∀ j, j < (mByts.getD i []).length → Cond.eq (.elem (.field (mTm i) "java/lang/String" "value" "[B") (.int (Int32.ofNat j))) (.int ((mByts.getD i []).getD j 0)) ∈ flatC mGiv := by
  intro i hi
  match i, hi with
  | 0, _ => exact fun j hj => va_run st_el_0 j hj
  | 1, _ => exact fun j hj => va_run st_el_1 j hj
  | 2, _ => exact fun j hj => va_run st_el_2 j hj
  | 3, _ => exact fun j hj => va_run st_el_3 j hj
  | 4, _ => exact fun j hj => va_run st_el_4 j hj
  | 5, _ => exact fun j hj => va_run st_el_5 j hj
  | 6, _ => exact fun j hj => va_run st_el_6 j hj
  | 7, _ => exact fun j hj => va_run st_el_7 j hj
  | 8, _ => exact fun j hj => va_run st_el_8 j hj
  | 9, _ => exact fun j hj => va_run st_el_9 j hj
  | 10, _ => exact fun j hj => va_run st_el_10 j hj
  | 11, _ => exact fun j hj => va_run st_el_11 j hj
  | 12, _ => exact fun j hj => va_run st_el_12 j hj
  | 13, _ => exact fun j hj => va_run st_el_13 j hj
  | 14, _ => exact fun j hj => va_run st_el_14 j hj
  | 15, _ => exact fun j hj => va_run st_el_15 j hj
  | 16, _ => exact fun j hj => va_run st_el_16 j hj
  | 17, _ => exact fun j hj => va_run st_el_17 j hj
  | 18, _ => exact fun j hj => va_run st_el_18 j hj
  | 19, _ => exact fun j hj => va_run st_el_19 j hj
  | 20, _ => exact fun j hj => va_run st_el_20 j hj
  | 21, _ => exact fun j hj => va_run st_el_21 j hj
  | 22, _ => exact fun j hj => va_run st_el_22 j hj
  | 23, _ => exact fun j hj => va_run st_el_23 j hj
  | 24, _ => exact fun j hj => va_run st_el_24 j hj
  | 25, _ => exact fun j hj => va_run st_el_25 j hj
  | 26, _ => exact fun j hj => va_run st_el_26 j hj
  | 27, _ => exact fun j hj => va_run st_el_27 j hj
  | n + 28, h => omega
theorem lo_ar : Cond.arrayOf (.static "TruthBridge$Worlds" "LOW_FACTS" "[J") .long ∈ flatC mGiv := by decide +kernel
theorem lo_le : Cond.eq (.length (.static "TruthBridge$Worlds" "LOW_FACTS" "[J")) (.int (Int32.ofNat 6)) ∈ flatC mGiv := by decide +kernel
theorem lo_el : ∀ j, j < 6 → Cond.eq (.elem (.static "TruthBridge$Worlds" "LOW_FACTS" "[J") (.int (Int32.ofNat j))) (.long (mLow.getD j 0)) ∈ flatC mGiv := by decide +kernel
theorem co_eq : Cond.eq (.static "java/lang/String" "COMPACT_STRINGS" "Z") (.int 1) ∈ flatC mGiv := by decide +kernel
theorem sb_is : Cond.isRef (.static "jdk/internal/util/Preconditions" "SIOOBE_FORMATTER" "Ljava/util/function/BiFunction;") ∈ flatC mGiv := by decide +kernel
theorem st_wd : ∀ q ∈ mStrs, Cond.stringRef (mOw q.1) q.2.1 (mTx q.2.2) ∈ lw_tbl := by decide +kernel
theorem st_at : ∀ q ∈ mStrs, q.2.2 - 2 < 28 ∧ 2 ≤ q.2.2 ∧ q.2.2 < 30 ∧ mTm (q.2.2 - 2) = .string (mOw q.1) q.2.1 := by decide +kernel
theorem ne_wd : ∀ q ∈ mNests, Cond.methodLinkNest (mOw q.1) q.2.1 (mNm q.2.2) "TruthBridge" ∈ lw_tbl := by decide +kernel
theorem ao_wd : Cond.arrayOver (.object RX10) ∈ lw_tbl ∧ Cond.arrayOver (.object RX3) ∈ lw_tbl ∧ Cond.arrayOver (.object RX5) ∈ lw_tbl ∧ Cond.arrayOver (.object RX4) ∈ lw_tbl := by decide +kernel
theorem ca_wd : Cond.castable "[I" "java/lang/Cloneable" ∈ lw_tbl := by decide +kernel
theorem ls_wd : Cond.laysStatic "TruthBridge$Worlds" "LOW_FACTS" "[J" ∈ lw_tbl ∧ Cond.laysStatic "java/lang/String" "COMPACT_STRINGS" "Z" ∈ lw_tbl ∧ Cond.laysStatic "jdk/internal/util/Preconditions" "SIOOBE_FORMATTER" "Ljava/util/function/BiFunction;" ∈ lw_tbl := by decide +kernel
theorem in_wd : Cond.initialized "TruthBridge$Worlds" ∈ lw_tbl ∧ Cond.initialized "java/lang/String" ∈ lw_tbl ∧ Cond.initialized "jdk/internal/util/Preconditions" ∈ lw_tbl := by decide +kernel
theorem mOk_law : mOk 328 := ⟨fun c hc => Option.some.inj hc ▸ mk328, by decide +kernel⟩
