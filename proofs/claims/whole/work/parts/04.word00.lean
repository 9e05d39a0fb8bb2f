set_option maxRecDepth 100000 in
theorem mCw_0 : lw_tbl[468]? = some (.code (mNm 0) prog_2_method_1_code 4 (none)) := rfl
set_option maxRecDepth 100000 in
theorem mCw_1 : lw_tbl[1239]? = some (.code (mNm 1) prog_2_method_2_code 5 ((Option.some Jvm.ClassFile.FieldType.boolean))) := rfl
set_option maxRecDepth 100000 in
theorem mCw_2 : lw_tbl[1234]? = some (.code (mNm 2) prog_2_method_3_code 5 ((Option.some Jvm.ClassFile.FieldType.int))) := rfl
set_option maxRecDepth 100000 in
theorem mCw_3 : lw_tbl[1245]? = some (.code (mNm 3) prog_2_method_4_code 5 ((Option.some Jvm.ClassFile.FieldType.int))) := rfl
set_option maxRecDepth 100000 in
theorem mCw_4 : lw_tbl[1229]? = some (.code (mNm 4) prog_2_method_5_code 9 ((Option.some Jvm.ClassFile.FieldType.int))) := rfl
set_option maxRecDepth 100000 in
theorem mCw_5 : lw_tbl[1250]? = some (.code (mNm 5) prog_2_method_6_code 7 ((Option.some Jvm.ClassFile.FieldType.int))) := rfl
set_option maxRecDepth 100000 in
theorem mCw_6 : lw_tbl[1261]? = some (.code (mNm 6) prog_2_method_7_code 6 ((Option.some Jvm.ClassFile.FieldType.int))) := rfl
set_option maxRecDepth 100000 in
theorem mCw_7 : lw_tbl[1265]? = some (.code (mNm 7) prog_2_method_8_code 5 ((Option.some Jvm.ClassFile.FieldType.boolean))) := rfl
set_option maxRecDepth 100000 in
theorem mCw_8 : lw_tbl[1274]? = some (.code (mNm 8) prog_2_method_9_code 6 ((Option.some Jvm.ClassFile.FieldType.boolean))) := rfl
set_option maxRecDepth 100000 in
theorem mCw_9 : lw_tbl[1270]? = some (.code (mNm 9) prog_2_method_10_code 9 ((Option.some Jvm.ClassFile.FieldType.int))) := rfl
set_option maxRecDepth 100000 in
theorem mCw_10 : lw_tbl[1277]? = some (.code (mNm 10) prog_2_method_11_code 2 ((Option.some Jvm.ClassFile.FieldType.int))) := rfl
set_option maxRecDepth 100000 in
theorem mCw_11 : lw_tbl[1280]? = some (.code (mNm 11) prog_2_method_12_code 2 ((Option.some Jvm.ClassFile.FieldType.int))) := rfl
set_option maxRecDepth 100000 in
theorem mCw_12 : lw_tbl[1284]? = some (.code (mNm 12) prog_2_method_13_code 6 ((Option.some Jvm.ClassFile.FieldType.int))) := rfl
set_option maxRecDepth 100000 in
theorem mCw_13 : lw_tbl[1292]? = some (.code (mNm 13) prog_2_method_14_code 9 ((Option.some Jvm.ClassFile.FieldType.int))) := rfl
set_option maxRecDepth 100000 in
theorem mCw_14 : lw_tbl[1296]? = some (.code (mNm 14) prog_2_method_15_code 7 ((Option.some Jvm.ClassFile.FieldType.int))) := rfl
set_option maxRecDepth 100000 in
theorem mCw_15 : lw_tbl[1302]? = some (.code (mNm 15) prog_2_method_16_code 5 (none)) := rfl
set_option maxRecDepth 100000 in
theorem mCw_16 : lw_tbl[1312]? = some (.code (mNm 16) prog_2_method_17_code 9 ((Option.some Jvm.ClassFile.FieldType.int))) := rfl
set_option maxRecDepth 100000 in
theorem mCw_17 : lw_tbl[1316]? = some (.code (mNm 17) prog_2_method_18_code 4 ((Option.some Jvm.ClassFile.FieldType.int))) := rfl
set_option maxRecDepth 100000 in
theorem mCw_18 : lw_tbl[1320]? = some (.code (mNm 18) prog_2_method_19_code 4 (none)) := rfl
set_option maxRecDepth 100000 in
theorem mCw_19 : lw_tbl[501]? = some (.code (mNm 19) prog_3_method_1_code 3 (none)) := rfl
set_option maxRecDepth 100000 in
theorem mCw_20 : lw_tbl[1123]? = some (.code (mNm 20) prog_3_method_2_code 9 ((Option.some Jvm.ClassFile.FieldType.int))) := rfl
set_option maxRecDepth 100000 in
theorem mCw_21 : lw_tbl[1128]? = some (.code (mNm 21) prog_3_method_3_code 9 ((Option.some Jvm.ClassFile.FieldType.int))) := rfl
set_option maxRecDepth 100000 in
theorem mCw_22 : lw_tbl[1132]? = some (.code (mNm 22) prog_3_method_4_code 3 (none)) := rfl
set_option maxRecDepth 100000 in
theorem mCw_23 : lw_tbl[1143]? = some (.code (mNm 23) prog_3_method_5_code 4 (none)) := rfl
set_option maxRecDepth 100000 in
theorem mCw_24 : lw_tbl[1139]? = some (.code (mNm 24) prog_3_method_6_code 4 ((Option.some Jvm.ClassFile.FieldType.int))) := rfl
set_option maxRecDepth 100000 in
theorem mCw_25 : lw_tbl[1379]? = some (.code (mNm 25) prog_3_method_7_code 7 ((Option.some Jvm.ClassFile.FieldType.int))) := rfl
set_option maxRecDepth 100000 in
theorem mCw_26 : lw_tbl[1384]? = some (.code (mNm 26) prog_3_method_8_code 4 (none)) := rfl
set_option maxRecDepth 100000 in
theorem mCw_27 : lw_tbl[1388]? = some (.code (mNm 27) prog_3_method_9_code 1 ((Option.some Jvm.ClassFile.FieldType.int))) := rfl
set_option maxRecDepth 100000 in
theorem mCw_28 : lw_tbl[1213]? = some (.code (mNm 28) prog_3_method_10_code 7 ((Option.some Jvm.ClassFile.FieldType.int))) := rfl
set_option maxRecDepth 100000 in
theorem mCw_29 : lw_tbl[276]? = some (.code (mNm 29) prog_4_method_1_code 1 (none)) := rfl
set_option maxRecDepth 100000 in
theorem mCw_30 : lw_tbl[584]? = some (.code (mNm 30) prog_4_method_2_code 3 (none)) := rfl
set_option maxRecDepth 100000 in
theorem mCw_31 : lw_tbl[670]? = some (.code (mNm 31) prog_4_method_3_code 2 (none)) := rfl
set_option maxRecDepth 100000 in
theorem mCw_32 : lw_tbl[677]? = some (.code (mNm 32) prog_4_method_4_code 4 (none)) := rfl
set_option maxRecDepth 100000 in
theorem mCw_33 : lw_tbl[689]? = some (.code (mNm 33) prog_4_method_5_code 2 ((Option.some Jvm.ClassFile.FieldType.boolean))) := rfl
set_option maxRecDepth 100000 in
theorem mCw_34 : lw_tbl[697]? = some (.code (mNm 34) prog_4_method_6_code 4 (none)) := rfl
set_option maxRecDepth 100000 in
theorem mCw_35 : lw_tbl[711]? = some (.code (mNm 35) prog_4_method_7_code 6 (none)) := rfl
set_option maxRecDepth 100000 in
theorem mCw_36 : lw_tbl[715]? = some (.code (mNm 36) prog_4_method_8_code 3 (none)) := rfl
set_option maxRecDepth 100000 in
theorem mCw_37 : lw_tbl[719]? = some (.code (mNm 37) prog_4_method_9_code 5 (none)) := rfl
set_option maxRecDepth 100000 in
theorem mCw_38 : lw_tbl[727]? = some (.code (mNm 38) prog_4_method_10_code 4 (none)) := rfl
set_option maxRecDepth 100000 in
theorem mCw_39 : lw_tbl[723]? = some (.code (mNm 39) prog_4_method_11_code 5 (none)) := rfl
set_option maxRecDepth 100000 in
theorem mCw_40 : lw_tbl[739]? = some (.code (mNm 40) prog_4_method_12_code 4 (none)) := rfl
set_option maxRecDepth 100000 in
theorem mCw_41 : lw_tbl[743]? = some (.code (mNm 41) prog_4_method_13_code 3 ((Option.some Jvm.ClassFile.FieldType.int))) := rfl
set_option maxRecDepth 100000 in
theorem mCw_42 : lw_tbl[1096]? = some (.code (mNm 42) prog_4_method_14_code 4 ((Option.some Jvm.ClassFile.FieldType.int))) := rfl
set_option maxRecDepth 100000 in
theorem mCw_43 : lw_tbl[351]? = some (.code (mNm 43) prog_5_method_1_code 2 (none)) := rfl
set_option maxRecDepth 100000 in
theorem mCw_44 : lw_tbl[1065]? = some (.code (mNm 44) prog_5_method_2_code 3 (none)) := rfl
set_option maxRecDepth 100000 in
theorem mCw_45 : lw_tbl[752]? = some (.code (mNm 45) prog_5_method_3_code 4 (none)) := rfl
set_option maxRecDepth 100000 in
theorem mCw_46 : lw_tbl[768]? = some (.code (mNm 46) prog_5_method_4_code 2 ((Option.some (Jvm.ClassFile.FieldType.object "TruthBridge$Worlds")))) := rfl
set_option maxRecDepth 100000 in
theorem mCw_47 : lw_tbl[772]? = some (.code (mNm 47) prog_5_method_5_code 2 ((Option.some Jvm.ClassFile.FieldType.boolean))) := rfl
set_option maxRecDepth 100000 in
theorem mCw_48 : lw_tbl[935]? = some (.code (mNm 48) prog_5_method_6_code 2 ((Option.some Jvm.ClassFile.FieldType.int))) := rfl
set_option maxRecDepth 100000 in
theorem mCw_49 : lw_tbl[939]? = some (.code (mNm 49) prog_5_method_7_code 2 ((Option.some Jvm.ClassFile.FieldType.boolean))) := rfl
set_option maxRecDepth 100000 in
theorem mCw_50 : lw_tbl[1070]? = some (.code (mNm 50) prog_5_method_8_code 6 ((Option.some Jvm.ClassFile.FieldType.int))) := rfl
set_option maxRecDepth 100000 in
theorem mCw_51 : lw_tbl[1092]? = some (.code (mNm 51) prog_5_method_9_code 3 (none)) := rfl
set_option maxRecDepth 100000 in
theorem mCw_52 : lw_tbl[1100]? = some (.code (mNm 52) prog_5_method_10_code 4 (none)) := rfl
set_option maxRecDepth 100000 in
theorem mCw_53 : lw_tbl[270]? = some (.code (mNm 53) prog_6_method_1_code 1 (none)) := rfl
set_option maxRecDepth 100000 in
theorem mCw_54 : lw_tbl[1001]? = some (.code (mNm 54) prog_6_method_2_code 1 ((Option.some Jvm.ClassFile.FieldType.boolean))) := rfl
set_option maxRecDepth 100000 in
theorem mCw_55 : lw_tbl[748]? = some (.code (mNm 55) prog_6_method_3_code 2 (none)) := rfl
set_option maxRecDepth 100000 in
theorem mCw_56 : lw_tbl[1408]? = some (.code (mNm 56) prog_6_method_4_code 3 (none)) := rfl
set_option maxRecDepth 100000 in
theorem mCw_57 : lw_tbl[1053]? = some (.code (mNm 57) prog_6_method_5_code 1 (none)) := rfl
set_option maxRecDepth 100000 in
theorem mCw_58 : lw_tbl[1057]? = some (.code (mNm 58) prog_6_method_6_code 3 (none)) := rfl
set_option maxRecDepth 100000 in
theorem mCw_59 : lw_tbl[1061]? = some (.code (mNm 59) prog_6_method_7_code 4 (none)) := rfl
