set_option maxRecDepth 100000 in
theorem mCw_60 : lw_tbl[1115]? = some (.code (mNm 60) prog_6_method_8_code 2 ((Option.some Jvm.ClassFile.FieldType.int))) := rfl
set_option maxRecDepth 100000 in
theorem mCw_61 : lw_tbl[1328]? = some (.code (mNm 61) prog_6_method_9_code 3 (none)) := rfl
set_option maxRecDepth 100000 in
theorem mCw_62 : lw_tbl[1354]? = some (.code (mNm 62) prog_6_method_10_code 2 ((Option.some Jvm.ClassFile.FieldType.boolean))) := rfl
set_option maxRecDepth 100000 in
theorem mCw_63 : lw_tbl[906]? = some (.code (mNm 63) prog_7_method_1_code 5 (none)) := rfl
set_option maxRecDepth 100000 in
theorem mCw_64 : lw_tbl[1149]? = some (.code (mNm 64) prog_7_method_2_code 5 ((Option.some Jvm.ClassFile.FieldType.long))) := rfl
set_option maxRecDepth 100000 in
theorem mCw_65 : lw_tbl[1153]? = some (.code (mNm 65) prog_7_method_3_code 8 ((Option.some Jvm.ClassFile.FieldType.long))) := rfl
set_option maxRecDepth 100000 in
theorem mCw_66 : lw_tbl[1156]? = some (.code (mNm 66) prog_7_method_4_code 5 ((Option.some Jvm.ClassFile.FieldType.long))) := rfl
set_option maxRecDepth 100000 in
theorem mCw_67 : lw_tbl[1159]? = some (.code (mNm 67) prog_7_method_5_code 5 ((Option.some Jvm.ClassFile.FieldType.boolean))) := rfl
set_option maxRecDepth 100000 in
theorem mCw_68 : lw_tbl[437]? = some (.code (mNm 68) prog_8_method_1_code 2 (none)) := rfl
set_option maxRecDepth 100000 in
theorem mCw_69 : lw_tbl[841]? = some (.code (mNm 69) prog_8_method_2_code 2 (none)) := rfl
set_option maxRecDepth 100000 in
theorem mCw_70 : lw_tbl[883]? = some (.code (mNm 70) prog_8_method_3_code 1 ((Option.some (Jvm.ClassFile.FieldType.object "TruthBridge$Rule")))) := rfl
set_option maxRecDepth 100000 in
theorem mCw_71 : lw_tbl[846]? = some (.code (mNm 71) prog_8_method_4_code 1 (none)) := rfl
set_option maxRecDepth 100000 in
theorem mCw_72 : lw_tbl[870]? = some (.code (mNm 72) prog_8_method_5_code 4 (none)) := rfl
set_option maxRecDepth 100000 in
theorem mCw_73 : lw_tbl[874]? = some (.code (mNm 73) prog_8_method_6_code 4 (none)) := rfl
set_option maxRecDepth 100000 in
theorem mCw_74 : lw_tbl[853]? = some (.code (mNm 74) prog_8_method_7_code 4 (none)) := rfl
set_option maxRecDepth 100000 in
theorem mCw_75 : lw_tbl[877]? = some (.code (mNm 75) prog_8_method_8_code 1 ((Option.some Jvm.ClassFile.FieldType.boolean))) := rfl
set_option maxRecDepth 100000 in
theorem mCw_76 : lw_tbl[856]? = some (.code (mNm 76) prog_8_method_9_code 1 ((Option.some Jvm.ClassFile.FieldType.boolean))) := rfl
set_option maxRecDepth 100000 in
theorem mCw_77 : lw_tbl[860]? = some (.code (mNm 77) prog_8_method_10_code 3 ((Option.some Jvm.ClassFile.FieldType.int))) := rfl
set_option maxRecDepth 100000 in
theorem mCw_78 : lw_tbl[865]? = some (.code (mNm 78) prog_8_method_11_code 2 (none)) := rfl
set_option maxRecDepth 100000 in
theorem mCw_79 : lw_tbl[424]? = some (.code (mNm 79) prog_9_method_1_code 2 (none)) := rfl
set_option maxRecDepth 100000 in
theorem mCw_80 : lw_tbl[784]? = some (.code (mNm 80) prog_9_method_2_code 2 ((Option.some (Jvm.ClassFile.FieldType.object "TruthBridge$Worlds")))) := rfl
set_option maxRecDepth 100000 in
theorem mCw_81 : lw_tbl[789]? = some (.code (mNm 81) prog_9_method_3_code 5 ((Option.some (Jvm.ClassFile.FieldType.object "TruthBridge$Worlds")))) := rfl
set_option maxRecDepth 100000 in
theorem mCw_82 : lw_tbl[795]? = some (.code (mNm 82) prog_9_method_4_code 4 ((Option.some (Jvm.ClassFile.FieldType.object "TruthBridge$Worlds")))) := rfl
set_option maxRecDepth 100000 in
theorem mCw_83 : lw_tbl[800]? = some (.code (mNm 83) prog_9_method_5_code 4 ((Option.some (Jvm.ClassFile.FieldType.object "TruthBridge$Worlds")))) := rfl
set_option maxRecDepth 100000 in
theorem mCw_84 : lw_tbl[216]? = some (.code (mNm 84) prog_10_method_1_code 2 (none)) := rfl
set_option maxRecDepth 100000 in
theorem mCw_85 : lw_tbl[829]? = some (.code (mNm 85) prog_10_method_2_code 2 ((Option.some Jvm.ClassFile.FieldType.int))) := rfl
set_option maxRecDepth 100000 in
theorem mCw_86 : lw_tbl[1177]? = some (.code (mNm 86) prog_10_method_3_code 4 (none)) := rfl
set_option maxRecDepth 100000 in
theorem mCw_87 : lw_tbl[1173]? = some (.code (mNm 87) prog_10_method_4_code 4 ((Option.some Jvm.ClassFile.FieldType.boolean))) := rfl
set_option maxRecDepth 100000 in
theorem mCw_88 : lw_tbl[1194]? = some (.code (mNm 88) prog_10_method_5_code 10 ((Option.some Jvm.ClassFile.FieldType.int))) := rfl
set_option maxRecDepth 100000 in
theorem mCw_89 : lw_tbl[1204]? = some (.code (mNm 89) prog_10_method_6_code 4 ((Option.some Jvm.ClassFile.FieldType.boolean))) := rfl
set_option maxRecDepth 100000 in
theorem mCw_90 : lw_tbl[1336]? = some (.code (mNm 90) prog_10_method_7_code 3 ((Option.some Jvm.ClassFile.FieldType.int))) := rfl
set_option maxRecDepth 100000 in
theorem mCw_91 : lw_tbl[1366]? = some (.code (mNm 91) prog_10_method_8_code 7 ((Option.some Jvm.ClassFile.FieldType.int))) := rfl
set_option maxRecDepth 100000 in
theorem mCw_92 : lw_tbl[1344]? = some (.code (mNm 92) prog_10_method_9_code 1 ((Option.some Jvm.ClassFile.FieldType.int))) := rfl
set_option maxRecDepth 100000 in
theorem mCw_93 : lw_tbl[1340]? = some (.code (mNm 93) prog_10_method_10_code 4 (none)) := rfl
set_option maxRecDepth 100000 in
theorem mCw_94 : lw_tbl[1350]? = some (.code (mNm 94) prog_10_method_11_code 3 ((Option.some Jvm.ClassFile.FieldType.boolean))) := rfl
set_option maxRecDepth 100000 in
theorem mCw_95 : lw_tbl[1358]? = some (.code (mNm 95) prog_10_method_12_code 2 (none)) := rfl
set_option maxRecDepth 100000 in
theorem mCw_96 : lw_tbl[184]? = some (.code (mNm 96) prog_11_method_1_code 1 (none)) := rfl
set_option maxRecDepth 100000 in
theorem mCw_97 : lw_tbl[566]? = some (.code (mNm 97) prog_11_method_2_code 2 ((Option.some Jvm.ClassFile.FieldType.boolean))) := rfl
set_option maxRecDepth 100000 in
theorem mCw_98 : lw_tbl[570]? = some (.code (mNm 98) prog_11_method_3_code 3 (none)) := rfl
set_option maxRecDepth 100000 in
theorem mCw_99 : lw_tbl[588]? = some (.code (mNm 99) prog_11_method_4_code 3 (none)) := rfl
set_option maxRecDepth 100000 in
theorem mCw_100 : lw_tbl[657]? = some (.code (mNm 100) prog_11_method_5_code 3 (none)) := rfl
set_option maxRecDepth 100000 in
theorem mCw_101 : lw_tbl[592]? = some (.code (mNm 101) prog_11_method_6_code 4 ((Option.some Jvm.ClassFile.FieldType.int))) := rfl
set_option maxRecDepth 100000 in
theorem mCw_102 : lw_tbl[600]? = some (.code (mNm 102) prog_11_method_7_code 4 ((Option.some Jvm.ClassFile.FieldType.int))) := rfl
set_option maxRecDepth 100000 in
theorem mCw_103 : lw_tbl[604]? = some (.code (mNm 103) prog_11_method_8_code 8 ((Option.some Jvm.ClassFile.FieldType.int))) := rfl
set_option maxRecDepth 100000 in
theorem mCw_104 : lw_tbl[665]? = some (.code (mNm 104) prog_11_method_9_code 4 ((Option.some Jvm.ClassFile.FieldType.int))) := rfl
set_option maxRecDepth 100000 in
theorem mCw_105 : lw_tbl[596]? = some (.code (mNm 105) prog_11_method_10_code 2 ((Option.some Jvm.ClassFile.FieldType.boolean))) := rfl
set_option maxRecDepth 100000 in
theorem mCw_106 : lw_tbl[661]? = some (.code (mNm 106) prog_11_method_11_code 2 ((Option.some Jvm.ClassFile.FieldType.boolean))) := rfl
set_option maxRecDepth 100000 in
theorem mCw_107 : lw_tbl[681]? = some (.code (mNm 107) prog_11_method_12_code 1 ((Option.some Jvm.ClassFile.FieldType.int))) := rfl
set_option maxRecDepth 100000 in
theorem mCw_108 : lw_tbl[693]? = some (.code (mNm 108) prog_11_method_13_code 1 (none)) := rfl
set_option maxRecDepth 100000 in
theorem mCw_109 : lw_tbl[731]? = some (.code (mNm 109) prog_11_method_14_code 2 ((Option.some Jvm.ClassFile.FieldType.boolean))) := rfl
set_option maxRecDepth 100000 in
theorem mCw_110 : lw_tbl[814]? = some (.code (mNm 110) prog_11_method_15_code 2 (none)) := rfl
set_option maxRecDepth 100000 in
theorem mCw_111 : lw_tbl[735]? = some (.code (mNm 111) prog_11_method_16_code 1 (none)) := rfl
set_option maxRecDepth 100000 in
theorem mCw_112 : lw_tbl[685]? = some (.code (mNm 112) prog_11_method_17_code 2 (none)) := rfl
set_option maxRecDepth 100000 in
theorem mCw_113 : lw_tbl[707]? = some (.code (mNm 113) prog_11_method_18_code 1 ((Option.some Jvm.ClassFile.FieldType.boolean))) := rfl
set_option maxRecDepth 100000 in
theorem mCw_114 : lw_tbl[701]? = some (.code (mNm 114) prog_11_method_19_code 4 ((Option.some Jvm.ClassFile.FieldType.int))) := rfl
set_option maxRecDepth 100000 in
theorem mCw_115 : lw_tbl[223]? = some (.code (mNm 115) prog_12_method_1_code 1 (none)) := rfl
set_option maxRecDepth 100000 in
theorem mCw_116 : lw_tbl[763]? = some (.code (mNm 116) prog_12_method_2_code 9 (none)) := rfl
set_option maxRecDepth 100000 in
theorem mCw_117 : lw_tbl[833]? = some (.code (mNm 117) prog_12_method_3_code 2 (none)) := rfl
set_option maxRecDepth 100000 in
theorem mCw_118 : lw_tbl[757]? = some (.code (mNm 118) prog_12_method_4_code 6 (none)) := rfl
set_option maxRecDepth 100000 in
theorem mCw_119 : lw_tbl[806]? = some (.code (mNm 119) prog_12_method_5_code 4 (none)) := rfl
