set_option maxRecDepth 100000 in
theorem mLf_0 : mLf 0 := ⟨List.mem_of_getElem? mCw_0, ⟨(468, 159, 467, 0), List.all_eq_true.mp mMw_0 (mInfoAt 0, (468, 159, 467, 0)) (List.mem_of_getElem? (i := 0) rfl)⟩, fun c hc => Option.some.inj hc ▸ mk0⟩
set_option maxRecDepth 100000 in
theorem mLf_1 : mLf 1 := ⟨List.mem_of_getElem? mCw_1, ⟨(1239, 159, 1238, 43), List.all_eq_true.mp mMw_0 (mInfoAt 1, (1239, 159, 1238, 43)) (List.mem_of_getElem? (i := 1) rfl)⟩, fun c hc => Option.some.inj hc ▸ mk1⟩
set_option maxRecDepth 100000 in
theorem mLf_2 : mLf 2 := ⟨List.mem_of_getElem? mCw_2, ⟨(1234, 159, 1233, 42), List.all_eq_true.mp mMw_0 (mInfoAt 2, (1234, 159, 1233, 42)) (List.mem_of_getElem? (i := 2) rfl)⟩, fun c hc => Option.some.inj hc ▸ mk2⟩
set_option maxRecDepth 100000 in
theorem mLf_3 : mLf 3 := ⟨List.mem_of_getElem? mCw_3, ⟨(1245, 159, 1244, 44), List.all_eq_true.mp mMw_0 (mInfoAt 3, (1245, 159, 1244, 44)) (List.mem_of_getElem? (i := 3) rfl)⟩, fun c hc => Option.some.inj hc ▸ mk3⟩
set_option maxRecDepth 100000 in
theorem mLf_4 : mLf 4 := ⟨List.mem_of_getElem? mCw_4, ⟨(1229, 159, 1227, 1228), List.all_eq_true.mp mMw_0 (mInfoAt 4, (1229, 159, 1227, 1228)) (List.mem_of_getElem? (i := 4) rfl)⟩, fun c hc => Option.some.inj hc ▸ mk4⟩
set_option maxRecDepth 100000 in
theorem mLf_5 : mLf 5 := ⟨List.mem_of_getElem? mCw_5, ⟨(1250, 159, 1249, 45), List.all_eq_true.mp mMw_0 (mInfoAt 5, (1250, 159, 1249, 45)) (List.mem_of_getElem? (i := 5) rfl)⟩, fun c hc => Option.some.inj hc ▸ mk5⟩
set_option maxRecDepth 100000 in
theorem mLf_6 : mLf 6 := ⟨List.mem_of_getElem? mCw_6, ⟨(1261, 159, 1259, 1260), List.all_eq_true.mp mMw_0 (mInfoAt 6, (1261, 159, 1259, 1260)) (List.mem_of_getElem? (i := 6) rfl)⟩, fun c hc => Option.some.inj hc ▸ mk6⟩
set_option maxRecDepth 100000 in
theorem mLf_7 : mLf 7 := ⟨List.mem_of_getElem? mCw_7, ⟨(1265, 159, 1264, 46), List.all_eq_true.mp mMw_0 (mInfoAt 7, (1265, 159, 1264, 46)) (List.mem_of_getElem? (i := 7) rfl)⟩, fun c hc => Option.some.inj hc ▸ mk7⟩
set_option maxRecDepth 100000 in
theorem mLf_8 : mLf 8 := ⟨List.mem_of_getElem? mCw_8, ⟨(1274, 159, 1273, 48), List.all_eq_true.mp mMw_0 (mInfoAt 8, (1274, 159, 1273, 48)) (List.mem_of_getElem? (i := 8) rfl)⟩, fun c hc => Option.some.inj hc ▸ mk8⟩
set_option maxRecDepth 100000 in
theorem mLf_9 : mLf 9 := ⟨List.mem_of_getElem? mCw_9, ⟨(1270, 159, 1269, 47), List.all_eq_true.mp mMw_0 (mInfoAt 9, (1270, 159, 1269, 47)) (List.mem_of_getElem? (i := 9) rfl)⟩, fun c hc => Option.some.inj hc ▸ mk9⟩
set_option maxRecDepth 100000 in
theorem mLf_10 : mLf 10 := ⟨List.mem_of_getElem? mCw_10, ⟨(1277, 159, 1276, 0), List.all_eq_true.mp mMw_0 (mInfoAt 10, (1277, 159, 1276, 0)) (List.mem_of_getElem? (i := 10) rfl)⟩, fun c hc => Option.some.inj hc ▸ mk10⟩
set_option maxRecDepth 100000 in
theorem mLf_11 : mLf 11 := ⟨List.mem_of_getElem? mCw_11, ⟨(1280, 159, 1279, 0), List.all_eq_true.mp mMw_0 (mInfoAt 11, (1280, 159, 1279, 0)) (List.mem_of_getElem? (i := 11) rfl)⟩, fun c hc => Option.some.inj hc ▸ mk11⟩
set_option maxRecDepth 100000 in
theorem mLf_12 : mLf 12 := ⟨List.mem_of_getElem? mCw_12, ⟨(1284, 159, 1283, 49), List.all_eq_true.mp mMw_0 (mInfoAt 12, (1284, 159, 1283, 49)) (List.mem_of_getElem? (i := 12) rfl)⟩, fun c hc => Option.some.inj hc ▸ mk12⟩
set_option maxRecDepth 100000 in
theorem mLf_13 : mLf 13 := ⟨List.mem_of_getElem? mCw_13, ⟨(1292, 159, 1290, 1291), List.all_eq_true.mp mMw_0 (mInfoAt 13, (1292, 159, 1290, 1291)) (List.mem_of_getElem? (i := 13) rfl)⟩, fun c hc => Option.some.inj hc ▸ mk13⟩
set_option maxRecDepth 100000 in
theorem mLf_14 : mLf 14 := ⟨List.mem_of_getElem? mCw_14, ⟨(1296, 159, 1295, 50), List.all_eq_true.mp mMw_0 (mInfoAt 14, (1296, 159, 1295, 50)) (List.mem_of_getElem? (i := 14) rfl)⟩, fun c hc => Option.some.inj hc ▸ mk14⟩
set_option maxRecDepth 100000 in
theorem mLf_15 : mLf 15 := ⟨List.mem_of_getElem? mCw_15, ⟨(1302, 159, 1301, 51), List.all_eq_true.mp mMw_0 (mInfoAt 15, (1302, 159, 1301, 51)) (List.mem_of_getElem? (i := 15) rfl)⟩, fun c hc => Option.some.inj hc ▸ mk15⟩
set_option maxRecDepth 100000 in
theorem mLf_16 : mLf 16 := ⟨List.mem_of_getElem? mCw_16, ⟨(1312, 159, 1310, 1311), List.all_eq_true.mp mMw_0 (mInfoAt 16, (1312, 159, 1310, 1311)) (List.mem_of_getElem? (i := 16) rfl)⟩, fun c hc => Option.some.inj hc ▸ mk16⟩
set_option maxRecDepth 100000 in
theorem mLf_17 : mLf 17 := ⟨List.mem_of_getElem? mCw_17, ⟨(1316, 159, 1315, 52), List.all_eq_true.mp mMw_0 (mInfoAt 17, (1316, 159, 1315, 52)) (List.mem_of_getElem? (i := 17) rfl)⟩, fun c hc => Option.some.inj hc ▸ mk17⟩
set_option maxRecDepth 100000 in
theorem mLf_18 : mLf 18 := ⟨List.mem_of_getElem? mCw_18, ⟨(1320, 159, 1319, 53), List.all_eq_true.mp mMw_0 (mInfoAt 18, (1320, 159, 1319, 53)) (List.mem_of_getElem? (i := 18) rfl)⟩, fun c hc => Option.some.inj hc ▸ mk18⟩
set_option maxRecDepth 100000 in
theorem mLf_19 : mLf 19 := ⟨List.mem_of_getElem? mCw_19, ⟨(501, 160, 500, 0), List.all_eq_true.mp mMw_0 (mInfoAt 19, (501, 160, 500, 0)) (List.mem_of_getElem? (i := 19) rfl)⟩, fun c hc => Option.some.inj hc ▸ mk19⟩
set_option maxRecDepth 100000 in
theorem mLf_20 : mLf 20 := ⟨List.mem_of_getElem? mCw_20, ⟨(1123, 160, 1121, 1122), List.all_eq_true.mp mMw_0 (mInfoAt 20, (1123, 160, 1121, 1122)) (List.mem_of_getElem? (i := 20) rfl)⟩, fun c hc => Option.some.inj hc ▸ mk20⟩
set_option maxRecDepth 100000 in
theorem mLf_21 : mLf 21 := ⟨List.mem_of_getElem? mCw_21, ⟨(1128, 160, 1127, 35), List.all_eq_true.mp mMw_0 (mInfoAt 21, (1128, 160, 1127, 35)) (List.mem_of_getElem? (i := 21) rfl)⟩, fun c hc => Option.some.inj hc ▸ mk21⟩
set_option maxRecDepth 100000 in
theorem mLf_22 : mLf 22 := ⟨List.mem_of_getElem? mCw_22, ⟨(1132, 160, 1131, 36), List.all_eq_true.mp mMw_0 (mInfoAt 22, (1132, 160, 1131, 36)) (List.mem_of_getElem? (i := 22) rfl)⟩, fun c hc => Option.some.inj hc ▸ mk22⟩
set_option maxRecDepth 100000 in
theorem mLf_23 : mLf 23 := ⟨List.mem_of_getElem? mCw_23, ⟨(1143, 160, 1142, 38), List.all_eq_true.mp mMw_0 (mInfoAt 23, (1143, 160, 1142, 38)) (List.mem_of_getElem? (i := 23) rfl)⟩, fun c hc => Option.some.inj hc ▸ mk23⟩
set_option maxRecDepth 100000 in
theorem mLf_24 : mLf 24 := ⟨List.mem_of_getElem? mCw_24, ⟨(1139, 160, 1138, 37), List.all_eq_true.mp mMw_0 (mInfoAt 24, (1139, 160, 1138, 37)) (List.mem_of_getElem? (i := 24) rfl)⟩, fun c hc => Option.some.inj hc ▸ mk24⟩
set_option maxRecDepth 100000 in
theorem mLf_25 : mLf 25 := ⟨List.mem_of_getElem? mCw_25, ⟨(1379, 160, 1377, 1378), List.all_eq_true.mp mMw_0 (mInfoAt 25, (1379, 160, 1377, 1378)) (List.mem_of_getElem? (i := 25) rfl)⟩, fun c hc => Option.some.inj hc ▸ mk25⟩
set_option maxRecDepth 100000 in
theorem mLf_26 : mLf 26 := ⟨List.mem_of_getElem? mCw_26, ⟨(1384, 160, 1383, 58), List.all_eq_true.mp mMw_0 (mInfoAt 26, (1384, 160, 1383, 58)) (List.mem_of_getElem? (i := 26) rfl)⟩, fun c hc => Option.some.inj hc ▸ mk26⟩
set_option maxRecDepth 100000 in
theorem mLf_27 : mLf 27 := ⟨List.mem_of_getElem? mCw_27, ⟨(1388, 160, 1387, 59), List.all_eq_true.mp mMw_0 (mInfoAt 27, (1388, 160, 1387, 59)) (List.mem_of_getElem? (i := 27) rfl)⟩, fun c hc => Option.some.inj hc ▸ mk27⟩
set_option maxRecDepth 100000 in
theorem mLf_28 : mLf 28 := ⟨List.mem_of_getElem? mCw_28, ⟨(1213, 160, 1211, 1212), List.all_eq_true.mp mMw_0 (mInfoAt 28, (1213, 160, 1211, 1212)) (List.mem_of_getElem? (i := 28) rfl)⟩, fun c hc => Option.some.inj hc ▸ mk28⟩
set_option maxRecDepth 100000 in
theorem mLf_29 : mLf 29 := ⟨List.mem_of_getElem? mCw_29, ⟨(276, 155, 275, 0), List.all_eq_true.mp mMw_0 (mInfoAt 29, (276, 155, 275, 0)) (List.mem_of_getElem? (i := 29) rfl)⟩, fun c hc => Option.some.inj hc ▸ mk29⟩
set_option maxRecDepth 100000 in
theorem mLf_30 : mLf 30 := ⟨List.mem_of_getElem? mCw_30, ⟨(584, 155, 582, 583), List.all_eq_true.mp mMw_0 (mInfoAt 30, (584, 155, 582, 583)) (List.mem_of_getElem? (i := 30) rfl)⟩, fun c hc => Option.some.inj hc ▸ mk30⟩
set_option maxRecDepth 100000 in
theorem mLf_31 : mLf 31 := ⟨List.mem_of_getElem? mCw_31, ⟨(670, 155, 669, 7), List.all_eq_true.mp mMw_0 (mInfoAt 31, (670, 155, 669, 7)) (List.mem_of_getElem? (i := 31) rfl)⟩, fun c hc => Option.some.inj hc ▸ mk31⟩
set_option maxRecDepth 100000 in
theorem mLf_32 : mLf 32 := ⟨List.mem_of_getElem? mCw_32, ⟨(677, 155, 676, 8), List.all_eq_true.mp mMw_0 (mInfoAt 32, (677, 155, 676, 8)) (List.mem_of_getElem? (i := 32) rfl)⟩, fun c hc => Option.some.inj hc ▸ mk32⟩
set_option maxRecDepth 100000 in
theorem mLf_33 : mLf 33 := ⟨List.mem_of_getElem? mCw_33, ⟨(689, 155, 688, 9), List.all_eq_true.mp mMw_0 (mInfoAt 33, (689, 155, 688, 9)) (List.mem_of_getElem? (i := 33) rfl)⟩, fun c hc => Option.some.inj hc ▸ mk33⟩
set_option maxRecDepth 100000 in
theorem mLf_34 : mLf 34 := ⟨List.mem_of_getElem? mCw_34, ⟨(697, 155, 696, 10), List.all_eq_true.mp mMw_0 (mInfoAt 34, (697, 155, 696, 10)) (List.mem_of_getElem? (i := 34) rfl)⟩, fun c hc => Option.some.inj hc ▸ mk34⟩
set_option maxRecDepth 100000 in
theorem mLf_35 : mLf 35 := ⟨List.mem_of_getElem? mCw_35, ⟨(711, 155, 710, 11), List.all_eq_true.mp mMw_0 (mInfoAt 35, (711, 155, 710, 11)) (List.mem_of_getElem? (i := 35) rfl)⟩, fun c hc => Option.some.inj hc ▸ mk35⟩
set_option maxRecDepth 100000 in
theorem mLf_36 : mLf 36 := ⟨List.mem_of_getElem? mCw_36, ⟨(715, 155, 714, 12), List.all_eq_true.mp mMw_0 (mInfoAt 36, (715, 155, 714, 12)) (List.mem_of_getElem? (i := 36) rfl)⟩, fun c hc => Option.some.inj hc ▸ mk36⟩
set_option maxRecDepth 100000 in
theorem mLf_37 : mLf 37 := ⟨List.mem_of_getElem? mCw_37, ⟨(719, 155, 718, 13), List.all_eq_true.mp mMw_0 (mInfoAt 37, (719, 155, 718, 13)) (List.mem_of_getElem? (i := 37) rfl)⟩, fun c hc => Option.some.inj hc ▸ mk37⟩
set_option maxRecDepth 100000 in
theorem mLf_38 : mLf 38 := ⟨List.mem_of_getElem? mCw_38, ⟨(727, 155, 726, 15), List.all_eq_true.mp mMw_0 (mInfoAt 38, (727, 155, 726, 15)) (List.mem_of_getElem? (i := 38) rfl)⟩, fun c hc => Option.some.inj hc ▸ mk38⟩
set_option maxRecDepth 100000 in
theorem mLf_39 : mLf 39 := ⟨List.mem_of_getElem? mCw_39, ⟨(723, 155, 722, 14), List.all_eq_true.mp mMw_0 (mInfoAt 39, (723, 155, 722, 14)) (List.mem_of_getElem? (i := 39) rfl)⟩, fun c hc => Option.some.inj hc ▸ mk39⟩
set_option maxRecDepth 100000 in
theorem mLf_40 : mLf 40 := ⟨List.mem_of_getElem? mCw_40, ⟨(739, 155, 738, 16), List.all_eq_true.mp mMw_1 (mInfoAt 40, (739, 155, 738, 16)) (List.mem_of_getElem? (i := 0) rfl)⟩, fun c hc => Option.some.inj hc ▸ mk40⟩
set_option maxRecDepth 100000 in
theorem mLf_41 : mLf 41 := ⟨List.mem_of_getElem? mCw_41, ⟨(743, 155, 741, 742), List.all_eq_true.mp mMw_1 (mInfoAt 41, (743, 155, 741, 742)) (List.mem_of_getElem? (i := 1) rfl)⟩, fun c hc => Option.some.inj hc ▸ mk41⟩
set_option maxRecDepth 100000 in
theorem mLf_42 : mLf 42 := ⟨List.mem_of_getElem? mCw_42, ⟨(1096, 155, 1094, 1095), List.all_eq_true.mp mMw_1 (mInfoAt 42, (1096, 155, 1094, 1095)) (List.mem_of_getElem? (i := 2) rfl)⟩, fun c hc => Option.some.inj hc ▸ mk42⟩
set_option maxRecDepth 100000 in
theorem mLf_43 : mLf 43 := ⟨List.mem_of_getElem? mCw_43, ⟨(351, 156, 350, 0), List.all_eq_true.mp mMw_1 (mInfoAt 43, (351, 156, 350, 0)) (List.mem_of_getElem? (i := 3) rfl)⟩, fun c hc => Option.some.inj hc ▸ mk43⟩
set_option maxRecDepth 100000 in
theorem mLf_44 : mLf 44 := ⟨List.mem_of_getElem? mCw_44, ⟨(1065, 156, 1063, 1064), List.all_eq_true.mp mMw_1 (mInfoAt 44, (1065, 156, 1063, 1064)) (List.mem_of_getElem? (i := 4) rfl)⟩, fun c hc => Option.some.inj hc ▸ mk44⟩
set_option maxRecDepth 100000 in
theorem mLf_45 : mLf 45 := ⟨List.mem_of_getElem? mCw_45, ⟨(752, 156, 750, 751), List.all_eq_true.mp mMw_1 (mInfoAt 45, (752, 156, 750, 751)) (List.mem_of_getElem? (i := 5) rfl)⟩, fun c hc => Option.some.inj hc ▸ mk45⟩
set_option maxRecDepth 100000 in
theorem mLf_46 : mLf 46 := ⟨List.mem_of_getElem? mCw_46, ⟨(768, 156, 766, 767), List.all_eq_true.mp mMw_1 (mInfoAt 46, (768, 156, 766, 767)) (List.mem_of_getElem? (i := 6) rfl)⟩, fun c hc => Option.some.inj hc ▸ mk46⟩
set_option maxRecDepth 100000 in
theorem mLf_47 : mLf 47 := ⟨List.mem_of_getElem? mCw_47, ⟨(772, 156, 770, 771), List.all_eq_true.mp mMw_1 (mInfoAt 47, (772, 156, 770, 771)) (List.mem_of_getElem? (i := 7) rfl)⟩, fun c hc => Option.some.inj hc ▸ mk47⟩
set_option maxRecDepth 100000 in
theorem mLf_48 : mLf 48 := ⟨List.mem_of_getElem? mCw_48, ⟨(935, 156, 933, 934), List.all_eq_true.mp mMw_1 (mInfoAt 48, (935, 156, 933, 934)) (List.mem_of_getElem? (i := 8) rfl)⟩, fun c hc => Option.some.inj hc ▸ mk48⟩
set_option maxRecDepth 100000 in
theorem mLf_49 : mLf 49 := ⟨List.mem_of_getElem? mCw_49, ⟨(939, 156, 937, 938), List.all_eq_true.mp mMw_1 (mInfoAt 49, (939, 156, 937, 938)) (List.mem_of_getElem? (i := 9) rfl)⟩, fun c hc => Option.some.inj hc ▸ mk49⟩
set_option maxRecDepth 100000 in
theorem mLf_50 : mLf 50 := ⟨List.mem_of_getElem? mCw_50, ⟨(1070, 156, 1068, 1069), List.all_eq_true.mp mMw_1 (mInfoAt 50, (1070, 156, 1068, 1069)) (List.mem_of_getElem? (i := 10) rfl)⟩, fun c hc => Option.some.inj hc ▸ mk50⟩
set_option maxRecDepth 100000 in
theorem mLf_51 : mLf 51 := ⟨List.mem_of_getElem? mCw_51, ⟨(1092, 156, 1090, 1091), List.all_eq_true.mp mMw_1 (mInfoAt 51, (1092, 156, 1090, 1091)) (List.mem_of_getElem? (i := 11) rfl)⟩, fun c hc => Option.some.inj hc ▸ mk51⟩
set_option maxRecDepth 100000 in
theorem mLf_52 : mLf 52 := ⟨List.mem_of_getElem? mCw_52, ⟨(1100, 156, 1099, 34), List.all_eq_true.mp mMw_1 (mInfoAt 52, (1100, 156, 1099, 34)) (List.mem_of_getElem? (i := 12) rfl)⟩, fun c hc => Option.some.inj hc ▸ mk52⟩
set_option maxRecDepth 100000 in
theorem mLf_53 : mLf 53 := ⟨List.mem_of_getElem? mCw_53, ⟨(270, 154, 269, 0), List.all_eq_true.mp mMw_1 (mInfoAt 53, (270, 154, 269, 0)) (List.mem_of_getElem? (i := 13) rfl)⟩, fun c hc => Option.some.inj hc ▸ mk53⟩
set_option maxRecDepth 100000 in
theorem mLf_54 : mLf 54 := ⟨List.mem_of_getElem? mCw_54, ⟨(1001, 154, 999, 1000), List.all_eq_true.mp mMw_1 (mInfoAt 54, (1001, 154, 999, 1000)) (List.mem_of_getElem? (i := 14) rfl)⟩, fun c hc => Option.some.inj hc ▸ mk54⟩
set_option maxRecDepth 100000 in
theorem mLf_55 : mLf 55 := ⟨List.mem_of_getElem? mCw_55, ⟨(748, 154, 746, 747), List.all_eq_true.mp mMw_1 (mInfoAt 55, (748, 154, 746, 747)) (List.mem_of_getElem? (i := 15) rfl)⟩, fun c hc => Option.some.inj hc ▸ mk55⟩
set_option maxRecDepth 100000 in
theorem mLf_56 : mLf 56 := ⟨List.mem_of_getElem? mCw_56, ⟨(1408, 154, 1406, 1407), List.all_eq_true.mp mMw_1 (mInfoAt 56, (1408, 154, 1406, 1407)) (List.mem_of_getElem? (i := 16) rfl)⟩, fun c hc => Option.some.inj hc ▸ mk56⟩
set_option maxRecDepth 100000 in
theorem mLf_57 : mLf 57 := ⟨List.mem_of_getElem? mCw_57, ⟨(1053, 154, 1051, 1052), List.all_eq_true.mp mMw_1 (mInfoAt 57, (1053, 154, 1051, 1052)) (List.mem_of_getElem? (i := 17) rfl)⟩, fun c hc => Option.some.inj hc ▸ mk57⟩
set_option maxRecDepth 100000 in
theorem mLf_58 : mLf 58 := ⟨List.mem_of_getElem? mCw_58, ⟨(1057, 154, 1056, 32), List.all_eq_true.mp mMw_1 (mInfoAt 58, (1057, 154, 1056, 32)) (List.mem_of_getElem? (i := 18) rfl)⟩, fun c hc => Option.some.inj hc ▸ mk58⟩
set_option maxRecDepth 100000 in
theorem mLf_59 : mLf 59 := ⟨List.mem_of_getElem? mCw_59, ⟨(1061, 154, 1060, 33), List.all_eq_true.mp mMw_1 (mInfoAt 59, (1061, 154, 1060, 33)) (List.mem_of_getElem? (i := 19) rfl)⟩, fun c hc => Option.some.inj hc ▸ mk59⟩
set_option maxRecDepth 100000 in
theorem mLf_60 : mLf 60 := ⟨List.mem_of_getElem? mCw_60, ⟨(1115, 154, 1113, 1114), List.all_eq_true.mp mMw_1 (mInfoAt 60, (1115, 154, 1113, 1114)) (List.mem_of_getElem? (i := 20) rfl)⟩, fun c hc => Option.some.inj hc ▸ mk60⟩
set_option maxRecDepth 100000 in
theorem mLf_61 : mLf 61 := ⟨List.mem_of_getElem? mCw_61, ⟨(1328, 154, 1326, 1327), List.all_eq_true.mp mMw_1 (mInfoAt 61, (1328, 154, 1326, 1327)) (List.mem_of_getElem? (i := 21) rfl)⟩, fun c hc => Option.some.inj hc ▸ mk61⟩
set_option maxRecDepth 100000 in
theorem mLf_62 : mLf 62 := ⟨List.mem_of_getElem? mCw_62, ⟨(1354, 154, 1352, 1353), List.all_eq_true.mp mMw_1 (mInfoAt 62, (1354, 154, 1352, 1353)) (List.mem_of_getElem? (i := 22) rfl)⟩, fun c hc => Option.some.inj hc ▸ mk62⟩
set_option maxRecDepth 100000 in
theorem mLf_63 : mLf 63 := ⟨List.mem_of_getElem? mCw_63, ⟨(906, 167, 905, 0), List.all_eq_true.mp mMw_1 (mInfoAt 63, (906, 167, 905, 0)) (List.mem_of_getElem? (i := 23) rfl)⟩, fun c hc => Option.some.inj hc ▸ mk63⟩
set_option maxRecDepth 100000 in
theorem mLf_64 : mLf 64 := ⟨List.mem_of_getElem? mCw_64, ⟨(1149, 167, 1147, 1148), List.all_eq_true.mp mMw_1 (mInfoAt 64, (1149, 167, 1147, 1148)) (List.mem_of_getElem? (i := 24) rfl)⟩, fun c hc => Option.some.inj hc ▸ mk64⟩
set_option maxRecDepth 100000 in
theorem mLf_65 : mLf 65 := ⟨List.mem_of_getElem? mCw_65, ⟨(1153, 167, 1152, 39), List.all_eq_true.mp mMw_1 (mInfoAt 65, (1153, 167, 1152, 39)) (List.mem_of_getElem? (i := 25) rfl)⟩, fun c hc => Option.some.inj hc ▸ mk65⟩
set_option maxRecDepth 100000 in
theorem mLf_66 : mLf 66 := ⟨List.mem_of_getElem? mCw_66, ⟨(1156, 167, 1155, 0), List.all_eq_true.mp mMw_1 (mInfoAt 66, (1156, 167, 1155, 0)) (List.mem_of_getElem? (i := 26) rfl)⟩, fun c hc => Option.some.inj hc ▸ mk66⟩
set_option maxRecDepth 100000 in
theorem mLf_67 : mLf 67 := ⟨List.mem_of_getElem? mCw_67, ⟨(1159, 167, 1158, 0), List.all_eq_true.mp mMw_1 (mInfoAt 67, (1159, 167, 1158, 0)) (List.mem_of_getElem? (i := 27) rfl)⟩, fun c hc => Option.some.inj hc ▸ mk67⟩
set_option maxRecDepth 100000 in
theorem mLf_68 : mLf 68 := ⟨List.mem_of_getElem? mCw_68, ⟨(437, 158, 436, 0), List.all_eq_true.mp mMw_1 (mInfoAt 68, (437, 158, 436, 0)) (List.mem_of_getElem? (i := 28) rfl)⟩, fun c hc => Option.some.inj hc ▸ mk68⟩
set_option maxRecDepth 100000 in
theorem mLf_69 : mLf 69 := ⟨List.mem_of_getElem? mCw_69, ⟨(841, 158, 839, 840), List.all_eq_true.mp mMw_1 (mInfoAt 69, (841, 158, 839, 840)) (List.mem_of_getElem? (i := 29) rfl)⟩, fun c hc => Option.some.inj hc ▸ mk69⟩
set_option maxRecDepth 100000 in
theorem mLf_70 : mLf 70 := ⟨List.mem_of_getElem? mCw_70, ⟨(883, 158, 881, 882), List.all_eq_true.mp mMw_1 (mInfoAt 70, (883, 158, 881, 882)) (List.mem_of_getElem? (i := 30) rfl)⟩, fun c hc => Option.some.inj hc ▸ mk70⟩
set_option maxRecDepth 100000 in
theorem mLf_71 : mLf 71 := ⟨List.mem_of_getElem? mCw_71, ⟨(846, 158, 845, 20), List.all_eq_true.mp mMw_1 (mInfoAt 71, (846, 158, 845, 20)) (List.mem_of_getElem? (i := 31) rfl)⟩, fun c hc => Option.some.inj hc ▸ mk71⟩
set_option maxRecDepth 100000 in
theorem mLf_72 : mLf 72 := ⟨List.mem_of_getElem? mCw_72, ⟨(870, 158, 869, 24), List.all_eq_true.mp mMw_1 (mInfoAt 72, (870, 158, 869, 24)) (List.mem_of_getElem? (i := 32) rfl)⟩, fun c hc => Option.some.inj hc ▸ mk72⟩
set_option maxRecDepth 100000 in
theorem mLf_73 : mLf 73 := ⟨List.mem_of_getElem? mCw_73, ⟨(874, 158, 873, 25), List.all_eq_true.mp mMw_1 (mInfoAt 73, (874, 158, 873, 25)) (List.mem_of_getElem? (i := 33) rfl)⟩, fun c hc => Option.some.inj hc ▸ mk73⟩
set_option maxRecDepth 100000 in
theorem mLf_74 : mLf 74 := ⟨List.mem_of_getElem? mCw_74, ⟨(853, 158, 852, 21), List.all_eq_true.mp mMw_1 (mInfoAt 74, (853, 158, 852, 21)) (List.mem_of_getElem? (i := 34) rfl)⟩, fun c hc => Option.some.inj hc ▸ mk74⟩
set_option maxRecDepth 100000 in
theorem mLf_75 : mLf 75 := ⟨List.mem_of_getElem? mCw_75, ⟨(877, 158, 876, 0), List.all_eq_true.mp mMw_1 (mInfoAt 75, (877, 158, 876, 0)) (List.mem_of_getElem? (i := 35) rfl)⟩, fun c hc => Option.some.inj hc ▸ mk75⟩
set_option maxRecDepth 100000 in
theorem mLf_76 : mLf 76 := ⟨List.mem_of_getElem? mCw_76, ⟨(856, 158, 855, 0), List.all_eq_true.mp mMw_1 (mInfoAt 76, (856, 158, 855, 0)) (List.mem_of_getElem? (i := 36) rfl)⟩, fun c hc => Option.some.inj hc ▸ mk76⟩
set_option maxRecDepth 100000 in
theorem mLf_77 : mLf 77 := ⟨List.mem_of_getElem? mCw_77, ⟨(860, 158, 859, 22), List.all_eq_true.mp mMw_1 (mInfoAt 77, (860, 158, 859, 22)) (List.mem_of_getElem? (i := 37) rfl)⟩, fun c hc => Option.some.inj hc ▸ mk77⟩
set_option maxRecDepth 100000 in
theorem mLf_78 : mLf 78 := ⟨List.mem_of_getElem? mCw_78, ⟨(865, 158, 864, 23), List.all_eq_true.mp mMw_1 (mInfoAt 78, (865, 158, 864, 23)) (List.mem_of_getElem? (i := 38) rfl)⟩, fun c hc => Option.some.inj hc ▸ mk78⟩
set_option maxRecDepth 100000 in
theorem mLf_79 : mLf 79 := ⟨List.mem_of_getElem? mCw_79, ⟨(424, 157, 423, 0), List.all_eq_true.mp mMw_1 (mInfoAt 79, (424, 157, 423, 0)) (List.mem_of_getElem? (i := 39) rfl)⟩, fun c hc => Option.some.inj hc ▸ mk79⟩
set_option maxRecDepth 100000 in
theorem mLf_80 : mLf 80 := ⟨List.mem_of_getElem? mCw_80, ⟨(784, 157, 782, 783), List.all_eq_true.mp mMw_2 (mInfoAt 80, (784, 157, 782, 783)) (List.mem_of_getElem? (i := 0) rfl)⟩, fun c hc => Option.some.inj hc ▸ mk80⟩
set_option maxRecDepth 100000 in
theorem mLf_81 : mLf 81 := ⟨List.mem_of_getElem? mCw_81, ⟨(789, 157, 788, 17), List.all_eq_true.mp mMw_2 (mInfoAt 81, (789, 157, 788, 17)) (List.mem_of_getElem? (i := 1) rfl)⟩, fun c hc => Option.some.inj hc ▸ mk81⟩
set_option maxRecDepth 100000 in
theorem mLf_82 : mLf 82 := ⟨List.mem_of_getElem? mCw_82, ⟨(795, 157, 794, 18), List.all_eq_true.mp mMw_2 (mInfoAt 82, (795, 157, 794, 18)) (List.mem_of_getElem? (i := 2) rfl)⟩, fun c hc => Option.some.inj hc ▸ mk82⟩
set_option maxRecDepth 100000 in
theorem mLf_83 : mLf 83 := ⟨List.mem_of_getElem? mCw_83, ⟨(800, 157, 799, 19), List.all_eq_true.mp mMw_2 (mInfoAt 83, (800, 157, 799, 19)) (List.mem_of_getElem? (i := 3) rfl)⟩, fun c hc => Option.some.inj hc ▸ mk83⟩
set_option maxRecDepth 100000 in
theorem mLf_84 : mLf 84 := ⟨List.mem_of_getElem? mCw_84, ⟨(216, 152, 215, 0), List.all_eq_true.mp mMw_2 (mInfoAt 84, (216, 152, 215, 0)) (List.mem_of_getElem? (i := 4) rfl)⟩, fun c hc => Option.some.inj hc ▸ mk84⟩
set_option maxRecDepth 100000 in
theorem mLf_85 : mLf 85 := ⟨List.mem_of_getElem? mCw_85, ⟨(829, 152, 827, 828), List.all_eq_true.mp mMw_2 (mInfoAt 85, (829, 152, 827, 828)) (List.mem_of_getElem? (i := 5) rfl)⟩, fun c hc => Option.some.inj hc ▸ mk85⟩
set_option maxRecDepth 100000 in
theorem mLf_86 : mLf 86 := ⟨List.mem_of_getElem? mCw_86, ⟨(1177, 152, 1176, 41), List.all_eq_true.mp mMw_2 (mInfoAt 86, (1177, 152, 1176, 41)) (List.mem_of_getElem? (i := 6) rfl)⟩, fun c hc => Option.some.inj hc ▸ mk86⟩
set_option maxRecDepth 100000 in
theorem mLf_87 : mLf 87 := ⟨List.mem_of_getElem? mCw_87, ⟨(1173, 152, 1171, 1172), List.all_eq_true.mp mMw_2 (mInfoAt 87, (1173, 152, 1171, 1172)) (List.mem_of_getElem? (i := 7) rfl)⟩, fun c hc => Option.some.inj hc ▸ mk87⟩
set_option maxRecDepth 100000 in
theorem mLf_88 : mLf 88 := ⟨List.mem_of_getElem? mCw_88, ⟨(1194, 152, 1192, 1193), List.all_eq_true.mp mMw_2 (mInfoAt 88, (1194, 152, 1192, 1193)) (List.mem_of_getElem? (i := 8) rfl)⟩, fun c hc => Option.some.inj hc ▸ mk88⟩
set_option maxRecDepth 100000 in
theorem mLf_89 : mLf 89 := ⟨List.mem_of_getElem? mCw_89, ⟨(1204, 152, 1202, 1203), List.all_eq_true.mp mMw_2 (mInfoAt 89, (1204, 152, 1202, 1203)) (List.mem_of_getElem? (i := 9) rfl)⟩, fun c hc => Option.some.inj hc ▸ mk89⟩
set_option maxRecDepth 100000 in
theorem mLf_90 : mLf 90 := ⟨List.mem_of_getElem? mCw_90, ⟨(1336, 152, 1334, 1335), List.all_eq_true.mp mMw_2 (mInfoAt 90, (1336, 152, 1334, 1335)) (List.mem_of_getElem? (i := 10) rfl)⟩, fun c hc => Option.some.inj hc ▸ mk90⟩
set_option maxRecDepth 100000 in
theorem mLf_91 : mLf 91 := ⟨List.mem_of_getElem? mCw_91, ⟨(1366, 152, 1364, 1365), List.all_eq_true.mp mMw_2 (mInfoAt 91, (1366, 152, 1364, 1365)) (List.mem_of_getElem? (i := 11) rfl)⟩, fun c hc => Option.some.inj hc ▸ mk91⟩
set_option maxRecDepth 100000 in
theorem mLf_92 : mLf 92 := ⟨List.mem_of_getElem? mCw_92, ⟨(1344, 152, 1343, 55), List.all_eq_true.mp mMw_2 (mInfoAt 92, (1344, 152, 1343, 55)) (List.mem_of_getElem? (i := 12) rfl)⟩, fun c hc => Option.some.inj hc ▸ mk92⟩
set_option maxRecDepth 100000 in
theorem mLf_93 : mLf 93 := ⟨List.mem_of_getElem? mCw_93, ⟨(1340, 152, 1339, 54), List.all_eq_true.mp mMw_2 (mInfoAt 93, (1340, 152, 1339, 54)) (List.mem_of_getElem? (i := 13) rfl)⟩, fun c hc => Option.some.inj hc ▸ mk93⟩
set_option maxRecDepth 100000 in
theorem mLf_94 : mLf 94 := ⟨List.mem_of_getElem? mCw_94, ⟨(1350, 152, 1349, 56), List.all_eq_true.mp mMw_2 (mInfoAt 94, (1350, 152, 1349, 56)) (List.mem_of_getElem? (i := 14) rfl)⟩, fun c hc => Option.some.inj hc ▸ mk94⟩
set_option maxRecDepth 100000 in
theorem mLf_95 : mLf 95 := ⟨List.mem_of_getElem? mCw_95, ⟨(1358, 152, 1357, 57), List.all_eq_true.mp mMw_2 (mInfoAt 95, (1358, 152, 1357, 57)) (List.mem_of_getElem? (i := 15) rfl)⟩, fun c hc => Option.some.inj hc ▸ mk95⟩
set_option maxRecDepth 100000 in
theorem mLf_96 : mLf 96 := ⟨List.mem_of_getElem? mCw_96, ⟨(184, 151, 183, 0), List.all_eq_true.mp mMw_2 (mInfoAt 96, (184, 151, 183, 0)) (List.mem_of_getElem? (i := 16) rfl)⟩, fun c hc => Option.some.inj hc ▸ mk96⟩
set_option maxRecDepth 100000 in
theorem mLf_97 : mLf 97 := ⟨List.mem_of_getElem? mCw_97, ⟨(566, 151, 564, 565), List.all_eq_true.mp mMw_2 (mInfoAt 97, (566, 151, 564, 565)) (List.mem_of_getElem? (i := 17) rfl)⟩, fun c hc => Option.some.inj hc ▸ mk97⟩
set_option maxRecDepth 100000 in
theorem mLf_98 : mLf 98 := ⟨List.mem_of_getElem? mCw_98, ⟨(570, 151, 568, 569), List.all_eq_true.mp mMw_2 (mInfoAt 98, (570, 151, 568, 569)) (List.mem_of_getElem? (i := 18) rfl)⟩, fun c hc => Option.some.inj hc ▸ mk98⟩
set_option maxRecDepth 100000 in
theorem mLf_99 : mLf 99 := ⟨List.mem_of_getElem? mCw_99, ⟨(588, 151, 586, 587), List.all_eq_true.mp mMw_2 (mInfoAt 99, (588, 151, 586, 587)) (List.mem_of_getElem? (i := 19) rfl)⟩, fun c hc => Option.some.inj hc ▸ mk99⟩
set_option maxRecDepth 100000 in
theorem mLf_100 : mLf 100 := ⟨List.mem_of_getElem? mCw_100, ⟨(657, 151, 656, 4), List.all_eq_true.mp mMw_2 (mInfoAt 100, (657, 151, 656, 4)) (List.mem_of_getElem? (i := 20) rfl)⟩, fun c hc => Option.some.inj hc ▸ mk100⟩
set_option maxRecDepth 100000 in
theorem mLf_101 : mLf 101 := ⟨List.mem_of_getElem? mCw_101, ⟨(592, 151, 591, 0), List.all_eq_true.mp mMw_2 (mInfoAt 101, (592, 151, 591, 0)) (List.mem_of_getElem? (i := 21) rfl)⟩, fun c hc => Option.some.inj hc ▸ mk101⟩
set_option maxRecDepth 100000 in
theorem mLf_102 : mLf 102 := ⟨List.mem_of_getElem? mCw_102, ⟨(600, 151, 599, 2), List.all_eq_true.mp mMw_2 (mInfoAt 102, (600, 151, 599, 2)) (List.mem_of_getElem? (i := 22) rfl)⟩, fun c hc => Option.some.inj hc ▸ mk102⟩
set_option maxRecDepth 100000 in
theorem mLf_103 : mLf 103 := ⟨List.mem_of_getElem? mCw_103, ⟨(604, 151, 603, 3), List.all_eq_true.mp mMw_2 (mInfoAt 103, (604, 151, 603, 3)) (List.mem_of_getElem? (i := 23) rfl)⟩, fun c hc => Option.some.inj hc ▸ mk103⟩
set_option maxRecDepth 100000 in
theorem mLf_104 : mLf 104 := ⟨List.mem_of_getElem? mCw_104, ⟨(665, 151, 664, 6), List.all_eq_true.mp mMw_2 (mInfoAt 104, (665, 151, 664, 6)) (List.mem_of_getElem? (i := 24) rfl)⟩, fun c hc => Option.some.inj hc ▸ mk104⟩
set_option maxRecDepth 100000 in
theorem mLf_105 : mLf 105 := ⟨List.mem_of_getElem? mCw_105, ⟨(596, 151, 595, 1), List.all_eq_true.mp mMw_2 (mInfoAt 105, (596, 151, 595, 1)) (List.mem_of_getElem? (i := 25) rfl)⟩, fun c hc => Option.some.inj hc ▸ mk105⟩
set_option maxRecDepth 100000 in
theorem mLf_106 : mLf 106 := ⟨List.mem_of_getElem? mCw_106, ⟨(661, 151, 660, 5), List.all_eq_true.mp mMw_2 (mInfoAt 106, (661, 151, 660, 5)) (List.mem_of_getElem? (i := 26) rfl)⟩, fun c hc => Option.some.inj hc ▸ mk106⟩
set_option maxRecDepth 100000 in
theorem mLf_107 : mLf 107 := ⟨List.mem_of_getElem? mCw_107, ⟨(681, 151, 679, 680), List.all_eq_true.mp mMw_2 (mInfoAt 107, (681, 151, 679, 680)) (List.mem_of_getElem? (i := 27) rfl)⟩, fun c hc => Option.some.inj hc ▸ mk107⟩
set_option maxRecDepth 100000 in
theorem mLf_108 : mLf 108 := ⟨List.mem_of_getElem? mCw_108, ⟨(693, 151, 691, 692), List.all_eq_true.mp mMw_2 (mInfoAt 108, (693, 151, 691, 692)) (List.mem_of_getElem? (i := 28) rfl)⟩, fun c hc => Option.some.inj hc ▸ mk108⟩
set_option maxRecDepth 100000 in
theorem mLf_109 : mLf 109 := ⟨List.mem_of_getElem? mCw_109, ⟨(731, 151, 729, 730), List.all_eq_true.mp mMw_2 (mInfoAt 109, (731, 151, 729, 730)) (List.mem_of_getElem? (i := 29) rfl)⟩, fun c hc => Option.some.inj hc ▸ mk109⟩
set_option maxRecDepth 100000 in
theorem mLf_110 : mLf 110 := ⟨List.mem_of_getElem? mCw_110, ⟨(814, 151, 812, 813), List.all_eq_true.mp mMw_2 (mInfoAt 110, (814, 151, 812, 813)) (List.mem_of_getElem? (i := 30) rfl)⟩, fun c hc => Option.some.inj hc ▸ mk110⟩
set_option maxRecDepth 100000 in
theorem mLf_111 : mLf 111 := ⟨List.mem_of_getElem? mCw_111, ⟨(735, 151, 733, 734), List.all_eq_true.mp mMw_2 (mInfoAt 111, (735, 151, 733, 734)) (List.mem_of_getElem? (i := 31) rfl)⟩, fun c hc => Option.some.inj hc ▸ mk111⟩
set_option maxRecDepth 100000 in
theorem mLf_112 : mLf 112 := ⟨List.mem_of_getElem? mCw_112, ⟨(685, 151, 683, 684), List.all_eq_true.mp mMw_2 (mInfoAt 112, (685, 151, 683, 684)) (List.mem_of_getElem? (i := 32) rfl)⟩, fun c hc => Option.some.inj hc ▸ mk112⟩
set_option maxRecDepth 100000 in
theorem mLf_113 : mLf 113 := ⟨List.mem_of_getElem? mCw_113, ⟨(707, 151, 705, 706), List.all_eq_true.mp mMw_2 (mInfoAt 113, (707, 151, 705, 706)) (List.mem_of_getElem? (i := 33) rfl)⟩, fun c hc => Option.some.inj hc ▸ mk113⟩
set_option maxRecDepth 100000 in
theorem mLf_114 : mLf 114 := ⟨List.mem_of_getElem? mCw_114, ⟨(701, 151, 699, 700), List.all_eq_true.mp mMw_2 (mInfoAt 114, (701, 151, 699, 700)) (List.mem_of_getElem? (i := 34) rfl)⟩, fun c hc => Option.some.inj hc ▸ mk114⟩
set_option maxRecDepth 100000 in
theorem mLf_115 : mLf 115 := ⟨List.mem_of_getElem? mCw_115, ⟨(223, 153, 222, 0), List.all_eq_true.mp mMw_2 (mInfoAt 115, (223, 153, 222, 0)) (List.mem_of_getElem? (i := 35) rfl)⟩, fun c hc => Option.some.inj hc ▸ mk115⟩
set_option maxRecDepth 100000 in
theorem mLf_116 : mLf 116 := ⟨List.mem_of_getElem? mCw_116, ⟨(763, 153, 761, 762), List.all_eq_true.mp mMw_2 (mInfoAt 116, (763, 153, 761, 762)) (List.mem_of_getElem? (i := 36) rfl)⟩, fun c hc => Option.some.inj hc ▸ mk116⟩
set_option maxRecDepth 100000 in
theorem mLf_117 : mLf 117 := ⟨List.mem_of_getElem? mCw_117, ⟨(833, 153, 831, 832), List.all_eq_true.mp mMw_2 (mInfoAt 117, (833, 153, 831, 832)) (List.mem_of_getElem? (i := 37) rfl)⟩, fun c hc => Option.some.inj hc ▸ mk117⟩
set_option maxRecDepth 100000 in
theorem mLf_118 : mLf 118 := ⟨List.mem_of_getElem? mCw_118, ⟨(757, 153, 755, 756), List.all_eq_true.mp mMw_2 (mInfoAt 118, (757, 153, 755, 756)) (List.mem_of_getElem? (i := 38) rfl)⟩, fun c hc => Option.some.inj hc ▸ mk118⟩
set_option maxRecDepth 100000 in
theorem mLf_119 : mLf 119 := ⟨List.mem_of_getElem? mCw_119, ⟨(806, 153, 804, 805), List.all_eq_true.mp mMw_2 (mInfoAt 119, (806, 153, 804, 805)) (List.mem_of_getElem? (i := 39) rfl)⟩, fun c hc => Option.some.inj hc ▸ mk119⟩
set_option maxRecDepth 100000 in
theorem mLf_120 : mLf 120 := ⟨List.mem_of_getElem? mCw_120, ⟨(810, 153, 808, 809), List.all_eq_true.mp mMw_3 (mInfoAt 120, (810, 153, 808, 809)) (List.mem_of_getElem? (i := 0) rfl)⟩, fun c hc => Option.some.inj hc ▸ mk120⟩
set_option maxRecDepth 100000 in
theorem mLf_121 : mLf 121 := ⟨List.mem_of_getElem? mCw_121, ⟨(820, 153, 818, 819), List.all_eq_true.mp mMw_3 (mInfoAt 121, (820, 153, 818, 819)) (List.mem_of_getElem? (i := 1) rfl)⟩, fun c hc => Option.some.inj hc ▸ mk121⟩
set_option maxRecDepth 100000 in
theorem mLf_122 : mLf 122 := ⟨List.mem_of_getElem? mCw_122, ⟨(824, 153, 822, 823), List.all_eq_true.mp mMw_3 (mInfoAt 122, (824, 153, 822, 823)) (List.mem_of_getElem? (i := 2) rfl)⟩, fun c hc => Option.some.inj hc ▸ mk122⟩
set_option maxRecDepth 100000 in
theorem mLf_123 : mLf 123 := ⟨List.mem_of_getElem? mCw_123, ⟨(776, 153, 774, 775), List.all_eq_true.mp mMw_3 (mInfoAt 123, (776, 153, 774, 775)) (List.mem_of_getElem? (i := 3) rfl)⟩, fun c hc => Option.some.inj hc ▸ mk123⟩
set_option maxRecDepth 100000 in
theorem mLf_124 : mLf 124 := ⟨List.mem_of_getElem? mCw_124, ⟨(1104, 153, 1102, 1103), List.all_eq_true.mp mMw_3 (mInfoAt 124, (1104, 153, 1102, 1103)) (List.mem_of_getElem? (i := 4) rfl)⟩, fun c hc => Option.some.inj hc ▸ mk124⟩
set_option maxRecDepth 100000 in
theorem mLf_125 : mLf 125 := ⟨List.mem_of_getElem? mCw_125, ⟨(1107, 153, 1106, 0), List.all_eq_true.mp mMw_3 (mInfoAt 125, (1107, 153, 1106, 0)) (List.mem_of_getElem? (i := 5) rfl)⟩, fun c hc => Option.some.inj hc ▸ mk125⟩
set_option maxRecDepth 100000 in
theorem mLf_126 : mLf 126 := ⟨List.mem_of_getElem? mCw_126, ⟨(947, 153, 945, 946), List.all_eq_true.mp mMw_3 (mInfoAt 126, (947, 153, 945, 946)) (List.mem_of_getElem? (i := 6) rfl)⟩, fun c hc => Option.some.inj hc ▸ mk126⟩
set_option maxRecDepth 100000 in
theorem mLf_127 : mLf 127 := ⟨List.mem_of_getElem? mCw_127, ⟨(1030, 153, 1028, 1029), List.all_eq_true.mp mMw_3 (mInfoAt 127, (1030, 153, 1028, 1029)) (List.mem_of_getElem? (i := 7) rfl)⟩, fun c hc => Option.some.inj hc ▸ mk127⟩
set_option maxRecDepth 100000 in
theorem mLf_128 : mLf 128 := ⟨List.mem_of_getElem? mCw_128, ⟨(964, 153, 962, 963), List.all_eq_true.mp mMw_3 (mInfoAt 128, (964, 153, 962, 963)) (List.mem_of_getElem? (i := 8) rfl)⟩, fun c hc => Option.some.inj hc ▸ mk128⟩
set_option maxRecDepth 100000 in
theorem mLf_129 : mLf 129 := ⟨List.mem_of_getElem? mCw_129, ⟨(968, 153, 966, 967), List.all_eq_true.mp mMw_3 (mInfoAt 129, (968, 153, 966, 967)) (List.mem_of_getElem? (i := 9) rfl)⟩, fun c hc => Option.some.inj hc ▸ mk129⟩
set_option maxRecDepth 100000 in
theorem mLf_130 : mLf 130 := ⟨List.mem_of_getElem? mCw_130, ⟨(1005, 153, 1003, 1004), List.all_eq_true.mp mMw_3 (mInfoAt 130, (1005, 153, 1003, 1004)) (List.mem_of_getElem? (i := 10) rfl)⟩, fun c hc => Option.some.inj hc ▸ mk130⟩
set_option maxRecDepth 100000 in
theorem mLf_131 : mLf 131 := ⟨List.mem_of_getElem? mCw_131, ⟨(1038, 153, 1036, 1037), List.all_eq_true.mp mMw_3 (mInfoAt 131, (1038, 153, 1036, 1037)) (List.mem_of_getElem? (i := 11) rfl)⟩, fun c hc => Option.some.inj hc ▸ mk131⟩
set_option maxRecDepth 100000 in
theorem mLf_132 : mLf 132 := ⟨List.mem_of_getElem? mCw_132, ⟨(1041, 153, 1040, 0), List.all_eq_true.mp mMw_3 (mInfoAt 132, (1041, 153, 1040, 0)) (List.mem_of_getElem? (i := 12) rfl)⟩, fun c hc => Option.some.inj hc ▸ mk132⟩
set_option maxRecDepth 100000 in
theorem mLf_133 : mLf 133 := ⟨List.mem_of_getElem? mCw_133, ⟨(957, 153, 955, 956), List.all_eq_true.mp mMw_3 (mInfoAt 133, (957, 153, 955, 956)) (List.mem_of_getElem? (i := 13) rfl)⟩, fun c hc => Option.some.inj hc ▸ mk133⟩
set_option maxRecDepth 100000 in
theorem mLf_134 : mLf 134 := ⟨List.mem_of_getElem? mCw_134, ⟨(176, 150, 175, 0), List.all_eq_true.mp mMw_3 (mInfoAt 134, (176, 150, 175, 0)) (List.mem_of_getElem? (i := 14) rfl)⟩, fun c hc => Option.some.inj hc ▸ mk134⟩
set_option maxRecDepth 100000 in
theorem mLf_135 : mLf 135 := ⟨List.mem_of_getElem? mCw_135, ⟨(562, 150, 560, 561), List.all_eq_true.mp mMw_3 (mInfoAt 135, (562, 150, 560, 561)) (List.mem_of_getElem? (i := 15) rfl)⟩, fun c hc => Option.some.inj hc ▸ mk135⟩
set_option maxRecDepth 100000 in
theorem mLf_136 : mLf 136 := ⟨List.mem_of_getElem? mCw_136, ⟨(574, 150, 572, 573), List.all_eq_true.mp mMw_3 (mInfoAt 136, (574, 150, 572, 573)) (List.mem_of_getElem? (i := 16) rfl)⟩, fun c hc => Option.some.inj hc ▸ mk136⟩
set_option maxRecDepth 100000 in
theorem mLf_137 : mLf 137 := ⟨List.mem_of_getElem? mCw_137, ⟨(578, 150, 576, 577), List.all_eq_true.mp mMw_3 (mInfoAt 137, (578, 150, 576, 577)) (List.mem_of_getElem? (i := 17) rfl)⟩, fun c hc => Option.some.inj hc ▸ mk137⟩
set_option maxRecDepth 100000 in
theorem mLf_138 : mLf 138 := ⟨List.mem_of_getElem? mCw_138, ⟨(780, 150, 778, 779), List.all_eq_true.mp mMw_3 (mInfoAt 138, (780, 150, 778, 779)) (List.mem_of_getElem? (i := 18) rfl)⟩, fun c hc => Option.some.inj hc ▸ mk138⟩
set_option maxRecDepth 100000 in
theorem mLf_139 : mLf 139 := ⟨List.mem_of_getElem? mCw_139, ⟨(837, 150, 835, 836), List.all_eq_true.mp mMw_3 (mInfoAt 139, (837, 150, 835, 836)) (List.mem_of_getElem? (i := 19) rfl)⟩, fun c hc => Option.some.inj hc ▸ mk139⟩
set_option maxRecDepth 100000 in
theorem mLf_140 : mLf 140 := ⟨List.mem_of_getElem? mCw_140, ⟨(927, 150, 925, 926), List.all_eq_true.mp mMw_3 (mInfoAt 140, (927, 150, 925, 926)) (List.mem_of_getElem? (i := 20) rfl)⟩, fun c hc => Option.some.inj hc ▸ mk140⟩
set_option maxRecDepth 100000 in
theorem mLf_141 : mLf 141 := ⟨List.mem_of_getElem? mCw_141, ⟨(972, 150, 970, 971), List.all_eq_true.mp mMw_3 (mInfoAt 141, (972, 150, 970, 971)) (List.mem_of_getElem? (i := 21) rfl)⟩, fun c hc => Option.some.inj hc ▸ mk141⟩
set_option maxRecDepth 100000 in
theorem mLf_142 : mLf 142 := ⟨List.mem_of_getElem? mCw_142, ⟨(976, 150, 974, 975), List.all_eq_true.mp mMw_3 (mInfoAt 142, (976, 150, 974, 975)) (List.mem_of_getElem? (i := 22) rfl)⟩, fun c hc => Option.some.inj hc ▸ mk142⟩
set_option maxRecDepth 100000 in
theorem mLf_143 : mLf 143 := ⟨List.mem_of_getElem? mCw_143, ⟨(984, 150, 982, 983), List.all_eq_true.mp mMw_3 (mInfoAt 143, (984, 150, 982, 983)) (List.mem_of_getElem? (i := 23) rfl)⟩, fun c hc => Option.some.inj hc ▸ mk143⟩
set_option maxRecDepth 100000 in
theorem mLf_144 : mLf 144 := ⟨List.mem_of_getElem? mCw_144, ⟨(989, 150, 987, 988), List.all_eq_true.mp mMw_3 (mInfoAt 144, (989, 150, 987, 988)) (List.mem_of_getElem? (i := 24) rfl)⟩, fun c hc => Option.some.inj hc ▸ mk144⟩
set_option maxRecDepth 100000 in
theorem mLf_145 : mLf 145 := ⟨List.mem_of_getElem? mCw_145, ⟨(1009, 150, 1007, 1008), List.all_eq_true.mp mMw_3 (mInfoAt 145, (1009, 150, 1007, 1008)) (List.mem_of_getElem? (i := 25) rfl)⟩, fun c hc => Option.some.inj hc ▸ mk145⟩
set_option maxRecDepth 100000 in
theorem mLf_146 : mLf 146 := ⟨List.mem_of_getElem? mCw_146, ⟨(1013, 150, 1011, 1012), List.all_eq_true.mp mMw_3 (mInfoAt 146, (1013, 150, 1011, 1012)) (List.mem_of_getElem? (i := 26) rfl)⟩, fun c hc => Option.some.inj hc ▸ mk146⟩
set_option maxRecDepth 100000 in
theorem mLf_147 : mLf 147 := ⟨List.mem_of_getElem? mCw_147, ⟨(1022, 150, 1020, 1021), List.all_eq_true.mp mMw_3 (mInfoAt 147, (1022, 150, 1020, 1021)) (List.mem_of_getElem? (i := 27) rfl)⟩, fun c hc => Option.some.inj hc ▸ mk147⟩
set_option maxRecDepth 100000 in
theorem mLf_148 : mLf 148 := ⟨List.mem_of_getElem? mCw_148, ⟨(1026, 150, 1024, 1025), List.all_eq_true.mp mMw_3 (mInfoAt 148, (1026, 150, 1024, 1025)) (List.mem_of_getElem? (i := 28) rfl)⟩, fun c hc => Option.some.inj hc ▸ mk148⟩
set_option maxRecDepth 100000 in
theorem mLf_149 : mLf 149 := ⟨List.mem_of_getElem? mCw_149, ⟨(1034, 150, 1032, 1033), List.all_eq_true.mp mMw_3 (mInfoAt 149, (1034, 150, 1032, 1033)) (List.mem_of_getElem? (i := 29) rfl)⟩, fun c hc => Option.some.inj hc ▸ mk149⟩
set_option maxRecDepth 100000 in
theorem mLf_150 : mLf 150 := ⟨List.mem_of_getElem? mCw_150, ⟨(1045, 150, 1043, 1044), List.all_eq_true.mp mMw_3 (mInfoAt 150, (1045, 150, 1043, 1044)) (List.mem_of_getElem? (i := 30) rfl)⟩, fun c hc => Option.some.inj hc ▸ mk150⟩
set_option maxRecDepth 100000 in
theorem mLf_151 : mLf 151 := ⟨List.mem_of_getElem? mCw_151, ⟨(1077, 150, 1075, 1076), List.all_eq_true.mp mMw_3 (mInfoAt 151, (1077, 150, 1075, 1076)) (List.mem_of_getElem? (i := 31) rfl)⟩, fun c hc => Option.some.inj hc ▸ mk151⟩
set_option maxRecDepth 100000 in
theorem mLf_152 : mLf 152 := ⟨List.mem_of_getElem? mCw_152, ⟨(1082, 150, 1080, 1081), List.all_eq_true.mp mMw_3 (mInfoAt 152, (1082, 150, 1080, 1081)) (List.mem_of_getElem? (i := 32) rfl)⟩, fun c hc => Option.some.inj hc ▸ mk152⟩
set_option maxRecDepth 100000 in
theorem mLf_153 : mLf 153 := ⟨List.mem_of_getElem? mCw_153, ⟨(1088, 150, 1086, 1087), List.all_eq_true.mp mMw_3 (mInfoAt 153, (1088, 150, 1086, 1087)) (List.mem_of_getElem? (i := 33) rfl)⟩, fun c hc => Option.some.inj hc ▸ mk153⟩
set_option maxRecDepth 100000 in
theorem mLf_154 : mLf 154 := ⟨List.mem_of_getElem? mCw_154, ⟨(1111, 150, 1109, 1110), List.all_eq_true.mp mMw_3 (mInfoAt 154, (1111, 150, 1109, 1110)) (List.mem_of_getElem? (i := 34) rfl)⟩, fun c hc => Option.some.inj hc ▸ mk154⟩
set_option maxRecDepth 100000 in
theorem mLf_155 : mLf 155 := ⟨List.mem_of_getElem? mCw_155, ⟨(1119, 150, 1117, 1118), List.all_eq_true.mp mMw_3 (mInfoAt 155, (1119, 150, 1117, 1118)) (List.mem_of_getElem? (i := 35) rfl)⟩, fun c hc => Option.some.inj hc ▸ mk155⟩
set_option maxRecDepth 100000 in
theorem mLf_156 : mLf 156 := ⟨List.mem_of_getElem? mCw_156, ⟨(1165, 150, 1163, 1164), List.all_eq_true.mp mMw_3 (mInfoAt 156, (1165, 150, 1163, 1164)) (List.mem_of_getElem? (i := 36) rfl)⟩, fun c hc => Option.some.inj hc ▸ mk156⟩
set_option maxRecDepth 100000 in
theorem mLf_157 : mLf 157 := ⟨List.mem_of_getElem? mCw_157, ⟨(1184, 150, 1182, 1183), List.all_eq_true.mp mMw_3 (mInfoAt 157, (1184, 150, 1182, 1183)) (List.mem_of_getElem? (i := 37) rfl)⟩, fun c hc => Option.some.inj hc ▸ mk157⟩
set_option maxRecDepth 100000 in
theorem mLf_158 : mLf 158 := ⟨List.mem_of_getElem? mCw_158, ⟨(1200, 150, 1198, 1199), List.all_eq_true.mp mMw_3 (mInfoAt 158, (1200, 150, 1198, 1199)) (List.mem_of_getElem? (i := 38) rfl)⟩, fun c hc => Option.some.inj hc ▸ mk158⟩
set_option maxRecDepth 100000 in
theorem mLf_159 : mLf 159 := ⟨List.mem_of_getElem? mCw_159, ⟨(1209, 150, 1207, 1208), List.all_eq_true.mp mMw_3 (mInfoAt 159, (1209, 150, 1207, 1208)) (List.mem_of_getElem? (i := 39) rfl)⟩, fun c hc => Option.some.inj hc ▸ mk159⟩
set_option maxRecDepth 100000 in
theorem mLf_160 : mLf 160 := ⟨List.mem_of_getElem? mCw_160, ⟨(1222, 150, 1220, 1221), List.all_eq_true.mp mMw_4 (mInfoAt 160, (1222, 150, 1220, 1221)) (List.mem_of_getElem? (i := 0) rfl)⟩, fun c hc => Option.some.inj hc ▸ mk160⟩
set_option maxRecDepth 100000 in
theorem mLf_161 : mLf 161 := ⟨List.mem_of_getElem? mCw_161, ⟨(1257, 150, 1255, 1256), List.all_eq_true.mp mMw_4 (mInfoAt 161, (1257, 150, 1255, 1256)) (List.mem_of_getElem? (i := 1) rfl)⟩, fun c hc => Option.some.inj hc ▸ mk161⟩
set_option maxRecDepth 100000 in
theorem mLf_162 : mLf 162 := ⟨List.mem_of_getElem? mCw_162, ⟨(1288, 150, 1286, 1287), List.all_eq_true.mp mMw_4 (mInfoAt 162, (1288, 150, 1286, 1287)) (List.mem_of_getElem? (i := 2) rfl)⟩, fun c hc => Option.some.inj hc ▸ mk162⟩
set_option maxRecDepth 100000 in
theorem mLf_163 : mLf 163 := ⟨List.mem_of_getElem? mCw_163, ⟨(1308, 150, 1306, 1307), List.all_eq_true.mp mMw_4 (mInfoAt 163, (1308, 150, 1306, 1307)) (List.mem_of_getElem? (i := 3) rfl)⟩, fun c hc => Option.some.inj hc ▸ mk163⟩
set_option maxRecDepth 100000 in
theorem mLf_164 : mLf 164 := ⟨List.mem_of_getElem? mCw_164, ⟨(1324, 150, 1322, 1323), List.all_eq_true.mp mMw_4 (mInfoAt 164, (1324, 150, 1322, 1323)) (List.mem_of_getElem? (i := 4) rfl)⟩, fun c hc => Option.some.inj hc ▸ mk164⟩
set_option maxRecDepth 100000 in
theorem mLf_165 : mLf 165 := ⟨List.mem_of_getElem? mCw_165, ⟨(1332, 150, 1330, 1331), List.all_eq_true.mp mMw_4 (mInfoAt 165, (1332, 150, 1330, 1331)) (List.mem_of_getElem? (i := 5) rfl)⟩, fun c hc => Option.some.inj hc ▸ mk165⟩
set_option maxRecDepth 100000 in
theorem mLf_166 : mLf 166 := ⟨List.mem_of_getElem? mCw_166, ⟨(1362, 150, 1360, 1361), List.all_eq_true.mp mMw_4 (mInfoAt 166, (1362, 150, 1360, 1361)) (List.mem_of_getElem? (i := 6) rfl)⟩, fun c hc => Option.some.inj hc ▸ mk166⟩
set_option maxRecDepth 100000 in
theorem mLf_167 : mLf 167 := ⟨List.mem_of_getElem? mCw_167, ⟨(1371, 150, 1369, 1370), List.all_eq_true.mp mMw_4 (mInfoAt 167, (1371, 150, 1369, 1370)) (List.mem_of_getElem? (i := 7) rfl)⟩, fun c hc => Option.some.inj hc ▸ mk167⟩
set_option maxRecDepth 100000 in
theorem mLf_168 : mLf 168 := ⟨List.mem_of_getElem? mCw_168, ⟨(1375, 150, 1373, 1374), List.all_eq_true.mp mMw_4 (mInfoAt 168, (1375, 150, 1373, 1374)) (List.mem_of_getElem? (i := 8) rfl)⟩, fun c hc => Option.some.inj hc ▸ mk168⟩
set_option maxRecDepth 100000 in
theorem mLf_169 : mLf 169 := ⟨List.mem_of_getElem? mCw_169, ⟨(1396, 150, 1394, 1395), List.all_eq_true.mp mMw_4 (mInfoAt 169, (1396, 150, 1394, 1395)) (List.mem_of_getElem? (i := 9) rfl)⟩, fun c hc => Option.some.inj hc ▸ mk169⟩
set_option maxRecDepth 100000 in
theorem mLf_170 : mLf 170 := ⟨List.mem_of_getElem? mCw_170, ⟨(1404, 150, 1402, 1403), List.all_eq_true.mp mMw_4 (mInfoAt 170, (1404, 150, 1402, 1403)) (List.mem_of_getElem? (i := 10) rfl)⟩, fun c hc => Option.some.inj hc ▸ mk170⟩
set_option maxRecDepth 100000 in
theorem mLf_171 : mLf 171 := ⟨List.mem_of_getElem? mCw_171, ⟨(1412, 150, 1410, 1411), List.all_eq_true.mp mMw_4 (mInfoAt 171, (1412, 150, 1410, 1411)) (List.mem_of_getElem? (i := 11) rfl)⟩, fun c hc => Option.some.inj hc ▸ mk171⟩
set_option maxRecDepth 100000 in
theorem mLf_172 : mLf 172 := ⟨List.mem_of_getElem? mCw_172, ⟨(1400, 150, 1399, 60), List.all_eq_true.mp mMw_4 (mInfoAt 172, (1400, 150, 1399, 60)) (List.mem_of_getElem? (i := 12) rfl)⟩, fun c hc => Option.some.inj hc ▸ mk172⟩
set_option maxRecDepth 100000 in
theorem mLf_173 : mLf 173 := ⟨List.mem_of_getElem? mCw_173, ⟨(931, 150, 930, 26), List.all_eq_true.mp mMw_4 (mInfoAt 173, (931, 150, 930, 26)) (List.mem_of_getElem? (i := 13) rfl)⟩, fun c hc => Option.some.inj hc ▸ mk173⟩
set_option maxRecDepth 100000 in
theorem mLf_174 : mLf 174 := ⟨List.mem_of_getElem? mCw_174, ⟨(1049, 150, 1048, 31), List.all_eq_true.mp mMw_4 (mInfoAt 174, (1049, 150, 1048, 31)) (List.mem_of_getElem? (i := 14) rfl)⟩, fun c hc => Option.some.inj hc ▸ mk174⟩
set_option maxRecDepth 100000 in
theorem mLf_175 : mLf 175 := ⟨List.mem_of_getElem? mCw_175, ⟨(1017, 150, 1016, 30), List.all_eq_true.mp mMw_4 (mInfoAt 175, (1017, 150, 1016, 30)) (List.mem_of_getElem? (i := 15) rfl)⟩, fun c hc => Option.some.inj hc ▸ mk175⟩
set_option maxRecDepth 100000 in
theorem mLf_176 : mLf 176 := ⟨List.mem_of_getElem? mCw_176, ⟨(980, 150, 979, 27), List.all_eq_true.mp mMw_4 (mInfoAt 176, (980, 150, 979, 27)) (List.mem_of_getElem? (i := 16) rfl)⟩, fun c hc => Option.some.inj hc ▸ mk176⟩
set_option maxRecDepth 100000 in
theorem mLf_177 : mLf 177 := ⟨List.mem_of_getElem? mCw_177, ⟨(997, 150, 996, 29), List.all_eq_true.mp mMw_4 (mInfoAt 177, (997, 150, 996, 29)) (List.mem_of_getElem? (i := 17) rfl)⟩, fun c hc => Option.some.inj hc ▸ mk177⟩
set_option maxRecDepth 100000 in
theorem mLf_178 : mLf 178 := ⟨List.mem_of_getElem? mCw_178, ⟨(993, 150, 992, 28), List.all_eq_true.mp mMw_4 (mInfoAt 178, (993, 150, 992, 28)) (List.mem_of_getElem? (i := 18) rfl)⟩, fun c hc => Option.some.inj hc ▸ mk178⟩
set_option maxRecDepth 100000 in
theorem mLf_179 : mLf 179 := ⟨List.mem_of_getElem? mCw_179, ⟨(1169, 150, 1168, 40), List.all_eq_true.mp mMw_4 (mInfoAt 179, (1169, 150, 1168, 40)) (List.mem_of_getElem? (i := 19) rfl)⟩, fun c hc => Option.some.inj hc ▸ mk179⟩
set_option maxRecDepth 100000 in
theorem mLf_180 : mLf 180 := ⟨List.mem_of_getElem? mCw_180, ⟨(1225, 150, 1224, 0), List.all_eq_true.mp mMw_4 (mInfoAt 180, (1225, 150, 1224, 0)) (List.mem_of_getElem? (i := 20) rfl)⟩, fun c hc => Option.some.inj hc ▸ mk180⟩
set_option maxRecDepth 100000 in
theorem mLf_181 : mLf 181 := ⟨List.mem_of_getElem? mCw_181, ⟨(942, 150, 941, 0), List.all_eq_true.mp mMw_4 (mInfoAt 181, (942, 150, 941, 0)) (List.mem_of_getElem? (i := 21) rfl)⟩, fun c hc => Option.some.inj hc ▸ mk181⟩
set_option maxRecDepth 100000 in
theorem mLf_182 : mLf 182 := ⟨List.mem_of_getElem? mCw_182, ⟨(1417, 161, 1416, 0), List.all_eq_true.mp mMw_4 (mInfoAt 182, (1417, 161, 1416, 0)) (List.mem_of_getElem? (i := 22) rfl)⟩, fun c hc => Option.some.inj hc ▸ mk182⟩
set_option maxRecDepth 100000 in
theorem mLf_183 : mLf 183 := ⟨List.mem_of_getElem? mCw_183, ⟨(1730, 161, 1729, 0), List.all_eq_true.mp mMw_4 (mInfoAt 183, (1730, 161, 1729, 0)) (List.mem_of_getElem? (i := 23) rfl)⟩, fun c hc => Option.some.inj hc ▸ mk183⟩
set_option maxRecDepth 100000 in
theorem mLf_184 : mLf 184 := ⟨List.mem_of_getElem? mCw_184, ⟨(1891, 161, 1890, 0), List.all_eq_true.mp mMw_4 (mInfoAt 184, (1891, 161, 1890, 0)) (List.mem_of_getElem? (i := 24) rfl)⟩, fun c hc => Option.some.inj hc ▸ mk184⟩
set_option maxRecDepth 100000 in
theorem mLf_185 : mLf 185 := ⟨List.mem_of_getElem? mCw_185, ⟨(1788, 161, 1787, 0), List.all_eq_true.mp mMw_4 (mInfoAt 185, (1788, 161, 1787, 0)) (List.mem_of_getElem? (i := 25) rfl)⟩, fun c hc => Option.some.inj hc ▸ mk185⟩
set_option maxRecDepth 100000 in
theorem mLf_186 : mLf 186 := ⟨List.mem_of_getElem? mCw_186, ⟨(1944, 161, 1943, 110), List.all_eq_true.mp mMw_4 (mInfoAt 186, (1944, 161, 1943, 110)) (List.mem_of_getElem? (i := 26) rfl)⟩, fun c hc => Option.some.inj hc ▸ mk186⟩
set_option maxRecDepth 100000 in
theorem mLf_187 : mLf 187 := ⟨List.mem_of_getElem? mCw_187, ⟨(1884, 161, 1883, 100), List.all_eq_true.mp mMw_4 (mInfoAt 187, (1884, 161, 1883, 100)) (List.mem_of_getElem? (i := 27) rfl)⟩, fun c hc => Option.some.inj hc ▸ mk187⟩
set_option maxRecDepth 100000 in
theorem mLf_188 : mLf 188 := ⟨List.mem_of_getElem? mCw_188, ⟨(1915, 161, 1914, 105), List.all_eq_true.mp mMw_4 (mInfoAt 188, (1915, 161, 1914, 105)) (List.mem_of_getElem? (i := 28) rfl)⟩, fun c hc => Option.some.inj hc ▸ mk188⟩
set_option maxRecDepth 100000 in
theorem mLf_189 : mLf 189 := ⟨List.mem_of_getElem? mCw_189, ⟨(1907, 161, 1906, 104), List.all_eq_true.mp mMw_4 (mInfoAt 189, (1907, 161, 1906, 104)) (List.mem_of_getElem? (i := 29) rfl)⟩, fun c hc => Option.some.inj hc ▸ mk189⟩
set_option maxRecDepth 100000 in
theorem mLf_190 : mLf 190 := ⟨List.mem_of_getElem? mCw_190, ⟨(1936, 161, 1935, 108), List.all_eq_true.mp mMw_4 (mInfoAt 190, (1936, 161, 1935, 108)) (List.mem_of_getElem? (i := 30) rfl)⟩, fun c hc => Option.some.inj hc ▸ mk190⟩
set_option maxRecDepth 100000 in
theorem mLf_191 : mLf 191 := ⟨List.mem_of_getElem? mCw_191, ⟨(1749, 161, 1748, 77), List.all_eq_true.mp mMw_4 (mInfoAt 191, (1749, 161, 1748, 77)) (List.mem_of_getElem? (i := 31) rfl)⟩, fun c hc => Option.some.inj hc ▸ mk191⟩
set_option maxRecDepth 100000 in
theorem mLf_192 : mLf 192 := ⟨List.mem_of_getElem? mCw_192, ⟨(1940, 161, 1939, 109), List.all_eq_true.mp mMw_4 (mInfoAt 192, (1940, 161, 1939, 109)) (List.mem_of_getElem? (i := 32) rfl)⟩, fun c hc => Option.some.inj hc ▸ mk192⟩
set_option maxRecDepth 100000 in
theorem mLf_193 : mLf 193 := ⟨List.mem_of_getElem? mCw_193, ⟨(1654, 161, 1652, 1653), List.all_eq_true.mp mMw_4 (mInfoAt 193, (1654, 161, 1652, 1653)) (List.mem_of_getElem? (i := 33) rfl)⟩, fun c hc => Option.some.inj hc ▸ mk193⟩
set_option maxRecDepth 100000 in
theorem mLf_194 : mLf 194 := ⟨List.mem_of_getElem? mCw_194, ⟨(1658, 161, 1657, 61), List.all_eq_true.mp mMw_4 (mInfoAt 194, (1658, 161, 1657, 61)) (List.mem_of_getElem? (i := 34) rfl)⟩, fun c hc => Option.some.inj hc ▸ mk194⟩
set_option maxRecDepth 100000 in
theorem mLf_195 : mLf 195 := ⟨List.mem_of_getElem? mCw_195, ⟨(1662, 161, 1660, 1661), List.all_eq_true.mp mMw_4 (mInfoAt 195, (1662, 161, 1660, 1661)) (List.mem_of_getElem? (i := 35) rfl)⟩, fun c hc => Option.some.inj hc ▸ mk195⟩
set_option maxRecDepth 100000 in
theorem mLf_196 : mLf 196 := ⟨List.mem_of_getElem? mCw_196, ⟨(1838, 161, 1837, 0), List.all_eq_true.mp mMw_4 (mInfoAt 196, (1838, 161, 1837, 0)) (List.mem_of_getElem? (i := 36) rfl)⟩, fun c hc => Option.some.inj hc ▸ mk196⟩
set_option maxRecDepth 100000 in
theorem mLf_197 : mLf 197 := ⟨List.mem_of_getElem? mCw_197, ⟨(1704, 161, 1703, 68), List.all_eq_true.mp mMw_4 (mInfoAt 197, (1704, 161, 1703, 68)) (List.mem_of_getElem? (i := 37) rfl)⟩, fun c hc => Option.some.inj hc ▸ mk197⟩
set_option maxRecDepth 100000 in
theorem mLf_198 : mLf 198 := ⟨List.mem_of_getElem? mCw_198, ⟨(1686, 161, 1685, 66), List.all_eq_true.mp mMw_4 (mInfoAt 198, (1686, 161, 1685, 66)) (List.mem_of_getElem? (i := 38) rfl)⟩, fun c hc => Option.some.inj hc ▸ mk198⟩
set_option maxRecDepth 100000 in
theorem mLf_199 : mLf 199 := ⟨List.mem_of_getElem? mCw_199, ⟨(1682, 161, 1681, 65), List.all_eq_true.mp mMw_4 (mInfoAt 199, (1682, 161, 1681, 65)) (List.mem_of_getElem? (i := 39) rfl)⟩, fun c hc => Option.some.inj hc ▸ mk199⟩
set_option maxRecDepth 100000 in
theorem mLf_200 : mLf 200 := ⟨List.mem_of_getElem? mCw_200, ⟨(1725, 161, 1724, 73), List.all_eq_true.mp mMw_5 (mInfoAt 200, (1725, 161, 1724, 73)) (List.mem_of_getElem? (i := 0) rfl)⟩, fun c hc => Option.some.inj hc ▸ mk200⟩
set_option maxRecDepth 100000 in
theorem mLf_201 : mLf 201 := ⟨List.mem_of_getElem? mCw_201, ⟨(1698, 161, 1697, 67), List.all_eq_true.mp mMw_5 (mInfoAt 201, (1698, 161, 1697, 67)) (List.mem_of_getElem? (i := 1) rfl)⟩, fun c hc => Option.some.inj hc ▸ mk201⟩
set_option maxRecDepth 100000 in
theorem mLf_202 : mLf 202 := ⟨List.mem_of_getElem? mCw_202, ⟨(1852, 161, 1851, 93), List.all_eq_true.mp mMw_5 (mInfoAt 202, (1852, 161, 1851, 93)) (List.mem_of_getElem? (i := 2) rfl)⟩, fun c hc => Option.some.inj hc ▸ mk202⟩
set_option maxRecDepth 100000 in
theorem mLf_203 : mLf 203 := ⟨List.mem_of_getElem? mCw_203, ⟨(1835, 161, 1834, 92), List.all_eq_true.mp mMw_5 (mInfoAt 203, (1835, 161, 1834, 92)) (List.mem_of_getElem? (i := 3) rfl)⟩, fun c hc => Option.some.inj hc ▸ mk203⟩
set_option maxRecDepth 100000 in
theorem mLf_204 : mLf 204 := ⟨List.mem_of_getElem? mCw_204, ⟨(1831, 161, 1830, 91), List.all_eq_true.mp mMw_5 (mInfoAt 204, (1831, 161, 1830, 91)) (List.mem_of_getElem? (i := 4) rfl)⟩, fun c hc => Option.some.inj hc ▸ mk204⟩
set_option maxRecDepth 100000 in
theorem mLf_205 : mLf 205 := ⟨List.mem_of_getElem? mCw_205, ⟨(1721, 161, 1720, 72), List.all_eq_true.mp mMw_5 (mInfoAt 205, (1721, 161, 1720, 72)) (List.mem_of_getElem? (i := 5) rfl)⟩, fun c hc => Option.some.inj hc ▸ mk205⟩
set_option maxRecDepth 100000 in
theorem mLf_206 : mLf 206 := ⟨List.mem_of_getElem? mCw_206, ⟨(1827, 161, 1826, 90), List.all_eq_true.mp mMw_5 (mInfoAt 206, (1827, 161, 1826, 90)) (List.mem_of_getElem? (i := 6) rfl)⟩, fun c hc => Option.some.inj hc ▸ mk206⟩
set_option maxRecDepth 100000 in
theorem mLf_207 : mLf 207 := ⟨List.mem_of_getElem? mCw_207, ⟨(1823, 161, 1822, 89), List.all_eq_true.mp mMw_5 (mInfoAt 207, (1823, 161, 1822, 89)) (List.mem_of_getElem? (i := 7) rfl)⟩, fun c hc => Option.some.inj hc ▸ mk207⟩
set_option maxRecDepth 100000 in
theorem mLf_208 : mLf 208 := ⟨List.mem_of_getElem? mCw_208, ⟨(1819, 161, 1818, 88), List.all_eq_true.mp mMw_5 (mInfoAt 208, (1819, 161, 1818, 88)) (List.mem_of_getElem? (i := 8) rfl)⟩, fun c hc => Option.some.inj hc ▸ mk208⟩
set_option maxRecDepth 100000 in
theorem mLf_209 : mLf 209 := ⟨List.mem_of_getElem? mCw_209, ⟨(1868, 161, 1867, 97), List.all_eq_true.mp mMw_5 (mInfoAt 209, (1868, 161, 1867, 97)) (List.mem_of_getElem? (i := 9) rfl)⟩, fun c hc => Option.some.inj hc ▸ mk209⟩
set_option maxRecDepth 100000 in
theorem mLf_210 : mLf 210 := ⟨List.mem_of_getElem? mCw_210, ⟨(1876, 161, 1875, 99), List.all_eq_true.mp mMw_5 (mInfoAt 210, (1876, 161, 1875, 99)) (List.mem_of_getElem? (i := 10) rfl)⟩, fun c hc => Option.some.inj hc ▸ mk210⟩
set_option maxRecDepth 100000 in
theorem mLf_211 : mLf 211 := ⟨List.mem_of_getElem? mCw_211, ⟨(1864, 161, 1863, 96), List.all_eq_true.mp mMw_5 (mInfoAt 211, (1864, 161, 1863, 96)) (List.mem_of_getElem? (i := 11) rfl)⟩, fun c hc => Option.some.inj hc ▸ mk211⟩
set_option maxRecDepth 100000 in
theorem mLf_212 : mLf 212 := ⟨List.mem_of_getElem? mCw_212, ⟨(1872, 161, 1871, 98), List.all_eq_true.mp mMw_5 (mInfoAt 212, (1872, 161, 1871, 98)) (List.mem_of_getElem? (i := 12) rfl)⟩, fun c hc => Option.some.inj hc ▸ mk212⟩
set_option maxRecDepth 100000 in
theorem mLf_213 : mLf 213 := ⟨List.mem_of_getElem? mCw_213, ⟨(1860, 161, 1859, 95), List.all_eq_true.mp mMw_5 (mInfoAt 213, (1860, 161, 1859, 95)) (List.mem_of_getElem? (i := 13) rfl)⟩, fun c hc => Option.some.inj hc ▸ mk213⟩
set_option maxRecDepth 100000 in
theorem mLf_214 : mLf 214 := ⟨List.mem_of_getElem? mCw_214, ⟨(1856, 161, 1855, 94), List.all_eq_true.mp mMw_5 (mInfoAt 214, (1856, 161, 1855, 94)) (List.mem_of_getElem? (i := 14) rfl)⟩, fun c hc => Option.some.inj hc ▸ mk214⟩
set_option maxRecDepth 100000 in
theorem mLf_215 : mLf 215 := ⟨List.mem_of_getElem? mCw_215, ⟨(1716, 161, 1715, 71), List.all_eq_true.mp mMw_5 (mInfoAt 215, (1716, 161, 1715, 71)) (List.mem_of_getElem? (i := 15) rfl)⟩, fun c hc => Option.some.inj hc ▸ mk215⟩
set_option maxRecDepth 100000 in
theorem mLf_216 : mLf 216 := ⟨List.mem_of_getElem? mCw_216, ⟨(1689, 161, 1688, 0), List.all_eq_true.mp mMw_5 (mInfoAt 216, (1689, 161, 1688, 0)) (List.mem_of_getElem? (i := 16) rfl)⟩, fun c hc => Option.some.inj hc ▸ mk216⟩
set_option maxRecDepth 100000 in
theorem mLf_217 : mLf 217 := ⟨List.mem_of_getElem? mCw_217, ⟨(1734, 161, 1733, 74), List.all_eq_true.mp mMw_5 (mInfoAt 217, (1734, 161, 1733, 74)) (List.mem_of_getElem? (i := 17) rfl)⟩, fun c hc => Option.some.inj hc ▸ mk217⟩
set_option maxRecDepth 100000 in
theorem mLf_218 : mLf 218 := ⟨List.mem_of_getElem? mCw_218, ⟨(1738, 161, 1737, 75), List.all_eq_true.mp mMw_5 (mInfoAt 218, (1738, 161, 1737, 75)) (List.mem_of_getElem? (i := 18) rfl)⟩, fun c hc => Option.some.inj hc ▸ mk218⟩
set_option maxRecDepth 100000 in
theorem mLf_219 : mLf 219 := ⟨List.mem_of_getElem? mCw_219, ⟨(1712, 161, 1711, 70), List.all_eq_true.mp mMw_5 (mInfoAt 219, (1712, 161, 1711, 70)) (List.mem_of_getElem? (i := 19) rfl)⟩, fun c hc => Option.some.inj hc ▸ mk219⟩
set_option maxRecDepth 100000 in
theorem mLf_220 : mLf 220 := ⟨List.mem_of_getElem? mCw_220, ⟨(1708, 161, 1707, 69), List.all_eq_true.mp mMw_5 (mInfoAt 220, (1708, 161, 1707, 69)) (List.mem_of_getElem? (i := 20) rfl)⟩, fun c hc => Option.some.inj hc ▸ mk220⟩
set_option maxRecDepth 100000 in
theorem mLf_221 : mLf 221 := ⟨List.mem_of_getElem? mCw_221, ⟨(1678, 161, 1677, 64), List.all_eq_true.mp mMw_5 (mInfoAt 221, (1678, 161, 1677, 64)) (List.mem_of_getElem? (i := 21) rfl)⟩, fun c hc => Option.some.inj hc ▸ mk221⟩
set_option maxRecDepth 100000 in
theorem mLf_222 : mLf 222 := ⟨List.mem_of_getElem? mCw_222, ⟨(1745, 161, 1744, 0), List.all_eq_true.mp mMw_5 (mInfoAt 222, (1745, 161, 1744, 0)) (List.mem_of_getElem? (i := 22) rfl)⟩, fun c hc => Option.some.inj hc ▸ mk222⟩
set_option maxRecDepth 100000 in
theorem mLf_223 : mLf 223 := ⟨List.mem_of_getElem? mCw_223, ⟨(1742, 161, 1741, 76), List.all_eq_true.mp mMw_5 (mInfoAt 223, (1742, 161, 1741, 76)) (List.mem_of_getElem? (i := 23) rfl)⟩, fun c hc => Option.some.inj hc ▸ mk223⟩
set_option maxRecDepth 100000 in
theorem mLf_224 : mLf 224 := ⟨List.mem_of_getElem? mCw_224, ⟨(1674, 161, 1673, 63), List.all_eq_true.mp mMw_5 (mInfoAt 224, (1674, 161, 1673, 63)) (List.mem_of_getElem? (i := 24) rfl)⟩, fun c hc => Option.some.inj hc ▸ mk224⟩
set_option maxRecDepth 100000 in
theorem mLf_225 : mLf 225 := ⟨List.mem_of_getElem? mCw_225, ⟨(1670, 161, 1669, 62), List.all_eq_true.mp mMw_5 (mInfoAt 225, (1670, 161, 1669, 62)) (List.mem_of_getElem? (i := 25) rfl)⟩, fun c hc => Option.some.inj hc ▸ mk225⟩
set_option maxRecDepth 100000 in
theorem mLf_226 : mLf 226 := ⟨List.mem_of_getElem? mCw_226, ⟨(1666, 161, 1664, 1665), List.all_eq_true.mp mMw_5 (mInfoAt 226, (1666, 161, 1664, 1665)) (List.mem_of_getElem? (i := 26) rfl)⟩, fun c hc => Option.some.inj hc ▸ mk226⟩
set_option maxRecDepth 100000 in
theorem mLf_227 : mLf 227 := ⟨List.mem_of_getElem? mCw_227, ⟨(1757, 161, 1756, 78), List.all_eq_true.mp mMw_5 (mInfoAt 227, (1757, 161, 1756, 78)) (List.mem_of_getElem? (i := 27) rfl)⟩, fun c hc => Option.some.inj hc ▸ mk227⟩
set_option maxRecDepth 100000 in
theorem mLf_228 : mLf 228 := ⟨List.mem_of_getElem? mCw_228, ⟨(1804, 161, 1803, 86), List.all_eq_true.mp mMw_5 (mInfoAt 228, (1804, 161, 1803, 86)) (List.mem_of_getElem? (i := 28) rfl)⟩, fun c hc => Option.some.inj hc ▸ mk228⟩
set_option maxRecDepth 100000 in
theorem mLf_229 : mLf 229 := ⟨List.mem_of_getElem? mCw_229, ⟨(1792, 161, 1791, 83), List.all_eq_true.mp mMw_5 (mInfoAt 229, (1792, 161, 1791, 83)) (List.mem_of_getElem? (i := 29) rfl)⟩, fun c hc => Option.some.inj hc ▸ mk229⟩
set_option maxRecDepth 100000 in
theorem mLf_230 : mLf 230 := ⟨List.mem_of_getElem? mCw_230, ⟨(1765, 161, 1764, 80), List.all_eq_true.mp mMw_5 (mInfoAt 230, (1765, 161, 1764, 80)) (List.mem_of_getElem? (i := 30) rfl)⟩, fun c hc => Option.some.inj hc ▸ mk230⟩
set_option maxRecDepth 100000 in
theorem mLf_231 : mLf 231 := ⟨List.mem_of_getElem? mCw_231, ⟨(1785, 161, 1784, 82), List.all_eq_true.mp mMw_5 (mInfoAt 231, (1785, 161, 1784, 82)) (List.mem_of_getElem? (i := 31) rfl)⟩, fun c hc => Option.some.inj hc ▸ mk231⟩
set_option maxRecDepth 100000 in
theorem mLf_232 : mLf 232 := ⟨List.mem_of_getElem? mCw_232, ⟨(1770, 161, 1769, 81), List.all_eq_true.mp mMw_5 (mInfoAt 232, (1770, 161, 1769, 81)) (List.mem_of_getElem? (i := 32) rfl)⟩, fun c hc => Option.some.inj hc ▸ mk232⟩
set_option maxRecDepth 100000 in
theorem mLf_233 : mLf 233 := ⟨List.mem_of_getElem? mCw_233, ⟨(1773, 161, 1772, 0), List.all_eq_true.mp mMw_5 (mInfoAt 233, (1773, 161, 1772, 0)) (List.mem_of_getElem? (i := 33) rfl)⟩, fun c hc => Option.some.inj hc ▸ mk233⟩
set_option maxRecDepth 100000 in
theorem mLf_234 : mLf 234 := ⟨List.mem_of_getElem? mCw_234, ⟨(1761, 161, 1760, 79), List.all_eq_true.mp mMw_5 (mInfoAt 234, (1761, 161, 1760, 79)) (List.mem_of_getElem? (i := 34) rfl)⟩, fun c hc => Option.some.inj hc ▸ mk234⟩
set_option maxRecDepth 100000 in
theorem mLf_235 : mLf 235 := ⟨List.mem_of_getElem? mCw_235, ⟨(1800, 161, 1799, 85), List.all_eq_true.mp mMw_5 (mInfoAt 235, (1800, 161, 1799, 85)) (List.mem_of_getElem? (i := 35) rfl)⟩, fun c hc => Option.some.inj hc ▸ mk235⟩
set_option maxRecDepth 100000 in
theorem mLf_236 : mLf 236 := ⟨List.mem_of_getElem? mCw_236, ⟨(1796, 161, 1795, 84), List.all_eq_true.mp mMw_5 (mInfoAt 236, (1796, 161, 1795, 84)) (List.mem_of_getElem? (i := 36) rfl)⟩, fun c hc => Option.some.inj hc ▸ mk236⟩
set_option maxRecDepth 100000 in
theorem mLf_237 : mLf 237 := ⟨List.mem_of_getElem? mCw_237, ⟨(1753, 161, 1751, 1752), List.all_eq_true.mp mMw_5 (mInfoAt 237, (1753, 161, 1751, 1752)) (List.mem_of_getElem? (i := 37) rfl)⟩, fun c hc => Option.some.inj hc ▸ mk237⟩
set_option maxRecDepth 100000 in
theorem mLf_238 : mLf 238 := ⟨List.mem_of_getElem? mCw_238, ⟨(1814, 161, 1813, 87), List.all_eq_true.mp mMw_5 (mInfoAt 238, (1814, 161, 1813, 87)) (List.mem_of_getElem? (i := 38) rfl)⟩, fun c hc => Option.some.inj hc ▸ mk238⟩
set_option maxRecDepth 100000 in
theorem mLf_239 : mLf 239 := ⟨List.mem_of_getElem? mCw_239, ⟨(1810, 161, 1808, 1809), List.all_eq_true.mp mMw_5 (mInfoAt 239, (1810, 161, 1808, 1809)) (List.mem_of_getElem? (i := 39) rfl)⟩, fun c hc => Option.some.inj hc ▸ mk239⟩
set_option maxRecDepth 100000 in
theorem mLf_240 : mLf 240 := ⟨List.mem_of_getElem? mCw_240, ⟨(2065, 161, 2064, 129), List.all_eq_true.mp mMw_6 (mInfoAt 240, (2065, 161, 2064, 129)) (List.mem_of_getElem? (i := 0) rfl)⟩, fun c hc => Option.some.inj hc ▸ mk240⟩
set_option maxRecDepth 100000 in
theorem mLf_241 : mLf 241 := ⟨List.mem_of_getElem? mCw_241, ⟨(2048, 161, 2047, 125), List.all_eq_true.mp mMw_6 (mInfoAt 241, (2048, 161, 2047, 125)) (List.mem_of_getElem? (i := 1) rfl)⟩, fun c hc => Option.some.inj hc ▸ mk241⟩
set_option maxRecDepth 100000 in
theorem mLf_242 : mLf 242 := ⟨List.mem_of_getElem? mCw_242, ⟨(2075, 161, 2074, 0), List.all_eq_true.mp mMw_6 (mInfoAt 242, (2075, 161, 2074, 0)) (List.mem_of_getElem? (i := 2) rfl)⟩, fun c hc => Option.some.inj hc ▸ mk242⟩
set_option maxRecDepth 100000 in
theorem mLf_243 : mLf 243 := ⟨List.mem_of_getElem? mCw_243, ⟨(2072, 161, 2071, 0), List.all_eq_true.mp mMw_6 (mInfoAt 243, (2072, 161, 2071, 0)) (List.mem_of_getElem? (i := 3) rfl)⟩, fun c hc => Option.some.inj hc ▸ mk243⟩
set_option maxRecDepth 100000 in
theorem mLf_244 : mLf 244 := ⟨List.mem_of_getElem? mCw_244, ⟨(2069, 161, 2068, 130), List.all_eq_true.mp mMw_6 (mInfoAt 244, (2069, 161, 2068, 130)) (List.mem_of_getElem? (i := 4) rfl)⟩, fun c hc => Option.some.inj hc ▸ mk244⟩
set_option maxRecDepth 100000 in
theorem mLf_245 : mLf 245 := ⟨List.mem_of_getElem? mCw_245, ⟨(1964, 161, 1963, 113), List.all_eq_true.mp mMw_6 (mInfoAt 245, (1964, 161, 1963, 113)) (List.mem_of_getElem? (i := 5) rfl)⟩, fun c hc => Option.some.inj hc ▸ mk245⟩
set_option maxRecDepth 100000 in
theorem mLf_246 : mLf 246 := ⟨List.mem_of_getElem? mCw_246, ⟨(1888, 161, 1887, 101), List.all_eq_true.mp mMw_6 (mInfoAt 246, (1888, 161, 1887, 101)) (List.mem_of_getElem? (i := 6) rfl)⟩, fun c hc => Option.some.inj hc ▸ mk246⟩
set_option maxRecDepth 100000 in
theorem mLf_247 : mLf 247 := ⟨List.mem_of_getElem? mCw_247, ⟨(1968, 161, 1967, 114), List.all_eq_true.mp mMw_6 (mInfoAt 247, (1968, 161, 1967, 114)) (List.mem_of_getElem? (i := 7) rfl)⟩, fun c hc => Option.some.inj hc ▸ mk247⟩
set_option maxRecDepth 100000 in
theorem mLf_248 : mLf 248 := ⟨List.mem_of_getElem? mCw_248, ⟨(1980, 161, 1979, 115), List.all_eq_true.mp mMw_6 (mInfoAt 248, (1980, 161, 1979, 115)) (List.mem_of_getElem? (i := 8) rfl)⟩, fun c hc => Option.some.inj hc ▸ mk248⟩
set_option maxRecDepth 100000 in
theorem mLf_249 : mLf 249 := ⟨List.mem_of_getElem? mCw_249, ⟨(2016, 161, 2015, 121), List.all_eq_true.mp mMw_6 (mInfoAt 249, (2016, 161, 2015, 121)) (List.mem_of_getElem? (i := 9) rfl)⟩, fun c hc => Option.some.inj hc ▸ mk249⟩
set_option maxRecDepth 100000 in
theorem mLf_250 : mLf 250 := ⟨List.mem_of_getElem? mCw_250, ⟨(1948, 161, 1947, 111), List.all_eq_true.mp mMw_6 (mInfoAt 250, (1948, 161, 1947, 111)) (List.mem_of_getElem? (i := 10) rfl)⟩, fun c hc => Option.some.inj hc ▸ mk250⟩
set_option maxRecDepth 100000 in
theorem mLf_251 : mLf 251 := ⟨List.mem_of_getElem? mCw_251, ⟨(1899, 161, 1898, 103), List.all_eq_true.mp mMw_6 (mInfoAt 251, (1899, 161, 1898, 103)) (List.mem_of_getElem? (i := 11) rfl)⟩, fun c hc => Option.some.inj hc ▸ mk251⟩
set_option maxRecDepth 100000 in
theorem mLf_252 : mLf 252 := ⟨List.mem_of_getElem? mCw_252, ⟨(1895, 161, 1894, 102), List.all_eq_true.mp mMw_6 (mInfoAt 252, (1895, 161, 1894, 102)) (List.mem_of_getElem? (i := 12) rfl)⟩, fun c hc => Option.some.inj hc ▸ mk252⟩
set_option maxRecDepth 100000 in
theorem mLf_253 : mLf 253 := ⟨List.mem_of_getElem? mCw_253, ⟨(2028, 161, 2027, 122), List.all_eq_true.mp mMw_6 (mInfoAt 253, (2028, 161, 2027, 122)) (List.mem_of_getElem? (i := 13) rfl)⟩, fun c hc => Option.some.inj hc ▸ mk253⟩
set_option maxRecDepth 100000 in
theorem mLf_254 : mLf 254 := ⟨List.mem_of_getElem? mCw_254, ⟨(1880, 161, 1878, 1879), List.all_eq_true.mp mMw_6 (mInfoAt 254, (1880, 161, 1878, 1879)) (List.mem_of_getElem? (i := 14) rfl)⟩, fun c hc => Option.some.inj hc ▸ mk254⟩
set_option maxRecDepth 100000 in
theorem mLf_255 : mLf 255 := ⟨List.mem_of_getElem? mCw_255, ⟨(1903, 161, 1901, 1902), List.all_eq_true.mp mMw_6 (mInfoAt 255, (1903, 161, 1901, 1902)) (List.mem_of_getElem? (i := 15) rfl)⟩, fun c hc => Option.some.inj hc ▸ mk255⟩
set_option maxRecDepth 100000 in
theorem mLf_256 : mLf 256 := ⟨List.mem_of_getElem? mCw_256, ⟨(1911, 161, 1909, 1910), List.all_eq_true.mp mMw_6 (mInfoAt 256, (1911, 161, 1909, 1910)) (List.mem_of_getElem? (i := 16) rfl)⟩, fun c hc => Option.some.inj hc ▸ mk256⟩
set_option maxRecDepth 100000 in
theorem mLf_257 : mLf 257 := ⟨List.mem_of_getElem? mCw_257, ⟨(1923, 161, 1922, 106), List.all_eq_true.mp mMw_6 (mInfoAt 257, (1923, 161, 1922, 106)) (List.mem_of_getElem? (i := 17) rfl)⟩, fun c hc => Option.some.inj hc ▸ mk257⟩
set_option maxRecDepth 100000 in
theorem mLf_258 : mLf 258 := ⟨List.mem_of_getElem? mCw_258, ⟨(1928, 161, 1927, 107), List.all_eq_true.mp mMw_6 (mInfoAt 258, (1928, 161, 1927, 107)) (List.mem_of_getElem? (i := 18) rfl)⟩, fun c hc => Option.some.inj hc ▸ mk258⟩
set_option maxRecDepth 100000 in
theorem mLf_259 : mLf 259 := ⟨List.mem_of_getElem? mCw_259, ⟨(1919, 161, 1917, 1918), List.all_eq_true.mp mMw_6 (mInfoAt 259, (1919, 161, 1917, 1918)) (List.mem_of_getElem? (i := 19) rfl)⟩, fun c hc => Option.some.inj hc ▸ mk259⟩
set_option maxRecDepth 100000 in
theorem mLf_260 : mLf 260 := ⟨List.mem_of_getElem? mCw_260, ⟨(1932, 161, 1930, 1931), List.all_eq_true.mp mMw_6 (mInfoAt 260, (1932, 161, 1930, 1931)) (List.mem_of_getElem? (i := 20) rfl)⟩, fun c hc => Option.some.inj hc ▸ mk260⟩
set_option maxRecDepth 100000 in
theorem mLf_261 : mLf 261 := ⟨List.mem_of_getElem? mCw_261, ⟨(1952, 161, 1950, 1951), List.all_eq_true.mp mMw_6 (mInfoAt 261, (1952, 161, 1950, 1951)) (List.mem_of_getElem? (i := 21) rfl)⟩, fun c hc => Option.some.inj hc ▸ mk261⟩
set_option maxRecDepth 100000 in
theorem mLf_262 : mLf 262 := ⟨List.mem_of_getElem? mCw_262, ⟨(1960, 161, 1959, 112), List.all_eq_true.mp mMw_6 (mInfoAt 262, (1960, 161, 1959, 112)) (List.mem_of_getElem? (i := 22) rfl)⟩, fun c hc => Option.some.inj hc ▸ mk262⟩
set_option maxRecDepth 100000 in
theorem mLf_263 : mLf 263 := ⟨List.mem_of_getElem? mCw_263, ⟨(1956, 161, 1954, 1955), List.all_eq_true.mp mMw_6 (mInfoAt 263, (1956, 161, 1954, 1955)) (List.mem_of_getElem? (i := 23) rfl)⟩, fun c hc => Option.some.inj hc ▸ mk263⟩
set_option maxRecDepth 100000 in
theorem mLf_264 : mLf 264 := ⟨List.mem_of_getElem? mCw_264, ⟨(1972, 161, 1970, 1971), List.all_eq_true.mp mMw_6 (mInfoAt 264, (1972, 161, 1970, 1971)) (List.mem_of_getElem? (i := 24) rfl)⟩, fun c hc => Option.some.inj hc ▸ mk264⟩
set_option maxRecDepth 100000 in
theorem mLf_265 : mLf 265 := ⟨List.mem_of_getElem? mCw_265, ⟨(1976, 161, 1974, 1975), List.all_eq_true.mp mMw_6 (mInfoAt 265, (1976, 161, 1974, 1975)) (List.mem_of_getElem? (i := 25) rfl)⟩, fun c hc => Option.some.inj hc ▸ mk265⟩
set_option maxRecDepth 100000 in
theorem mLf_266 : mLf 266 := ⟨List.mem_of_getElem? mCw_266, ⟨(1984, 161, 1982, 1983), List.all_eq_true.mp mMw_6 (mInfoAt 266, (1984, 161, 1982, 1983)) (List.mem_of_getElem? (i := 26) rfl)⟩, fun c hc => Option.some.inj hc ▸ mk266⟩
set_option maxRecDepth 100000 in
theorem mLf_267 : mLf 267 := ⟨List.mem_of_getElem? mCw_267, ⟨(1996, 161, 1995, 117), List.all_eq_true.mp mMw_6 (mInfoAt 267, (1996, 161, 1995, 117)) (List.mem_of_getElem? (i := 27) rfl)⟩, fun c hc => Option.some.inj hc ▸ mk267⟩
set_option maxRecDepth 100000 in
theorem mLf_268 : mLf 268 := ⟨List.mem_of_getElem? mCw_268, ⟨(2000, 161, 1999, 118), List.all_eq_true.mp mMw_6 (mInfoAt 268, (2000, 161, 1999, 118)) (List.mem_of_getElem? (i := 28) rfl)⟩, fun c hc => Option.some.inj hc ▸ mk268⟩
set_option maxRecDepth 100000 in
theorem mLf_269 : mLf 269 := ⟨List.mem_of_getElem? mCw_269, ⟨(1992, 161, 1991, 116), List.all_eq_true.mp mMw_6 (mInfoAt 269, (1992, 161, 1991, 116)) (List.mem_of_getElem? (i := 29) rfl)⟩, fun c hc => Option.some.inj hc ▸ mk269⟩
set_option maxRecDepth 100000 in
theorem mLf_270 : mLf 270 := ⟨List.mem_of_getElem? mCw_270, ⟨(2008, 161, 2007, 119), List.all_eq_true.mp mMw_6 (mInfoAt 270, (2008, 161, 2007, 119)) (List.mem_of_getElem? (i := 30) rfl)⟩, fun c hc => Option.some.inj hc ▸ mk270⟩
set_option maxRecDepth 100000 in
theorem mLf_271 : mLf 271 := ⟨List.mem_of_getElem? mCw_271, ⟨(1988, 161, 1986, 1987), List.all_eq_true.mp mMw_6 (mInfoAt 271, (1988, 161, 1986, 1987)) (List.mem_of_getElem? (i := 31) rfl)⟩, fun c hc => Option.some.inj hc ▸ mk271⟩
set_option maxRecDepth 100000 in
theorem mLf_272 : mLf 272 := ⟨List.mem_of_getElem? mCw_272, ⟨(2012, 161, 2011, 120), List.all_eq_true.mp mMw_6 (mInfoAt 272, (2012, 161, 2011, 120)) (List.mem_of_getElem? (i := 32) rfl)⟩, fun c hc => Option.some.inj hc ▸ mk272⟩
set_option maxRecDepth 100000 in
theorem mLf_273 : mLf 273 := ⟨List.mem_of_getElem? mCw_273, ⟨(2004, 161, 2002, 2003), List.all_eq_true.mp mMw_6 (mInfoAt 273, (2004, 161, 2002, 2003)) (List.mem_of_getElem? (i := 33) rfl)⟩, fun c hc => Option.some.inj hc ▸ mk273⟩
set_option maxRecDepth 100000 in
theorem mLf_274 : mLf 274 := ⟨List.mem_of_getElem? mCw_274, ⟨(2020, 161, 2018, 2019), List.all_eq_true.mp mMw_6 (mInfoAt 274, (2020, 161, 2018, 2019)) (List.mem_of_getElem? (i := 34) rfl)⟩, fun c hc => Option.some.inj hc ▸ mk274⟩
set_option maxRecDepth 100000 in
theorem mLf_275 : mLf 275 := ⟨List.mem_of_getElem? mCw_275, ⟨(2024, 161, 2022, 2023), List.all_eq_true.mp mMw_6 (mInfoAt 275, (2024, 161, 2022, 2023)) (List.mem_of_getElem? (i := 35) rfl)⟩, fun c hc => Option.some.inj hc ▸ mk275⟩
set_option maxRecDepth 100000 in
theorem mLf_276 : mLf 276 := ⟨List.mem_of_getElem? mCw_276, ⟨(2040, 161, 2039, 124), List.all_eq_true.mp mMw_6 (mInfoAt 276, (2040, 161, 2039, 124)) (List.mem_of_getElem? (i := 36) rfl)⟩, fun c hc => Option.some.inj hc ▸ mk276⟩
set_option maxRecDepth 100000 in
theorem mLf_277 : mLf 277 := ⟨List.mem_of_getElem? mCw_277, ⟨(2036, 161, 2035, 123), List.all_eq_true.mp mMw_6 (mInfoAt 277, (2036, 161, 2035, 123)) (List.mem_of_getElem? (i := 37) rfl)⟩, fun c hc => Option.some.inj hc ▸ mk277⟩
set_option maxRecDepth 100000 in
theorem mLf_278 : mLf 278 := ⟨List.mem_of_getElem? mCw_278, ⟨(2032, 161, 2030, 2031), List.all_eq_true.mp mMw_6 (mInfoAt 278, (2032, 161, 2030, 2031)) (List.mem_of_getElem? (i := 38) rfl)⟩, fun c hc => Option.some.inj hc ▸ mk278⟩
set_option maxRecDepth 100000 in
theorem mLf_279 : mLf 279 := ⟨List.mem_of_getElem? mCw_279, ⟨(2061, 161, 2060, 128), List.all_eq_true.mp mMw_6 (mInfoAt 279, (2061, 161, 2060, 128)) (List.mem_of_getElem? (i := 39) rfl)⟩, fun c hc => Option.some.inj hc ▸ mk279⟩
set_option maxRecDepth 100000 in
theorem mLf_280 : mLf 280 := ⟨List.mem_of_getElem? mCw_280, ⟨(2057, 161, 2056, 127), List.all_eq_true.mp mMw_7 (mInfoAt 280, (2057, 161, 2056, 127)) (List.mem_of_getElem? (i := 0) rfl)⟩, fun c hc => Option.some.inj hc ▸ mk280⟩
set_option maxRecDepth 100000 in
theorem mLf_281 : mLf 281 := ⟨List.mem_of_getElem? mCw_281, ⟨(2053, 161, 2052, 126), List.all_eq_true.mp mMw_7 (mInfoAt 281, (2053, 161, 2052, 126)) (List.mem_of_getElem? (i := 1) rfl)⟩, fun c hc => Option.some.inj hc ▸ mk281⟩
set_option maxRecDepth 100000 in
theorem mLf_282 : mLf 282 := ⟨List.mem_of_getElem? mCw_282, ⟨(2044, 161, 2042, 2043), List.all_eq_true.mp mMw_7 (mInfoAt 282, (2044, 161, 2042, 2043)) (List.mem_of_getElem? (i := 2) rfl)⟩, fun c hc => Option.some.inj hc ▸ mk282⟩
set_option maxRecDepth 100000 in
theorem mLf_283 : mLf 283 := ⟨List.mem_of_getElem? mCw_283, ⟨(2087, 161, 2086, 132), List.all_eq_true.mp mMw_7 (mInfoAt 283, (2087, 161, 2086, 132)) (List.mem_of_getElem? (i := 3) rfl)⟩, fun c hc => Option.some.inj hc ▸ mk283⟩
set_option maxRecDepth 100000 in
theorem mLf_284 : mLf 284 := ⟨List.mem_of_getElem? mCw_284, ⟨(2083, 161, 2082, 131), List.all_eq_true.mp mMw_7 (mInfoAt 284, (2083, 161, 2082, 131)) (List.mem_of_getElem? (i := 4) rfl)⟩, fun c hc => Option.some.inj hc ▸ mk284⟩
set_option maxRecDepth 100000 in
theorem mLf_285 : mLf 285 := ⟨List.mem_of_getElem? mCw_285, ⟨(2079, 161, 2077, 2078), List.all_eq_true.mp mMw_7 (mInfoAt 285, (2079, 161, 2077, 2078)) (List.mem_of_getElem? (i := 5) rfl)⟩, fun c hc => Option.some.inj hc ▸ mk285⟩
set_option maxRecDepth 100000 in
theorem mLf_286 : mLf 286 := ⟨List.mem_of_getElem? mCw_286, ⟨(2091, 161, 2089, 2090), List.all_eq_true.mp mMw_7 (mInfoAt 286, (2091, 161, 2089, 2090)) (List.mem_of_getElem? (i := 6) rfl)⟩, fun c hc => Option.some.inj hc ▸ mk286⟩
set_option maxRecDepth 100000 in
theorem mLf_287 : mLf 287 := ⟨List.mem_of_getElem? mCw_287, ⟨(2095, 161, 2093, 2094), List.all_eq_true.mp mMw_7 (mInfoAt 287, (2095, 161, 2093, 2094)) (List.mem_of_getElem? (i := 7) rfl)⟩, fun c hc => Option.some.inj hc ▸ mk287⟩
set_option maxRecDepth 100000 in
theorem mLf_288 : mLf 288 := ⟨List.mem_of_getElem? mCw_288, ⟨(2099, 161, 2097, 2098), List.all_eq_true.mp mMw_7 (mInfoAt 288, (2099, 161, 2097, 2098)) (List.mem_of_getElem? (i := 8) rfl)⟩, fun c hc => Option.some.inj hc ▸ mk288⟩
set_option maxRecDepth 100000 in
theorem mLf_289 : mLf 289 := ⟨List.mem_of_getElem? mCw_289, ⟨(2108, 161, 2107, 133), List.all_eq_true.mp mMw_7 (mInfoAt 289, (2108, 161, 2107, 133)) (List.mem_of_getElem? (i := 9) rfl)⟩, fun c hc => Option.some.inj hc ▸ mk289⟩
set_option maxRecDepth 100000 in
theorem mLf_290 : mLf 290 := ⟨List.mem_of_getElem? mCw_290, ⟨(2124, 161, 2123, 137), List.all_eq_true.mp mMw_7 (mInfoAt 290, (2124, 161, 2123, 137)) (List.mem_of_getElem? (i := 10) rfl)⟩, fun c hc => Option.some.inj hc ▸ mk290⟩
set_option maxRecDepth 100000 in
theorem mLf_291 : mLf 291 := ⟨List.mem_of_getElem? mCw_291, ⟨(2112, 161, 2111, 134), List.all_eq_true.mp mMw_7 (mInfoAt 291, (2112, 161, 2111, 134)) (List.mem_of_getElem? (i := 11) rfl)⟩, fun c hc => Option.some.inj hc ▸ mk291⟩
set_option maxRecDepth 100000 in
theorem mLf_292 : mLf 292 := ⟨List.mem_of_getElem? mCw_292, ⟨(2128, 161, 2127, 138), List.all_eq_true.mp mMw_7 (mInfoAt 292, (2128, 161, 2127, 138)) (List.mem_of_getElem? (i := 12) rfl)⟩, fun c hc => Option.some.inj hc ▸ mk292⟩
set_option maxRecDepth 100000 in
theorem mLf_293 : mLf 293 := ⟨List.mem_of_getElem? mCw_293, ⟨(2104, 161, 2102, 2103), List.all_eq_true.mp mMw_7 (mInfoAt 293, (2104, 161, 2102, 2103)) (List.mem_of_getElem? (i := 13) rfl)⟩, fun c hc => Option.some.inj hc ▸ mk293⟩
set_option maxRecDepth 100000 in
theorem mLf_294 : mLf 294 := ⟨List.mem_of_getElem? mCw_294, ⟨(2137, 161, 2136, 139), List.all_eq_true.mp mMw_7 (mInfoAt 294, (2137, 161, 2136, 139)) (List.mem_of_getElem? (i := 14) rfl)⟩, fun c hc => Option.some.inj hc ▸ mk294⟩
set_option maxRecDepth 100000 in
theorem mLf_295 : mLf 295 := ⟨List.mem_of_getElem? mCw_295, ⟨(2145, 161, 2144, 141), List.all_eq_true.mp mMw_7 (mInfoAt 295, (2145, 161, 2144, 141)) (List.mem_of_getElem? (i := 15) rfl)⟩, fun c hc => Option.some.inj hc ▸ mk295⟩
set_option maxRecDepth 100000 in
theorem mLf_296 : mLf 296 := ⟨List.mem_of_getElem? mCw_296, ⟨(2149, 161, 2148, 142), List.all_eq_true.mp mMw_7 (mInfoAt 296, (2149, 161, 2148, 142)) (List.mem_of_getElem? (i := 16) rfl)⟩, fun c hc => Option.some.inj hc ▸ mk296⟩
set_option maxRecDepth 100000 in
theorem mLf_297 : mLf 297 := ⟨List.mem_of_getElem? mCw_297, ⟨(2141, 161, 2140, 140), List.all_eq_true.mp mMw_7 (mInfoAt 297, (2141, 161, 2140, 140)) (List.mem_of_getElem? (i := 17) rfl)⟩, fun c hc => Option.some.inj hc ▸ mk297⟩
set_option maxRecDepth 100000 in
theorem mLf_298 : mLf 298 := ⟨List.mem_of_getElem? mCw_298, ⟨(2132, 161, 2130, 2131), List.all_eq_true.mp mMw_7 (mInfoAt 298, (2132, 161, 2130, 2131)) (List.mem_of_getElem? (i := 18) rfl)⟩, fun c hc => Option.some.inj hc ▸ mk298⟩
set_option maxRecDepth 100000 in
theorem mLf_299 : mLf 299 := ⟨List.mem_of_getElem? mCw_299, ⟨(2157, 161, 2156, 143), List.all_eq_true.mp mMw_7 (mInfoAt 299, (2157, 161, 2156, 143)) (List.mem_of_getElem? (i := 19) rfl)⟩, fun c hc => Option.some.inj hc ▸ mk299⟩
set_option maxRecDepth 100000 in
theorem mLf_300 : mLf 300 := ⟨List.mem_of_getElem? mCw_300, ⟨(2161, 161, 2160, 144), List.all_eq_true.mp mMw_7 (mInfoAt 300, (2161, 161, 2160, 144)) (List.mem_of_getElem? (i := 20) rfl)⟩, fun c hc => Option.some.inj hc ▸ mk300⟩
set_option maxRecDepth 100000 in
theorem mLf_301 : mLf 301 := ⟨List.mem_of_getElem? mCw_301, ⟨(2153, 161, 2151, 2152), List.all_eq_true.mp mMw_7 (mInfoAt 301, (2153, 161, 2151, 2152)) (List.mem_of_getElem? (i := 21) rfl)⟩, fun c hc => Option.some.inj hc ▸ mk301⟩
set_option maxRecDepth 100000 in
theorem mLf_302 : mLf 302 := ⟨List.mem_of_getElem? mCw_302, ⟨(2165, 161, 2163, 2164), List.all_eq_true.mp mMw_7 (mInfoAt 302, (2165, 161, 2163, 2164)) (List.mem_of_getElem? (i := 22) rfl)⟩, fun c hc => Option.some.inj hc ▸ mk302⟩
set_option maxRecDepth 100000 in
theorem mLf_303 : mLf 303 := ⟨List.mem_of_getElem? mCw_303, ⟨(2169, 161, 2167, 2168), List.all_eq_true.mp mMw_7 (mInfoAt 303, (2169, 161, 2167, 2168)) (List.mem_of_getElem? (i := 23) rfl)⟩, fun c hc => Option.some.inj hc ▸ mk303⟩
set_option maxRecDepth 100000 in
theorem mLf_304 : mLf 304 := ⟨List.mem_of_getElem? mCw_304, ⟨(2178, 161, 2177, 145), List.all_eq_true.mp mMw_7 (mInfoAt 304, (2178, 161, 2177, 145)) (List.mem_of_getElem? (i := 24) rfl)⟩, fun c hc => Option.some.inj hc ▸ mk304⟩
set_option maxRecDepth 100000 in
theorem mLf_305 : mLf 305 := ⟨List.mem_of_getElem? mCw_305, ⟨(2182, 161, 2181, 146), List.all_eq_true.mp mMw_7 (mInfoAt 305, (2182, 161, 2181, 146)) (List.mem_of_getElem? (i := 25) rfl)⟩, fun c hc => Option.some.inj hc ▸ mk305⟩
set_option maxRecDepth 100000 in
theorem mLf_306 : mLf 306 := ⟨List.mem_of_getElem? mCw_306, ⟨(2173, 161, 2171, 2172), List.all_eq_true.mp mMw_7 (mInfoAt 306, (2173, 161, 2171, 2172)) (List.mem_of_getElem? (i := 26) rfl)⟩, fun c hc => Option.some.inj hc ▸ mk306⟩
set_option maxRecDepth 100000 in
theorem mLf_307 : mLf 307 := ⟨List.mem_of_getElem? mCw_307, ⟨(2186, 161, 2184, 2185), List.all_eq_true.mp mMw_7 (mInfoAt 307, (2186, 161, 2184, 2185)) (List.mem_of_getElem? (i := 27) rfl)⟩, fun c hc => Option.some.inj hc ▸ mk307⟩
set_option maxRecDepth 100000 in
theorem mLf_308 : mLf 308 := ⟨List.mem_of_getElem? mCw_308, ⟨(2190, 161, 2188, 2189), List.all_eq_true.mp mMw_7 (mInfoAt 308, (2190, 161, 2188, 2189)) (List.mem_of_getElem? (i := 28) rfl)⟩, fun c hc => Option.some.inj hc ▸ mk308⟩
set_option maxRecDepth 100000 in
theorem mLf_309 : mLf 309 := ⟨List.mem_of_getElem? mCw_309, ⟨(2203, 161, 2202, 148), List.all_eq_true.mp mMw_7 (mInfoAt 309, (2203, 161, 2202, 148)) (List.mem_of_getElem? (i := 29) rfl)⟩, fun c hc => Option.some.inj hc ▸ mk309⟩
set_option maxRecDepth 100000 in
theorem mLf_310 : mLf 310 := ⟨List.mem_of_getElem? mCw_310, ⟨(2199, 161, 2198, 147), List.all_eq_true.mp mMw_7 (mInfoAt 310, (2199, 161, 2198, 147)) (List.mem_of_getElem? (i := 30) rfl)⟩, fun c hc => Option.some.inj hc ▸ mk310⟩
set_option maxRecDepth 100000 in
theorem mLf_311 : mLf 311 := ⟨List.mem_of_getElem? mCw_311, ⟨(2194, 161, 2192, 2193), List.all_eq_true.mp mMw_7 (mInfoAt 311, (2194, 161, 2192, 2193)) (List.mem_of_getElem? (i := 31) rfl)⟩, fun c hc => Option.some.inj hc ▸ mk311⟩
set_option maxRecDepth 100000 in
theorem mLf_312 : mLf 312 := ⟨List.mem_of_getElem? mCw_312, ⟨(2211, 161, 2209, 2210), List.all_eq_true.mp mMw_7 (mInfoAt 312, (2211, 161, 2209, 2210)) (List.mem_of_getElem? (i := 32) rfl)⟩, fun c hc => Option.some.inj hc ▸ mk312⟩
set_option maxRecDepth 100000 in
theorem mLf_313 : mLf 313 := ⟨List.mem_of_getElem? mCw_313, ⟨(2120, 161, 2119, 136), List.all_eq_true.mp mMw_7 (mInfoAt 313, (2120, 161, 2119, 136)) (List.mem_of_getElem? (i := 33) rfl)⟩, fun c hc => Option.some.inj hc ▸ mk313⟩
set_option maxRecDepth 100000 in
theorem mLf_314 : mLf 314 := ⟨List.mem_of_getElem? mCw_314, ⟨(2116, 161, 2115, 135), List.all_eq_true.mp mMw_7 (mInfoAt 314, (2116, 161, 2115, 135)) (List.mem_of_getElem? (i := 34) rfl)⟩, fun c hc => Option.some.inj hc ▸ mk314⟩
set_option maxRecDepth 100000 in
theorem mLf_315 : mLf 315 := ⟨List.mem_of_getElem? mCw_315, ⟨(2215, 161, 2213, 2214), List.all_eq_true.mp mMw_7 (mInfoAt 315, (2215, 161, 2213, 2214)) (List.mem_of_getElem? (i := 35) rfl)⟩, fun c hc => Option.some.inj hc ▸ mk315⟩
set_option maxRecDepth 100000 in
theorem mLf_316 : mLf 316 := ⟨List.mem_of_getElem? mCw_316, ⟨(2220, 161, 2218, 2219), List.all_eq_true.mp mMw_7 (mInfoAt 316, (2220, 161, 2218, 2219)) (List.mem_of_getElem? (i := 36) rfl)⟩, fun c hc => Option.some.inj hc ▸ mk316⟩
set_option maxRecDepth 100000 in
theorem mLf_317 : mLf 317 := ⟨List.mem_of_getElem? mCw_317, ⟨(1187, 171, 1186, 0), List.all_eq_true.mp mMw_7 (mInfoAt 317, (1187, 171, 1186, 0)) (List.mem_of_getElem? (i := 37) rfl)⟩, fun c hc => Option.some.inj hc ▸ mk317⟩
set_option maxRecDepth 100000 in
theorem mLf_318 : mLf 318 := ⟨List.mem_of_getElem? mCw_318, ⟨(950, 170, 949, 0), List.all_eq_true.mp mMw_7 (mInfoAt 318, (950, 170, 949, 0)) (List.mem_of_getElem? (i := 38) rfl)⟩, fun c hc => Option.some.inj hc ▸ mk318⟩
set_option maxRecDepth 100000 in
theorem mLf_319 : mLf 319 := ⟨List.mem_of_getElem? mCw_319, ⟨(609, 162, 607, 608), List.all_eq_true.mp mMw_7 (mInfoAt 319, (609, 162, 607, 608)) (List.mem_of_getElem? (i := 39) rfl)⟩, fun c hc => Option.some.inj hc ▸ mk319⟩
set_option maxRecDepth 100000 in
theorem mLf_320 : mLf 320 := ⟨List.mem_of_getElem? mCw_320, ⟨(619, 162, 617, 618), List.all_eq_true.mp mMw_8 (mInfoAt 320, (619, 162, 617, 618)) (List.mem_of_getElem? (i := 0) rfl)⟩, fun c hc => Option.some.inj hc ▸ mk320⟩
set_option maxRecDepth 100000 in
theorem mLf_321 : mLf 321 := ⟨List.mem_of_getElem? mCw_321, ⟨(613, 162, 611, 612), List.all_eq_true.mp mMw_8 (mInfoAt 321, (613, 162, 611, 612)) (List.mem_of_getElem? (i := 1) rfl)⟩, fun c hc => Option.some.inj hc ▸ mk321⟩
set_option maxRecDepth 100000 in
theorem mLf_322 : mLf 322 := ⟨List.mem_of_getElem? mCw_322, ⟨(623, 162, 621, 622), List.all_eq_true.mp mMw_8 (mInfoAt 322, (623, 162, 621, 622)) (List.mem_of_getElem? (i := 2) rfl)⟩, fun c hc => Option.some.inj hc ▸ mk322⟩
set_option maxRecDepth 100000 in
theorem mLf_323 : mLf 323 := ⟨List.mem_of_getElem? mCw_323, ⟨(629, 162, 628, 0), List.all_eq_true.mp mMw_8 (mInfoAt 323, (629, 162, 628, 0)) (List.mem_of_getElem? (i := 3) rfl)⟩, fun c hc => Option.some.inj hc ▸ mk323⟩
set_option maxRecDepth 100000 in
theorem mLf_324 : mLf 324 := ⟨List.mem_of_getElem? mCw_324, ⟨(626, 163, 625, 0), List.all_eq_true.mp mMw_8 (mInfoAt 324, (626, 163, 625, 0)) (List.mem_of_getElem? (i := 4) rfl)⟩, fun c hc => Option.some.inj hc ▸ mk324⟩
set_option maxRecDepth 100000 in
theorem mLf_325 : mLf 325 := ⟨List.mem_of_getElem? mCw_325, ⟨(673, 166, 672, 0), List.all_eq_true.mp mMw_8 (mInfoAt 325, (673, 166, 672, 0)) (List.mem_of_getElem? (i := 5) rfl)⟩, fun c hc => Option.some.inj hc ▸ mk325⟩
set_option maxRecDepth 100000 in
theorem mLf_326 : mLf 326 := ⟨List.mem_of_getElem? mCw_326, ⟨(888, 166, 887, 0), List.all_eq_true.mp mMw_8 (mInfoAt 326, (888, 166, 887, 0)) (List.mem_of_getElem? (i := 6) rfl)⟩, fun c hc => Option.some.inj hc ▸ mk326⟩
set_option maxRecDepth 100000 in
theorem mLf_327 : mLf 327 := ⟨List.mem_of_getElem? mCw_327, ⟨(634, 164, 633, 0), List.all_eq_true.mp mMw_8 (mInfoAt 327, (634, 164, 633, 0)) (List.mem_of_getElem? (i := 7) rfl)⟩, fun c hc => Option.some.inj hc ▸ mk327⟩
theorem mLfs_0 : ∀ y, 0 ≤ y → y < 41 → mLf y := (mSplit (b := 20) (mSplit (b := 10) (mSplit (b := 5) (mSplit (b := 2) (mSplit (b := 1) (mOne 0 rfl mLf_0) (mOne 1 rfl mLf_1)) (mSplit (b := 3) (mOne 2 rfl mLf_2) (mSplit (b := 4) (mOne 3 rfl mLf_3) (mOne 4 rfl mLf_4)))) (mSplit (b := 7) (mSplit (b := 6) (mOne 5 rfl mLf_5) (mOne 6 rfl mLf_6)) (mSplit (b := 8) (mOne 7 rfl mLf_7) (mSplit (b := 9) (mOne 8 rfl mLf_8) (mOne 9 rfl mLf_9))))) (mSplit (b := 15) (mSplit (b := 12) (mSplit (b := 11) (mOne 10 rfl mLf_10) (mOne 11 rfl mLf_11)) (mSplit (b := 13) (mOne 12 rfl mLf_12) (mSplit (b := 14) (mOne 13 rfl mLf_13) (mOne 14 rfl mLf_14)))) (mSplit (b := 17) (mSplit (b := 16) (mOne 15 rfl mLf_15) (mOne 16 rfl mLf_16)) (mSplit (b := 18) (mOne 17 rfl mLf_17) (mSplit (b := 19) (mOne 18 rfl mLf_18) (mOne 19 rfl mLf_19)))))) (mSplit (b := 30) (mSplit (b := 25) (mSplit (b := 22) (mSplit (b := 21) (mOne 20 rfl mLf_20) (mOne 21 rfl mLf_21)) (mSplit (b := 23) (mOne 22 rfl mLf_22) (mSplit (b := 24) (mOne 23 rfl mLf_23) (mOne 24 rfl mLf_24)))) (mSplit (b := 27) (mSplit (b := 26) (mOne 25 rfl mLf_25) (mOne 26 rfl mLf_26)) (mSplit (b := 28) (mOne 27 rfl mLf_27) (mSplit (b := 29) (mOne 28 rfl mLf_28) (mOne 29 rfl mLf_29))))) (mSplit (b := 35) (mSplit (b := 32) (mSplit (b := 31) (mOne 30 rfl mLf_30) (mOne 31 rfl mLf_31)) (mSplit (b := 33) (mOne 32 rfl mLf_32) (mSplit (b := 34) (mOne 33 rfl mLf_33) (mOne 34 rfl mLf_34)))) (mSplit (b := 38) (mSplit (b := 36) (mOne 35 rfl mLf_35) (mSplit (b := 37) (mOne 36 rfl mLf_36) (mOne 37 rfl mLf_37))) (mSplit (b := 39) (mOne 38 rfl mLf_38) (mSplit (b := 40) (mOne 39 rfl mLf_39) (mOne 40 rfl mLf_40)))))))
theorem mLfs_1 : ∀ y, 41 ≤ y → y < 82 → mLf y := (mSplit (b := 61) (mSplit (b := 51) (mSplit (b := 46) (mSplit (b := 43) (mSplit (b := 42) (mOne 41 rfl mLf_41) (mOne 42 rfl mLf_42)) (mSplit (b := 44) (mOne 43 rfl mLf_43) (mSplit (b := 45) (mOne 44 rfl mLf_44) (mOne 45 rfl mLf_45)))) (mSplit (b := 48) (mSplit (b := 47) (mOne 46 rfl mLf_46) (mOne 47 rfl mLf_47)) (mSplit (b := 49) (mOne 48 rfl mLf_48) (mSplit (b := 50) (mOne 49 rfl mLf_49) (mOne 50 rfl mLf_50))))) (mSplit (b := 56) (mSplit (b := 53) (mSplit (b := 52) (mOne 51 rfl mLf_51) (mOne 52 rfl mLf_52)) (mSplit (b := 54) (mOne 53 rfl mLf_53) (mSplit (b := 55) (mOne 54 rfl mLf_54) (mOne 55 rfl mLf_55)))) (mSplit (b := 58) (mSplit (b := 57) (mOne 56 rfl mLf_56) (mOne 57 rfl mLf_57)) (mSplit (b := 59) (mOne 58 rfl mLf_58) (mSplit (b := 60) (mOne 59 rfl mLf_59) (mOne 60 rfl mLf_60)))))) (mSplit (b := 71) (mSplit (b := 66) (mSplit (b := 63) (mSplit (b := 62) (mOne 61 rfl mLf_61) (mOne 62 rfl mLf_62)) (mSplit (b := 64) (mOne 63 rfl mLf_63) (mSplit (b := 65) (mOne 64 rfl mLf_64) (mOne 65 rfl mLf_65)))) (mSplit (b := 68) (mSplit (b := 67) (mOne 66 rfl mLf_66) (mOne 67 rfl mLf_67)) (mSplit (b := 69) (mOne 68 rfl mLf_68) (mSplit (b := 70) (mOne 69 rfl mLf_69) (mOne 70 rfl mLf_70))))) (mSplit (b := 76) (mSplit (b := 73) (mSplit (b := 72) (mOne 71 rfl mLf_71) (mOne 72 rfl mLf_72)) (mSplit (b := 74) (mOne 73 rfl mLf_73) (mSplit (b := 75) (mOne 74 rfl mLf_74) (mOne 75 rfl mLf_75)))) (mSplit (b := 79) (mSplit (b := 77) (mOne 76 rfl mLf_76) (mSplit (b := 78) (mOne 77 rfl mLf_77) (mOne 78 rfl mLf_78))) (mSplit (b := 80) (mOne 79 rfl mLf_79) (mSplit (b := 81) (mOne 80 rfl mLf_80) (mOne 81 rfl mLf_81)))))))
theorem mLfs_2 : ∀ y, 82 ≤ y → y < 123 → mLf y := (mSplit (b := 102) (mSplit (b := 92) (mSplit (b := 87) (mSplit (b := 84) (mSplit (b := 83) (mOne 82 rfl mLf_82) (mOne 83 rfl mLf_83)) (mSplit (b := 85) (mOne 84 rfl mLf_84) (mSplit (b := 86) (mOne 85 rfl mLf_85) (mOne 86 rfl mLf_86)))) (mSplit (b := 89) (mSplit (b := 88) (mOne 87 rfl mLf_87) (mOne 88 rfl mLf_88)) (mSplit (b := 90) (mOne 89 rfl mLf_89) (mSplit (b := 91) (mOne 90 rfl mLf_90) (mOne 91 rfl mLf_91))))) (mSplit (b := 97) (mSplit (b := 94) (mSplit (b := 93) (mOne 92 rfl mLf_92) (mOne 93 rfl mLf_93)) (mSplit (b := 95) (mOne 94 rfl mLf_94) (mSplit (b := 96) (mOne 95 rfl mLf_95) (mOne 96 rfl mLf_96)))) (mSplit (b := 99) (mSplit (b := 98) (mOne 97 rfl mLf_97) (mOne 98 rfl mLf_98)) (mSplit (b := 100) (mOne 99 rfl mLf_99) (mSplit (b := 101) (mOne 100 rfl mLf_100) (mOne 101 rfl mLf_101)))))) (mSplit (b := 112) (mSplit (b := 107) (mSplit (b := 104) (mSplit (b := 103) (mOne 102 rfl mLf_102) (mOne 103 rfl mLf_103)) (mSplit (b := 105) (mOne 104 rfl mLf_104) (mSplit (b := 106) (mOne 105 rfl mLf_105) (mOne 106 rfl mLf_106)))) (mSplit (b := 109) (mSplit (b := 108) (mOne 107 rfl mLf_107) (mOne 108 rfl mLf_108)) (mSplit (b := 110) (mOne 109 rfl mLf_109) (mSplit (b := 111) (mOne 110 rfl mLf_110) (mOne 111 rfl mLf_111))))) (mSplit (b := 117) (mSplit (b := 114) (mSplit (b := 113) (mOne 112 rfl mLf_112) (mOne 113 rfl mLf_113)) (mSplit (b := 115) (mOne 114 rfl mLf_114) (mSplit (b := 116) (mOne 115 rfl mLf_115) (mOne 116 rfl mLf_116)))) (mSplit (b := 120) (mSplit (b := 118) (mOne 117 rfl mLf_117) (mSplit (b := 119) (mOne 118 rfl mLf_118) (mOne 119 rfl mLf_119))) (mSplit (b := 121) (mOne 120 rfl mLf_120) (mSplit (b := 122) (mOne 121 rfl mLf_121) (mOne 122 rfl mLf_122)))))))
theorem mLfs_3 : ∀ y, 123 ≤ y → y < 164 → mLf y := (mSplit (b := 143) (mSplit (b := 133) (mSplit (b := 128) (mSplit (b := 125) (mSplit (b := 124) (mOne 123 rfl mLf_123) (mOne 124 rfl mLf_124)) (mSplit (b := 126) (mOne 125 rfl mLf_125) (mSplit (b := 127) (mOne 126 rfl mLf_126) (mOne 127 rfl mLf_127)))) (mSplit (b := 130) (mSplit (b := 129) (mOne 128 rfl mLf_128) (mOne 129 rfl mLf_129)) (mSplit (b := 131) (mOne 130 rfl mLf_130) (mSplit (b := 132) (mOne 131 rfl mLf_131) (mOne 132 rfl mLf_132))))) (mSplit (b := 138) (mSplit (b := 135) (mSplit (b := 134) (mOne 133 rfl mLf_133) (mOne 134 rfl mLf_134)) (mSplit (b := 136) (mOne 135 rfl mLf_135) (mSplit (b := 137) (mOne 136 rfl mLf_136) (mOne 137 rfl mLf_137)))) (mSplit (b := 140) (mSplit (b := 139) (mOne 138 rfl mLf_138) (mOne 139 rfl mLf_139)) (mSplit (b := 141) (mOne 140 rfl mLf_140) (mSplit (b := 142) (mOne 141 rfl mLf_141) (mOne 142 rfl mLf_142)))))) (mSplit (b := 153) (mSplit (b := 148) (mSplit (b := 145) (mSplit (b := 144) (mOne 143 rfl mLf_143) (mOne 144 rfl mLf_144)) (mSplit (b := 146) (mOne 145 rfl mLf_145) (mSplit (b := 147) (mOne 146 rfl mLf_146) (mOne 147 rfl mLf_147)))) (mSplit (b := 150) (mSplit (b := 149) (mOne 148 rfl mLf_148) (mOne 149 rfl mLf_149)) (mSplit (b := 151) (mOne 150 rfl mLf_150) (mSplit (b := 152) (mOne 151 rfl mLf_151) (mOne 152 rfl mLf_152))))) (mSplit (b := 158) (mSplit (b := 155) (mSplit (b := 154) (mOne 153 rfl mLf_153) (mOne 154 rfl mLf_154)) (mSplit (b := 156) (mOne 155 rfl mLf_155) (mSplit (b := 157) (mOne 156 rfl mLf_156) (mOne 157 rfl mLf_157)))) (mSplit (b := 161) (mSplit (b := 159) (mOne 158 rfl mLf_158) (mSplit (b := 160) (mOne 159 rfl mLf_159) (mOne 160 rfl mLf_160))) (mSplit (b := 162) (mOne 161 rfl mLf_161) (mSplit (b := 163) (mOne 162 rfl mLf_162) (mOne 163 rfl mLf_163)))))))
theorem mLfs_4 : ∀ y, 164 ≤ y → y < 205 → mLf y := (mSplit (b := 184) (mSplit (b := 174) (mSplit (b := 169) (mSplit (b := 166) (mSplit (b := 165) (mOne 164 rfl mLf_164) (mOne 165 rfl mLf_165)) (mSplit (b := 167) (mOne 166 rfl mLf_166) (mSplit (b := 168) (mOne 167 rfl mLf_167) (mOne 168 rfl mLf_168)))) (mSplit (b := 171) (mSplit (b := 170) (mOne 169 rfl mLf_169) (mOne 170 rfl mLf_170)) (mSplit (b := 172) (mOne 171 rfl mLf_171) (mSplit (b := 173) (mOne 172 rfl mLf_172) (mOne 173 rfl mLf_173))))) (mSplit (b := 179) (mSplit (b := 176) (mSplit (b := 175) (mOne 174 rfl mLf_174) (mOne 175 rfl mLf_175)) (mSplit (b := 177) (mOne 176 rfl mLf_176) (mSplit (b := 178) (mOne 177 rfl mLf_177) (mOne 178 rfl mLf_178)))) (mSplit (b := 181) (mSplit (b := 180) (mOne 179 rfl mLf_179) (mOne 180 rfl mLf_180)) (mSplit (b := 182) (mOne 181 rfl mLf_181) (mSplit (b := 183) (mOne 182 rfl mLf_182) (mOne 183 rfl mLf_183)))))) (mSplit (b := 194) (mSplit (b := 189) (mSplit (b := 186) (mSplit (b := 185) (mOne 184 rfl mLf_184) (mOne 185 rfl mLf_185)) (mSplit (b := 187) (mOne 186 rfl mLf_186) (mSplit (b := 188) (mOne 187 rfl mLf_187) (mOne 188 rfl mLf_188)))) (mSplit (b := 191) (mSplit (b := 190) (mOne 189 rfl mLf_189) (mOne 190 rfl mLf_190)) (mSplit (b := 192) (mOne 191 rfl mLf_191) (mSplit (b := 193) (mOne 192 rfl mLf_192) (mOne 193 rfl mLf_193))))) (mSplit (b := 199) (mSplit (b := 196) (mSplit (b := 195) (mOne 194 rfl mLf_194) (mOne 195 rfl mLf_195)) (mSplit (b := 197) (mOne 196 rfl mLf_196) (mSplit (b := 198) (mOne 197 rfl mLf_197) (mOne 198 rfl mLf_198)))) (mSplit (b := 202) (mSplit (b := 200) (mOne 199 rfl mLf_199) (mSplit (b := 201) (mOne 200 rfl mLf_200) (mOne 201 rfl mLf_201))) (mSplit (b := 203) (mOne 202 rfl mLf_202) (mSplit (b := 204) (mOne 203 rfl mLf_203) (mOne 204 rfl mLf_204)))))))
theorem mLfs_5 : ∀ y, 205 ≤ y → y < 246 → mLf y := (mSplit (b := 225) (mSplit (b := 215) (mSplit (b := 210) (mSplit (b := 207) (mSplit (b := 206) (mOne 205 rfl mLf_205) (mOne 206 rfl mLf_206)) (mSplit (b := 208) (mOne 207 rfl mLf_207) (mSplit (b := 209) (mOne 208 rfl mLf_208) (mOne 209 rfl mLf_209)))) (mSplit (b := 212) (mSplit (b := 211) (mOne 210 rfl mLf_210) (mOne 211 rfl mLf_211)) (mSplit (b := 213) (mOne 212 rfl mLf_212) (mSplit (b := 214) (mOne 213 rfl mLf_213) (mOne 214 rfl mLf_214))))) (mSplit (b := 220) (mSplit (b := 217) (mSplit (b := 216) (mOne 215 rfl mLf_215) (mOne 216 rfl mLf_216)) (mSplit (b := 218) (mOne 217 rfl mLf_217) (mSplit (b := 219) (mOne 218 rfl mLf_218) (mOne 219 rfl mLf_219)))) (mSplit (b := 222) (mSplit (b := 221) (mOne 220 rfl mLf_220) (mOne 221 rfl mLf_221)) (mSplit (b := 223) (mOne 222 rfl mLf_222) (mSplit (b := 224) (mOne 223 rfl mLf_223) (mOne 224 rfl mLf_224)))))) (mSplit (b := 235) (mSplit (b := 230) (mSplit (b := 227) (mSplit (b := 226) (mOne 225 rfl mLf_225) (mOne 226 rfl mLf_226)) (mSplit (b := 228) (mOne 227 rfl mLf_227) (mSplit (b := 229) (mOne 228 rfl mLf_228) (mOne 229 rfl mLf_229)))) (mSplit (b := 232) (mSplit (b := 231) (mOne 230 rfl mLf_230) (mOne 231 rfl mLf_231)) (mSplit (b := 233) (mOne 232 rfl mLf_232) (mSplit (b := 234) (mOne 233 rfl mLf_233) (mOne 234 rfl mLf_234))))) (mSplit (b := 240) (mSplit (b := 237) (mSplit (b := 236) (mOne 235 rfl mLf_235) (mOne 236 rfl mLf_236)) (mSplit (b := 238) (mOne 237 rfl mLf_237) (mSplit (b := 239) (mOne 238 rfl mLf_238) (mOne 239 rfl mLf_239)))) (mSplit (b := 243) (mSplit (b := 241) (mOne 240 rfl mLf_240) (mSplit (b := 242) (mOne 241 rfl mLf_241) (mOne 242 rfl mLf_242))) (mSplit (b := 244) (mOne 243 rfl mLf_243) (mSplit (b := 245) (mOne 244 rfl mLf_244) (mOne 245 rfl mLf_245)))))))
theorem mLfs_6 : ∀ y, 246 ≤ y → y < 287 → mLf y := (mSplit (b := 266) (mSplit (b := 256) (mSplit (b := 251) (mSplit (b := 248) (mSplit (b := 247) (mOne 246 rfl mLf_246) (mOne 247 rfl mLf_247)) (mSplit (b := 249) (mOne 248 rfl mLf_248) (mSplit (b := 250) (mOne 249 rfl mLf_249) (mOne 250 rfl mLf_250)))) (mSplit (b := 253) (mSplit (b := 252) (mOne 251 rfl mLf_251) (mOne 252 rfl mLf_252)) (mSplit (b := 254) (mOne 253 rfl mLf_253) (mSplit (b := 255) (mOne 254 rfl mLf_254) (mOne 255 rfl mLf_255))))) (mSplit (b := 261) (mSplit (b := 258) (mSplit (b := 257) (mOne 256 rfl mLf_256) (mOne 257 rfl mLf_257)) (mSplit (b := 259) (mOne 258 rfl mLf_258) (mSplit (b := 260) (mOne 259 rfl mLf_259) (mOne 260 rfl mLf_260)))) (mSplit (b := 263) (mSplit (b := 262) (mOne 261 rfl mLf_261) (mOne 262 rfl mLf_262)) (mSplit (b := 264) (mOne 263 rfl mLf_263) (mSplit (b := 265) (mOne 264 rfl mLf_264) (mOne 265 rfl mLf_265)))))) (mSplit (b := 276) (mSplit (b := 271) (mSplit (b := 268) (mSplit (b := 267) (mOne 266 rfl mLf_266) (mOne 267 rfl mLf_267)) (mSplit (b := 269) (mOne 268 rfl mLf_268) (mSplit (b := 270) (mOne 269 rfl mLf_269) (mOne 270 rfl mLf_270)))) (mSplit (b := 273) (mSplit (b := 272) (mOne 271 rfl mLf_271) (mOne 272 rfl mLf_272)) (mSplit (b := 274) (mOne 273 rfl mLf_273) (mSplit (b := 275) (mOne 274 rfl mLf_274) (mOne 275 rfl mLf_275))))) (mSplit (b := 281) (mSplit (b := 278) (mSplit (b := 277) (mOne 276 rfl mLf_276) (mOne 277 rfl mLf_277)) (mSplit (b := 279) (mOne 278 rfl mLf_278) (mSplit (b := 280) (mOne 279 rfl mLf_279) (mOne 280 rfl mLf_280)))) (mSplit (b := 284) (mSplit (b := 282) (mOne 281 rfl mLf_281) (mSplit (b := 283) (mOne 282 rfl mLf_282) (mOne 283 rfl mLf_283))) (mSplit (b := 285) (mOne 284 rfl mLf_284) (mSplit (b := 286) (mOne 285 rfl mLf_285) (mOne 286 rfl mLf_286)))))))
theorem mLfs_7 : ∀ y, 287 ≤ y → y < 328 → mLf y := (mSplit (b := 307) (mSplit (b := 297) (mSplit (b := 292) (mSplit (b := 289) (mSplit (b := 288) (mOne 287 rfl mLf_287) (mOne 288 rfl mLf_288)) (mSplit (b := 290) (mOne 289 rfl mLf_289) (mSplit (b := 291) (mOne 290 rfl mLf_290) (mOne 291 rfl mLf_291)))) (mSplit (b := 294) (mSplit (b := 293) (mOne 292 rfl mLf_292) (mOne 293 rfl mLf_293)) (mSplit (b := 295) (mOne 294 rfl mLf_294) (mSplit (b := 296) (mOne 295 rfl mLf_295) (mOne 296 rfl mLf_296))))) (mSplit (b := 302) (mSplit (b := 299) (mSplit (b := 298) (mOne 297 rfl mLf_297) (mOne 298 rfl mLf_298)) (mSplit (b := 300) (mOne 299 rfl mLf_299) (mSplit (b := 301) (mOne 300 rfl mLf_300) (mOne 301 rfl mLf_301)))) (mSplit (b := 304) (mSplit (b := 303) (mOne 302 rfl mLf_302) (mOne 303 rfl mLf_303)) (mSplit (b := 305) (mOne 304 rfl mLf_304) (mSplit (b := 306) (mOne 305 rfl mLf_305) (mOne 306 rfl mLf_306)))))) (mSplit (b := 317) (mSplit (b := 312) (mSplit (b := 309) (mSplit (b := 308) (mOne 307 rfl mLf_307) (mOne 308 rfl mLf_308)) (mSplit (b := 310) (mOne 309 rfl mLf_309) (mSplit (b := 311) (mOne 310 rfl mLf_310) (mOne 311 rfl mLf_311)))) (mSplit (b := 314) (mSplit (b := 313) (mOne 312 rfl mLf_312) (mOne 313 rfl mLf_313)) (mSplit (b := 315) (mOne 314 rfl mLf_314) (mSplit (b := 316) (mOne 315 rfl mLf_315) (mOne 316 rfl mLf_316))))) (mSplit (b := 322) (mSplit (b := 319) (mSplit (b := 318) (mOne 317 rfl mLf_317) (mOne 318 rfl mLf_318)) (mSplit (b := 320) (mOne 319 rfl mLf_319) (mSplit (b := 321) (mOne 320 rfl mLf_320) (mOne 321 rfl mLf_321)))) (mSplit (b := 325) (mSplit (b := 323) (mOne 322 rfl mLf_322) (mSplit (b := 324) (mOne 323 rfl mLf_323) (mOne 324 rfl mLf_324))) (mSplit (b := 326) (mOne 325 rfl mLf_325) (mSplit (b := 327) (mOne 326 rfl mLf_326) (mOne 327 rfl mLf_327)))))))
theorem mLfs {y : Nat} (h : y < 328) : mLf y := ((mSplit (b := 287) (mSplit (b := 246) (mSplit (b := 205) (mSplit (b := 164) (mSplit (b := 123) (mSplit (b := 82) (mSplit (b := 41) mLfs_0 mLfs_1) mLfs_2) mLfs_3) mLfs_4) mLfs_5) mLfs_6) mLfs_7) : ∀ y, 0 ≤ y → y < 328 → mLf y) y (Nat.zero_le _) h
