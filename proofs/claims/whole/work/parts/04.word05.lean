set_option maxRecDepth 100000 in
theorem mCw_300 : lw_tbl[2161]? = some (.code (mNm 300) prog_14_method_120_code 5 ((Option.some Jvm.ClassFile.FieldType.int))) := rfl
set_option maxRecDepth 100000 in
theorem mCw_301 : lw_tbl[2153]? = some (.code (mNm 301) prog_14_method_121_code 7 ((Option.some Jvm.ClassFile.FieldType.int))) := rfl
set_option maxRecDepth 100000 in
theorem mCw_302 : lw_tbl[2165]? = some (.code (mNm 302) prog_14_method_122_code 9 ((Option.some Jvm.ClassFile.FieldType.int))) := rfl
set_option maxRecDepth 100000 in
theorem mCw_303 : lw_tbl[2169]? = some (.code (mNm 303) prog_14_method_123_code 4 ((Option.some Jvm.ClassFile.FieldType.int))) := rfl
set_option maxRecDepth 100000 in
theorem mCw_304 : lw_tbl[2178]? = some (.code (mNm 304) prog_14_method_124_code 1 ((Option.some Jvm.ClassFile.FieldType.int))) := rfl
set_option maxRecDepth 100000 in
theorem mCw_305 : lw_tbl[2182]? = some (.code (mNm 305) prog_14_method_125_code 4 ((Option.some Jvm.ClassFile.FieldType.boolean))) := rfl
set_option maxRecDepth 100000 in
theorem mCw_306 : lw_tbl[2173]? = some (.code (mNm 306) prog_14_method_126_code 7 ((Option.some Jvm.ClassFile.FieldType.int))) := rfl
set_option maxRecDepth 100000 in
theorem mCw_307 : lw_tbl[2186]? = some (.code (mNm 307) prog_14_method_127_code 7 ((Option.some Jvm.ClassFile.FieldType.int))) := rfl
set_option maxRecDepth 100000 in
theorem mCw_308 : lw_tbl[2190]? = some (.code (mNm 308) prog_14_method_128_code 3 ((Option.some Jvm.ClassFile.FieldType.int))) := rfl
set_option maxRecDepth 100000 in
theorem mCw_309 : lw_tbl[2203]? = some (.code (mNm 309) prog_14_method_129_code 2 ((Option.some Jvm.ClassFile.FieldType.int))) := rfl
set_option maxRecDepth 100000 in
theorem mCw_310 : lw_tbl[2199]? = some (.code (mNm 310) prog_14_method_130_code 5 (none)) := rfl
set_option maxRecDepth 100000 in
theorem mCw_311 : lw_tbl[2194]? = some (.code (mNm 311) prog_14_method_131_code 8 ((Option.some Jvm.ClassFile.FieldType.int))) := rfl
set_option maxRecDepth 100000 in
theorem mCw_312 : lw_tbl[2211]? = some (.code (mNm 312) prog_14_method_132_code 2 ((Option.some Jvm.ClassFile.FieldType.int))) := rfl
set_option maxRecDepth 100000 in
theorem mCw_313 : lw_tbl[2120]? = some (.code (mNm 313) prog_14_method_133_code 3 (none)) := rfl
set_option maxRecDepth 100000 in
theorem mCw_314 : lw_tbl[2116]? = some (.code (mNm 314) prog_14_method_134_code 3 (none)) := rfl
set_option maxRecDepth 100000 in
theorem mCw_315 : lw_tbl[2215]? = some (.code (mNm 315) prog_14_method_135_code 2 ((Option.some Jvm.ClassFile.FieldType.int))) := rfl
set_option maxRecDepth 100000 in
theorem mCw_316 : lw_tbl[2220]? = some (.code (mNm 316) prog_14_method_136_code 2 ((Option.some Jvm.ClassFile.FieldType.int))) := rfl
set_option maxRecDepth 100000 in
theorem mCw_317 : lw_tbl[1187]? = some (.code (mNm 317) prog_16_method_49_code 1 ((Option.some Jvm.ClassFile.FieldType.int))) := rfl
set_option maxRecDepth 100000 in
theorem mCw_318 : lw_tbl[950]? = some (.code (mNm 318) prog_17_method_50_code 2 ((Option.some Jvm.ClassFile.FieldType.int))) := rfl
set_option maxRecDepth 100000 in
theorem mCw_319 : lw_tbl[609]? = some (.code (mNm 319) prog_19_method_54_code 1 ((Option.some Jvm.ClassFile.FieldType.int))) := rfl
set_option maxRecDepth 100000 in
theorem mCw_320 : lw_tbl[619]? = some (.code (mNm 320) prog_19_method_56_code 2 ((Option.some Jvm.ClassFile.FieldType.char))) := rfl
set_option maxRecDepth 100000 in
theorem mCw_321 : lw_tbl[613]? = some (.code (mNm 321) prog_19_method_152_code 1 ((Option.some Jvm.ClassFile.FieldType.byte))) := rfl
set_option maxRecDepth 100000 in
theorem mCw_322 : lw_tbl[623]? = some (.code (mNm 322) prog_19_method_154_code 1 ((Option.some Jvm.ClassFile.FieldType.boolean))) := rfl
set_option maxRecDepth 100000 in
theorem mCw_323 : lw_tbl[629]? = some (.code (mNm 323) prog_19_method_155_code 2 (none)) := rfl
set_option maxRecDepth 100000 in
theorem mCw_324 : lw_tbl[626]? = some (.code (mNm 324) prog_20_method_2_code 2 ((Option.some Jvm.ClassFile.FieldType.char))) := rfl
set_option maxRecDepth 100000 in
theorem mCw_325 : lw_tbl[673]? = some (.code (mNm 325) prog_23_method_103_code 4 (none)) := rfl
set_option maxRecDepth 100000 in
theorem mCw_326 : lw_tbl[888]? = some (.code (mNm 326) prog_23_method_123_code 3 ((Option.some (Jvm.ClassFile.FieldType.array Jvm.ClassFile.FieldType.int)))) := rfl
set_option maxRecDepth 100000 in
theorem mCw_327 : lw_tbl[634]? = some (.code (mNm 327) prog_24_method_11_code 3 ((Option.some Jvm.ClassFile.FieldType.int))) := rfl
