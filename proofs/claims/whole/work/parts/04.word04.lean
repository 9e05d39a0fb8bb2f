set_option maxRecDepth 100000 in
theorem mCw_240 : lw_tbl[2065]? = some (.code (mNm 240) prog_14_method_60_code 3 ((Option.some Jvm.ClassFile.FieldType.long))) := rfl
set_option maxRecDepth 100000 in
theorem mCw_241 : lw_tbl[2048]? = some (.code (mNm 241) prog_14_method_61_code 2 ((Option.some Jvm.ClassFile.FieldType.boolean))) := rfl
set_option maxRecDepth 100000 in
theorem mCw_242 : lw_tbl[2075]? = some (.code (mNm 242) prog_14_method_62_code 1 ((Option.some Jvm.ClassFile.FieldType.long))) := rfl
set_option maxRecDepth 100000 in
theorem mCw_243 : lw_tbl[2072]? = some (.code (mNm 243) prog_14_method_63_code 5 ((Option.some Jvm.ClassFile.FieldType.long))) := rfl
set_option maxRecDepth 100000 in
theorem mCw_244 : lw_tbl[2069]? = some (.code (mNm 244) prog_14_method_64_code 8 ((Option.some Jvm.ClassFile.FieldType.long))) := rfl
set_option maxRecDepth 100000 in
theorem mCw_245 : lw_tbl[1964]? = some (.code (mNm 245) prog_14_method_65_code 2 ((Option.some Jvm.ClassFile.FieldType.int))) := rfl
set_option maxRecDepth 100000 in
theorem mCw_246 : lw_tbl[1888]? = some (.code (mNm 246) prog_14_method_66_code 4 ((Option.some Jvm.ClassFile.FieldType.int))) := rfl
set_option maxRecDepth 100000 in
theorem mCw_247 : lw_tbl[1968]? = some (.code (mNm 247) prog_14_method_67_code 5 ((Option.some Jvm.ClassFile.FieldType.boolean))) := rfl
set_option maxRecDepth 100000 in
theorem mCw_248 : lw_tbl[1980]? = some (.code (mNm 248) prog_14_method_68_code 4 ((Option.some Jvm.ClassFile.FieldType.int))) := rfl
set_option maxRecDepth 100000 in
theorem mCw_249 : lw_tbl[2016]? = some (.code (mNm 249) prog_14_method_69_code 4 (none)) := rfl
set_option maxRecDepth 100000 in
theorem mCw_250 : lw_tbl[1948]? = some (.code (mNm 250) prog_14_method_70_code 3 ((Option.some Jvm.ClassFile.FieldType.boolean))) := rfl
set_option maxRecDepth 100000 in
theorem mCw_251 : lw_tbl[1899]? = some (.code (mNm 251) prog_14_method_71_code 3 ((Option.some Jvm.ClassFile.FieldType.boolean))) := rfl
set_option maxRecDepth 100000 in
theorem mCw_252 : lw_tbl[1895]? = some (.code (mNm 252) prog_14_method_72_code 5 ((Option.some Jvm.ClassFile.FieldType.boolean))) := rfl
set_option maxRecDepth 100000 in
theorem mCw_253 : lw_tbl[2028]? = some (.code (mNm 253) prog_14_method_73_code 4 (none)) := rfl
set_option maxRecDepth 100000 in
theorem mCw_254 : lw_tbl[1880]? = some (.code (mNm 254) prog_14_method_74_code 5 ((Option.some Jvm.ClassFile.FieldType.int))) := rfl
set_option maxRecDepth 100000 in
theorem mCw_255 : lw_tbl[1903]? = some (.code (mNm 255) prog_14_method_75_code 2 ((Option.some Jvm.ClassFile.FieldType.int))) := rfl
set_option maxRecDepth 100000 in
theorem mCw_256 : lw_tbl[1911]? = some (.code (mNm 256) prog_14_method_76_code 2 ((Option.some Jvm.ClassFile.FieldType.int))) := rfl
set_option maxRecDepth 100000 in
theorem mCw_257 : lw_tbl[1923]? = some (.code (mNm 257) prog_14_method_77_code 5 (none)) := rfl
set_option maxRecDepth 100000 in
theorem mCw_258 : lw_tbl[1928]? = some (.code (mNm 258) prog_14_method_78_code 3 ((Option.some Jvm.ClassFile.FieldType.int))) := rfl
set_option maxRecDepth 100000 in
theorem mCw_259 : lw_tbl[1919]? = some (.code (mNm 259) prog_14_method_79_code 3 ((Option.some Jvm.ClassFile.FieldType.int))) := rfl
set_option maxRecDepth 100000 in
theorem mCw_260 : lw_tbl[1932]? = some (.code (mNm 260) prog_14_method_80_code 3 ((Option.some Jvm.ClassFile.FieldType.int))) := rfl
set_option maxRecDepth 100000 in
theorem mCw_261 : lw_tbl[1952]? = some (.code (mNm 261) prog_14_method_81_code 2 ((Option.some Jvm.ClassFile.FieldType.int))) := rfl
set_option maxRecDepth 100000 in
theorem mCw_262 : lw_tbl[1960]? = some (.code (mNm 262) prog_14_method_82_code 2 ((Option.some Jvm.ClassFile.FieldType.boolean))) := rfl
set_option maxRecDepth 100000 in
theorem mCw_263 : lw_tbl[1956]? = some (.code (mNm 263) prog_14_method_83_code 3 ((Option.some Jvm.ClassFile.FieldType.int))) := rfl
set_option maxRecDepth 100000 in
theorem mCw_264 : lw_tbl[1972]? = some (.code (mNm 264) prog_14_method_84_code 3 ((Option.some Jvm.ClassFile.FieldType.int))) := rfl
set_option maxRecDepth 100000 in
theorem mCw_265 : lw_tbl[1976]? = some (.code (mNm 265) prog_14_method_85_code 2 ((Option.some Jvm.ClassFile.FieldType.int))) := rfl
set_option maxRecDepth 100000 in
theorem mCw_266 : lw_tbl[1984]? = some (.code (mNm 266) prog_14_method_86_code 3 ((Option.some Jvm.ClassFile.FieldType.int))) := rfl
set_option maxRecDepth 100000 in
theorem mCw_267 : lw_tbl[1996]? = some (.code (mNm 267) prog_14_method_87_code 3 ((Option.some Jvm.ClassFile.FieldType.int))) := rfl
set_option maxRecDepth 100000 in
theorem mCw_268 : lw_tbl[2000]? = some (.code (mNm 268) prog_14_method_88_code 3 (none)) := rfl
set_option maxRecDepth 100000 in
theorem mCw_269 : lw_tbl[1992]? = some (.code (mNm 269) prog_14_method_89_code 3 (none)) := rfl
set_option maxRecDepth 100000 in
theorem mCw_270 : lw_tbl[2008]? = some (.code (mNm 270) prog_14_method_90_code 2 (none)) := rfl
set_option maxRecDepth 100000 in
theorem mCw_271 : lw_tbl[1988]? = some (.code (mNm 271) prog_14_method_91_code 1 ((Option.some Jvm.ClassFile.FieldType.int))) := rfl
set_option maxRecDepth 100000 in
theorem mCw_272 : lw_tbl[2012]? = some (.code (mNm 272) prog_14_method_92_code 4 ((Option.some Jvm.ClassFile.FieldType.int))) := rfl
set_option maxRecDepth 100000 in
theorem mCw_273 : lw_tbl[2004]? = some (.code (mNm 273) prog_14_method_93_code 3 ((Option.some Jvm.ClassFile.FieldType.int))) := rfl
set_option maxRecDepth 100000 in
theorem mCw_274 : lw_tbl[2020]? = some (.code (mNm 274) prog_14_method_94_code 4 ((Option.some Jvm.ClassFile.FieldType.int))) := rfl
set_option maxRecDepth 100000 in
theorem mCw_275 : lw_tbl[2024]? = some (.code (mNm 275) prog_14_method_95_code 3 ((Option.some Jvm.ClassFile.FieldType.int))) := rfl
set_option maxRecDepth 100000 in
theorem mCw_276 : lw_tbl[2040]? = some (.code (mNm 276) prog_14_method_96_code 5 (none)) := rfl
set_option maxRecDepth 100000 in
theorem mCw_277 : lw_tbl[2036]? = some (.code (mNm 277) prog_14_method_97_code 2 (none)) := rfl
set_option maxRecDepth 100000 in
theorem mCw_278 : lw_tbl[2032]? = some (.code (mNm 278) prog_14_method_98_code 1 ((Option.some Jvm.ClassFile.FieldType.int))) := rfl
set_option maxRecDepth 100000 in
theorem mCw_279 : lw_tbl[2061]? = some (.code (mNm 279) prog_14_method_99_code 4 ((Option.some Jvm.ClassFile.FieldType.int))) := rfl
set_option maxRecDepth 100000 in
theorem mCw_280 : lw_tbl[2057]? = some (.code (mNm 280) prog_14_method_100_code 3 (none)) := rfl
set_option maxRecDepth 100000 in
theorem mCw_281 : lw_tbl[2053]? = some (.code (mNm 281) prog_14_method_101_code 9 ((Option.some Jvm.ClassFile.FieldType.int))) := rfl
set_option maxRecDepth 100000 in
theorem mCw_282 : lw_tbl[2044]? = some (.code (mNm 282) prog_14_method_102_code 7 ((Option.some Jvm.ClassFile.FieldType.int))) := rfl
set_option maxRecDepth 100000 in
theorem mCw_283 : lw_tbl[2087]? = some (.code (mNm 283) prog_14_method_103_code 6 ((Option.some Jvm.ClassFile.FieldType.boolean))) := rfl
set_option maxRecDepth 100000 in
theorem mCw_284 : lw_tbl[2083]? = some (.code (mNm 284) prog_14_method_104_code 2 ((Option.some Jvm.ClassFile.FieldType.boolean))) := rfl
set_option maxRecDepth 100000 in
theorem mCw_285 : lw_tbl[2079]? = some (.code (mNm 285) prog_14_method_105_code 3 ((Option.some Jvm.ClassFile.FieldType.int))) := rfl
set_option maxRecDepth 100000 in
theorem mCw_286 : lw_tbl[2091]? = some (.code (mNm 286) prog_14_method_106_code 7 ((Option.some Jvm.ClassFile.FieldType.int))) := rfl
set_option maxRecDepth 100000 in
theorem mCw_287 : lw_tbl[2095]? = some (.code (mNm 287) prog_14_method_107_code 4 ((Option.some Jvm.ClassFile.FieldType.int))) := rfl
set_option maxRecDepth 100000 in
theorem mCw_288 : lw_tbl[2099]? = some (.code (mNm 288) prog_14_method_108_code 7 ((Option.some Jvm.ClassFile.FieldType.int))) := rfl
set_option maxRecDepth 100000 in
theorem mCw_289 : lw_tbl[2108]? = some (.code (mNm 289) prog_14_method_109_code 3 ((Option.some Jvm.ClassFile.FieldType.boolean))) := rfl
set_option maxRecDepth 100000 in
theorem mCw_290 : lw_tbl[2124]? = some (.code (mNm 290) prog_14_method_110_code 3 ((Option.some Jvm.ClassFile.FieldType.boolean))) := rfl
set_option maxRecDepth 100000 in
theorem mCw_291 : lw_tbl[2112]? = some (.code (mNm 291) prog_14_method_111_code 1 (none)) := rfl
set_option maxRecDepth 100000 in
theorem mCw_292 : lw_tbl[2128]? = some (.code (mNm 292) prog_14_method_112_code 1 (none)) := rfl
set_option maxRecDepth 100000 in
theorem mCw_293 : lw_tbl[2104]? = some (.code (mNm 293) prog_14_method_113_code 6 ((Option.some Jvm.ClassFile.FieldType.int))) := rfl
set_option maxRecDepth 100000 in
theorem mCw_294 : lw_tbl[2137]? = some (.code (mNm 294) prog_14_method_114_code 3 (none)) := rfl
set_option maxRecDepth 100000 in
theorem mCw_295 : lw_tbl[2145]? = some (.code (mNm 295) prog_14_method_115_code 4 (none)) := rfl
set_option maxRecDepth 100000 in
theorem mCw_296 : lw_tbl[2149]? = some (.code (mNm 296) prog_14_method_116_code 4 ((Option.some Jvm.ClassFile.FieldType.boolean))) := rfl
set_option maxRecDepth 100000 in
theorem mCw_297 : lw_tbl[2141]? = some (.code (mNm 297) prog_14_method_117_code 4 (none)) := rfl
set_option maxRecDepth 100000 in
theorem mCw_298 : lw_tbl[2132]? = some (.code (mNm 298) prog_14_method_118_code 4 ((Option.some Jvm.ClassFile.FieldType.int))) := rfl
set_option maxRecDepth 100000 in
theorem mCw_299 : lw_tbl[2157]? = some (.code (mNm 299) prog_14_method_119_code 6 (none)) := rfl
