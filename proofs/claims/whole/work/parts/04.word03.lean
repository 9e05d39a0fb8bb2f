set_option maxRecDepth 100000 in
theorem mCw_180 : lw_tbl[1225]? = some (.code (mNm 180) prog_1_method_47_code 2 ((Option.some Jvm.ClassFile.FieldType.boolean))) := rfl
set_option maxRecDepth 100000 in
theorem mCw_181 : lw_tbl[942]? = some (.code (mNm 181) prog_1_method_48_code 1 ((Option.some Jvm.ClassFile.FieldType.int))) := rfl
set_option maxRecDepth 100000 in
theorem mCw_182 : lw_tbl[1417]? = some (.code (mNm 182) prog_14_method_1_code 1 (none)) := rfl
set_option maxRecDepth 100000 in
theorem mCw_183 : lw_tbl[1730]? = some (.code (mNm 183) prog_14_method_3_code 6 ((Option.some Jvm.ClassFile.FieldType.boolean))) := rfl
set_option maxRecDepth 100000 in
theorem mCw_184 : lw_tbl[1891]? = some (.code (mNm 184) prog_14_method_4_code 3 ((Option.some Jvm.ClassFile.FieldType.int))) := rfl
set_option maxRecDepth 100000 in
theorem mCw_185 : lw_tbl[1788]? = some (.code (mNm 185) prog_14_method_5_code 2 ((Option.some Jvm.ClassFile.FieldType.boolean))) := rfl
set_option maxRecDepth 100000 in
theorem mCw_186 : lw_tbl[1944]? = some (.code (mNm 186) prog_14_method_6_code 1 ((Option.some Jvm.ClassFile.FieldType.boolean))) := rfl
set_option maxRecDepth 100000 in
theorem mCw_187 : lw_tbl[1884]? = some (.code (mNm 187) prog_14_method_7_code 2 ((Option.some Jvm.ClassFile.FieldType.boolean))) := rfl
set_option maxRecDepth 100000 in
theorem mCw_188 : lw_tbl[1915]? = some (.code (mNm 188) prog_14_method_8_code 2 ((Option.some Jvm.ClassFile.FieldType.boolean))) := rfl
set_option maxRecDepth 100000 in
theorem mCw_189 : lw_tbl[1907]? = some (.code (mNm 189) prog_14_method_9_code 2 ((Option.some Jvm.ClassFile.FieldType.boolean))) := rfl
set_option maxRecDepth 100000 in
theorem mCw_190 : lw_tbl[1936]? = some (.code (mNm 190) prog_14_method_10_code 2 ((Option.some Jvm.ClassFile.FieldType.boolean))) := rfl
set_option maxRecDepth 100000 in
theorem mCw_191 : lw_tbl[1749]? = some (.code (mNm 191) prog_14_method_11_code 1 ((Option.some Jvm.ClassFile.FieldType.int))) := rfl
set_option maxRecDepth 100000 in
theorem mCw_192 : lw_tbl[1940]? = some (.code (mNm 192) prog_14_method_12_code 2 ((Option.some Jvm.ClassFile.FieldType.boolean))) := rfl
set_option maxRecDepth 100000 in
theorem mCw_193 : lw_tbl[1654]? = some (.code (mNm 193) prog_14_method_13_code 6 ((Option.some Jvm.ClassFile.FieldType.int))) := rfl
set_option maxRecDepth 100000 in
theorem mCw_194 : lw_tbl[1658]? = some (.code (mNm 194) prog_14_method_14_code 3 (none)) := rfl
set_option maxRecDepth 100000 in
theorem mCw_195 : lw_tbl[1662]? = some (.code (mNm 195) prog_14_method_15_code 2 ((Option.some Jvm.ClassFile.FieldType.int))) := rfl
set_option maxRecDepth 100000 in
theorem mCw_196 : lw_tbl[1838]? = some (.code (mNm 196) prog_14_method_16_code 1 ((Option.some (Jvm.ClassFile.FieldType.object "java/lang/String")))) := rfl
set_option maxRecDepth 100000 in
theorem mCw_197 : lw_tbl[1704]? = some (.code (mNm 197) prog_14_method_17_code 3 (none)) := rfl
set_option maxRecDepth 100000 in
theorem mCw_198 : lw_tbl[1686]? = some (.code (mNm 198) prog_14_method_18_code 1 ((Option.some Jvm.ClassFile.FieldType.int))) := rfl
set_option maxRecDepth 100000 in
theorem mCw_199 : lw_tbl[1682]? = some (.code (mNm 199) prog_14_method_19_code 1 (none)) := rfl
set_option maxRecDepth 100000 in
theorem mCw_200 : lw_tbl[1725]? = some (.code (mNm 200) prog_14_method_20_code 1 ((Option.some Jvm.ClassFile.FieldType.boolean))) := rfl
set_option maxRecDepth 100000 in
theorem mCw_201 : lw_tbl[1698]? = some (.code (mNm 201) prog_14_method_21_code 5 ((Option.some Jvm.ClassFile.FieldType.boolean))) := rfl
set_option maxRecDepth 100000 in
theorem mCw_202 : lw_tbl[1852]? = some (.code (mNm 202) prog_14_method_22_code 3 ((Option.some Jvm.ClassFile.FieldType.boolean))) := rfl
set_option maxRecDepth 100000 in
theorem mCw_203 : lw_tbl[1835]? = some (.code (mNm 203) prog_14_method_23_code 3 (none)) := rfl
set_option maxRecDepth 100000 in
theorem mCw_204 : lw_tbl[1831]? = some (.code (mNm 204) prog_14_method_24_code 2 (none)) := rfl
set_option maxRecDepth 100000 in
theorem mCw_205 : lw_tbl[1721]? = some (.code (mNm 205) prog_14_method_25_code 4 ((Option.some Jvm.ClassFile.FieldType.int))) := rfl
set_option maxRecDepth 100000 in
theorem mCw_206 : lw_tbl[1827]? = some (.code (mNm 206) prog_14_method_26_code 3 (none)) := rfl
set_option maxRecDepth 100000 in
theorem mCw_207 : lw_tbl[1823]? = some (.code (mNm 207) prog_14_method_27_code 2 (none)) := rfl
set_option maxRecDepth 100000 in
theorem mCw_208 : lw_tbl[1819]? = some (.code (mNm 208) prog_14_method_28_code 2 (none)) := rfl
set_option maxRecDepth 100000 in
theorem mCw_209 : lw_tbl[1868]? = some (.code (mNm 209) prog_14_method_29_code 3 (none)) := rfl
set_option maxRecDepth 100000 in
theorem mCw_210 : lw_tbl[1876]? = some (.code (mNm 210) prog_14_method_30_code 1 ((Option.some Jvm.ClassFile.FieldType.int))) := rfl
set_option maxRecDepth 100000 in
theorem mCw_211 : lw_tbl[1864]? = some (.code (mNm 211) prog_14_method_31_code 2 (none)) := rfl
set_option maxRecDepth 100000 in
theorem mCw_212 : lw_tbl[1872]? = some (.code (mNm 212) prog_14_method_32_code 2 (none)) := rfl
set_option maxRecDepth 100000 in
theorem mCw_213 : lw_tbl[1860]? = some (.code (mNm 213) prog_14_method_33_code 1 ((Option.some Jvm.ClassFile.FieldType.boolean))) := rfl
set_option maxRecDepth 100000 in
theorem mCw_214 : lw_tbl[1856]? = some (.code (mNm 214) prog_14_method_34_code 5 (none)) := rfl
set_option maxRecDepth 100000 in
theorem mCw_215 : lw_tbl[1716]? = some (.code (mNm 215) prog_14_method_35_code 5 ((Option.some Jvm.ClassFile.FieldType.int))) := rfl
set_option maxRecDepth 100000 in
theorem mCw_216 : lw_tbl[1689]? = some (.code (mNm 216) prog_14_method_36_code 1 ((Option.some (Jvm.ClassFile.FieldType.object "java/lang/String")))) := rfl
set_option maxRecDepth 100000 in
theorem mCw_217 : lw_tbl[1734]? = some (.code (mNm 217) prog_14_method_37_code 1 ((Option.some Jvm.ClassFile.FieldType.int))) := rfl
set_option maxRecDepth 100000 in
theorem mCw_218 : lw_tbl[1738]? = some (.code (mNm 218) prog_14_method_38_code 3 (none)) := rfl
set_option maxRecDepth 100000 in
theorem mCw_219 : lw_tbl[1712]? = some (.code (mNm 219) prog_14_method_39_code 3 (none)) := rfl
set_option maxRecDepth 100000 in
theorem mCw_220 : lw_tbl[1708]? = some (.code (mNm 220) prog_14_method_40_code 3 ((Option.some Jvm.ClassFile.FieldType.boolean))) := rfl
set_option maxRecDepth 100000 in
theorem mCw_221 : lw_tbl[1678]? = some (.code (mNm 221) prog_14_method_41_code 4 (none)) := rfl
set_option maxRecDepth 100000 in
theorem mCw_222 : lw_tbl[1745]? = some (.code (mNm 222) prog_14_method_42_code 3 (none)) := rfl
set_option maxRecDepth 100000 in
theorem mCw_223 : lw_tbl[1742]? = some (.code (mNm 223) prog_14_method_43_code 2 ((Option.some Jvm.ClassFile.FieldType.boolean))) := rfl
set_option maxRecDepth 100000 in
theorem mCw_224 : lw_tbl[1674]? = some (.code (mNm 224) prog_14_method_44_code 1 (none)) := rfl
set_option maxRecDepth 100000 in
theorem mCw_225 : lw_tbl[1670]? = some (.code (mNm 225) prog_14_method_45_code 3 (none)) := rfl
set_option maxRecDepth 100000 in
theorem mCw_226 : lw_tbl[1666]? = some (.code (mNm 226) prog_14_method_46_code 3 ((Option.some Jvm.ClassFile.FieldType.int))) := rfl
set_option maxRecDepth 100000 in
theorem mCw_227 : lw_tbl[1757]? = some (.code (mNm 227) prog_14_method_47_code 2 (none)) := rfl
set_option maxRecDepth 100000 in
theorem mCw_228 : lw_tbl[1804]? = some (.code (mNm 228) prog_14_method_48_code 2 (none)) := rfl
set_option maxRecDepth 100000 in
theorem mCw_229 : lw_tbl[1792]? = some (.code (mNm 229) prog_14_method_49_code 2 (none)) := rfl
set_option maxRecDepth 100000 in
theorem mCw_230 : lw_tbl[1765]? = some (.code (mNm 230) prog_14_method_50_code 3 (none)) := rfl
set_option maxRecDepth 100000 in
theorem mCw_231 : lw_tbl[1785]? = some (.code (mNm 231) prog_14_method_51_code 4 (none)) := rfl
set_option maxRecDepth 100000 in
theorem mCw_232 : lw_tbl[1770]? = some (.code (mNm 232) prog_14_method_52_code 2 ((Option.some Jvm.ClassFile.FieldType.int))) := rfl
set_option maxRecDepth 100000 in
theorem mCw_233 : lw_tbl[1773]? = some (.code (mNm 233) prog_14_method_53_code 1 ((Option.some (Jvm.ClassFile.FieldType.object "java/lang/String")))) := rfl
set_option maxRecDepth 100000 in
theorem mCw_234 : lw_tbl[1761]? = some (.code (mNm 234) prog_14_method_54_code 2 ((Option.some Jvm.ClassFile.FieldType.boolean))) := rfl
set_option maxRecDepth 100000 in
theorem mCw_235 : lw_tbl[1800]? = some (.code (mNm 235) prog_14_method_55_code 2 (none)) := rfl
set_option maxRecDepth 100000 in
theorem mCw_236 : lw_tbl[1796]? = some (.code (mNm 236) prog_14_method_56_code 1 ((Option.some Jvm.ClassFile.FieldType.boolean))) := rfl
set_option maxRecDepth 100000 in
theorem mCw_237 : lw_tbl[1753]? = some (.code (mNm 237) prog_14_method_57_code 3 ((Option.some Jvm.ClassFile.FieldType.int))) := rfl
set_option maxRecDepth 100000 in
theorem mCw_238 : lw_tbl[1814]? = some (.code (mNm 238) prog_14_method_58_code 4 (none)) := rfl
set_option maxRecDepth 100000 in
theorem mCw_239 : lw_tbl[1810]? = some (.code (mNm 239) prog_14_method_59_code 3 ((Option.some Jvm.ClassFile.FieldType.int))) := rfl
