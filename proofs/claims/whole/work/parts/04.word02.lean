set_option maxRecDepth 100000 in
theorem mCw_120 : lw_tbl[810]? = some (.code (mNm 120) prog_12_method_6_code 1 (none)) := rfl
set_option maxRecDepth 100000 in
theorem mCw_121 : lw_tbl[820]? = some (.code (mNm 121) prog_12_method_7_code 2 (none)) := rfl
set_option maxRecDepth 100000 in
theorem mCw_122 : lw_tbl[824]? = some (.code (mNm 122) prog_12_method_8_code 2 (none)) := rfl
set_option maxRecDepth 100000 in
theorem mCw_123 : lw_tbl[776]? = some (.code (mNm 123) prog_12_method_9_code 5 (none)) := rfl
set_option maxRecDepth 100000 in
theorem mCw_124 : lw_tbl[1104]? = some (.code (mNm 124) prog_12_method_10_code 5 (none)) := rfl
set_option maxRecDepth 100000 in
theorem mCw_125 : lw_tbl[1107]? = some (.code (mNm 125) prog_12_method_11_code 5 ((Option.some Jvm.ClassFile.FieldType.long))) := rfl
set_option maxRecDepth 100000 in
theorem mCw_126 : lw_tbl[947]? = some (.code (mNm 126) prog_12_method_12_code 1 ((Option.some Jvm.ClassFile.FieldType.int))) := rfl
set_option maxRecDepth 100000 in
theorem mCw_127 : lw_tbl[1030]? = some (.code (mNm 127) prog_12_method_13_code 2 ((Option.some Jvm.ClassFile.FieldType.int))) := rfl
set_option maxRecDepth 100000 in
theorem mCw_128 : lw_tbl[964]? = some (.code (mNm 128) prog_12_method_14_code 2 ((Option.some Jvm.ClassFile.FieldType.boolean))) := rfl
set_option maxRecDepth 100000 in
theorem mCw_129 : lw_tbl[968]? = some (.code (mNm 129) prog_12_method_15_code 2 ((Option.some Jvm.ClassFile.FieldType.boolean))) := rfl
set_option maxRecDepth 100000 in
theorem mCw_130 : lw_tbl[1005]? = some (.code (mNm 130) prog_12_method_16_code 4 ((Option.some Jvm.ClassFile.FieldType.boolean))) := rfl
set_option maxRecDepth 100000 in
theorem mCw_131 : lw_tbl[1038]? = some (.code (mNm 131) prog_12_method_17_code 2 ((Option.some Jvm.ClassFile.FieldType.int))) := rfl
set_option maxRecDepth 100000 in
theorem mCw_132 : lw_tbl[1041]? = some (.code (mNm 132) prog_12_method_18_code 2 ((Option.some Jvm.ClassFile.FieldType.int))) := rfl
set_option maxRecDepth 100000 in
theorem mCw_133 : lw_tbl[957]? = some (.code (mNm 133) prog_12_method_19_code 5 ((Option.some Jvm.ClassFile.FieldType.int))) := rfl
set_option maxRecDepth 100000 in
theorem mCw_134 : lw_tbl[176]? = some (.code (mNm 134) prog_1_method_1_code 4 (none)) := rfl
set_option maxRecDepth 100000 in
theorem mCw_135 : lw_tbl[562]? = some (.code (mNm 135) prog_1_method_2_code 6 ((Option.some Jvm.ClassFile.FieldType.int))) := rfl
set_option maxRecDepth 100000 in
theorem mCw_136 : lw_tbl[574]? = some (.code (mNm 136) prog_1_method_3_code 2 ((Option.some Jvm.ClassFile.FieldType.int))) := rfl
set_option maxRecDepth 100000 in
theorem mCw_137 : lw_tbl[578]? = some (.code (mNm 137) prog_1_method_4_code 2 ((Option.some Jvm.ClassFile.FieldType.int))) := rfl
set_option maxRecDepth 100000 in
theorem mCw_138 : lw_tbl[780]? = some (.code (mNm 138) prog_1_method_5_code 2 ((Option.some Jvm.ClassFile.FieldType.int))) := rfl
set_option maxRecDepth 100000 in
theorem mCw_139 : lw_tbl[837]? = some (.code (mNm 139) prog_1_method_6_code 1 ((Option.some Jvm.ClassFile.FieldType.int))) := rfl
set_option maxRecDepth 100000 in
theorem mCw_140 : lw_tbl[927]? = some (.code (mNm 140) prog_1_method_7_code 4 ((Option.some Jvm.ClassFile.FieldType.int))) := rfl
set_option maxRecDepth 100000 in
theorem mCw_141 : lw_tbl[972]? = some (.code (mNm 141) prog_1_method_8_code 2 ((Option.some Jvm.ClassFile.FieldType.int))) := rfl
set_option maxRecDepth 100000 in
theorem mCw_142 : lw_tbl[976]? = some (.code (mNm 142) prog_1_method_9_code 2 ((Option.some Jvm.ClassFile.FieldType.int))) := rfl
set_option maxRecDepth 100000 in
theorem mCw_143 : lw_tbl[984]? = some (.code (mNm 143) prog_1_method_10_code 4 ((Option.some Jvm.ClassFile.FieldType.int))) := rfl
set_option maxRecDepth 100000 in
theorem mCw_144 : lw_tbl[989]? = some (.code (mNm 144) prog_1_method_11_code 3 ((Option.some Jvm.ClassFile.FieldType.int))) := rfl
set_option maxRecDepth 100000 in
theorem mCw_145 : lw_tbl[1009]? = some (.code (mNm 145) prog_1_method_12_code 2 ((Option.some Jvm.ClassFile.FieldType.int))) := rfl
set_option maxRecDepth 100000 in
theorem mCw_146 : lw_tbl[1013]? = some (.code (mNm 146) prog_1_method_13_code 3 ((Option.some Jvm.ClassFile.FieldType.int))) := rfl
set_option maxRecDepth 100000 in
theorem mCw_147 : lw_tbl[1022]? = some (.code (mNm 147) prog_1_method_14_code 3 ((Option.some Jvm.ClassFile.FieldType.int))) := rfl
set_option maxRecDepth 100000 in
theorem mCw_148 : lw_tbl[1026]? = some (.code (mNm 148) prog_1_method_15_code 2 ((Option.some Jvm.ClassFile.FieldType.int))) := rfl
set_option maxRecDepth 100000 in
theorem mCw_149 : lw_tbl[1034]? = some (.code (mNm 149) prog_1_method_16_code 2 ((Option.some Jvm.ClassFile.FieldType.int))) := rfl
set_option maxRecDepth 100000 in
theorem mCw_150 : lw_tbl[1045]? = some (.code (mNm 150) prog_1_method_17_code 3 ((Option.some Jvm.ClassFile.FieldType.int))) := rfl
set_option maxRecDepth 100000 in
theorem mCw_151 : lw_tbl[1077]? = some (.code (mNm 151) prog_1_method_18_code 6 ((Option.some Jvm.ClassFile.FieldType.int))) := rfl
set_option maxRecDepth 100000 in
theorem mCw_152 : lw_tbl[1082]? = some (.code (mNm 152) prog_1_method_19_code 6 ((Option.some Jvm.ClassFile.FieldType.int))) := rfl
set_option maxRecDepth 100000 in
theorem mCw_153 : lw_tbl[1088]? = some (.code (mNm 153) prog_1_method_20_code 1 ((Option.some Jvm.ClassFile.FieldType.int))) := rfl
set_option maxRecDepth 100000 in
theorem mCw_154 : lw_tbl[1111]? = some (.code (mNm 154) prog_1_method_21_code 1 ((Option.some Jvm.ClassFile.FieldType.int))) := rfl
set_option maxRecDepth 100000 in
theorem mCw_155 : lw_tbl[1119]? = some (.code (mNm 155) prog_1_method_22_code 4 ((Option.some Jvm.ClassFile.FieldType.int))) := rfl
set_option maxRecDepth 100000 in
theorem mCw_156 : lw_tbl[1165]? = some (.code (mNm 156) prog_1_method_23_code 3 ((Option.some Jvm.ClassFile.FieldType.int))) := rfl
set_option maxRecDepth 100000 in
theorem mCw_157 : lw_tbl[1184]? = some (.code (mNm 157) prog_1_method_24_code 3 ((Option.some Jvm.ClassFile.FieldType.int))) := rfl
set_option maxRecDepth 100000 in
theorem mCw_158 : lw_tbl[1200]? = some (.code (mNm 158) prog_1_method_25_code 3 ((Option.some Jvm.ClassFile.FieldType.int))) := rfl
set_option maxRecDepth 100000 in
theorem mCw_159 : lw_tbl[1209]? = some (.code (mNm 159) prog_1_method_26_code 3 ((Option.some Jvm.ClassFile.FieldType.int))) := rfl
set_option maxRecDepth 100000 in
theorem mCw_160 : lw_tbl[1222]? = some (.code (mNm 160) prog_1_method_27_code 3 ((Option.some Jvm.ClassFile.FieldType.int))) := rfl
set_option maxRecDepth 100000 in
theorem mCw_161 : lw_tbl[1257]? = some (.code (mNm 161) prog_1_method_28_code 3 ((Option.some Jvm.ClassFile.FieldType.int))) := rfl
set_option maxRecDepth 100000 in
theorem mCw_162 : lw_tbl[1288]? = some (.code (mNm 162) prog_1_method_29_code 3 ((Option.some Jvm.ClassFile.FieldType.int))) := rfl
set_option maxRecDepth 100000 in
theorem mCw_163 : lw_tbl[1308]? = some (.code (mNm 163) prog_1_method_30_code 3 ((Option.some Jvm.ClassFile.FieldType.int))) := rfl
set_option maxRecDepth 100000 in
theorem mCw_164 : lw_tbl[1324]? = some (.code (mNm 164) prog_1_method_31_code 3 ((Option.some Jvm.ClassFile.FieldType.int))) := rfl
set_option maxRecDepth 100000 in
theorem mCw_165 : lw_tbl[1332]? = some (.code (mNm 165) prog_1_method_32_code 2 ((Option.some Jvm.ClassFile.FieldType.int))) := rfl
set_option maxRecDepth 100000 in
theorem mCw_166 : lw_tbl[1362]? = some (.code (mNm 166) prog_1_method_33_code 2 ((Option.some Jvm.ClassFile.FieldType.int))) := rfl
set_option maxRecDepth 100000 in
theorem mCw_167 : lw_tbl[1371]? = some (.code (mNm 167) prog_1_method_34_code 3 ((Option.some Jvm.ClassFile.FieldType.int))) := rfl
set_option maxRecDepth 100000 in
theorem mCw_168 : lw_tbl[1375]? = some (.code (mNm 168) prog_1_method_35_code 4 ((Option.some Jvm.ClassFile.FieldType.int))) := rfl
set_option maxRecDepth 100000 in
theorem mCw_169 : lw_tbl[1396]? = some (.code (mNm 169) prog_1_method_36_code 2 ((Option.some Jvm.ClassFile.FieldType.int))) := rfl
set_option maxRecDepth 100000 in
theorem mCw_170 : lw_tbl[1404]? = some (.code (mNm 170) prog_1_method_37_code 3 ((Option.some Jvm.ClassFile.FieldType.int))) := rfl
set_option maxRecDepth 100000 in
theorem mCw_171 : lw_tbl[1412]? = some (.code (mNm 171) prog_1_method_38_code 3 ((Option.some Jvm.ClassFile.FieldType.int))) := rfl
set_option maxRecDepth 100000 in
theorem mCw_172 : lw_tbl[1400]? = some (.code (mNm 172) prog_1_method_39_code 2 ((Option.some Jvm.ClassFile.FieldType.int))) := rfl
set_option maxRecDepth 100000 in
theorem mCw_173 : lw_tbl[931]? = some (.code (mNm 173) prog_1_method_40_code 2 ((Option.some Jvm.ClassFile.FieldType.boolean))) := rfl
set_option maxRecDepth 100000 in
theorem mCw_174 : lw_tbl[1049]? = some (.code (mNm 174) prog_1_method_41_code 2 ((Option.some Jvm.ClassFile.FieldType.boolean))) := rfl
set_option maxRecDepth 100000 in
theorem mCw_175 : lw_tbl[1017]? = some (.code (mNm 175) prog_1_method_42_code 2 ((Option.some Jvm.ClassFile.FieldType.boolean))) := rfl
set_option maxRecDepth 100000 in
theorem mCw_176 : lw_tbl[980]? = some (.code (mNm 176) prog_1_method_43_code 2 ((Option.some Jvm.ClassFile.FieldType.boolean))) := rfl
set_option maxRecDepth 100000 in
theorem mCw_177 : lw_tbl[997]? = some (.code (mNm 177) prog_1_method_44_code 2 ((Option.some Jvm.ClassFile.FieldType.boolean))) := rfl
set_option maxRecDepth 100000 in
theorem mCw_178 : lw_tbl[993]? = some (.code (mNm 178) prog_1_method_45_code 2 ((Option.some Jvm.ClassFile.FieldType.boolean))) := rfl
set_option maxRecDepth 100000 in
theorem mCw_179 : lw_tbl[1169]? = some (.code (mNm 179) prog_1_method_46_code 2 ((Option.some Jvm.ClassFile.FieldType.boolean))) := rfl
