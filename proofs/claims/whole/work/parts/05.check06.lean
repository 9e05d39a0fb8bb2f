theorem mk237_0 : mc237_0.all (mChk 12 prog_14_method_57_code) = true := by decide +kernel
theorem mk237_1 : mc237_1.all (mChk 12 prog_14_method_57_code) = true := by decide +kernel
theorem mk237 : mc237.all (mChk 12 prog_14_method_57_code) = true := by
  simp only [mc237, List.all_append, Bool.and_eq_true]
  exact ⟨mk237_0, mk237_1⟩
theorem mk238_0 : mc238_0.all (mChk 12 prog_14_method_58_code) = true := by decide +kernel
theorem mk238_1 : mc238_1.all (mChk 12 prog_14_method_58_code) = true := by decide +kernel
theorem mk238 : mc238.all (mChk 12 prog_14_method_58_code) = true := by
  simp only [mc238, List.all_append, Bool.and_eq_true]
  exact ⟨mk238_0, mk238_1⟩
theorem mk239 : mc239.all (mChk 12 prog_14_method_59_code) = true := by decide +kernel
theorem mk240 : mc240.all (mChk 12 prog_14_method_60_code) = true := by decide +kernel
theorem mk241 : mc241.all (mChk 12 prog_14_method_61_code) = true := by decide +kernel
theorem mk242 : mc242.all (mChk 12 prog_14_method_62_code) = true := by decide +kernel
theorem mk243_0 : mc243_0.all (mChk 12 prog_14_method_63_code) = true := by decide +kernel
theorem mk243_1 : mc243_1.all (mChk 12 prog_14_method_63_code) = true := by decide +kernel
theorem mk243 : mc243.all (mChk 12 prog_14_method_63_code) = true := by
  simp only [mc243, List.all_append, Bool.and_eq_true]
  exact ⟨mk243_0, mk243_1⟩
theorem mk244_0 : mc244_0.all (mChk 12 prog_14_method_64_code) = true := by decide +kernel
theorem mk244_1 : mc244_1.all (mChk 12 prog_14_method_64_code) = true := by decide +kernel
theorem mk244 : mc244.all (mChk 12 prog_14_method_64_code) = true := by
  simp only [mc244, List.all_append, Bool.and_eq_true]
  exact ⟨mk244_0, mk244_1⟩
theorem mk245 : mc245.all (mChk 12 prog_14_method_65_code) = true := by decide +kernel
theorem mk246 : mc246.all (mChk 12 prog_14_method_66_code) = true := by decide +kernel
theorem mk247 : mc247.all (mChk 12 prog_14_method_67_code) = true := by decide +kernel
theorem mk248 : mc248.all (mChk 12 prog_14_method_68_code) = true := by decide +kernel
theorem mk249 : mc249.all (mChk 12 prog_14_method_69_code) = true := by decide +kernel
theorem mk250 : mc250.all (mChk 12 prog_14_method_70_code) = true := by decide +kernel
theorem mk251 : mc251.all (mChk 12 prog_14_method_71_code) = true := by decide +kernel
theorem mk252 : mc252.all (mChk 12 prog_14_method_72_code) = true := by decide +kernel
theorem mk253 : mc253.all (mChk 12 prog_14_method_73_code) = true := by decide +kernel
theorem mk254_0 : mc254_0.all (mChk 12 prog_14_method_74_code) = true := by decide +kernel
theorem mk254_1 : mc254_1.all (mChk 12 prog_14_method_74_code) = true := by decide +kernel
theorem mk254 : mc254.all (mChk 12 prog_14_method_74_code) = true := by
  simp only [mc254, List.all_append, Bool.and_eq_true]
  exact ⟨mk254_0, mk254_1⟩
theorem mk255 : mc255.all (mChk 12 prog_14_method_75_code) = true := by decide +kernel
theorem mk256 : mc256.all (mChk 12 prog_14_method_76_code) = true := by decide +kernel
theorem mk257_0 : mc257_0.all (mChk 12 prog_14_method_77_code) = true := by decide +kernel
theorem mk257_1 : mc257_1.all (mChk 12 prog_14_method_77_code) = true := by decide +kernel
theorem mk257_2 : mc257_2.all (mChk 12 prog_14_method_77_code) = true := by decide +kernel
theorem mk257 : mc257.all (mChk 12 prog_14_method_77_code) = true := by
  simp only [mc257, List.all_append, Bool.and_eq_true]
  exact ⟨mk257_0, mk257_1, mk257_2⟩
theorem mk258 : mc258.all (mChk 12 prog_14_method_78_code) = true := by decide +kernel
theorem mk259 : mc259.all (mChk 12 prog_14_method_79_code) = true := by decide +kernel
theorem mk260 : mc260.all (mChk 12 prog_14_method_80_code) = true := by decide +kernel
theorem mk261 : mc261.all (mChk 12 prog_14_method_81_code) = true := by decide +kernel
theorem mk262 : mc262.all (mChk 12 prog_14_method_82_code) = true := by decide +kernel
theorem mk263 : mc263.all (mChk 12 prog_14_method_83_code) = true := by decide +kernel
theorem mk264 : mc264.all (mChk 12 prog_14_method_84_code) = true := by decide +kernel
theorem mk265 : mc265.all (mChk 12 prog_14_method_85_code) = true := by decide +kernel
theorem mk266 : mc266.all (mChk 12 prog_14_method_86_code) = true := by decide +kernel
theorem mk267 : mc267.all (mChk 12 prog_14_method_87_code) = true := by decide +kernel
theorem mk268 : mc268.all (mChk 12 prog_14_method_88_code) = true := by decide +kernel
theorem mk269 : mc269.all (mChk 12 prog_14_method_89_code) = true := by decide +kernel
theorem mk270 : mc270.all (mChk 12 prog_14_method_90_code) = true := by decide +kernel
theorem mk271 : mc271.all (mChk 12 prog_14_method_91_code) = true := by decide +kernel
theorem mk272_0 : mc272_0.all (mChk 12 prog_14_method_92_code) = true := by decide +kernel
theorem mk272_1 : mc272_1.all (mChk 12 prog_14_method_92_code) = true := by decide +kernel
theorem mk272 : mc272.all (mChk 12 prog_14_method_92_code) = true := by
  simp only [mc272, List.all_append, Bool.and_eq_true]
  exact ⟨mk272_0, mk272_1⟩
