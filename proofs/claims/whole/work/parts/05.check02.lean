theorem mk70 : mc70.all (mChk 6 prog_8_method_3_code) = true := by decide +kernel
theorem mk71 : mc71.all (mChk 6 prog_8_method_4_code) = true := by decide +kernel
theorem mk72 : mc72.all (mChk 6 prog_8_method_5_code) = true := by decide +kernel
theorem mk73 : mc73.all (mChk 6 prog_8_method_6_code) = true := by decide +kernel
theorem mk74_0 : mc74_0.all (mChk 6 prog_8_method_7_code) = true := by decide +kernel
theorem mk74_1 : mc74_1.all (mChk 6 prog_8_method_7_code) = true := by decide +kernel
theorem mk74 : mc74.all (mChk 6 prog_8_method_7_code) = true := by
  simp only [mc74, List.all_append, Bool.and_eq_true]
  exact ⟨mk74_0, mk74_1⟩
theorem mk75 : mc75.all (mChk 6 prog_8_method_8_code) = true := by decide +kernel
theorem mk76 : mc76.all (mChk 6 prog_8_method_9_code) = true := by decide +kernel
theorem mk77 : mc77.all (mChk 6 prog_8_method_10_code) = true := by decide +kernel
theorem mk78 : mc78.all (mChk 6 prog_8_method_11_code) = true := by decide +kernel
theorem mk79 : mc79.all (mChk 7 prog_9_method_1_code) = true := by decide +kernel
theorem mk80 : mc80.all (mChk 7 prog_9_method_2_code) = true := by decide +kernel
theorem mk81 : mc81.all (mChk 7 prog_9_method_3_code) = true := by decide +kernel
theorem mk82 : mc82.all (mChk 7 prog_9_method_4_code) = true := by decide +kernel
theorem mk83 : mc83.all (mChk 7 prog_9_method_5_code) = true := by decide +kernel
theorem mk84 : mc84.all (mChk 8 prog_10_method_1_code) = true := by decide +kernel
theorem mk85 : mc85.all (mChk 8 prog_10_method_2_code) = true := by decide +kernel
theorem mk86 : mc86.all (mChk 8 prog_10_method_3_code) = true := by decide +kernel
theorem mk87 : mc87.all (mChk 8 prog_10_method_4_code) = true := by decide +kernel
theorem mk88 : mc88.all (mChk 8 prog_10_method_5_code) = true := by decide +kernel
theorem mk89 : mc89.all (mChk 8 prog_10_method_6_code) = true := by decide +kernel
theorem mk90 : mc90.all (mChk 8 prog_10_method_7_code) = true := by decide +kernel
theorem mk91 : mc91.all (mChk 8 prog_10_method_8_code) = true := by decide +kernel
theorem mk92 : mc92.all (mChk 8 prog_10_method_9_code) = true := by decide +kernel
theorem mk93 : mc93.all (mChk 8 prog_10_method_10_code) = true := by decide +kernel
theorem mk94 : mc94.all (mChk 8 prog_10_method_11_code) = true := by decide +kernel
theorem mk95 : mc95.all (mChk 8 prog_10_method_12_code) = true := by decide +kernel
theorem mk96 : mc96.all (mChk 9 prog_11_method_1_code) = true := by decide +kernel
theorem mk97 : mc97.all (mChk 9 prog_11_method_2_code) = true := by decide +kernel
theorem mk98 : mc98.all (mChk 9 prog_11_method_3_code) = true := by decide +kernel
theorem mk99 : mc99.all (mChk 9 prog_11_method_4_code) = true := by decide +kernel
theorem mk100 : mc100.all (mChk 9 prog_11_method_5_code) = true := by decide +kernel
theorem mk101_0 : mc101_0.all (mChk 9 prog_11_method_6_code) = true := by decide +kernel
theorem mk101_1 : mc101_1.all (mChk 9 prog_11_method_6_code) = true := by decide +kernel
theorem mk101 : mc101.all (mChk 9 prog_11_method_6_code) = true := by
  simp only [mc101, List.all_append, Bool.and_eq_true]
  exact ⟨mk101_0, mk101_1⟩
theorem mk102 : mc102.all (mChk 9 prog_11_method_7_code) = true := by decide +kernel
theorem mk103 : mc103.all (mChk 9 prog_11_method_8_code) = true := by decide +kernel
theorem mk104 : mc104.all (mChk 9 prog_11_method_9_code) = true := by decide +kernel
theorem mk105 : mc105.all (mChk 9 prog_11_method_10_code) = true := by decide +kernel
theorem mk106 : mc106.all (mChk 9 prog_11_method_11_code) = true := by decide +kernel
theorem mk107 : mc107.all (mChk 9 prog_11_method_12_code) = true := by decide +kernel
theorem mk108 : mc108.all (mChk 9 prog_11_method_13_code) = true := by decide +kernel
theorem mk109 : mc109.all (mChk 9 prog_11_method_14_code) = true := by decide +kernel
theorem mk110 : mc110.all (mChk 9 prog_11_method_15_code) = true := by decide +kernel
theorem mk111 : mc111.all (mChk 9 prog_11_method_16_code) = true := by decide +kernel
theorem mk112 : mc112.all (mChk 9 prog_11_method_17_code) = true := by decide +kernel
theorem mk113 : mc113.all (mChk 9 prog_11_method_18_code) = true := by decide +kernel
theorem mk114 : mc114.all (mChk 9 prog_11_method_19_code) = true := by decide +kernel
