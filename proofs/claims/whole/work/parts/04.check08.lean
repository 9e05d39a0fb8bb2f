theorem mk300 : mc300.all (mChk 12 prog_14_method_120_code) = true := by decide +kernel
theorem mk301_0 : mc301_0.all (mChk 12 prog_14_method_121_code) = true := by decide +kernel
theorem mk301_1 : mc301_1.all (mChk 12 prog_14_method_121_code) = true := by decide +kernel
theorem mk301 : mc301.all (mChk 12 prog_14_method_121_code) = true := by
  simp only [mc301, List.all_append, Bool.and_eq_true]
  exact ⟨mk301_0, mk301_1⟩
theorem mk302_0 : mc302_0.all (mChk 12 prog_14_method_122_code) = true := by decide +kernel
theorem mk302_1 : mc302_1.all (mChk 12 prog_14_method_122_code) = true := by decide +kernel
theorem mk302_2 : mc302_2.all (mChk 12 prog_14_method_122_code) = true := by decide +kernel
theorem mk302 : mc302.all (mChk 12 prog_14_method_122_code) = true := by
  simp only [mc302, List.all_append, Bool.and_eq_true]
  exact ⟨mk302_0, mk302_1, mk302_2⟩
theorem mk303 : mc303.all (mChk 12 prog_14_method_123_code) = true := by decide +kernel
theorem mk304 : mc304.all (mChk 12 prog_14_method_124_code) = true := by decide +kernel
theorem mk305 : mc305.all (mChk 12 prog_14_method_125_code) = true := by decide +kernel
theorem mk306_0 : mc306_0.all (mChk 12 prog_14_method_126_code) = true := by decide +kernel
theorem mk306_1 : mc306_1.all (mChk 12 prog_14_method_126_code) = true := by decide +kernel
theorem mk306 : mc306.all (mChk 12 prog_14_method_126_code) = true := by
  simp only [mc306, List.all_append, Bool.and_eq_true]
  exact ⟨mk306_0, mk306_1⟩
theorem mk307_0 : mc307_0.all (mChk 12 prog_14_method_127_code) = true := by decide +kernel
theorem mk307_1 : mc307_1.all (mChk 12 prog_14_method_127_code) = true := by decide +kernel
theorem mk307 : mc307.all (mChk 12 prog_14_method_127_code) = true := by
  simp only [mc307, List.all_append, Bool.and_eq_true]
  exact ⟨mk307_0, mk307_1⟩
theorem mk308 : mc308.all (mChk 12 prog_14_method_128_code) = true := by decide +kernel
theorem mk309 : mc309.all (mChk 12 prog_14_method_129_code) = true := by decide +kernel
theorem mk310 : mc310.all (mChk 12 prog_14_method_130_code) = true := by decide +kernel
theorem mk311_0 : mc311_0.all (mChk 12 prog_14_method_131_code) = true := by decide +kernel
theorem mk311_1 : mc311_1.all (mChk 12 prog_14_method_131_code) = true := by decide +kernel
theorem mk311 : mc311.all (mChk 12 prog_14_method_131_code) = true := by
  simp only [mc311, List.all_append, Bool.and_eq_true]
  exact ⟨mk311_0, mk311_1⟩
theorem mk312_0 : mc312_0.all (mChk 12 prog_14_method_132_code) = true := by decide +kernel
theorem mk312_1 : mc312_1.all (mChk 12 prog_14_method_132_code) = true := by decide +kernel
theorem mk312 : mc312.all (mChk 12 prog_14_method_132_code) = true := by
  simp only [mc312, List.all_append, Bool.and_eq_true]
  exact ⟨mk312_0, mk312_1⟩
theorem mk313 : mc313.all (mChk 12 prog_14_method_133_code) = true := by decide +kernel
theorem mk314_0 : mc314_0.all (mChk 12 prog_14_method_134_code) = true := by decide +kernel
theorem mk314_1 : mc314_1.all (mChk 12 prog_14_method_134_code) = true := by decide +kernel
theorem mk314 : mc314.all (mChk 12 prog_14_method_134_code) = true := by
  simp only [mc314, List.all_append, Bool.and_eq_true]
  exact ⟨mk314_0, mk314_1⟩
theorem mk315 : mc315.all (mChk 12 prog_14_method_135_code) = true := by decide +kernel
theorem mk316 : mc316.all (mChk 12 prog_14_method_136_code) = true := by decide +kernel
theorem mk317 : mc317.all (mChk 13 prog_16_method_49_code) = true := by decide +kernel
theorem mk318 : mc318.all (mChk 14 prog_17_method_50_code) = true := by decide +kernel
theorem mk319 : mc319.all (mChk 15 prog_18_method_65_code) = true := by decide +kernel
theorem mk320 : mc320.all (mChk 15 prog_18_method_69_code) = true := by decide +kernel
theorem mk321 : mc321.all (mChk 16 prog_19_method_54_code) = true := by decide +kernel
theorem mk322 : mc322.all (mChk 16 prog_19_method_56_code) = true := by decide +kernel
theorem mk323 : mc323.all (mChk 16 prog_19_method_152_code) = true := by decide +kernel
theorem mk324 : mc324.all (mChk 16 prog_19_method_154_code) = true := by decide +kernel
theorem mk325 : mc325.all (mChk 16 prog_19_method_155_code) = true := by decide +kernel
theorem mk326 : mc326.all (mChk 17 prog_20_method_2_code) = true := by decide +kernel
theorem mk327 : mc327.all (mChk 18 prog_23_method_103_code) = true := by decide +kernel
theorem mk328 : mc328.all (mChk 18 prog_23_method_123_code) = true := by decide +kernel
theorem mk329 : mc329.all (mChk 19 prog_24_method_11_code) = true := by decide +kernel
theorem mk330_0 : mc330_0.all (mChk 20 code) = true := by decide +kernel
theorem mk330_1 : mc330_1.all (mChk 20 code) = true := by decide +kernel
theorem mk330_2 : mc330_2.all (mChk 20 code) = true := by decide +kernel
theorem mk330_3 : mc330_3.all (mChk 20 code) = true := by decide +kernel
theorem mk330_4 : mc330_4.all (mChk 20 code) = true := by decide +kernel
theorem mk330_5 : mc330_5.all (mChk 20 code) = true := by decide +kernel
theorem mk330_6 : mc330_6.all (mChk 20 code) = true := by decide +kernel
theorem mk330_7 : mc330_7.all (mChk 20 code) = true := by decide +kernel
theorem mk330_8 : mc330_8.all (mChk 20 code) = true := by decide +kernel
theorem mk330_9 : mc330_9.all (mChk 20 code) = true := by decide +kernel
theorem mk330_10 : mc330_10.all (mChk 20 code) = true := by decide +kernel
theorem mk330_11 : mc330_11.all (mChk 20 code) = true := by decide +kernel
theorem mk330_12 : mc330_12.all (mChk 20 code) = true := by decide +kernel
theorem mk330_13 : mc330_13.all (mChk 20 code) = true := by decide +kernel
theorem mk330_14 : mc330_14.all (mChk 20 code) = true := by decide +kernel
theorem mk330 : mc330.all (mChk 20 code) = true := by
  simp only [mc330, List.all_append, Bool.and_eq_true]
  exact ⟨mk330_0, mk330_1, mk330_2, mk330_3, mk330_4, mk330_5, mk330_6, mk330_7, mk330_8, mk330_9, mk330_10, mk330_11, mk330_12, mk330_13, mk330_14⟩
