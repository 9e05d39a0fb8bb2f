theorem mk300 : mc300.all (mChk 12 prog_14_method_120_code) = true := by decide +kernel
theorem mk301_0 : mc301_0.all (mChk 12 prog_14_method_121_code) = true := by decide +kernel
theorem mk301_1 : mc301_1.all (mChk 12 prog_14_method_121_code) = true := by decide +kernel
theorem mk301 : mc301.all (mChk 12 prog_14_method_121_code) = true := by
  simp only [mc301, List.all_append, Bool.and_eq_true]
  exact ⟨mk301_0, mk301_1⟩
theorem mk302_0 : mc302_0.all (mChk 12 prog_14_method_122_code) = true := by decide +kernel
theorem mk302_1 : mc302_1.all (mChk 12 prog_14_method_122_code) = true := by decide +kernel
theorem mk302_2 : mc302_2.all (mChk 12 prog_14_method_122_code) = true := by decide +kernel
theorem mk302 : mc302.all (mChk 12 prog_14_method_122_code) = true := by
  simp only [mc302, List.all_append, Bool.and_eq_true]
  exact ⟨mk302_0, mk302_1, mk302_2⟩
theorem mk303 : mc303.all (mChk 12 prog_14_method_123_code) = true := by decide +kernel
theorem mk304 : mc304.all (mChk 12 prog_14_method_124_code) = true := by decide +kernel
theorem mk305 : mc305.all (mChk 12 prog_14_method_125_code) = true := by decide +kernel
theorem mk306_0 : mc306_0.all (mChk 12 prog_14_method_126_code) = true := by decide +kernel
theorem mk306_1 : mc306_1.all (mChk 12 prog_14_method_126_code) = true := by decide +kernel
theorem mk306 : mc306.all (mChk 12 prog_14_method_126_code) = true := by
  simp only [mc306, List.all_append, Bool.and_eq_true]
  exact ⟨mk306_0, mk306_1⟩
theorem mk307_0 : mc307_0.all (mChk 12 prog_14_method_127_code) = true := by decide +kernel
theorem mk307_1 : mc307_1.all (mChk 12 prog_14_method_127_code) = true := by decide +kernel
theorem mk307 : mc307.all (mChk 12 prog_14_method_127_code) = true := by
  simp only [mc307, List.all_append, Bool.and_eq_true]
  exact ⟨mk307_0, mk307_1⟩
theorem mk308 : mc308.all (mChk 12 prog_14_method_128_code) = true := by decide +kernel
theorem mk309 : mc309.all (mChk 12 prog_14_method_129_code) = true := by decide +kernel
theorem mk310 : mc310.all (mChk 12 prog_14_method_130_code) = true := by decide +kernel
theorem mk311_0 : mc311_0.all (mChk 12 prog_14_method_131_code) = true := by decide +kernel
theorem mk311_1 : mc311_1.all (mChk 12 prog_14_method_131_code) = true := by decide +kernel
theorem mk311 : mc311.all (mChk 12 prog_14_method_131_code) = true := by
  simp only [mc311, List.all_append, Bool.and_eq_true]
  exact ⟨mk311_0, mk311_1⟩
theorem mk312_0 : mc312_0.all (mChk 12 prog_14_method_132_code) = true := by decide +kernel
theorem mk312_1 : mc312_1.all (mChk 12 prog_14_method_132_code) = true := by decide +kernel
theorem mk312 : mc312.all (mChk 12 prog_14_method_132_code) = true := by
  simp only [mc312, List.all_append, Bool.and_eq_true]
  exact ⟨mk312_0, mk312_1⟩
theorem mk313 : mc313.all (mChk 12 prog_14_method_133_code) = true := by decide +kernel
theorem mk314_0 : mc314_0.all (mChk 12 prog_14_method_134_code) = true := by decide +kernel
theorem mk314_1 : mc314_1.all (mChk 12 prog_14_method_134_code) = true := by decide +kernel
theorem mk314 : mc314.all (mChk 12 prog_14_method_134_code) = true := by
  simp only [mc314, List.all_append, Bool.and_eq_true]
  exact ⟨mk314_0, mk314_1⟩
theorem mk315 : mc315.all (mChk 12 prog_14_method_135_code) = true := by decide +kernel
theorem mk316 : mc316.all (mChk 12 prog_14_method_136_code) = true := by decide +kernel
theorem mk317 : mc317.all (mChk 13 prog_16_method_49_code) = true := by decide +kernel
theorem mk318 : mc318.all (mChk 14 prog_17_method_50_code) = true := by decide +kernel
theorem mk319 : mc319.all (mChk 16 prog_19_method_54_code) = true := by decide +kernel
theorem mk320 : mc320.all (mChk 16 prog_19_method_56_code) = true := by decide +kernel
theorem mk321 : mc321.all (mChk 16 prog_19_method_152_code) = true := by decide +kernel
theorem mk322 : mc322.all (mChk 16 prog_19_method_154_code) = true := by decide +kernel
theorem mk323 : mc323.all (mChk 16 prog_19_method_155_code) = true := by decide +kernel
theorem mk324 : mc324.all (mChk 17 prog_20_method_2_code) = true := by decide +kernel
theorem mk325 : mc325.all (mChk 18 prog_23_method_103_code) = true := by decide +kernel
theorem mk326 : mc326.all (mChk 18 prog_23_method_123_code) = true := by decide +kernel
theorem mk327 : mc327.all (mChk 19 prog_24_method_11_code) = true := by decide +kernel
theorem mk328_0 : mc328_0.all (mChk 20 code) = true := by decide +kernel
theorem mk328_1 : mc328_1.all (mChk 20 code) = true := by decide +kernel
theorem mk328_2 : mc328_2.all (mChk 20 code) = true := by decide +kernel
theorem mk328_3 : mc328_3.all (mChk 20 code) = true := by decide +kernel
theorem mk328_4 : mc328_4.all (mChk 20 code) = true := by decide +kernel
theorem mk328_5 : mc328_5.all (mChk 20 code) = true := by decide +kernel
theorem mk328_6 : mc328_6.all (mChk 20 code) = true := by decide +kernel
theorem mk328_7 : mc328_7.all (mChk 20 code) = true := by decide +kernel
theorem mk328_8 : mc328_8.all (mChk 20 code) = true := by decide +kernel
theorem mk328_9 : mc328_9.all (mChk 20 code) = true := by decide +kernel
theorem mk328_10 : mc328_10.all (mChk 20 code) = true := by decide +kernel
theorem mk328_11 : mc328_11.all (mChk 20 code) = true := by decide +kernel
theorem mk328_12 : mc328_12.all (mChk 20 code) = true := by decide +kernel
theorem mk328_13 : mc328_13.all (mChk 20 code) = true := by decide +kernel
theorem mk328_14 : mc328_14.all (mChk 20 code) = true := by decide +kernel
theorem mk328 : mc328.all (mChk 20 code) = true := by
  simp only [mc328, List.all_append, Bool.and_eq_true]
  exact ⟨mk328_0, mk328_1, mk328_2, mk328_3, mk328_4, mk328_5, mk328_6, mk328_7, mk328_8, mk328_9, mk328_10, mk328_11, mk328_12, mk328_13, mk328_14⟩
