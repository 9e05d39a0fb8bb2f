theorem mk273 : mc273.all (mChk 12 prog_14_method_93_code) = true := by decide +kernel
theorem mk274 : mc274.all (mChk 12 prog_14_method_94_code) = true := by decide +kernel
theorem mk275_0 : mc275_0.all (mChk 12 prog_14_method_95_code) = true := by decide +kernel
theorem mk275_1 : mc275_1.all (mChk 12 prog_14_method_95_code) = true := by decide +kernel
theorem mk275 : mc275.all (mChk 12 prog_14_method_95_code) = true := by
  simp only [mc275, List.all_append, Bool.and_eq_true]
  exact ⟨mk275_0, mk275_1⟩
theorem mk276_0 : mc276_0.all (mChk 12 prog_14_method_96_code) = true := by decide +kernel
theorem mk276_1 : mc276_1.all (mChk 12 prog_14_method_96_code) = true := by decide +kernel
theorem mk276 : mc276.all (mChk 12 prog_14_method_96_code) = true := by
  simp only [mc276, List.all_append, Bool.and_eq_true]
  exact ⟨mk276_0, mk276_1⟩
theorem mk277_0 : mc277_0.all (mChk 12 prog_14_method_97_code) = true := by decide +kernel
theorem mk277_1 : mc277_1.all (mChk 12 prog_14_method_97_code) = true := by decide +kernel
theorem mk277 : mc277.all (mChk 12 prog_14_method_97_code) = true := by
  simp only [mc277, List.all_append, Bool.and_eq_true]
  exact ⟨mk277_0, mk277_1⟩
theorem mk278 : mc278.all (mChk 12 prog_14_method_98_code) = true := by decide +kernel
theorem mk279 : mc279.all (mChk 12 prog_14_method_99_code) = true := by decide +kernel
theorem mk280_0 : mc280_0.all (mChk 12 prog_14_method_100_code) = true := by decide +kernel
theorem mk280_1 : mc280_1.all (mChk 12 prog_14_method_100_code) = true := by decide +kernel
theorem mk280 : mc280.all (mChk 12 prog_14_method_100_code) = true := by
  simp only [mc280, List.all_append, Bool.and_eq_true]
  exact ⟨mk280_0, mk280_1⟩
theorem mk281 : mc281.all (mChk 12 prog_14_method_101_code) = true := by decide +kernel
theorem mk282_0 : mc282_0.all (mChk 12 prog_14_method_102_code) = true := by decide +kernel
theorem mk282_1 : mc282_1.all (mChk 12 prog_14_method_102_code) = true := by decide +kernel
theorem mk282 : mc282.all (mChk 12 prog_14_method_102_code) = true := by
  simp only [mc282, List.all_append, Bool.and_eq_true]
  exact ⟨mk282_0, mk282_1⟩
theorem mk283 : mc283.all (mChk 12 prog_14_method_103_code) = true := by decide +kernel
theorem mk284 : mc284.all (mChk 12 prog_14_method_104_code) = true := by decide +kernel
theorem mk285 : mc285.all (mChk 12 prog_14_method_105_code) = true := by decide +kernel
theorem mk286_0 : mc286_0.all (mChk 12 prog_14_method_106_code) = true := by decide +kernel
theorem mk286_1 : mc286_1.all (mChk 12 prog_14_method_106_code) = true := by decide +kernel
theorem mk286 : mc286.all (mChk 12 prog_14_method_106_code) = true := by
  simp only [mc286, List.all_append, Bool.and_eq_true]
  exact ⟨mk286_0, mk286_1⟩
theorem mk287 : mc287.all (mChk 12 prog_14_method_107_code) = true := by decide +kernel
theorem mk288_0 : mc288_0.all (mChk 12 prog_14_method_108_code) = true := by decide +kernel
theorem mk288_1 : mc288_1.all (mChk 12 prog_14_method_108_code) = true := by decide +kernel
theorem mk288 : mc288.all (mChk 12 prog_14_method_108_code) = true := by
  simp only [mc288, List.all_append, Bool.and_eq_true]
  exact ⟨mk288_0, mk288_1⟩
theorem mk289 : mc289.all (mChk 12 prog_14_method_109_code) = true := by decide +kernel
theorem mk290 : mc290.all (mChk 12 prog_14_method_110_code) = true := by decide +kernel
theorem mk291 : mc291.all (mChk 12 prog_14_method_111_code) = true := by decide +kernel
theorem mk292 : mc292.all (mChk 12 prog_14_method_112_code) = true := by decide +kernel
theorem mk293_0 : mc293_0.all (mChk 12 prog_14_method_113_code) = true := by decide +kernel
theorem mk293_1 : mc293_1.all (mChk 12 prog_14_method_113_code) = true := by decide +kernel
theorem mk293 : mc293.all (mChk 12 prog_14_method_113_code) = true := by
  simp only [mc293, List.all_append, Bool.and_eq_true]
  exact ⟨mk293_0, mk293_1⟩
theorem mk294 : mc294.all (mChk 12 prog_14_method_114_code) = true := by decide +kernel
theorem mk295 : mc295.all (mChk 12 prog_14_method_115_code) = true := by decide +kernel
theorem mk296 : mc296.all (mChk 12 prog_14_method_116_code) = true := by decide +kernel
theorem mk297_0 : mc297_0.all (mChk 12 prog_14_method_117_code) = true := by decide +kernel
theorem mk297_1 : mc297_1.all (mChk 12 prog_14_method_117_code) = true := by decide +kernel
theorem mk297 : mc297.all (mChk 12 prog_14_method_117_code) = true := by
  simp only [mc297, List.all_append, Bool.and_eq_true]
  exact ⟨mk297_0, mk297_1⟩
theorem mk298_0 : mc298_0.all (mChk 12 prog_14_method_118_code) = true := by decide +kernel
theorem mk298_1 : mc298_1.all (mChk 12 prog_14_method_118_code) = true := by decide +kernel
theorem mk298 : mc298.all (mChk 12 prog_14_method_118_code) = true := by
  simp only [mc298, List.all_append, Bool.and_eq_true]
  exact ⟨mk298_0, mk298_1⟩
theorem mk299_0 : mc299_0.all (mChk 12 prog_14_method_119_code) = true := by decide +kernel
theorem mk299_1 : mc299_1.all (mChk 12 prog_14_method_119_code) = true := by decide +kernel
theorem mk299 : mc299.all (mChk 12 prog_14_method_119_code) = true := by
  simp only [mc299, List.all_append, Bool.and_eq_true]
  exact ⟨mk299_0, mk299_1⟩
