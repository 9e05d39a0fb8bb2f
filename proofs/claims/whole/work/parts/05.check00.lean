theorem mk0 : mc0.all (mChk 0 prog_2_method_1_code) = true := by decide +kernel
theorem mk1 : mc1.all (mChk 0 prog_2_method_2_code) = true := by decide +kernel
theorem mk2 : mc2.all (mChk 0 prog_2_method_3_code) = true := by decide +kernel
theorem mk3 : mc3.all (mChk 0 prog_2_method_4_code) = true := by decide +kernel
theorem mk4_0 : mc4_0.all (mChk 0 prog_2_method_5_code) = true := by decide +kernel
theorem mk4_1 : mc4_1.all (mChk 0 prog_2_method_5_code) = true := by decide +kernel
theorem mk4 : mc4.all (mChk 0 prog_2_method_5_code) = true := by
  simp only [mc4, List.all_append, Bool.and_eq_true]
  exact ⟨mk4_0, mk4_1⟩
theorem mk5 : mc5.all (mChk 0 prog_2_method_6_code) = true := by decide +kernel
theorem mk6_0 : mc6_0.all (mChk 0 prog_2_method_7_code) = true := by decide +kernel
theorem mk6_1 : mc6_1.all (mChk 0 prog_2_method_7_code) = true := by decide +kernel
theorem mk6 : mc6.all (mChk 0 prog_2_method_7_code) = true := by
  simp only [mc6, List.all_append, Bool.and_eq_true]
  exact ⟨mk6_0, mk6_1⟩
theorem mk7 : mc7.all (mChk 0 prog_2_method_8_code) = true := by decide +kernel
theorem mk8 : mc8.all (mChk 0 prog_2_method_9_code) = true := by decide +kernel
theorem mk9_0 : mc9_0.all (mChk 0 prog_2_method_10_code) = true := by decide +kernel
theorem mk9_1 : mc9_1.all (mChk 0 prog_2_method_10_code) = true := by decide +kernel
theorem mk9 : mc9.all (mChk 0 prog_2_method_10_code) = true := by
  simp only [mc9, List.all_append, Bool.and_eq_true]
  exact ⟨mk9_0, mk9_1⟩
theorem mk10 : mc10.all (mChk 0 prog_2_method_11_code) = true := by decide +kernel
theorem mk11 : mc11.all (mChk 0 prog_2_method_12_code) = true := by decide +kernel
theorem mk12 : mc12.all (mChk 0 prog_2_method_13_code) = true := by decide +kernel
theorem mk13_0 : mc13_0.all (mChk 0 prog_2_method_14_code) = true := by decide +kernel
theorem mk13_1 : mc13_1.all (mChk 0 prog_2_method_14_code) = true := by decide +kernel
theorem mk13 : mc13.all (mChk 0 prog_2_method_14_code) = true := by
  simp only [mc13, List.all_append, Bool.and_eq_true]
  exact ⟨mk13_0, mk13_1⟩
theorem mk14 : mc14.all (mChk 0 prog_2_method_15_code) = true := by decide +kernel
theorem mk15 : mc15.all (mChk 0 prog_2_method_16_code) = true := by decide +kernel
theorem mk16_0 : mc16_0.all (mChk 0 prog_2_method_17_code) = true := by decide +kernel
theorem mk16_1 : mc16_1.all (mChk 0 prog_2_method_17_code) = true := by decide +kernel
theorem mk16 : mc16.all (mChk 0 prog_2_method_17_code) = true := by
  simp only [mc16, List.all_append, Bool.and_eq_true]
  exact ⟨mk16_0, mk16_1⟩
theorem mk17 : mc17.all (mChk 0 prog_2_method_18_code) = true := by decide +kernel
theorem mk18 : mc18.all (mChk 0 prog_2_method_19_code) = true := by decide +kernel
theorem mk19 : mc19.all (mChk 1 prog_3_method_1_code) = true := by decide +kernel
theorem mk20 : mc20.all (mChk 1 prog_3_method_2_code) = true := by decide +kernel
theorem mk21 : mc21.all (mChk 1 prog_3_method_3_code) = true := by decide +kernel
theorem mk22_0 : mc22_0.all (mChk 1 prog_3_method_4_code) = true := by decide +kernel
theorem mk22_1 : mc22_1.all (mChk 1 prog_3_method_4_code) = true := by decide +kernel
theorem mk22 : mc22.all (mChk 1 prog_3_method_4_code) = true := by
  simp only [mc22, List.all_append, Bool.and_eq_true]
  exact ⟨mk22_0, mk22_1⟩
theorem mk23 : mc23.all (mChk 1 prog_3_method_5_code) = true := by decide +kernel
theorem mk24 : mc24.all (mChk 1 prog_3_method_6_code) = true := by decide +kernel
theorem mk25_0 : mc25_0.all (mChk 1 prog_3_method_7_code) = true := by decide +kernel
theorem mk25_1 : mc25_1.all (mChk 1 prog_3_method_7_code) = true := by decide +kernel
theorem mk25 : mc25.all (mChk 1 prog_3_method_7_code) = true := by
  simp only [mc25, List.all_append, Bool.and_eq_true]
  exact ⟨mk25_0, mk25_1⟩
theorem mk26_0 : mc26_0.all (mChk 1 prog_3_method_8_code) = true := by decide +kernel
theorem mk26_1 : mc26_1.all (mChk 1 prog_3_method_8_code) = true := by decide +kernel
theorem mk26 : mc26.all (mChk 1 prog_3_method_8_code) = true := by
  simp only [mc26, List.all_append, Bool.and_eq_true]
  exact ⟨mk26_0, mk26_1⟩
theorem mk27 : mc27.all (mChk 1 prog_3_method_9_code) = true := by decide +kernel
theorem mk28_0 : mc28_0.all (mChk 1 prog_3_method_10_code) = true := by decide +kernel
theorem mk28_1 : mc28_1.all (mChk 1 prog_3_method_10_code) = true := by decide +kernel
theorem mk28 : mc28.all (mChk 1 prog_3_method_10_code) = true := by
  simp only [mc28, List.all_append, Bool.and_eq_true]
  exact ⟨mk28_0, mk28_1⟩
