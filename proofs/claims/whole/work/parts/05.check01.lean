theorem mk29 : mc29.all (mChk 2 prog_4_method_1_code) = true := by decide +kernel
theorem mk30 : mc30.all (mChk 2 prog_4_method_2_code) = true := by decide +kernel
theorem mk31 : mc31.all (mChk 2 prog_4_method_3_code) = true := by decide +kernel
theorem mk32 : mc32.all (mChk 2 prog_4_method_4_code) = true := by decide +kernel
theorem mk33 : mc33.all (mChk 2 prog_4_method_5_code) = true := by decide +kernel
theorem mk34 : mc34.all (mChk 2 prog_4_method_6_code) = true := by decide +kernel
theorem mk35_0 : mc35_0.all (mChk 2 prog_4_method_7_code) = true := by decide +kernel
theorem mk35_1 : mc35_1.all (mChk 2 prog_4_method_7_code) = true := by decide +kernel
theorem mk35 : mc35.all (mChk 2 prog_4_method_7_code) = true := by
  simp only [mc35, List.all_append, Bool.and_eq_true]
  exact ⟨mk35_0, mk35_1⟩
theorem mk36 : mc36.all (mChk 2 prog_4_method_8_code) = true := by decide +kernel
theorem mk37 : mc37.all (mChk 2 prog_4_method_9_code) = true := by decide +kernel
theorem mk38 : mc38.all (mChk 2 prog_4_method_10_code) = true := by decide +kernel
theorem mk39 : mc39.all (mChk 2 prog_4_method_11_code) = true := by decide +kernel
theorem mk40 : mc40.all (mChk 2 prog_4_method_12_code) = true := by decide +kernel
theorem mk41 : mc41.all (mChk 2 prog_4_method_13_code) = true := by decide +kernel
theorem mk42 : mc42.all (mChk 2 prog_4_method_14_code) = true := by decide +kernel
theorem mk43 : mc43.all (mChk 3 prog_5_method_1_code) = true := by decide +kernel
theorem mk44 : mc44.all (mChk 3 prog_5_method_2_code) = true := by decide +kernel
theorem mk45_0 : mc45_0.all (mChk 3 prog_5_method_3_code) = true := by decide +kernel
theorem mk45_1 : mc45_1.all (mChk 3 prog_5_method_3_code) = true := by decide +kernel
theorem mk45 : mc45.all (mChk 3 prog_5_method_3_code) = true := by
  simp only [mc45, List.all_append, Bool.and_eq_true]
  exact ⟨mk45_0, mk45_1⟩
theorem mk46 : mc46.all (mChk 3 prog_5_method_4_code) = true := by decide +kernel
theorem mk47 : mc47.all (mChk 3 prog_5_method_5_code) = true := by decide +kernel
theorem mk48 : mc48.all (mChk 3 prog_5_method_6_code) = true := by decide +kernel
theorem mk49 : mc49.all (mChk 3 prog_5_method_7_code) = true := by decide +kernel
theorem mk50 : mc50.all (mChk 3 prog_5_method_8_code) = true := by decide +kernel
theorem mk51 : mc51.all (mChk 3 prog_5_method_9_code) = true := by decide +kernel
theorem mk52 : mc52.all (mChk 3 prog_5_method_10_code) = true := by decide +kernel
theorem mk53 : mc53.all (mChk 4 prog_6_method_1_code) = true := by decide +kernel
theorem mk54 : mc54.all (mChk 4 prog_6_method_2_code) = true := by decide +kernel
theorem mk55 : mc55.all (mChk 4 prog_6_method_3_code) = true := by decide +kernel
theorem mk56 : mc56.all (mChk 4 prog_6_method_4_code) = true := by decide +kernel
theorem mk57 : mc57.all (mChk 4 prog_6_method_5_code) = true := by decide +kernel
theorem mk58 : mc58.all (mChk 4 prog_6_method_6_code) = true := by decide +kernel
theorem mk59 : mc59.all (mChk 4 prog_6_method_7_code) = true := by decide +kernel
theorem mk60 : mc60.all (mChk 4 prog_6_method_8_code) = true := by decide +kernel
theorem mk61 : mc61.all (mChk 4 prog_6_method_9_code) = true := by decide +kernel
theorem mk62 : mc62.all (mChk 4 prog_6_method_10_code) = true := by decide +kernel
theorem mk63 : mc63.all (mChk 5 prog_7_method_1_code) = true := by decide +kernel
theorem mk64 : mc64.all (mChk 5 prog_7_method_2_code) = true := by decide +kernel
theorem mk65_0 : mc65_0.all (mChk 5 prog_7_method_3_code) = true := by decide +kernel
theorem mk65_1 : mc65_1.all (mChk 5 prog_7_method_3_code) = true := by decide +kernel
theorem mk65 : mc65.all (mChk 5 prog_7_method_3_code) = true := by
  simp only [mc65, List.all_append, Bool.and_eq_true]
  exact ⟨mk65_0, mk65_1⟩
theorem mk66 : mc66.all (mChk 5 prog_7_method_4_code) = true := by decide +kernel
theorem mk67 : mc67.all (mChk 5 prog_7_method_5_code) = true := by decide +kernel
theorem mk68 : mc68.all (mChk 6 prog_8_method_1_code) = true := by decide +kernel
theorem mk69 : mc69.all (mChk 6 prog_8_method_2_code) = true := by decide +kernel
