theorem mk115 : mc115.all (mChk 10 prog_12_method_1_code) = true := by decide +kernel
theorem mk116 : mc116.all (mChk 10 prog_12_method_2_code) = true := by decide +kernel
theorem mk117 : mc117.all (mChk 10 prog_12_method_3_code) = true := by decide +kernel
theorem mk118 : mc118.all (mChk 10 prog_12_method_4_code) = true := by decide +kernel
theorem mk119 : mc119.all (mChk 10 prog_12_method_5_code) = true := by decide +kernel
theorem mk120 : mc120.all (mChk 10 prog_12_method_6_code) = true := by decide +kernel
theorem mk121 : mc121.all (mChk 10 prog_12_method_7_code) = true := by decide +kernel
theorem mk122 : mc122.all (mChk 10 prog_12_method_8_code) = true := by decide +kernel
theorem mk123_0 : mc123_0.all (mChk 10 prog_12_method_9_code) = true := by decide +kernel
theorem mk123_1 : mc123_1.all (mChk 10 prog_12_method_9_code) = true := by decide +kernel
theorem mk123 : mc123.all (mChk 10 prog_12_method_9_code) = true := by
  simp only [mc123, List.all_append, Bool.and_eq_true]
  exact ⟨mk123_0, mk123_1⟩
theorem mk124_0 : mc124_0.all (mChk 10 prog_12_method_10_code) = true := by decide +kernel
theorem mk124_1 : mc124_1.all (mChk 10 prog_12_method_10_code) = true := by decide +kernel
theorem mk124 : mc124.all (mChk 10 prog_12_method_10_code) = true := by
  simp only [mc124, List.all_append, Bool.and_eq_true]
  exact ⟨mk124_0, mk124_1⟩
theorem mk125 : mc125.all (mChk 10 prog_12_method_11_code) = true := by decide +kernel
theorem mk126 : mc126.all (mChk 10 prog_12_method_12_code) = true := by decide +kernel
theorem mk127 : mc127.all (mChk 10 prog_12_method_13_code) = true := by decide +kernel
theorem mk128 : mc128.all (mChk 10 prog_12_method_14_code) = true := by decide +kernel
theorem mk129 : mc129.all (mChk 10 prog_12_method_15_code) = true := by decide +kernel
theorem mk130 : mc130.all (mChk 10 prog_12_method_16_code) = true := by decide +kernel
theorem mk131_0 : mc131_0.all (mChk 10 prog_12_method_17_code) = true := by decide +kernel
theorem mk131_1 : mc131_1.all (mChk 10 prog_12_method_17_code) = true := by decide +kernel
theorem mk131 : mc131.all (mChk 10 prog_12_method_17_code) = true := by
  simp only [mc131, List.all_append, Bool.and_eq_true]
  exact ⟨mk131_0, mk131_1⟩
theorem mk132 : mc132.all (mChk 10 prog_12_method_18_code) = true := by decide +kernel
theorem mk133 : mc133.all (mChk 10 prog_12_method_19_code) = true := by decide +kernel
theorem mk134 : mc134.all (mChk 11 prog_1_method_1_code) = true := by decide +kernel
theorem mk135 : mc135.all (mChk 11 prog_1_method_2_code) = true := by decide +kernel
theorem mk136 : mc136.all (mChk 11 prog_1_method_3_code) = true := by decide +kernel
theorem mk137 : mc137.all (mChk 11 prog_1_method_4_code) = true := by decide +kernel
theorem mk138 : mc138.all (mChk 11 prog_1_method_5_code) = true := by decide +kernel
theorem mk139 : mc139.all (mChk 11 prog_1_method_6_code) = true := by decide +kernel
theorem mk140 : mc140.all (mChk 11 prog_1_method_7_code) = true := by decide +kernel
theorem mk141 : mc141.all (mChk 11 prog_1_method_8_code) = true := by decide +kernel
theorem mk142 : mc142.all (mChk 11 prog_1_method_9_code) = true := by decide +kernel
theorem mk143 : mc143.all (mChk 11 prog_1_method_10_code) = true := by decide +kernel
theorem mk144 : mc144.all (mChk 11 prog_1_method_11_code) = true := by decide +kernel
theorem mk145 : mc145.all (mChk 11 prog_1_method_12_code) = true := by decide +kernel
theorem mk146 : mc146.all (mChk 11 prog_1_method_13_code) = true := by decide +kernel
theorem mk147 : mc147.all (mChk 11 prog_1_method_14_code) = true := by decide +kernel
theorem mk148 : mc148.all (mChk 11 prog_1_method_15_code) = true := by decide +kernel
theorem mk149 : mc149.all (mChk 11 prog_1_method_16_code) = true := by decide +kernel
theorem mk150 : mc150.all (mChk 11 prog_1_method_17_code) = true := by decide +kernel
theorem mk151 : mc151.all (mChk 11 prog_1_method_18_code) = true := by decide +kernel
theorem mk152_0 : mc152_0.all (mChk 11 prog_1_method_19_code) = true := by decide +kernel
theorem mk152_1 : mc152_1.all (mChk 11 prog_1_method_19_code) = true := by decide +kernel
theorem mk152 : mc152.all (mChk 11 prog_1_method_19_code) = true := by
  simp only [mc152, List.all_append, Bool.and_eq_true]
  exact ⟨mk152_0, mk152_1⟩
theorem mk153 : mc153.all (mChk 11 prog_1_method_20_code) = true := by decide +kernel
theorem mk154 : mc154.all (mChk 11 prog_1_method_21_code) = true := by decide +kernel
theorem mk155 : mc155.all (mChk 11 prog_1_method_22_code) = true := by decide +kernel
