theorem mk209_0 : mc209_0.all (mChk 12 prog_14_method_29_code) = true := by decide +kernel
theorem mk209_1 : mc209_1.all (mChk 12 prog_14_method_29_code) = true := by decide +kernel
theorem mk209 : mc209.all (mChk 12 prog_14_method_29_code) = true := by
  simp only [mc209, List.all_append, Bool.and_eq_true]
  exact ⟨mk209_0, mk209_1⟩
theorem mk210 : mc210.all (mChk 12 prog_14_method_30_code) = true := by decide +kernel
theorem mk211 : mc211.all (mChk 12 prog_14_method_31_code) = true := by decide +kernel
theorem mk212 : mc212.all (mChk 12 prog_14_method_32_code) = true := by decide +kernel
theorem mk213 : mc213.all (mChk 12 prog_14_method_33_code) = true := by decide +kernel
theorem mk214_0 : mc214_0.all (mChk 12 prog_14_method_34_code) = true := by decide +kernel
theorem mk214_1 : mc214_1.all (mChk 12 prog_14_method_34_code) = true := by decide +kernel
theorem mk214 : mc214.all (mChk 12 prog_14_method_34_code) = true := by
  simp only [mc214, List.all_append, Bool.and_eq_true]
  exact ⟨mk214_0, mk214_1⟩
theorem mk215 : mc215.all (mChk 12 prog_14_method_35_code) = true := by decide +kernel
theorem mk216 : mc216.all (mChk 12 prog_14_method_36_code) = true := by decide +kernel
theorem mk217 : mc217.all (mChk 12 prog_14_method_37_code) = true := by decide +kernel
theorem mk218_0 : mc218_0.all (mChk 12 prog_14_method_38_code) = true := by decide +kernel
theorem mk218_1 : mc218_1.all (mChk 12 prog_14_method_38_code) = true := by decide +kernel
theorem mk218 : mc218.all (mChk 12 prog_14_method_38_code) = true := by
  simp only [mc218, List.all_append, Bool.and_eq_true]
  exact ⟨mk218_0, mk218_1⟩
theorem mk219_0 : mc219_0.all (mChk 12 prog_14_method_39_code) = true := by decide +kernel
theorem mk219_1 : mc219_1.all (mChk 12 prog_14_method_39_code) = true := by decide +kernel
theorem mk219_2 : mc219_2.all (mChk 12 prog_14_method_39_code) = true := by decide +kernel
theorem mk219 : mc219.all (mChk 12 prog_14_method_39_code) = true := by
  simp only [mc219, List.all_append, Bool.and_eq_true]
  exact ⟨mk219_0, mk219_1, mk219_2⟩
theorem mk220 : mc220.all (mChk 12 prog_14_method_40_code) = true := by decide +kernel
theorem mk221 : mc221.all (mChk 12 prog_14_method_41_code) = true := by decide +kernel
theorem mk222 : mc222.all (mChk 12 prog_14_method_42_code) = true := by decide +kernel
theorem mk223 : mc223.all (mChk 12 prog_14_method_43_code) = true := by decide +kernel
theorem mk224 : mc224.all (mChk 12 prog_14_method_44_code) = true := by decide +kernel
theorem mk225 : mc225.all (mChk 12 prog_14_method_45_code) = true := by decide +kernel
theorem mk226_0 : mc226_0.all (mChk 12 prog_14_method_46_code) = true := by decide +kernel
theorem mk226_1 : mc226_1.all (mChk 12 prog_14_method_46_code) = true := by decide +kernel
theorem mk226_2 : mc226_2.all (mChk 12 prog_14_method_46_code) = true := by decide +kernel
theorem mk226 : mc226.all (mChk 12 prog_14_method_46_code) = true := by
  simp only [mc226, List.all_append, Bool.and_eq_true]
  exact ⟨mk226_0, mk226_1, mk226_2⟩
theorem mk227 : mc227.all (mChk 12 prog_14_method_47_code) = true := by decide +kernel
theorem mk228 : mc228.all (mChk 12 prog_14_method_48_code) = true := by decide +kernel
theorem mk229 : mc229.all (mChk 12 prog_14_method_49_code) = true := by decide +kernel
theorem mk230 : mc230.all (mChk 12 prog_14_method_50_code) = true := by decide +kernel
theorem mk231 : mc231.all (mChk 12 prog_14_method_51_code) = true := by decide +kernel
theorem mk232 : mc232.all (mChk 12 prog_14_method_52_code) = true := by decide +kernel
theorem mk233 : mc233.all (mChk 12 prog_14_method_53_code) = true := by decide +kernel
theorem mk234_0 : mc234_0.all (mChk 12 prog_14_method_54_code) = true := by decide +kernel
theorem mk234_1 : mc234_1.all (mChk 12 prog_14_method_54_code) = true := by decide +kernel
theorem mk234 : mc234.all (mChk 12 prog_14_method_54_code) = true := by
  simp only [mc234, List.all_append, Bool.and_eq_true]
  exact ⟨mk234_0, mk234_1⟩
theorem mk235 : mc235.all (mChk 12 prog_14_method_55_code) = true := by decide +kernel
theorem mk236 : mc236.all (mChk 12 prog_14_method_56_code) = true := by decide +kernel
