/-! The code passes the check. -/
set_option maxRecDepth 100000 in
theorem dh_c26_ok : dh_c26.all (dh_cb 26) = true := by decide +kernel
set_option maxRecDepth 100000 in
theorem dh_c27_0_ok : dh_c27_0.all (dh_cb 27) = true := by decide +kernel
set_option maxRecDepth 100000 in
theorem dh_c27_1_ok : dh_c27_1.all (dh_cb 27) = true := by decide +kernel
set_option maxRecDepth 100000 in
theorem dh_c27_2_ok : dh_c27_2.all (dh_cb 27) = true := by decide +kernel
theorem dh_c27_ok : dh_c27.all (dh_cb 27) = true := by
  unfold dh_c27
  simp only [List.all_append, dh_c27_0_ok, dh_c27_1_ok, dh_c27_2_ok, Bool.and_self]
set_option maxRecDepth 100000 in
theorem dh_c28_ok : dh_c28.all (dh_cb 28) = true := by decide +kernel
set_option maxRecDepth 100000 in
theorem dh_c29_ok : dh_c29.all (dh_cb 29) = true := by decide +kernel
set_option maxRecDepth 100000 in
theorem dh_c30_ok : dh_c30.all (dh_cb 30) = true := by decide +kernel
set_option maxRecDepth 100000 in
theorem dh_c31_ok : dh_c31.all (dh_cb 31) = true := by decide +kernel
set_option maxRecDepth 100000 in
theorem dh_c32_ok : dh_c32.all (dh_cb 32) = true := by decide +kernel
set_option maxRecDepth 100000 in
theorem dh_c33_ok : dh_c33.all (dh_cb 33) = true := by decide +kernel
set_option maxRecDepth 100000 in
theorem dh_c34_ok : dh_c34.all (dh_cb 34) = true := by decide +kernel
set_option maxRecDepth 100000 in
theorem dh_c35_ok : dh_c35.all (dh_cb 35) = true := by decide +kernel
set_option maxRecDepth 100000 in
theorem dh_c36_ok : dh_c36.all (dh_cb 36) = true := by decide +kernel
set_option maxRecDepth 100000 in
theorem dh_c37_ok : dh_c37.all (dh_cb 37) = true := by decide +kernel
set_option maxRecDepth 100000 in
theorem dh_c38_ok : dh_c38.all (dh_cb 38) = true := by decide +kernel
set_option maxRecDepth 100000 in
theorem dh_c39_ok : dh_c39.all (dh_cb 39) = true := by decide +kernel
set_option maxRecDepth 100000 in
theorem dh_c40_0_ok : dh_c40_0.all (dh_cb 40) = true := by decide +kernel
set_option maxRecDepth 100000 in
theorem dh_c40_1_ok : dh_c40_1.all (dh_cb 40) = true := by decide +kernel
theorem dh_c40_ok : dh_c40.all (dh_cb 40) = true := by
  unfold dh_c40
  simp only [List.all_append, dh_c40_0_ok, dh_c40_1_ok, Bool.and_self]
set_option maxRecDepth 100000 in
theorem dh_c41_ok : dh_c41.all (dh_cb 41) = true := by decide +kernel
set_option maxRecDepth 100000 in
theorem dh_c42_ok : dh_c42.all (dh_cb 42) = true := by decide +kernel
set_option maxRecDepth 100000 in
theorem dh_c43_0_ok : dh_c43_0.all (dh_cb 43) = true := by decide +kernel
set_option maxRecDepth 100000 in
theorem dh_c43_1_ok : dh_c43_1.all (dh_cb 43) = true := by decide +kernel
theorem dh_c43_ok : dh_c43.all (dh_cb 43) = true := by
  unfold dh_c43
  simp only [List.all_append, dh_c43_0_ok, dh_c43_1_ok, Bool.and_self]
set_option maxRecDepth 100000 in
theorem dh_c44_ok : dh_c44.all (dh_cb 44) = true := by decide +kernel
set_option maxRecDepth 100000 in
theorem dh_c45_0_ok : dh_c45_0.all (dh_cb 45) = true := by decide +kernel
set_option maxRecDepth 100000 in
theorem dh_c45_1_ok : dh_c45_1.all (dh_cb 45) = true := by decide +kernel
theorem dh_c45_ok : dh_c45.all (dh_cb 45) = true := by
  unfold dh_c45
  simp only [List.all_append, dh_c45_0_ok, dh_c45_1_ok, Bool.and_self]
set_option maxRecDepth 100000 in
theorem dh_c46_ok : dh_c46.all (dh_cb 46) = true := by decide +kernel
