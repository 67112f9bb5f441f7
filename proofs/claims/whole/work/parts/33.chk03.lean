/-! The code passes the check. -/
theorem dh_c67_ok : dh_c67.all (dh_cb 67) = true := by
  unfold dh_c67
  simp only [List.all_append, dh_c67_0_ok, dh_c67_1_ok, dh_c67_2_ok, Bool.and_self]
set_option maxRecDepth 100000 in
theorem dh_c68_0_ok : dh_c68_0.all (dh_cb 68) = true := by decide +kernel
set_option maxRecDepth 100000 in
theorem dh_c68_1_ok : dh_c68_1.all (dh_cb 68) = true := by decide +kernel
theorem dh_c68_ok : dh_c68.all (dh_cb 68) = true := by
  unfold dh_c68
  simp only [List.all_append, dh_c68_0_ok, dh_c68_1_ok, Bool.and_self]
set_option maxRecDepth 100000 in
theorem dh_c69_ok : dh_c69.all (dh_cb 69) = true := by decide +kernel
set_option maxRecDepth 100000 in
theorem dh_c70_ok : dh_c70.all (dh_cb 70) = true := by decide +kernel
set_option maxRecDepth 100000 in
theorem dh_c71_ok : dh_c71.all (dh_cb 71) = true := by decide +kernel
set_option maxRecDepth 100000 in
theorem dh_c72_0_ok : dh_c72_0.all (dh_cb 72) = true := by decide +kernel
set_option maxRecDepth 100000 in
theorem dh_c72_1_ok : dh_c72_1.all (dh_cb 72) = true := by decide +kernel
theorem dh_c72_ok : dh_c72.all (dh_cb 72) = true := by
  unfold dh_c72
  simp only [List.all_append, dh_c72_0_ok, dh_c72_1_ok, Bool.and_self]
set_option maxRecDepth 100000 in
theorem dh_c73_ok : dh_c73.all (dh_cb 73) = true := by decide +kernel
set_option maxRecDepth 100000 in
theorem dh_c74_ok : dh_c74.all (dh_cb 74) = true := by decide +kernel
set_option maxRecDepth 100000 in
theorem dh_c75_0_ok : dh_c75_0.all (dh_cb 75) = true := by decide +kernel
set_option maxRecDepth 100000 in
theorem dh_c75_1_ok : dh_c75_1.all (dh_cb 75) = true := by decide +kernel
theorem dh_c75_ok : dh_c75.all (dh_cb 75) = true := by
  unfold dh_c75
  simp only [List.all_append, dh_c75_0_ok, dh_c75_1_ok, Bool.and_self]
set_option maxRecDepth 100000 in
theorem dh_c76_0_ok : dh_c76_0.all (dh_cb 76) = true := by decide +kernel
set_option maxRecDepth 100000 in
theorem dh_c76_1_ok : dh_c76_1.all (dh_cb 76) = true := by decide +kernel
theorem dh_c76_ok : dh_c76.all (dh_cb 76) = true := by
  unfold dh_c76
  simp only [List.all_append, dh_c76_0_ok, dh_c76_1_ok, Bool.and_self]
set_option maxRecDepth 100000 in
theorem dh_c77_ok : dh_c77.all (dh_cb 77) = true := by decide +kernel
set_option maxRecDepth 100000 in
theorem dh_c78_ok : dh_c78.all (dh_cb 78) = true := by decide +kernel
set_option maxRecDepth 100000 in
theorem dh_c79_ok : dh_c79.all (dh_cb 79) = true := by decide +kernel
set_option maxRecDepth 100000 in
theorem dh_c80_ok : dh_c80.all (dh_cb 80) = true := by decide +kernel
set_option maxRecDepth 100000 in
theorem dh_c81_ok : dh_c81.all (dh_cb 81) = true := by decide +kernel
set_option maxRecDepth 100000 in
theorem dh_c82_ok : dh_c82.all (dh_cb 82) = true := by decide +kernel
set_option maxRecDepth 100000 in
theorem dh_c83_ok : dh_c83.all (dh_cb 83) = true := by decide +kernel
set_option maxRecDepth 100000 in
theorem dh_c84_ok : dh_c84.all (dh_cb 84) = true := by decide +kernel
set_option maxRecDepth 100000 in
theorem dh_c85_ok : dh_c85.all (dh_cb 85) = true := by decide +kernel
set_option maxRecDepth 100000 in
theorem dh_c86_ok : dh_c86.all (dh_cb 86) = true := by decide +kernel
set_option maxRecDepth 100000 in
theorem dh_c87_ok : dh_c87.all (dh_cb 87) = true := by decide +kernel
set_option maxRecDepth 100000 in
theorem dh_c88_ok : dh_c88.all (dh_cb 88) = true := by decide +kernel
