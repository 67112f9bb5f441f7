/-! The code passes the check. -/
set_option maxRecDepth 100000 in
theorem dh_c47_ok : dh_c47.all (dh_cb 47) = true := by decide +kernel
set_option maxRecDepth 100000 in
theorem dh_c48_0_ok : dh_c48_0.all (dh_cb 48) = true := by decide +kernel
set_option maxRecDepth 100000 in
theorem dh_c48_1_ok : dh_c48_1.all (dh_cb 48) = true := by decide +kernel
theorem dh_c48_ok : dh_c48.all (dh_cb 48) = true := by
  unfold dh_c48
  simp only [List.all_append, dh_c48_0_ok, dh_c48_1_ok, Bool.and_self]
set_option maxRecDepth 100000 in
theorem dh_c49_ok : dh_c49.all (dh_cb 49) = true := by decide +kernel
set_option maxRecDepth 100000 in
theorem dh_c50_ok : dh_c50.all (dh_cb 50) = true := by decide +kernel
set_option maxRecDepth 100000 in
theorem dh_c51_ok : dh_c51.all (dh_cb 51) = true := by decide +kernel
set_option maxRecDepth 100000 in
theorem dh_c52_ok : dh_c52.all (dh_cb 52) = true := by decide +kernel
set_option maxRecDepth 100000 in
theorem dh_c53_ok : dh_c53.all (dh_cb 53) = true := by decide +kernel
set_option maxRecDepth 100000 in
theorem dh_c54_ok : dh_c54.all (dh_cb 54) = true := by decide +kernel
set_option maxRecDepth 100000 in
theorem dh_c55_ok : dh_c55.all (dh_cb 55) = true := by decide +kernel
set_option maxRecDepth 100000 in
theorem dh_c56_ok : dh_c56.all (dh_cb 56) = true := by decide +kernel
set_option maxRecDepth 100000 in
theorem dh_c57_0_ok : dh_c57_0.all (dh_cb 57) = true := by decide +kernel
set_option maxRecDepth 100000 in
theorem dh_c57_1_ok : dh_c57_1.all (dh_cb 57) = true := by decide +kernel
set_option maxRecDepth 100000 in
theorem dh_c57_2_ok : dh_c57_2.all (dh_cb 57) = true := by decide +kernel
theorem dh_c57_ok : dh_c57.all (dh_cb 57) = true := by
  unfold dh_c57
  simp only [List.all_append, dh_c57_0_ok, dh_c57_1_ok, dh_c57_2_ok, Bool.and_self]
set_option maxRecDepth 100000 in
theorem dh_c58_ok : dh_c58.all (dh_cb 58) = true := by decide +kernel
set_option maxRecDepth 100000 in
theorem dh_c59_ok : dh_c59.all (dh_cb 59) = true := by decide +kernel
set_option maxRecDepth 100000 in
theorem dh_c60_ok : dh_c60.all (dh_cb 60) = true := by decide +kernel
set_option maxRecDepth 100000 in
theorem dh_c61_ok : dh_c61.all (dh_cb 61) = true := by decide +kernel
set_option maxRecDepth 100000 in
theorem dh_c62_ok : dh_c62.all (dh_cb 62) = true := by decide +kernel
set_option maxRecDepth 100000 in
theorem dh_c63_ok : dh_c63.all (dh_cb 63) = true := by decide +kernel
set_option maxRecDepth 100000 in
theorem dh_c64_ok : dh_c64.all (dh_cb 64) = true := by decide +kernel
set_option maxRecDepth 100000 in
theorem dh_c65_0_ok : dh_c65_0.all (dh_cb 65) = true := by decide +kernel
set_option maxRecDepth 100000 in
theorem dh_c65_1_ok : dh_c65_1.all (dh_cb 65) = true := by decide +kernel
theorem dh_c65_ok : dh_c65.all (dh_cb 65) = true := by
  unfold dh_c65
  simp only [List.all_append, dh_c65_0_ok, dh_c65_1_ok, Bool.and_self]
set_option maxRecDepth 100000 in
theorem dh_c66_ok : dh_c66.all (dh_cb 66) = true := by decide +kernel
set_option maxRecDepth 100000 in
theorem dh_c67_0_ok : dh_c67_0.all (dh_cb 67) = true := by decide +kernel
set_option maxRecDepth 100000 in
theorem dh_c67_1_ok : dh_c67_1.all (dh_cb 67) = true := by decide +kernel
set_option maxRecDepth 100000 in
theorem dh_c67_2_ok : dh_c67_2.all (dh_cb 67) = true := by decide +kernel
