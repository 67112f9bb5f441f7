/-! The code passes the check. -/
set_option maxRecDepth 100000 in
theorem dh_c89_0_ok : dh_c89_0.all (dh_cb 89) = true := by decide +kernel
set_option maxRecDepth 100000 in
theorem dh_c89_1_ok : dh_c89_1.all (dh_cb 89) = true := by decide +kernel
theorem dh_c89_ok : dh_c89.all (dh_cb 89) = true := by
  unfold dh_c89
  simp only [List.all_append, dh_c89_0_ok, dh_c89_1_ok, Bool.and_self]
set_option maxRecDepth 100000 in
theorem dh_c90_0_ok : dh_c90_0.all (dh_cb 90) = true := by decide +kernel
set_option maxRecDepth 100000 in
theorem dh_c90_1_ok : dh_c90_1.all (dh_cb 90) = true := by decide +kernel
theorem dh_c90_ok : dh_c90.all (dh_cb 90) = true := by
  unfold dh_c90
  simp only [List.all_append, dh_c90_0_ok, dh_c90_1_ok, Bool.and_self]
set_option maxRecDepth 100000 in
theorem dh_c91_ok : dh_c91.all (dh_cb 91) = true := by decide +kernel
set_option maxRecDepth 100000 in
theorem dh_c92_ok : dh_c92.all (dh_cb 92) = true := by decide +kernel
set_option maxRecDepth 100000 in
theorem dh_c93_ok : dh_c93.all (dh_cb 93) = true := by decide +kernel
set_option maxRecDepth 100000 in
theorem dh_c94_ok : dh_c94.all (dh_cb 94) = true := by decide +kernel
set_option maxRecDepth 100000 in
theorem dh_c95_ok : dh_c95.all (dh_cb 95) = true := by decide +kernel
set_option maxRecDepth 100000 in
theorem dh_c96_ok : dh_c96.all (dh_cb 96) = true := by decide +kernel
set_option maxRecDepth 100000 in
theorem dh_c97_ok : dh_c97.all (dh_cb 97) = true := by decide +kernel
set_option maxRecDepth 100000 in
theorem dh_c98_ok : dh_c98.all (dh_cb 98) = true := by decide +kernel
set_option maxRecDepth 100000 in
theorem dh_c99_ok : dh_c99.all (dh_cb 99) = true := by decide +kernel
set_option maxRecDepth 100000 in
theorem dh_c100_ok : dh_c100.all (dh_cb 100) = true := by decide +kernel
set_option maxRecDepth 100000 in
theorem dh_c101_ok : dh_c101.all (dh_cb 101) = true := by decide +kernel
set_option maxRecDepth 100000 in
theorem dh_c102_ok : dh_c102.all (dh_cb 102) = true := by decide +kernel
set_option maxRecDepth 100000 in
theorem dh_c103_0_ok : dh_c103_0.all (dh_cb 103) = true := by decide +kernel
set_option maxRecDepth 100000 in
theorem dh_c103_1_ok : dh_c103_1.all (dh_cb 103) = true := by decide +kernel
theorem dh_c103_ok : dh_c103.all (dh_cb 103) = true := by
  unfold dh_c103
  simp only [List.all_append, dh_c103_0_ok, dh_c103_1_ok, Bool.and_self]
set_option maxRecDepth 100000 in
theorem dh_c104_ok : dh_c104.all (dh_cb 104) = true := by decide +kernel
set_option maxRecDepth 100000 in
theorem dh_c105_ok : dh_c105.all (dh_cb 105) = true := by decide +kernel
set_option maxRecDepth 100000 in
theorem dh_c106_ok : dh_c106.all (dh_cb 106) = true := by decide +kernel
set_option maxRecDepth 100000 in
theorem dh_c107_ok : dh_c107.all (dh_cb 107) = true := by decide +kernel
set_option maxRecDepth 100000 in
theorem dh_c108_ok : dh_c108.all (dh_cb 108) = true := by decide +kernel
set_option maxRecDepth 100000 in
theorem dh_c109_ok : dh_c109.all (dh_cb 109) = true := by decide +kernel
set_option maxRecDepth 100000 in
theorem dh_c110_ok : dh_c110.all (dh_cb 110) = true := by decide +kernel
set_option maxRecDepth 100000 in
theorem dh_c111_ok : dh_c111.all (dh_cb 111) = true := by decide +kernel
set_option maxRecDepth 100000 in
theorem dh_c112_ok : dh_c112.all (dh_cb 112) = true := by decide +kernel
