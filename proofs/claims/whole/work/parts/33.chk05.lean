/-! The code passes the check. -/
set_option maxRecDepth 100000 in
theorem dh_c113_ok : dh_c113.all (dh_cb 113) = true := by decide +kernel
set_option maxRecDepth 100000 in
theorem dh_c114_ok : dh_c114.all (dh_cb 114) = true := by decide +kernel
set_option maxRecDepth 100000 in
theorem dh_c115_ok : dh_c115.all (dh_cb 115) = true := by decide +kernel
set_option maxRecDepth 100000 in
theorem dh_c116_ok : dh_c116.all (dh_cb 116) = true := by decide +kernel
set_option maxRecDepth 100000 in
theorem dh_c117_ok : dh_c117.all (dh_cb 117) = true := by decide +kernel
set_option maxRecDepth 100000 in
theorem dh_c118_ok : dh_c118.all (dh_cb 118) = true := by decide +kernel
set_option maxRecDepth 100000 in
theorem dh_c119_ok : dh_c119.all (dh_cb 119) = true := by decide +kernel
set_option maxRecDepth 100000 in
theorem dh_c120_ok : dh_c120.all (dh_cb 120) = true := by decide +kernel
set_option maxRecDepth 100000 in
theorem dh_c121_ok : dh_c121.all (dh_cb 121) = true := by decide +kernel
set_option maxRecDepth 100000 in
theorem dh_c122_ok : dh_c122.all (dh_cb 122) = true := by decide +kernel
set_option maxRecDepth 100000 in
theorem dh_c123_ok : dh_c123.all (dh_cb 123) = true := by decide +kernel
set_option maxRecDepth 100000 in
theorem dh_c124_ok : dh_c124.all (dh_cb 124) = true := by decide +kernel
set_option maxRecDepth 100000 in
theorem dh_c125_ok : dh_c125.all (dh_cb 125) = true := by decide +kernel
set_option maxRecDepth 100000 in
theorem dh_c126_ok : dh_c126.all (dh_cb 126) = true := by decide +kernel
set_option maxRecDepth 100000 in
theorem dh_c127_ok : dh_c127.all (dh_cb 127) = true := by decide +kernel
set_option maxRecDepth 100000 in
theorem dh_c128_0_ok : dh_c128_0.all (dh_cb 128) = true := by decide +kernel
set_option maxRecDepth 100000 in
theorem dh_c128_1_ok : dh_c128_1.all (dh_cb 128) = true := by decide +kernel
theorem dh_c128_ok : dh_c128.all (dh_cb 128) = true := by
  unfold dh_c128
  simp only [List.all_append, dh_c128_0_ok, dh_c128_1_ok, Bool.and_self]
set_option maxRecDepth 100000 in
theorem dh_c129_ok : dh_c129.all (dh_cb 129) = true := by decide +kernel
set_option maxRecDepth 100000 in
theorem dh_c130_0_ok : dh_c130_0.all (dh_cb 130) = true := by decide +kernel
set_option maxRecDepth 100000 in
theorem dh_c130_1_ok : dh_c130_1.all (dh_cb 130) = true := by decide +kernel
theorem dh_c130_ok : dh_c130.all (dh_cb 130) = true := by
  unfold dh_c130
  simp only [List.all_append, dh_c130_0_ok, dh_c130_1_ok, Bool.and_self]
set_option maxRecDepth 100000 in
theorem dh_c131_ok : dh_c131.all (dh_cb 131) = true := by decide +kernel
set_option maxRecDepth 100000 in
theorem dh_c132_ok : dh_c132.all (dh_cb 132) = true := by decide +kernel
set_option maxRecDepth 100000 in
theorem dh_c133_ok : dh_c133.all (dh_cb 133) = true := by decide +kernel
set_option maxRecDepth 100000 in
theorem dh_c134_ok : dh_c134.all (dh_cb 134) = true := by decide +kernel
set_option maxRecDepth 100000 in
theorem dh_c135_ok : dh_c135.all (dh_cb 135) = true := by decide +kernel
set_option maxRecDepth 100000 in
theorem dh_c136_ok : dh_c136.all (dh_cb 136) = true := by decide +kernel
set_option maxRecDepth 100000 in
theorem dh_c137_ok : dh_c137.all (dh_cb 137) = true := by decide +kernel
set_option maxRecDepth 100000 in
theorem dh_c138_ok : dh_c138.all (dh_cb 138) = true := by decide +kernel
