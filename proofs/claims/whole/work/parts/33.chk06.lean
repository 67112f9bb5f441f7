/-! The code passes the check. -/
set_option maxRecDepth 100000 in
theorem dh_c139_ok : dh_c139.all (dh_cb 139) = true := by decide +kernel
set_option maxRecDepth 100000 in
theorem dh_c140_0_ok : dh_c140_0.all (dh_cb 140) = true := by decide +kernel
set_option maxRecDepth 100000 in
theorem dh_c140_1_ok : dh_c140_1.all (dh_cb 140) = true := by decide +kernel
set_option maxRecDepth 100000 in
theorem dh_c140_2_ok : dh_c140_2.all (dh_cb 140) = true := by decide +kernel
set_option maxRecDepth 100000 in
theorem dh_c140_3_ok : dh_c140_3.all (dh_cb 140) = true := by decide +kernel
set_option maxRecDepth 100000 in
theorem dh_c140_4_ok : dh_c140_4.all (dh_cb 140) = true := by decide +kernel
set_option maxRecDepth 100000 in
theorem dh_c140_5_ok : dh_c140_5.all (dh_cb 140) = true := by decide +kernel
set_option maxRecDepth 100000 in
theorem dh_c140_6_ok : dh_c140_6.all (dh_cb 140) = true := by decide +kernel
set_option maxRecDepth 100000 in
theorem dh_c140_7_ok : dh_c140_7.all (dh_cb 140) = true := by decide +kernel
set_option maxRecDepth 100000 in
theorem dh_c140_8_ok : dh_c140_8.all (dh_cb 140) = true := by decide +kernel
set_option maxRecDepth 100000 in
theorem dh_c140_9_ok : dh_c140_9.all (dh_cb 140) = true := by decide +kernel
set_option maxRecDepth 100000 in
theorem dh_c140_10_ok : dh_c140_10.all (dh_cb 140) = true := by decide +kernel
theorem dh_c140_ok : dh_c140.all (dh_cb 140) = true := by
  unfold dh_c140
  simp only [List.all_append, dh_c140_0_ok, dh_c140_1_ok, dh_c140_2_ok, dh_c140_3_ok, dh_c140_4_ok, dh_c140_5_ok, dh_c140_6_ok, dh_c140_7_ok, dh_c140_8_ok, dh_c140_9_ok, dh_c140_10_ok, Bool.and_self]
