/-! The code passes the check. -/
def dh_cb (i : Nat) (q : Nat × jm_In) : Bool := jm_cb dh_K dh_J dh_sw (dh_M i).2.1 (dh_oc i) (dh_nl i) (dh_ini i) (dh_M i).2.2.1 q
set_option maxRecDepth 100000 in
theorem dh_c0_0_ok : dh_c0_0.all (dh_cb 0) = true := by decide +kernel
set_option maxRecDepth 100000 in
theorem dh_c0_1_ok : dh_c0_1.all (dh_cb 0) = true := by decide +kernel
theorem dh_c0_ok : dh_c0.all (dh_cb 0) = true := by
  unfold dh_c0
  simp only [List.all_append, dh_c0_0_ok, dh_c0_1_ok, Bool.and_self]
set_option maxRecDepth 100000 in
theorem dh_c1_ok : dh_c1.all (dh_cb 1) = true := by decide +kernel
set_option maxRecDepth 100000 in
theorem dh_c2_ok : dh_c2.all (dh_cb 2) = true := by decide +kernel
set_option maxRecDepth 100000 in
theorem dh_c3_ok : dh_c3.all (dh_cb 3) = true := by decide +kernel
set_option maxRecDepth 100000 in
theorem dh_c4_ok : dh_c4.all (dh_cb 4) = true := by decide +kernel
set_option maxRecDepth 100000 in
theorem dh_c5_ok : dh_c5.all (dh_cb 5) = true := by decide +kernel
set_option maxRecDepth 100000 in
theorem dh_c6_ok : dh_c6.all (dh_cb 6) = true := by decide +kernel
set_option maxRecDepth 100000 in
theorem dh_c7_ok : dh_c7.all (dh_cb 7) = true := by decide +kernel
set_option maxRecDepth 100000 in
theorem dh_c8_0_ok : dh_c8_0.all (dh_cb 8) = true := by decide +kernel
set_option maxRecDepth 100000 in
theorem dh_c8_1_ok : dh_c8_1.all (dh_cb 8) = true := by decide +kernel
theorem dh_c8_ok : dh_c8.all (dh_cb 8) = true := by
  unfold dh_c8
  simp only [List.all_append, dh_c8_0_ok, dh_c8_1_ok, Bool.and_self]
set_option maxRecDepth 100000 in
theorem dh_c9_ok : dh_c9.all (dh_cb 9) = true := by decide +kernel
set_option maxRecDepth 100000 in
theorem dh_c10_ok : dh_c10.all (dh_cb 10) = true := by decide +kernel
set_option maxRecDepth 100000 in
theorem dh_c11_ok : dh_c11.all (dh_cb 11) = true := by decide +kernel
set_option maxRecDepth 100000 in
theorem dh_c12_ok : dh_c12.all (dh_cb 12) = true := by decide +kernel
set_option maxRecDepth 100000 in
theorem dh_c13_ok : dh_c13.all (dh_cb 13) = true := by decide +kernel
set_option maxRecDepth 100000 in
theorem dh_c14_ok : dh_c14.all (dh_cb 14) = true := by decide +kernel
set_option maxRecDepth 100000 in
theorem dh_c15_ok : dh_c15.all (dh_cb 15) = true := by decide +kernel
set_option maxRecDepth 100000 in
theorem dh_c16_ok : dh_c16.all (dh_cb 16) = true := by decide +kernel
set_option maxRecDepth 100000 in
theorem dh_c17_ok : dh_c17.all (dh_cb 17) = true := by decide +kernel
set_option maxRecDepth 100000 in
theorem dh_c18_ok : dh_c18.all (dh_cb 18) = true := by decide +kernel
set_option maxRecDepth 100000 in
theorem dh_c19_ok : dh_c19.all (dh_cb 19) = true := by decide +kernel
set_option maxRecDepth 100000 in
theorem dh_c20_ok : dh_c20.all (dh_cb 20) = true := by decide +kernel
set_option maxRecDepth 100000 in
theorem dh_c21_ok : dh_c21.all (dh_cb 21) = true := by decide +kernel
set_option maxRecDepth 100000 in
theorem dh_c22_ok : dh_c22.all (dh_cb 22) = true := by decide +kernel
set_option maxRecDepth 100000 in
theorem dh_c23_ok : dh_c23.all (dh_cb 23) = true := by decide +kernel
set_option maxRecDepth 100000 in
theorem dh_c24_ok : dh_c24.all (dh_cb 24) = true := by decide +kernel
set_option maxRecDepth 100000 in
theorem dh_c25_ok : dh_c25.all (dh_cb 25) = true := by decide +kernel
