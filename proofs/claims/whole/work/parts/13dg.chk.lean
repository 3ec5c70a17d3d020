/-! ===== the tables' checks, a long method ===== -/
set_option maxRecDepth 100000 in
set_option maxHeartbeats 8000000 in
theorem chk_322_16 : chkR 322 2048 128 = true := by sorry
set_option maxRecDepth 100000 in
set_option maxHeartbeats 8000000 in
theorem chk_322_17 : chkR 322 2176 128 = true := by sorry
set_option maxRecDepth 100000 in
set_option maxHeartbeats 8000000 in
theorem chk_322_18 : chkR 322 2304 128 = true := by sorry
set_option maxRecDepth 100000 in
set_option maxHeartbeats 8000000 in
theorem chk_322_19 : chkR 322 2432 128 = true := by sorry
set_option maxRecDepth 100000 in
set_option maxHeartbeats 8000000 in
theorem chk_322_20 : chkR 322 2560 128 = true := by sorry
set_option maxRecDepth 100000 in
set_option maxHeartbeats 8000000 in
theorem chk_322_21 : chkR 322 2688 128 = true := by sorry
set_option maxRecDepth 100000 in
set_option maxHeartbeats 8000000 in
theorem chk_322_22 : chkR 322 2816 128 = true := by sorry
set_option maxRecDepth 100000 in
set_option maxHeartbeats 8000000 in
theorem chk_322_23 : chkR 322 2944 128 = true := by sorry
