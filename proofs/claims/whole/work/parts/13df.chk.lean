/-! ===== the tables' checks, a long method ===== -/
set_option maxRecDepth 100000 in
set_option maxHeartbeats 8000000 in
theorem chk_322_8 : chkR 322 1024 128 = true := by decide +kernel
set_option maxRecDepth 100000 in
set_option maxHeartbeats 8000000 in
theorem chk_322_9 : chkR 322 1152 128 = true := by decide +kernel
set_option maxRecDepth 100000 in
set_option maxHeartbeats 8000000 in
theorem chk_322_10 : chkR 322 1280 128 = true := by decide +kernel
set_option maxRecDepth 100000 in
set_option maxHeartbeats 8000000 in
theorem chk_322_11 : chkR 322 1408 128 = true := by decide +kernel
set_option maxRecDepth 100000 in
set_option maxHeartbeats 8000000 in
theorem chk_322_12 : chkR 322 1536 128 = true := by decide +kernel
set_option maxRecDepth 100000 in
set_option maxHeartbeats 8000000 in
theorem chk_322_13 : chkR 322 1664 128 = true := by decide +kernel
set_option maxRecDepth 100000 in
set_option maxHeartbeats 8000000 in
theorem chk_322_14 : chkR 322 1792 128 = true := by decide +kernel
set_option maxRecDepth 100000 in
set_option maxHeartbeats 8000000 in
theorem chk_322_15 : chkR 322 1920 128 = true := by decide +kernel
