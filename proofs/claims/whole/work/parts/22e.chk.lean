/-! ===== the tables' checks, a theorem a method (wip/whole/gen_chk.py) ===== -/
set_option maxRecDepth 100000 in
set_option maxHeartbeats 8000000 in
theorem chk_322 : chkM 322 = true := by decide +kernel
set_option maxRecDepth 100000 in
set_option maxHeartbeats 8000000 in
theorem chk_323 : chkM 323 = true := by decide +kernel
set_option maxRecDepth 100000 in
set_option maxHeartbeats 8000000 in
theorem chk_324 : chkM 324 = true := by decide +kernel
set_option maxRecDepth 100000 in
set_option maxHeartbeats 8000000 in
theorem chk_325 : chkM 325 = true := by decide +kernel
set_option maxRecDepth 100000 in
set_option maxHeartbeats 8000000 in
theorem chk_326 : chkM 326 = true := by decide +kernel
set_option maxRecDepth 100000 in
set_option maxHeartbeats 8000000 in
theorem chk_327 : chkM 327 = true := by decide +kernel
set_option maxRecDepth 100000 in
set_option maxHeartbeats 8000000 in
theorem chk_328 : chkM 328 = true := by decide +kernel
set_option maxRecDepth 100000 in
set_option maxHeartbeats 8000000 in
theorem chk_329 : chkM 329 = true := by decide +kernel
set_option maxRecDepth 100000 in
set_option maxHeartbeats 8000000 in
theorem chk_330 : chkM 330 = true := by decide +kernel
set_option maxRecDepth 100000 in
set_option maxHeartbeats 8000000 in
theorem chk_331 : chkM 331 = true := by decide +kernel
theorem chkL_4 : ([322, 323, 324, 325, 326, 327, 328, 329, 330, 331] : List Nat).all chkM = true := by
  simp only [List.all_cons, List.all_nil, Bool.and_true, Bool.true_and, chk_322, chk_323, chk_324, chk_325, chk_326, chk_327, chk_328, chk_329, chk_330, chk_331]
