theorem chk_322 : chkM 322 = true := by
  refine chk_of (n := 24) ?_ (by decide +kernel)
  intro k hk
  match k, hk with
  | 0, _ => exact chk_322_0
  | 1, _ => exact chk_322_1
  | 2, _ => exact chk_322_2
  | 3, _ => exact chk_322_3
  | 4, _ => exact chk_322_4
  | 5, _ => exact chk_322_5
  | 6, _ => exact chk_322_6
  | 7, _ => exact chk_322_7
  | 8, _ => exact chk_322_8
  | 9, _ => exact chk_322_9
  | 10, _ => exact chk_322_10
  | 11, _ => exact chk_322_11
  | 12, _ => exact chk_322_12
  | 13, _ => exact chk_322_13
  | 14, _ => exact chk_322_14
  | 15, _ => exact chk_322_15
  | 16, _ => exact chk_322_16
  | 17, _ => exact chk_322_17
  | 18, _ => exact chk_322_18
  | 19, _ => exact chk_322_19
  | 20, _ => exact chk_322_20
  | 21, _ => exact chk_322_21
  | 22, _ => exact chk_322_22
  | 23, _ => exact chk_322_23
  | k + 24, h => omega
theorem chkL_4 : ([322] : List Nat).all chkM = true := by
  simp only [List.all_cons, List.all_nil, Bool.and_true, chk_322]
