/-! ===== THE LAW'S CASES (wip/whole/gen_cases.py) ===== -/
abbrev LB (X : MX) (l5 : Int32) : Prop := inb (l5 + 1) X.1 = true ∧ inb (l5 + 2) X.1 = true ∧ inb (l5 + 3) X.1 = true ∧ inb (l5 + 4) X.1 = true ∧ inb (l5 + 5) X.1 = true
section CASES
variable {X : MX} {d : Nat} {x : Int64 × UInt64} {m : MI} {Q : MRes → Prop} {l5 : Int32} {u : Nat × Nat} {i : Nat} {o6 o7 o8 : Option MV}
theorem mt_of {p : Int32} (h : whyMt p = 0) : isMt p := by
  unfold whyMt at h
  split at h
  · next c => exact c
  · omega
theorem okO_push2 {o : OS} {a : AS} (ok : okO (2000 * i) o) (h : okA (2000 * i + 2000) a) : okO (2000 * (i + 1)) (osPush o a) := okO_push ok h
theorem c_in {a : AS} {p : Int32} (h : whyC a p = 0) : posI (aC a) p < (aC a).length := by
  unfold whyC at h
  split at h
  · next c => exact c
  · omega
theorem r_in {a : AS} {p : Int32} (h : whyR a p = 0) : posI (aR a) p < (aR a).length := by
  unfold whyR at h
  split at h
  · next c => exact c
  · omega
theorem ok_out {o : OS} {t : List Nat} (ok : okO (2000 * i) o) (h : t.length ≤ 64 ∧ ∀ c ∈ t, c ≤ 126) : okO (2000 * (i + 1)) (osOut o t) :=
  have k := ok.mono (show 2000 * i ≤ 2000 * (i + 1) by omega)
  ⟨k.1, k.2.1, k.2.2.1, k.2.2.2.1, h, k.2.2.2.2.2⟩
theorem ok_type {o : OS} {p : Int32} (ok : okO (2000 * i) o) (e : whyTy o p = 0) : okO (2000 * (i + 1)) (osType o p) := by
  have k := ok.mono (show 2000 * i ≤ 2000 * (i + 1) by omega)
  unfold whyTy at e
  split at e
  · next c1 =>
    split at e
    · omega
    · next c2 =>
      have c := inR_cl c1
      refine ⟨k.1, k.2.1, k.2.2.1, ⟨?_, fun w hw => ?_⟩, k.2.2.2.2.1, k.2.2.2.2.2⟩
      · have := k.2.2.2.1.1
        show (oB o ++ [clN p]).length ≤ 60
        rw [List.length_append]
        show (oB o).length + 1 ≤ 60
        omega
      · rcases List.mem_append.mp hw with z | z
        · exact k.2.2.2.1.2 w z
        · rw [List.mem_singleton.mp z]; exact c.2
  · omega
theorem ok_save {o : OS} (ok : okO (2000 * i) o) : okO (2000 * (i + 1)) (osSave o) :=
  have k := ok.mono (show 2000 * i ≤ 2000 * (i + 1) by omega)
  ⟨k.1, k.2.1, fun b hb => by cases hb; exact k.1, k.2.2.2⟩
theorem lcs_284 (h : LI i m u) (hi : i ≤ 600) (b : LB X l5)
    (W : ∀ (w6 w7 w8 : Option MV) (m9 : MI) (x9 : Int64 × UInt64) (u9 : Nat × Nat), LI (i + 1) m9 u9 → Wp X (d + 17) 322 (2999, ([some (vs 0 0), some (vp 0 0), some (vp 31 0), some (vp 43 0), some (vp 44 0), some (vi l5), w6, w7, w8], ([], Gu u9 x9 m9))) Q) : Wp X (d + 17) 322 (284, ([some (vs 0 0), some (vp 0 0), some (vp 31 0), some (vp 43 0), some (vp 44 0), some (vi l5), o6, o7, o8], ([], Gu u x m))) Q := by
  obtain ⟨o, h1, h2, ok, hz, hu⟩ := h
  exact vl_law_284 ⟨b.1, b.2.1, b.2.2.1, b.2.2.2.1, gA (fun P => inb (l5 + 1) X.1 = true ∧ inb (l5 + 2) X.1 = true ∧ inb (l5 + 3) X.1 = true ∧ inb (l5 + 4) X.1 = true ∧ P) (fun P hp => ⟨b.1, b.2.1, b.2.2.1, b.2.2.2.1, hp⟩) (CWp_m (fun m x Q hC hz g0 gk => cw_addColour hC ok g0 gk)) (MWp_m (fun m x Q hM hQ => mw_addColour hM ok hQ)) (Nat.le_trans whyAdd_le (by decide)) (ok_if (fun e => okO_push2 ok ((okA_Add ok.1 e).mono (by omega))) (ok.mono (by omega))) h1 h2 hz hu W⟩
theorem lcs_376 (h : LI i m u) (hi : i ≤ 600) (b : LB X l5)
    (W : ∀ (w6 w7 w8 : Option MV) (m9 : MI) (x9 : Int64 × UInt64) (u9 : Nat × Nat), LI (i + 1) m9 u9 → Wp X (d + 17) 322 (2999, ([some (vs 0 0), some (vp 0 0), some (vp 31 0), some (vp 43 0), some (vp 44 0), some (vi l5), w6, w7, w8], ([], Gu u9 x9 m9))) Q) : Wp X (d + 17) 322 (376, ([some (vs 0 0), some (vp 0 0), some (vp 31 0), some (vp 43 0), some (vp 44 0), some (vi l5), o6, o7, o8], ([], Gu u x m))) Q := by
  obtain ⟨o, h1, h2, ok, hz, hu⟩ := h
  exact vl_law_376 ⟨b.1, b.2.1, b.2.2.1, b.2.2.2.1, b.2.2.2.2, gA (fun P => inb (l5 + 1) X.1 = true ∧ inb (l5 + 2) X.1 = true ∧ inb (l5 + 3) X.1 = true ∧ inb (l5 + 4) X.1 = true ∧ inb (l5 + 5) X.1 = true ∧ P) (fun P hp => ⟨b.1, b.2.1, b.2.2.1, b.2.2.2.1, b.2.2.2.2, hp⟩) (CWp_m (fun m x Q hC hz g0 gk => cw_report hC ok g0 gk)) (MWp_m (fun m x Q hM hQ => mw_report hM ok hQ)) (Nat.le_trans whyRep_le (by decide)) (ok_if (fun e => okO_push2 ok ((okA_Rep ok.1 e).mono (by omega))) (ok.mono (by omega))) h1 h2 hz hu W⟩
theorem lcs_480 (h : LI i m u) (hi : i ≤ 600) (b : LB X l5)
    (W : ∀ (w6 w7 w8 : Option MV) (m9 : MI) (x9 : Int64 × UInt64) (u9 : Nat × Nat), LI (i + 1) m9 u9 → Wp X (d + 17) 322 (2999, ([some (vs 0 0), some (vp 0 0), some (vp 31 0), some (vp 43 0), some (vp 44 0), some (vi l5), w6, w7, w8], ([], Gu u9 x9 m9))) Q) : Wp X (d + 17) 322 (480, ([some (vs 0 0), some (vp 0 0), some (vp 31 0), some (vp 43 0), some (vp 44 0), some (vi l5), o6, o7, o8], ([], Gu u x m))) Q := by
  obtain ⟨o, h1, h2, ok, hz, hu⟩ := h
  exact vl_law_480 ⟨b.1, gA (fun P => inb (l5 + 1) X.1 = true ∧ P) (fun P hp => ⟨b.1, hp⟩) (CWp_m (fun m x Q hC hz g0 gk => cw_withdraw hC ok g0 gk)) (MWp_m (fun m x Q hM hQ => mw_withdraw hM ok hQ)) (by unfold whyR; split <;> omega) (ok_if (fun e => okO_push2 ok ((okA_Wd ok.1).mono (by omega))) (ok.mono (by omega))) h1 h2 hz hu W⟩
theorem lcs_536 (h : LI i m u) (hi : i ≤ 600) (b : LB X l5)
    (W : ∀ (w6 w7 w8 : Option MV) (m9 : MI) (x9 : Int64 × UInt64) (u9 : Nat × Nat), LI (i + 1) m9 u9 → Wp X (d + 17) 322 (2999, ([some (vs 0 0), some (vp 0 0), some (vp 31 0), some (vp 43 0), some (vp 44 0), some (vi l5), w6, w7, w8], ([], Gu u9 x9 m9))) Q) : Wp X (d + 17) 322 (536, ([some (vs 0 0), some (vp 0 0), some (vp 31 0), some (vp 43 0), some (vp 44 0), some (vi l5), o6, o7, o8], ([], Gu u x m))) Q := by
  obtain ⟨o, h1, h2, ok, hz, hu⟩ := h
  exact vl_law_536 ⟨b.1, gA (fun P => inb (l5 + 1) X.1 = true ∧ P) (fun P hp => ⟨b.1, hp⟩) (CWp_m (fun m x Q hC hz g0 gk => cw_discard hC ok g0 gk)) (MWp_m (fun m x Q hM hQ => mw_discard hM ok hQ)) (by unfold whyC; split <;> omega) (ok_if (fun e => okO_push2 ok ((okA_Dis ok.1).mono (by omega))) (ok.mono (by omega))) h1 h2 hz hu W⟩
theorem lcs_592 (h : LI i m u) (hi : i ≤ 600) (b : LB X l5)
    (W : ∀ (w6 w7 w8 : Option MV) (m9 : MI) (x9 : Int64 × UInt64) (u9 : Nat × Nat), LI (i + 1) m9 u9 → Wp X (d + 17) 322 (2999, ([some (vs 0 0), some (vp 0 0), some (vp 31 0), some (vp 43 0), some (vp 44 0), some (vi l5), w6, w7, w8], ([], Gu u9 x9 m9))) Q) : Wp X (d + 17) 322 (592, ([some (vs 0 0), some (vp 0 0), some (vp 31 0), some (vp 43 0), some (vp 44 0), some (vi l5), o6, o7, o8], ([], Gu u x m))) Q := by
  obtain ⟨o, h1, h2, ok, hz, hu⟩ := h
  exact vl_law_592 ⟨b.1, gA (fun P => inb (l5 + 1) X.1 = true ∧ P) (fun P hp => ⟨b.1, hp⟩) (CWp_m (fun m x Q hC hz g0 gk => cw_setMetric hC ok g0 gk)) (MWp_m (fun m x Q hM hQ => mw_setMetric hM ok hQ)) (by unfold whyMt; split <;> omega) (ok_if (fun e => okO_push2 ok ((okA_Mt ok.1 (mt_of e)).mono (by omega))) (ok.mono (by omega))) h1 h2 hz hu W⟩
theorem lcs_650 (h : LI i m u) (hi : i ≤ 600) (b : LB X l5)
    (W : ∀ (w6 w7 w8 : Option MV) (m9 : MI) (x9 : Int64 × UInt64) (u9 : Nat × Nat), LI (i + 1) m9 u9 → Wp X (d + 17) 322 (2999, ([some (vs 0 0), some (vp 0 0), some (vp 31 0), some (vp 43 0), some (vp 44 0), some (vi l5), w6, w7, w8], ([], Gu u9 x9 m9))) Q) : Wp X (d + 17) 322 (650, ([some (vs 0 0), some (vp 0 0), some (vp 31 0), some (vp 43 0), some (vp 44 0), some (vi l5), o6, o7, o8], ([], Gu u x m))) Q := by
  obtain ⟨o, h1, h2, ok, hz, hu⟩ := h
  exact vl_law_650 ⟨b.1, b.2.1, gA (fun P => inb (l5 + 1) X.1 = true ∧ inb (l5 + 2) X.1 = true ∧ P) (fun P hp => ⟨b.1, b.2.1, hp⟩) (CWp_m (fun m x Q hC hz g0 gk => cw_giveBack hC ok g0 gk)) (MWp_m (fun m x Q hM hQ => mw_giveBack hM ok hQ)) (Nat.le_trans whyGive_le (by decide)) (ok_if (fun e => okO_push2 ok ((okA_Give ok.1).mono (by omega))) (ok.mono (by omega))) h1 h2 hz hu W⟩
theorem lcs_731 (h : LI i m u) (hi : i ≤ 600) (b : LB X l5)
    (W : ∀ (w6 w7 w8 : Option MV) (m9 : MI) (x9 : Int64 × UInt64) (u9 : Nat × Nat), LI (i + 1) m9 u9 → Wp X (d + 17) 322 (2999, ([some (vs 0 0), some (vp 0 0), some (vp 31 0), some (vp 43 0), some (vp 44 0), some (vi l5), w6, w7, w8], ([], Gu u9 x9 m9))) Q) : Wp X (d + 17) 322 (731, ([some (vs 0 0), some (vp 0 0), some (vp 31 0), some (vp 43 0), some (vp 44 0), some (vi l5), o6, o7, o8], ([], Gu u x m))) Q := by
  obtain ⟨o, h1, h2, ok, hz, hu⟩ := h
  exact vl_law_731 ⟨b.1, b.2.1, gA (fun P => inb (l5 + 1) X.1 = true ∧ inb (l5 + 2) X.1 = true ∧ P) (fun P hp => ⟨b.1, b.2.1, hp⟩) (CWp_m (fun m x Q hC hz g0 gk => cw_mix hC ok g0 gk)) (MWp_m (fun m x Q hM hQ => mw_mix hM ok hQ)) (Nat.le_trans whyMix_le (by decide)) (ok_if (fun e => let z := mix_in ok.1 e; okO_push2 ok ((okA_Mix ok.1 z.1 z.2.1 z.2.2).mono (by omega))) (ok.mono (by omega))) h1 h2 hz hu W⟩
theorem lcs_799 (h : LI i m u) (hi : i ≤ 600) (b : LB X l5)
    (W : ∀ (w6 w7 w8 : Option MV) (m9 : MI) (x9 : Int64 × UInt64) (u9 : Nat × Nat), LI (i + 1) m9 u9 → Wp X (d + 17) 322 (2999, ([some (vs 0 0), some (vp 0 0), some (vp 31 0), some (vp 43 0), some (vp 44 0), some (vi l5), w6, w7, w8], ([], Gu u9 x9 m9))) Q) : Wp X (d + 17) 322 (799, ([some (vs 0 0), some (vp 0 0), some (vp 31 0), some (vp 43 0), some (vp 44 0), some (vi l5), o6, o7, o8], ([], Gu u x m))) Q := by
  obtain ⟨o, h1, h2, ok, hz, hu⟩ := h
  exact vl_law_799 ⟨b.1, gA (fun P => inb (l5 + 1) X.1 = true ∧ P) (fun P hp => ⟨b.1, hp⟩) (CWp_m (fun m x Q hC hz g0 gk => cw_passDays hC ok (by omega) g0 gk)) (MWp_m (fun m x Q hM hQ => mw_passDays hM ok (by omega) hQ)) (Nat.le_trans whyDays_le (by decide)) (ok_if (fun e => have z := (inR_cl (days_in e)).2.2; okO_push2 ok ((okA_days ok.1 _).mono (by omega))) (ok.mono (by omega))) h1 h2 hz hu W⟩
theorem lcs_868 (h : LI i m u) (hi : i ≤ 600) (b : LB X l5)
    (W : ∀ (w6 w7 w8 : Option MV) (m9 : MI) (x9 : Int64 × UInt64) (u9 : Nat × Nat), LI (i + 1) m9 u9 → Wp X (d + 17) 322 (2999, ([some (vs 0 0), some (vp 0 0), some (vp 31 0), some (vp 43 0), some (vp 44 0), some (vi l5), w6, w7, w8], ([], Gu u9 x9 m9))) Q) : Wp X (d + 17) 322 (868, ([some (vs 0 0), some (vp 0 0), some (vp 31 0), some (vp 43 0), some (vp 44 0), some (vi l5), o6, o7, o8], ([], Gu u x m))) Q := by
  obtain ⟨o, h1, h2, ok, hz, hu⟩ := h
  exact vl_law_868 ⟨b.1, gA (fun P => inb (l5 + 1) X.1 = true ∧ P) (fun P hp => ⟨b.1, hp⟩) (CWp_q ok (fun m x Q hC hz hQ => cw_colourAt hC ok hQ)) (MWp_q (fun m x Q hM hQ => mw_colourAt hM ok hQ)) (by unfold whyP; split <;> omega) (ok.mono (by omega)) h1 h2 hz hu W⟩
theorem lcs_924 (h : LI i m u) (hi : i ≤ 600) (b : LB X l5)
    (W : ∀ (w6 w7 w8 : Option MV) (m9 : MI) (x9 : Int64 × UInt64) (u9 : Nat × Nat), LI (i + 1) m9 u9 → Wp X (d + 17) 322 (2999, ([some (vs 0 0), some (vp 0 0), some (vp 31 0), some (vp 43 0), some (vp 44 0), some (vi l5), w6, w7, w8], ([], Gu u9 x9 m9))) Q) : Wp X (d + 17) 322 (924, ([some (vs 0 0), some (vp 0 0), some (vp 31 0), some (vp 43 0), some (vp 44 0), some (vi l5), o6, o7, o8], ([], Gu u x m))) Q := by
  obtain ⟨o, h1, h2, ok, hz, hu⟩ := h
  exact vl_law_924 ⟨b.1, gA (fun P => inb (l5 + 1) X.1 = true ∧ P) (fun P hp => ⟨b.1, hp⟩) (CWp_q ok (fun m x Q hC hz hQ => cw_red hC ok hQ)) (MWp_q (fun m x Q hM hQ => mw_red hM ok hQ)) (by unfold whyC; split <;> omega) (ok.mono (by omega)) h1 h2 hz hu W⟩
theorem lcs_980 (h : LI i m u) (hi : i ≤ 600) (b : LB X l5)
    (W : ∀ (w6 w7 w8 : Option MV) (m9 : MI) (x9 : Int64 × UInt64) (u9 : Nat × Nat), LI (i + 1) m9 u9 → Wp X (d + 17) 322 (2999, ([some (vs 0 0), some (vp 0 0), some (vp 31 0), some (vp 43 0), some (vp 44 0), some (vi l5), w6, w7, w8], ([], Gu u9 x9 m9))) Q) : Wp X (d + 17) 322 (980, ([some (vs 0 0), some (vp 0 0), some (vp 31 0), some (vp 43 0), some (vp 44 0), some (vi l5), o6, o7, o8], ([], Gu u x m))) Q := by
  obtain ⟨o, h1, h2, ok, hz, hu⟩ := h
  exact vl_law_980 ⟨b.1, gA (fun P => inb (l5 + 1) X.1 = true ∧ P) (fun P hp => ⟨b.1, hp⟩) (CWp_q ok (fun m x Q hC hz hQ => cw_green hC ok hQ)) (MWp_q (fun m x Q hM hQ => mw_green hM ok hQ)) (by unfold whyC; split <;> omega) (ok.mono (by omega)) h1 h2 hz hu W⟩
theorem lcs_1036 (h : LI i m u) (hi : i ≤ 600) (b : LB X l5)
    (W : ∀ (w6 w7 w8 : Option MV) (m9 : MI) (x9 : Int64 × UInt64) (u9 : Nat × Nat), LI (i + 1) m9 u9 → Wp X (d + 17) 322 (2999, ([some (vs 0 0), some (vp 0 0), some (vp 31 0), some (vp 43 0), some (vp 44 0), some (vi l5), w6, w7, w8], ([], Gu u9 x9 m9))) Q) : Wp X (d + 17) 322 (1036, ([some (vs 0 0), some (vp 0 0), some (vp 31 0), some (vp 43 0), some (vp 44 0), some (vi l5), o6, o7, o8], ([], Gu u x m))) Q := by
  obtain ⟨o, h1, h2, ok, hz, hu⟩ := h
  exact vl_law_1036 ⟨b.1, gA (fun P => inb (l5 + 1) X.1 = true ∧ P) (fun P hp => ⟨b.1, hp⟩) (CWp_q ok (fun m x Q hC hz hQ => cw_blue hC ok hQ)) (MWp_q (fun m x Q hM hQ => mw_blue hM ok hQ)) (by unfold whyC; split <;> omega) (ok.mono (by omega)) h1 h2 hz hu W⟩
theorem lcs_1092 (h : LI i m u) (hi : i ≤ 600) (b : LB X l5)
    (W : ∀ (w6 w7 w8 : Option MV) (m9 : MI) (x9 : Int64 × UInt64) (u9 : Nat × Nat), LI (i + 1) m9 u9 → Wp X (d + 17) 322 (2999, ([some (vs 0 0), some (vp 0 0), some (vp 31 0), some (vp 43 0), some (vp 44 0), some (vi l5), w6, w7, w8], ([], Gu u9 x9 m9))) Q) : Wp X (d + 17) 322 (1092, ([some (vs 0 0), some (vp 0 0), some (vp 31 0), some (vp 43 0), some (vp 44 0), some (vi l5), o6, o7, o8], ([], Gu u x m))) Q := by
  obtain ⟨o, h1, h2, ok, hz, hu⟩ := h
  exact vl_law_1092 ⟨b.1, gA (fun P => inb (l5 + 1) X.1 = true ∧ P) (fun P hp => ⟨b.1, hp⟩) (CWp_q ok (fun m x Q hC hz hQ => cw_fastness hC ok hQ)) (MWp_q (fun m x Q hM hQ => mw_fastness hM ok hQ)) (by unfold whyC; split <;> omega) (ok.mono (by omega)) h1 h2 hz hu W⟩
theorem lcs_1148 (h : LI i m u) (hi : i ≤ 600) (b : LB X l5)
    (W : ∀ (w6 w7 w8 : Option MV) (m9 : MI) (x9 : Int64 × UInt64) (u9 : Nat × Nat), LI (i + 1) m9 u9 → Wp X (d + 17) 322 (2999, ([some (vs 0 0), some (vp 0 0), some (vp 31 0), some (vp 43 0), some (vp 44 0), some (vi l5), w6, w7, w8], ([], Gu u9 x9 m9))) Q) : Wp X (d + 17) 322 (1148, ([some (vs 0 0), some (vp 0 0), some (vp 31 0), some (vp 43 0), some (vp 44 0), some (vi l5), o6, o7, o8], ([], Gu u x m))) Q := by
  obtain ⟨o, h1, h2, ok, hz, hu⟩ := h
  exact vl_law_1148 ⟨b.1, gA (fun P => inb (l5 + 1) X.1 = true ∧ P) (fun P hp => ⟨b.1, hp⟩) (CWp_q ok (fun m x Q hC hz hQ => cw_age hC ok hQ)) (MWp_q (fun m x Q hM hQ => mw_age hM ok hQ)) (by unfold whyC; split <;> omega) (ok.mono (by omega)) h1 h2 hz hu W⟩
theorem lcs_1204 (h : LI i m u) (hi : i ≤ 600) (b : LB X l5)
    (W : ∀ (w6 w7 w8 : Option MV) (m9 : MI) (x9 : Int64 × UInt64) (u9 : Nat × Nat), LI (i + 1) m9 u9 → Wp X (d + 17) 322 (2999, ([some (vs 0 0), some (vp 0 0), some (vp 31 0), some (vp 43 0), some (vp 44 0), some (vi l5), w6, w7, w8], ([], Gu u9 x9 m9))) Q) : Wp X (d + 17) 322 (1204, ([some (vs 0 0), some (vp 0 0), some (vp 31 0), some (vp 43 0), some (vp 44 0), some (vi l5), o6, o7, o8], ([], Gu u x m))) Q := by
  obtain ⟨o, h1, h2, ok, hz, hu⟩ := h
  exact vl_law_1204 ⟨b.1, gA (fun P => inb (l5 + 1) X.1 = true ∧ P) (fun P hp => ⟨b.1, hp⟩) (CWp_q ok (fun m x Q hC hz hQ => cw_toGrey hC ok (by omega) hQ)) (MWp_q (fun m x Q hM hQ => mw_toGrey hM ok (by omega) hQ)) (by unfold whyC; split <;> omega) (ok.mono (by omega)) h1 h2 hz hu W⟩
theorem lcs_1260 (h : LI i m u) (hi : i ≤ 600) (b : LB X l5)
    (W : ∀ (w6 w7 w8 : Option MV) (m9 : MI) (x9 : Int64 × UInt64) (u9 : Nat × Nat), LI (i + 1) m9 u9 → Wp X (d + 17) 322 (2999, ([some (vs 0 0), some (vp 0 0), some (vp 31 0), some (vp 43 0), some (vp 44 0), some (vi l5), w6, w7, w8], ([], Gu u9 x9 m9))) Q) : Wp X (d + 17) 322 (1260, ([some (vs 0 0), some (vp 0 0), some (vp 31 0), some (vp 43 0), some (vp 44 0), some (vi l5), o6, o7, o8], ([], Gu u x m))) Q := by
  obtain ⟨o, h1, h2, ok, hz, hu⟩ := h
  exact vl_law_1260 ⟨b.1, gA (fun P => inb (l5 + 1) X.1 = true ∧ P) (fun P hp => ⟨b.1, hp⟩) (CWp_q ok (fun m x Q hC hz hQ => cw_colourByBrightness hC ok hQ)) (MWp_q (fun m x Q hM hQ => mw_colourByBrightness hM ok hQ)) (by unfold whyBr; split <;> omega) (ok.mono (by omega)) h1 h2 hz hu W⟩
theorem lcs_1329 (h : LI i m u) (hi : i ≤ 600) (b : LB X l5)
    (W : ∀ (w6 w7 w8 : Option MV) (m9 : MI) (x9 : Int64 × UInt64) (u9 : Nat × Nat), LI (i + 1) m9 u9 → Wp X (d + 17) 322 (2999, ([some (vs 0 0), some (vp 0 0), some (vp 31 0), some (vp 43 0), some (vp 44 0), some (vi l5), w6, w7, w8], ([], Gu u9 x9 m9))) Q) : Wp X (d + 17) 322 (1329, ([some (vs 0 0), some (vp 0 0), some (vp 31 0), some (vp 43 0), some (vp 44 0), some (vi l5), o6, o7, o8], ([], Gu u x m))) Q := by
  obtain ⟨o, h1, h2, ok, hz, hu⟩ := h
  exact vl_law_1329 ⟨b.1, gA (fun P => inb (l5 + 1) X.1 = true ∧ P) (fun P hp => ⟨b.1, hp⟩) (CWp_q ok (fun m x Q hC hz hQ => cw_reportAt hC ok hQ)) (MWp_q (fun m x Q hM hQ => mw_reportAt hM ok hQ)) (by unfold whyP; split <;> omega) (ok.mono (by omega)) h1 h2 hz hu W⟩
theorem lcs_1385 (h : LI i m u) (hi : i ≤ 600) (b : LB X l5)
    (W : ∀ (w6 w7 w8 : Option MV) (m9 : MI) (x9 : Int64 × UInt64) (u9 : Nat × Nat), LI (i + 1) m9 u9 → Wp X (d + 17) 322 (2999, ([some (vs 0 0), some (vp 0 0), some (vp 31 0), some (vp 43 0), some (vp 44 0), some (vi l5), w6, w7, w8], ([], Gu u9 x9 m9))) Q) : Wp X (d + 17) 322 (1385, ([some (vs 0 0), some (vp 0 0), some (vp 31 0), some (vp 43 0), some (vp 44 0), some (vi l5), o6, o7, o8], ([], Gu u x m))) Q := by
  obtain ⟨o, h1, h2, ok, hz, hu⟩ := h
  exact vl_law_1385 ⟨b.1, gA (fun P => inb (l5 + 1) X.1 = true ∧ P) (fun P hp => ⟨b.1, hp⟩) (CWp_q ok (fun m x Q hC hz hQ => cw_toleranceOf hC ok hQ)) (MWp_q (fun m x Q hM hQ => mw_toleranceOf hM ok hQ)) (by unfold whyR; split <;> omega) (ok.mono (by omega)) h1 h2 hz hu W⟩
theorem lcs_1441 (h : LI i m u) (hi : i ≤ 600) (b : LB X l5)
    (W : ∀ (w6 w7 w8 : Option MV) (m9 : MI) (x9 : Int64 × UInt64) (u9 : Nat × Nat), LI (i + 1) m9 u9 → Wp X (d + 17) 322 (2999, ([some (vs 0 0), some (vp 0 0), some (vp 31 0), some (vp 43 0), some (vp 44 0), some (vi l5), w6, w7, w8], ([], Gu u9 x9 m9))) Q) : Wp X (d + 17) 322 (1441, ([some (vs 0 0), some (vp 0 0), some (vp 31 0), some (vp 43 0), some (vp 44 0), some (vi l5), o6, o7, o8], ([], Gu u x m))) Q := by
  obtain ⟨o, h1, h2, ok, hz, hu⟩ := h
  exact vl_law_1441 ⟨b.1, gA (fun P => inb (l5 + 1) X.1 = true ∧ P) (fun P hp => ⟨b.1, hp⟩) (CWp_q ok (fun m x Q hC hz hQ => cw_rewardOf hC ok hQ)) (MWp_q (fun m x Q hM hQ => mw_rewardOf hM ok hQ)) (by unfold whyR; split <;> omega) (ok.mono (by omega)) h1 h2 hz hu W⟩
theorem lcs_1497 (h : LI i m u) (hi : i ≤ 600) (b : LB X l5)
    (W : ∀ (w6 w7 w8 : Option MV) (m9 : MI) (x9 : Int64 × UInt64) (u9 : Nat × Nat), LI (i + 1) m9 u9 → Wp X (d + 17) 322 (2999, ([some (vs 0 0), some (vp 0 0), some (vp 31 0), some (vp 43 0), some (vp 44 0), some (vi l5), w6, w7, w8], ([], Gu u9 x9 m9))) Q) : Wp X (d + 17) 322 (1497, ([some (vs 0 0), some (vp 0 0), some (vp 31 0), some (vp 43 0), some (vp 44 0), some (vi l5), o6, o7, o8], ([], Gu u x m))) Q := by
  obtain ⟨o, h1, h2, ok, hz, hu⟩ := h
  exact vl_law_1497 ⟨b.1, b.2.1, gA (fun P => inb (l5 + 1) X.1 = true ∧ inb (l5 + 2) X.1 = true ∧ P) (fun P hp => ⟨b.1, b.2.1, hp⟩) (CWp_q ok (fun m x Q hC hz hQ => cw_distanceFor hC ok hQ)) (MWp_q (fun m x Q hM hQ => mw_distanceFor hM ok hQ)) (by unfold whyB; split <;> omega) (ok.mono (by omega)) h1 h2 hz hu W⟩
theorem lcs_1640 (h : LI i m u) (hi : i ≤ 600) (b : LB X l5)
    (W : ∀ (w6 w7 w8 : Option MV) (m9 : MI) (x9 : Int64 × UInt64) (u9 : Nat × Nat), LI (i + 1) m9 u9 → Wp X (d + 17) 322 (2999, ([some (vs 0 0), some (vp 0 0), some (vp 31 0), some (vp 43 0), some (vp 44 0), some (vi l5), w6, w7, w8], ([], Gu u9 x9 m9))) Q) : Wp X (d + 17) 322 (1640, ([some (vs 0 0), some (vp 0 0), some (vp 31 0), some (vp 43 0), some (vp 44 0), some (vi l5), o6, o7, o8], ([], Gu u x m))) Q := by
  obtain ⟨o, h1, h2, ok, hz, hu⟩ := h
  exact vl_law_1640 ⟨b.1, gA (fun P => inb (l5 + 1) X.1 = true ∧ P) (fun P hp => ⟨b.1, hp⟩) (CWp_q ok (fun m x Q hC hz hQ => cw_nearestFor hC ok hQ)) (MWp_q (fun m x Q hM hQ => mw_nearestFor hM ok hQ)) (by unfold whyNF; split <;> omega) (ok.mono (by omega)) h1 h2 hz hu W⟩
theorem lcs_1696 (h : LI i m u) (hi : i ≤ 600) (b : LB X l5)
    (W : ∀ (w6 w7 w8 : Option MV) (m9 : MI) (x9 : Int64 × UInt64) (u9 : Nat × Nat), LI (i + 1) m9 u9 → Wp X (d + 17) 322 (2999, ([some (vs 0 0), some (vp 0 0), some (vp 31 0), some (vp 43 0), some (vp 44 0), some (vi l5), w6, w7, w8], ([], Gu u9 x9 m9))) Q) : Wp X (d + 17) 322 (1696, ([some (vs 0 0), some (vp 0 0), some (vp 31 0), some (vp 43 0), some (vp 44 0), some (vi l5), o6, o7, o8], ([], Gu u x m))) Q := by
  obtain ⟨o, h1, h2, ok, hz, hu⟩ := h
  exact vl_law_1696 ⟨b.1, b.2.1, gA (fun P => inb (l5 + 1) X.1 = true ∧ inb (l5 + 2) X.1 = true ∧ P) (fun P hp => ⟨b.1, b.2.1, hp⟩) (CWp_q ok (fun m x Q hC hz hQ => cw_distance hC ok hQ)) (MWp_q (fun m x Q hM hQ => mw_distance hM ok hQ)) (by unfold whyCC; split <;> omega) (ok.mono (by omega)) h1 h2 hz hu W⟩
theorem lcs_1764 (h : LI i m u) (hi : i ≤ 600) (b : LB X l5)
    (W : ∀ (w6 w7 w8 : Option MV) (m9 : MI) (x9 : Int64 × UInt64) (u9 : Nat × Nat), LI (i + 1) m9 u9 → Wp X (d + 17) 322 (2999, ([some (vs 0 0), some (vp 0 0), some (vp 31 0), some (vp 43 0), some (vp 44 0), some (vi l5), w6, w7, w8], ([], Gu u9 x9 m9))) Q) : Wp X (d + 17) 322 (1764, ([some (vs 0 0), some (vp 0 0), some (vp 31 0), some (vp 43 0), some (vp 44 0), some (vi l5), o6, o7, o8], ([], Gu u x m))) Q := by
  obtain ⟨o, h1, h2, ok, hz, hu⟩ := h
  exact vl_law_1764 ⟨b.1, b.2.1, b.2.2.1, gA (fun P => inb (l5 + 1) X.1 = true ∧ inb (l5 + 2) X.1 = true ∧ inb (l5 + 3) X.1 = true ∧ P) (fun P hp => ⟨b.1, b.2.1, b.2.2.1, hp⟩) (CWp_q ok (fun m x Q hC hz hQ => cw_nearest hC ok hQ)) (MWp_q (fun m x Q hM hQ => mw_nearest hM ok hQ)) (by unfold whyNr; split <;> (try split) <;> omega) (ok.mono (by omega)) h1 h2 hz hu W⟩
theorem lcs_1844 (h : LI i m u) (hi : i ≤ 600) (b : LB X l5)
    (W : ∀ (w6 w7 w8 : Option MV) (m9 : MI) (x9 : Int64 × UInt64) (u9 : Nat × Nat), LI (i + 1) m9 u9 → Wp X (d + 17) 322 (2999, ([some (vs 0 0), some (vp 0 0), some (vp 31 0), some (vp 43 0), some (vp 44 0), some (vi l5), w6, w7, w8], ([], Gu u9 x9 m9))) Q) : Wp X (d + 17) 322 (1844, ([some (vs 0 0), some (vp 0 0), some (vp 31 0), some (vp 43 0), some (vp 44 0), some (vi l5), o6, o7, o8], ([], Gu u x m))) Q := by
  obtain ⟨o, h1, h2, ok, hz, hu⟩ := h
  exact vl_law_1844 ⟨b.1, b.2.1, b.2.2.1, gA (fun P => inb (l5 + 1) X.1 = true ∧ inb (l5 + 2) X.1 = true ∧ inb (l5 + 3) X.1 = true ∧ P) (fun P hp => ⟨b.1, b.2.1, b.2.2.1, hp⟩) (CWp_q ok (fun m x Q hC hz hQ => cw_looking hC ok hQ)) (MWp_q (fun m x Q hM hQ => mw_looking hM ok hQ)) (by unfold whyNr; split <;> (try split) <;> omega) (ok.mono (by omega)) h1 h2 hz hu W⟩
theorem lcs_1924 (h : LI i m u) (hi : i ≤ 600) (b : LB X l5)
    (W : ∀ (w6 w7 w8 : Option MV) (m9 : MI) (x9 : Int64 × UInt64) (u9 : Nat × Nat), LI (i + 1) m9 u9 → Wp X (d + 17) 322 (2999, ([some (vs 0 0), some (vp 0 0), some (vp 31 0), some (vp 43 0), some (vp 44 0), some (vi l5), w6, w7, w8], ([], Gu u9 x9 m9))) Q) : Wp X (d + 17) 322 (1924, ([some (vs 0 0), some (vp 0 0), some (vp 31 0), some (vp 43 0), some (vp 44 0), some (vi l5), o6, o7, o8], ([], Gu u x m))) Q := by
  obtain ⟨o, h1, h2, ok, hz, hu⟩ := h
  exact vl_law_1924 (gA (fun P => P) (fun P hp => hp) (CWp_q ok (fun m x Q hC hz hQ => cw_closest hC ok hQ)) (MWp_q (fun m x Q hM hQ => mw_closest hM ok hQ)) (by unfold whyCl; split <;> omega) (ok.mono (by omega)) h1 h2 hz hu W)
theorem lcs_1968 (h : LI i m u) (hi : i ≤ 600) (b : LB X l5)
    (W : ∀ (w6 w7 w8 : Option MV) (m9 : MI) (x9 : Int64 × UInt64) (u9 : Nat × Nat), LI (i + 1) m9 u9 → Wp X (d + 17) 322 (2999, ([some (vs 0 0), some (vp 0 0), some (vp 31 0), some (vp 43 0), some (vp 44 0), some (vi l5), w6, w7, w8], ([], Gu u9 x9 m9))) Q) : Wp X (d + 17) 322 (1968, ([some (vs 0 0), some (vp 0 0), some (vp 31 0), some (vp 43 0), some (vp 44 0), some (vi l5), o6, o7, o8], ([], Gu u x m))) Q := by
  obtain ⟨o, h1, h2, ok, hz, hu⟩ := h
  exact vl_law_1968 (gA (fun P => P) (fun P hp => hp) (CWp_q ok (fun m x Q hC hz hQ => cw_closest2 hC ok hQ)) (MWp_q (fun m x Q hM hQ => mw_closest2 hM ok hQ)) (by unfold whyCl; split <;> omega) (ok.mono (by omega)) h1 h2 hz hu W)
theorem lcs_2051 (h : LI i m u) (hi : i ≤ 600) (b : LB X l5)
    (W : ∀ (w6 w7 w8 : Option MV) (m9 : MI) (x9 : Int64 × UInt64) (u9 : Nat × Nat), LI (i + 1) m9 u9 → Wp X (d + 17) 322 (2999, ([some (vs 0 0), some (vp 0 0), some (vp 31 0), some (vp 43 0), some (vp 44 0), some (vi l5), w6, w7, w8], ([], Gu u9 x9 m9))) Q) : Wp X (d + 17) 322 (2051, ([some (vs 0 0), some (vp 0 0), some (vp 31 0), some (vp 43 0), some (vp 44 0), some (vi l5), o6, o7, o8], ([], Gu u x m))) Q := by
  obtain ⟨o, h1, h2, ok, hz, hu⟩ := h
  exact vl_law_2051 ⟨b.1, gA (fun P => inb (l5 + 1) X.1 = true ∧ P) (fun P hp => ⟨b.1, hp⟩) (CWp_q ok (fun m x Q hC hz hQ => cw_setFor hC ok hz hQ)) (MWp_q (fun m x Q hM hQ => mw_setFor hM ok hQ)) (by unfold whySf; split <;> omega) (ok.mono (by omega)) h1 h2 hz hu W⟩
theorem lcs_2107 (h : LI i m u) (hi : i ≤ 600) (b : LB X l5)
    (W : ∀ (w6 w7 w8 : Option MV) (m9 : MI) (x9 : Int64 × UInt64) (u9 : Nat × Nat), LI (i + 1) m9 u9 → Wp X (d + 17) 322 (2999, ([some (vs 0 0), some (vp 0 0), some (vp 31 0), some (vp 43 0), some (vp 44 0), some (vi l5), w6, w7, w8], ([], Gu u9 x9 m9))) Q) : Wp X (d + 17) 322 (2107, ([some (vs 0 0), some (vp 0 0), some (vp 31 0), some (vp 43 0), some (vp 44 0), some (vi l5), o6, o7, o8], ([], Gu u x m))) Q := by
  obtain ⟨o, h1, h2, ok, hz, hu⟩ := h
  exact vl_law_2107 ⟨b.1, gA (fun P => inb (l5 + 1) X.1 = true ∧ P) (fun P hp => ⟨b.1, hp⟩) (CWp_q ok (fun m x Q hC hz hQ => cw_palErr hC ok hQ)) (MWp_q (fun m x Q hM hQ => mw_palErr hM ok hQ)) (by unfold whyPa; split <;> omega) (ok.mono (by omega)) h1 h2 hz hu W⟩
theorem lcs_2163 (h : LI i m u) (hi : i ≤ 600) (b : LB X l5)
    (W : ∀ (w6 w7 w8 : Option MV) (m9 : MI) (x9 : Int64 × UInt64) (u9 : Nat × Nat), LI (i + 1) m9 u9 → Wp X (d + 17) 322 (2999, ([some (vs 0 0), some (vp 0 0), some (vp 31 0), some (vp 43 0), some (vp 44 0), some (vi l5), w6, w7, w8], ([], Gu u9 x9 m9))) Q) : Wp X (d + 17) 322 (2163, ([some (vs 0 0), some (vp 0 0), some (vp 31 0), some (vp 43 0), some (vp 44 0), some (vi l5), o6, o7, o8], ([], Gu u x m))) Q := by
  obtain ⟨o, h1, h2, ok, hz, hu⟩ := h
  exact vl_law_2163 ⟨b.1, gA (fun P => inb (l5 + 1) X.1 = true ∧ P) (fun P hp => ⟨b.1, hp⟩) (CWp_q ok (fun m x Q hC hz hQ => cw_palErr2 hC ok hQ)) (MWp_q (fun m x Q hM hQ => mw_palErr2 hM ok hQ)) (by unfold whyPa; split <;> omega) (ok.mono (by omega)) h1 h2 hz hu W⟩
theorem lcs_2219 (h : LI i m u) (hi : i ≤ 600) (b : LB X l5)
    (W : ∀ (w6 w7 w8 : Option MV) (m9 : MI) (x9 : Int64 × UInt64) (u9 : Nat × Nat), LI (i + 1) m9 u9 → Wp X (d + 17) 322 (2999, ([some (vs 0 0), some (vp 0 0), some (vp 31 0), some (vp 43 0), some (vp 44 0), some (vi l5), w6, w7, w8], ([], Gu u9 x9 m9))) Q) : Wp X (d + 17) 322 (2219, ([some (vs 0 0), some (vp 0 0), some (vp 31 0), some (vp 43 0), some (vp 44 0), some (vi l5), o6, o7, o8], ([], Gu u x m))) Q := by
  obtain ⟨o, h1, h2, ok, hz, hu⟩ := h
  exact vl_law_2219 ⟨b.1, b.2.1, gA (fun P => inb (l5 + 1) X.1 = true ∧ inb (l5 + 2) X.1 = true ∧ P) (fun P hp => ⟨b.1, b.2.1, hp⟩) (CWp_q ok (fun m x Q hC hz hQ => cw_palCol hC ok hQ)) (MWp_q (fun m x Q hM hQ => mw_palCol hM ok hQ)) (by unfold whyPc; split <;> (try split) <;> omega) (ok.mono (by omega)) h1 h2 hz hu W⟩
theorem lcs_2496 (h : LI i m u) (hi : i ≤ 600) (b : LB X l5)
    (W : ∀ (w6 w7 w8 : Option MV) (m9 : MI) (x9 : Int64 × UInt64) (u9 : Nat × Nat), LI (i + 1) m9 u9 → Wp X (d + 17) 322 (2999, ([some (vs 0 0), some (vp 0 0), some (vp 31 0), some (vp 43 0), some (vp 44 0), some (vi l5), w6, w7, w8], ([], Gu u9 x9 m9))) Q) : Wp X (d + 17) 322 (2496, ([some (vs 0 0), some (vp 0 0), some (vp 31 0), some (vp 43 0), some (vp 44 0), some (vi l5), o6, o7, o8], ([], Gu u x m))) Q := by
  obtain ⟨o, h1, h2, ok, hz, hu⟩ := h
  exact vl_law_2496 ⟨b.1, gA (fun P => inb (l5 + 1) X.1 = true ∧ P) (fun P hp => ⟨b.1, hp⟩) (CWp_m (fun m x Q hC hz g0 gk => cw_renderColour hC ok (by omega) g0 gk)) (MWp_m (fun m x Q hM hQ => mw_renderColour hM ok (by omega) hQ)) (by unfold whyC; split <;> omega) (ok_if (fun e => ok_out ok (by
    have z : posI (aC (oA o)) _ < (aC (oA o)).length := c_in e
    have c := ok.1.c z
    have c1 := c.1
    have c3 := ok.1.1.2.2.1
    have c4 := ok.1.1.2.2.2.2.1
    unfold okC at c1
    exact rendG_ok (by omega) (by omega) (by omega) (by omega) (by omega) (by omega))) (ok.mono (by omega))) h1 h2 hz hu W⟩
theorem lcs_2552 (h : LI i m u) (hi : i ≤ 600) (b : LB X l5)
    (W : ∀ (w6 w7 w8 : Option MV) (m9 : MI) (x9 : Int64 × UInt64) (u9 : Nat × Nat), LI (i + 1) m9 u9 → Wp X (d + 17) 322 (2999, ([some (vs 0 0), some (vp 0 0), some (vp 31 0), some (vp 43 0), some (vp 44 0), some (vi l5), w6, w7, w8], ([], Gu u9 x9 m9))) Q) : Wp X (d + 17) 322 (2552, ([some (vs 0 0), some (vp 0 0), some (vp 31 0), some (vp 43 0), some (vp 44 0), some (vi l5), o6, o7, o8], ([], Gu u x m))) Q := by
  obtain ⟨o, h1, h2, ok, hz, hu⟩ := h
  exact vl_law_2552 ⟨b.1, gA (fun P => inb (l5 + 1) X.1 = true ∧ P) (fun P hp => ⟨b.1, hp⟩) (CWp_m (fun m x Q hC hz g0 gk => cw_renderReport hC ok (by omega) g0 gk)) (MWp_m (fun m x Q hM hQ => mw_renderReport hM ok (by omega) hQ)) (by unfold whyR; split <;> omega) (ok_if (fun e => ok_out ok (by
    have z : posI (aR (oA o)) _ < (aR (oA o)).length := r_in e
    have c1 := ok.1.r z
    have c3 := ok.1.1.2.2.2.1
    unfold okRp at c1
    exact rendR_ok (by omega) (by omega) (by omega) (by omega) (by omega) (by omega))) (ok.mono (by omega))) h1 h2 hz hu W⟩
theorem lcs_2608 (h : LI i m u) (hi : i ≤ 600) (b : LB X l5)
    (W : ∀ (w6 w7 w8 : Option MV) (m9 : MI) (x9 : Int64 × UInt64) (u9 : Nat × Nat), LI (i + 1) m9 u9 → Wp X (d + 17) 322 (2999, ([some (vs 0 0), some (vp 0 0), some (vp 31 0), some (vp 43 0), some (vp 44 0), some (vi l5), w6, w7, w8], ([], Gu u9 x9 m9))) Q) : Wp X (d + 17) 322 (2608, ([some (vs 0 0), some (vp 0 0), some (vp 31 0), some (vp 43 0), some (vp 44 0), some (vi l5), o6, o7, o8], ([], Gu u x m))) Q := by
  obtain ⟨o, h1, h2, ok, hz, hu⟩ := h
  exact vl_law_2608 ⟨b.1, gA (fun P => inb (l5 + 1) X.1 = true ∧ P) (fun P hp => ⟨b.1, hp⟩) (CWp_q ok (fun m x Q hC hz hQ => cw_outputAt hC ok hQ)) (MWp_q (fun m x Q hM hQ => mw_outputAt hM ok hQ)) (by unfold whyP; split <;> omega) (ok.mono (by omega)) h1 h2 hz hu W⟩
theorem lcs_2664 (h : LI i m u) (hi : i ≤ 600) (b : LB X l5)
    (W : ∀ (w6 w7 w8 : Option MV) (m9 : MI) (x9 : Int64 × UInt64) (u9 : Nat × Nat), LI (i + 1) m9 u9 → Wp X (d + 17) 322 (2999, ([some (vs 0 0), some (vp 0 0), some (vp 31 0), some (vp 43 0), some (vp 44 0), some (vi l5), w6, w7, w8], ([], Gu u9 x9 m9))) Q) : Wp X (d + 17) 322 (2664, ([some (vs 0 0), some (vp 0 0), some (vp 31 0), some (vp 43 0), some (vp 44 0), some (vi l5), o6, o7, o8], ([], Gu u x m))) Q := by
  obtain ⟨o, h1, h2, ok, hz, hu⟩ := h
  exact vl_law_2664 ⟨b.1, gA (fun P => inb (l5 + 1) X.1 = true ∧ P) (fun P hp => ⟨b.1, hp⟩) (CWp_m (fun m x Q hC hz g0 gk => cw_type hC ok g0 gk)) (MWp_m (fun m x Q hM hQ => mw_type hM ok hQ)) (by unfold whyTy; split <;> (try split) <;> omega) (ok_if (fun e => ok_type ok e) (ok.mono (by omega))) h1 h2 hz hu W⟩
theorem lcs_2766 (h : LI i m u) (hi : i ≤ 600) (b : LB X l5)
    (W : ∀ (w6 w7 w8 : Option MV) (m9 : MI) (x9 : Int64 × UInt64) (u9 : Nat × Nat), LI (i + 1) m9 u9 → Wp X (d + 17) 322 (2999, ([some (vs 0 0), some (vp 0 0), some (vp 31 0), some (vp 43 0), some (vp 44 0), some (vi l5), w6, w7, w8], ([], Gu u9 x9 m9))) Q) : Wp X (d + 17) 322 (2766, ([some (vs 0 0), some (vp 0 0), some (vp 31 0), some (vp 43 0), some (vp 44 0), some (vi l5), o6, o7, o8], ([], Gu u x m))) Q := by
  obtain ⟨o, h1, h2, ok, hz, hu⟩ := h
  exact vl_law_2766 (gA (fun P => P) (fun P hp => hp) (CWp_q ok (fun m x Q hC hz hQ => cw_errorPosition hC hQ)) (MWp_q (fun m x Q hM hQ => mw_errorPosition hM hQ)) (by unfold whyN; split <;> omega) (ok.mono (by omega)) h1 h2 hz hu W)
theorem lcs_2810 (h : LI i m u) (hi : i ≤ 600) (b : LB X l5)
    (W : ∀ (w6 w7 w8 : Option MV) (m9 : MI) (x9 : Int64 × UInt64) (u9 : Nat × Nat), LI (i + 1) m9 u9 → Wp X (d + 17) 322 (2999, ([some (vs 0 0), some (vp 0 0), some (vp 31 0), some (vp 43 0), some (vp 44 0), some (vi l5), w6, w7, w8], ([], Gu u9 x9 m9))) Q) : Wp X (d + 17) 322 (2810, ([some (vs 0 0), some (vp 0 0), some (vp 31 0), some (vp 43 0), some (vp 44 0), some (vi l5), o6, o7, o8], ([], Gu u x m))) Q := by
  obtain ⟨o, h1, h2, ok, hz, hu⟩ := h
  exact vl_law_2810 (gA (fun P => P) (fun P hp => hp) (CWp_q ok (fun m x Q hC hz hQ => cw_failedCommand hC hQ)) (MWp_q (fun m x Q hM hQ => mw_failedCommand hM hQ)) (by unfold whyN; split <;> omega) (ok.mono (by omega)) h1 h2 hz hu W)
theorem lcs_2854 (h : LI i m u) (hi : i ≤ 600) (b : LB X l5)
    (W : ∀ (w6 w7 w8 : Option MV) (m9 : MI) (x9 : Int64 × UInt64) (u9 : Nat × Nat), LI (i + 1) m9 u9 → Wp X (d + 17) 322 (2999, ([some (vs 0 0), some (vp 0 0), some (vp 31 0), some (vp 43 0), some (vp 44 0), some (vi l5), w6, w7, w8], ([], Gu u9 x9 m9))) Q) : Wp X (d + 17) 322 (2854, ([some (vs 0 0), some (vp 0 0), some (vp 31 0), some (vp 43 0), some (vp 44 0), some (vi l5), o6, o7, o8], ([], Gu u x m))) Q := by
  obtain ⟨o, h1, h2, ok, hz, hu⟩ := h
  exact vl_law_2854 (gA (fun P => P) (fun P hp => hp) (CWp_q ok (fun m x Q hC hz hQ => cw_failureKind hC ok hQ)) (MWp_q (fun m x Q hM hQ => mw_failureKind hM ok hQ)) (by unfold whyN; split <;> omega) (ok.mono (by omega)) h1 h2 hz hu W)
theorem lcs_855 (h : LI i m u) (hi : i ≤ 600) (b : LB X l5)
    (W : ∀ (w6 w7 w8 : Option MV) (m9 : MI) (x9 : Int64 × UInt64) (u9 : Nat × Nat), LI (i + 1) m9 u9 → Wp X (d + 17) 322 (2999, ([some (vs 0 0), some (vp 0 0), some (vp 31 0), some (vp 43 0), some (vp 44 0), some (vi l5), w6, w7, w8], ([], Gu u9 x9 m9))) Q) : Wp X (d + 17) 322 (855, ([some (vs 0 0), some (vp 0 0), some (vp 31 0), some (vp 43 0), some (vp 44 0), some (vi l5), o6, o7, o8], ([], Gu u x m))) Q := by
  obtain ⟨o, h1, h2, ok, hz, hu⟩ := h
  exact vl_law_855 (gB (o9 := o) (fun Q9 hQ => cw_colourCount h1 (fun m9 F9 => hQ m9 (F9.cr h1 ok).1 (F9.cr h1 ok).2)) (fun m2 Q9 hM hQ => mw_colourCount hM hQ) (ok.mono (by omega)) h2 hz hu W)
theorem lcs_1316 (h : LI i m u) (hi : i ≤ 600) (b : LB X l5)
    (W : ∀ (w6 w7 w8 : Option MV) (m9 : MI) (x9 : Int64 × UInt64) (u9 : Nat × Nat), LI (i + 1) m9 u9 → Wp X (d + 17) 322 (2999, ([some (vs 0 0), some (vp 0 0), some (vp 31 0), some (vp 43 0), some (vp 44 0), some (vi l5), w6, w7, w8], ([], Gu u9 x9 m9))) Q) : Wp X (d + 17) 322 (1316, ([some (vs 0 0), some (vp 0 0), some (vp 31 0), some (vp 43 0), some (vp 44 0), some (vi l5), o6, o7, o8], ([], Gu u x m))) Q := by
  obtain ⟨o, h1, h2, ok, hz, hu⟩ := h
  exact vl_law_1316 (gB (o9 := o) (fun Q9 hQ => cw_reportCount h1 (fun m9 F9 => hQ m9 (F9.cr h1 ok).1 (F9.cr h1 ok).2)) (fun m2 Q9 hM hQ => mw_reportCount hM hQ) (ok.mono (by omega)) h2 hz hu W)
theorem lcs_2012 (h : LI i m u) (hi : i ≤ 600) (b : LB X l5)
    (W : ∀ (w6 w7 w8 : Option MV) (m9 : MI) (x9 : Int64 × UInt64) (u9 : Nat × Nat), LI (i + 1) m9 u9 → Wp X (d + 17) 322 (2999, ([some (vs 0 0), some (vp 0 0), some (vp 31 0), some (vp 43 0), some (vp 44 0), some (vi l5), w6, w7, w8], ([], Gu u9 x9 m9))) Q) : Wp X (d + 17) 322 (2012, ([some (vs 0 0), some (vp 0 0), some (vp 31 0), some (vp 43 0), some (vp 44 0), some (vi l5), o6, o7, o8], ([], Gu u x m))) Q := by
  obtain ⟨o, h1, h2, ok, hz, hu⟩ := h
  exact vl_law_2012 (gB (o9 := o) (fun Q9 hQ => cw_bestReward h1 ok hz (fun m9 F9 => hQ m9 (F9.cr h1 ok).1 (F9.cr h1 ok).2)) (fun m2 Q9 hM hQ => mw_bestReward hM ok hQ) (ok.mono (by omega)) h2 hz hu W)
theorem lcs_2025 (h : LI i m u) (hi : i ≤ 600) (b : LB X l5)
    (W : ∀ (w6 w7 w8 : Option MV) (m9 : MI) (x9 : Int64 × UInt64) (u9 : Nat × Nat), LI (i + 1) m9 u9 → Wp X (d + 17) 322 (2999, ([some (vs 0 0), some (vp 0 0), some (vp 31 0), some (vp 43 0), some (vp 44 0), some (vi l5), w6, w7, w8], ([], Gu u9 x9 m9))) Q) : Wp X (d + 17) 322 (2025, ([some (vs 0 0), some (vp 0 0), some (vp 31 0), some (vp 43 0), some (vp 44 0), some (vi l5), o6, o7, o8], ([], Gu u x m))) Q := by
  obtain ⟨o, h1, h2, ok, hz, hu⟩ := h
  exact vl_law_2025 (gB (o9 := o) (fun Q9 hQ => cw_bestReward2 h1 ok (fun m9 F9 => hQ m9 (F9.cr h1 ok).1 (F9.cr h1 ok).2)) (fun m2 Q9 hM hQ => mw_bestReward2 hM ok hQ) (ok.mono (by omega)) h2 hz hu W)
theorem lcs_2038 (h : LI i m u) (hi : i ≤ 600) (b : LB X l5)
    (W : ∀ (w6 w7 w8 : Option MV) (m9 : MI) (x9 : Int64 × UInt64) (u9 : Nat × Nat), LI (i + 1) m9 u9 → Wp X (d + 17) 322 (2999, ([some (vs 0 0), some (vp 0 0), some (vp 31 0), some (vp 43 0), some (vp 44 0), some (vi l5), w6, w7, w8], ([], Gu u9 x9 m9))) Q) : Wp X (d + 17) 322 (2038, ([some (vs 0 0), some (vp 0 0), some (vp 31 0), some (vp 43 0), some (vp 44 0), some (vi l5), o6, o7, o8], ([], Gu u x m))) Q := by
  obtain ⟨o, h1, h2, ok, hz, hu⟩ := h
  exact vl_law_2038 (gB (o9 := o) (fun Q9 hQ => cw_bestDiff h1 ok hz (fun m9 F9 => hQ m9 (F9.cr h1 ok).1 (F9.cr h1 ok).2)) (fun m2 Q9 hM hQ => mw_bestDiff hM ok hQ) (ok.mono (by omega)) h2 hz hu W)
theorem lcs_2287 (h : LI i m u) (hi : i ≤ 600) (b : LB X l5)
    (W : ∀ (w6 w7 w8 : Option MV) (m9 : MI) (x9 : Int64 × UInt64) (u9 : Nat × Nat), LI (i + 1) m9 u9 → Wp X (d + 17) 322 (2999, ([some (vs 0 0), some (vp 0 0), some (vp 31 0), some (vp 43 0), some (vp 44 0), some (vi l5), w6, w7, w8], ([], Gu u9 x9 m9))) Q) : Wp X (d + 17) 322 (2287, ([some (vs 0 0), some (vp 0 0), some (vp 31 0), some (vp 43 0), some (vp 44 0), some (vi l5), o6, o7, o8], ([], Gu u x m))) Q := by
  obtain ⟨o, h1, h2, ok, hz, hu⟩ := h
  exact vl_law_2287 (gB (o9 := o) (fun Q9 hQ => cw_day h1 (fun m9 F9 => hQ m9 (F9.cr h1 ok).1 (F9.cr h1 ok).2)) (fun m2 Q9 hM hQ => mw_day hM hQ) (ok.mono (by omega)) h2 hz hu W)
theorem lcs_2300 (h : LI i m u) (hi : i ≤ 600) (b : LB X l5)
    (W : ∀ (w6 w7 w8 : Option MV) (m9 : MI) (x9 : Int64 × UInt64) (u9 : Nat × Nat), LI (i + 1) m9 u9 → Wp X (d + 17) 322 (2999, ([some (vs 0 0), some (vp 0 0), some (vp 31 0), some (vp 43 0), some (vp 44 0), some (vi l5), w6, w7, w8], ([], Gu u9 x9 m9))) Q) : Wp X (d + 17) 322 (2300, ([some (vs 0 0), some (vp 0 0), some (vp 31 0), some (vp 43 0), some (vp 44 0), some (vi l5), o6, o7, o8], ([], Gu u x m))) Q := by
  obtain ⟨o, h1, h2, ok, hz, hu⟩ := h
  exact vl_law_2300 (gB (o9 := o) (fun Q9 hQ => cw_metric h1 ok (fun m9 F9 => hQ m9 (F9.cr h1 ok).1 (F9.cr h1 ok).2)) (fun m2 Q9 hM hQ => mw_metric hM ok hQ) (ok.mono (by omega)) h2 hz hu W)
theorem lcs_2313 (h : LI i m u) (hi : i ≤ 600) (b : LB X l5)
    (W : ∀ (w6 w7 w8 : Option MV) (m9 : MI) (x9 : Int64 × UInt64) (u9 : Nat × Nat), LI (i + 1) m9 u9 → Wp X (d + 17) 322 (2999, ([some (vs 0 0), some (vp 0 0), some (vp 31 0), some (vp 43 0), some (vp 44 0), some (vi l5), w6, w7, w8], ([], Gu u9 x9 m9))) Q) : Wp X (d + 17) 322 (2313, ([some (vs 0 0), some (vp 0 0), some (vp 31 0), some (vp 43 0), some (vp 44 0), some (vi l5), o6, o7, o8], ([], Gu u x m))) Q := by
  obtain ⟨o, h1, h2, ok, hz, hu⟩ := h
  exact vl_law_2313 (gB (o9 := o) (fun Q9 hQ => cw_coins h1 (fun m9 F9 => hQ m9 (F9.cr h1 ok).1 (F9.cr h1 ok).2)) (fun m2 Q9 hM hQ => mw_coins hM hQ) (ok.mono (by omega)) h2 hz hu W)
theorem lcs_2326 (h : LI i m u) (hi : i ≤ 600) (b : LB X l5)
    (W : ∀ (w6 w7 w8 : Option MV) (m9 : MI) (x9 : Int64 × UInt64) (u9 : Nat × Nat), LI (i + 1) m9 u9 → Wp X (d + 17) 322 (2999, ([some (vs 0 0), some (vp 0 0), some (vp 31 0), some (vp 43 0), some (vp 44 0), some (vi l5), w6, w7, w8], ([], Gu u9 x9 m9))) Q) : Wp X (d + 17) 322 (2326, ([some (vs 0 0), some (vp 0 0), some (vp 31 0), some (vp 43 0), some (vp 44 0), some (vi l5), o6, o7, o8], ([], Gu u x m))) Q := by
  obtain ⟨o, h1, h2, ok, hz, hu⟩ := h
  exact vl_law_2326 (gB (o9 := o) (fun Q9 hQ => cw_coinsByAccounts h1 (fun m9 F9 => hQ m9 (F9.cr h1 ok).1 (F9.cr h1 ok).2)) (fun m2 Q9 hM hQ => mw_coinsByAccounts hM hQ) (ok.mono (by omega)) h2 hz hu W)
theorem lcs_2339 (h : LI i m u) (hi : i ≤ 600) (b : LB X l5)
    (W : ∀ (w6 w7 w8 : Option MV) (m9 : MI) (x9 : Int64 × UInt64) (u9 : Nat × Nat), LI (i + 1) m9 u9 → Wp X (d + 17) 322 (2999, ([some (vs 0 0), some (vp 0 0), some (vp 31 0), some (vp 43 0), some (vp 44 0), some (vi l5), w6, w7, w8], ([], Gu u9 x9 m9))) Q) : Wp X (d + 17) 322 (2339, ([some (vs 0 0), some (vp 0 0), some (vp 31 0), some (vp 43 0), some (vp 44 0), some (vi l5), o6, o7, o8], ([], Gu u x m))) Q := by
  obtain ⟨o, h1, h2, ok, hz, hu⟩ := h
  exact vl_law_2339 (gB (o9 := o) (fun Q9 hQ => cw_returnedTotal h1 (fun m9 F9 => hQ m9 (F9.cr h1 ok).1 (F9.cr h1 ok).2)) (fun m2 Q9 hM hQ => mw_returnedTotal hM hQ) (ok.mono (by omega)) h2 hz hu W)
theorem lcs_2483 (h : LI i m u) (hi : i ≤ 600) (b : LB X l5)
    (W : ∀ (w6 w7 w8 : Option MV) (m9 : MI) (x9 : Int64 × UInt64) (u9 : Nat × Nat), LI (i + 1) m9 u9 → Wp X (d + 17) 322 (2999, ([some (vs 0 0), some (vp 0 0), some (vp 31 0), some (vp 43 0), some (vp 44 0), some (vi l5), w6, w7, w8], ([], Gu u9 x9 m9))) Q) : Wp X (d + 17) 322 (2483, ([some (vs 0 0), some (vp 0 0), some (vp 31 0), some (vp 43 0), some (vp 44 0), some (vi l5), o6, o7, o8], ([], Gu u x m))) Q := by
  obtain ⟨o, h1, h2, ok, hz, hu⟩ := h
  exact vl_law_2483 (gB (o9 := o) (fun Q9 hQ => cw_consistent h1 ok hz (fun m9 F9 => hQ m9 (F9.cr h1 ok).1 (F9.cr h1 ok).2)) (fun m2 Q9 hM hQ => mw_consistent hM hQ) (ok.mono (by omega)) h2 hz hu W)
theorem lcs_718 (h : LI i m u) (hi : i ≤ 600) (b : LB X l5)
    (W : ∀ (w6 w7 w8 : Option MV) (m9 : MI) (x9 : Int64 × UInt64) (u9 : Nat × Nat), LI (i + 1) m9 u9 → Wp X (d + 17) 322 (2999, ([some (vs 0 0), some (vp 0 0), some (vp 31 0), some (vp 43 0), some (vp 44 0), some (vi l5), w6, w7, w8], ([], Gu u9 x9 m9))) Q) : Wp X (d + 17) 322 (718, ([some (vs 0 0), some (vp 0 0), some (vp 31 0), some (vp 43 0), some (vp 44 0), some (vi l5), o6, o7, o8], ([], Gu u x m))) Q := by
  obtain ⟨o, h1, h2, ok, hz, hu⟩ := h
  exact vl_law_718 (gB (o9 := osPush o (asSet (oA o))) (fun Q9 hQ => cw_settle h1 ok hz hQ) (fun m2 Q9 hM hQ => mw_settle hM ok (by omega) hQ) (okO_push2 ok ((okA_rmv ok.1 _ _ _ _).mono (by omega))) h2 hz hu W)
theorem lcs_2942 (h : LI i m u) (hi : i ≤ 600) (b : LB X l5)
    (W : ∀ (w6 w7 w8 : Option MV) (m9 : MI) (x9 : Int64 × UInt64) (u9 : Nat × Nat), LI (i + 1) m9 u9 → Wp X (d + 17) 322 (2999, ([some (vs 0 0), some (vp 0 0), some (vp 31 0), some (vp 43 0), some (vp 44 0), some (vi l5), w6, w7, w8], ([], Gu u9 x9 m9))) Q) : Wp X (d + 17) 322 (2942, ([some (vs 0 0), some (vp 0 0), some (vp 31 0), some (vp 43 0), some (vp 44 0), some (vi l5), o6, o7, o8], ([], Gu u x m))) Q := by
  obtain ⟨o, h1, h2, ok, hz, hu⟩ := h
  exact vl_law_2942 (gB (o9 := osSave o) (fun Q9 hQ => cw_save h1 ok hQ) (fun m2 Q9 hM hQ => mw_save hM ok hQ) (ok_save ok) h2 hz hu W)
end CASES
