/-! ===== SCRIPTS: ONE COMMAND CARRIED OUT (wip/whole/gen_cmd.py) ===== -/
theorem cE_1 {n u v : Nat} (h : n = 1) : cE n u v = u := by rw [h]; rfl
theorem cE_2 {n u v : Nat} (h : n = 2) : cE n u v = v := by rw [h]; rfl
theorem cE_z {n u v : Nat} (h : n = 0) : cE n u v = 0 := by rw [h]; rfl
section CCMD
variable {X : MX} {d : Nat} {x : Int64 × UInt64} {m : MI} {Q : MRes → Prop} {a : AS} {B : Nat}
theorem sp_ccmd0 {as : List Nat} {i : Nat} (hc : cOk (0, as)) (ha : ∀ j, j < as.length → m 27 i j = nI (as.getD j 0)) (h : relS m 0 a) (ho : okA B a) (hB : B < 2 ^ 29) (hz : ∀ s, m 18 0 s = 0) (h11 : m 0 0 11 = 1)
    (h1 : ∀ v, v ≠ 0 → cBad (0, as) a = v → Q (.inl (some (vi (nI v))), Gu (1, 6) x m)) (h0 : cBad (0, as) a = 0 → ∀ m9, relS m9 0 (cDo (0, as) a) → Fr (tO true) m m9 → Q (.inl (some (vi 45)), G x m9)) : Cl X (d + 5) 65 [vp 0 0, vs 2 0, vp 27 i] (G x m) Q := by
  have hn : as.length = 4 := hc.2.1
  have hH : HyP true m [] := ⟨h11, fun c => Bool.noConfusion c⟩
  refine vc_X10_failureOf (vc_Jx29ce0_ordinal_8abf5 ⟨_, _, rfl, by decide, fun _ => ?_, fun c => absurd c (by decide), fun c => absurd c (by decide), fun c => absurd c (by decide), fun c => absurd c (by decide), fun c => absurd c (by decide), fun c => absurd c (by decide), fun c => absurd c (by decide), fun c => absurd c (by decide), fun c => absurd c (by decide), fun c => absurd (by decide) c.1⟩)
  rw [ha 0 (by omega), ha 1 (by omega), ha 2 (by omega), ha 3 (by omega)]
  exact sp_addColour h ho.len hH (fun b hb => absurd hb List.not_mem_nil) (fun c => Or.inr ⟨_, _, _, rfl, fun _ => h1 97 (by decide) (cE_1 c), fun c9 => absurd c9 (by decide), fun c9 => absurd c9 (by decide), fun c9 => absurd c9 (by decide), fun c9 => absurd rfl c9.1⟩) (fun c => Or.inr ⟨_, _, _, rfl, fun c9 => absurd c9 (by decide), fun _ => h1 115 (by decide) (cE_2 c), fun c9 => absurd c9 (by decide), fun c9 => absurd c9 (by decide), fun c9 => absurd rfl c9.2.1⟩) (fun c m9 hS hH hF => Or.inl ⟨_, _, rfl, h0 (cE_z c) m9 hS hF⟩)
theorem sp_ccmd1 {as : List Nat} {i : Nat} (hc : cOk (1, as)) (ha : ∀ j, j < as.length → m 27 i j = nI (as.getD j 0)) (h : relS m 0 a) (ho : okA B a) (hB : B < 2 ^ 29) (hz : ∀ s, m 18 0 s = 0) (h11 : m 0 0 11 = 1)
    (h1 : ∀ v, v ≠ 0 → cBad (1, as) a = v → Q (.inl (some (vi (nI v))), Gu (1, 6) x m)) (h0 : cBad (1, as) a = 0 → ∀ m9, relS m9 0 (cDo (1, as) a) → Fr (tO true) m m9 → Q (.inl (some (vi 45)), G x m9)) : Cl X (d + 5) 65 [vp 0 0, vs 2 1, vp 27 i] (G x m) Q := by
  have hn : as.length = 5 := hc.2.1
  have hH : HyP true m [] := ⟨h11, fun c => Bool.noConfusion c⟩
  refine vc_X10_failureOf (vc_Jx29ce0_ordinal_8abf5 ⟨_, _, rfl, by decide, fun c => absurd c (by decide), fun _ => ?_, fun c => absurd c (by decide), fun c => absurd c (by decide), fun c => absurd c (by decide), fun c => absurd c (by decide), fun c => absurd c (by decide), fun c => absurd c (by decide), fun c => absurd c (by decide), fun c => absurd c (by decide), fun c => absurd (by decide) c.2.1⟩)
  rw [ha 0 (by omega), ha 1 (by omega), ha 2 (by omega), ha 3 (by omega), ha 4 (by omega)]
  exact sp_report h ho.len hH (fun b hb => absurd hb List.not_mem_nil) (fun c => Or.inr ⟨_, _, _, rfl, fun _ => h1 97 (by decide) (cE_1 c), fun c9 => absurd c9 (by decide), fun c9 => absurd c9 (by decide), fun c9 => absurd c9 (by decide), fun c9 => absurd rfl c9.1⟩) (fun c => Or.inr ⟨_, _, _, rfl, fun c9 => absurd c9 (by decide), fun _ => h1 115 (by decide) (cE_2 c), fun c9 => absurd c9 (by decide), fun c9 => absurd c9 (by decide), fun c9 => absurd rfl c9.2.1⟩) (fun c m9 hS hH hF => Or.inl ⟨_, _, rfl, h0 (cE_z c) m9 hS hF⟩)
theorem sp_ccmd2 {as : List Nat} {i : Nat} (hc : cOk (2, as)) (ha : ∀ j, j < as.length → m 27 i j = nI (as.getD j 0)) (h : relS m 0 a) (ho : okA B a) (hB : B < 2 ^ 29) (hz : ∀ s, m 18 0 s = 0) (h11 : m 0 0 11 = 1)
    (h1 : ∀ v, v ≠ 0 → cBad (2, as) a = v → Q (.inl (some (vi (nI v))), Gu (1, 6) x m)) (h0 : cBad (2, as) a = 0 → ∀ m9, relS m9 0 (cDo (2, as) a) → Fr (tO true) m m9 → Q (.inl (some (vi 45)), G x m9)) : Cl X (d + 5) 65 [vp 0 0, vs 2 2, vp 27 i] (G x m) Q := by
  have hn : as.length = 1 := hc.2.1
  have hH : HyP true m [] := ⟨h11, fun c => Bool.noConfusion c⟩
  refine vc_X10_failureOf (vc_Jx29ce0_ordinal_8abf5 ⟨_, _, rfl, by decide, fun c => absurd c (by decide), fun c => absurd c (by decide), fun _ => ?_, fun c => absurd c (by decide), fun c => absurd c (by decide), fun c => absurd c (by decide), fun c => absurd c (by decide), fun c => absurd c (by decide), fun c => absurd c (by decide), fun c => absurd c (by decide), fun c => absurd (by decide) c.2.2.1⟩)
  rw [ha 0 (by omega)]
  exact sp_withdraw h ho.len hH (fun b hb => absurd hb List.not_mem_nil) (fun c => Or.inr ⟨_, _, _, rfl, fun c9 => absurd c9 (by decide), fun c9 => absurd c9 (by decide), fun _ => h1 101 (by decide) (if_neg (by show ¬ posI (aR a) (nI (as.getD 0 0)) < _; omega)), fun c9 => absurd c9 (by decide), fun c9 => absurd rfl c9.2.2.1⟩) (fun c m9 hS hH hF => Or.inl ⟨_, _, rfl, h0 (if_pos c) m9 hS hF⟩)
theorem sp_ccmd3 {as : List Nat} {i : Nat} (hc : cOk (3, as)) (ha : ∀ j, j < as.length → m 27 i j = nI (as.getD j 0)) (h : relS m 0 a) (ho : okA B a) (hB : B < 2 ^ 29) (hz : ∀ s, m 18 0 s = 0) (h11 : m 0 0 11 = 1)
    (h1 : ∀ v, v ≠ 0 → cBad (3, as) a = v → Q (.inl (some (vi (nI v))), Gu (1, 6) x m)) (h0 : cBad (3, as) a = 0 → ∀ m9, relS m9 0 (cDo (3, as) a) → Fr (tO true) m m9 → Q (.inl (some (vi 45)), G x m9)) : Cl X (d + 5) 65 [vp 0 0, vs 2 3, vp 27 i] (G x m) Q := by
  have hn : as.length = 1 := hc.2.1
  have hH : HyP true m [] := ⟨h11, fun c => Bool.noConfusion c⟩
  refine vc_X10_failureOf (vc_Jx29ce0_ordinal_8abf5 ⟨_, _, rfl, by decide, fun c => absurd c (by decide), fun c => absurd c (by decide), fun c => absurd c (by decide), fun _ => ?_, fun c => absurd c (by decide), fun c => absurd c (by decide), fun c => absurd c (by decide), fun c => absurd c (by decide), fun c => absurd c (by decide), fun c => absurd c (by decide), fun c => absurd (by decide) c.2.2.2.1⟩)
  rw [ha 0 (by omega)]
  exact sp_discard h ho.len hH (fun b hb => absurd hb List.not_mem_nil) (fun c => Or.inr ⟨_, _, _, rfl, fun c9 => absurd c9 (by decide), fun c9 => absurd c9 (by decide), fun _ => h1 101 (by decide) (if_neg (by show ¬ posI (aC a) (nI (as.getD 0 0)) < _; omega)), fun c9 => absurd c9 (by decide), fun c9 => absurd rfl c9.2.2.1⟩) (fun c m9 hS hH hF => Or.inl ⟨_, _, rfl, h0 (if_pos c) m9 hS hF⟩)
theorem sp_ccmd4 {as : List Nat} {i : Nat} (hc : cOk (4, as)) (ha : ∀ j, j < as.length → m 27 i j = nI (as.getD j 0)) (h : relS m 0 a) (ho : okA B a) (hB : B < 2 ^ 29) (hz : ∀ s, m 18 0 s = 0) (h11 : m 0 0 11 = 1)
    (h1 : ∀ v, v ≠ 0 → cBad (4, as) a = v → Q (.inl (some (vi (nI v))), Gu (1, 6) x m)) (h0 : cBad (4, as) a = 0 → ∀ m9, relS m9 0 (cDo (4, as) a) → Fr (tO true) m m9 → Q (.inl (some (vi 45)), G x m9)) : Cl X (d + 5) 65 [vp 0 0, vs 2 4, vp 27 i] (G x m) Q := by
  have hn : as.length = 1 := hc.2.1
  have hH : HyP true m [] := ⟨h11, fun c => Bool.noConfusion c⟩
  refine vc_X10_failureOf (vc_Jx29ce0_ordinal_8abf5 ⟨_, _, rfl, by decide, fun c => absurd c (by decide), fun c => absurd c (by decide), fun c => absurd c (by decide), fun c => absurd c (by decide), fun _ => ?_, fun c => absurd c (by decide), fun c => absurd c (by decide), fun c => absurd c (by decide), fun c => absurd c (by decide), fun c => absurd c (by decide), fun c => absurd (by decide) c.2.2.2.2.1⟩)
  rw [ha 0 (by omega)]
  have ec : ((nI (as.getD 0 0)).toUInt32 % 65536).toInt32 = nI (as.getD 0 0) := by
    rcases hc.2.2 rfl with z | z | z <;> (have z : nI (as.getD 0 0) = _ := z; rw [z]; rfl)
  rw [ec]
  exact sp_setMetric h ho.len hH (fun b hb => absurd hb List.not_mem_nil) (fun c => absurd (hc.2.2 rfl) c) (fun c m9 hS hH hF => Or.inl ⟨_, _, rfl, h0 rfl m9 hS hF⟩)
theorem sp_ccmd5 {as : List Nat} {i : Nat} (hc : cOk (5, as)) (ha : ∀ j, j < as.length → m 27 i j = nI (as.getD j 0)) (h : relS m 0 a) (ho : okA B a) (hB : B < 2 ^ 29) (hz : ∀ s, m 18 0 s = 0) (h11 : m 0 0 11 = 1)
    (h1 : ∀ v, v ≠ 0 → cBad (5, as) a = v → Q (.inl (some (vi (nI v))), Gu (1, 6) x m)) (h0 : cBad (5, as) a = 0 → ∀ m9, relS m9 0 (cDo (5, as) a) → Fr (tO true) m m9 → Q (.inl (some (vi 45)), G x m9)) : Cl X (d + 5) 65 [vp 0 0, vs 2 5, vp 27 i] (G x m) Q := by
  have hn : as.length = 2 := hc.2.1
  have hH : HyP true m [] := ⟨h11, fun c => Bool.noConfusion c⟩
  refine vc_X10_failureOf (vc_Jx29ce0_ordinal_8abf5 ⟨_, _, rfl, by decide, fun c => absurd c (by decide), fun c => absurd c (by decide), fun c => absurd c (by decide), fun c => absurd c (by decide), fun c => absurd c (by decide), fun _ => ?_, fun c => absurd c (by decide), fun c => absurd c (by decide), fun c => absurd c (by decide), fun c => absurd c (by decide), fun c => absurd (by decide) c.2.2.2.2.2.1⟩)
  rw [ha 0 (by omega), ha 1 (by omega)]
  exact sp_giveBack h ho hH (fun b hb => absurd hb List.not_mem_nil) (fun c => Or.inr ⟨_, _, _, rfl, fun c9 => absurd c9 (by decide), fun c9 => absurd c9 (by decide), fun _ => h1 101 (by decide) (cE_1 c), fun c9 => absurd c9 (by decide), fun c9 => absurd rfl c9.2.2.1⟩) (fun c => Or.inr ⟨_, _, _, rfl, fun c9 => absurd c9 (by decide), fun c9 => absurd c9 (by decide), fun c9 => absurd c9 (by decide), fun _ => h1 117 (by decide) (cE_2 c), fun c9 => absurd rfl c9.2.2.2⟩) (fun c m9 hS hH hF => Or.inl ⟨_, _, rfl, h0 (cE_z c) m9 hS hF⟩)
theorem sp_ccmd6 {as : List Nat} {i : Nat} (hc : cOk (6, as)) (ha : ∀ j, j < as.length → m 27 i j = nI (as.getD j 0)) (h : relS m 0 a) (ho : okA B a) (hB : B < 2 ^ 29) (hz : ∀ s, m 18 0 s = 0) (h11 : m 0 0 11 = 1)
    (h1 : ∀ v, v ≠ 0 → cBad (6, as) a = v → Q (.inl (some (vi (nI v))), Gu (1, 6) x m)) (h0 : cBad (6, as) a = 0 → ∀ m9, relS m9 0 (cDo (6, as) a) → Fr (tO true) m m9 → Q (.inl (some (vi 45)), G x m9)) : Cl X (d + 5) 65 [vp 0 0, vs 2 6, vp 27 i] (G x m) Q := by
  have hn : as.length = 0 := hc.2.1
  have hH : HyP true m [] := ⟨h11, fun c => Bool.noConfusion c⟩
  refine vc_X10_failureOf (vc_Jx29ce0_ordinal_8abf5 ⟨_, _, rfl, by decide, fun c => absurd c (by decide), fun c => absurd c (by decide), fun c => absurd c (by decide), fun c => absurd c (by decide), fun c => absurd c (by decide), fun c => absurd c (by decide), fun _ => ?_, fun c => absurd c (by decide), fun c => absurd c (by decide), fun c => absurd c (by decide), fun c => absurd (by decide) c.2.2.2.2.2.2.1⟩)
  exact sp_settle h ho hz hH (fun b hb => absurd hb List.not_mem_nil) (fun m9 hS hH hF => ⟨_, _, rfl, h0 rfl m9 hS hF⟩)
theorem sp_ccmd7 {as : List Nat} {i : Nat} (hc : cOk (7, as)) (ha : ∀ j, j < as.length → m 27 i j = nI (as.getD j 0)) (h : relS m 0 a) (ho : okA B a) (hB : B < 2 ^ 29) (hz : ∀ s, m 18 0 s = 0) (h11 : m 0 0 11 = 1)
    (h1 : ∀ v, v ≠ 0 → cBad (7, as) a = v → Q (.inl (some (vi (nI v))), Gu (1, 6) x m)) (h0 : cBad (7, as) a = 0 → ∀ m9, relS m9 0 (cDo (7, as) a) → Fr (tO true) m m9 → Q (.inl (some (vi 45)), G x m9)) : Cl X (d + 5) 65 [vp 0 0, vs 2 7, vp 27 i] (G x m) Q := by
  have hn : as.length = 2 := hc.2.1
  have hH : HyP true m [] := ⟨h11, fun c => Bool.noConfusion c⟩
  refine vc_X10_failureOf (vc_Jx29ce0_ordinal_8abf5 ⟨_, _, rfl, by decide, fun c => absurd c (by decide), fun c => absurd c (by decide), fun c => absurd c (by decide), fun c => absurd c (by decide), fun c => absurd c (by decide), fun c => absurd c (by decide), fun c => absurd c (by decide), fun _ => ?_, fun c => absurd c (by decide), fun c => absurd c (by decide), fun c => absurd (by decide) c.2.2.2.2.2.2.2.1⟩)
  rw [ha 0 (by omega), ha 1 (by omega)]
  exact sp_mix h ho hH (fun b hb => absurd hb List.not_mem_nil) (fun c => Or.inr ⟨_, _, _, rfl, fun c9 => absurd c9 (by decide), fun c9 => absurd c9 (by decide), fun _ => h1 101 (by decide) (cE_1 c), fun c9 => absurd c9 (by decide), fun c9 => absurd rfl c9.2.2.1⟩) (fun c => Or.inr ⟨_, _, _, rfl, fun _ => h1 97 (by decide) (cE_2 c), fun c9 => absurd c9 (by decide), fun c9 => absurd c9 (by decide), fun c9 => absurd c9 (by decide), fun c9 => absurd rfl c9.1⟩) (fun c m9 hS hH hF => Or.inl ⟨_, _, rfl, h0 (cE_z c) m9 hS hF⟩)
theorem sp_ccmd8 {as : List Nat} {i : Nat} (hc : cOk (8, as)) (ha : ∀ j, j < as.length → m 27 i j = nI (as.getD j 0)) (h : relS m 0 a) (ho : okA B a) (hB : B < 2 ^ 29) (hz : ∀ s, m 18 0 s = 0) (h11 : m 0 0 11 = 1)
    (h1 : ∀ v, v ≠ 0 → cBad (8, as) a = v → Q (.inl (some (vi (nI v))), Gu (1, 6) x m)) (h0 : cBad (8, as) a = 0 → ∀ m9, relS m9 0 (cDo (8, as) a) → Fr (tO true) m m9 → Q (.inl (some (vi 45)), G x m9)) : Cl X (d + 5) 65 [vp 0 0, vs 2 8, vp 27 i] (G x m) Q := by
  have hn : as.length = 0 := hc.2.1
  have hH : HyP true m [] := ⟨h11, fun c => Bool.noConfusion c⟩
  refine vc_X10_failureOf (vc_Jx29ce0_ordinal_8abf5 ⟨_, _, rfl, by decide, fun c => absurd c (by decide), fun c => absurd c (by decide), fun c => absurd c (by decide), fun c => absurd c (by decide), fun c => absurd c (by decide), fun c => absurd c (by decide), fun c => absurd c (by decide), fun c => absurd c (by decide), fun _ => ?_, fun c => absurd c (by decide), fun c => absurd (by decide) c.2.2.2.2.2.2.2.2.1⟩)
  exact sp_passDays h ho hB hH (fun b hb => absurd hb List.not_mem_nil) (fun c => absurd c (by decide)) (fun c m9 hS hH hF => Or.inl ⟨_, _, rfl, h0 rfl m9 hS hF⟩)
theorem sp_ccmd9 {as : List Nat} {i : Nat} (hc : cOk (9, as)) (ha : ∀ j, j < as.length → m 27 i j = nI (as.getD j 0)) (h : relS m 0 a) (ho : okA B a) (hB : B < 2 ^ 29) (hz : ∀ s, m 18 0 s = 0) (h11 : m 0 0 11 = 1)
    (h1 : ∀ v, v ≠ 0 → cBad (9, as) a = v → Q (.inl (some (vi (nI v))), Gu (1, 6) x m)) (h0 : cBad (9, as) a = 0 → ∀ m9, relS m9 0 (cDo (9, as) a) → Fr (tO true) m m9 → Q (.inl (some (vi 45)), G x m9)) : Cl X (d + 5) 65 [vp 0 0, vs 2 9, vp 27 i] (G x m) Q := by
  have hn : as.length = 1 := hc.2.1
  have hH : HyP true m [] := ⟨h11, fun c => Bool.noConfusion c⟩
  refine vc_X10_failureOf (vc_Jx29ce0_ordinal_8abf5 ⟨_, _, rfl, by decide, fun c => absurd c (by decide), fun c => absurd c (by decide), fun c => absurd c (by decide), fun c => absurd c (by decide), fun c => absurd c (by decide), fun c => absurd c (by decide), fun c => absurd c (by decide), fun c => absurd c (by decide), fun c => absurd c (by decide), fun _ => ?_, fun c => absurd (by decide) c.2.2.2.2.2.2.2.2.2⟩)
  rw [ha 0 (by omega)]
  exact sp_passDays h ho hB hH (fun b hb => absurd hb List.not_mem_nil) (fun c => Or.inr ⟨_, _, _, rfl, fun _ => h1 97 (by decide) (cE_1 c), fun c9 => absurd c9 (by decide), fun c9 => absurd c9 (by decide), fun c9 => absurd c9 (by decide), fun c9 => absurd rfl c9.1⟩) (fun c m9 hS hH hF => Or.inl ⟨_, _, rfl, h0 (cE_z c) m9 hS hF⟩)
theorem sp_ccmd {c : Cmd} {i : Nat} (hc : cOk c) (ha : ∀ j, j < c.2.length → m 27 i j = nI (c.2.getD j 0)) (h : relS m 0 a) (ho : okA B a) (hB : B < 2 ^ 29) (hz : ∀ s, m 18 0 s = 0) (h11 : m 0 0 11 = 1)
    (h1 : ∀ v, v ≠ 0 → cBad c a = v → Q (.inl (some (vi (nI v))), Gu (1, 6) x m)) (h0 : cBad c a = 0 → ∀ m9, relS m9 0 (cDo c a) → Fr (tO true) m m9 → Q (.inl (some (vi 45)), G x m9)) : Cl X (d + 5) 65 [vp 0 0, vs 2 c.1, vp 27 i] (G x m) Q := by
  obtain ⟨k, as⟩ := c
  have hk : k < 10 := hc.1
  have hk9 : k = 0 ∨ k = 1 ∨ k = 2 ∨ k = 3 ∨ k = 4 ∨ k = 5 ∨ k = 6 ∨ k = 7 ∨ k = 8 ∨ k = 9 := by omega
  rcases hk9 with rfl | rfl | rfl | rfl | rfl | rfl | rfl | rfl | rfl | rfl
  · exact sp_ccmd0 hc ha h ho hB hz h11 h1 h0
  · exact sp_ccmd1 hc ha h ho hB hz h11 h1 h0
  · exact sp_ccmd2 hc ha h ho hB hz h11 h1 h0
  · exact sp_ccmd3 hc ha h ho hB hz h11 h1 h0
  · exact sp_ccmd4 hc ha h ho hB hz h11 h1 h0
  · exact sp_ccmd5 hc ha h ho hB hz h11 h1 h0
  · exact sp_ccmd6 hc ha h ho hB hz h11 h1 h0
  · exact sp_ccmd7 hc ha h ho hB hz h11 h1 h0
  · exact sp_ccmd8 hc ha h ho hB hz h11 h1 h0
  · exact sp_ccmd9 hc ha h ho hB hz h11 h1 h0
theorem sp_kind {n u v : Nat} (hn : n ≤ 2) (hQ : Q (.inl (some (vi (nI (cE n u v)))), G x m)) : Cl X d 268 [vi (nI n), vi (nI u), vi (nI v)] (G x m) Q := by
  have h3 : n = 0 ∨ n = 1 ∨ n = 2 := by omega
  rcases h3 with rfl | rfl | rfl
  · exact vc_X11_kindOf ⟨fun c => absurd rfl c, fun _ => hQ⟩
  · exact vc_X11_kindOf ⟨fun _ => ⟨fun c => absurd rfl c, fun _ => hQ⟩, fun c => absurd (by decide) c⟩
  · exact vc_X11_kindOf ⟨fun _ => ⟨fun _ => hQ, fun c => absurd (by decide) c⟩, fun c => absurd (by decide) c⟩
theorem sp_why0 {as : List Nat} {p1 p2 p3 p4 p5 : Int32} (hc : cOk (0, as)) (hp : ∀ j, j < (cmM (0, as)).2.length → [p1, p2, p3, p4, p5].getD j 0 = nI ((cmM (0, as)).2.getD j 0)) (h : relR (m 32 0) a) (ho : okA B a) (hQ : Q (.inl (some (vi (nI (cBad (0, as) a)))), G x m)) : Cl X (d + 5) 269 [vp 31 0, vi (nI (cmM (0, as)).1), vi p1, vi p2, vi p3, vi p4, vi p5] (G x m) Q := by
  have hn : as.length = 4 := hc.2.1
  have e1 : p1 = nI (as.getD 0 0) := hp 0 (by show 0 < as.length; omega)
  have e2 : p2 = nI (as.getD 1 0) := hp 1 (by show 1 < as.length; omega)
  have e3 : p3 = nI (as.getD 2 0) := hp 2 (by show 2 < as.length; omega)
  have e4 : p4 = nI (as.getD 3 0) := hp 3 (by show 3 < as.length; omega)
  subst e1 e2 e3 e4
  show Cl X (d + 5) 269 [vp 31 0, vi 0, vi (nI (as.getD 0 0)), vi (nI (as.getD 1 0)), vi (nI (as.getD 2 0)), vi (nI (as.getD 3 0)), vi p5] (G x m) Q
  refine vc_X11_why ⟨fun _ => ?_, fun c => absurd c (by decide), fun c => absurd c (by decide), fun c => absurd c (by decide), fun c => absurd c (by decide), fun c => absurd c (by decide), fun c => absurd c (by decide), fun c => absurd c (by decide), fun c => absurd c (by decide), fun c => absurd (by decide) c.1⟩
  exact sp_mcanAdd h ho.len ⟨_, _, rfl, sp_kind whyAdd_le ⟨_, _, rfl, hQ⟩⟩
theorem sp_does0 {as : List Nat} {p1 p2 p3 p4 p5 : Int32} (hc : cOk (0, as)) (hp : ∀ j, j < (cmM (0, as)).2.length → [p1, p2, p3, p4, p5].getD j 0 = nI ((cmM (0, as)).2.getD j 0)) (h : relR (m 32 0) a) (ho : okA B a) (hB : B < 2 ^ 29) (hb : cBad (0, as) a = 0) (hQ : ∀ m9 v, relR (m9 32 0) (cDo (0, as) a) → Fk t37 m m9 → Q (.inl (some (vi v)), G x m9)) : Cl X (d + 7) 270 [vp 31 0, vi (nI (cmM (0, as)).1), vi p1, vi p2, vi p3, vi p4, vi p5] (G x m) Q := by
  have hn : as.length = 4 := hc.2.1
  have e1 : p1 = nI (as.getD 0 0) := hp 0 (by show 0 < as.length; omega)
  have e2 : p2 = nI (as.getD 1 0) := hp 1 (by show 1 < as.length; omega)
  have e3 : p3 = nI (as.getD 2 0) := hp 2 (by show 2 < as.length; omega)
  have e4 : p4 = nI (as.getD 3 0) := hp 3 (by show 3 < as.length; omega)
  subst e1 e2 e3 e4
  show Cl X (d + 7) 270 [vp 31 0, vi 0, vi (nI (as.getD 0 0)), vi (nI (as.getD 1 0)), vi (nI (as.getD 2 0)), vi (nI (as.getD 3 0)), vi p5] (G x m) Q
  refine vc_X11_does ⟨fun _ => ?_, fun c => absurd c (by decide), fun c => absurd c (by decide), fun c => absurd c (by decide), fun c => absurd c (by decide), fun c => absurd c (by decide), fun c => absurd c (by decide), fun c => absurd c (by decide), fun c => absurd (by decide) c.1⟩
  have hw := (cE_0 (by decide) (by decide) whyAdd_le).mp hb
  unfold whyAdd at hw
  split at hw
  · next c1 =>
    split at hw
    · omega
    · next c2 =>
      have hl := ho.len
      have q := fun (Q9 : MRes → Prop) => sp_adds (X := X) (d := d + 5) (x := x) (Q := Q9) (r := clN (cA (0, as) 0)) (g := clN (cA (0, as) 1)) (b := clN (cA (0, as) 2)) (f := clN (cA (0, as) 3)) h ho.len (by omega)
      rw [← (inR_cl c1.1.1).1, ← (inR_cl c1.1.2.1).1, ← (inR_cl c1.1.2.2).1, ← (inR_cl c1.2).1] at q
      exact q _ (fun m9 h9 F9 => ⟨_, _, rfl, hQ m9 _ h9 (F9.mono (fun _ _ _ z => Or.inr (Or.inr (Or.inr z))))⟩)
  · omega
theorem sp_why1 {as : List Nat} {p1 p2 p3 p4 p5 : Int32} (hc : cOk (1, as)) (hp : ∀ j, j < (cmM (1, as)).2.length → [p1, p2, p3, p4, p5].getD j 0 = nI ((cmM (1, as)).2.getD j 0)) (h : relR (m 32 0) a) (ho : okA B a) (hQ : Q (.inl (some (vi (nI (cBad (1, as) a)))), G x m)) : Cl X (d + 5) 269 [vp 31 0, vi (nI (cmM (1, as)).1), vi p1, vi p2, vi p3, vi p4, vi p5] (G x m) Q := by
  have hn : as.length = 5 := hc.2.1
  have e1 : p1 = nI (as.getD 0 0) := hp 0 (by show 0 < as.length; omega)
  have e2 : p2 = nI (as.getD 1 0) := hp 1 (by show 1 < as.length; omega)
  have e3 : p3 = nI (as.getD 2 0) := hp 2 (by show 2 < as.length; omega)
  have e4 : p4 = nI (as.getD 3 0) := hp 3 (by show 3 < as.length; omega)
  have e5 : p5 = nI (as.getD 4 0) := hp 4 (by show 4 < as.length; omega)
  subst e1 e2 e3 e4 e5
  show Cl X (d + 5) 269 [vp 31 0, vi 1, vi (nI (as.getD 0 0)), vi (nI (as.getD 1 0)), vi (nI (as.getD 2 0)), vi (nI (as.getD 3 0)), vi (nI (as.getD 4 0))] (G x m) Q
  refine vc_X11_why ⟨fun c => absurd c (by decide), fun _ => ?_, fun c => absurd c (by decide), fun c => absurd c (by decide), fun c => absurd c (by decide), fun c => absurd c (by decide), fun c => absurd c (by decide), fun c => absurd c (by decide), fun c => absurd c (by decide), fun c => absurd (by decide) c.2.1⟩
  exact sp_mcanRep h ho.len ⟨_, _, rfl, sp_kind whyRep_le ⟨_, _, rfl, hQ⟩⟩
theorem sp_does1 {as : List Nat} {p1 p2 p3 p4 p5 : Int32} (hc : cOk (1, as)) (hp : ∀ j, j < (cmM (1, as)).2.length → [p1, p2, p3, p4, p5].getD j 0 = nI ((cmM (1, as)).2.getD j 0)) (h : relR (m 32 0) a) (ho : okA B a) (hB : B < 2 ^ 29) (hb : cBad (1, as) a = 0) (hQ : ∀ m9 v, relR (m9 32 0) (cDo (1, as) a) → Fk t37 m m9 → Q (.inl (some (vi v)), G x m9)) : Cl X (d + 7) 270 [vp 31 0, vi (nI (cmM (1, as)).1), vi p1, vi p2, vi p3, vi p4, vi p5] (G x m) Q := by
  have hn : as.length = 5 := hc.2.1
  have e1 : p1 = nI (as.getD 0 0) := hp 0 (by show 0 < as.length; omega)
  have e2 : p2 = nI (as.getD 1 0) := hp 1 (by show 1 < as.length; omega)
  have e3 : p3 = nI (as.getD 2 0) := hp 2 (by show 2 < as.length; omega)
  have e4 : p4 = nI (as.getD 3 0) := hp 3 (by show 3 < as.length; omega)
  have e5 : p5 = nI (as.getD 4 0) := hp 4 (by show 4 < as.length; omega)
  subst e1 e2 e3 e4 e5
  show Cl X (d + 7) 270 [vp 31 0, vi 1, vi (nI (as.getD 0 0)), vi (nI (as.getD 1 0)), vi (nI (as.getD 2 0)), vi (nI (as.getD 3 0)), vi (nI (as.getD 4 0))] (G x m) Q
  refine vc_X11_does ⟨fun c => absurd c (by decide), fun _ => ?_, fun c => absurd c (by decide), fun c => absurd c (by decide), fun c => absurd c (by decide), fun c => absurd c (by decide), fun c => absurd c (by decide), fun c => absurd c (by decide), fun c => absurd (by decide) c.2.1⟩
  have hw := (cE_0 (by decide) (by decide) whyRep_le).mp hb
  unfold whyRep at hw
  split at hw
  · next c1 =>
    split at hw
    · omega
    · next c2 =>
      have hl := ho.len
      have q := fun (Q9 : MRes → Prop) => sp_reps (X := X) (d := d + 5) (x := x) (Q := Q9) (r := clN (cA (1, as) 0)) (g := clN (cA (1, as) 1)) (b := clN (cA (1, as) 2)) (t := clN (cA (1, as) 3)) (w := clN (cA (1, as) 4)) h ho.len (by omega)
      rw [← (inR_cl c1.1.1).1, ← (inR_cl c1.1.2.1).1, ← (inR_cl c1.1.2.2).1, ← (inR_cl c1.2.1).1, ← (inR_cl c1.2.2).1] at q
      exact q _ (fun m9 h9 F9 => ⟨_, _, rfl, hQ m9 _ h9 (F9.mono (fun _ _ _ z => Or.inr (Or.inr (Or.inr z))))⟩)
  · omega
theorem sp_why2 {as : List Nat} {p1 p2 p3 p4 p5 : Int32} (hc : cOk (2, as)) (hp : ∀ j, j < (cmM (2, as)).2.length → [p1, p2, p3, p4, p5].getD j 0 = nI ((cmM (2, as)).2.getD j 0)) (h : relR (m 32 0) a) (ho : okA B a) (hQ : Q (.inl (some (vi (nI (cBad (2, as) a)))), G x m)) : Cl X (d + 5) 269 [vp 31 0, vi (nI (cmM (2, as)).1), vi p1, vi p2, vi p3, vi p4, vi p5] (G x m) Q := by
  have hn : as.length = 1 := hc.2.1
  have e1 : p1 = nI (as.getD 0 0) := hp 0 (by show 0 < as.length; omega)
  subst e1
  show Cl X (d + 5) 269 [vp 31 0, vi 2, vi (nI (as.getD 0 0)), vi p2, vi p3, vi p4, vi p5] (G x m) Q
  refine vc_X11_why ⟨fun c => absurd c (by decide), fun c => absurd c (by decide), fun _ => ?_, fun c => absurd c (by decide), fun c => absurd c (by decide), fun c => absurd c (by decide), fun c => absurd c (by decide), fun c => absurd c (by decide), fun c => absurd c (by decide), fun c => absurd (by decide) c.2.2.1⟩
  have hl := ho.len
  have hQ : Q (.inl (some (vi (nI (if posI (aR a) (nI (as.getD 0 0)) < (aR a).length then 0 else 101)))), G x m) := hQ
  refine sp_mrep h ho.len.2.1 ⟨_, _, rfl, posV_neg (by omega) (fun c => ?_) (fun c => ?_)⟩
  · rw [if_pos c] at hQ; exact hQ
  · rw [if_neg (by omega)] at hQ; exact hQ
theorem sp_does2 {as : List Nat} {p1 p2 p3 p4 p5 : Int32} (hc : cOk (2, as)) (hp : ∀ j, j < (cmM (2, as)).2.length → [p1, p2, p3, p4, p5].getD j 0 = nI ((cmM (2, as)).2.getD j 0)) (h : relR (m 32 0) a) (ho : okA B a) (hB : B < 2 ^ 29) (hb : cBad (2, as) a = 0) (hQ : ∀ m9 v, relR (m9 32 0) (cDo (2, as) a) → Fk t37 m m9 → Q (.inl (some (vi v)), G x m9)) : Cl X (d + 7) 270 [vp 31 0, vi (nI (cmM (2, as)).1), vi p1, vi p2, vi p3, vi p4, vi p5] (G x m) Q := by
  have hn : as.length = 1 := hc.2.1
  have e1 : p1 = nI (as.getD 0 0) := hp 0 (by show 0 < as.length; omega)
  subst e1
  show Cl X (d + 7) 270 [vp 31 0, vi 2, vi (nI (as.getD 0 0)), vi p2, vi p3, vi p4, vi p5] (G x m) Q
  refine vc_X11_does ⟨fun c => absurd c (by decide), fun c => absurd c (by decide), fun _ => ?_, fun c => absurd c (by decide), fun c => absurd c (by decide), fun c => absurd c (by decide), fun c => absurd c (by decide), fun c => absurd c (by decide), fun c => absurd (by decide) c.2.2.1⟩
  have hp1 : posI (aR a) (nI (as.getD 0 0)) < (aR a).length := by
    rcases Nat.lt_or_ge (posI (aR a) (nI (as.getD 0 0))) (aR a).length with z | z
    · exact z
    · have e : cBad (2, as) a = 101 := if_neg (by show ¬ posI (aR a) (nI (as.getD 0 0)) < _; omega)
      rw [e] at hb; cases hb
  exact sp_mwd h ho.len hp1 (fun m9 h9 F9 => ⟨_, _, rfl, hQ m9 _ h9 (F9.mono (fun _ _ _ z => Or.inr (Or.inr (Or.inr z))))⟩)
theorem sp_why3 {as : List Nat} {p1 p2 p3 p4 p5 : Int32} (hc : cOk (3, as)) (hp : ∀ j, j < (cmM (3, as)).2.length → [p1, p2, p3, p4, p5].getD j 0 = nI ((cmM (3, as)).2.getD j 0)) (h : relR (m 32 0) a) (ho : okA B a) (hQ : Q (.inl (some (vi (nI (cBad (3, as) a)))), G x m)) : Cl X (d + 5) 269 [vp 31 0, vi (nI (cmM (3, as)).1), vi p1, vi p2, vi p3, vi p4, vi p5] (G x m) Q := by
  have hn : as.length = 1 := hc.2.1
  have e1 : p1 = nI (as.getD 0 0) := hp 0 (by show 0 < as.length; omega)
  subst e1
  show Cl X (d + 5) 269 [vp 31 0, vi 3, vi (nI (as.getD 0 0)), vi p2, vi p3, vi p4, vi p5] (G x m) Q
  refine vc_X11_why ⟨fun c => absurd c (by decide), fun c => absurd c (by decide), fun c => absurd c (by decide), fun _ => ?_, fun c => absurd c (by decide), fun c => absurd c (by decide), fun c => absurd c (by decide), fun c => absurd c (by decide), fun c => absurd c (by decide), fun c => absurd (by decide) c.2.2.2.1⟩
  have hl := ho.len
  have hQ : Q (.inl (some (vi (nI (if posI (aC a) (nI (as.getD 0 0)) < (aC a).length then 0 else 101)))), G x m) := hQ
  refine sp_mcol h ho.len.1 ⟨_, _, rfl, posV_neg (by omega) (fun c => ?_) (fun c => ?_)⟩
  · rw [if_pos c] at hQ; exact hQ
  · rw [if_neg (by omega)] at hQ; exact hQ
theorem sp_does3 {as : List Nat} {p1 p2 p3 p4 p5 : Int32} (hc : cOk (3, as)) (hp : ∀ j, j < (cmM (3, as)).2.length → [p1, p2, p3, p4, p5].getD j 0 = nI ((cmM (3, as)).2.getD j 0)) (h : relR (m 32 0) a) (ho : okA B a) (hB : B < 2 ^ 29) (hb : cBad (3, as) a = 0) (hQ : ∀ m9 v, relR (m9 32 0) (cDo (3, as) a) → Fk t37 m m9 → Q (.inl (some (vi v)), G x m9)) : Cl X (d + 7) 270 [vp 31 0, vi (nI (cmM (3, as)).1), vi p1, vi p2, vi p3, vi p4, vi p5] (G x m) Q := by
  have hn : as.length = 1 := hc.2.1
  have e1 : p1 = nI (as.getD 0 0) := hp 0 (by show 0 < as.length; omega)
  subst e1
  show Cl X (d + 7) 270 [vp 31 0, vi 3, vi (nI (as.getD 0 0)), vi p2, vi p3, vi p4, vi p5] (G x m) Q
  refine vc_X11_does ⟨fun c => absurd c (by decide), fun c => absurd c (by decide), fun c => absurd c (by decide), fun _ => ?_, fun c => absurd c (by decide), fun c => absurd c (by decide), fun c => absurd c (by decide), fun c => absurd c (by decide), fun c => absurd (by decide) c.2.2.2.1⟩
  have hp1 : posI (aC a) (nI (as.getD 0 0)) < (aC a).length := by
    rcases Nat.lt_or_ge (posI (aC a) (nI (as.getD 0 0))) (aC a).length with z | z
    · exact z
    · have e : cBad (3, as) a = 101 := if_neg (by show ¬ posI (aC a) (nI (as.getD 0 0)) < _; omega)
      rw [e] at hb; cases hb
  exact sp_mdis h ho.len hp1 (fun m9 h9 F9 => ⟨_, _, rfl, hQ m9 _ h9 (F9.mono (fun _ _ _ z => Or.inr (Or.inr (Or.inr z))))⟩)
theorem sp_why4 {as : List Nat} {p1 p2 p3 p4 p5 : Int32} (hc : cOk (4, as)) (hp : ∀ j, j < (cmM (4, as)).2.length → [p1, p2, p3, p4, p5].getD j 0 = nI ((cmM (4, as)).2.getD j 0)) (h : relR (m 32 0) a) (ho : okA B a) (hQ : Q (.inl (some (vi (nI (cBad (4, as) a)))), G x m)) : Cl X (d + 5) 269 [vp 31 0, vi (nI (cmM (4, as)).1), vi p1, vi p2, vi p3, vi p4, vi p5] (G x m) Q := by
  have hn : as.length = 1 := hc.2.1
  have e1 : p1 = nI (as.getD 0 0) := hp 0 (by show 0 < as.length; omega)
  subst e1
  show Cl X (d + 5) 269 [vp 31 0, vi 4, vi (nI (as.getD 0 0)), vi p2, vi p3, vi p4, vi p5] (G x m) Q
  refine vc_X11_why ⟨fun c => absurd c (by decide), fun c => absurd c (by decide), fun c => absurd c (by decide), fun c => absurd c (by decide), fun _ => ?_, fun c => absurd c (by decide), fun c => absurd c (by decide), fun c => absurd c (by decide), fun c => absurd c (by decide), fun c => absurd (by decide) c.2.2.2.2.1⟩
  exact hQ
theorem sp_does4 {as : List Nat} {p1 p2 p3 p4 p5 : Int32} (hc : cOk (4, as)) (hp : ∀ j, j < (cmM (4, as)).2.length → [p1, p2, p3, p4, p5].getD j 0 = nI ((cmM (4, as)).2.getD j 0)) (h : relR (m 32 0) a) (ho : okA B a) (hB : B < 2 ^ 29) (hb : cBad (4, as) a = 0) (hQ : ∀ m9 v, relR (m9 32 0) (cDo (4, as) a) → Fk t37 m m9 → Q (.inl (some (vi v)), G x m9)) : Cl X (d + 7) 270 [vp 31 0, vi (nI (cmM (4, as)).1), vi p1, vi p2, vi p3, vi p4, vi p5] (G x m) Q := by
  have hn : as.length = 1 := hc.2.1
  have e1 : p1 = nI (as.getD 0 0) := hp 0 (by show 0 < as.length; omega)
  subst e1
  show Cl X (d + 7) 270 [vp 31 0, vi 4, vi (nI (as.getD 0 0)), vi p2, vi p3, vi p4, vi p5] (G x m) Q
  refine vc_X11_does ⟨fun c => absurd c (by decide), fun c => absurd c (by decide), fun c => absurd c (by decide), fun c => absurd c (by decide), fun _ => ?_, fun c => absurd c (by decide), fun c => absurd c (by decide), fun c => absurd c (by decide), fun c => absurd (by decide) c.2.2.2.2.1⟩
  exact sp_mmet h (hc.2.2 rfl) (fun m9 h9 F9 => ⟨_, _, rfl, hQ m9 _ h9 (F9.mono (fun _ _ _ z => Or.inr (Or.inr (Or.inr z))))⟩)
theorem sp_why5 {as : List Nat} {p1 p2 p3 p4 p5 : Int32} (hc : cOk (5, as)) (hp : ∀ j, j < (cmM (5, as)).2.length → [p1, p2, p3, p4, p5].getD j 0 = nI ((cmM (5, as)).2.getD j 0)) (h : relR (m 32 0) a) (ho : okA B a) (hQ : Q (.inl (some (vi (nI (cBad (5, as) a)))), G x m)) : Cl X (d + 5) 269 [vp 31 0, vi (nI (cmM (5, as)).1), vi p1, vi p2, vi p3, vi p4, vi p5] (G x m) Q := by
  have hn : as.length = 2 := hc.2.1
  have e1 : p1 = nI (as.getD 0 0) := hp 0 (by show 0 < as.length; omega)
  have e2 : p2 = nI (as.getD 1 0) := hp 1 (by show 1 < as.length; omega)
  subst e1 e2
  show Cl X (d + 5) 269 [vp 31 0, vi 5, vi (nI (as.getD 0 0)), vi (nI (as.getD 1 0)), vi p3, vi p4, vi p5] (G x m) Q
  refine vc_X11_why ⟨fun c => absurd c (by decide), fun c => absurd c (by decide), fun c => absurd c (by decide), fun c => absurd c (by decide), fun c => absurd c (by decide), fun _ => ?_, fun c => absurd c (by decide), fun c => absurd c (by decide), fun c => absurd c (by decide), fun c => absurd (by decide) c.2.2.2.2.2.1⟩
  exact sp_mcanGive h ho ⟨_, _, rfl, sp_kind whyGive_le ⟨_, _, rfl, hQ⟩⟩
theorem sp_does5 {as : List Nat} {p1 p2 p3 p4 p5 : Int32} (hc : cOk (5, as)) (hp : ∀ j, j < (cmM (5, as)).2.length → [p1, p2, p3, p4, p5].getD j 0 = nI ((cmM (5, as)).2.getD j 0)) (h : relR (m 32 0) a) (ho : okA B a) (hB : B < 2 ^ 29) (hb : cBad (5, as) a = 0) (hQ : ∀ m9 v, relR (m9 32 0) (cDo (5, as) a) → Fk t37 m m9 → Q (.inl (some (vi v)), G x m9)) : Cl X (d + 7) 270 [vp 31 0, vi (nI (cmM (5, as)).1), vi p1, vi p2, vi p3, vi p4, vi p5] (G x m) Q := by
  have hn : as.length = 2 := hc.2.1
  have e1 : p1 = nI (as.getD 0 0) := hp 0 (by show 0 < as.length; omega)
  have e2 : p2 = nI (as.getD 1 0) := hp 1 (by show 1 < as.length; omega)
  subst e1 e2
  show Cl X (d + 7) 270 [vp 31 0, vi 5, vi (nI (as.getD 0 0)), vi (nI (as.getD 1 0)), vi p3, vi p4, vi p5] (G x m) Q
  refine vc_X11_does ⟨fun c => absurd c (by decide), fun c => absurd c (by decide), fun c => absurd c (by decide), fun c => absurd c (by decide), fun c => absurd c (by decide), fun _ => ?_, fun c => absurd c (by decide), fun c => absurd c (by decide), fun c => absurd (by decide) c.2.2.2.2.2.1⟩
  have hw := (cE_0 (by decide) (by decide) whyGive_le).mp hb
  unfold whyGive at hw
  split at hw
  · next c1 => exact sp_gives h ho.len c1.1 c1.2 (fun m9 h9 F9 => ⟨_, _, rfl, hQ m9 _ h9 (F9.mono (fun _ _ _ z => Or.inr (Or.inr (Or.inr z))))⟩)
  · omega
theorem sp_why6 {as : List Nat} {p1 p2 p3 p4 p5 : Int32} (hc : cOk (6, as)) (hp : ∀ j, j < (cmM (6, as)).2.length → [p1, p2, p3, p4, p5].getD j 0 = nI ((cmM (6, as)).2.getD j 0)) (h : relR (m 32 0) a) (ho : okA B a) (hQ : Q (.inl (some (vi (nI (cBad (6, as) a)))), G x m)) : Cl X (d + 5) 269 [vp 31 0, vi (nI (cmM (6, as)).1), vi p1, vi p2, vi p3, vi p4, vi p5] (G x m) Q := by
  have hn : as.length = 0 := hc.2.1
  show Cl X (d + 5) 269 [vp 31 0, vi 6, vi p1, vi p2, vi p3, vi p4, vi p5] (G x m) Q
  refine vc_X11_why ⟨fun c => absurd c (by decide), fun c => absurd c (by decide), fun c => absurd c (by decide), fun c => absurd c (by decide), fun c => absurd c (by decide), fun c => absurd c (by decide), fun _ => ?_, fun c => absurd c (by decide), fun c => absurd c (by decide), fun c => absurd (by decide) c.2.2.2.2.2.2.1⟩
  exact hQ
theorem sp_does6 {as : List Nat} {p1 p2 p3 p4 p5 : Int32} (hc : cOk (6, as)) (hp : ∀ j, j < (cmM (6, as)).2.length → [p1, p2, p3, p4, p5].getD j 0 = nI ((cmM (6, as)).2.getD j 0)) (h : relR (m 32 0) a) (ho : okA B a) (hB : B < 2 ^ 29) (hb : cBad (6, as) a = 0) (hQ : ∀ m9 v, relR (m9 32 0) (cDo (6, as) a) → Fk t37 m m9 → Q (.inl (some (vi v)), G x m9)) : Cl X (d + 7) 270 [vp 31 0, vi (nI (cmM (6, as)).1), vi p1, vi p2, vi p3, vi p4, vi p5] (G x m) Q := by
  have hn : as.length = 0 := hc.2.1
  show Cl X (d + 7) 270 [vp 31 0, vi 6, vi p1, vi p2, vi p3, vi p4, vi p5] (G x m) Q
  refine vc_X11_does ⟨fun c => absurd c (by decide), fun c => absurd c (by decide), fun c => absurd c (by decide), fun c => absurd c (by decide), fun c => absurd c (by decide), fun c => absurd c (by decide), fun _ => ?_, fun c => absurd c (by decide), fun c => absurd (by decide) c.2.2.2.2.2.2.1⟩
  exact sp_settleAll h ho hB (fun m9 h9 F9 => ⟨_, _, rfl, hQ m9 _ h9 F9⟩)
theorem sp_why7 {as : List Nat} {p1 p2 p3 p4 p5 : Int32} (hc : cOk (7, as)) (hp : ∀ j, j < (cmM (7, as)).2.length → [p1, p2, p3, p4, p5].getD j 0 = nI ((cmM (7, as)).2.getD j 0)) (h : relR (m 32 0) a) (ho : okA B a) (hQ : Q (.inl (some (vi (nI (cBad (7, as) a)))), G x m)) : Cl X (d + 5) 269 [vp 31 0, vi (nI (cmM (7, as)).1), vi p1, vi p2, vi p3, vi p4, vi p5] (G x m) Q := by
  have hn : as.length = 2 := hc.2.1
  have e1 : p1 = nI (as.getD 0 0) := hp 0 (by show 0 < as.length; omega)
  have e2 : p2 = nI (as.getD 1 0) := hp 1 (by show 1 < as.length; omega)
  subst e1 e2
  show Cl X (d + 5) 269 [vp 31 0, vi 7, vi (nI (as.getD 0 0)), vi (nI (as.getD 1 0)), vi p3, vi p4, vi p5] (G x m) Q
  refine vc_X11_why ⟨fun c => absurd c (by decide), fun c => absurd c (by decide), fun c => absurd c (by decide), fun c => absurd c (by decide), fun c => absurd c (by decide), fun c => absurd c (by decide), fun c => absurd c (by decide), fun _ => ?_, fun c => absurd c (by decide), fun c => absurd (by decide) c.2.2.2.2.2.2.2.1⟩
  exact sp_mcanMix h ho.len ⟨_, _, rfl, sp_kind whyMix_le ⟨_, _, rfl, hQ⟩⟩
theorem sp_does7 {as : List Nat} {p1 p2 p3 p4 p5 : Int32} (hc : cOk (7, as)) (hp : ∀ j, j < (cmM (7, as)).2.length → [p1, p2, p3, p4, p5].getD j 0 = nI ((cmM (7, as)).2.getD j 0)) (h : relR (m 32 0) a) (ho : okA B a) (hB : B < 2 ^ 29) (hb : cBad (7, as) a = 0) (hQ : ∀ m9 v, relR (m9 32 0) (cDo (7, as) a) → Fk t37 m m9 → Q (.inl (some (vi v)), G x m9)) : Cl X (d + 7) 270 [vp 31 0, vi (nI (cmM (7, as)).1), vi p1, vi p2, vi p3, vi p4, vi p5] (G x m) Q := by
  have hn : as.length = 2 := hc.2.1
  have e1 : p1 = nI (as.getD 0 0) := hp 0 (by show 0 < as.length; omega)
  have e2 : p2 = nI (as.getD 1 0) := hp 1 (by show 1 < as.length; omega)
  subst e1 e2
  show Cl X (d + 7) 270 [vp 31 0, vi 7, vi (nI (as.getD 0 0)), vi (nI (as.getD 1 0)), vi p3, vi p4, vi p5] (G x m) Q
  refine vc_X11_does ⟨fun c => absurd c (by decide), fun c => absurd c (by decide), fun c => absurd c (by decide), fun c => absurd c (by decide), fun c => absurd c (by decide), fun c => absurd c (by decide), fun c => absurd c (by decide), fun _ => ?_, fun c => absurd (by decide) c.2.2.2.2.2.2.2⟩
  obtain ⟨c1, c2, c3⟩ := mix_in ho ((cE_0 (by decide) (by decide) whyMix_le).mp hb)
  exact sp_mixes h ho c1 c2 c3 (fun m9 h9 F9 => ⟨_, _, rfl, hQ m9 _ h9 (F9.mono (fun _ _ _ z => Or.inr (Or.inr (Or.inr z))))⟩)
theorem sp_why8 {as : List Nat} {p1 p2 p3 p4 p5 : Int32} (hc : cOk (8, as)) (hp : ∀ j, j < (cmM (8, as)).2.length → [p1, p2, p3, p4, p5].getD j 0 = nI ((cmM (8, as)).2.getD j 0)) (h : relR (m 32 0) a) (ho : okA B a) (hQ : Q (.inl (some (vi (nI (cBad (8, as) a)))), G x m)) : Cl X (d + 5) 269 [vp 31 0, vi (nI (cmM (8, as)).1), vi p1, vi p2, vi p3, vi p4, vi p5] (G x m) Q := by
  have hn : as.length = 0 := hc.2.1
  have e1 : p1 = 1 := hp 0 Nat.zero_lt_one
  subst e1
  show Cl X (d + 5) 269 [vp 31 0, vi 8, vi 1, vi p2, vi p3, vi p4, vi p5] (G x m) Q
  refine vc_X11_why ⟨fun c => absurd c (by decide), fun c => absurd c (by decide), fun c => absurd c (by decide), fun c => absurd c (by decide), fun c => absurd c (by decide), fun c => absurd c (by decide), fun c => absurd c (by decide), fun c => absurd c (by decide), fun _ => ?_, fun c => absurd (by decide) c.2.2.2.2.2.2.2.2⟩
  exact sp_in 1 99 (fun z => ⟨_, _, rfl, fun c => absurd c (by decide), fun _ => hQ⟩) (fun z => absurd (by decide) z)
theorem sp_does8 {as : List Nat} {p1 p2 p3 p4 p5 : Int32} (hc : cOk (8, as)) (hp : ∀ j, j < (cmM (8, as)).2.length → [p1, p2, p3, p4, p5].getD j 0 = nI ((cmM (8, as)).2.getD j 0)) (h : relR (m 32 0) a) (ho : okA B a) (hB : B < 2 ^ 29) (hb : cBad (8, as) a = 0) (hQ : ∀ m9 v, relR (m9 32 0) (cDo (8, as) a) → Fk t37 m m9 → Q (.inl (some (vi v)), G x m9)) : Cl X (d + 7) 270 [vp 31 0, vi (nI (cmM (8, as)).1), vi p1, vi p2, vi p3, vi p4, vi p5] (G x m) Q := by
  have hn : as.length = 0 := hc.2.1
  have e1 : p1 = 1 := hp 0 Nat.zero_lt_one
  subst e1
  show Cl X (d + 7) 270 [vp 31 0, vi 8, vi 1, vi p2, vi p3, vi p4, vi p5] (G x m) Q
  refine vc_X11_does ⟨fun c => absurd c (by decide), fun c => absurd c (by decide), fun c => absurd c (by decide), fun c => absurd c (by decide), fun c => absurd c (by decide), fun c => absurd c (by decide), fun c => absurd c (by decide), fun c => absurd c (by decide), fun _ => ?_⟩
  exact sp_passes (n := 1) h ho (by omega) hB (fun m9 h9 F9 => ⟨_, _, rfl, hQ m9 _ h9 (F9.mono (fun _ _ _ z => Or.inr (Or.inr (Or.inr z))))⟩)
theorem sp_why9 {as : List Nat} {p1 p2 p3 p4 p5 : Int32} (hc : cOk (9, as)) (hp : ∀ j, j < (cmM (9, as)).2.length → [p1, p2, p3, p4, p5].getD j 0 = nI ((cmM (9, as)).2.getD j 0)) (h : relR (m 32 0) a) (ho : okA B a) (hQ : Q (.inl (some (vi (nI (cBad (9, as) a)))), G x m)) : Cl X (d + 5) 269 [vp 31 0, vi (nI (cmM (9, as)).1), vi p1, vi p2, vi p3, vi p4, vi p5] (G x m) Q := by
  have hn : as.length = 1 := hc.2.1
  have e1 : p1 = nI (as.getD 0 0) := hp 0 (by show 0 < as.length; omega)
  subst e1
  show Cl X (d + 5) 269 [vp 31 0, vi 8, vi (nI (as.getD 0 0)), vi p2, vi p3, vi p4, vi p5] (G x m) Q
  refine vc_X11_why ⟨fun c => absurd c (by decide), fun c => absurd c (by decide), fun c => absurd c (by decide), fun c => absurd c (by decide), fun c => absurd c (by decide), fun c => absurd c (by decide), fun c => absurd c (by decide), fun c => absurd c (by decide), fun _ => ?_, fun c => absurd (by decide) c.2.2.2.2.2.2.2.2⟩
  have hQ : Q (.inl (some (vi (nI (cE (whyDays (nI (as.getD 0 0))) 97 97)))), G x m) := hQ
  unfold whyDays at hQ
  refine sp_in 1 99 (fun z => ⟨_, _, rfl, fun c => absurd c (by decide), fun _ => ?_⟩) (fun z => ⟨_, _, rfl, fun _ => ?_, fun c => absurd rfl c⟩)
  · rw [if_pos z] at hQ; exact hQ
  · rw [if_neg z] at hQ; exact hQ
theorem sp_does9 {as : List Nat} {p1 p2 p3 p4 p5 : Int32} (hc : cOk (9, as)) (hp : ∀ j, j < (cmM (9, as)).2.length → [p1, p2, p3, p4, p5].getD j 0 = nI ((cmM (9, as)).2.getD j 0)) (h : relR (m 32 0) a) (ho : okA B a) (hB : B < 2 ^ 29) (hb : cBad (9, as) a = 0) (hQ : ∀ m9 v, relR (m9 32 0) (cDo (9, as) a) → Fk t37 m m9 → Q (.inl (some (vi v)), G x m9)) : Cl X (d + 7) 270 [vp 31 0, vi (nI (cmM (9, as)).1), vi p1, vi p2, vi p3, vi p4, vi p5] (G x m) Q := by
  have hn : as.length = 1 := hc.2.1
  have e1 : p1 = nI (as.getD 0 0) := hp 0 (by show 0 < as.length; omega)
  subst e1
  show Cl X (d + 7) 270 [vp 31 0, vi 8, vi (nI (as.getD 0 0)), vi p2, vi p3, vi p4, vi p5] (G x m) Q
  refine vc_X11_does ⟨fun c => absurd c (by decide), fun c => absurd c (by decide), fun c => absurd c (by decide), fun c => absurd c (by decide), fun c => absurd c (by decide), fun c => absurd c (by decide), fun c => absurd c (by decide), fun c => absurd c (by decide), fun _ => ?_⟩
  have c1 := inR_cl (p := nI (as.getD 0 0)) (days_in ((cE_0 (by decide) (by decide) whyDays_le).mp hb))
  have q := fun (Q9 : MRes → Prop) => sp_passes (X := X) (d := d + 2) (x := x) (Q := Q9) (n := clN (nI (as.getD 0 0))) h ho (by omega) hB
  rw [← c1.1] at q
  exact q _ (fun m9 h9 F9 => ⟨_, _, rfl, hQ m9 _ h9 (F9.mono (fun _ _ _ z => Or.inr (Or.inr (Or.inr z))))⟩)
theorem sp_why {c : Cmd} {p1 p2 p3 p4 p5 : Int32} (hc : cOk c) (hp : ∀ j, j < (cmM c).2.length → [p1, p2, p3, p4, p5].getD j 0 = nI ((cmM c).2.getD j 0)) (h : relR (m 32 0) a) (ho : okA B a) (hQ : Q (.inl (some (vi (nI (cBad c a)))), G x m)) : Cl X (d + 5) 269 [vp 31 0, vi (nI (cmM c).1), vi p1, vi p2, vi p3, vi p4, vi p5] (G x m) Q := by
  obtain ⟨k, as⟩ := c
  have hk : k < 10 := hc.1
  have hk9 : k = 0 ∨ k = 1 ∨ k = 2 ∨ k = 3 ∨ k = 4 ∨ k = 5 ∨ k = 6 ∨ k = 7 ∨ k = 8 ∨ k = 9 := by omega
  rcases hk9 with rfl | rfl | rfl | rfl | rfl | rfl | rfl | rfl | rfl | rfl
  · exact sp_why0 hc hp h ho hQ
  · exact sp_why1 hc hp h ho hQ
  · exact sp_why2 hc hp h ho hQ
  · exact sp_why3 hc hp h ho hQ
  · exact sp_why4 hc hp h ho hQ
  · exact sp_why5 hc hp h ho hQ
  · exact sp_why6 hc hp h ho hQ
  · exact sp_why7 hc hp h ho hQ
  · exact sp_why8 hc hp h ho hQ
  · exact sp_why9 hc hp h ho hQ
theorem sp_does {c : Cmd} {p1 p2 p3 p4 p5 : Int32} (hc : cOk c) (hp : ∀ j, j < (cmM c).2.length → [p1, p2, p3, p4, p5].getD j 0 = nI ((cmM c).2.getD j 0)) (h : relR (m 32 0) a) (ho : okA B a) (hB : B < 2 ^ 29) (hb : cBad c a = 0) (hQ : ∀ m9 v, relR (m9 32 0) (cDo c a) → Fk t37 m m9 → Q (.inl (some (vi v)), G x m9)) : Cl X (d + 7) 270 [vp 31 0, vi (nI (cmM c).1), vi p1, vi p2, vi p3, vi p4, vi p5] (G x m) Q := by
  obtain ⟨k, as⟩ := c
  have hk : k < 10 := hc.1
  have hk9 : k = 0 ∨ k = 1 ∨ k = 2 ∨ k = 3 ∨ k = 4 ∨ k = 5 ∨ k = 6 ∨ k = 7 ∨ k = 8 ∨ k = 9 := by omega
  rcases hk9 with rfl | rfl | rfl | rfl | rfl | rfl | rfl | rfl | rfl | rfl
  · exact sp_does0 hc hp h ho hB hb hQ
  · exact sp_does1 hc hp h ho hB hb hQ
  · exact sp_does2 hc hp h ho hB hb hQ
  · exact sp_does3 hc hp h ho hB hb hQ
  · exact sp_does4 hc hp h ho hB hb hQ
  · exact sp_does5 hc hp h ho hB hb hQ
  · exact sp_does6 hc hp h ho hB hb hQ
  · exact sp_does7 hc hp h ho hB hb hQ
  · exact sp_does8 hc hp h ho hB hb hQ
  · exact sp_does9 hc hp h ho hB hb hQ
end CCMD
