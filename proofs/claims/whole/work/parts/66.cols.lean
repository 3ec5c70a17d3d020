/-! ===== THE CLASS: COLUMNS OF A ROW ===== -/
section COLS
variable {X : MX} {d : Nat} {x : Int64 × UInt64} {m : MI} {Q : MRes → Prop} {a : AS}
theorem sp_green {id : Int32} (h : relS m 0 a) (hl : (aC a).length ≤ 10) (h1 : posI (aC a) id < (aC a).length → Q (.inl (some (vi (nI (rowD (aC a) (posI (aC a) id) 2)))), G x m)) (h2 : posI (aC a) id = (aC a).length → Q (.inr 2, Gu (1, 6) x m)) : Cl X (d + 2) 13 [vp 0 0, vi id] (G x m) Q := by
  refine vc_X10_green (sp_found h hl (fun hc => Or.inl ⟨_, _, rfl, ?_⟩) (fun hc => Or.inr ⟨_, _, _, rfl, h2 hc⟩))
  rw [nI_clamp (n := posI (aC a) id) (by omega), h.1.2.2 _ hc 2 (by decide)]
  exact ⟨inb_n (posI (aC a) id) 10 (by omega), h1 hc⟩
theorem sp_blue {id : Int32} (h : relS m 0 a) (hl : (aC a).length ≤ 10) (h1 : posI (aC a) id < (aC a).length → Q (.inl (some (vi (nI (rowD (aC a) (posI (aC a) id) 3)))), G x m)) (h2 : posI (aC a) id = (aC a).length → Q (.inr 2, Gu (1, 6) x m)) : Cl X (d + 2) 14 [vp 0 0, vi id] (G x m) Q := by
  refine vc_X10_blue (sp_found h hl (fun hc => Or.inl ⟨_, _, rfl, ?_⟩) (fun hc => Or.inr ⟨_, _, _, rfl, h2 hc⟩))
  rw [nI_clamp (n := posI (aC a) id) (by omega), h.1.2.2 _ hc 3 (by decide)]
  exact ⟨inb_n (posI (aC a) id) 10 (by omega), h1 hc⟩
theorem sp_fastness {id : Int32} (h : relS m 0 a) (hl : (aC a).length ≤ 10) (h1 : posI (aC a) id < (aC a).length → Q (.inl (some (vi (nI (rowD (aC a) (posI (aC a) id) 4)))), G x m)) (h2 : posI (aC a) id = (aC a).length → Q (.inr 2, Gu (1, 6) x m)) : Cl X (d + 2) 15 [vp 0 0, vi id] (G x m) Q := by
  refine vc_X10_fastness (sp_found h hl (fun hc => Or.inl ⟨_, _, rfl, ?_⟩) (fun hc => Or.inr ⟨_, _, _, rfl, h2 hc⟩))
  rw [nI_clamp (n := posI (aC a) id) (by omega), h.1.2.2 _ hc 4 (by decide)]
  exact ⟨inb_n (posI (aC a) id) 10 (by omega), h1 hc⟩
theorem sp_toleranceOf {id : Int32} (h : relS m 0 a) (hl : (aR a).length ≤ 6) (h1 : posI (aR a) id < (aR a).length → Q (.inl (some (vi (nI (rowD (aR a) (posI (aR a) id) 4)))), G x m)) (h2 : posI (aR a) id = (aR a).length → Q (.inr 2, Gu (1, 6) x m)) : Cl X (d + 2) 21 [vp 0 0, vi id] (G x m) Q := by
  refine vc_X10_toleranceOf (sp_open h hl (fun hc => Or.inl ⟨_, _, rfl, ?_⟩) (fun hc => Or.inr ⟨_, _, _, rfl, h2 hc⟩))
  rw [nI_clamp (n := posI (aR a) id) (by omega), h.2.1.2.2 _ hc 4 (by decide)]
  exact ⟨inb_n (posI (aR a) id) 6 (by omega), h1 hc⟩
theorem sp_rewardOf {id : Int32} (h : relS m 0 a) (hl : (aR a).length ≤ 6) (h1 : posI (aR a) id < (aR a).length → Q (.inl (some (vi (nI (rowD (aR a) (posI (aR a) id) 5)))), G x m)) (h2 : posI (aR a) id = (aR a).length → Q (.inr 2, Gu (1, 6) x m)) : Cl X (d + 2) 22 [vp 0 0, vi id] (G x m) Q := by
  refine vc_X10_rewardOf (sp_open h hl (fun hc => Or.inl ⟨_, _, rfl, ?_⟩) (fun hc => Or.inr ⟨_, _, _, rfl, h2 hc⟩))
  rw [nI_clamp (n := posI (aR a) id) (by omega), h.2.1.2.2 _ hc 5 (by decide)]
  exact ⟨inb_n (posI (aR a) id) 6 (by omega), h1 hc⟩
end COLS
