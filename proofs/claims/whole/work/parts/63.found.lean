/-! ===== THE CLASS: WHAT IS FOUND; SIMPLE ANSWERS ===== -/
theorem posV_neg {l : List Row} {id : Int32} (hl : l.length < 2 ^ 31) {A B : Prop} (f : posI l id < l.length → A) (g : posI l id = l.length → B) : (0 ≤ posV l id → A) ∧ (¬ 0 ≤ posV l id → B) := by
  have h := posI_le l id
  unfold posV
  by_cases hc : posI l id < l.length
  · rw [if_pos hc]
    exact ⟨fun _ => f hc, fun h0 => absurd (nI_pos' (by omega)) h0⟩
  · rw [if_neg hc]
    exact ⟨fun h0 => absurd h0 (by decide), fun _ => g (by omega)⟩
theorem posV_in {l : List Row} {id : Int32} (h : posI l id < l.length) : posV l id = nI (posI l id) := if_pos h
section FOUND
variable {X : MX} {d : Nat} {x : Int64 × UInt64} {m : MI} {Q : MRes → Prop} {a : AS}
theorem sp_found {id : Int32} (h : relS m 0 a) (hl : (aC a).length ≤ 10) (h1 : posI (aC a) id < (aC a).length → Q (.inl (some (vi (nI (posI (aC a) id)))), G x m)) (h2 : posI (aC a) id = (aC a).length → Q (.inr 2, Gu (1, 6) x m)) : Cl X (d + 1) 61 [vp 0 0, vi id] (G x m) Q := by
  refine vc_X10_foundAt (sp_posC h.1 hl ⟨_, _, rfl, ?_⟩)
  refine posV_neg (by omega) (fun hc => ?_) (fun hc => ?_)
  · rw [posV_in hc]; exact h1 hc
  · exact h2 hc
theorem sp_open {id : Int32} (h : relS m 0 a) (hl : (aR a).length ≤ 6) (h1 : posI (aR a) id < (aR a).length → Q (.inl (some (vi (nI (posI (aR a) id)))), G x m)) (h2 : posI (aR a) id = (aR a).length → Q (.inr 2, Gu (1, 6) x m)) : Cl X (d + 1) 62 [vp 0 0, vi id] (G x m) Q := by
  refine vc_X10_openAt (sp_posR h.2.1 hl ⟨_, _, rfl, ?_⟩)
  refine posV_neg (by omega) (fun hc => ?_) (fun hc => ?_)
  · rw [posV_in hc]; exact h1 hc
  · exact h2 hc
/-- a column of a found colour -/
theorem sp_red {id : Int32} (h : relS m 0 a) (hl : (aC a).length ≤ 10) (h1 : posI (aC a) id < (aC a).length → Q (.inl (some (vi (nI (rowD (aC a) (posI (aC a) id) 1)))), G x m)) (h2 : posI (aC a) id = (aC a).length → Q (.inr 2, Gu (1, 6) x m)) : Cl X (d + 2) 12 [vp 0 0, vi id] (G x m) Q := by
  refine vc_X10_red (sp_found h hl (fun hc => Or.inl ⟨_, _, rfl, ?_⟩) (fun hc => Or.inr ⟨_, _, _, rfl, h2 hc⟩))
  rw [nI_clamp (n := posI (aC a) id) (by omega), h.1.2.2 _ hc 1 (by decide)]
  exact ⟨inb_n (posI (aC a) id) 10 (by omega), h1 hc⟩
end FOUND
