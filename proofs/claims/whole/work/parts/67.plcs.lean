/-! ===== THE CLASS: PLACES, COUNTS ===== -/
section PLCS
variable {X : MX} {d : Nat} {x : Int64 × UInt64} {m : MI} {Q : MRes → Prop} {a : AS}
theorem sp_colourAt {p : Int32} (h : relS m 0 a) (hl : (aC a).length ≤ 10) (h1 : ∀ k, k < (aC a).length → p = nI k → Q (.inl (some (vi (nI (rowD (aC a) k 0)))), G x m)) (h2 : (p < 0 ∨ nI (aC a).length ≤ p) → Q (.inr 2, Gu (1, 6) x m)) : Cl X d 11 [vp 0 0, vi p] (G x m) Q := by
  refine vc_X10_colourAt ⟨fun c => h2 (Or.inl c), fun c => ?_⟩
  rw [h.1.1]
  rcases pk_ix p (n := (aC a).length) (by omega) with h9 | h9 | ⟨k, hk, rfl⟩
  · exact absurd h9 c
  · exact ⟨fun c2 => absurd c2 (Int32.not_lt.mpr h9), fun _ => h2 (Or.inr h9)⟩
  · refine ⟨fun _ => ?_, fun c2 => absurd (nI_lt hk (by omega)) c2⟩
    rw [nI_clamp (n := k) (by omega), h.1.2.2 k hk 0 (by decide)]
    exact ⟨inb_n k 10 (by omega), h1 k hk rfl⟩
theorem sp_reportAt {p : Int32} (h : relS m 0 a) (hl : (aR a).length ≤ 6) (h1 : ∀ k, k < (aR a).length → p = nI k → Q (.inl (some (vi (nI (rowD (aR a) k 0)))), G x m)) (h2 : (p < 0 ∨ nI (aR a).length ≤ p) → Q (.inr 2, Gu (1, 6) x m)) : Cl X d 20 [vp 0 0, vi p] (G x m) Q := by
  refine vc_X10_reportAt ⟨fun c => h2 (Or.inl c), fun c => ?_⟩
  rw [h.2.1.1]
  rcases pk_ix p (n := (aR a).length) (by omega) with h9 | h9 | ⟨k, hk, rfl⟩
  · exact absurd h9 c
  · exact ⟨fun c2 => absurd c2 (Int32.not_lt.mpr h9), fun _ => h2 (Or.inr h9)⟩
  · refine ⟨fun _ => ?_, fun c2 => absurd (nI_lt hk (by omega)) c2⟩
    rw [nI_clamp (n := k) (by omega), h.2.1.2.2 k hk 0 (by decide)]
    exact ⟨inb_n k 6 (by omega), h1 k hk rfl⟩
theorem sp_colourCount (h : relS m 0 a) (hQ : Q (.inl (some (vi (nI (aC a).length))), G x m)) : Cl X d 10 [vp 0 0] (G x m) Q := by
  refine vc_X10_colourCount ?_
  rw [h.1.1]
  exact hQ
end PLCS
