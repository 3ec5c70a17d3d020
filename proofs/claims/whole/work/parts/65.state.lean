/-! ===== A STATE OF THE CLASS COPIED (draft) ===== -/
def inSt (s f i : Nat) : Prop := (f = 1 ∧ i = s) ∨ (f = 2 ∧ i = s) ∨ (f = 3 ∧ i = s) ∨ (f = 5 ∧ 10 * s ≤ i ∧ i < 10 * s + 10) ∨ (f = 7 ∧ 6 * s ≤ i ∧ i < 6 * s + 6)
/-- what lies elsewhere is what it was -/
def frS (s : Nat) (m m9 : MI) : Prop := ∀ f i k, ¬ inSt s f i → m9 f i k = m f i k
theorem frS.rf (s : Nat) (m : MI) : frS s m m := fun _ _ _ _ => rfl
theorem frS.tr {s : Nat} {a b c : MI} (h : frS s a b) (k : frS s b c) : frS s a c := fun f i j hn => (k f i j hn).trans (h f i j hn)
theorem frS.up {s f i k : Nat} {v : Int32} {m : MI} (h : inSt s f i) : frS s m (mup m f i k v) := fun f9 i9 k9 hn => mup_no (fun z => hn (by rw [z.1, z.2.1]; exact h))
theorem relT.fr {m m9 : MI} {ft fr cap s nx : Nat} {l : List Row} (h : relT m ft fr cap s l nx) (h1 : ∀ k, m9 ft s k = m ft s k) (h2 : ∀ k, k < l.length → ∀ o, m9 fr (cap * s + k) o = m fr (cap * s + k) o) : relT m9 ft fr cap s l nx :=
  ⟨(h1 1).trans h.1, (h1 2).trans h.2.1, fun k hk o ho => (h2 k hk o).trans (h.2.2 k hk o ho)⟩
theorem relS.fr {m m9 : MI} {s t : Nat} {a : AS} (h : relS m t a) (hC : (aC a).length ≤ 10) (hR : (aR a).length ≤ 6) (hn : s ≠ t) (hf : frS s m m9) : relS m9 t a := by
  have o : ∀ f k, f = 1 ∨ f = 2 ∨ f = 3 → m9 f t k = m f t k := fun f k hk => hf f t k (by unfold inSt; omega)
  refine ⟨h.1.fr (fun k => o 2 k (by omega)) (fun k hk c => hf 5 _ c (by unfold inSt; omega)), h.2.1.fr (fun k => o 3 k (by omega)) (fun k hk c => hf 7 _ c (by unfold inSt; omega)), ?_, ?_, ?_, ?_, ?_⟩
  · rw [o 1 2 (by omega)]; exact h.2.2.1
  · rw [o 1 3 (by omega)]; exact h.2.2.2.1
  · rw [o 1 4 (by omega)]; exact h.2.2.2.2.1
  · rw [o 1 5 (by omega), o 1 6 (by omega)]; exact h.2.2.2.2.2.1
  · rw [o 1 7 (by omega)]; exact h.2.2.2.2.2.2
section CPS
variable {X : MX} {d : Nat} {x : Int64 × UInt64} {m : MI} {Q : MRes → Prop} {s q : Nat} {a : AS}
theorem ct_fr (n1 n2 n3 n4 : Nat) (h1 : n1 ≤ 10) (h2 : n3 ≤ 6) : frS s m (ctR (ctC m s q n1 n2) s q n3 n4) := fun f i k hn => by
  unfold inSt at hn
  rw [ctR_no (by omega) (by omega), ctC_no (by omega) (by omega)]
end CPS
