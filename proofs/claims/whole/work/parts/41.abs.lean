/-! ===== THE OFFICE AS MATHEMATICS, AND ITS TWO FORMS IN THE CELLS ===== -/
abbrev Row : Type := Nat → Nat
/-- found colours, open reports; next ids, day, metric; coins, returned -/
abbrev AS : Type := (List Row × List Row) × ((Nat × (Nat × (Nat × Nat))) × (Int32 × Int32))
abbrev aC (a : AS) : List Row := a.1.1
abbrev aR (a : AS) : List Row := a.1.2
abbrev aXC (a : AS) : Nat := a.2.1.1
abbrev aXR (a : AS) : Nat := a.2.1.2.1
abbrev aDay (a : AS) : Nat := a.2.1.2.2.1
abbrev aMet (a : AS) : Nat := a.2.1.2.2.2
abbrev aCo (a : AS) : Int32 := a.2.2.1
abbrev aRt (a : AS) : Int32 := a.2.2.2
def rowD (l : List Row) (k : Nat) : Row := l.getD k (fun _ => 0)
def posI (l : List Row) (id : Int32) : Nat := fa_first (fun k => decide (nI (rowD l k 0) = id)) l.length
def posV (l : List Row) (id : Int32) : Int32 := if posI l id < l.length then nI (posI l id) else -1
/-- a table of the class: families of the table and of its rows, rows a table, the table's number -/
def relT (m : MI) (ft fr cap s : Nat) (l : List Row) (nx : Nat) : Prop := m ft s 1 = nI l.length ∧ m ft s 2 = nI nx ∧ ∀ k, k < l.length → ∀ o, o < 6 → m fr (cap * s + k) o = nI (rowD l k o)
def relS (m : MI) (s : Nat) (a : AS) : Prop := relT m 2 5 10 s (aC a) (aXC a) ∧ relT m 3 7 6 s (aR a) (aXR a) ∧ m 1 s 2 = nI (aDay a) ∧ m 1 s 3 = nI (aMet a) ∧ m 1 s 4 = aCo a ∧ m 1 s 5 - m 1 s 6 = aCo a ∧ m 1 s 7 = aRt a
/-- the same in one row of ints -/
def relR (f : Nat → Int32) (a : AS) : Prop := (f 0 = nI (aC a).length ∧ f 1 = nI (aR a).length ∧ f 2 = nI (aXC a) ∧ f 3 = nI (aXR a) ∧ f 4 = nI (aDay a) ∧ f 5 = nI (aMet a) ∧ f 6 = aCo a ∧ f 7 = aRt a) ∧
  (∀ k, k < (aC a).length → ∀ o, o < 6 → f (8 + 8 * k + o) = nI (rowD (aC a) k o)) ∧ ∀ k, k < (aR a).length → ∀ o, o < 6 → f (88 + 8 * k + o) = nI (rowD (aR a) k o)
def okMet (n : Nat) : Prop := n = 109 ∨ n = 115 ∨ n = 103
def okC (B : Nat) (r : Row) : Prop := r 0 < B ∧ r 1 ≤ 99 ∧ r 2 ≤ 99 ∧ r 3 ≤ 99 ∧ 1 ≤ r 4 ∧ r 4 ≤ 9
def okRp (B : Nat) (r : Row) : Prop := r 0 < B ∧ r 1 ≤ 99 ∧ r 2 ≤ 99 ∧ r 3 ≤ 99 ∧ r 4 ≤ 9999 ∧ 1 ≤ r 5 ∧ r 5 ≤ 99
def okA (B : Nat) (a : AS) : Prop := ((aC a).length ≤ 10 ∧ (aR a).length ≤ 6 ∧ aXC a ≤ B ∧ aXR a ≤ B ∧ aDay a ≤ B ∧ okMet (aMet a)) ∧ ((∀ r ∈ aC a, okC (aXC a) r ∧ r 5 ≤ aDay a) ∧ (aC a).Pairwise (fun r q => r 0 < q 0)) ∧ ((∀ r ∈ aR a, okRp (aXR a) r) ∧ (aR a).Pairwise (fun r q => r 0 < q 0))
theorem rowD_mem {l : List Row} {k : Nat} (h : k < l.length) : rowD l k ∈ l := by
  unfold rowD
  rw [List.getD_eq_getElem?_getD, List.getElem?_eq_getElem h]
  exact List.getElem_mem h
theorem rowD_get {l : List Row} {k : Nat} (h : k < l.length) : l[k]? = some (rowD l k) := by
  unfold rowD
  rw [List.getD_eq_getElem?_getD, List.getElem?_eq_getElem h]; rfl
theorem posI_le (l : List Row) (id : Int32) : posI l id ≤ l.length := fa_first_le _ _
theorem posI_at {l : List Row} {id : Int32} {k : Nat} (hk : k < l.length) (h1 : nI (rowD l k 0) = id) (h2 : ∀ i, i < k → ¬ nI (rowD l i 0) = id) : posI l id = k := by
  unfold posI
  have h0 := fa_first_no (fun k => decide (nI (rowD l k 0) = id)) l.length
  have h3 := fa_first_yes (fun k => decide (nI (rowD l k 0) = id)) l.length
  generalize fa_first (fun k => decide (nI (rowD l k 0) = id)) l.length = q at h0 h3 ⊢
  rcases Nat.lt_trichotomy q k with h | h | h
  · exact absurd (of_decide_eq_true (h3 (by omega))) (h2 q h)
  · exact h
  · exact absurd h1 (of_decide_eq_false (h0 k h))
theorem posI_no {l : List Row} {id : Int32} (h : ∀ i, i < l.length → ¬ nI (rowD l i 0) = id) : posI l id = l.length := by
  have h1 := posI_le l id
  unfold posI at h1 ⊢
  have h3 := fa_first_yes (fun k => decide (nI (rowD l k 0) = id)) l.length
  generalize fa_first (fun k => decide (nI (rowD l k 0) = id)) l.length = q at h1 h3 ⊢
  rcases Nat.lt_or_ge q l.length with h2 | h2
  · exact absurd (of_decide_eq_true (h3 h2)) (h q h2)
  · omega
theorem posI_id {l : List Row} {id : Int32} (h : posI l id < l.length) : nI (rowD l (posI l id) 0) = id := of_decide_eq_true (fa_first_yes (fun k => decide (nI (rowD l k 0) = id)) l.length h)
/-- writes that leave a place alone -/
theorem mup_eq (m : MI) (f i k : Nat) (v : Int32) : mup m f i k v f i k = v := by
  unfold mup
  rw [beq_t rfl, beq_t rfl, beq_t rfl]; rfl
theorem mup_no {m : MI} {f i k f' i' k' : Nat} {v : Int32} (h : ¬ (f' = f ∧ i' = i ∧ k' = k)) : mup m f i k v f' i' k' = m f' i' k' := by
  unfold mup
  cases h1 : (Nat.beq f' f && (Nat.beq i' i && Nat.beq k' k)) with
  | false => rfl
  | true =>
    rw [Bool.and_eq_true, Bool.and_eq_true] at h1
    exact absurd ⟨nat_beq h1.1, nat_beq h1.2.1, nat_beq h1.2.2⟩ h
theorem mup_if (m : MI) (f i k f' i' k' : Nat) (v : Int32) : mup m f i k v f' i' k' = if f' = f ∧ i' = i ∧ k' = k then v else m f' i' k' := by
  by_cases h : f' = f ∧ i' = i ∧ k' = k
  · rw [if_pos h]
    obtain ⟨rfl, rfl, rfl⟩ := h
    exact mup_eq _ _ _ _ _
  · rw [if_neg h]
    exact mup_no h
theorem inb_of {n N : Nat} (h : n < N) (hN : N < 2 ^ 31) : inb (nI n) N = true := decide_eq_true (nI_in h hN)
theorem inb_n {x : Int32} (n N : Nat) (h : n < N) (hx : x = nI n := by rfl) (hN : N < 2 ^ 31 := by omega) : inb x N = true := by rw [hx]; exact inb_of h hN
