/-! ===== THE WORLD OF A SMALL STATE ===== -/
/-- classes' numbers and slots, and the array classes: ints, chars, longs, doubles, rows of ints, rows of states -/
abbrev MK : Type := va_G × (ClassId × (ClassId × (ClassId × (ClassId × (ClassId × ClassId)))))
def mtys (K : MK) : List (ClassId × FieldType) := [(K.2.1, .int), (K.2.2.1, .char), (K.2.2.2.1, .long), (K.2.2.2.2.1, .double), (K.2.2.2.2.2.1, .array .int), (K.2.2.2.2.2.2, .object "ColourOffice$State")]
def adr (ad : Nat → Nat) (p : MP) : Nat := ad (apl.idxOf p)
def pv (k : Nat) (p : MP) : Prop := ∃ j, j < k ∧ j < apn ∧ pj j = p
def entF (ad : Nat → Nat) (g : MG) (p : MP) (ci j : Nat) : Value := bif rfF ci j then va_rf ((g.1.2.2 p.1 p.2 j).map (adr ad)) else .int (g.2.2 p.1 p.2 j)
def entA (K : MK) (ad : Nat → Nat) (g : MG) (p : MP) (kind n : Nat) : ClassId × vp_A := match kind with
  | 1 => (K.2.1, (n, .inl (g.2.2 p.1 p.2)))
  | 2 => (K.2.2.1, (n, .inl (g.2.2 p.1 p.2)))
  | 3 => (K.2.2.2.2.2.1, (n, .inr (.inr (.inr (.inr (fun j => (g.1.2.2 p.1 p.2 j).map (adr ad)))))))
  | 4 => (K.2.2.2.2.2.2, (n, .inr (.inr (.inr (.inr (fun j => (g.1.2.2 p.1 p.2 j).map (adr ad)))))))
  | 5 => (K.2.2.2.1, (n, .inr (.inl (fun _ => g.2.1.1))))
  | _ => (K.2.2.2.2.1, (n, .inr (.inr (.inr (.inl (fun _ => g.2.1.2))))))
def ent (K : MK) (ad : Nat → Nat) (g : MG) (p : MP) : va_E :=
  bif Nat.beq (fam p.1).1 0 then .inr ((fam p.1).2.1, (List.range (fam p.1).2.2).map (entF ad g p (fam p.1).2.1)) else .inl (entA K ad g p (fam p.1).1 (fam p.1).2.2)
def mws (K : MK) (ad : Nat → Nat) (g : MG) : va_W := (List.range g.1.1).map (fun j => (ad j, ent K ad g (pj j)))
theorem apl_len : apl.length = apn := by decide +kernel
theorem apl_nd : apl.Nodup := by decide +kernel
theorem pj_get {j : Nat} (h : j < apn) : apl[j]? = some (pj j) := by
  have h1 : j < apl.length := by rw [apl_len]; exact h
  unfold pj
  rw [List.getD_eq_getElem?_getD, List.getElem?_eq_getElem h1]
  rfl
theorem pj_idx {j : Nat} (h : j < apn) : apl.idxOf (pj j) = j := by
  have h1 : j < apl.length := by rw [apl_len]; exact h
  have h2 : pj j = apl[j] := by
    have := pj_get h
    rw [List.getElem?_eq_getElem h1] at this
    exact (Option.some.inj this).symm
  rw [h2]
  exact List.Nodup.idxOf_getElem apl_nd j h1
theorem pj_inj {i j : Nat} (hi : i < apn) (hj : j < apn) (h : pj i = pj j) : i = j := by
  rw [← pj_idx hi, ← pj_idx hj, h]
theorem pv.idx {k : Nat} {p : MP} (h : pv k p) : apl.idxOf p < k ∧ apl.idxOf p < apn ∧ pj (apl.idxOf p) = p := by
  obtain ⟨j, h1, h2, rfl⟩ := h
  rw [pj_idx h2]
  exact ⟨h1, h2, rfl⟩
theorem pv.mono {k k' : Nat} {p : MP} (h : pv k p) (hk : k ≤ k') : pv k' p := by
  obtain ⟨j, h1, h2⟩ := h
  exact ⟨j, Nat.lt_of_lt_of_le h1 hk, h2⟩
theorem mws_get {K : MK} {ad : Nat → Nat} {g : MG} {j : Nat} (h : j < g.1.1) : (mws K ad g)[j]? = some (ad j, ent K ad g (pj j)) := by
  unfold mws
  rw [List.getElem?_map, List.getElem?_range h]
  rfl
theorem mws_at {K : MK} {ad : Nat → Nat} {g : MG} {p : MP} (h : pv g.1.1 p) : (mws K ad g)[apl.idxOf p]? = some (adr ad p, ent K ad g p) := by
  obtain ⟨h1, h2, h3⟩ := h.idx
  rw [mws_get h1, h3]
  rfl
theorem mws_len (K : MK) (ad : Nat → Nat) (g : MG) : (mws K ad g).length = g.1.1 := by simp [mws]
/-- a change of one cell -/
theorem mws_set {K : MK} {ad : Nat → Nat} {g g' : MG} {p : MP} (hp : pv g.1.1 p) (hk : g'.1.1 = g.1.1) (hka : g.1.1 ≤ apn) (ho : ∀ q : MP, q ≠ p → ent K ad g' q = ent K ad g q) : mws K ad g' = (mws K ad g).set (apl.idxOf p) (adr ad p, ent K ad g' p) := by
  obtain ⟨h1, h2, h3⟩ := hp.idx
  apply List.ext_getElem?
  intro i
  by_cases hi : i < g.1.1
  · rw [mws_get (by rw [hk]; exact hi)]
    by_cases e : i = apl.idxOf p
    · subst e
      rw [List.getElem?_set_self (by rw [mws_len]; exact hi), h3]
      rfl
    · rw [List.getElem?_set_ne (Ne.symm e), mws_get hi, ho]
      intro z
      exact e (pj_inj (Nat.lt_of_lt_of_le hi hka) h2 (z.trans h3.symm))
  · rw [List.getElem?_eq_none (by rw [mws_len, hk]; omega), List.getElem?_eq_none (by rw [List.length_set, mws_len]; omega)]
/-- one cell more -/
theorem mws_push {K : MK} {ad ad' : Nat → Nat} {g g' : MG} {a : Nat} (hk : g'.1.1 = g.1.1 + 1) (hka : g.1.1 < apn) (ha : ad' g.1.1 = a) (hag : ∀ j, j < g.1.1 → ad' j = ad j) (ho : ∀ j, j < g.1.1 → ent K ad' g' (pj j) = ent K ad g (pj j)) : mws K ad' g' = mws K ad g ++ [(a, ent K ad' g' (pj g.1.1))] := by
  unfold mws
  rw [hk, List.range_succ, List.map_append]
  congr 1
  · apply List.map_congr_left
    intro j hj
    have hj := List.mem_range.mp hj
    rw [hag j hj, ho j hj]
  · rw [List.map_singleton, ha]
/-- the same cells, under other addresses for those that are not there -/
theorem mws_agree {K : MK} {ad ad' : Nat → Nat} {g : MG} (hag : ∀ j, j < g.1.1 → ad' j = ad j) (ho : ∀ j, j < g.1.1 → ent K ad' g (pj j) = ent K ad g (pj j)) : mws K ad' g = mws K ad g := by
  unfold mws
  apply List.map_congr_left
  intro j hj
  have hj := List.mem_range.mp hj
  rw [hag j hj, ho j hj]
