/-! ===== SOUNDNESS, SEVENTH: which values a step leaves; room only grows ===== -/
theorem set_mem {L : ML} {i : Nat} {v : Option MV} {j : Nat} {w : MV} (h : (L.set i v)[j]? = some (some w)) : v = some w ∨ L[j]? = some (some w) := by
  by_cases e : i = j
  · subst e
    rcases Nat.lt_or_ge i L.length with hl | hl
    · rw [List.getElem?_set_self hl] at h
      exact Or.inl (Option.some.inj h)
    · rw [List.getElem?_eq_none (by rw [List.length_set]; exact hl)] at h
      cases h
  · rw [List.getElem?_set_ne e] at h
    exact Or.inr h
theorem mstore_mem {L L' : ML} {i : Nat} {v : MV} (h : mstore L i v = some L') {j : Nat} {w : MV} (hj : L'[j]? = some (some w)) : w = v ∨ L[j]? = some (some w) := by
  have two : ∀ {M : ML}, some M = some L' → M = L.set i (some v) → w = v ∨ L[j]? = some (some w) := by
    intro M h1 h2
    cases h1
    rw [h2] at hj
    rcases set_mem hj with h | h
    · exact Or.inl (Option.some.inj h).symm
    · exact Or.inr h
  unfold mstore at h
  cases h2 : Nat.beq (mcat v) 2 with
  | true =>
    rw [h2, cond_true] at h
    obtain ⟨-, h⟩ := bif_some h
    cases h
    rcases set_mem hj with h | h
    · cases h
    · rcases set_mem h with h | h
      · exact Or.inl (Option.some.inj h).symm
      · exact Or.inr h
  | false =>
    rw [h2, cond_false] at h
    cases hb : Nat.blt (i + 1) L.length with
    | true => rw [hb, cond_true] at h; exact two h rfl
    | false =>
      rw [hb, cond_false] at h
      obtain ⟨-, h⟩ := bif_some h
      cases i with
      | zero => exact two h rfl
      | succ k =>
        dsimp only at h
        split at h
        · next w e =>
          cases hw : Nat.beq (mcat w) 2 with
          | true => rw [hw] at h; cases h
          | false => rw [hw] at h; exact two h rfl
        · exact two h rfl
theorem VS.push {g : MG} {L : ML} {st : List MV} {v : MV} (h : VS g L st) (hv : ValV g v) : VS g L (v :: st) := ⟨fun w hw => by
  rcases List.mem_cons.mp hw with rfl | hw
  · exact hv
  · exact h.1 w hw, h.2⟩
theorem VS.pop {g : MG} {L : ML} {st : List MV} {v : MV} (h : VS g L (v :: st)) : VS g L st := ⟨fun w hw => h.1 w (List.mem_cons_of_mem _ hw), h.2⟩
theorem VS.top {g : MG} {L : ML} {st : List MV} {v : MV} (h : VS g L (v :: st)) : ValV g v := h.1 v List.mem_cons_self
theorem VS.sto {g : MG} {L L' : ML} {st : List MV} {i : Nat} {v : MV} (h : VS g L st) (hm : mstore L i v = some L') (hv : ValV g v) : VS g L' st := ⟨h.1, fun j w hj => by
  rcases mstore_mem hm hj with rfl | h2
  · exact hv
  · exact h.2 j w h2⟩
theorem VS.get {g : MG} {L : ML} {st : List MV} {i : Nat} {v : MV} (h : VS g L st) (hm : mload L i = some v) : ValV g v := h.2 i v (mload_ok hm)
theorem ValV.up {g g1 : MG} (hk : g.1.1 ≤ g1.1.1) {v : MV} (h : ValV g v) : ValV g1 v := by
  rcases v with x | q | q | v
  · trivial
  · exact pv.mono h hk
  · exact h
  · trivial
theorem VS.up {g g1 : MG} {L : ML} {st : List MV} (h : VS g L st) (hk : g.1.1 ≤ g1.1.1) : VS g1 L st := ⟨fun v hv => (h.1 v hv).up hk, fun i v hv => (h.2 i v hv).up hk⟩
theorem sp_val {pc len : Nat} {i : Instr} {o1 o2 o3 o4 : Nat} {L : ML} {st : List MV} {g : MG} {a : MA} {S' : MS} (hs : sp pc len i o1 o2 o3 o4 L st g = some a) (ha : Nx a S') (hV : VS g L st) : S'.2.2.2 = g ∧ VS g S'.2.1 S'.2.2.1 := by
  unfold sp at hs
  split at hs
  iterate 4 (
    · obtain ⟨v, h1, h2⟩ := elim_some hs
      obtain ⟨h3, h4⟩ := bif_some h2
      obtain rfl := go_nx h4 ha
      exact ⟨rfl, hV.push (hV.get h1)⟩)
  iterate 2 (
    · obtain ⟨v, h1, h2⟩ := elim_some hs
      split at h2
      · obtain rfl := go_nx h2 ha
        exact ⟨rfl, hV.push trivial⟩
      · cases h2)
  iterate 2 (
    · split at hs
      · obtain ⟨L2, h1, h2⟩ := elim_some hs
        obtain rfl := go_nx h2 ha
        exact ⟨rfl, hV.pop.sto h1 trivial⟩
      · cases hs)
  iterate 2 (
    · split at hs
      · obtain ⟨L2, h1, h2⟩ := elim_some hs
        obtain rfl := go_nx h2 ha
        exact ⟨rfl, hV.pop.sto h1 hV.top⟩
      · obtain ⟨hq, hs⟩ := bif_some hs
        obtain ⟨L2, h1, h2⟩ := elim_some hs
        obtain rfl := go_nx h2 ha
        exact ⟨rfl, hV.pop.sto h1 hV.top⟩
      · cases hs)
  iterate 2 (
    · split at hs
      · obtain ⟨L2, h1, h2⟩ := elim_some hs
        obtain rfl := go_nx h2 ha
        exact ⟨rfl, hV.pop.sto h1 trivial⟩
      · cases hs)
  · split at hs
    · obtain ⟨L2, h1, h2⟩ := elim_some hs
      obtain rfl := go_nx h2 ha
      exact ⟨rfl, hV.sto h1 trivial⟩
    · cases hs
  iterate 3 (
    · obtain rfl := go_nx hs ha
      exact ⟨rfl, hV.push trivial⟩)
  iterate 2 (
    · obtain ⟨h1, h2⟩ := bif_some hs
      obtain rfl := go_nx h2 ha
      exact ⟨rfl, hV.push trivial⟩)
  · obtain rfl := go_nx hs ha
    exact ⟨rfl, hV.push trivial⟩
  iterate 2 (
    · obtain ⟨h1, h2⟩ := bif_some hs
      obtain rfl := go_nx h2 ha
      exact ⟨rfl, hV.push trivial⟩)
  · split at hs
    · obtain ⟨h1, h2⟩ := bif_some hs
      obtain rfl := go_nx h2 ha
      exact ⟨rfl, hV.push hV.top⟩
    · cases hs
  · split at hs
    · obtain ⟨h1, h2⟩ := bif_some hs
      obtain rfl := go_nx h2 ha
      exact ⟨rfl, (hV.push hV.pop.top).push hV.top⟩
    · cases hs
  · split at hs
    · obtain ⟨h1, h2⟩ := bif_some hs
      obtain rfl := go_nx h2 ha
      exact ⟨rfl, hV.pop⟩
    · cases hs
  iterate 5 (
    · split at hs
      · obtain rfl := go_nx hs ha
        exact ⟨rfl, hV.pop.push trivial⟩
      · cases hs)
  · split at hs
    · obtain ⟨h1, rfl⟩ := gif_nx hs ha
      exact ⟨rfl, hV.pop.push trivial⟩
    · cases hs
  iterate 2 (
    · split at hs
      · obtain ⟨h1, rfl⟩ := gif_nx hs ha
        exact ⟨rfl, hV.pop.pop.push trivial⟩
      · cases hs)
  iterate 3 (
    · split at hs
      · obtain rfl := go_nx hs ha
        exact ⟨rfl, hV.pop.pop.push trivial⟩
      · cases hs)
  · obtain rfl := go_nx hs ha
    exact ⟨rfl, hV⟩
  · split at hs
    · obtain rfl := go_nx hs ha
      exact ⟨rfl, hV.pop⟩
    · cases hs
  · split at hs
    · obtain rfl := go_nx hs ha
      exact ⟨rfl, hV.pop.pop⟩
    · cases hs
  · split at hs
    · obtain rfl := go_nx hs ha
      exact ⟨rfl, hV.pop⟩
    · cases hs
  · split at hs
    · split at hs
      · obtain ⟨h1, rfl⟩ := gif_nx hs ha
        exact ⟨rfl, hV.pop.pop.push trivial⟩
      · cases hs
    · cases hs
/-- a world's references, without the heap -/
def Rf (g : MG) : Prop := g.1.1 ≤ apn ∧ ∀ (f i k : Nat) (w : MP), pv g.1.1 (f, i) → k < (fam f).2.2 → refpl f k = true → g.1.2.2 f i k = some w → pv g.1.1 w
/-- g1 comes behind g -/
def Le (g g1 : MG) : Prop := g.1.1 ≤ g1.1.1 ∧ g.1.2.1.1 ≤ g1.1.2.1.1 ∧ g.1.2.1.2 ≤ g1.1.2.1.2
theorem Le.rf (g : MG) : Le g g := ⟨Nat.le_refl _, Nat.le_refl _, Nat.le_refl _⟩
theorem Le.tr {a b c : MG} (h : Le a b) (k : Le b c) : Le a c := ⟨Nat.le_trans h.1 k.1, Nat.le_trans h.2.1 k.2.1, Nat.le_trans h.2.2 k.2.2⟩
theorem sl_val {X : MX} {mi pc len : Nat} {i : Instr} {o1 o2 o3 o4 : Nat} {L : ML} {st : List MV} {g : MG} {a : MA} {S' : MS} (hck : chkF mi i o1 o2 o3 o4 = true) (hs : sl X pc len i o1 o2 o3 o4 L st g = some a) (ha : Nx a S') (hR : Rf g) (hV : VS g L st) : Le g S'.2.2.2 ∧ VS S'.2.2.2 S'.2.1 S'.2.2.1 := by
  unfold sl at hs
  split at hs
  · -- getfield
    split at hs
    · next q r =>
      obtain ⟨h1, h2⟩ := bif_some hs
      simp only [Bool.and_eq_true] at h1
      obtain ⟨g1, g2, g3, g4⟩ := h1
      have g2 := nat_beq g2
      have g3 := nat_beq g3
      have g4 := Nat.le_of_ble_eq_true g4
      cases h3 : Nat.beq o3 1 with
      | true =>
        rw [h3, cond_true] at h2
        split at h2
        · next w hw =>
          obtain rfl := go_nx h2 ha
          refine ⟨Le.rf g, hV.pop.push (hR.2 q.1 q.2 o2 w hV.top g4 ?_ hw)⟩
          unfold chkF at hck
          dsimp only at hck
          rw [g1, cond_true] at hck
          split at hck
          · rw [Bool.and_eq_true] at hck
            unfold refpl
            rw [g2, g3, eq_of_beq hck.2, h3]; rfl
          · cases hck
        · cases h2
      | false =>
        rw [h3, cond_false] at h2
        obtain rfl := go_nx h2 ha
        exact ⟨Le.rf g, hV.pop.push trivial⟩
    · next k n r =>
      have hn : n < 10 := hV.top
      cases q1 : (Nat.beq o1 100 && Nat.beq k 2) with
      | true =>
        rw [q1, cond_true] at hs
        obtain rfl := go_nx hs ha
        exact ⟨Le.rf g, hV.pop.push hn⟩
      | false =>
        rw [q1, cond_false] at hs
        cases q2 : (Nat.beq o1 101 && Nat.beq k 2) with
        | true =>
          rw [q2, cond_true] at hs
          obtain rfl := go_nx hs ha
          exact ⟨Le.rf g, hV.pop.push trivial⟩
        | false =>
          rw [q2, cond_false] at hs
          cases q3 : (Nat.beq o1 102 && Nat.beq k 3) with
          | true =>
            rw [q3, cond_true] at hs
            obtain rfl := go_nx hs ha
            exact ⟨Le.rf g, hV.pop.push hn⟩
          | false =>
            rw [q3, cond_false] at hs
            obtain ⟨q4, hs⟩ := bif_some hs
            obtain rfl := go_nx hs ha
            exact ⟨Le.rf g, hV.pop.push trivial⟩
    · cases hs
  · -- putfield
    split at hs
    · obtain ⟨h1, h2⟩ := bif_some hs
      obtain ⟨h3, rfl⟩ := gif_nx h2 ha
      exact ⟨Le.rf g, (hV.pop.pop).up (g1 := (g.1, (g.2.1, _))) (Nat.le_refl _)⟩
    · obtain ⟨h1, h2⟩ := bif_some hs
      obtain rfl := go_nx h2 ha
      exact ⟨Le.rf g, (hV.pop.pop).up (g1 := ((g.1.1, (g.1.2.1, _)), g.2)) (Nat.le_refl _)⟩
    · cases hs
  · -- getstatic
    cases h20 : Nat.beq o1 20 with
    | true =>
      rw [h20, cond_true] at hs
      obtain rfl := go_nx hs ha
      exact ⟨Le.rf g, hV.push trivial⟩
    | false =>
      rw [h20, cond_false] at hs
      obtain ⟨h1, h2⟩ := bif_some hs
      obtain rfl := go_nx h2 ha
      exact ⟨Le.rf g, hV.push (show (0 : Nat) < 10 by omega)⟩
  · -- arraylength
    split at hs
    · obtain ⟨h1, h2⟩ := bif_some hs
      obtain rfl := go_nx h2 ha
      exact ⟨Le.rf g, hV.pop.push trivial⟩
    · next k n r =>
      cases q1 : Nat.beq k 0 with
      | true =>
        rw [q1, cond_true] at hs
        obtain rfl := go_nx hs ha
        exact ⟨Le.rf g, hV.pop.push trivial⟩
      | false =>
        rw [q1, cond_false] at hs
        cases q2 : Nat.beq k 1 with
        | true =>
          rw [q2, cond_true] at hs
          obtain rfl := go_nx hs ha
          exact ⟨Le.rf g, hV.pop.push trivial⟩
        | false =>
          rw [q2, cond_false] at hs
          obtain ⟨q3, hs⟩ := bif_some hs
          obtain rfl := go_nx hs ha
          exact ⟨Le.rf g, hV.pop.push trivial⟩
    · cases hs
  · -- iaload
    split at hs
    · obtain ⟨h1, h2⟩ := bif_some hs
      obtain ⟨h3, rfl⟩ := gif_nx h2 ha
      exact ⟨Le.rf g, hV.pop.pop.push trivial⟩
    · next j k n r =>
      cases q1 : Nat.beq k 0 with
      | true =>
        rw [q1, cond_true] at hs
        obtain ⟨h3, rfl⟩ := gif_nx hs ha
        exact ⟨Le.rf g, hV.pop.pop.push trivial⟩
      | false =>
        rw [q1, cond_false] at hs
        obtain ⟨q3, hs⟩ := bif_some hs
        obtain ⟨h3, rfl⟩ := gif_nx hs ha
        exact ⟨Le.rf g, hV.pop.pop.push trivial⟩
    · cases hs
  iterate 2 (
    · split at hs
      · obtain ⟨h1, h2⟩ := bif_some hs
        obtain ⟨h3, rfl⟩ := gif_nx h2 ha
        exact ⟨Le.rf g, hV.pop.pop.push trivial⟩
      · cases hs)
  · -- aaload
    split at hs
    · next j q r =>
      obtain ⟨h1, h2⟩ := bif_some hs
      split at h2
      · next w hw =>
        obtain ⟨h3, rfl⟩ := gif_nx h2 ha
        refine ⟨Le.rf g, hV.pop.pop.push (hR.2 q.1 q.2 j.toNatClampNeg w hV.pop.top (inb_lt h3) ?_ hw)⟩
        unfold refpl
        rcases Bool.or_eq_true _ _ ▸ h1 with h | h
        · rw [nat_beq h]; rfl
        · rw [nat_beq h]; rfl
      · cases h2
    · next j k n r =>
      obtain ⟨q3, hs⟩ := bif_some hs
      obtain ⟨h3, rfl⟩ := gif_nx hs ha
      exact ⟨Le.rf g, hV.pop.pop.push (inb_lt h3)⟩
    · cases hs
  iterate 2 (
    · split at hs
      · obtain ⟨h1, h2⟩ := bif_some hs
        obtain ⟨h3, rfl⟩ := gif_nx h2 ha
        exact ⟨Le.rf g, (hV.pop.pop.pop).up (g1 := (g.1, (g.2.1, _))) (Nat.le_refl _)⟩
      · cases hs)
  · split at hs
    · obtain ⟨h1, h2⟩ := bif_some hs
      obtain ⟨h3, rfl⟩ := gif_nx h2 ha
      exact ⟨Le.rf g, (hV.pop.pop.pop).up (g1 := ((g.1.1, (g.1.2.1, _)), g.2)) (Nat.le_refl _)⟩
    · cases hs
  · split at hs
    · obtain ⟨h1, h2⟩ := bif_some hs
      obtain ⟨h3, rfl⟩ := gif_nx h2 ha
      exact ⟨Le.rf g, hV.pop.pop.push trivial⟩
    · cases hs
  · split at hs
    · obtain ⟨h1, h2⟩ := bif_some hs
      obtain ⟨h3, rfl⟩ := gif_nx h2 ha
      exact ⟨Le.rf g, (hV.pop.pop.pop).up (g1 := (g.1, (_, g.2.2))) (Nat.le_refl _)⟩
    · cases hs
  · split at hs
    · obtain ⟨h1, h2⟩ := bif_some hs
      obtain ⟨h3, rfl⟩ := gif_nx h2 ha
      exact ⟨Le.rf g, hV.pop.pop.push trivial⟩
    · cases hs
  · split at hs
    · obtain ⟨h1, h2⟩ := bif_some hs
      obtain ⟨h3, rfl⟩ := gif_nx h2 ha
      exact ⟨Le.rf g, (hV.pop.pop.pop).up (g1 := (g.1, (_, g.2.2))) (Nat.le_refl _)⟩
    · cases hs
  · -- new
    cases q0 : Nat.beq o1 0 with
    | true =>
      rw [q0, cond_true] at hs
      split at hs
      · next x g1 hm =>
        obtain rfl := go_nx hs ha
        obtain ⟨h1, rfl, h2, h3, h4, rfl⟩ := mnew_ok hm
        exact ⟨⟨Nat.le_succ _, Nat.le_succ _, Nat.le_add_right _ _⟩, (hV.up (Nat.le_succ _)).push ⟨g.1.1, Nat.lt_succ_self _, h1, rfl⟩⟩
      · cases hs
    | false =>
      rw [q0, cond_false] at hs
      obtain ⟨h1, h2⟩ := bif_some hs
      cases h2
      rcases ha with h | h <;> cases h
  iterate 2 (
    · split at hs
      · split at hs
        · next x g1 hm =>
          obtain ⟨h6, rfl⟩ := gif_nx hs ha
          obtain ⟨h1, rfl, h2, h3, h4, rfl⟩ := mnew_ok hm
          exact ⟨⟨Nat.le_succ _, Nat.le_succ _, Nat.le_add_right _ _⟩, (hV.pop.up (Nat.le_succ _)).push ⟨g.1.1, Nat.lt_succ_self _, h1, rfl⟩⟩
        · cases hs
      · cases hs)
  · split at hs
    · split at hs
      · next x g1 hm =>
        obtain ⟨h6, rfl⟩ := gif_nx hs ha
        obtain ⟨h1, rfl, h2, h3, h4, rfl⟩ := mnew2_ok hm
        have h9 : g.1.1 ≤ g.1.1 + 1 + (fam (pj g.1.1).1).2.2 := by omega
        have h8 : g.1.1 < g.1.1 + 1 + (fam (pj g.1.1).1).2.2 := by omega
        have h7 : g.1.1 < apn := by omega
        refine ⟨⟨h9, ?_, ?_⟩, (hV.pop.pop.up h9).push ⟨g.1.1, h8, h7, rfl⟩⟩
        · show g.1.2.1.1 ≤ g.1.2.1.1 + 1 + _; omega
        · show g.1.2.1.2 ≤ g.1.2.1.2 + _ + _; omega
      · cases hs
    · cases hs
  · obtain ⟨h1, h2⟩ := sp_val hs ha hV
    rw [h1]
    exact ⟨Le.rf g, h2⟩
