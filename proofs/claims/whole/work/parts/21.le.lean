/-! ===== SOUNDNESS, NINTH: room only grows; what a call step is ===== -/
theorem sp_g {pc len : Nat} {i : Instr} {o1 o2 o3 o4 : Nat} {L : ML} {st : List MV} {g : MG} {a : MA} {S' : MS} (hs : sp pc len i o1 o2 o3 o4 L st g = some a) (ha : Nx a S') : S'.2.2.2 = g := by
  unfold sp at hs
  split at hs
  iterate 4 (
    · obtain ⟨v, h1, h2⟩ := elim_some hs
      obtain ⟨h3, h4⟩ := bif_some h2
      obtain rfl := go_nx h4 ha
      rfl)
  iterate 2 (
    · obtain ⟨v, h1, h2⟩ := elim_some hs
      split at h2
      · obtain rfl := go_nx h2 ha
        rfl
      · cases h2)
  iterate 2 (
    · split at hs
      · obtain ⟨L2, h1, h2⟩ := elim_some hs
        obtain rfl := go_nx h2 ha
        rfl
      · cases hs)
  iterate 2 (
    · split at hs
      · obtain ⟨L2, h1, h2⟩ := elim_some hs
        obtain rfl := go_nx h2 ha
        rfl
      · obtain ⟨hq, hs⟩ := bif_some hs
        obtain ⟨L2, h1, h2⟩ := elim_some hs
        obtain rfl := go_nx h2 ha
        rfl
      · cases hs)
  iterate 2 (
    · split at hs
      · obtain ⟨L2, h1, h2⟩ := elim_some hs
        obtain rfl := go_nx h2 ha
        rfl
      · cases hs)
  · split at hs
    · obtain ⟨L2, h1, h2⟩ := elim_some hs
      obtain rfl := go_nx h2 ha
      rfl
    · cases hs
  iterate 3 (
    · obtain rfl := go_nx hs ha
      rfl)
  iterate 2 (
    · obtain ⟨h1, h2⟩ := bif_some hs
      obtain rfl := go_nx h2 ha
      rfl)
  · obtain rfl := go_nx hs ha
    rfl
  iterate 2 (
    · obtain ⟨h1, h2⟩ := bif_some hs
      obtain rfl := go_nx h2 ha
      rfl)
  · split at hs
    · obtain ⟨h1, h2⟩ := bif_some hs
      obtain rfl := go_nx h2 ha
      rfl
    · cases hs
  · split at hs
    · obtain ⟨h1, h2⟩ := bif_some hs
      obtain rfl := go_nx h2 ha
      rfl
    · cases hs
  · split at hs
    · obtain ⟨h1, h2⟩ := bif_some hs
      obtain rfl := go_nx h2 ha
      rfl
    · cases hs
  iterate 5 (
    · split at hs
      · obtain rfl := go_nx hs ha
        rfl
      · cases hs)
  · split at hs
    · obtain ⟨h1, rfl⟩ := gif_nx hs ha
      rfl
    · cases hs
  iterate 2 (
    · split at hs
      · obtain ⟨h1, rfl⟩ := gif_nx hs ha
        rfl
      · cases hs)
  iterate 3 (
    · split at hs
      · obtain rfl := go_nx hs ha
        rfl
      · cases hs)
  · obtain rfl := go_nx hs ha
    rfl
  · split at hs
    · obtain rfl := go_nx hs ha
      rfl
    · cases hs
  · split at hs
    · obtain rfl := go_nx hs ha
      rfl
    · cases hs
  · split at hs
    · obtain rfl := go_nx hs ha
      rfl
    · cases hs
  · split at hs
    · split at hs
      · obtain ⟨h1, rfl⟩ := gif_nx hs ha
        rfl
      · cases hs
    · cases hs
theorem sl_le {X : MX} {pc len : Nat} {i : Instr} {o1 o2 o3 o4 : Nat} {L : ML} {st : List MV} {g : MG} {a : MA} {S' : MS} (hs : sl X pc len i o1 o2 o3 o4 L st g = some a) (ha : Nx a S') : Le g S'.2.2.2 := by
  unfold sl at hs
  split at hs
  · -- getfield
    split at hs
    · next q r =>
      obtain ⟨h1, h2⟩ := bif_some hs
      simp only [Bool.and_eq_true] at h1
      obtain ⟨g1, g2, g3, g4⟩ := h1
      have g2 := nat_beq g2
      have g3 := nat_beq g3
      have g4 := Nat.le_of_ble_eq_true g4
      cases h3 : Nat.beq o3 1 with
      | true =>
        rw [h3, cond_true] at h2
        split at h2
        · next w hw =>
          obtain rfl := go_nx h2 ha
          exact Le.rf g
        · cases h2
      | false =>
        rw [h3, cond_false] at h2
        obtain rfl := go_nx h2 ha
        exact Le.rf g
    · next k n r =>
      cases q1 : (Nat.beq o1 100 && Nat.beq k 2) with
      | true =>
        rw [q1, cond_true] at hs
        obtain rfl := go_nx hs ha
        exact Le.rf g
      | false =>
        rw [q1, cond_false] at hs
        cases q2 : (Nat.beq o1 101 && Nat.beq k 2) with
        | true =>
          rw [q2, cond_true] at hs
          obtain rfl := go_nx hs ha
          exact Le.rf g
        | false =>
          rw [q2, cond_false] at hs
          cases q3 : (Nat.beq o1 102 && Nat.beq k 3) with
          | true =>
            rw [q3, cond_true] at hs
            obtain rfl := go_nx hs ha
            exact Le.rf g
          | false =>
            rw [q3, cond_false] at hs
            obtain ⟨q4, hs⟩ := bif_some hs
            obtain rfl := go_nx hs ha
            exact Le.rf g
    · cases hs
  · -- putfield
    split at hs
    · obtain ⟨h1, h2⟩ := bif_some hs
      obtain ⟨h3, rfl⟩ := gif_nx h2 ha
      exact Le.rf g
    · obtain ⟨h1, h2⟩ := bif_some hs
      obtain rfl := go_nx h2 ha
      exact Le.rf g
    · cases hs
  · -- getstatic
    cases h20 : Nat.beq o1 20 with
    | true =>
      rw [h20, cond_true] at hs
      obtain rfl := go_nx hs ha
      exact Le.rf g
    | false =>
      rw [h20, cond_false] at hs
      obtain ⟨h1, h2⟩ := bif_some hs
      obtain rfl := go_nx h2 ha
      exact Le.rf g
  · -- arraylength
    split at hs
    · obtain ⟨h1, h2⟩ := bif_some hs
      obtain rfl := go_nx h2 ha
      exact Le.rf g
    · next k n r =>
      cases q1 : Nat.beq k 0 with
      | true =>
        rw [q1, cond_true] at hs
        obtain rfl := go_nx hs ha
        exact Le.rf g
      | false =>
        rw [q1, cond_false] at hs
        cases q2 : Nat.beq k 1 with
        | true =>
          rw [q2, cond_true] at hs
          obtain rfl := go_nx hs ha
          exact Le.rf g
        | false =>
          rw [q2, cond_false] at hs
          obtain ⟨q3, hs⟩ := bif_some hs
          obtain rfl := go_nx hs ha
          exact Le.rf g
    · cases hs
  · -- iaload
    split at hs
    · obtain ⟨h1, h2⟩ := bif_some hs
      obtain ⟨h3, rfl⟩ := gif_nx h2 ha
      exact Le.rf g
    · next j k n r =>
      cases q1 : Nat.beq k 0 with
      | true =>
        rw [q1, cond_true] at hs
        obtain ⟨h3, rfl⟩ := gif_nx hs ha
        exact Le.rf g
      | false =>
        rw [q1, cond_false] at hs
        obtain ⟨q3, hs⟩ := bif_some hs
        obtain ⟨h3, rfl⟩ := gif_nx hs ha
        exact Le.rf g
    · cases hs
  iterate 2 (
    · split at hs
      · obtain ⟨h1, h2⟩ := bif_some hs
        obtain ⟨h3, rfl⟩ := gif_nx h2 ha
        exact Le.rf g
      · cases hs)
  · -- aaload
    split at hs
    · next j q r =>
      obtain ⟨h1, h2⟩ := bif_some hs
      split at h2
      · next w hw =>
        obtain ⟨h3, rfl⟩ := gif_nx h2 ha
        exact Le.rf g
      · cases h2
    · next j k n r =>
      obtain ⟨q3, hs⟩ := bif_some hs
      obtain ⟨h3, rfl⟩ := gif_nx hs ha
      exact Le.rf g
    · cases hs
  iterate 2 (
    · split at hs
      · obtain ⟨h1, h2⟩ := bif_some hs
        obtain ⟨h3, rfl⟩ := gif_nx h2 ha
        exact Le.rf g
      · cases hs)
  · split at hs
    · obtain ⟨h1, h2⟩ := bif_some hs
      obtain ⟨h3, rfl⟩ := gif_nx h2 ha
      exact Le.rf g
    · cases hs
  · split at hs
    · obtain ⟨h1, h2⟩ := bif_some hs
      obtain ⟨h3, rfl⟩ := gif_nx h2 ha
      exact Le.rf g
    · cases hs
  · split at hs
    · obtain ⟨h1, h2⟩ := bif_some hs
      obtain ⟨h3, rfl⟩ := gif_nx h2 ha
      exact Le.rf g
    · cases hs
  · split at hs
    · obtain ⟨h1, h2⟩ := bif_some hs
      obtain ⟨h3, rfl⟩ := gif_nx h2 ha
      exact Le.rf g
    · cases hs
  · split at hs
    · obtain ⟨h1, h2⟩ := bif_some hs
      obtain ⟨h3, rfl⟩ := gif_nx h2 ha
      exact Le.rf g
    · cases hs
  · -- new
    cases q0 : Nat.beq o1 0 with
    | true =>
      rw [q0, cond_true] at hs
      split at hs
      · next x g1 hm =>
        obtain rfl := go_nx hs ha
        obtain ⟨h1, rfl, h2, h3, h4, rfl⟩ := mnew_ok hm
        exact ⟨Nat.le_succ _, Nat.le_succ _, Nat.le_add_right _ _⟩
      · cases hs
    | false =>
      rw [q0, cond_false] at hs
      obtain ⟨h1, h2⟩ := bif_some hs
      cases h2
      rcases ha with h | h <;> cases h
  iterate 2 (
    · split at hs
      · split at hs
        · next x g1 hm =>
          obtain ⟨h6, rfl⟩ := gif_nx hs ha
          obtain ⟨h1, rfl, h2, h3, h4, rfl⟩ := mnew_ok hm
          exact ⟨Nat.le_succ _, Nat.le_succ _, Nat.le_add_right _ _⟩
        · cases hs
      · cases hs)
  · split at hs
    · split at hs
      · next x g1 hm =>
        obtain ⟨h6, rfl⟩ := gif_nx hs ha
        obtain ⟨h1, rfl, h2, h3, h4, rfl⟩ := mnew2_ok hm
        have h9 : g.1.1 ≤ g.1.1 + 1 + (fam (pj g.1.1).1).2.2 := by omega
        have h8 : g.1.1 < g.1.1 + 1 + (fam (pj g.1.1).1).2.2 := by omega
        have h7 : g.1.1 < apn := by omega
        refine ⟨h9, ?_, ?_⟩
        · show g.1.2.1.1 ≤ g.1.2.1.1 + 1 + _; omega
        · show g.1.2.1.2 ≤ g.1.2.1.2 + _ + _; omega
      · cases hs
    · cases hs
  · rw [sp_g hs ha]
    exact Le.rf g

theorem inv_nx {pc len o1 o2 o3 : Nat} {ls : ML} {st : List MV} {g : MG} {a : MA} {S' : MS} (hs : inv pc len o1 o2 o3 ls st g = some a) (ha : Nx a S') :
    (o3 = 3 ∧ ∃ q r, st = .inr (.inl q) :: r ∧ mcats r ≤ 8 ∧ S' = (pc + len, (ls, (r, g)))) ∨ (o3 = 5 ∧ ∃ y x r, st = .inl y :: .inl x :: r ∧ mcats r ≤ 8 ∧ S' = (pc + len, (ls, (vi (if x < y then y else x) :: r, g)))) ∨
    (o3 = 6 ∧ ∃ y x r, st = .inl y :: .inl x :: r ∧ mcats r ≤ 8 ∧ S' = (pc + len, (ls, (vi (if x < y then x else y) :: r, g)))) ∨ (o3 = 7 ∧ ∃ x r, st = .inl x :: r ∧ mcats r ≤ 8 ∧ S' = (pc + len, (ls, (vi (if x < 0 then -x else x) :: r, g)))) := by
  have nocall : ∀ {mi as pc1 ls1 r1}, call mi as pc1 ls1 r1 g = some a → False := by
    intro mi as pc1 ls1 r1 h
    unfold call at h
    obtain ⟨-, h⟩ := bif_some h
    cases h
    rcases ha with h | h <;> cases h
  unfold inv at hs
  cases q1 : (Nat.beq o3 1 || Nat.beq o3 8) with
  | true =>
    rw [q1, cond_true] at hs
    obtain ⟨-, hs⟩ := bif_some hs
    exact (nocall hs).elim
  | false =>
    rw [q1, cond_false] at hs
    cases q3 : Nat.beq o3 3 with
    | true =>
      rw [q3, cond_true] at hs
      split at hs
      · next q r =>
        obtain ⟨h1, hs⟩ := bif_some hs
        exact Or.inl ⟨nat_beq q3, q, r, rfl, Nat.le_of_ble_eq_true h1, go_nx hs ha⟩
      · cases hs
    | false =>
      rw [q3, cond_false] at hs
      cases q5 : Nat.beq o3 5 with
      | true =>
        rw [q5, cond_true] at hs
        split at hs
        · next y x r =>
          obtain ⟨h1, hs⟩ := bif_some hs
          exact Or.inr (Or.inl ⟨nat_beq q5, y, x, r, rfl, Nat.le_of_ble_eq_true h1, go_nx hs ha⟩)
        · cases hs
      | false =>
        rw [q5, cond_false] at hs
        cases q6 : Nat.beq o3 6 with
        | true =>
          rw [q6, cond_true] at hs
          split at hs
          · next y x r =>
            obtain ⟨h1, hs⟩ := bif_some hs
            exact Or.inr (Or.inr (Or.inl ⟨nat_beq q6, y, x, r, rfl, Nat.le_of_ble_eq_true h1, go_nx hs ha⟩))
          · cases hs
        | false =>
          rw [q6, cond_false] at hs
          cases q7 : Nat.beq o3 7 with
          | true =>
            rw [q7, cond_true] at hs
            split at hs
            · next x r =>
              obtain ⟨h1, hs⟩ := bif_some hs
              exact Or.inr (Or.inr (Or.inr ⟨nat_beq q7, x, r, rfl, Nat.le_of_ble_eq_true h1, go_nx hs ha⟩))
            · cases hs
          | false =>
            rw [q7, cond_false] at hs
            obtain ⟨-, hs⟩ := bif_some hs
            split at hs
            · obtain ⟨-, hs⟩ := bif_some hs
              exact (nocall hs).elim
            · cases hs
/-- a call step: what it calls -/
theorem inv_call {pc len o1 o2 o3 : Nat} {ls : ML} {st : List MV} {g : MG} {mi' : Nat} {as : List MV} {S' : MS} (hs : inv pc len o1 o2 o3 ls st g = some (.inr (.inr (.inl (mi', (as, S')))))) :
    mi' = o1 ∧ ((o3 = 1 ∨ o3 = 8) ∧ ∃ r, st = as.reverse ++ r ∧ as.length = o2 ∧ mcats r ≤ 8 ∧ S' = (pc + len, (ls, (r, g)))) ∨
    mi' = o1 ∧ ((o3 = 0 ∨ o3 = 2 ∨ o3 = 4) ∧ ∃ v as' r, as = v :: as' ∧ st = as'.reverse ++ v :: r ∧ as'.length = o2 ∧ rcv o1 v = true ∧ mcats r ≤ 8 ∧ S' = (pc + len, (ls, (r, g)))) := by
  have nogo : ∀ {pc1 ls1 st1}, go pc1 ls1 st1 g = some (.inr (.inr (.inl (mi', (as, S'))))) → False := by
    intro pc1 ls1 st1 h
    unfold go at h
    cases h
  have iscall : ∀ {mi as1 pc1 ls1 r1}, call mi as1 pc1 ls1 r1 g = some (.inr (.inr (.inl (mi', (as, S'))))) → mi' = mi ∧ as = as1 ∧ mcats r1 ≤ 8 ∧ S' = (pc1, (ls1, (r1, g))) := by
    intro mi as1 pc1 ls1 r1 h
    unfold call at h
    obtain ⟨h1, h⟩ := bif_some h
    cases h
    exact ⟨rfl, rfl, Nat.le_of_ble_eq_true h1, rfl⟩
  unfold inv at hs
  cases q1 : (Nat.beq o3 1 || Nat.beq o3 8) with
  | true =>
    rw [q1, cond_true] at hs
    obtain ⟨h1, hs⟩ := bif_some hs
    obtain ⟨rfl, rfl, h3, rfl⟩ := iscall hs
    have h1 := Nat.le_of_ble_eq_true h1
    refine Or.inl ⟨rfl, ?_, st.drop o2, ?_, ?_, h3, rfl⟩
    · rcases Bool.or_eq_true _ _ ▸ q1 with q | q
      · exact Or.inl (nat_beq q)
      · exact Or.inr (nat_beq q)
    · rw [List.reverse_reverse, List.take_append_drop]
    · rw [List.length_reverse, List.length_take, Nat.min_eq_left h1]
  | false =>
    rw [q1, cond_false] at hs
    cases q3 : Nat.beq o3 3 with
    | true =>
      rw [q3, cond_true] at hs
      split at hs
      · obtain ⟨h1, hs⟩ := bif_some hs
        exact (nogo hs).elim
      · cases hs
    | false =>
      rw [q3, cond_false] at hs
      cases q5 : Nat.beq o3 5 with
      | true =>
        rw [q5, cond_true] at hs
        split at hs
        · obtain ⟨h1, hs⟩ := bif_some hs
          exact (nogo hs).elim
        · cases hs
      | false =>
        rw [q5, cond_false] at hs
        cases q6 : Nat.beq o3 6 with
        | true =>
          rw [q6, cond_true] at hs
          split at hs
          · obtain ⟨h1, hs⟩ := bif_some hs
            exact (nogo hs).elim
          · cases hs
        | false =>
          rw [q6, cond_false] at hs
          cases q7 : Nat.beq o3 7 with
          | true =>
            rw [q7, cond_true] at hs
            split at hs
            · obtain ⟨h1, hs⟩ := bif_some hs
              exact (nogo hs).elim
            · cases hs
          | false =>
            rw [q7, cond_false] at hs
            obtain ⟨h1, hs⟩ := bif_some hs
            split at hs
            · next v hv =>
              obtain ⟨h2, hs⟩ := bif_some hs
              obtain ⟨rfl, rfl, h3, rfl⟩ := iscall hs
              have hl : o2 < st.length := (List.getElem?_eq_some_iff.mp hv).1
              refine Or.inr ⟨rfl, ?_, v, (st.take o2).reverse, st.drop (o2 + 1), rfl, ?_, ?_, h2, h3, rfl⟩
              · rcases Bool.or_eq_true _ _ ▸ h1 with q | q
                · exact Or.inl (nat_beq q)
                · rcases Bool.or_eq_true _ _ ▸ q with q | q
                  · exact Or.inr (Or.inl (nat_beq q))
                  · exact Or.inr (Or.inr (nat_beq q))
              · rw [List.reverse_reverse]
                have : v :: st.drop (o2 + 1) = st.drop o2 := by
                  rw [List.drop_eq_getElem_cons hl]
                  congr 1
                  have := (List.getElem?_eq_some_iff.mp hv).2
                  exact this.symm
                rw [this, List.take_append_drop]
              · rw [List.length_reverse, List.length_take, Nat.min_eq_left (Nat.le_of_lt hl)]
            · cases hs
theorem inv_no {pc len o1 o2 o3 : Nat} {ls : ML} {st : List MV} {g : MG} {x : (Option MV × MG) ⊕ (Nat × MG)} : inv pc len o1 o2 o3 ls st g ≠ some (.inr (.inr (.inr x))) := by
  intro hs
  have nogo : ∀ {pc1 ls1 st1}, go pc1 ls1 st1 g = some (.inr (.inr (.inr x))) → False := by
    intro pc1 ls1 st1 h
    unfold go at h
    cases h
  have nocall : ∀ {mi as1 pc1 ls1 r1}, call mi as1 pc1 ls1 r1 g = some (.inr (.inr (.inr x))) → False := by
    intro mi as1 pc1 ls1 r1 h
    unfold call at h
    obtain ⟨h1, h⟩ := bif_some h
    cases h
  unfold inv at hs
  cases q1 : (Nat.beq o3 1 || Nat.beq o3 8) <;> rw [q1] at hs
  · rw [cond_false] at hs
    cases q3 : Nat.beq o3 3 <;> rw [q3] at hs
    · rw [cond_false] at hs
      cases q5 : Nat.beq o3 5 <;> rw [q5] at hs
      · rw [cond_false] at hs
        cases q6 : Nat.beq o3 6 <;> rw [q6] at hs
        · rw [cond_false] at hs
          cases q7 : Nat.beq o3 7 <;> rw [q7] at hs
          · rw [cond_false] at hs
            obtain ⟨h1, hs⟩ := bif_some hs
            split at hs
            · obtain ⟨h2, hs⟩ := bif_some hs
              exact nocall hs
            · cases hs
          · rw [cond_true] at hs
            split at hs
            · obtain ⟨h1, hs⟩ := bif_some hs
              exact nogo hs
            · cases hs
        · rw [cond_true] at hs
          split at hs
          · obtain ⟨h1, hs⟩ := bif_some hs
            exact nogo hs
          · cases hs
      · rw [cond_true] at hs
        split at hs
        · obtain ⟨h1, hs⟩ := bif_some hs
          exact nogo hs
        · cases hs
    · rw [cond_true] at hs
      split at hs
      · obtain ⟨h1, hs⟩ := bif_some hs
        exact nogo hs
      · cases hs
  · rw [cond_true] at hs
    obtain ⟨h1, hs⟩ := bif_some hs
    exact nocall hs
