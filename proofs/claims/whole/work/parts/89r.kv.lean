/-! ===== WHAT THE MAKING KEEPS (wip/whole/gen_kv.py) ===== -/
def Kr (g : MG) : Prop := ∀ f i k, g.1.2.2 f i k = RM f i k ∨ (RM f i k ≠ none ∧ ∃ j, j < g.1.1 ∧ pj j = (f, i) ∧ k < (fam f).2.2)
def Km (g : MG) : Prop := ∀ f i k, (fam f).2.2 ≤ k → g.2.2 f i k = 0
def Kv (g : MG) : Prop := Kr g ∧ Km g
theorem Kv_mup {g : MG} {p : MP} {k : Nat} {v : Int32} {y : Int64 × UInt64} (h : Kv g) (hk : k < (fam p.1).2.2) : Kv (g.1, (y, mup g.2.2 p.1 p.2 k v)) :=
  ⟨h.1, fun f i k9 h9 => by
    show mup g.2.2 p.1 p.2 k v f i k9 = 0
    rw [mup_no (fun z => by rw [z.1, z.2.2] at h9; omega)]
    exact h.2 f i k9 h9⟩
theorem okR_eq {p w : MP} {k : Nat} (h : okR p w k = true) : RM p.1 p.2 k = some w := by
  unfold okR at h
  split at h
  · next q hq =>
    simp only [Bool.and_eq_true] at h
    rw [hq]
    exact congrArg some (Prod.ext (nat_beq h.1) (nat_beq h.2))
  · cases h
theorem Kv_rup {g : MG} {p w : MP} {k : Nat} (h : Kv g) (hk : okR p w k = true) : Kv ((g.1.1, (g.1.2.1, rup g.1.2.2 p.1 p.2 k (some w))), g.2) :=
  ⟨fun f i k9 => by
    show rup g.1.2.2 p.1 p.2 k (some w) f i k9 = _ ∨ _
    unfold rup
    cases c : (Nat.beq f p.1 && (Nat.beq i p.2 && Nat.beq k9 k)) with
    | true =>
      simp only [Bool.and_eq_true] at c
      rw [cond_true, nat_beq c.1, nat_beq c.2.1, nat_beq c.2.2]
      exact Or.inl (okR_eq hk).symm
    | false =>
      rw [cond_false]
      exact h.1 f i k9, h.2⟩
theorem Km_zero {m : MI} {f9 i9 : Nat} (h : ∀ f i k, (fam f).2.2 ≤ k → m f i k = 0) : ∀ f i k, (fam f).2.2 ≤ k → mzero m f9 i9 f i k = 0 := fun f i k hk => by
  unfold mzero
  cases c : (Nat.beq f f9 && Nat.beq i i9) with
  | true => rfl
  | false => rw [cond_false]; exact h f i k hk
theorem Kv_new {g : MG} {y : Int64 × UInt64} {u : Nat × Nat} (h : Kv g) : Kv ((g.1.1 + 1, (u, rset g.1.2.2 (pj g.1.1).1 (pj g.1.1).2 (fun j => bif Nat.blt j (fam (pj g.1.1).1).2.2 then none else RM (pj g.1.1).1 (pj g.1.1).2 j))), (y, mzero g.2.2 (pj g.1.1).1 (pj g.1.1).2)) :=
  ⟨fun f i k => by
    show (bif (Nat.beq f (pj g.1.1).1 && Nat.beq i (pj g.1.1).2) then (bif Nat.blt k (fam (pj g.1.1).1).2.2 then none else RM (pj g.1.1).1 (pj g.1.1).2 k) else g.1.2.2 f i k) = RM f i k ∨ (RM f i k ≠ none ∧ ∃ j, j < g.1.1 + 1 ∧ pj j = (f, i) ∧ k < (fam f).2.2)
    cases c : (Nat.beq f (pj g.1.1).1 && Nat.beq i (pj g.1.1).2) with
    | true =>
      simp only [Bool.and_eq_true] at c
      have e1 := nat_beq c.1
      have e2 := nat_beq c.2
      rw [cond_true, ← e1, ← e2]
      cases c3 : Nat.blt k (fam f).2.2 with
      | true =>
        rw [cond_true]
        by_cases z : RM f i k = none
        · exact Or.inl z.symm
        · exact Or.inr ⟨z, g.1.1, Nat.lt_succ_self _, Prod.ext e1.symm e2.symm, Nat.le_of_ble_eq_true c3⟩
      | false => exact Or.inl rfl
    | false =>
      rw [cond_false]
      rcases h.1 f i k with z | ⟨z, j, hj, z2⟩
      · exact Or.inl z
      · exact Or.inr ⟨z, j, Nat.lt_succ_of_lt hj, z2⟩, Km_zero h.2⟩
theorem Kv_new2 {g : MG} {y : Int64 × UInt64} {u : Nat × Nat} {n : Nat} (h : Kv g) : Kv ((g.1.1 + 1 + n, (u, rset g.1.2.2 (pj g.1.1).1 (pj g.1.1).2 (RM (pj g.1.1).1 (pj g.1.1).2))), (y, (List.range n).foldl (fun h j => mzero h (pj (g.1.1 + 1 + j)).1 (pj (g.1.1 + 1 + j)).2) g.2.2)) :=
  ⟨fun f i k => by
    show (bif (Nat.beq f (pj g.1.1).1 && Nat.beq i (pj g.1.1).2) then RM (pj g.1.1).1 (pj g.1.1).2 k else g.1.2.2 f i k) = RM f i k ∨ (RM f i k ≠ none ∧ ∃ j, j < g.1.1 + 1 + n ∧ pj j = (f, i) ∧ k < (fam f).2.2)
    cases c : (Nat.beq f (pj g.1.1).1 && Nat.beq i (pj g.1.1).2) with
    | true =>
      simp only [Bool.and_eq_true] at c
      rw [cond_true, nat_beq c.1, nat_beq c.2]
      exact Or.inl rfl
    | false =>
      rw [cond_false]
      rcases h.1 f i k with z | ⟨z, j, hj, z2⟩
      · exact Or.inl z
      · exact Or.inr ⟨z, j, by show j < g.1.1 + 1 + n; omega, z2⟩, by
    have key : ∀ (l : List Nat) (m : MI), (∀ f i k, (fam f).2.2 ≤ k → m f i k = 0) → ∀ f i k, (fam f).2.2 ≤ k → l.foldl (fun h j => mzero h (pj (g.1.1 + 1 + j)).1 (pj (g.1.1 + 1 + j)).2) m f i k = 0 := by
      intro l
      induction l with
      | nil => intro m hm; exact hm
      | cons a l ih => intro m hm; exact ih _ (Km_zero hm)
    exact key (List.range n) g.2.2 h.2⟩
theorem sl_kv {X : MX} {pc len : Nat} {i : Instr} {o1 o2 o3 o4 : Nat} {L : ML} {st : List MV} {g : MG} {a : MA} {S' : MS} (hs : sl X pc len i o1 o2 o3 o4 L st g = some a) (ha : Nx a S') (hk : okI i o2 st = true) (h : Kv g) : Kv S'.2.2.2 := by
  unfold sl at hs
  split at hs
  · -- getfield
    split at hs
    · next q r =>
      obtain ⟨h1, h2⟩ := bif_some hs
      simp only [Bool.and_eq_true] at h1
      obtain ⟨g1, g2, g3, g4⟩ := h1
      have g2 := nat_beq g2
      have g3 := nat_beq g3
      have g4 := Nat.le_of_ble_eq_true g4
      cases h3 : Nat.beq o3 1 with
      | true =>
        rw [h3, cond_true] at h2
        split at h2
        · next w hw =>
          obtain rfl := go_nx h2 ha
          exact h
        · cases h2
      | false =>
        rw [h3, cond_false] at h2
        obtain rfl := go_nx h2 ha
        exact h
    · next k n r =>
      cases q1 : (Nat.beq o1 100 && Nat.beq k 2) with
      | true =>
        rw [q1, cond_true] at hs
        obtain rfl := go_nx hs ha
        exact h
      | false =>
        rw [q1, cond_false] at hs
        cases q2 : (Nat.beq o1 101 && Nat.beq k 2) with
        | true =>
          rw [q2, cond_true] at hs
          obtain rfl := go_nx hs ha
          exact h
        | false =>
          rw [q2, cond_false] at hs
          cases q3 : (Nat.beq o1 102 && Nat.beq k 3) with
          | true =>
            rw [q3, cond_true] at hs
            obtain rfl := go_nx hs ha
            exact h
          | false =>
            rw [q3, cond_false] at hs
            obtain ⟨q4, hs⟩ := bif_some hs
            obtain rfl := go_nx hs ha
            exact h
    · cases hs
  · -- putfield
    split at hs
    · next x p r =>
      obtain ⟨h1, h2⟩ := bif_some hs
      obtain ⟨h3, rfl⟩ := gif_nx h2 ha
      simp only [Bool.and_eq_true] at h1
      exact Kv_mup h (Nat.le_of_ble_eq_true h1.2.2.1.1)
    · next w p r =>
      obtain ⟨h1, h2⟩ := bif_some hs
      obtain rfl := go_nx h2 ha
      exact Kv_rup h hk
    · cases hs
  · -- getstatic
    cases h20 : Nat.beq o1 20 with
    | true =>
      rw [h20, cond_true] at hs
      obtain rfl := go_nx hs ha
      exact h
    | false =>
      rw [h20, cond_false] at hs
      obtain ⟨h1, h2⟩ := bif_some hs
      obtain rfl := go_nx h2 ha
      exact h
  · -- arraylength
    split at hs
    · obtain ⟨h1, h2⟩ := bif_some hs
      obtain rfl := go_nx h2 ha
      exact h
    · next k n r =>
      cases q1 : Nat.beq k 0 with
      | true =>
        rw [q1, cond_true] at hs
        obtain rfl := go_nx hs ha
        exact h
      | false =>
        rw [q1, cond_false] at hs
        cases q2 : Nat.beq k 1 with
        | true =>
          rw [q2, cond_true] at hs
          obtain rfl := go_nx hs ha
          exact h
        | false =>
          rw [q2, cond_false] at hs
          obtain ⟨q3, hs⟩ := bif_some hs
          obtain rfl := go_nx hs ha
          exact h
    · cases hs
  · -- iaload
    split at hs
    · obtain ⟨h1, h2⟩ := bif_some hs
      obtain ⟨h3, rfl⟩ := gif_nx h2 ha
      exact h
    · next j k n r =>
      cases q1 : Nat.beq k 0 with
      | true =>
        rw [q1, cond_true] at hs
        obtain ⟨h3, rfl⟩ := gif_nx hs ha
        exact h
      | false =>
        rw [q1, cond_false] at hs
        obtain ⟨q3, hs⟩ := bif_some hs
        obtain ⟨h3, rfl⟩ := gif_nx hs ha
        exact h
    · cases hs
  iterate 2 (
    · split at hs
      · obtain ⟨h1, h2⟩ := bif_some hs
        obtain ⟨h3, rfl⟩ := gif_nx h2 ha
        exact h
      · cases hs)
  · -- aaload
    split at hs
    · next j q r =>
      obtain ⟨h1, h2⟩ := bif_some hs
      split at h2
      · next w hw =>
        obtain ⟨h3, rfl⟩ := gif_nx h2 ha
        exact h
      · cases h2
    · next j k n r =>
      obtain ⟨q3, hs⟩ := bif_some hs
      obtain ⟨h3, rfl⟩ := gif_nx hs ha
      exact h
    · cases hs
  · split at hs
    · obtain ⟨h1, h2⟩ := bif_some hs
      obtain ⟨h3, rfl⟩ := gif_nx h2 ha
      exact Kv_mup h (inb_lt h3)
    · cases hs
  · split at hs
    · obtain ⟨h1, h2⟩ := bif_some hs
      obtain ⟨h3, rfl⟩ := gif_nx h2 ha
      exact Kv_mup h (inb_lt (Bool.and_eq_true _ _ ▸ h3).2)
    · cases hs
  · -- aastore
    split at hs
    · obtain ⟨h1, h2⟩ := bif_some hs
      obtain ⟨h3, rfl⟩ := gif_nx h2 ha
      exact Kv_rup h hk
    · cases hs
  · split at hs
    · obtain ⟨h1, h2⟩ := bif_some hs
      obtain ⟨h3, rfl⟩ := gif_nx h2 ha
      exact h
    · cases hs
  · split at hs
    · obtain ⟨h1, h2⟩ := bif_some hs
      obtain ⟨h3, rfl⟩ := gif_nx h2 ha
      exact h
    · cases hs
  · split at hs
    · obtain ⟨h1, h2⟩ := bif_some hs
      obtain ⟨h3, rfl⟩ := gif_nx h2 ha
      exact h
    · cases hs
  · split at hs
    · obtain ⟨h1, h2⟩ := bif_some hs
      obtain ⟨h3, rfl⟩ := gif_nx h2 ha
      exact h
    · cases hs
  · -- new
    cases q0 : Nat.beq o1 0 with
    | true =>
      rw [q0, cond_true] at hs
      split at hs
      · next x g1 hm =>
        obtain rfl := go_nx hs ha
        obtain ⟨h1, rfl, h2, h3, h4, rfl⟩ := mnew_ok hm
        exact Kv_new h
      · cases hs
    | false =>
      rw [q0, cond_false] at hs
      obtain ⟨h1, h2⟩ := bif_some hs
      cases h2
      rcases ha with h | h <;> cases h
  iterate 2 (
    · split at hs
      · split at hs
        · next x g1 hm =>
          obtain ⟨h6, rfl⟩ := gif_nx hs ha
          obtain ⟨h1, rfl, h2, h3, h4, rfl⟩ := mnew_ok hm
          exact Kv_new h
        · cases hs
      · cases hs)
  · split at hs
    · split at hs
      · next x g1 hm =>
        obtain ⟨h6, rfl⟩ := gif_nx hs ha
        obtain ⟨h1, rfl, h2, h3, h4, rfl⟩ := mnew2_ok hm
        exact Kv_new2 h
      · cases hs
    · cases hs
  · rw [sp_g hs ha]
    exact h

theorem step_kv {X : MX} {mi : Nat} {S S' : MS} {a : MA} (hs : step X mi S = some a) (ha : Nx a S') (hk : okZ mi S = true) (h : Kv S.2.2.2) : Kv S'.2.2.2 := by
  obtain ⟨i, len, o1, o2, o3, o4, ht, hs⟩ := step_at hs
  unfold okZ at hk
  rw [ht] at hk
  obtain ⟨pc, L, st, g⟩ := S
  dsimp only at hs hk h ⊢
  have hinv : ∀ {len' : Nat}, inv pc len' o1 o2 o3 L st g = some a → Kv S'.2.2.2 := by
    intro len' h9
    rcases inv_nx h9 ha with ⟨-, q, r, rfl, hr, rfl⟩ | ⟨-, y, x, r, rfl, hr, rfl⟩ | ⟨-, y, x, r, rfl, hr, rfl⟩ | ⟨-, x, r, rfl, hr, rfl⟩ <;> exact h
  have noret : ∀ {x : (Option MV × MG)}, (some (.inr (.inr (.inr (.inl x)))) : Option MA) = some a → False := by
    intro x h9
    cases h9
    rcases ha with h9 | h9 <;> cases h9
  unfold stepI at hs
  split at hs
  · exact hinv hs
  · exact hinv hs
  · exact hinv hs
  · split at hs
    · cases q : Nat.beq (rtag (mret mi)) 9 <;> rw [q] at hs
      · rw [cond_false] at hs
        obtain ⟨-, hs⟩ := bif_some hs
        exact (noret hs).elim
      · cases hs
    · cases hs
  · split at hs
    · cases q : mret mi <;> rw [q] at hs
      · exact (noret hs).elim
      · cases hs
    · cases hs
  · split at hs
    · exact (noret hs).elim
    · cases hs
  · split at hs
    · exact (noret hs).elim
    · cases hs
  · exact sl_kv hs ha hk h
theorem sl_X {X : MX} {pc len : Nat} {i : Instr} {o1 o2 o3 o4 : Nat} {ls : ML} {st : List MV} {g : MG} (hk : okI i o2 st = true) : sl X pc len i o1 o2 o3 o4 ls st g = sl X0 pc len i o1 o2 o3 o4 ls st g := by
  by_cases h1 : i = .arraylength
  · subst h1
    unfold okI at hk
    dsimp only at hk
    split at hk
    · rfl
    · cases hk
  · by_cases h2 : i = .iaload
    · subst h2
      unfold okI at hk
      dsimp only at hk
      split at hk
      · rfl
      · cases hk
    · cases i <;> first | rfl | exact absurd rfl h1 | exact absurd rfl h2
theorem stepI_X {X : MX} {mi pc len : Nat} {i : Instr} {o1 o2 o3 o4 : Nat} {ls : ML} {st : List MV} {g : MG} (hk : okI i o2 st = true) : stepI X mi pc i len o1 o2 o3 o4 ls st g = stepI X0 mi pc i len o1 o2 o3 o4 ls st g := by
  have e := sl_X (X := X) (pc := pc) (len := len) (o1 := o1) (o3 := o3) (o4 := o4) (ls := ls) (g := g) hk
  unfold stepI
  split <;> first | rfl | exact e
theorem step_X {X : MX} {mi : Nat} {S : MS} (hk : okZ mi S = true) : step X mi S = step X0 mi S := by
  unfold step
  unfold okZ at hk
  split
  · next i len o1 o2 o3 o4 ht =>
    rw [ht] at hk
    exact stepI_X hk
  · rfl
theorem exZ_ok : ∀ (n d mi : Nat) (S : MS) (r : MRes), exZ n d mi S = some r → (∀ X, exec X n d mi S = some r) ∧ (Kv S.2.2.2 → Kv r.2)
  | 0, _, _, _, _, h => by cases h
  | n + 1, d, mi, S, r, h => by
    unfold exZ at h
    obtain ⟨hk, h⟩ := bif_some h
    have eX : ∀ X, step X mi S = step X0 mi S := fun X => step_X hk
    split at h
    · cases h
    · next S' hs =>
      have ih := exZ_ok n d mi S' r h
      refine ⟨fun X => ?_, fun k => ih.2 (step_kv hs (Or.inl rfl) hk k)⟩
      unfold exec
      rw [eX X, hs]
      exact ih.1 X
    · next b S' hs =>
      cases b with
      | true =>
        have ih := exZ_ok n d mi S' r h
        refine ⟨fun X => ?_, fun k => ih.2 (step_kv hs (Or.inr rfl) hk k)⟩
        unfold exec
        rw [eX X, hs]
        exact ih.1 X
      | false => cases h
    · next mi' as S' hs =>
      obtain ⟨i, o1, o2, o3, o4, ht, hi, hin⟩ := step_call hs
      have hg : S'.2.2.2 = S.2.2.2 := by
        rcases inv_call hin with ⟨-, -, r', -, -, -, rfl⟩ | ⟨-, -, v, as', r', -, -, -, -, -, rfl⟩ <;> rfl
      cases d with
      | zero => cases h
      | succ d1 =>
        dsimp only at h
        obtain ⟨hb, h⟩ := bif_some h
        split at h
        · next v g' he =>
          have i1 := exZ_ok n d1 mi' _ _ he
          have i2 := exZ_ok n (d1 + 1) mi _ r h
          refine ⟨fun X => ?_, fun k => i2.2 (i1.2 (by rw [hg]; exact k))⟩
          unfold exec
          rw [eX X, hs]
          dsimp only
          rw [hb, i1.1 X]
          exact i2.1 X
        · cases h
    · next v g hs =>
      cases h
      refine ⟨fun X => ?_, fun k => by rw [(step_ret hs).1]; exact k⟩
      unfold exec
      rw [eX X, hs]
    · cases h
theorem preZ_ok : ∀ (n : Nat) (S S' : MS), preZ n S = some S' → S'.1 = 28 ∧ (∀ (X : MX) (d : Nat) (Q : MRes → Prop), 15 ≤ d → Wp X (d + 1) lawI S' Q → Wp X (d + 1) lawI S Q) ∧ (Kv S.2.2.2 → Kv S'.2.2.2)
  | 0, _, _, h => by cases h
  | n + 1, S, S9, h => by
    unfold preZ at h
    cases c : Nat.beq S.1 28 with
    | true =>
      rw [c, cond_true] at h
      cases h
      exact ⟨nat_beq c, fun X d Q _ hw => hw, fun k => k⟩
    | false =>
      rw [c, cond_false] at h
      obtain ⟨hk, h⟩ := bif_some h
      have eX : ∀ X, step X lawI S = step X0 lawI S := fun X => step_X hk
      split at h
      · next S' hs =>
        have ih := preZ_ok n S' S9 h
        exact ⟨ih.1, fun X d Q hd hw => wp_step (by rw [eX X]; exact hs) (ih.2.1 X d Q hd hw), fun k => ih.2.2 (step_kv hs (Or.inl rfl) hk k)⟩
      · next b S' hs =>
        obtain ⟨hb, h⟩ := bif_some h
        have ih := preZ_ok n S' S9 h
        subst hb
        exact ⟨ih.1, fun X d Q hd hw => wp_gif (by rw [eX X]; exact hs) rfl (ih.2.1 X d Q hd hw), fun k => ih.2.2 (step_kv hs (Or.inr rfl) hk k)⟩
      · next mi' as S' hs =>
        obtain ⟨i, o1, o2, o3, o4, ht, hi, hin⟩ := step_call hs
        have hg : S'.2.2.2 = S.2.2.2 := by
          rcases inv_call hin with ⟨-, -, r', -, -, -, rfl⟩ | ⟨-, -, v, as', r', -, -, -, -, -, rfl⟩ <;> rfl
        obtain ⟨hb, h⟩ := bif_some h
        split at h
        · next v g' he =>
          have i1 := exZ_ok 100000 15 mi' _ _ he
          have ih := preZ_ok n _ S9 h
          refine ⟨ih.1, fun X d Q hd hw => ?_, fun k => ih.2.2 (i1.2 (by rw [hg]; exact k))⟩
          refine wp_call mi' as S' (by rw [eX X]; exact hs) hb ⟨100000, _, exec_mono X _ _ _ _ _ (i1.1 X) _ d (Nat.le_refl _) hd, ?_⟩
          exact ih.2.1 X d Q hd hw
        · cases h
      · cases h
