/-! ===== SOUNDNESS, TWELFTH: a method's contract out of its run in the small machine ===== -/
def lnP (n : Nat) (a : Option MA) : Prop := match a with
  | some (.inl S) => S.2.1.length = n
  | some (.inr (.inl (_, S))) => S.2.1.length = n
  | _ => True
theorem lp_bif {n : Nat} {b : Bool} {x y : Option MA} (hx : lnP n x) (hy : lnP n y) : lnP n (bif b then x else y) := by
  cases b
  · exact hy
  · exact hx
theorem lp_go {n pc : Nat} {L : ML} {st : List MV} {g : MG} (h : L.length = n) : lnP n (go pc L st g) := h
theorem lp_gif {n : Nat} {b : Bool} {pc : Nat} {L : ML} {st : List MV} {g : MG} (h : L.length = n) : lnP n (gif b pc L st g) := h
theorem lp_elim {n : Nat} {α : Type} {x : Option α} {f : α → Option MA} (h : ∀ v, lnP n (f v)) : lnP n (x.elim none f) := by
  cases x
  · trivial
  · exact h _
theorem mstore_len {L : ML} {k : Nat} {v : MV} {L2 : ML} (h : mstore L k v = some L2) : L2.length = L.length := by
  cases h2 : Nat.beq (mcat v) 2 with
  | true => rw [(mstore2 h (nat_beq h2)).2, List.length_set, List.length_set]
  | false =>
    unfold mstore at h
    rw [h2, cond_false] at h
    cases hb : Nat.blt (k + 1) L.length with
    | true => rw [hb, cond_true] at h; cases h; rw [List.length_set]
    | false =>
      rw [hb, cond_false] at h
      obtain ⟨-, h⟩ := bif_some h
      cases k with
      | zero => cases h; rw [List.length_set]
      | succ j =>
        dsimp only at h
        split at h
        · next w e =>
          cases hw : Nat.beq (mcat w) 2 with
          | true => rw [hw] at h; cases h
          | false => rw [hw] at h; cases h; rw [List.length_set]
        · cases h; rw [List.length_set]
theorem lp_st {L : ML} {k pc : Nat} {v : MV} {st : List MV} {g : MG} : lnP L.length ((mstore L k v).elim none (fun L2 => go pc L2 st g)) := by
  cases h : mstore L k v with
  | none => trivial
  | some L2 => exact mstore_len h
set_option maxHeartbeats 1000000 in
theorem sp_lnP {pc len : Nat} {i : Instr} {o1 o2 o3 o4 : Nat} {L : ML} {st : List MV} {g : MG} : lnP L.length (sp pc len i o1 o2 o3 o4 L st g) := by
  unfold sp
  split
  all_goals (repeat' first | exact trivial | exact lp_go rfl | exact lp_gif rfl | exact lp_st | apply lp_bif | (apply lp_elim; intro v) | split)
set_option maxHeartbeats 1000000 in
theorem sl_lnP {X : MX} {pc len : Nat} {i : Instr} {o1 o2 o3 o4 : Nat} {L : ML} {st : List MV} {g : MG} : lnP L.length (sl X pc len i o1 o2 o3 o4 L st g) := by
  unfold sl
  split
  all_goals (repeat' first | exact trivial | exact lp_go rfl | exact lp_gif rfl | exact lp_st | exact sp_lnP | apply lp_bif | (apply lp_elim; intro v) | split)
theorem sl_len {X : MX} {pc len : Nat} {i : Instr} {o1 o2 o3 o4 : Nat} {L : ML} {st : List MV} {g : MG} {a : MA} {S' : MS} (hs : sl X pc len i o1 o2 o3 o4 L st g = some a) (ha : Nx a S') : S'.2.1.length = L.length := by
  have h := sl_lnP (X := X) (pc := pc) (len := len) (i := i) (o1 := o1) (o2 := o2) (o3 := o3) (o4 := o4) (L := L) (st := st) (g := g)
  rw [hs] at h
  rcases ha with rfl | rfl
  · exact h
  · exact h
theorem step_nx {X : MX} {mi : Nat} {S S' : MS} {a : MA} (hs : step X mi S = some a) (ha : Nx a S') (hR : Rf S.2.2.2) (hV : VS S.2.2.2 S.2.1 S.2.2.1) : Le S.2.2.2 S'.2.2.2 ∧ VS S'.2.2.2 S'.2.1 S'.2.2.1 ∧ S'.2.1.length = S.2.1.length := by
  obtain ⟨i, len, o1, o2, o3, o4, ht, hs⟩ := step_at hs
  obtain ⟨hd, hlen, htg, hcF, hcC, hcX⟩ := chk_at ht
  obtain ⟨pc, L, st, g⟩ := S
  dsimp only at hs hR hV ⊢
  have hinv : ∀ {len' : Nat}, inv pc len' o1 o2 o3 L st g = some a → Le g S'.2.2.2 ∧ VS S'.2.2.2 S'.2.1 S'.2.2.1 ∧ S'.2.1.length = L.length := by
    intro len' h
    rcases inv_nx h ha with ⟨-, q, r, rfl, hr, rfl⟩ | ⟨-, y, x, r, rfl, hr, rfl⟩ | ⟨-, y, x, r, rfl, hr, rfl⟩ | ⟨-, x, r, rfl, hr, rfl⟩
    · exact ⟨Le.rf g, hV.pop, rfl⟩
    · exact ⟨Le.rf g, hV.pop.pop.push trivial, rfl⟩
    · exact ⟨Le.rf g, hV.pop.pop.push trivial, rfl⟩
    · exact ⟨Le.rf g, hV.pop.push trivial, rfl⟩
  have noret : ∀ {x : (Option MV × MG)}, (some (.inr (.inr (.inr (.inl x)))) : Option MA) = some a → False := by
    intro x h
    cases h
    rcases ha with h | h <;> cases h
  unfold stepI at hs
  split at hs
  · exact hinv hs
  · exact hinv hs
  · exact hinv hs
  · split at hs
    · cases q : Nat.beq (rtag (mret mi)) 9 <;> rw [q] at hs
      · rw [cond_false] at hs
        obtain ⟨-, hs⟩ := bif_some hs
        exact (noret hs).elim
      · cases hs
    · cases hs
  · split at hs
    · cases q : mret mi <;> rw [q] at hs
      · exact (noret hs).elim
      · cases hs
    · cases hs
  · split at hs
    · exact (noret hs).elim
    · cases hs
  · split at hs
    · exact (noret hs).elim
    · cases hs
  · obtain ⟨h1, h2⟩ := sl_val hcF hs ha hR hV
    exact ⟨h1, h2, sl_len hs ha⟩
theorem step_le {X : MX} {mi : Nat} {S S' : MS} {a : MA} (hs : step X mi S = some a) (ha : Nx a S') : Le S.2.2.2 S'.2.2.2 := by
  obtain ⟨i, len, o1, o2, o3, o4, ht, hs⟩ := step_at hs
  obtain ⟨pc, L, st, g⟩ := S
  dsimp only at hs ⊢
  have hinv : ∀ {len' : Nat}, inv pc len' o1 o2 o3 L st g = some a → Le g S'.2.2.2 := by
    intro len' h
    rcases inv_nx h ha with ⟨-, q, r, rfl, hr, rfl⟩ | ⟨-, y, x, r, rfl, hr, rfl⟩ | ⟨-, y, x, r, rfl, hr, rfl⟩ | ⟨-, x, r, rfl, hr, rfl⟩ <;> exact Le.rf g
  have noret : ∀ {x : (Option MV × MG)}, (some (.inr (.inr (.inr (.inl x)))) : Option MA) = some a → False := by
    intro x h
    cases h
    rcases ha with h | h <;> cases h
  unfold stepI at hs
  split at hs
  · exact hinv hs
  · exact hinv hs
  · exact hinv hs
  · split at hs
    · cases q : Nat.beq (rtag (mret mi)) 9 <;> rw [q] at hs
      · rw [cond_false] at hs
        obtain ⟨-, hs⟩ := bif_some hs
        exact (noret hs).elim
      · cases hs
    · cases hs
  · split at hs
    · cases q : mret mi <;> rw [q] at hs
      · exact (noret hs).elim
      · cases hs
    · cases hs
  · split at hs
    · exact (noret hs).elim
    · cases hs
  · split at hs
    · exact (noret hs).elim
    · cases hs
  · exact sl_le hs ha
/-- a return: the world is what it was; a throw: one cell more -/
theorem step_ret {X : MX} {mi : Nat} {S : MS} {v : Option MV} {g1 : MG} (hs : step X mi S = some (.inr (.inr (.inr (.inl (v, g1)))))) : g1 = S.2.2.2 ∧ ∃ (i : Instr) (len o1 o2 o3 o4 : Nat), tb mi S.1 = some (i, (len, (o1, (o2, (o3, o4))))) ∧
    ((i = .ireturn ∧ ∃ x, S.2.2.1 = [.inl x] ∧ v = some (.inl x) ∧ rtag (mret mi) ≠ 9 ∧ okT (rtag (mret mi)) x = true) ∨ (i = .return_ ∧ S.2.2.1 = [] ∧ v = none ∧ mret mi = none) ∨
     (i = .dreturn ∧ ∃ x, S.2.2.1 = [vx (.double x)] ∧ v = some (vx (.double x)) ∧ mret mi = some .double) ∨ (i = .freturn ∧ ∃ x, S.2.2.1 = [vx (.float x)] ∧ v = some (vx (.float x)) ∧ mret mi = some .float)) := by
  obtain ⟨i, len, o1, o2, o3, o4, ht, hs⟩ := step_at hs
  unfold stepI at hs
  split at hs
  · exact (inv_no hs).elim
  · exact (inv_no hs).elim
  · exact (inv_no hs).elim
  · split at hs
    · next x hst =>
      cases q : Nat.beq (rtag (mret mi)) 9 <;> rw [q] at hs
      · rw [cond_false] at hs
        obtain ⟨h1, hs⟩ := bif_some hs
        cases hs
        exact ⟨rfl, _, len, o1, o2, o3, o4, ht, Or.inl ⟨rfl, x, hst, rfl, (fun z => by rw [z] at q; cases q), h1⟩⟩
      · cases hs
    · cases hs
  · split at hs
    · next hst =>
      cases q : mret mi <;> rw [q] at hs
      · cases hs
        exact ⟨rfl, _, len, o1, o2, o3, o4, ht, Or.inr (Or.inl ⟨rfl, hst, rfl, rfl⟩)⟩
      · cases hs
    · cases hs
  · split at hs
    · next x hst hm =>
      cases hs
      exact ⟨rfl, _, len, o1, o2, o3, o4, ht, Or.inr (Or.inr (Or.inl ⟨rfl, x, hst, rfl, hm⟩))⟩
    · cases hs
  · split at hs
    · next x hst hm =>
      cases hs
      exact ⟨rfl, _, len, o1, o2, o3, o4, ht, Or.inr (Or.inr (Or.inr ⟨rfl, x, hst, rfl, hm⟩))⟩
    · cases hs
  · by_cases hn : ∃ ix, i = .new ix
    · obtain ⟨ix, rfl⟩ := hn
      unfold sl at hs
      dsimp only at hs
      cases q0 : Nat.beq o1 0 with
      | true =>
        rw [q0, cond_true] at hs
        split at hs
        · exact (kd_no kd_go hs).elim
        · cases hs
      | false =>
        rw [q0, cond_false] at hs
        obtain ⟨h1, h2⟩ := bif_some hs
        cases h2
    · exact (kd_no (sl_kd (fun ix h => hn ⟨ix, h⟩)) hs).elim
theorem ga_le {g : MG} {u : Nat × Nat} : (ga g u).1.1 = g.1.1 := rfl
theorem exec_le (X : MX) : ∀ (n d mi : Nat) (S : MS) (r : MRes), exec X n d mi S = some r → Le S.2.2.2 r.2
  | 0, _, _, _, _, h => by cases h
  | n + 1, d, mi, S, r, h => by
    unfold exec at h
    split at h
    · cases h
    · next S' hs => exact (step_le hs (Or.inl rfl)).tr (exec_le X n d mi S' r h)
    · next b S' hs =>
      cases b with
      | true => exact (step_le hs (Or.inr rfl)).tr (exec_le X n d mi S' r h)
      | false => cases h
    · next mi' as S' hs =>
      obtain ⟨i, o1, o2, o3, o4, ht, hi, hin⟩ := step_call hs
      have hg : S'.2.2.2 = S.2.2.2 := by
        rcases inv_call hin with ⟨-, -, r', -, -, -, rfl⟩ | ⟨-, -, v, as', r', -, -, -, -, -, rfl⟩ <;> rfl
      cases d with
      | zero => cases h
      | succ d1 =>
        dsimp only at h
        cases hb : entOk as mi' with
        | false => rw [hb] at h; cases h
        | true =>
          rw [hb, cond_true] at h
          cases he : exec X n d1 mi' (entry mi' as S'.2.2.2) with
          | none => rw [he] at h; cases h
          | some q =>
            rw [he] at h
            have h1 : Le (g0 S'.2.2.2) q.2 := exec_le X n d1 mi' _ q he
            obtain ⟨a, g'⟩ := q
            have h2 : Le S.2.2.2 (ga g' S'.2.2.2.1.2.1) := by
              rw [← hg]
              exact ⟨h1.1, Nat.le_add_right _ _, Nat.le_add_right _ _⟩
            cases a with
            | inl v => exact h2.tr (exec_le X n (d1 + 1) mi _ r h)
            | inr kd =>
              dsimp only at h
              cases hf : hfind (mhd mi) S.1 kd with
              | none => rw [hf] at h; cases h; exact h2
              | some hh =>
                rw [hf] at h
                obtain ⟨ha, hb⟩ := hh
                dsimp only at h
                cases hm : mstore S'.2.1 hb (vi 0) with
                | none => rw [hm] at h; cases h
                | some l => rw [hm] at h; exact h2.tr (exec_le X n (d1 + 1) mi _ r h)
    · next v g hs =>
      cases h
      rw [(step_ret hs).1]
      exact Le.rf _
    · next kd g hs =>
      obtain ⟨-, h⟩ := bif_some h
      cases h
      obtain ⟨ix, len, o2, o3, o4, -, -, rfl, -⟩ := step_thr hs
      exact ⟨Nat.le_refl _, Nat.le_add_left _ _, Nat.le_add_left _ _⟩
