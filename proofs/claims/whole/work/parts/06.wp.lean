/-! ===== RULES OF Wp ===== -/
theorem runN_acc (X : MX) (mi : Nat) : ∀ (k : Nat) (S : MS) (b : Bool) (c : Bool) (S' : MS), runN X mi k S b = some (c, S') → c = true → b = true
  | 0, S, b, c, S', h, hc => by
    simp only [runN, Option.some.injEq, Prod.mk.injEq] at h
    rw [h.1]; exact hc
  | k + 1, S, b, c, S', h, hc => by
    unfold runN at h
    split at h
    · exact runN_acc X mi k _ b c S' h hc
    · have h1 := runN_acc X mi k _ _ c S' h hc
      exact (Bool.and_eq_true _ _ ▸ h1).2
    · cases h
theorem exec_mono (X : MX) : ∀ (n d mi : Nat) (S : MS) (r : MRes), exec X n d mi S = some r → ∀ (n' d' : Nat), n ≤ n' → d ≤ d' → exec X n' d' mi S = some r
  | 0, _, _, _, _, h, _, _, _, _ => by simp [exec] at h
  | n + 1, d, mi, S, r, h, n', d', hn, hd => by
    obtain ⟨n2, rfl⟩ : ∃ z, n' = z + 1 := ⟨n' - 1, by omega⟩
    have hn2 : n ≤ n2 := by omega
    unfold exec at h ⊢
    split at h
    · cases h
    · next S' hs => exact exec_mono X n d mi _ r h n2 d' hn2 hd
    · next b S' hs =>
      cases b with
      | true => exact exec_mono X n d mi _ r h n2 d' hn2 hd
      | false => cases h
    · next mi' as S' hs =>
      cases d with
      | zero => cases h
      | succ d1 =>
        obtain ⟨d2, rfl⟩ : ∃ z, d' = z + 1 := ⟨d' - 1, by omega⟩
        have hd2 : d1 ≤ d2 := by omega
        dsimp only at h ⊢
        cases hb : entOk as mi' with
        | false => rw [hb] at h; cases h
        | true =>
          rw [hb] at h
          dsimp only [cond_true] at h ⊢
          cases he : exec X n d1 mi' (entry mi' as S'.2.2.2) with
          | none => rw [he] at h; cases h
          | some q =>
            rw [he] at h
            rw [exec_mono X n d1 mi' _ q he n2 d2 hn2 hd2]
            obtain ⟨a, g'⟩ := q
            cases a with
            | inl v => exact exec_mono X n (d1 + 1) mi _ r h n2 (d2 + 1) hn2 hd
            | inr kd =>
              dsimp only at h ⊢
              cases hf : hfind (mhd mi) S.1 kd with
              | none => rw [hf] at h; exact h
              | some hh =>
                rw [hf] at h
                obtain ⟨ha, hb⟩ := hh
                dsimp only at h ⊢
                cases hm : mstore S'.2.1 hb (vi 0) with
                | none => rw [hm] at h; cases h
                | some l => rw [hm] at h; exact exec_mono X n (d1 + 1) mi _ r h n2 (d2 + 1) hn2 hd
    · next v g hs => exact h
    · next kd g hs => exact h
theorem Wp.mono {X : MX} {d d' mi : Nat} {S : MS} {Q Q' : MRes → Prop} (h : Wp X d mi S Q) (hd : d ≤ d') (hq : ∀ r, Q r → Q' r) : Wp X d' mi S Q' := by
  obtain ⟨n, r, h1, h2⟩ := h
  exact ⟨n, r, exec_mono X n d mi S r h1 n d' (Nat.le_refl _) hd, hq r h2⟩
theorem wp_step {X : MX} {d mi : Nat} {S S' : MS} {Q : MRes → Prop} (h : step X mi S = some (.inl S')) (k : Wp X d mi S' Q) : Wp X d mi S Q := by
  obtain ⟨n, r, h1, h2⟩ := k
  exact ⟨n + 1, r, by unfold exec; rw [h]; exact h1, h2⟩
theorem wp_gif {X : MX} {d mi : Nat} {S S' : MS} {b : Bool} {Q : MRes → Prop} (h : step X mi S = some (.inr (.inl (b, S')))) (hb : b = true) (k : Wp X d mi S' Q) : Wp X d mi S Q := by
  obtain ⟨n, r, h1, h2⟩ := k
  exact ⟨n + 1, r, by unfold exec; rw [h, hb]; exact h1, h2⟩
theorem wp_run0 {X : MX} {d mi : Nat} {Q : MRes → Prop} : ∀ (k : Nat) (S : MS) (b c : Bool) (S' : MS), runN X mi k S b = some (c, S') → c = true → Wp X d mi S' Q → Wp X d mi S Q
  | 0, S, b, c, S', h, hc, hw => by
    simp only [runN, Option.some.injEq, Prod.mk.injEq] at h
    rw [h.2]; exact hw
  | k + 1, S, b, c, S', h, hc, hw => by
    unfold runN at h
    split at h
    · next S1 hs => exact wp_step hs (wp_run0 k _ _ c S' h hc hw)
    · next e S1 hs =>
      have h1 := runN_acc X mi k _ _ c S' h hc
      exact wp_gif hs (Bool.and_eq_true _ _ ▸ h1).1 (wp_run0 k _ _ c S' h hc hw)
    · cases h
theorem wp_run {X : MX} {d mi : Nat} {Q : MRes → Prop} (k : Nat) {S : MS} (c : Bool) (S' : MS) (h : runN X mi k S true = some (c, S')) (hc : c = true) (hw : Wp X d mi S' Q) : Wp X d mi S Q := wp_run0 k S true c S' h hc hw
theorem wp_ret {X : MX} {d mi : Nat} {S : MS} {v : Option MV} {g : MG} {Q : MRes → Prop} (h : step X mi S = some (.inr (.inr (.inr (.inl (v, g)))))) (hq : Q (.inl v, g)) : Wp X d mi S Q := ⟨1, (.inl v, g), by unfold exec; rw [h], hq⟩
theorem wp_thr {X : MX} {d mi : Nat} {S : MS} {kd : Nat} {g : MG} {Q : MRes → Prop} (h : step X mi S = some (.inr (.inr (.inr (.inr (kd, g)))))) (he : (mhd mi).isEmpty = true) (hq : Q (.inr kd, g)) : Wp X d mi S Q := ⟨1, (.inr kd, g), by unfold exec; rw [h]; dsimp only; rw [he]; rfl, hq⟩
/-- what a call is for its caller: the callee's run from its entry -/
def Cl (X : MX) (d mi : Nat) (as : List MV) (g : MG) (Q : MRes → Prop) : Prop := Wp X d mi (entry mi as g) Q
theorem Cl.mono {X : MX} {d d' mi : Nat} {as : List MV} {g : MG} {Q Q' : MRes → Prop} (h : Cl X d mi as g Q) (hd : d ≤ d') (hq : ∀ r, Q r → Q' r) : Cl X d' mi as g Q' := Wp.mono h hd hq
/-- behind a call -/
def Kal (X : MX) (d mi pc0 : Nat) (S' : MS) (Q : MRes → Prop) : MRes → Prop := fun r => match r with
  | (.inl v, g') => Wp X d mi (S'.1, (S'.2.1, (v.toList ++ S'.2.2.1, ga g' S'.2.2.2.1.2.1))) Q
  | (.inr kd, g') => match hfind (mhd mi) pc0 kd with
    | none => Q (.inr kd, ga g' S'.2.2.2.1.2.1)
    | some (h, s) => match mstore S'.2.1 s (vi 0) with
      | none => False
      | some l => Wp X d mi (h + alen mi h, (l.set s none, ([], ga g' S'.2.2.2.1.2.1))) Q
theorem wp_call {X : MX} {d mi : Nat} {S : MS} (mi' : Nat) (as : List MV) (S' : MS) {Q : MRes → Prop} (h : step X mi S = some (.inr (.inr (.inl (mi', (as, S')))))) (hl : entOk as mi' = true)
    (k : Cl X d mi' as S'.2.2.2 (Kal X (d + 1) mi S.1 S' Q)) : Wp X (d + 1) mi S Q := by
  obtain ⟨n, ⟨a, g'⟩, h1, h2⟩ := k
  cases a with
  | inl v =>
    obtain ⟨n2, r, h3, h4⟩ := h2
    refine ⟨max n n2 + 1, r, ?_, h4⟩
    unfold exec
    rw [h]
    dsimp only
    rw [hl, exec_mono X n d mi' _ _ h1 (max n n2) d (by omega) (Nat.le_refl _)]
    exact exec_mono X n2 (d + 1) mi _ _ h3 (max n n2) (d + 1) (by omega) (Nat.le_refl _)
  | inr kd =>
    unfold Kal at h2
    dsimp only at h2
    cases hf : hfind (mhd mi) S.1 kd with
    | none =>
      rw [hf] at h2
      refine ⟨n + 1, _, ?_, h2⟩
      unfold exec
      rw [h]
      dsimp only
      rw [hl, h1]
      dsimp only [cond_true]
      rw [hf]
    | some hh =>
      rw [hf] at h2
      obtain ⟨ha, hb⟩ := hh
      dsimp only at h2
      cases hm : mstore S'.2.1 hb (vi 0) with
      | none => rw [hm] at h2; exact h2.elim
      | some l =>
        rw [hm] at h2
        obtain ⟨n2, r, h3, h4⟩ := h2
        refine ⟨max n n2 + 1, r, ?_, h4⟩
        unfold exec
        rw [h]
        dsimp only
        rw [hl, exec_mono X n d mi' _ _ h1 (max n n2) d (by omega) (Nat.le_refl _)]
        dsimp only [cond_true]
        rw [hf]
        dsimp only
        rw [hm]
        exact exec_mono X n2 (d + 1) mi _ _ h3 (max n n2) (d + 1) (by omega) (Nat.le_refl _)
theorem wp_if {X : MX} {d mi p1 p2 : Nat} {R : ML × (List MV × MG)} {Q : MRes → Prop} (c : Prop) [Decidable c] (h1 : c → Wp X d mi (p1, R) Q) (h2 : ¬ c → Wp X d mi (p2, R) Q) : Wp X d mi ((bif decide c then p1 else p2), R) Q := by
  by_cases h : c
  · rw [decide_eq_true h]; exact h1 h
  · rw [decide_eq_false h]; exact h2 h
theorem wp_pc {X : MX} {d mi p1 p2 : Nat} {R : ML × (List MV × MG)} {Q : MRes → Prop} (e : p1 = p2) (h : Wp X d mi (p2, R) Q) : Wp X d mi (p1, R) Q := by rw [e]; exact h
theorem wpg {α : Type} (P : α → Prop) (e : α) (h : ∀ t, t = e → P t) : P e := h e rfl
theorem and_t {a b : Bool} (ha : a = true) (hb : b = true) : (a && b) = true := by rw [ha, hb]; rfl
/-- worlds after the making: u cells and slots used by this method; l the long, the double; m the ints -/
abbrev Gu (u : Nat × Nat) (x : Int64 × UInt64) (m : MI) : MG := ((304, (u, RM)), (x, m))
abbrev G (x : Int64 × UInt64) (m : MI) : MG := Gu (0, 0) x m
theorem wp_retT {X : MX} {d mi : Nat} {S : MS} {v : Option MV} {g : MG} {Q : MRes → Prop} (b : Bool) (h : step X mi S = bif b then some (.inr (.inr (.inr (.inl (v, g))))) else none) (hb : b = true) (hq : Q (.inl v, g)) : Wp X d mi S Q := wp_ret (by rw [h, hb]; rfl) hq
