/-! ===== THE WHOLE OFFICE: WHAT BOTH SIDES HOLD ===== -/
/-- state; history; snapshot; script buffer, output; error position, failed command, failure -/
abbrev OS : Type := AS × (List AS × (Option AS × ((List Nat × List Nat) × (Int32 × (Int32 × Int32)))))
abbrev oA (o : OS) : AS := o.1
abbrev oH (o : OS) : List AS := o.2.1
abbrev oS (o : OS) : Option AS := o.2.2.1
abbrev oB (o : OS) : List Nat := o.2.2.2.1.1
abbrev oT (o : OS) : List Nat := o.2.2.2.1.2
abbrev oW (o : OS) : Int32 := o.2.2.2.2.1
abbrev oF (o : OS) : Int32 := o.2.2.2.2.2.1
abbrev oK (o : OS) : Int32 := o.2.2.2.2.2.2
def txt (m : MI) (fl kl ft : Nat) (l : List Nat) : Prop := m fl 0 kl = nI l.length ∧ ∀ k, k < l.length → m ft 0 k = nI (l.getD k 0)
def snC (m : MI) (S : Option AS) : Prop := (S = none ∧ m 0 0 10 = 0) ∨ ∃ b, S = some b ∧ m 0 0 10 = 1 ∧ relS m 2 b
def snM (m : MI) (S : Option AS) : Prop := (S = none ∧ m 31 0 10 = 0) ∨ ∃ b, S = some b ∧ m 31 0 10 = 1 ∧ relR (m 34 0) b
def CoR (m : MI) (o : OS) : Prop := relS m 0 (oA o) ∧ HyP false m (oH o) ∧ snC m (oS o) ∧ txt m 23 1 24 (oB o) ∧ txt m 28 1 29 (oT o) ∧ m 0 0 12 = oW o ∧ m 0 0 13 = oF o ∧ m 0 0 14 = oK o
def MoR (m : MI) (o : OS) : Prop := relR (m 32 0) (oA o) ∧ relMH m (oH o) ∧ snM m (oS o) ∧ txt m 31 18 40 (oB o) ∧ txt m 31 14 39 (oT o) ∧ m 31 0 7 = oW o ∧ m 31 0 8 = oF o ∧ m 31 0 9 = (if oF o < 0 then 0 else oK o)
def okO (B : Nat) (o : OS) : Prop := okA B (oA o) ∧ (∀ b ∈ oH o, okA B b) ∧ (∀ b, oS o = some b → okA B b) ∧ ((oB o).length ≤ 60 ∧ ∀ c ∈ oB o, 32 ≤ c ∧ c ≤ 126) ∧ ((oT o).length ≤ 64 ∧ ∀ c ∈ oT o, c ≤ 126) ∧ ((oF o < 0 ∧ oK o = 45) ∨ (0 ≤ oF o ∧ ∃ k, 1 ≤ k ∧ k ≤ 126 ∧ oK o = nI k))
def kC (f i k : Nat) : Prop := (f = 0 ∧ 10 ≤ k) ∨ inSt 0 f i ∨ inSt 2 f i ∨ tH f i ∨ (f = 23 ∧ k = 1) ∨ f = 24 ∨ (f = 28 ∧ k = 1) ∨ f = 29 ∨ (f = 18 ∧ i = 0)
def kM (f k : Nat) : Prop := f = 32 ∨ f = 34 ∨ f = 35 ∨ f = 39 ∨ f = 40 ∨ (f = 31 ∧ (k = 6 ∨ k = 7 ∨ k = 8 ∨ k = 9 ∨ k = 10 ∨ k = 14 ∨ k = 18))
theorem okA.mono {B C : Nat} {a : AS} (h : okA B a) (hBC : B ≤ C) : okA C a := by
  obtain ⟨⟨h1, h2, h3, h4, h5, h6⟩, h7⟩ := h
  exact ⟨⟨h1, h2, by omega, by omega, by omega, h6⟩, h7⟩
theorem okO.mono {B C : Nat} {o : OS} (h : okO B o) (hBC : B ≤ C) : okO C o :=
  ⟨h.1.mono hBC, fun b hb => (h.2.1 b hb).mono hBC, fun b hb => (h.2.2.1 b hb).mono hBC, h.2.2.2⟩
theorem okO.hl {B : Nat} {o : OS} (h : okO B o) : ∀ b ∈ oH o, lenOk b := fun b hb => (h.2.1 b hb).len
theorem CoR.on {m m9 : MI} {B : Nat} {o : OS} (h : CoR m o) (ok : okO B o) (hf : ∀ f i k, kC f i k → m9 f i k = m f i k) : CoR m9 o := by
  obtain ⟨h1, h2, h3, h4, h5, h6, h7, h8⟩ := h
  have hl := ok.1.len
  refine ⟨h1.on hl.1 hl.2.1 (fun f i k hi => hf f i k (Or.inr (Or.inl hi))), h2.on ok.hl (hf 0 0 11 (Or.inl ⟨rfl, by omega⟩)) (fun f i k hi => hf f i k (Or.inr (Or.inr (Or.inr (Or.inl hi))))), ?_, ⟨?_, fun k hk => ?_⟩, ⟨?_, fun k hk => ?_⟩, ?_, ?_, ?_⟩
  · rcases h3 with ⟨e, h3⟩ | ⟨b, e, h3, h9⟩
    · exact Or.inl ⟨e, by rw [hf 0 0 10 (Or.inl ⟨rfl, by omega⟩)]; exact h3⟩
    · have hb := (ok.2.2.1 b e).len
      exact Or.inr ⟨b, e, by rw [hf 0 0 10 (Or.inl ⟨rfl, by omega⟩)]; exact h3, h9.on hb.1 hb.2.1 (fun f i k hi => hf f i k (Or.inr (Or.inr (Or.inl hi))))⟩
  · rw [hf 23 0 1 (by unfold kC; omega)]; exact h4.1
  · rw [hf 24 0 k (by unfold kC; omega)]; exact h4.2 k hk
  · rw [hf 28 0 1 (by unfold kC; omega)]; exact h5.1
  · rw [hf 29 0 k (by unfold kC; omega)]; exact h5.2 k hk
  · rw [hf 0 0 12 (by unfold kC; omega)]; exact h6
  · rw [hf 0 0 13 (by unfold kC; omega)]; exact h7
  · rw [hf 0 0 14 (by unfold kC; omega)]; exact h8
theorem MoR.on {m m9 : MI} {o : OS} (h : MoR m o) (hf : ∀ f i k, kM f k → m9 f i k = m f i k) : MoR m9 o := by
  obtain ⟨h1, h2, h3, h4, h5, h6, h7, h8⟩ := h
  have e32 : m9 32 0 = m 32 0 := funext fun k => hf 32 0 k (by unfold kM; omega)
  have e34 : m9 34 0 = m 34 0 := funext fun k => hf 34 0 k (by unfold kM; omega)
  refine ⟨by rw [e32]; exact h1, h2.on (hf 31 0 6 (by unfold kM; omega)) (fun k => hf 35 0 k (by unfold kM; omega)), ?_, ⟨?_, fun k hk => ?_⟩, ⟨?_, fun k hk => ?_⟩, ?_, ?_, ?_⟩
  · unfold snM
    rw [hf 31 0 10 (by unfold kM; omega), e34]
    exact h3
  · rw [hf 31 0 18 (by unfold kM; omega)]; exact h4.1
  · rw [hf 40 0 k (by unfold kM; omega)]; exact h4.2 k hk
  · rw [hf 31 0 14 (by unfold kM; omega)]; exact h5.1
  · rw [hf 39 0 k (by unfold kM; omega)]; exact h5.2 k hk
  · rw [hf 31 0 7 (by unfold kM; omega)]; exact h6
  · rw [hf 31 0 8 (by unfold kM; omega)]; exact h7
  · rw [hf 31 0 9 (by unfold kM; omega)]; exact h8
/-- the class leaves the model alone, the model the class -/
def FC (m m9 : MI) : Prop := ∀ f i k, (31 ≤ f ∨ (f = 18 ∧ i = 0)) → m9 f i k = m f i k
def FM (m m9 : MI) : Prop := ∀ f i k, f ≤ 30 → m9 f i k = m f i k
theorem FC.mr {m m9 : MI} {o : OS} (h : MoR m o) (hf : FC m m9) : MoR m9 o := h.on (fun f i k hk => hf f i k (by unfold kM at hk; omega))
theorem FM.ci {m m9 : MI} {B : Nat} {o : OS} (h : CoR m o) (ok : okO B o) (hf : FM m m9) : CoR m9 o := h.on ok (fun f i k hk => hf f i k (by unfold kC inSt tH at hk; omega))
theorem FC.rf {m : MI} : FC m m := fun _ _ _ _ => rfl
theorem FM.rf {m : MI} : FM m m := fun _ _ _ _ => rfl
theorem FC.tr {a b c : MI} (h : FC a b) (k : FC b c) : FC a c := fun f i j hn => (k f i j hn).trans (h f i j hn)
theorem FM.tr {a b c : MI} (h : FM a b) (k : FM b c) : FM a c := fun f i j hn => (k f i j hn).trans (h f i j hn)
theorem Fr.fc {T : Nat → Nat → Prop} {m m9 : MI} (h : Fr T m m9) (ht : ∀ f i, T f i → f ≤ 30 ∧ ¬ (f = 18 ∧ i = 0)) : FC m m9 := fun f i k hn => h f i k (fun z => by have := ht f i z; omega)
theorem Fk.fm {T : Nat → Nat → Nat → Prop} {m m9 : MI} (h : Fk T m m9) (ht : ∀ f i k, T f i k → 31 ≤ f) : FM m m9 := fun f i k hn => h f i k (fun z => by have := ht f i k z; omega)
/-- new states of the office -/
abbrev osPush (o : OS) (a : AS) : OS := (a, (hpush (oA o) (oH o), o.2.2))
theorem CoR.push {m m9 : MI} {B : Nat} {o : OS} {a : AS} (h : CoR m o) (ok : okO B o) (hS : relS m9 0 a) (hH : HyP false m9 (hpush (oA o) (oH o))) (hF : Fr (tO false) m m9) : CoR m9 (osPush o a) := by
  obtain ⟨h1, h2, h3, h4, h5, h6, h7, h8⟩ := h
  have K : ∀ f i k, ¬ tO false f i → m9 f i k = m f i k := hF
  refine ⟨hS, hH, ?_, ⟨?_, fun k hk => ?_⟩, ⟨?_, fun k hk => ?_⟩, ?_, ?_, ?_⟩
  · rcases h3 with ⟨e, h3⟩ | ⟨b, e, h3, h9⟩
    · exact Or.inl ⟨e, by rw [K 0 0 10 (by unfold tO inSt tH; omega)]; exact h3⟩
    · have hb := (ok.2.2.1 b e).len
      exact Or.inr ⟨b, e, by rw [K 0 0 10 (by unfold tO inSt tH; omega)]; exact h3, h9.on hb.1 hb.2.1 (fun f i k hi => K f i k (by unfold inSt at hi; unfold tO inSt tH; omega))⟩
  · rw [K 23 0 1 (by unfold tO inSt tH; omega)]; exact h4.1
  · rw [K 24 0 k (by unfold tO inSt tH; omega)]; exact h4.2 k hk
  · rw [K 28 0 1 (by unfold tO inSt tH; omega)]; exact h5.1
  · rw [K 29 0 k (by unfold tO inSt tH; omega)]; exact h5.2 k hk
  · rw [K 0 0 12 (by unfold tO inSt tH; omega)]; exact h6
  · rw [K 0 0 13 (by unfold tO inSt tH; omega)]; exact h7
  · rw [K 0 0 14 (by unfold tO inSt tH; omega)]; exact h8
theorem tO_fc {m m9 : MI} (hF : Fr (tO false) m m9) : FC m m9 := hF.fc (fun f i h => by unfold tO inSt tH at h; omega)
/-- the model behind begin, a change of what is now, commit -/
theorem MoR.push {m m9 : MI} {o : OS} {a : AS} (h : MoR m o) (hR : relR (m9 32 0) a) (hH : relMH m9 (hpush (oA o) (oH o))) (hF : Fk (fun f i k => t32 f i k ∨ tBg f i k ∨ tCm f i k) m m9) : MoR m9 (osPush o a) := by
  obtain ⟨h1, h2, h3, h4, h5, h6, h7, h8⟩ := h
  have K : ∀ f i k, f = 34 ∨ f = 39 ∨ f = 40 ∨ (f = 31 ∧ ¬ k = 5 ∧ ¬ k = 6) → m9 f i k = m f i k := fun f i k hk => hF f i k (by unfold t32 tBg tCm; omega)
  have e34 : m9 34 0 = m 34 0 := funext fun k => K 34 0 k (by omega)
  refine ⟨hR, hH, ?_, ⟨?_, fun k hk => ?_⟩, ⟨?_, fun k hk => ?_⟩, ?_, ?_, ?_⟩
  · unfold snM
    rw [K 31 0 10 (by omega), e34]
    exact h3
  · rw [K 31 0 18 (by omega)]; exact h4.1
  · rw [K 40 0 k (by omega)]; exact h4.2 k hk
  · rw [K 31 0 14 (by omega)]; exact h5.1
  · rw [K 39 0 k (by omega)]; exact h5.2 k hk
  · rw [K 31 0 7 (by omega)]; exact h6
  · rw [K 31 0 8 (by omega)]; exact h7
  · rw [K 31 0 9 (by omega)]; exact h8
