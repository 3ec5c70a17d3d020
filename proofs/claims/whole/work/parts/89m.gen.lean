/-! ===== THE LAW'S CASES: COMMON FORMS ===== -/
theorem lg_self (a : Int64) : lg_cmp a a = 0 := by
  unfold lg_cmp
  exact (if_neg Int64.lt_irrefl).trans (if_pos rfl)
def LI (i : Nat) (m : MI) (u : Nat × Nat) : Prop := ∃ o, CoR m o ∧ MoR m o ∧ okO (2000 * i) o ∧ (∀ s, m 18 0 s = 0) ∧ u.1 ≤ 600000 + 2 * i ∧ u.2 ≤ 7150000 + 12 * i
def CWp (X : MX) (d wid : Nat) (ca : List MV) (o : OS) (k : Nat) (ans : Int64) (o9 : OS) : Prop := ∀ (m : MI) (x : Int64 × UInt64) (Q : MRes → Prop), CoR m o → (∀ s, m 18 0 s = 0) → (∀ (m9 : MI) (x9 : Int64 × UInt64) (u9 : Nat × Nat), CoR m9 o9 → FC m m9 → u9.1 ≤ 2 → u9.2 ≤ 12 → (k = 0 → x9.1 = ans) → Q (.inl (some (vi (nI k))), Gu u9 x9 m9)) → Cl X d wid ca (G x m) Q
def MWp (X : MX) (d mid : Nat) (ma : List MV) (o : OS) (k : Nat) (ans : Int32) (o9 : OS) : Prop := ∀ (m : MI) (x : Int64 × UInt64) (Q : MRes → Prop), MoR m o → (∀ (m9 : MI) (v : Int32), MoR m9 o9 → FM m m9 → m9 31 0 5 = nI k → (k = 0 → v = ans) → Q (.inl (some (vi v)), G x m9)) → Cl X d mid ma (G x m) Q
theorem FQ.cr {m m9 : MI} {B : Nat} {o : OS} (hF : FQ m m9) (h : CoR m o) (ok : okO B o) : CoR m9 o ∧ FC m m9 :=
  ⟨h.on ok (fun f i k z => hF f i k (Or.inl z)), fun f i k hn => hF f i k (by unfold kC; omega)⟩
section GEN
variable {X : MX} {d : Nat} {x : Int64 × UInt64} {m : MI} {Q : MRes → Prop} {B : Nat} {o o9 : OS} {k wid mid : Nat} {ca ma : List MV} {ans l5 : Int32} {u : Nat × Nat} {i : Nat} {o6 o7 o8 : Option MV}
theorem CWp_q (ok : okO B o) (h : ∀ (m : MI) (x : Int64 × UInt64) (Q : MRes → Prop), CoR m o → (∀ s, m 18 0 s = 0) → cq m k ans Q x → Cl X d wid ca (G x m) Q) : CWp X d wid ca o k ans.toInt64 o := fun m x Q hC hz hQ => by
  refine h m x Q hC hz ⟨fun e m9 F9 => ?_, fun k9 hk e m9 F9 => ?_⟩
  · have c := F9.cr hC ok
    subst e
    exact hQ m9 _ (0, 0) c.1 c.2 (Nat.zero_le _) (Nat.zero_le _) (fun _ => rfl)
  · have c := F9.cr hC ok
    subst e
    exact hQ m9 x (1, 6) c.1 c.2 (by decide) (by decide) (fun z => absurd z hk)
theorem CWp_m {o' : OS} (h : ∀ (m : MI) (x : Int64 × UInt64) (Q : MRes → Prop), CoR m o → (∀ s, m 18 0 s = 0) → (k = 0 → ∀ m9, CoR m9 o' → FC m m9 → Q (.inl (some (vi 0)), G (ans.toInt64, x.2) m9)) → (∀ k9, k9 ≠ 0 → k = k9 → Q (.inl (some (vi (nI k9))), Gu (1, 6) x m)) → Cl X d wid ca (G x m) Q) : CWp X d wid ca o k ans.toInt64 (if k = 0 then o' else o) := fun m x Q hC hz hQ => by
  refine h m x Q hC hz (fun e m9 C9 F9 => ?_) (fun k9 hk e => ?_)
  · rw [if_pos e] at hQ
    subst e
    exact hQ m9 _ (0, 0) C9 F9 (Nat.zero_le _) (Nat.zero_le _) (fun _ => rfl)
  · subst e
    rw [if_neg hk] at hQ
    exact hQ m x (1, 6) hC FC.rf (by decide) (by decide) (fun z => absurd z hk)
theorem MWp_q (h : ∀ (m : MI) (x : Int64 × UInt64) (Q : MRes → Prop), MoR m o → mq m o k ans Q x → Cl X d mid ma (G x m) Q) : MWp X d mid ma o k ans o := fun m x Q hM hQ =>
  h m x Q hM (fun m9 v h5 he M9 F9 => hQ m9 v M9 F9 h5 he)
theorem MWp_m {o' : OS} (h : ∀ (m : MI) (x : Int64 × UInt64) (Q : MRes → Prop), MoR m o → mres m o o' k ans Q x → Cl X d mid ma (G x m) Q) : MWp X d mid ma o k ans (if k = 0 then o' else o) := fun m x Q hM hQ =>
  h m x Q hM (fun m9 v h5 h0 h1 F9 => by
    by_cases e : k = 0
    · rw [if_pos e] at hQ
      exact hQ m9 v (h0 e).2 F9 h5 (fun _ => (h0 e).1)
    · rw [if_neg e] at hQ
      exact hQ m9 v (h1 e) F9 h5 (fun z => absurd z e))
theorem ok_if {B : Nat} {p : Prop} [Decidable p] {o o' : OS} (h1 : p → okO B o') (h2 : okO B o) : okO B (if p then o' else o) := by
  by_cases h : p
  · rw [if_pos h]; exact h1 h
  · rw [if_neg h]; exact h2
theorem okO_push {a : AS} (ok : okO B o) (h : okA (B + 2000) a) : okO (B + 2000) (osPush o a) :=
  ⟨h, fun b hb => by rcases hp_mem hb with z | z; rw [z]; exact ok.1.mono (by omega); exact (ok.2.1 b z).mono (by omega), fun b hb => (ok.2.2.1 b hb).mono (by omega), ok.2.2.2⟩
theorem LI_mk {m2 m6 : MI} {u3 : Nat × Nat} (ok9 : okO (2000 * (i + 1)) o9) (hz : ∀ s, m 18 0 s = 0) (hu : u.1 ≤ 600000 + 2 * i ∧ u.2 ≤ 7150000 + 12 * i) (C2 : CoR m2 o9) (F2 : FC m m2) (b1 : u3.1 ≤ 2) (b2 : u3.2 ≤ 12) (M6 : MoR m6 o9) (F6 : FM m2 m6) : LI (i + 1) m6 (u.1 + u3.1, u.2 + u3.2) :=
  ⟨o9, F6.ci C2 ok9, M6, ok9, fun s => by rw [F6 18 0 s (by omega), F2 18 0 s (Or.inr ⟨rfl, rfl⟩)]; exact hz s, by show u.1 + u3.1 ≤ _; omega, by show u.2 + u3.2 ≤ _; omega⟩
theorem gA (J : Prop → Prop) (hJ : ∀ P, P → J P) (hC : CWp X (d + 16) wid ca o k ans.toInt64 o9) (hM : MWp X (d + 16) mid ma o k ans o9) (hk : k ≤ 9) (ok9 : okO (2000 * (i + 1)) o9) (h1 : CoR m o) (h2 : MoR m o) (hz : ∀ s, m 18 0 s = 0) (hu : u.1 ≤ 600000 + 2 * i ∧ u.2 ≤ 7150000 + 12 * i)
    (W : ∀ (w6 w7 w8 : Option MV) (m9 : MI) (x9 : Int64 × UInt64) (u9 : Nat × Nat), LI (i + 1) m9 u9 → Wp X (d + 17) 322 (2999, ([some (vs 0 0), some (vp 0 0), some (vp 31 0), some (vp 43 0), some (vp 44 0), some (vi l5), w6, w7, w8], ([], Gu u9 x9 m9))) Q) :
    Cl X (d + 16) wid ca (Gu u x m) (fun r => ∃ (v1 : Int32) (m2 : MI) (u3 : Nat × Nat) (x4 : Int64 × UInt64), r = (.inl (some (vi v1)), Gu u3 x4 m2) ∧ J (Cl X (d + 16) mid ma (Gu (u.1 + u3.1, u.2 + u3.2) x4 m2) (fun r => ∃ (v5 : Int32) (m6 : MI), r = (.inl (some (vi v5)), G x4 m6) ∧ Cl X (d + 16) 146 [vp 31 0] (Gu (u.1 + u3.1, u.2 + u3.2) x4 m6) (fun r => ∃ (v7 : Int32) (m8 : MI), r = (.inl (some (vi v7)), G x4 m8) ∧ ((v7 = v1 → ((¬ v1 = 0 → Wp X (d + 17) 322 (2999, ([some (vs 0 0), some (vp 0 0), some (vp 31 0), some (vp 43 0), some (vp 44 0), some (vi l5), some (vi v1), some (vi v5), o8], ([], Gu (u.1 + u3.1, u.2 + u3.2) x4 m8))) Q) ∧ (¬ (¬ v1 = 0) → (((lg_cmp (x4.1) (v5.toInt64)) = 0 → Wp X (d + 17) 322 (2999, ([some (vs 0 0), some (vp 0 0), some (vp 31 0), some (vp 43 0), some (vp 44 0), some (vi l5), some (vi v1), some (vi v5), o8], ([], Gu (u.1 + u3.1, u.2 + u3.2) x4 m8))) Q) ∧ (¬ ((lg_cmp (x4.1) (v5.toInt64)) = 0) → Q (.inl (some (vi 0)), Gu (u.1 + u3.1, u.2 + u3.2) x4 m8)))))) ∧ (¬ (v7 = v1) → Q (.inl (some (vi 0)), Gu (u.1 + u3.1, u.2 + u3.2) x4 m8))))))) := by
  show Cl X (d + 16) wid ca (G x m) _
  refine hC m x _ h1 hz (fun m2 x4 u3 C2 F2 b1 b2 e4 => ⟨_, _, _, _, rfl, hJ _ ?_⟩)
  show Cl X (d + 16) mid ma (G x4 m2) _
  refine hM m2 x4 _ (F2.mr h2) (fun m6 v5 M6 F6 t6 e5 => ⟨_, _, rfl, ?_⟩)
  show Cl X (d + 16) 146 [vp 31 0] (G x4 m6) _
  refine vc_X11_thrown ⟨_, _, rfl, ?_⟩
  have L := LI_mk ok9 hz hu C2 F2 b1 b2 M6 F6
  refine ⟨fun _ => ⟨fun _ => W _ _ _ _ _ _ L, fun e => ⟨fun _ => W _ _ _ _ _ _ L, fun c => absurd ?_ c⟩⟩, fun c => absurd t6 c⟩
  have hk0 : k = 0 := (nI_eq (a := k) (b := 0) (by omega) (by omega)).mp (Decidable.not_not.mp e)
  rw [e4 hk0, e5 hk0]
  exact lg_self _
theorem gB (hC : ∀ (Q9 : MRes → Prop), (∀ m9, CoR m9 o9 → FC m m9 → Q9 (.inl (some (vi ans)), G x m9)) → Cl X (d + 16) wid ca (G x m) Q9) (hM : ∀ (m2 : MI) (Q9 : MRes → Prop), MoR m2 o → (∀ m9, MoR m9 o9 → FM m2 m9 → Q9 (.inl (some (vi ans)), G x m9)) → Cl X (d + 16) mid ma (G x m2) Q9) (ok9 : okO (2000 * (i + 1)) o9) (h2 : MoR m o) (hz : ∀ s, m 18 0 s = 0) (hu : u.1 ≤ 600000 + 2 * i ∧ u.2 ≤ 7150000 + 12 * i)
    (W : ∀ (w6 w7 w8 : Option MV) (m9 : MI) (x9 : Int64 × UInt64) (u9 : Nat × Nat), LI (i + 1) m9 u9 → Wp X (d + 17) 322 (2999, ([some (vs 0 0), some (vp 0 0), some (vp 31 0), some (vp 43 0), some (vp 44 0), some (vi l5), w6, w7, w8], ([], Gu u9 x9 m9))) Q) :
    Cl X (d + 16) wid ca (Gu u x m) (fun r => ∃ (v1 : Int32) (m2 : MI), r = (.inl (some (vi v1)), G x m2) ∧ Cl X (d + 16) mid ma (Gu u x m2) (fun r => ∃ (v3 : Int32) (m4 : MI), r = (.inl (some (vi v3)), G x m4) ∧ ((v1 = v3 → Wp X (d + 17) 322 (2999, ([some (vs 0 0), some (vp 0 0), some (vp 31 0), some (vp 43 0), some (vp 44 0), some (vi l5), o6, o7, o8], ([], Gu u x m4))) Q) ∧ (¬ (v1 = v3) → Q (.inl (some (vi 0)), Gu u x m4))))) := by
  show Cl X (d + 16) wid ca (G x m) _
  refine hC _ (fun m2 C2 F2 => ⟨_, _, rfl, ?_⟩)
  show Cl X (d + 16) mid ma (G x m2) _
  refine hM m2 _ (F2.mr h2) (fun m4 M4 F4 => ⟨_, _, rfl, fun _ => W _ _ _ _ _ _ ?_, fun c => absurd rfl c⟩)
  exact LI_mk (u3 := (0, 0)) ok9 hz hu C2 F2 (Nat.zero_le _) (Nat.zero_le _) M4 F4
end GEN
