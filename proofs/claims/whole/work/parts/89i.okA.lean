/-! ===== WHAT EVERY OPERATION KEEPS ===== -/
theorem okC.mono {B C : Nat} {r : Row} (h : okC B r) (hBC : B ≤ C) : okC C r := by
  unfold okC at h ⊢; omega
theorem okRp.mono {B C : Nat} {r : Row} (h : okRp B r) (hBC : B ≤ C) : okRp C r := by
  unfold okRp at h ⊢; omega
theorem okA_C {B C nx : Nat} {a : AS} {l : List Row} (h : okA B a) (hB : B ≤ C) (hl : l.length ≤ 10) (hx : nx ≤ C) (hr : ∀ r ∈ l, okC nx r ∧ r 5 ≤ aDay a) (hp : l.Pairwise (fun r q => r 0 < q 0)) : okA C (asC a l nx) := by
  obtain ⟨⟨h1, h2, h3, h4, h5, h6⟩, ⟨h7, h8⟩, h9, h10⟩ := h
  exact ⟨⟨hl, h2, hx, Nat.le_trans h4 hB, Nat.le_trans h5 hB, h6⟩, ⟨hr, hp⟩, h9, h10⟩
theorem okA_R {B C nx : Nat} {a : AS} {l : List Row} (h : okA B a) (hB : B ≤ C) (hl : l.length ≤ 6) (hx : nx ≤ C) (hr : ∀ r ∈ l, okRp nx r) (hp : l.Pairwise (fun r q => r 0 < q 0)) : okA C (asR a l nx) := by
  obtain ⟨⟨h1, h2, h3, h4, h5, h6⟩, ⟨h7, h8⟩, h9, h10⟩ := h
  exact ⟨⟨h1, hl, Nat.le_trans h3 hB, hx, Nat.le_trans h5 hB, h6⟩, ⟨h7, h8⟩, hr, hp⟩
theorem okA_1 {B dy mt : Nat} {c r : Int32} {a : AS} (h : okA B a) (h1 : aDay a ≤ dy) (h2 : dy ≤ B) (hm : okMet mt) : okA B (as1 a dy mt c r) := by
  obtain ⟨⟨g1, g2, g3, g4, g5, g6⟩, ⟨g7, g8⟩, g9, g10⟩ := h
  exact ⟨⟨g1, g2, g3, g4, h2, hm⟩, ⟨fun r hr => ⟨(g7 r hr).1, Nat.le_trans (g7 r hr).2 h1⟩, g8⟩, g9, g10⟩
theorem okA.met {B : Nat} {a : AS} (h : okA B a) : okMet (aMet a) := h.1.2.2.2.2.2
theorem okA_Dl {B p : Nat} {a : AS} (h : okA B a) : okA B (asDl a p) :=
  okA_C h (Nat.le_refl _) (Nat.le_trans (List.eraseIdx_sublist _ _).length_le h.1.1) h.1.2.2.1 (fun r hr => h.2.1.1 r ((List.eraseIdx_sublist _ _).subset hr)) (h.2.1.2.sublist (List.eraseIdx_sublist _ _))
theorem okA_Wd {B p : Nat} {a : AS} (h : okA B a) : okA B (asWd a p) :=
  okA_R h (Nat.le_refl _) (Nat.le_trans (List.eraseIdx_sublist _ _).length_le h.1.2.1) h.1.2.2.2.1 (fun r hr => h.2.2.1 r ((List.eraseIdx_sublist _ _).subset hr)) (h.2.2.2.sublist (List.eraseIdx_sublist _ _))
theorem okA_Dis {B p : Nat} {a : AS} (h : okA B a) : okA B (asDis a p) := okA_1 (okA_Dl h) (Nat.le_refl _) h.1.2.2.2.2.1 h.met
theorem okA_Give {B p q : Nat} {a : AS} (h : okA B a) : okA B (asGive a p q) := okA_Dl (okA_Wd (okA_1 h (Nat.le_refl _) h.1.2.2.2.2.1 h.met))
theorem okA_Mt {B : Nat} {p : Int32} {a : AS} (h : okA B a) (hm : isMt p) : okA B (asMt a (clN p)) := okA_1 h (Nat.le_refl _) h.1.2.2.2.2.1 (isMt_ok hm).2
theorem okA_appC {B : Nat} {a : AS} {l : List Row} {r : Row} (h : okA B a) (hs : l.Sublist (aC a)) (hl : l.length < 10) (h0 : r 0 = aXC a) (h1 : okC (aXC a + 1) r) (h5 : r 5 ≤ aDay a) : okA (B + 1) (asC a (l ++ [r]) (aXC a + 1)) := by
  refine okA_C h (by omega) (by rw [List.length_append]; show l.length + 1 ≤ 10; omega) (by have := h.1.2.2.1; omega) (fun q hq => ?_) (List.pairwise_append.mpr ⟨h.2.1.2.sublist hs, List.pairwise_singleton _ _, fun q hq w hw => ?_⟩)
  · rcases List.mem_append.mp hq with z | z
    · have := h.2.1.1 q (hs.subset z)
      exact ⟨this.1.mono (by omega), this.2⟩
    · rw [List.mem_singleton.mp z]; exact ⟨h1, h5⟩
  · rw [List.mem_singleton.mp hw, h0]
    exact (h.2.1.1 q (hs.subset hq)).1.1
theorem okA_Add {B : Nat} {a : AS} {p q r f : Int32} (h : okA B a) (hw : whyAdd a p q r f = 0) : okA (B + 1) (asAdd a (clN p) (clN q) (clN r) (clN f)) := by
  unfold whyAdd at hw
  split at hw
  · next c1 =>
    split at hw
    · omega
    · next c2 =>
      have a1 := inR_cl c1.1.1
      have a2 := inR_cl c1.1.2.1
      have a3 := inR_cl c1.1.2.2
      have a4 := inR_cl c1.2
      have hl := h.1.1
      refine okA_appC h (List.Sublist.refl _) (by omega) rfl ⟨?_, a1.2.2, a2.2.2, a3.2.2, a4.2.1, a4.2.2⟩ (Nat.le_refl _)
      show aXC a < aXC a + 1
      omega
  · omega
theorem okA_Rep {B : Nat} {a : AS} {p q r t w : Int32} (h : okA B a) (hw : whyRep a p q r t w = 0) : okA (B + 1) (asRep a (clN p) (clN q) (clN r) (clN t) (clN w)) := by
  unfold whyRep at hw
  split at hw
  · next c1 =>
    split at hw
    · omega
    · next c2 =>
      have a1 := inR_cl c1.1.1
      have a2 := inR_cl c1.1.2.1
      have a3 := inR_cl c1.1.2.2
      have a4 := inR_cl c1.2.1
      have a5 := inR_cl c1.2.2
      have hl := h.1.2.1
      refine okA_R h (by omega) (by rw [List.length_append]; show (aR a).length + 1 ≤ 6; omega) (by have := h.1.2.2.2.1; omega) (fun q hq => ?_) (List.pairwise_append.mpr ⟨h.2.2.2, List.pairwise_singleton _ _, fun q hq w hw => ?_⟩)
      · rcases List.mem_append.mp hq with z | z
        · exact (h.2.2.1 q z).mono (by omega)
        · rw [List.mem_singleton.mp z]
          refine ⟨?_, a1.2.2, a2.2.2, a3.2.2, a4.2.2, a5.2.1, a5.2.2⟩
          show aXR a < aXR a + 1
          omega
      · rw [List.mem_singleton.mp hw]
        exact (h.2.2.1 q hq).1
  · omega
theorem okA_Mix {B p q : Nat} {a : AS} (h : okA B a) (hp : p < (aC a).length) (hq : q < (aC a).length) (hn : p ≠ q) : okA (B + 1) (asMix a p q) := by
  have hl := h.1.1
  have c1 := (h.c hp).1
  have c2 := (h.c hq).1
  unfold okC at c1 c2
  have e1 : ((aC a).eraseIdx (max p q)).length = (aC a).length - 1 := len_er (by omega)
  have e2 : (((aC a).eraseIdx (max p q)).eraseIdx (min p q)).length = (aC a).length - 1 - 1 := by rw [len_er (by omega), e1]
  refine okA_appC h ((List.eraseIdx_sublist _ _).trans (List.eraseIdx_sublist _ _)) (by omega) rfl ⟨?_, ?_, ?_, ?_, ?_, ?_⟩ (Nat.le_refl _)
  · show aXC a < aXC a + 1; omega
  · show (rowD (aC a) p 1 + rowD (aC a) q 1) / 2 ≤ 99; omega
  · show (rowD (aC a) p 2 + rowD (aC a) q 2) / 2 ≤ 99; omega
  · show (rowD (aC a) p 3 + rowD (aC a) q 3) / 2 ≤ 99; omega
  · show 1 ≤ min (rowD (aC a) p 4) (rowD (aC a) q 4); omega
  · show min (rowD (aC a) p 4) (rowD (aC a) q 4) ≤ 9; omega
/-! ===== COMMANDS ===== -/
def cA (c : Cmd) (j : Nat) : Int32 := nI (c.2.getD j 0)
def cE (n u v : Nat) : Nat := if n = 1 then u else if n = 2 then v else 0
def cBad (c : Cmd) (a : AS) : Nat := match c.1 with
  | 0 => cE (whyAdd a (cA c 0) (cA c 1) (cA c 2) (cA c 3)) 97 115
  | 1 => cE (whyRep a (cA c 0) (cA c 1) (cA c 2) (cA c 3) (cA c 4)) 97 115
  | 2 => if posI (aR a) (cA c 0) < (aR a).length then 0 else 101
  | 3 => if posI (aC a) (cA c 0) < (aC a).length then 0 else 101
  | 5 => cE (whyGive a (cA c 0) (cA c 1)) 101 117
  | 7 => cE (whyMix a (cA c 0) (cA c 1)) 101 97
  | 9 => cE (whyDays (cA c 0)) 97 97
  | _ => 0
def cDo (c : Cmd) (a : AS) : AS := match c.1 with
  | 0 => asAdd a (clN (cA c 0)) (clN (cA c 1)) (clN (cA c 2)) (clN (cA c 3))
  | 1 => asRep a (clN (cA c 0)) (clN (cA c 1)) (clN (cA c 2)) (clN (cA c 3)) (clN (cA c 4))
  | 2 => asWd a (posI (aR a) (cA c 0))
  | 3 => asDis a (posI (aC a) (cA c 0))
  | 4 => asMt a (clN (cA c 0))
  | 5 => asGive a (posI (aR a) (cA c 0)) (posI (aC a) (cA c 1))
  | 6 => asSet a
  | 7 => asMix a (posI (aC a) (cA c 0)) (posI (aC a) (cA c 1))
  | 8 => asDays 1 a
  | 9 => asDays (clN (cA c 0)) a
  | _ => a
def cOk (c : Cmd) : Prop := c.1 < 10 ∧ c.2.length = mks (formCh c.1) ∧ (c.1 = 4 → isMt (cA c 0))
theorem cE_0 {n u v : Nat} (hu : 0 < u) (hv : 0 < v) (hn : n ≤ 2) : cE n u v = 0 ↔ n = 0 := by
  unfold cE
  split
  · omega
  · split <;> omega
theorem whyAdd_le {a : AS} {p q r f : Int32} : whyAdd a p q r f ≤ 2 := by unfold whyAdd; split <;> (try split) <;> omega
theorem whyRep_le {a : AS} {p q r f w : Int32} : whyRep a p q r f w ≤ 2 := by unfold whyRep; split <;> (try split) <;> omega
theorem whyGive_le {a : AS} {p q : Int32} : whyGive a p q ≤ 2 := by unfold whyGive; split <;> (try split) <;> omega
theorem whyMix_le {a : AS} {p q : Int32} : whyMix a p q ≤ 2 := by unfold whyMix; split <;> (try split) <;> omega
theorem whyDays_le {p : Int32} : whyDays p ≤ 2 := by unfold whyDays; split <;> omega
theorem days_in {p : Int32} (h : whyDays p = 0) : inR p 1 99 := by
  unfold whyDays at h
  split at h
  · next c => exact c
  · omega
theorem mix_in {B : Nat} {a : AS} {p q : Int32} (ho : okA B a) (h : whyMix a p q = 0) : posI (aC a) p < (aC a).length ∧ posI (aC a) q < (aC a).length ∧ posI (aC a) p ≠ posI (aC a) q := by
  unfold whyMix at h
  split at h
  · next c =>
    split at h
    · omega
    · next c2 =>
      refine ⟨c.1, c.2, fun z => c2 ?_⟩
      have e1 := posI_id c.1
      have e2 := posI_id c.2
      rw [z] at e1
      exact e1.symm.trans e2
  · omega
theorem okA_cDo {B : Nat} {c : Cmd} {a : AS} (h : okA B a) (hc : cOk c) (hb : cBad c a = 0) : okA (B + 99) (cDo c a) := by
  obtain ⟨k, as⟩ := c
  have hk : k < 10 := hc.1
  have hk9 : k = 0 ∨ k = 1 ∨ k = 2 ∨ k = 3 ∨ k = 4 ∨ k = 5 ∨ k = 6 ∨ k = 7 ∨ k = 8 ∨ k = 9 := by omega
  rcases hk9 with rfl | rfl | rfl | rfl | rfl | rfl | rfl | rfl | rfl | rfl
  · exact (okA_Add h ((cE_0 (by decide) (by decide) whyAdd_le).mp hb)).mono (by omega)
  · exact (okA_Rep h ((cE_0 (by decide) (by decide) whyRep_le).mp hb)).mono (by omega)
  · exact (okA_Wd h).mono (by omega)
  · exact (okA_Dis h).mono (by omega)
  · exact (okA_Mt h (hc.2.2 rfl)).mono (by omega)
  · exact (okA_Give h).mono (by omega)
  · exact (okA_rmv h _ _ _ _).mono (by omega)
  · obtain ⟨h1, h2, h3⟩ := mix_in h ((cE_0 (by decide) (by decide) whyMix_le).mp hb)
    exact (okA_Mix h h1 h2 h3).mono (by omega)
  · exact (okA_days h 1).mono (by omega)
  · have := inR_cl (days_in ((cE_0 (by decide) (by decide) whyDays_le).mp hb))
    exact (okA_days h _).mono (by omega)
/-- what the reader gives is well formed -/
theorem mRun_len (l : List Nat) : ∀ (f : List Nat) (p : Nat) (as : List Nat), (mRun l f p as).1 = true → (mRun l f p as).2.2.length = as.length + mks f
  | [], p, as, _ => rfl
  | s :: f, p, as, h => by
    have e : mRun l (s :: f) p as = if s = 35 then (if dl l p = 0 then (false, (p, as)) else mRun l f (p + dl l p) (as ++ [nv l p])) else if s = 64 then (if p < l.length ∧ isM (l.getD p 0) = true then mRun l f (p + 1) (as ++ [l.getD p 0]) else (false, (p, as))) else if p < l.length ∧ l.getD p 0 = s then mRun l f (p + 1) as else (false, (p, as)) := rfl
    have ek : mks (s :: f) = mks f + (if s = 35 ∨ s = 64 then 1 else 0) := rfl
    rw [e] at h ⊢
    rw [ek]
    by_cases c1 : s = 35
    · rw [if_pos c1] at h ⊢
      rw [if_pos (Or.inl c1)]
      by_cases c2 : dl l p = 0
      · rw [if_pos c2] at h; cases h
      · rw [if_neg c2] at h ⊢
        rw [mRun_len l f _ _ h, len_app]; omega
    · rw [if_neg c1] at h ⊢
      by_cases c2 : s = 64
      · rw [if_pos c2] at h ⊢
        rw [if_pos (Or.inr c2)]
        by_cases c3 : p < l.length ∧ isM (l.getD p 0) = true
        · rw [if_pos c3] at h ⊢
          rw [mRun_len l f _ _ h, len_app]; omega
        · rw [if_neg c3] at h; cases h
      · rw [if_neg c2] at h ⊢
        rw [if_neg (fun z : s = 35 ∨ s = 64 => z.elim c1 c2)]
        by_cases c3 : p < l.length ∧ l.getD p 0 = s
        · rw [if_pos c3] at h ⊢
          rw [mRun_len l f _ _ h]; omega
        · rw [if_neg c3] at h; cases h
theorem isM_Mt {c : Nat} (h : isM c = true) : isMt (nI c) := by
  rcases of_decide_eq_true h with z | z | z <;> rw [z]
  · exact Or.inl rfl
  · exact Or.inr (Or.inl rfl)
  · exact Or.inr (Or.inr rfl)
theorem fR_ok {l : List Nat} {p k : Nat} (hk : k < 10) (h : (fR l p k).1 = true) : cOk (k, (fR l p k).2.2) := by
  refine ⟨hk, ?_, fun h4 => ?_⟩
  · have := mRun_len l (formCh k) p [] h
    rw [show ([] : List Nat).length = 0 from rfl, Nat.zero_add] at this
    exact this
  · have h4 : k = 4 := h4
    subst h4
    show isMt (nI ((fR l p 4).2.2.getD 0 0))
    rw [fR_w hk] at h ⊢
    by_cases hw : lc l (Wrd (wk 4)) p = (Wrd (wk 4)).length
    · rw [if_pos hw] at h ⊢
      have e : mRun l (Af 4) (p + (Wrd (wk 4)).length) [] = if p + (Wrd (wk 4)).length < l.length ∧ l.getD (p + (Wrd (wk 4)).length) 0 = 32 then mRun l [64] (p + (Wrd (wk 4)).length + 1) [] else (false, (p + (Wrd (wk 4)).length, [])) := mRun_s (by decide) (by decide)
      rw [e] at h ⊢
      generalize p + (Wrd (wk 4)).length = p9 at *
      have e2 : mRun l [64] (p9 + 1) [] = if p9 + 1 < l.length ∧ isM (l.getD (p9 + 1) 0) = true then (endAt l (p9 + 2), (p9 + 2, [l.getD (p9 + 1) 0])) else (false, (p9 + 1, [])) := rfl
      by_cases a : p9 < l.length ∧ l.getD p9 0 = 32
      · rw [if_pos a, e2] at h ⊢
        by_cases b : p9 + 1 < l.length ∧ isM (l.getD (p9 + 1) 0) = true
        · rw [if_pos b]
          exact isM_Mt b.2
        · rw [if_neg b] at h; cases h
      · rw [if_neg a] at h; cases h
    · rw [if_neg hw] at h; cases h
theorem psF_ok {l : List Nat} : ∀ (j p : Nat) (cs : List Cmd), (∀ c ∈ cs, cOk c) → ∀ c ∈ (psF l j p cs).2, cOk c
  | 0, _, cs, h => h
  | j + 1, p, cs, h => by
    have e : psF l (j + 1) p cs = if fk l p < 10 then (if (fR l p (fk l p)).2.1 < l.length then psF l j ((fR l p (fk l p)).2.1 + 1) (cs ++ [(fk l p, (fR l p (fk l p)).2.2)]) else (none, cs ++ [(fk l p, (fR l p (fk l p)).2.2)])) else (some (fu l p 10), cs) := rfl
    rw [e]
    have hy : fk l p < 10 → (fR l p (fk l p)).1 = true := fun z => by
      have efk : fk l p = fa_first (fun k => (fR l p k).1) 10 := by unfold fk; rfl
      have := fa_first_yes (fun k => (fR l p k).1) 10
      rw [← efk] at this
      exact this z
    generalize fk l p = z at *
    by_cases c : z < 10
    · rw [if_pos c]
      have hn : ∀ w ∈ cs ++ [(z, (fR l p z).2.2)], cOk w := fun w hw => by
        rcases List.mem_append.mp hw with y | y
        · exact h w y
        · rw [List.mem_singleton.mp y]; exact fR_ok c (hy c)
      by_cases c2 : (fR l p z).2.1 < l.length
      · rw [if_pos c2]; exact psF_ok j _ _ hn
      · rw [if_neg c2]; exact hn
    · rw [if_neg c]; exact h
