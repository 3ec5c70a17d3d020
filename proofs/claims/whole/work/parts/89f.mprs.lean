/-! ===== SCRIPTS: ONE COMMAND ON BOTH SIDES ===== -/
theorem fa_first_eq {f : Nat → Bool} {n k : Nat} (hk : k < n) (h1 : f k = true) (h2 : ∀ j, j < k → f j = false) : fa_first f n = k := by
  have a1 := fa_first_no f n
  have a2 := fa_first_yes f n
  have a3 := fa_first_le f n
  rcases Nat.lt_trichotomy (fa_first f n) k with c | c | c
  · have e := a2 (by omega)
    rw [h2 _ c] at e; cases e
  · exact c
  · have e := a1 k c
    rw [h1] at e; cases e
theorem fa_first_none {f : Nat → Bool} {n : Nat} (h2 : ∀ j, j < n → f j = false) : fa_first f n = n := by
  have a2 := fa_first_yes f n
  have a3 := fa_first_le f n
  rcases Nat.lt_or_ge (fa_first f n) n with c | c
  · have e := a2 c
    rw [h2 _ c] at e; cases e
  · omega
theorem lc_p {l w : List Nat} {p : Nat} (h : p ≤ l.length) : p + lc l w p ≤ l.length := by
  rcases Nat.eq_zero_or_pos (lc l w p) with c | c
  · omega
  · have := of_decide_eq_true (lc_in (l := l) (w := w) (p := p) (j := lc l w p - 1) (by omega))
    omega
def mWb (l : List Nat) (p : Nat) : Nat → Nat
  | 0 => 0
  | k + 1 => max (mWb l p k) (lc l (Wrd k) p)
def mWk (l : List Nat) (p : Nat) : Nat := fa_first (fun k => decide (lc l (Wrd k) p = (Wrd k).length)) 9
theorem mWb_p {l : List Nat} {p : Nat} (h : p ≤ l.length) : ∀ k, p + mWb l p k ≤ l.length
  | 0 => h
  | k + 1 => by
    have h1 := mWb_p h k
    have h2 := lc_p (w := Wrd k) h
    show p + max (mWb l p k) (lc l (Wrd k) p) ≤ _
    omega
theorem mWb_ge {l : List Nat} {p : Nat} : ∀ n k, k < n → lc l (Wrd k) p ≤ mWb l p n
  | 0, k, h => absurd h (Nat.not_lt_zero k)
  | n + 1, k, h => by
    show _ ≤ max (mWb l p n) (lc l (Wrd n) p)
    rcases Nat.lt_or_ge k n with c | c
    · have := mWb_ge (l := l) (p := p) n k c
      omega
    · obtain rfl : k = n := by omega
      omega
theorem mWb_at {l : List Nat} {p : Nat} : ∀ n, mWb l p (n + 1) = 0 ∨ ∃ k, k < n + 1 ∧ mWb l p (n + 1) = lc l (Wrd k) p
  | 0 => Or.inr ⟨0, by omega, Nat.max_eq_right (Nat.zero_le _)⟩
  | n + 1 => by
    have ih := mWb_at (l := l) (p := p) n
    have e : mWb l p (n + 1 + 1) = max (mWb l p (n + 1)) (lc l (Wrd (n + 1)) p) := rfl
    rcases Nat.lt_or_ge (mWb l p (n + 1)) (lc l (Wrd (n + 1)) p) with c | c
    · exact Or.inr ⟨n + 1, by omega, by omega⟩
    · rcases ih with z | ⟨k, hk, z⟩
      · exact Or.inl (by omega)
      · exact Or.inr ⟨k, by omega, by omega⟩
section MW
variable {X : MX} {d : Nat} {x : Int64 × UInt64} {m : MI} {Q : MRes → Prop} {l : List Nat} {cm : Nat}
theorem sp_word {p : Nat} (h : PM m l false p cm) (hp : p ≤ l.length) (hl : l.length ≤ 60) (hc : ∀ c ∈ l, c ≤ 126)
    (h1 : ∀ k, k < 9 → lc l (Wrd k) p = (Wrd k).length → mWk l p = k → ∀ m9, PM m9 l false (p + (Wrd k).length) cm → KW cm m m9 → Q (.inl (some (vi (nI k))), G x m9))
    (h0 : mWk l p = 9 → ∀ m9, PM m9 l true (p + mWb l p 9) cm → KW cm m m9 → Q (.inl (some (vi 0)), G x m9)) : Cl X (d + 2) 264 [vp 31 0] (G x m) Q := by
  refine vc_X11_word ?_
  have inner : ∀ j i k b, k < 9 → i + j = (Wrd k).length → (∀ t, t < i → mat l (Wrd k) p t = true) → b ≤ 60 → (lc l (Wrd k) p = (Wrd k).length → ∀ m9, m9 = mup m 31 0 20 (nI (p + (Wrd k).length)) → Q (.inl (some (vi (nI k))), G x m9)) → (lc l (Wrd k) p < (Wrd k).length → Wp X (d + 2) 264 (4, ([some (vp 31 0), some (vi (nI (max b (lc l (Wrd k) p)))), some (vi (nI (k + 1))), some (vi (nI (lc l (Wrd k) p)))], ([], G x m))) Q) → Wp X (d + 2) 264 (12, ([some (vp 31 0), some (vi (nI b)), some (vi (nI k)), some (vi (nI i))], ([], G x m))) Q := by
    intro j
    induction j with
    | zero =>
      intro i k b hk hij hm hb hF hP
      obtain rfl : i = (Wrd k).length := by omega
      have w := Wrd_ok k hk
      have e0 : (Wrd k).getD (Wrd k).length 0 = 0 := w.2.2.2 _ (by omega) (Nat.le_refl _)
      have sp : ∀ {Q9 : MRes → Prop}, Q9 (.inl (some (vi 0)), G x m) → Cl X (d + 1) 263 [vi (nI k), vi (nI (Wrd k).length)] (G x m) Q9 := fun hq => sp_spell hk (by omega) (by rw [e0]; exact hq)
      refine vl_X11_word_12 (sp ⟨_, _, rfl, fun _ => sp ⟨_, _, rfl, fun c => absurd rfl c, fun _ m10 e10 => ?_⟩, fun c => absurd (by decide) c⟩)
      refine hF (lc_at (Nat.le_refl _) hm (Or.inl rfl)) m10 ?_
      rw [e10, h.2.2.2.1, nI_add]
    | succ j ih =>
      intro i k b hk hij hm hb hF hP
      have w := Wrd_ok k hk
      have c0 := w.2.2.1 i (by omega) (by omega)
      have sp : ∀ {Q9 : MRes → Prop}, Q9 (.inl (some (vi (nI ((Wrd k).getD i 0)))), G x m) → Cl X (d + 1) 263 [vi (nI k), vi (nI i)] (G x m) Q9 := fun hq => sp_spell hk (by omega) hq
      have ep := h.2.2.2.1
      have tl : mat l (Wrd k) p i = false → (nI i ≤ nI b → ∀ t8 : Int32, t8 = nI k + 1 → Wp X (d + 2) 264 (4, ([some (vp 31 0), some (vi (nI b)), some (vi t8), some (vi (nI i))], ([], G x m))) Q) ∧ (¬ (nI i ≤ nI b) → ∀ t9 : Int32, t9 = nI k + 1 → Wp X (d + 2) 264 (4, ([some (vp 31 0), some (vi (nI i)), some (vi t9), some (vi (nI i))], ([], G x m))) Q) := fun z => by
        have e := lc_at (l := l) (w := Wrd k) (p := p) (i := i) (by omega) hm (Or.inr z)
        have hP := hP (by omega)
        rw [e] at hP
        refine pk_le i b (fun c t et => ?_) (fun c t et => ?_)
        · rw [Nat.max_eq_left c] at hP
          rw [et, nI_1 k]; exact hP
        · rw [Nat.max_eq_right (by omega)] at hP
          rw [et, nI_1 k]; exact hP
      have nz : ¬ nI ((Wrd k).getD i 0) = 0 := fun z => by
        have := (nI_eq (a := (Wrd k).getD i 0) (b := 0) (by omega) (by omega)).mp z
        omega
      have np : ¬ nI ((Wrd k).getD i 0) ≤ 0 := fun z => by
        have := (nI_leI (a := (Wrd k).getD i 0) (b := 0) (by omega) (by omega)).mp z
        omega
      refine vl_X11_word_12 (sp ⟨_, _, rfl, fun c => absurd c np, fun _ => ?_⟩)
      rw [h.1, ep, nI_add]
      refine pk_le l.length (p + i) (fun c => sp ⟨_, _, rfl, fun _ => tl (decide_eq_false (by omega)), fun c => absurd nz c⟩) (fun c => ⟨inb_n (p + i) 60 (by omega), sp ⟨_, _, rfl, ?_⟩⟩)
      rw [nI_clamp (n := p + i) (by omega), h.2.1 (p + i) (by omega)]
      have hb2 := hc _ (getD_mem (show p + i < l.length by omega))
      refine pk_eqn (fun z t et => ?_) (fun z => sp ⟨_, _, rfl, fun _ => tl (decide_eq_false (fun y => z y.2)), fun c => absurd nz c⟩) (by omega) (by omega)
      rw [et, nI_1 i]
      refine ih (i + 1) k b hk (by omega) (fun t ht => ?_) hb hF hP
      rcases Nat.lt_or_ge t i with c2 | c2
      · exact hm t c2
      · obtain rfl : t = i := by omega
        exact decide_eq_true ⟨by omega, z⟩
  have outer : ∀ j k o3, k + j = 9 → (∀ t, t < k → lc l (Wrd t) p < (Wrd t).length) → Wp X (d + 2) 264 (4, ([some (vp 31 0), some (vi (nI (mWb l p k))), some (vi (nI k)), o3], ([], G x m))) Q := by
    intro j
    induction j with
    | zero =>
      intro k o3 hk hm
      obtain rfl : k = 9 := by omega
      refine vl_X11_word_4 ⟨fun _ m2 e2 m3 e3 => ?_, fun c => absurd (by decide) c⟩
      rw [h.2.2.2.1, nI_add] at e2
      obtain ⟨p2, k2⟩ := h.p e2
      obtain ⟨p3, k3⟩ := p2.w (v := true) e3
      refine h0 (fa_first_none (fun j hj => decide_eq_false ?_)) m3 p3 (k2.tr k3)
      have := hm j hj
      omega
    | succ j ih =>
      intro k o3 hk hm
      have hbp := mWb_p (l := l) hp k
      refine vl_X11_word_4 ⟨fun c => absurd c (nI_ge (a := k) (b := 9) (by omega) (by omega)), fun _ => ?_⟩
      refine inner (Wrd k).length 0 k (mWb l p k) (by omega) (by omega) (fun t ht => absurd ht (Nat.not_lt_zero t)) (by omega) (fun z m9 e9 => ?_) (fun z => ?_)
      · obtain ⟨p9, k9⟩ := h.p e9
        refine h1 k (by omega) z (fa_first_eq (by omega) (decide_eq_true z) (fun j hj => decide_eq_false ?_)) m9 p9 k9
        have := hm j hj
        omega
      · refine ih (k + 1) _ (by omega) (fun t ht => ?_)
        rcases Nat.lt_or_ge t k with c | c
        · exact hm t c
        · obtain rfl : t = k := by omega
          exact z
  exact outer 9 0 none rfl (fun t ht => absurd ht (Nat.not_lt_zero t))
def mC (l : List Nat) (p : Nat) : Bool × (Nat × (Nat × List Nat)) := if mWk l p < 9 then ((mArg l (mWk l p) (p + (Wrd (mWk l p)).length)).1, ((mArg l (mWk l p) (p + (Wrd (mWk l p)).length)).2.1, (mWk l p, (mArg l (mWk l p) (p + (Wrd (mWk l p)).length)).2.2))) else (false, (p + mWb l p 9, (0, [])))
def KC (cm : Nat) (m m9 : MI) : Prop := ∀ f i k, ¬ ((f = 31 ∧ (k = 20 ∨ k = 21 ∨ k = 22)) ∨ (f = 41 ∧ k = cm) ∨ (f = 42 ∧ 8 * cm ≤ k ∧ k < 8 * cm + 8)) → m9 f i k = m f i k
theorem KW.kc {cm : Nat} {m m9 : MI} (h : KW cm m m9) : KC cm m m9 := fun f i k hn => h f i k (by omega)
theorem mArg_len {l : List Nat} {k p : Nat} (hk : k < 9) : (mArg l k p).1 = true → (mArg l k p).2.2.length ≤ 5 := by
  unfold mArg
  have hs := (Sg_ok k (by omega)).1
  intro h
  by_cases h4 : k = 4
  · rw [if_pos h4] at h ⊢
    by_cases a : p < l.length ∧ l.getD p 0 = 32
    · rw [if_pos a] at h ⊢
      by_cases b : p + 1 < l.length ∧ isM (l.getD (p + 1) 0) = true
      · rw [if_pos b]; exact (by decide : (1 : Nat) ≤ 5)
      · rw [if_neg b] at h; cases h
    · rw [if_neg a] at h; cases h
  · rw [if_neg h4] at h ⊢
    by_cases h8 : k = 8
    · rw [if_pos h8] at h ⊢
      by_cases a : p < l.length ∧ l.getD p 0 = 32
      · rw [if_pos a] at h ⊢
        rw [aRun_len _ _ _ h]; decide
      · rw [if_neg a]; exact (by decide : (1 : Nat) ≤ 5)
    · rw [if_neg h8] at h ⊢
      rw [aRun_len _ _ _ h]
      show 0 + _ ≤ 5
      omega
theorem mArg_c {l : List Nat} {k p : Nat} (h : p ≤ l.length) : p ≤ (mArg l k p).2.1 ∧ (mArg l k p).2.1 ≤ l.length := by
  unfold mArg
  by_cases h4 : k = 4
  · rw [if_pos h4]
    by_cases a : p < l.length ∧ l.getD p 0 = 32
    · rw [if_pos a]
      by_cases b : p + 1 < l.length ∧ isM (l.getD (p + 1) 0) = true
      · rw [if_pos b]; dsimp only; omega
      · rw [if_neg b]; dsimp only; omega
    · rw [if_neg a]; exact ⟨Nat.le_refl _, h⟩
  · rw [if_neg h4]
    by_cases h8 : k = 8
    · rw [if_pos h8]
      by_cases a : p < l.length ∧ l.getD p 0 = 32
      · rw [if_pos a]; exact aRun_c _ _ _ h
      · rw [if_neg a]; exact ⟨Nat.le_refl _, h⟩
    · rw [if_neg h8]; exact aRun_c _ _ _ h
theorem sp_mcmd {p : Nat} (h : PM m l false p cm) (hp : p ≤ l.length) (hl : l.length ≤ 60) (hc : ∀ c ∈ l, c ≤ 126) (hcm : cm < 32) {C : Bool × (Nat × (Nat × List Nat))} (hC : mC l p = C)
    (h1 : C.1 = true → ∀ m9, PM m9 l false C.2.1 (cm + 1) → m9 41 0 cm = nI C.2.2.1 → (∀ j, j < C.2.2.2.length → m9 42 0 (8 * cm + j) = nI (C.2.2.2.getD j 0)) → KC cm m m9 → Q (.inl none, G x m9))
    (h0 : C.1 = false → ∀ m9, PM m9 l true C.2.1 cm → KC cm m m9 → Q (.inl none, G x m9)) : Cl X (d + 5) 266 [vp 31 0] (G x m) Q := by
  refine vc_X11_command (sp_word h hp hl hc (fun k hk hw ew m9 h9 k9 => ⟨_, _, rfl, fun _ => ?_, fun c => absurd h9.2.2.1 c⟩) (fun ew m9 h9 k9 => ⟨_, _, rfl, fun c => absurd (h9.2.2.1.symm.trans c) (by decide), fun _ => ?_⟩))
  · have hp2 : p + (Wrd k).length ≤ l.length := by have := lc_p (l := l) (w := Wrd k) hp; omega
    have eC : mC l p = ((mArg l k (p + (Wrd k).length)).1, ((mArg l k (p + (Wrd k).length)).2.1, (k, (mArg l k (p + (Wrd k).length)).2.2))) := by
      unfold mC
      rw [ew, if_pos hk]
    rw [eC] at hC
    refine sp_args hk h9 hp2 hl hc hcm (fun m5 h5 => ⟨_, rfl, ?_⟩)
    have hlen := mArg_len (l := l) (k := k) (p := p + (Wrd k).length) hk
    cases hb : (mArg l k (p + (Wrd k).length)).1 with
    | true =>
      obtain ⟨p5, a5⟩ := h5.2.1 hb
      have hlen := hlen hb
      refine ⟨fun _ => ?_, fun c => absurd p5.2.2.1 c⟩
      rw [p5.2.2.2.2, nI_clamp (n := cm) (by omega)]
      refine ⟨inb_n cm 32 hcm, fun m7 e7 m8 e8 => ?_⟩
      have e71 : m7 31 0 21 = nI cm := by rw [e7, mup_no (by omega)]; exact p5.2.2.2.2
      rw [e71, nI_1 cm] at e8
      subst hC
      refine h1 hb m8 ⟨?_, fun k hk => ?_, ?_, ?_, by rw [e8, mup_eq]⟩ ?_ (fun j hj => ?_) (fun f i k hn => ?_)
      · rw [e8, mup_no (by omega), e7, mup_no (by omega)]; exact p5.1
      · rw [e8, mup_no (by omega), e7, mup_no (by omega)]; exact p5.2.1 k hk
      · rw [e8, mup_no (by omega), e7, mup_no (by omega)]; exact p5.2.2.1
      · rw [e8, mup_no (by omega), e7, mup_no (by omega)]; exact p5.2.2.2.1
      · rw [e8, mup_no (by omega), e7, mup_eq]
      · rw [e8, mup_no (by omega), e7, mup_no (by omega)]; exact a5 j hj
      · rw [e8, mup_no (by omega), e7, mup_no (by omega), h5.1 f i k (by omega), k9 f i k (by omega)]
    | false =>
      have p5 := h5.2.2 hb
      subst hC
      exact ⟨fun c => absurd (p5.2.2.1.symm.trans c) (by decide), fun _ => h0 hb m5 p5 ((k9.tr h5.1).kc)⟩
  · have eC : mC l p = (false, (p + mWb l p 9, (0, []))) := by
      unfold mC
      rw [ew, if_neg (by omega)]
    rw [eC] at hC
    subst hC
    exact h0 rfl m9 h9 k9.kc
end MW
