/-! ===== THE MODEL: CHANGES, CONTINUED ===== -/
theorem posV_lt0 {l : List Row} {id : Int32} (hl : l.length < 2 ^ 31) {A B : Prop} (f : posI l id = l.length → A) (g : posI l id < l.length → B) : (posV l id < 0 → A) ∧ (¬ posV l id < 0 → B) := by
  have h := posI_le l id
  unfold posV
  by_cases hc : posI l id < l.length
  · rw [if_pos hc]
    exact ⟨fun h0 => absurd h0 (nI_pos (by omega)), fun _ => g hc⟩
  · rw [if_neg hc]
    exact ⟨fun _ => f (by omega), fun h0 => absurd (by decide) h0⟩
theorem okA.ptC {B k : Nat} {a : AS} {f : Nat → Int32} (ho : okA B a) (h : relR f a) (hk : k < (aC a).length) : parts f (8 + 8 * k) (rowD (aC a) k) := fun o h1 h3 => by
  refine ⟨h.2.1 k hk o (by omega), ?_⟩
  have := (ho.c hk).1
  unfold okC at this
  have hc : o = 1 ∨ o = 2 ∨ o = 3 := by omega
  rcases hc with rfl | rfl | rfl <;> omega
theorem okA.ptR {B k : Nat} {a : AS} {f : Nat → Int32} (ho : okA B a) (h : relR f a) (hk : k < (aR a).length) : parts f (88 + 8 * k) (rowD (aR a) k) := fun o h1 h3 => by
  refine ⟨h.2.2 k hk o (by omega), ?_⟩
  have := ho.r hk
  unfold okRp at this
  have hc : o = 1 ∨ o = 2 ∨ o = 3 := by omega
  rcases hc with rfl | rfl | rfl <;> omega
theorem okA.dst {B i j : Nat} {a : AS} (ho : okA B a) (hi : i < (aR a).length) (hj : j < (aC a).length) (mt : Nat) : dst mt (rowD (aR a) i) (rowD (aC a) j) ≤ 29403 := by
  have h1 := ho.r hi
  have h2 := (ho.c hj).1
  unfold okRp at h1
  unfold okC at h2
  exact gap3_le (adf_le (by omega) (by omega)) (adf_le (by omega) (by omega)) (adf_le (by omega) (by omega))
section MCHG2
variable {X : MX} {d : Nat} {x : Int64 × UInt64} {m : MI} {Q : MRes → Prop} {a : AS} {B : Nat}
theorem sp_in {p : Int32} (lo hi : Nat) (h1 : inR p lo hi → Q (.inl (some (vi 1)), G x m)) (h0 : ¬ inR p lo hi → Q (.inl (some (vi 0)), G x m)) : Cl X d 147 [vi p, vi (nI lo), vi (nI hi)] (G x m) Q := by
  refine vc_X11_in ⟨fun c => h0 (fun z => absurd c (Int32.not_lt.mpr z.1)), fun c => ⟨fun c2 => h0 (fun z => absurd c2 (Int32.not_lt.mpr z.2)), fun c2 => h1 ⟨Int32.not_lt.mp c, Int32.not_lt.mp c2⟩⟩⟩
theorem sp_areP {p q r : Int32} (h1 : isP3 p q r → Q (.inl (some (vi 1)), G x m)) (h0 : ¬ isP3 p q r → Q (.inl (some (vi 0)), G x m)) : Cl X (d + 1) 166 [vi p, vi q, vi r] (G x m) Q := by
  refine vc_X11_areParts ?_
  refine sp_in 0 99 (fun c1 => ⟨_, _, rfl, fun c => absurd c (by decide), fun _ => ?_⟩) (fun c1 => ⟨_, _, rfl, fun _ => h0 (fun z => c1 z.1), fun c => absurd rfl c⟩)
  refine sp_in 0 99 (fun c2 => ⟨_, _, rfl, fun c => absurd c (by decide), fun _ => ?_⟩) (fun c1 => ⟨_, _, rfl, fun _ => h0 (fun z => c1 z.2.1), fun c => absurd rfl c⟩)
  refine sp_in 0 99 (fun c3 => ⟨_, _, rfl, fun c => absurd c (by decide), fun _ => h1 ⟨c1, c2, c3⟩⟩) (fun c1 => ⟨_, _, rfl, fun _ => h0 (fun z => c1 z.2.2), fun c => absurd rfl c⟩)
theorem sp_mcanAdd {p q r f : Int32} (h : relR (m 32 0) a) (ho : lenOk a) (hQ : Q (.inl (some (vi (nI (whyAdd a p q r f)))), G x m)) : Cl X (d + 2) 168 [vp 31 0, vi p, vi q, vi r, vi f] (G x m) Q := by
  have hl := ho.1
  refine vc_X11_cannotAdd ?_
  unfold whyAdd at hQ
  refine sp_areP (fun c1 => ⟨_, _, rfl, fun c => absurd c (by decide), fun _ => ?_⟩) (fun c1 => ⟨_, _, rfl, fun _ => ?_, fun c => absurd rfl c⟩)
  · refine sp_in 1 9 (fun c2 => ⟨_, _, rfl, fun _ => ?_, fun c => absurd (by decide) c⟩) (fun c2 => ⟨_, _, rfl, fun c => absurd rfl c, fun _ => ?_⟩)
    · rw [if_pos ⟨c1, c2⟩] at hQ
      rw [h.1.1]
      refine pk_eqn (b := 10) (fun c => ?_) (fun c => ?_) (by omega) (by omega)
      · rw [if_pos c] at hQ; exact hQ
      · rw [if_neg c] at hQ; exact hQ
    · rw [if_neg (fun z => c2 z.2)] at hQ; exact hQ
  · rw [if_neg (fun z => c1 z.1)] at hQ; exact hQ
theorem sp_mcanRep {p q r t w : Int32} (h : relR (m 32 0) a) (ho : lenOk a) (hQ : Q (.inl (some (vi (nI (whyRep a p q r t w)))), G x m)) : Cl X (d + 2) 171 [vp 31 0, vi p, vi q, vi r, vi t, vi w] (G x m) Q := by
  have hl := ho.2.1
  refine vc_X11_cannotReport ?_
  unfold whyRep at hQ
  refine sp_areP (fun c1 => ⟨_, _, rfl, fun c => absurd c (by decide), fun _ => ?_⟩) (fun c1 => ⟨_, _, rfl, fun _ => ?_, fun c => absurd rfl c⟩)
  · refine sp_in 0 9999 (fun c2 => ⟨_, _, rfl, fun c => absurd c (by decide), fun _ => ?_⟩) (fun c2 => ⟨_, _, rfl, fun _ => ?_, fun c => absurd rfl c⟩)
    · refine sp_in 1 99 (fun c3 => ⟨_, _, rfl, fun _ => ?_, fun c => absurd (by decide) c⟩) (fun c3 => ⟨_, _, rfl, fun c => absurd rfl c, fun _ => ?_⟩)
      · rw [if_pos ⟨c1, c2, c3⟩] at hQ
        rw [h.1.2.1]
        refine pk_eqn (b := 6) (fun c => ?_) (fun c => ?_) (by omega) (by omega)
        · rw [if_pos c] at hQ; exact hQ
        · rw [if_neg c] at hQ; exact hQ
      · rw [if_neg (fun z => c3 z.2.2)] at hQ; exact hQ
    · rw [if_neg (fun z => c2 z.2.1)] at hQ; exact hQ
  · rw [if_neg (fun z => c1 z.1)] at hQ; exact hQ
theorem sp_mwd {p : Int32} (h : relR (m 32 0) a) (ho : lenOk a) (hp : posI (aR a) p < (aR a).length) (hQ : ∀ m9, relR (m9 32 0) (asWd a (posI (aR a) p)) → Fk t32 m m9 → Q (.inl (some (vi (nI ((aR a).length - 1)))), G x m9)) : Cl X (d + 3) 174 [vp 31 0, vi p] (G x m) Q := by
  refine vc_X11_withdraws (sp_mrep h ho.2.1 ⟨_, _, rfl, ?_⟩)
  rw [posV_in hp]
  refine sp_rmMR h ho hp (fun m9 h9 F9 => ⟨_, rfl, ?_⟩)
  rw [h9.1.2.1, len_er hp]
  exact hQ m9 h9 F9
theorem sp_mdis {p : Int32} (h : relR (m 32 0) a) (ho : lenOk a) (hp : posI (aC a) p < (aC a).length) (hQ : ∀ m9, relR (m9 32 0) (asDis a (posI (aC a) p)) → Fk t32 m m9 → Q (.inl (some (vi (nI ((aC a).length - 1)))), G x m9)) : Cl X (d + 3) 176 [vp 31 0, vi p] (G x m) Q := by
  refine vc_X11_discards (sp_mcol h ho.1 ⟨_, _, rfl, ?_⟩)
  rw [posV_in hp]
  refine sp_rmMC h ho hp (fun m9 h9 F9 => ⟨_, rfl, fun m5 e5 => ?_⟩)
  rw [h9.1.2.2.2.2.2.2.1] at e5
  have e0 : m5 32 0 0 = nI ((aC a).length - 1) := by rw [e5, mup_no (by omega), h9.1.1, len_er hp]
  rw [e0]
  refine hQ m5 (h9.set1 (fun k hk => ?_) ?_ ?_ ?_ ?_) ?_
  · rw [e5, mup_no (by omega)]
  · rw [e5, mup_no (by omega)]; exact h9.1.2.2.2.2.1
  · rw [e5, mup_no (by omega)]; exact h9.1.2.2.2.2.2.1
  · rw [e5, mup_eq]
  · rw [e5, mup_no (by omega)]; exact h9.1.2.2.2.2.2.2.2
  · rw [e5]; exact Fk.ups F9 rfl
theorem sp_mmet {p : Int32} (h : relR (m 32 0) a) (hp : isMt p) (hQ : ∀ m9, relR (m9 32 0) (asMt a (clN p)) → Fk t32 m m9 → Q (.inl (some (vi (nI (aMet a)))), G x m9)) : Cl X d 179 [vp 31 0, vi p] (G x m) Q := by
  refine vc_X11_measures (fun t1 e1 m5 e5 => ?_)
  rw [h.1.2.2.2.2.2.1] at e1
  rw [e1]
  refine hQ m5 (h.set1 (fun k hk => ?_) ?_ ?_ ?_ ?_) ?_
  · rw [e5, mup_no (by omega)]
  · rw [e5, mup_no (by omega)]; exact h.1.2.2.2.2.1
  · rw [e5, mup_eq]; exact (isMt_ok hp).1
  · rw [e5, mup_no (by omega)]; exact h.1.2.2.2.2.2.2.1
  · rw [e5, mup_no (by omega)]; exact h.1.2.2.2.2.2.2.2
  · rw [e5]; exact Fk.up rfl
theorem sp_misMt {p : Int32} (h1 : isMt p → Q (.inl (some (vi 1)), G x m)) (h0 : ¬ isMt p → Q (.inl (some (vi 0)), G x m)) : Cl X d 178 [vi p] (G x m) Q :=
  vc_X11_isMetric ⟨fun c => h1 (Or.inl c), fun c1 => ⟨fun c => h1 (Or.inr (Or.inl c)), fun c2 => ⟨fun c => h0 (fun z => by rcases z with z | z | z <;> contradiction), fun c => h1 (Or.inr (Or.inr (Decidable.not_not.mp c)))⟩⟩⟩
/-- the model's nearest colour to a row -/
theorem sp_mnear {r : Nat} {u : Row} (hr : r + 3 < 136) (h : relR (m 32 0) a) (ho : okA B a) (hu : parts (m 32 0) r u) (hQ : Q (.inl (some (vi (nrV (fun k => dst (aMet a) u (rowD (aC a) k)) (aC a).length))), G x m)) : Cl X (d + 2) 165 [vp 31 0, vi (nI r)] (G x m) Q := by
  have hl := ho.len
  refine vc_X11_nearestTo ?_
  have hb : ∀ k, k < (aC a).length → dst (aMet a) u (rowD (aC a) k) ≤ 29403 := fun k hk => gap3_le (adf_le (hu 1 (by omega) (by omega)).2 (ho.ptC h hk 1 (by omega) (by omega)).2) (adf_le (hu 2 (by omega) (by omega)).2 (ho.ptC h hk 2 (by omega) (by omega)).2) (adf_le (hu 3 (by omega) (by omega)).2 (ho.ptC h hk 3 (by omega) (by omega)).2)
  generalize hg : (fun k => dst (aMet a) u (rowD (aC a) k)) = g at hQ
  have hgk : ∀ k, g k = dst (aMet a) u (rowD (aC a) k) := fun k => by rw [← hg]
  have key : ∀ k, k ≤ (aC a).length → Wp X (d + 2) 165 (4, ([some (vp 31 0), some (vi (nI r)), some (vi (nrV g k)), some (vi (nI k))], ([], G x m))) Q := by
    refine lup (fun k hk ih => ?_)
    refine vl_X11_nearestTo_4 ?_
    rw [h.1.1]
    refine pk_le (aC a).length k (fun hc => ?_) (fun hc => ?_)
    · obtain rfl : k = (aC a).length := by omega
      exact hQ
    · have ih := ih hc
      by_cases h0 : k = 0
      · subst h0
        refine ⟨fun _ t3 e3 => ?_, fun c => absurd (show (-1 : Int32) < 0 by decide) c⟩
        rw [e3]
        exact ih
      · have hn : nrV g k = nI (nrs g k) := if_neg h0
        have hlt := (nrs_spec g k (by omega)).1
        rw [hn]
        rw [show nrV g (k + 1) = nI (nrs g (k + 1)) from if_neg (by omega), nrs_s g (by omega)] at ih
        refine ⟨fun c => absurd c (nI_pos (by omega)), fun _ => ?_⟩
        refine sp_crow ⟨_, _, rfl, sp_apart (by omega) (by omega) hl.2.2 h.1.2.2.2.2.2.1 hu (ho.ptC h hc) ⟨_, _, rfl, ?_⟩⟩
        refine sp_crow ⟨_, _, rfl, sp_apart (by omega) (by omega) hl.2.2 h.1.2.2.2.2.2.1 hu (ho.ptC h (k := nrs g k) (by omega)) ⟨_, _, rfl, ?_⟩⟩
        have b1 := hb k hc
        have b2 := hb (nrs g k) (by omega)
        rw [← hgk] at b1 b2
        rw [← hgk, ← hgk]
        refine pk_le (g (nrs g k)) (g k) (fun c t3 e3 => ?_) (fun c t3 e3 => ?_)
        · rw [if_neg (by omega)] at ih
          rw [e3, nI_1]; exact ih
        · rw [if_pos c] at ih
          rw [e3, nI_1]; exact ih
  exact key 0 (by omega)
theorem sp_mdist {p q : Nat} (h : relR (m 32 0) a) (ho : okA B a) (hp : p < (aR a).length) (hq : q < (aC a).length) (hQ : Q (.inl (some (vi (nI (dst (aMet a) (rowD (aR a) p) (rowD (aC a) q))))), G x m)) : Cl X (d + 2) 163 [vp 31 0, vi (nI p), vi (nI q)] (G x m) Q := by
  have hl := ho.len
  refine vc_X11_apartFor (sp_rrow ⟨_, _, rfl, sp_crow ⟨_, _, rfl, ?_⟩⟩)
  exact sp_apart (by omega) (by omega) hl.2.2 h.1.2.2.2.2.2.1 (ho.ptR h hp) (ho.ptC h hq) ⟨_, _, rfl, hQ⟩
theorem sp_mfit {p q : Nat} (h : relR (m 32 0) a) (ho : okA B a) (hp : p < (aR a).length) (hq : q < (aC a).length) (hQ : Q (.inl (some (vi (if fitP a p q then 1 else 0))), G x m)) : Cl X (d + 3) 164 [vp 31 0, vi (nI p), vi (nI q)] (G x m) Q := by
  have hl := ho.len
  have hr := ho.r hp
  unfold okRp at hr
  have hb := ho.dst hp hq (aMet a)
  refine vc_X11_isFit (sp_mdist h ho hp hq ⟨_, _, rfl, sp_r (k := p) (o := 4) (by omega) (by omega) ⟨_, _, rfl, ?_⟩⟩)
  rw [h.2.2 p hp 4 (by omega)]
  refine pk_lt (rowD (aR a) p 4) (dst (aMet a) (rowD (aR a) p) (rowD (aC a) q)) (fun c => ?_) (fun c => ?_)
  · rw [if_neg (by omega)] at hQ; exact hQ
  · rw [if_pos c] at hQ; exact hQ
theorem sp_mcanGive {p q : Int32} (h : relR (m 32 0) a) (ho : okA B a) (hQ : Q (.inl (some (vi (nI (whyGive a p q)))), G x m)) : Cl X (d + 4) 181 [vp 31 0, vi p, vi q] (G x m) Q := by
  have hl := ho.len
  refine vc_X11_cannotGive (sp_mrep h hl.2.1 ⟨_, _, rfl, ?_⟩)
  unfold whyGive at hQ
  refine posV_lt0 (by omega) (fun c => ?_) (fun hp => ?_)
  · rw [if_neg (by omega)] at hQ; exact hQ
  refine sp_mcol h hl.1 ⟨_, _, rfl, ?_⟩
  refine posV_neg (by omega) (fun hq => ?_) (fun c => ?_)
  · rw [if_pos ⟨hp, hq⟩] at hQ
    refine sp_mrep h hl.2.1 ⟨_, _, rfl, ?_⟩
    rw [posV_in hp]
    refine sp_rrow ⟨_, _, rfl, sp_mnear (by omega) h ho (ho.ptR h hp) ⟨_, _, rfl, sp_mcol h hl.1 ⟨_, _, rfl, ?_⟩⟩⟩
    rw [posV_in hq]
    refine ⟨fun c => ?_, fun c => ?_⟩
    · rw [if_neg (fun z => c z.1)] at hQ; exact hQ
    · refine sp_mcol h hl.1 ⟨_, _, rfl, ?_⟩
      rw [posV_in hq]
      refine sp_mfit h ho hp hq ⟨_, _, rfl, ?_⟩
      by_cases hf : fitP a (posI (aR a) p) (posI (aC a) q)
      · rw [if_pos hf]
        rw [if_pos ⟨Decidable.not_not.mp c, hf⟩] at hQ
        exact ⟨fun _ => hQ, fun c => absurd (by decide) c⟩
      · rw [if_neg hf]
        rw [if_neg (fun z => hf z.2)] at hQ
        exact ⟨fun c => absurd rfl c, fun _ => hQ⟩
  · rw [if_neg (by omega)] at hQ; exact hQ
theorem sp_gives {p q : Int32} (h : relR (m 32 0) a) (ho : lenOk a) (hp : posI (aR a) p < (aR a).length) (hq : posI (aC a) q < (aC a).length) (hQ : ∀ m9, relR (m9 32 0) (asGive a (posI (aR a) p) (posI (aC a) q)) → Fk t32 m m9 → Q (.inl (some (vi (nI (rowD (aR a) (posI (aR a) p) 5)))), G x m9)) : Cl X (d + 3) 182 [vp 31 0, vi p, vi q] (G x m) Q := by
  refine vc_X11_gives (sp_mrep h ho.2.1 ⟨_, _, rfl, ?_⟩)
  have hR := ho.2.1
  rw [posV_in hp]
  refine sp_r (k := posI (aR a) p) (o := 5) (by omega) (by omega) ⟨_, _, rfl, ?_⟩
  rw [h.2.2 _ hp 5 (by omega)]
  refine sp_rmMR h ho hp (fun m6 h6 F6 => ⟨_, rfl, ?_⟩)
  have ho6 : lenOk (asWd a (posI (aR a) p)) := ⟨ho.1, by show ((aR a).eraseIdx _).length ≤ 6; rw [len_er hp]; omega, ho.2.2⟩
  refine sp_mcol h6 ho6.1 ⟨_, _, rfl, ?_⟩
  rw [show posV (aC (asWd a (posI (aR a) p))) q = nI (posI (aC a) q) from posV_in hq]
  refine sp_rmMC h6 ho6 hq (fun m10 h10 F10 => ⟨_, rfl, fun m11 e11 m12 e12 => ?_⟩)
  rw [h10.1.2.2.2.2.2.2.1] at e11
  have e7 : m11 32 0 7 = aRt a := by rw [e11, mup_no (by omega)]; exact h10.1.2.2.2.2.2.2.2
  rw [e7] at e12
  refine hQ m12 (h10.set1 (fun k hk => ?_) ?_ ?_ ?_ ?_) ?_
  · rw [e12, mup_no (by omega), e11, mup_no (by omega)]
  · rw [e12, mup_no (by omega), e11, mup_no (by omega)]; exact h10.1.2.2.2.2.1
  · rw [e12, mup_no (by omega), e11, mup_no (by omega)]; exact h10.1.2.2.2.2.2.1
  · rw [e12, mup_no (by omega), e11, mup_eq]
  · rw [e12, mup_eq]
  · rw [e12, e11]; exact Fk.ups (Fk.ups (F6.tr F10) rfl) rfl
theorem sp_mcanMix {p q : Int32} (h : relR (m 32 0) a) (ho : lenOk a) (hQ : Q (.inl (some (vi (nI (whyMix a p q)))), G x m)) : Cl X (d + 3) 186 [vp 31 0, vi p, vi q] (G x m) Q := by
  have hl := ho.1
  refine vc_X11_cannotMix (sp_mcol h hl ⟨_, _, rfl, ?_⟩)
  unfold whyMix at hQ
  refine posV_lt0 (by omega) (fun c => ?_) (fun hp => ?_)
  · rw [if_neg (by omega)] at hQ; exact hQ
  refine sp_mcol h hl ⟨_, _, rfl, ?_⟩
  refine posV_neg (by omega) (fun hq => ?_) (fun c => ?_)
  · rw [if_pos ⟨hp, hq⟩] at hQ
    refine ⟨fun c => ?_, fun c => ?_⟩
    · rw [if_neg c] at hQ; exact hQ
    · rw [if_pos (Decidable.not_not.mp c)] at hQ; exact hQ
  · rw [if_neg (by omega)] at hQ; exact hQ
theorem sp_mixend {p q r g b f : Nat} (h : relR (m 32 0) a) (ho : lenOk a) (hp : p < (aC a).length) (hq : q < (aC a).length) (hn : p ≠ q) (hQ : ∀ m9, relR (m9 32 0) (asC a (((aC a).eraseIdx (max p q)).eraseIdx (min p q) ++ [mkR (aXC a) r g b f (aDay a)]) (aXC a + 1)) → Fk t32 m m9 → Q (.inl (some (vi (nI (aXC a)))), G x m9)) :
    Cl X (d + 1) 159 [vp 31 0, vi (nI (max p q))] (G x m) (fun r9 => ∃ (m2 : MI), r9 = (.inl none, G x m2) ∧ Cl X (d + 1) 159 [vp 31 0, vi (nI (min p q))] (G x m2) (fun r9 => ∃ (m3 : MI), r9 = (.inl none, G x m3) ∧ Cl X (d + 1) 169 [vp 31 0, vi (nI r), vi (nI g), vi (nI b), vi (nI f)] (G x m3) (fun r9 => ∃ (v4 : Int32) (m5 : MI), r9 = (.inl (some (vi v4)), G x m5) ∧ Q (.inl (some (vi v4)), G x m5)))) := by
  have hl := ho.1
  have l1 : ((aC a).eraseIdx (max p q)).length = (aC a).length - 1 := len_er (by omega)
  have l2 : (((aC a).eraseIdx (max p q)).eraseIdx (min p q)).length = (aC a).length - 1 - 1 := by rw [len_er (by omega), l1]
  refine sp_rmMC h ho (by omega) (fun m2 h2 F2 => ⟨_, rfl, ?_⟩)
  refine sp_rmMC h2 ⟨by show ((aC a).eraseIdx (max p q)).length ≤ 10; omega, ho.2⟩ (by show _ < ((aC a).eraseIdx (max p q)).length; omega) (fun m3 h3 F3 => ⟨_, rfl, ?_⟩)
  refine sp_adds h3 ⟨by show (((aC a).eraseIdx (max p q)).eraseIdx (min p q)).length ≤ 10; omega, ho.2⟩ (by show (((aC a).eraseIdx (max p q)).eraseIdx (min p q)).length < 10; omega) (fun m4 h4 F4 => ⟨_, _, rfl, ?_⟩)
  exact hQ m4 h4 ((F2.tr F3).tr F4)
theorem sp_mixes {p q : Int32} (h : relR (m 32 0) a) (ho : okA B a) (hp : posI (aC a) p < (aC a).length) (hq : posI (aC a) q < (aC a).length) (hn : posI (aC a) p ≠ posI (aC a) q) (hQ : ∀ m9, relR (m9 32 0) (asMix a (posI (aC a) p) (posI (aC a) q)) → Fk t32 m m9 → Q (.inl (some (vi (nI (aXC a)))), G x m9)) : Cl X (d + 3) 187 [vp 31 0, vi p, vi q] (G x m) Q := by
  have hl := ho.len
  have cp := (ho.c hp).1
  have cq := (ho.c hq).1
  unfold okC at cp cq
  refine vc_X11_mixes (sp_mcol h hl.1 ⟨_, _, rfl, sp_mcol h hl.1 ⟨_, _, rfl, ?_⟩⟩)
  rw [posV_in hp, posV_in hq]
  have e2 : (2 : Int32) = nI 2 := rfl
  unfold asMix mixR at hQ
  generalize posI (aC a) p = i at *
  generalize posI (aC a) q = j at *
  refine sp_c (k := i) (o := 1) (by omega) (by omega) ⟨_, _, rfl, sp_c (k := j) (o := 1) (by omega) (by omega) ⟨_, _, rfl, fun t9 e9 => ?_⟩⟩
  rw [h.2.1 i hp 1 (by omega), h.2.1 j hq 1 (by omega), nI_add, e2, pk_div (by omega) (by omega) (by omega)] at e9
  refine sp_c (k := i) (o := 2) (by omega) (by omega) ⟨_, _, rfl, sp_c (k := j) (o := 2) (by omega) (by omega) ⟨_, _, rfl, fun t14 e14 => ?_⟩⟩
  rw [h.2.1 i hp 2 (by omega), h.2.1 j hq 2 (by omega), nI_add, e2, pk_div (by omega) (by omega) (by omega)] at e14
  refine sp_c (k := i) (o := 3) (by omega) (by omega) ⟨_, _, rfl, sp_c (k := j) (o := 3) (by omega) (by omega) ⟨_, _, rfl, fun t19 e19 => ?_⟩⟩
  rw [h.2.1 i hp 3 (by omega), h.2.1 j hq 3 (by omega), nI_add, e2, pk_div (by omega) (by omega) (by omega)] at e19
  refine sp_c (k := i) (o := 4) (by omega) (by omega) ⟨_, _, rfl, sp_c (k := j) (o := 4) (by omega) (by omega) ⟨_, _, rfl, ?_⟩⟩
  rw [h.2.1 i hp 4 (by omega), h.2.1 j hq 4 (by omega)]
  subst e9 e14 e19
  refine pk_le (rowD (aC a) j 4) (rowD (aC a) i 4) (fun c => ?_) (fun c => ?_)
  · refine sp_c (k := j) (o := 4) (by omega) (by omega) ⟨_, _, rfl, ?_⟩
    rw [h.2.1 j hq 4 (by omega)]
    rw [Nat.min_eq_right c] at hQ
    refine pk_le i j (fun c2 => ?_) (fun c2 => ?_)
    · have e := sp_mixend (X := X) (d := d + 1) h hl hp hq hn hQ
      rw [Nat.max_eq_right c2, Nat.min_eq_left c2] at e
      refine e.mono (Nat.le_refl _) (fun r9 z => ?_)
      obtain ⟨m2, z1, z2⟩ := z
      refine ⟨m2, z1, pk_le i j (fun _ => z2) (fun c3 => by omega)⟩
    · have e := sp_mixend (X := X) (d := d + 1) h hl hp hq hn hQ
      rw [Nat.max_eq_left (Nat.le_of_lt c2), Nat.min_eq_right (Nat.le_of_lt c2)] at e
      refine e.mono (Nat.le_refl _) (fun r9 z => ?_)
      obtain ⟨m2, z1, z2⟩ := z
      refine ⟨m2, z1, pk_le i j (fun c3 => by omega) (fun _ => z2)⟩
  · refine sp_c (k := i) (o := 4) (by omega) (by omega) ⟨_, _, rfl, ?_⟩
    rw [h.2.1 i hp 4 (by omega)]
    rw [Nat.min_eq_left (Nat.le_of_lt c)] at hQ
    refine pk_le i j (fun c2 => ?_) (fun c2 => ?_)
    · have e := sp_mixend (X := X) (d := d + 1) h hl hp hq hn hQ
      rw [Nat.max_eq_right c2, Nat.min_eq_left c2] at e
      refine e.mono (Nat.le_refl _) (fun r9 z => ?_)
      obtain ⟨m2, z1, z2⟩ := z
      refine ⟨m2, z1, pk_le i j (fun _ => z2) (fun c3 => by omega)⟩
    · have e := sp_mixend (X := X) (d := d + 1) h hl hp hq hn hQ
      rw [Nat.max_eq_left (Nat.le_of_lt c2), Nat.min_eq_right (Nat.le_of_lt c2)] at e
      refine e.mono (Nat.le_refl _) (fun r9 z => ?_)
      obtain ⟨m2, z1, z2⟩ := z
      refine ⟨m2, z1, pk_le i j (fun c3 => by omega) (fun _ => z2)⟩
end MCHG2
