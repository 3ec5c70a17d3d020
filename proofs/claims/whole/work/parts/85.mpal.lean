/-! ===== PALETTES OF THE MODEL ===== -/
section MPAL
variable {X : MX} {d : Nat} {x : Int64 × UInt64} {m : MI} {Q : MRes → Prop} {a : AS} {B : Nat}
theorem sp_many {s : Nat} (hs : s < 2 ^ 31) (hQ : Q (.inl (some (vi (nI (pcs s)))), G x m)) : Cl X d 234 [vi (nI s)] (G x m) Q := by
  refine vc_X11_many ?_
  have key : ∀ k, k ≤ 10 → Wp X d 234 (4, ([some (vi (nI s)), some (vi (nI (fb_ct (fun k => s.testBit k) k))), some (vi (nI k))], ([], G x m))) Q := by
    refine lup (fun k hk ih => ?_)
    refine vl_X11_many_4 (pk_le 10 k (fun hc => ?_) (fun hc t2 e2 t3 e3 => ?_))
    · obtain rfl : k = 10 := by omega
      exact hQ
    · rw [bitI hs (by omega)] at e2
      have ih := ih hc
      rw [fb_ct_succ] at ih
      rw [e2, e3, nI_1]
      cases hb : s.testBit k with
      | false =>
        rw [hb] at ih
        rw [if_neg (by decide), Int32.add_zero]
        exact ih
      | true =>
        rw [hb] at ih
        rw [if_pos rfl, nI_1]
        exact ih
  exact key 0 (by omega)
theorem sp_merr {s : Nat} (h : relR (m 32 0) a) (ho : okA B a) (hs : s < 2 ^ 31) (hQ : Q (.inl (some (vi (nI (erP (dCC a) (aC a).length s)))), G x m)) : Cl X (d + 2) 235 [vp 31 0, vi (nI s)] (G x m) Q := by
  have hl := ho.len
  refine vc_X11_error ?_
  have outer : ∀ k, k ≤ (aC a).length → ∀ o4 o5 o6, Wp X (d + 2) 235 (4, ([some (vp 31 0), some (vi (nI s)), some (vi (nI (fb_sm (fun k => eP (dCC a) s k (aC a).length) k))), some (vi (nI k)), o4, o5, o6], ([], G x m))) Q := by
    refine lup (fun k hk ih o4 o5 o6 => ?_)
    refine vl_X11_error_4 ?_
    rw [h.1.1]
    refine pk_le (aC a).length k (fun hc => ?_) (fun hc => ?_)
    · obtain rfl : k = (aC a).length := by omega
      exact hQ
    · have inner : ∀ p, p ≤ (aC a).length → ∀ o6, Wp X (d + 2) 235 (21, ([some (vp 31 0), some (vi (nI s)), some (vi (nI (fb_sm (fun k => eP (dCC a) s k (aC a).length) k))), some (vi (nI k)), some (vi (nI (eP (dCC a) s k p))), some (vi (nI p)), o6], ([], G x m))) Q := by
        refine lup (fun p hp ihp o6 => ?_)
        refine vl_X11_error_21 ?_
        rw [h.1.1]
        refine pk_le (aC a).length p (fun hc2 t2 e2 t3 e3 => ?_) (fun hc2 => ?_)
        · obtain rfl : p = (aC a).length := by omega
          rw [e2, e3, nI_1, nI_add]
          exact ih hc _ _ _
        · have hbc := bit_c (s := s) (k := p) hs (by omega) (A := ∀ t14 : Int32, t14 = nI p + 1 → Wp X (d + 2) 235 (21, ([some (vp 31 0), some (vi (nI s)), some (vi (nI (fb_sm (fun k => eP (dCC a) s k (aC a).length) k))), some (vi (nI k)), some (vi (nI (eP (dCC a) s k p))), some (vi t14), o6], ([], G x m))) Q) (fun hb t14 e14 => by
            have ihp := ihp hc2
            rw [show eP (dCC a) s k (p + 1) = eP (dCC a) s k p from if_neg (by rw [hb]; decide)] at ihp
            rw [e14, nI_1]
            exact ihp _) (fun hb => hb)
          refine ⟨fun c => ?_, fun c => hbc.1 (Decidable.not_not.mp c)⟩
          have hb := hbc.2 c
          have ihp := ihp hc2
          rw [show eP (dCC a) s k (p + 1) = min (eP (dCC a) s k p) (dCC a k p) from if_pos hb] at ihp
          have b1 := eP_le (g := dCC a) (s := s) (k := k) p
          have b2 : dst (aMet a) (rowD (aC a) k) (rowD (aC a) p) ≤ 29403 := ho.dCC hc hc2
          refine sp_crow ⟨_, _, rfl, sp_crow ⟨_, _, rfl, sp_apart (by omega) (by omega) hl.2.2 h.1.2.2.2.2.2.1 (ho.ptC h hc) (ho.ptC h hc2) ⟨_, _, rfl, pk_le (eP (dCC a) s k p) (dst (aMet a) (rowD (aC a) k) (rowD (aC a) p)) (fun c3 t12 e12 => ?_) (fun c3 t13 e13 => ?_)⟩⟩⟩
          · rw [Nat.min_eq_left c3] at ihp
            rw [e12, nI_1]; exact ihp _
          · rw [Nat.min_eq_right (Nat.le_of_lt c3)] at ihp
            rw [e13, nI_1]; exact ihp _
      exact inner 0 (by omega) _
  exact outer 0 (by omega) none none none
theorem sp_mpal {z : Nat} (h : relR (m 32 0) a) (ho : okA B a) (hz : z ≤ 10) (hQ : Q (.inl (some (vi (nI (palV a z)))), G x m)) : Cl X (d + 3) 237 [vp 31 0, vi (nI z)] (G x m) Q := by
  have hl := ho.len
  have hn := hl.1
  have hp := p2 hn
  have hg : ∀ i j, i < (aC a).length → j < (aC a).length → dCC a i j ≤ 29403 := fun i j hi hj => ho.dCC hi hj
  refine vc_X11_palette ?_
  unfold palV at hQ
  generalize hnn : (aC a).length = n at *
  have merr : ∀ {s : Nat} {Q9 : MRes → Prop}, s < 2 ^ 31 → Q9 (.inl (some (vi (nI (erP (dCC a) n s)))), G x m) → Cl X (d + 2) 235 [vp 31 0, vi (nI s)] (G x m) Q9 := fun {s Q9} hs hq => sp_merr h ho hs (by rw [hnn]; exact hq)
  have key : ∀ j, j ≤ 2 ^ n → 1 ≤ j → Wp X (d + 3) 237 (4, ([some (vp 31 0), some (vi (nI z)), some (vi (nI (bestP (dCC a) n z j))), some (vi (nI j))], ([], G x m))) Q := by
    refine lup (fun j hj ih h1 => ?_)
    refine vl_X11_palette_4 ?_
    rw [h.1.1, hnn, shl1 (by omega)]
    refine pk_le (2 ^ n) j (fun hc => ?_) (fun hc => sp_many (by omega) ⟨_, _, rfl, ?_⟩)
    · obtain rfl : j = 2 ^ n := by omega
      exact hQ
    · have ih := ih hc (by omega)
      have hpc := pcs_le j
      have hb := bestP_lt (g := dCC a) (n := n) (z := z) j
      have ej := er_b hg hn hc (by omega)
      refine pk_eq (pcs j) z (fun c1 => ?_) (fun c1 t24 e24 => ?_)
      · have take : (bestP (dCC a) n z j = 0 ∨ erP (dCC a) n j < erP (dCC a) n (bestP (dCC a) n z j) ∨ (erP (dCC a) n j = erP (dCC a) n (bestP (dCC a) n z j) ∧ lowI j (bestP (dCC a) n z j) = true)) → Wp X (d + 3) 237 (4, ([some (vp 31 0), some (vi (nI z)), some (vi (nI j)), some (vi (nI (j + 1)))], ([], G x m))) Q := fun c => by
          rw [bestP_take ⟨h1, c1, c⟩] at ih
          exact ih
        refine pk_eq (bestP (dCC a) n z j) 0 (fun hz0 t6 e6 => ?_) (fun hz0 => ?_)
        · rw [e6, nI_1]
          exact take (Or.inl hz0)
        · have eb := er_b hg hn (s := bestP (dCC a) n z j) (by omega) hz0
          have keep : ¬ (erP (dCC a) n j < erP (dCC a) n (bestP (dCC a) n z j) ∨ (erP (dCC a) n j = erP (dCC a) n (bestP (dCC a) n z j) ∧ lowI j (bestP (dCC a) n z j) = true)) → Wp X (d + 3) 237 (4, ([some (vp 31 0), some (vi (nI z)), some (vi (nI (bestP (dCC a) n z j))), some (vi (nI (j + 1)))], ([], G x m))) Q := fun c => by
            rw [bestP_keep (fun t => by
              rcases t.2.2 with t1 | t1
              · exact hz0 t1
              · exact c t1)] at ih
            exact ih
          refine merr (by omega) ⟨_, _, rfl, merr (by omega) ⟨_, _, rfl, pk_lt (erP (dCC a) n j) (erP (dCC a) n (bestP (dCC a) n z j)) (fun c t12 e12 => ?_) (fun c => ?_)⟩⟩
          · rw [e12, nI_1]
            exact take (Or.inr (Or.inl c))
          · refine merr (by omega) ⟨_, _, rfl, merr (by omega) ⟨_, _, rfl, pk_eqn (fun c2 => sp_mbef ⟨_, _, rfl, ?_⟩) (fun c2 t18 e18 => ?_) (by omega) (by omega)⟩⟩
            · cases hlo : lowI j (bestP (dCC a) n z j) with
              | false =>
                refine ⟨fun _ t22 e22 => ?_, fun c => absurd rfl c⟩
                rw [e22, nI_1]
                exact keep (fun t => by
                  rcases t with t | t
                  · omega
                  · rw [hlo] at t; exact Bool.noConfusion t.2)
              | true =>
                refine ⟨fun c => absurd c (by decide), fun _ t23 e23 => ?_⟩
                rw [e23, nI_1]
                exact take (Or.inr (Or.inr ⟨c2, hlo⟩))
            · rw [e18, nI_1]
              exact keep (fun t => by omega)
      · rw [e24, nI_1]
        rw [bestP_keep (fun t => c1 t.2.1)] at ih
        exact ih
  have e := key 1 (by omega) (by omega)
  have e1 : bestP (dCC a) n z 1 = 0 := by
    have := bestP_lt (g := dCC a) (n := n) (z := z) 1
    omega
  rw [e1] at e
  exact e
end MPAL
section MPAL2
variable {X : MX} {d : Nat} {x : Int64 × UInt64} {m : MI} {Q : MRes → Prop} {B : Nat} {o : OS}
theorem mpalE {p : Int32} (h : MoR m o) (ok : okO B o) (hQ : mq m o (whyPa (oA o) p) (nI (erP (dCC (oA o)) (aC (oA o)).length (palV (oA o) (clN p)))) Q x) : Cl X (d + 4) 238 [vp 31 0, vi p] (G x m) Q := by
  have hl := ok.1.len
  unfold mq whyPa at hQ
  refine vc_X11_errorOf ?_
  rw [h.1.1.1]
  refine sp_in 1 (aC (oA o)).length (fun hc => ⟨_, _, rfl, mchk1 h (fun m3 h3 e5 F3 => ⟨_, _, rfl, fun _ => ?_, fun c => absurd (by decide) c⟩)⟩) (fun hc => ⟨_, _, rfl, mchk0 h (fun m3 h3 e5 F3 => ⟨_, _, rfl, fun c => absurd c (by decide), fun _ => ?_⟩)⟩)
  · rw [if_pos hc] at hQ
    have hn1 : 1 ≤ (aC (oA o)).length := by
      rcases Nat.eq_zero_or_pos (aC (oA o)).length with c | c
      · rw [c] at hc
        exact absurd (Int32.le_trans hc.1 hc.2) (by decide)
      · exact c
    have e := inR_cl hc hn1 (by omega)
    rw [e.1]
    have b := (bestP_ok (g := dCC (oA o)) e.2.1 e.2.2 hl.1).2.1
    have hpn := p2 hl.1
    refine sp_mpal h3.1 ok.1 (by omega) ⟨_, _, rfl, sp_merr h3.1 ok.1 (Nat.lt_of_lt_of_le b (by omega)) ⟨_, _, rfl, ?_⟩⟩
    exact hQ m3 _ e5 (fun _ => rfl) h3 F3
  · rw [if_neg hc] at hQ
    exact hQ m3 _ e5 (fun c => by omega) h3 F3
theorem mw_palErr {p : Int32} (h : MoR m o) (ok : okO B o) (hQ : mq m o (whyPa (oA o) p) (nI (erP (dCC (oA o)) (aC (oA o)).length (palV (oA o) (clN p)))) Q x) : Cl X (d + 5) 239 [vp 31 0, vi p] (G x m) Q :=
  vc_X11_paletteError (mpalE h ok (fun m9 v h1 h2 h3 h4 => ⟨_, _, rfl, hQ m9 v h1 h2 h3 h4⟩))
theorem mw_palErr2 {p : Int32} (h : MoR m o) (ok : okO B o) (hQ : mq m o (whyPa (oA o) p) (nI (erP (dCC (oA o)) (aC (oA o)).length (palV (oA o) (clN p)))) Q x) : Cl X (d + 5) 240 [vp 31 0, vi p] (G x m) Q :=
  vc_X11_paletteErrorBySearch (mpalE h ok (fun m9 v h1 h2 h3 h4 => ⟨_, _, rfl, hQ m9 v h1 h2 h3 h4⟩))
theorem mw_palCol {p q : Int32} (h : MoR m o) (ok : okO B o) (hQ : mq m o (whyPc (oA o) p q) (nI (rowD (aC (oA o)) (memb (palV (oA o) (clN p)) (clN q)) 0)) Q x) : Cl X (d + 4) 241 [vp 31 0, vi p, vi q] (G x m) Q := by
  have hl := ok.1.len
  unfold mq whyPc at hQ
  have thr : ∀ (w : Int32) m5, m5 = mup m 31 0 5 w → MoR m5 o ∧ FM m m5 ∧ m5 31 0 5 = w := fun w m5 e5 => by
    obtain ⟨h9, F9⟩ := th_on h (m9 := m5) (by rw [e5]; exact Fk.up ⟨rfl, rfl⟩)
    exact ⟨h9, F9, by rw [e5, mup_eq]⟩
  refine vc_X11_paletteColour ?_
  rw [h.1.1.1]
  refine sp_in 1 (aC (oA o)).length (fun hc => ⟨_, _, rfl, fun _ => ?_, fun c => absurd (by decide) c⟩) (fun hc => ⟨_, _, rfl, fun c => absurd rfl c, fun _ m15 e15 => ?_⟩)
  · rw [if_pos hc] at hQ
    have hn1 : 1 ≤ (aC (oA o)).length := by
      rcases Nat.eq_zero_or_pos (aC (oA o)).length with c | c
      · rw [c] at hc
        exact absurd (Int32.le_trans hc.1 hc.2) (by decide)
      · exact c
    have e := inR_cl hc hn1 (by omega)
    rw [e.1, nI_p (by omega)]
    refine sp_in 0 (clN p - 1) (fun hq => ⟨_, _, rfl, fun _ m7 e7 => ?_, fun c => absurd (by decide) c⟩) (fun hq => ⟨_, _, rfl, fun c => absurd rfl c, fun _ m11 e11 => ?_⟩)
    · have e2 := inR_cl hq (by omega) (by omega)
      have hqp : ¬ (q < 0 ∨ p ≤ q) := fun z => by
        rcases z with z | z
        · exact absurd z (Int32.not_lt.mpr hq.1)
        · rw [e.1, e2.1] at z
          exact absurd z (nI_ge (by omega) (by omega))
      rw [if_neg hqp] at hQ
      obtain ⟨h7, F7, e75⟩ := thr 0 m7 e7
      rw [e75]
      refine ⟨fun _ => ?_, fun c => absurd (by decide) c⟩
      obtain ⟨b1, b2, b3⟩ := bestP_ok (g := dCC (oA o)) e.2.1 e.2.2 hl.1
      have hpn := p2 hl.1
      refine sp_mpal h7.1 ok.1 (by omega) ⟨_, _, rfl, ?_⟩
      have es : palV (oA o) (clN p) = bestP (dCC (oA o)) (aC (oA o)).length (clN p) (2 ^ (aC (oA o)).length) := rfl
      rw [← es] at b1 b2 b3
      rw [e2.1]
      generalize palV (oA o) (clN p) = s at *
      generalize clN q = t at *
      have low : ∀ i, s.testBit i = true → i < (aC (oA o)).length := fun i hi => by
        rcases Nat.lt_or_ge i (aC (oA o)).length with k | k
        · exact k
        · rw [bit_lt b2 k] at hi; cases hi
      have key : ∀ k, k ≤ t + 1 → ∀ u, u ≤ 10 → fb_ct (fun k => s.testBit k) u = k → (k = 0 → u = 0) → (0 < k → 0 < u ∧ s.testBit (u - 1) = true ∧ fb_ct (fun k => s.testBit k) (u - 1) = k - 1) → Wp X (d + 4) 241 (59, ([some (vp 31 0), some (vi (nI (clN p))), some (vi (nI t)), some (vi (nI s)), some (vi (nI u - 1)), some (vi (nI k))], ([], G x m7))) Q := by
        refine lup (fun k hk ih u hu hct hk0 hkp => ?_)
        refine vl_X11_paletteColour_59 (pk_lt t k (fun c => ?_) (fun c t4 e4 => ?_))
        · obtain ⟨q1, q2, q3⟩ := hkp (by omega)
          rw [nI_p q1]
          have hlo := low _ q2
          have em : memb s t = u - 1 := memb_is (by omega) q2 (by omega)
          rw [em] at hQ
          exact sp_c (k := u - 1) (o := 0) (by omega) (by omega) ⟨_, _, rfl, hQ m7 _ e75 (fun _ => h7.1.2.1 _ hlo 0 (by omega)) h7 F7⟩
        · have e4' : t4 = nI u := by rw [e4, Int32.sub_add_cancel]
          rw [e4']
          have inner : ∀ w, w ≤ 10 → fb_ct (fun k => s.testBit k) w = k → Wp X (d + 4) 241 (68, ([some (vp 31 0), some (vi (nI (clN p))), some (vi (nI t)), some (vi (nI s)), some (vi (nI w)), some (vi (nI k))], ([], G x m7))) Q := by
            refine lup (fun w hw ihw hcw => ?_)
            have hw10 : w < 10 := by
              rcases Nat.lt_or_ge w 10 with z | z
              · exact z
              · have hw0 : w = 10 := by omega
                rw [hw0] at hcw
                have : pcs s = k := hcw
                omega
            refine vl_X11_paletteColour_68 ?_
            have hbc := bit_c (s := s) (k := w) (by omega) (by omega) (A := s.testBit w = false) (fun hb => hb) (fun hb => hb)
            refine ⟨fun z t2 e2 => ?_, fun z t3 e3 => ?_⟩
            · have hb := hbc.2 z
              rw [e2, nI_1]
              have e9 := ih (by omega) (w + 1) (by omega) (by rw [fb_ct_succ, hb, hcw]; rfl) (fun c => by omega) (fun _ => ⟨by omega, by rw [Nat.add_sub_cancel]; exact hb, by rw [Nat.add_sub_cancel, Nat.add_sub_cancel]; exact hcw⟩)
              rw [nI_pred] at e9
              exact e9
            · have hb := hbc.1 (Decidable.not_not.mp z)
              rw [e3, nI_1]
              exact ihw hw10 (by rw [fb_ct_succ, hb, hcw]; rfl)
          exact inner u hu hct
      have e9 := key 0 (by omega) 0 (by omega) rfl (fun _ => rfl) (fun c => absurd c (Nat.lt_irrefl 0))
      exact e9
    · have hqp : q < 0 ∨ p ≤ q := by
        rcases pk_ix q (n := clN p) (by omega) with z | z | ⟨k, hk, z⟩
        · exact Or.inl z
        · exact Or.inr (by rw [e.1]; exact z)
        · exfalso
          apply hq
          rw [z]
          exact ⟨nI_pos' (by omega), nI_le (by omega) (by omega)⟩
      rw [if_pos hqp] at hQ
      obtain ⟨h7, F7, e75⟩ := thr 2 m11 e11
      rw [e75]
      exact ⟨fun c => absurd c (by decide), fun _ => hQ m11 _ e75 (fun c => by omega) h7 F7⟩
  · rw [if_neg hc] at hQ
    obtain ⟨h7, F7, e75⟩ := thr 1 m15 e15
    rw [e75]
    exact ⟨fun c => absurd c (by decide), fun _ => hQ m15 _ e75 (fun c => by omega) h7 F7⟩
end MPAL2
