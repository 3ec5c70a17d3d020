/-! ===== PALETTES, BOTH SIDES ===== -/
def pOK (m : MI) (n : Nat) (g : Nat → Nat → Nat) : Prop := m 20 0 1 = nI n ∧ ∀ i j, i < n → j < n → m 22 i j = nI (g i j)
def K20 (m m9 : MI) : Prop := ∀ f i k, ¬ f = 20 → ¬ f = 22 → m9 f i k = m f i k
theorem K20.tr {a b c : MI} (h : K20 a b) (k : K20 b c) : K20 a c := fun f i j h1 h2 => (k f i j h1 h2).trans (h f i j h1 h2)
theorem K20.fq {m m9 : MI} (h : K20 m m9) : FQ m m9 := fun f i k hf => h f i k (by unfold kC inSt tH at hf; omega) (by unfold kC inSt tH at hf; omega)
theorem bestP_take {g : Nat → Nat → Nat} {n z j : Nat} (h : 1 ≤ j ∧ pcs j = z ∧ (bestP g n z j = 0 ∨ erP g n j < erP g n (bestP g n z j) ∨ (erP g n j = erP g n (bestP g n z j) ∧ lowI j (bestP g n z j) = true))) : bestP g n z (j + 1) = j := if_pos h
theorem bestP_keep {g : Nat → Nat → Nat} {n z j : Nat} (h : ¬ (1 ≤ j ∧ pcs j = z ∧ (bestP g n z j = 0 ∨ erP g n j < erP g n (bestP g n z j) ∨ (erP g n j = erP g n (bestP g n z j) ∧ lowI j (bestP g n z j) = true)))) : bestP g n z (j + 1) = bestP g n z j := if_neg h
theorem er_b {g : Nat → Nat → Nat} {n s : Nat} (hg : ∀ i j, i < n → j < n → g i j ≤ 29403) (hn : n ≤ 10) (h : s < 2 ^ n) (h0 : s ≠ 0) : erP g n s ≤ 294030 := by
  obtain ⟨q, q1, q2⟩ := bit_ex h h0
  have := erP_b (g := g) (n := n) (s := s) hg q1 q2
  omega
section PALS
variable {X : MX} {d : Nat} {x : Int64 × UInt64} {m : MI} {Q : MRes → Prop} {a : AS} {B : Nat} {n : Nat} {g : Nat → Nat → Nat}
theorem sp_bc {s : Nat} (h : s < 1024) (hQ : Q (.inl (some (vi (nI (pcs s)))), G x m)) : Cl X d 329 [vi (nI s)] (G x m) Q := by
  refine vc_J6_bitCount_0f7a4 (fun t1 e1 t2 e2 t3 e3 t4 e4 t5 e5 => ?_)
  have e : t5 &&& 63 = nI (pcs s) := by
    rw [← bc_at h, e5, e4, e3, e2, e1]; rfl
  rw [e]
  exact hQ
theorem sp_measAll (h : relS m 0 a) (ho : okA B a) (hQ : ∀ m9, pOK m9 (aC a).length (dCC a) → K20 m m9 → Q (.inl none, G x m9)) : Cl X (d + 2) 122 [vp 20 0, vp 1 0] (G x m) Q := by
  have hl := ho.len
  refine vc_X4_measureAll (fun m1 e1 => ?_)
  rw [h.1.1] at e1
  have outer : ∀ i, i ≤ (aC a).length → ∀ m9 o3, m9 20 0 1 = nI (aC a).length → (∀ p q, p < i → q < (aC a).length → m9 22 p q = nI (dCC a p q)) → K20 m m9 → Wp X (d + 2) 122 (13, ([some (vp 20 0), some (vp 1 0), some (vi (nI i)), o3], ([], G x m9))) Q := by
    refine lup (fun i hi ih m9 o3 hN hA hK => ?_)
    refine vl_X4_measureAll_13 ?_
    rw [hN]
    refine pk_le (aC a).length i (fun hc => hQ m9 ⟨hN, fun p q hp hq => hA p q (by omega) hq⟩ hK) (fun hc => ?_)
    have inner : ∀ j, j ≤ (aC a).length → ∀ m8, m8 20 0 1 = nI (aC a).length → (∀ p q, (p < i ∨ (p = i ∧ q < j)) → q < (aC a).length → m8 22 p q = nI (dCC a p q)) → K20 m m8 → Wp X (d + 2) 122 (23, ([some (vp 20 0), some (vp 1 0), some (vi (nI i)), some (vi (nI j))], ([], G x m8))) Q := by
      refine lup (fun j hj ihj m8 hN8 hA8 hK8 => ?_)
      refine vl_X4_measureAll_23 ?_
      have h8 : relS m8 0 a := h.on hl.1 hl.2.1 (fun f i k hi => hK8 f i k (by unfold inSt at hi; omega) (by unfold inSt at hi; omega))
      rw [hN8, nI_clamp (n := i) (by omega), nI_clamp (n := j) (by omega)]
      refine pk_le (aC a).length j (fun hc2 t2 e2 => ?_) (fun hc2 => ⟨inb_n i 10 (by omega), inb_n i 10 (by omega), inb_n j 10 (by omega), sp_betw5 hl.2.2 h8.2.2.2.1 (ho.rpC h8 hc) (ho.rpC h8 hc2) ⟨_, _, rfl, inb_n j 10 (by omega), fun m5 e5 t6 e6 => ?_⟩⟩)
      · rw [e2, nI_1]
        exact ih hc m8 _ hN8 (fun p q hp hq => hA8 p q (by omega) hq) hK8
      · rw [e6, nI_1]
        refine ihj hc2 m5 (by rw [e5, mup_no (by omega)]; exact hN8) (fun p q hp hq => ?_) (hK8.tr (fun f i k h1 h2 => by rw [e5, mup_no (by omega)]))
        by_cases hpq : p = i ∧ q = j
        · rw [hpq.1, hpq.2, e5, mup_eq]
        · rw [e5, mup_no (by omega)]; exact hA8 p q (by omega) hq
    exact inner 0 (by omega) m9 hN (fun p q hp hq => hA p q (by omega) hq) hK
  exact outer 0 (by omega) m1 none (by rw [e1, mup_eq]) (fun p q hp _ => by omega) (fun f i k h1 h2 => by rw [e1, mup_no (by omega)])
theorem sp_distP {s k : Nat} (h : pOK m n g) (hn : n ≤ 10) (hg : ∀ i j, i < n → j < n → g i j ≤ 29403) (hk : k < n) (hs : s < 1024) (hQ : Q (.inl (some (vi (nI (eP g s k n)))), G x m)) : Cl X d 124 [vp 20 0, vi (nI k), vi (nI s)] (G x m) Q := by
  refine vc_X4_distanceToPalette ?_
  have key : ∀ p, p ≤ n → Wp X d 124 (6, ([some (vp 20 0), some (vi (nI k)), some (vi (nI s)), some (vi (nI (eP g s k p))), some (vi (nI p))], ([], G x m))) Q := by
    refine lup (fun p hp ih => ?_)
    refine vl_X4_distanceToPalette_6 ?_
    rw [h.1]
    refine pk_le n p (fun hc => ?_) (fun hc => bit_c (by omega) (by omega) (fun hb t3 e3 => ?_) (fun hb => ⟨inb_n k 10 (by omega), inb_n p 10 (by omega), fun t4 e4 t5 e5 => ?_⟩))
    · obtain rfl : p = n := by omega
      exact hQ
    · rw [e3, nI_1]
      have ih := ih hc
      rw [show eP g s k (p + 1) = eP g s k p from if_neg (by rw [hb]; decide)] at ih
      exact ih
    · have ih := ih hc
      rw [show eP g s k (p + 1) = min (eP g s k p) (g k p) from if_pos hb] at ih
      have b1 := eP_le (g := g) (s := s) (k := k) p
      have b2 := hg k p hk hc
      rw [nI_clamp (n := k) (by omega), nI_clamp (n := p) (by omega), h.2 k p hk hc, mn_nI (by omega) (by omega)] at e4
      rw [e4, e5, nI_1]
      exact ih
  exact key 0 (by omega)
theorem sp_err {s : Nat} (h : pOK m n g) (hn : n ≤ 10) (hg : ∀ i j, i < n → j < n → g i j ≤ 29403) (hs : s < 1024) (hQ : Q (.inl (some (vi (nI (erP g n s)))), G x m)) : Cl X (d + 1) 123 [vp 20 0, vi (nI s)] (G x m) Q := by
  refine vc_X4_errorOf ?_
  have key : ∀ k, k ≤ n → Wp X (d + 1) 123 (4, ([some (vp 20 0), some (vi (nI s)), some (vi (nI (fb_sm (fun k => eP g s k n) k))), some (vi (nI k))], ([], G x m))) Q := by
    refine lup (fun k hk ih => ?_)
    refine vl_X4_errorOf_4 ?_
    rw [h.1]
    refine pk_le n k (fun hc => ?_) (fun hc => sp_distP h hn hg hc hs ⟨_, _, rfl, fun t4 e4 t5 e5 => ?_⟩)
    · obtain rfl : k = n := by omega
      exact hQ
    · rw [e4, e5, nI_1, nI_add]
      exact ih hc
  exact key 0 (by omega)
theorem sp_bef {s q : Nat} (hQ : Q (.inl (some (vi (if lowI s q then 1 else 0))), G x m)) : Cl X d 126 [vi (nI s), vi (nI q)] (G x m) Q := by
  refine vc_X4_isBefore (fun t1 e1 t2 e2 => ?_)
  rw [e2, e1]
  unfold lowI at hQ
  refine ⟨fun c => ?_, fun c => ?_⟩
  · rw [decide_eq_false (fun z => z c), if_neg (by decide)] at hQ; exact hQ
  · rw [if_pos (decide_eq_true c)] at hQ; exact hQ
theorem sp_mbef {s q : Nat} (hQ : Q (.inl (some (vi (if lowI s q then 1 else 0))), G x m)) : Cl X d 236 [vi (nI s), vi (nI q)] (G x m) Q := by
  refine vc_X11_hasLowest (fun t1 e1 => ?_)
  rw [e1, Int32.and_assoc]
  unfold lowI at hQ
  refine ⟨fun c => ?_, fun c => ?_⟩
  · rw [decide_eq_false (fun z => z c), if_neg (by decide)] at hQ; exact hQ
  · rw [if_pos (decide_eq_true c)] at hQ; exact hQ
theorem sp_best {z : Nat} (h : pOK m n g) (hn : n ≤ 10) (hg : ∀ i j, i < n → j < n → g i j ≤ 29403) (hz : z ≤ 10) (hQ : Q (.inl (some (vi (nI (bestP g n z (2 ^ n))))), G x m)) : Cl X (d + 2) 125 [vp 20 0, vi (nI z)] (G x m) Q := by
  refine vc_X4_bestOfSize ?_
  have hp := p2 hn
  have key : ∀ j, j ≤ 2 ^ n → 1 ≤ j → ∀ o5, Wp X (d + 2) 125 (8, ([some (vp 20 0), some (vi (nI z)), some (vi (nI (bestP g n z j))), some (vi (if bestP g n z j = 0 then 1000000000 else nI (erP g n (bestP g n z j)))), some (vi (nI j)), o5], ([], G x m))) Q := by
    refine lup (fun j hj ih h1 o5 => ?_)
    refine vl_X4_bestOfSize_8 ?_
    rw [h.1, shl1 (by omega)]
    refine pk_le (2 ^ n) j (fun hc => ?_) (fun hc => sp_bc (by omega) ⟨_, _, rfl, ?_⟩)
    · obtain rfl : j = 2 ^ n := by omega
      exact hQ
    · have ih := fun o5 => ih hc (by omega) o5
      have hpc := pcs_le j
      refine pk_eqn (fun c1 => ?_) (fun c1 t5 e5 => ?_) (by omega) (by omega)
      · refine sp_err h hn hg (by omega) ⟨_, _, rfl, ?_⟩
        have ej := er_b hg hn hc (by omega)
        have hb := bestP_lt (g := g) (n := n) (z := z) j
        have take : (bestP g n z j = 0 ∨ erP g n j < erP g n (bestP g n z j) ∨ (erP g n j = erP g n (bestP g n z j) ∧ lowI j (bestP g n z j) = true)) → ∀ o5, Wp X (d + 2) 125 (8, ([some (vp 20 0), some (vi (nI z)), some (vi (nI j)), some (vi (nI (erP g n j))), some (vi (nI (j + 1))), o5], ([], G x m))) Q := fun c o5 => by
          have e := ih o5
          rw [bestP_take ⟨h1, c1, c⟩, if_neg (by omega)] at e
          exact e
        by_cases hz0 : bestP g n z j = 0
        · rw [if_pos hz0]
          refine ⟨fun _ t9 e9 => ?_, fun c => absurd (nI_lt (b := 1000000000) (by omega) (by omega)) c⟩
          rw [e9, nI_1]
          exact take (Or.inl hz0) _
        · rw [if_neg hz0]
          have eb := er_b hg hn (s := bestP g n z j) (by omega) hz0
          have keep : ¬ (erP g n j < erP g n (bestP g n z j) ∨ (erP g n j = erP g n (bestP g n z j) ∧ lowI j (bestP g n z j) = true)) → ∀ o5, Wp X (d + 2) 125 (8, ([some (vp 20 0), some (vi (nI z)), some (vi (nI (bestP g n z j))), some (vi (nI (erP g n (bestP g n z j)))), some (vi (nI (j + 1))), o5], ([], G x m))) Q := fun c o5 => by
            have e := ih o5
            rw [bestP_keep (fun t => by
              rcases t.2.2 with t1 | t1
              · exact hz0 t1
              · exact c t1), if_neg hz0] at e
            exact e
          refine pk_lt (erP g n j) (erP g n (bestP g n z j)) (fun c t9 e9 => ?_) (fun c => pk_eqn (fun c2 => sp_bef ⟨_, _, rfl, ?_⟩) (fun c2 t11 e11 => ?_) (by omega) (by omega))
          · rw [e9, nI_1]
            exact take (Or.inr (Or.inl c)) _
          · cases hlo : lowI j (bestP g n z j) with
            | false =>
              refine ⟨fun _ t15 e15 => ?_, fun c => absurd rfl c⟩
              rw [e15, nI_1]
              exact keep (fun t => by
                rcases t with t | t
                · omega
                · rw [hlo] at t; exact Bool.noConfusion t.2) _
            | true =>
              refine ⟨fun c => absurd c (by decide), fun _ t16 e16 => ?_⟩
              rw [e16, nI_1]
              exact take (Or.inr (Or.inr ⟨c2, hlo⟩)) _
          · rw [e11, nI_1]
            exact keep (fun t => by omega) _
      · rw [e5, nI_1]
        have e := ih o5
        rw [bestP_keep (fun t => c1 t.2.1)] at e
        exact e
  have e := key 1 (by omega) (by omega) none
  have e1 : bestP g n z 1 = 0 := by
    have := bestP_lt (g := g) (n := n) (z := z) 1
    omega
  rw [e1, if_pos rfl] at e
  exact e
theorem sp_srch {z : Nat} (h : pOK m n g) (hn : n ≤ 10) (hg : ∀ i j, i < n → j < n → g i j ≤ 29403) (hz : 1 ≤ z) (hz2 : z ≤ 10) : ∀ (j : Nat) {Q : MRes → Prop} {c t V : Nat}, n - c ≤ j → c ≤ n → t < 2 ^ c → pcs t ≤ z → V ≤ 1000000000 → (∀ W, isLe (erP g n) (extS n z c t) V W → Q (.inl (some (vi (nI W))), G x m)) → Cl X (d + j + 2) 129 [vp 20 0, vi (nI c), vi (nI (z - pcs t)), vi (nI t), vi (nI V)] (G x m) Q := by
  intro j
  have hpn := p2 hn
  have p0 : pcs 0 = 0 := by decide
  have fin : ∀ {c t V : Nat}, c ≤ n → t < 2 ^ c → pcs t = z → V ≤ 1000000000 → isLe (erP g n) (extS n z c t) V (min V (erP g n t)) := fun {c t V} hc ht he hV => by
    have hlt : t < 2 ^ n := Nat.lt_of_lt_of_le ht (Nat.pow_le_pow_right (by omega) hc)
    refine ⟨by omega, fun s hs => ?_, ?_⟩
    · rw [ext_end hn hc ht he hs]; omega
    · by_cases hv : V ≤ erP g n t
      · exact Or.inl (by omega)
      · exact Or.inr ⟨t, ⟨hlt, fun _ _ => rfl, he⟩, by omega⟩
  have t0 : ∀ {t : Nat}, pcs t = z → t ≠ 0 := fun {t} he hc => by rw [hc] at he; omega
  induction j with
  | zero =>
    intro Q c t V hj hc ht hpt hV hQ
    obtain rfl : c = n := by omega
    have hsm : t < 1024 := by omega
    refine vc_X4_searchFrom ?_
    rw [h.1]
    refine pk_eqn (b := 0) (fun e0 => ?_) (fun e0 => ⟨fun c => absurd c (nI_pos (by omega)), fun _ => ⟨fun _ => hQ V (isLe.none (fun s hs => ?_)), fun c => absurd (nI_le (Nat.le_refl _) (by omega)) c⟩⟩) (by omega) (by omega)
    · have et : pcs t = z := by omega
      refine sp_err h hn hg hsm ⟨_, _, rfl, ?_⟩
      have eb := er_b hg hn ht (t0 et)
      rw [mn_nI (by omega) (by omega)]
      exact hQ _ (fin hc ht et hV)
    · have := ext_few hn hc ht hs
      omega
  | succ j ih =>
    intro Q c t V hj hc ht hpt hV hQ
    have hlt : t < 2 ^ n := Nat.lt_of_lt_of_le ht (Nat.pow_le_pow_right (by omega) hc)
    have hsm : t < 1024 := by omega
    refine vc_X4_searchFrom ?_
    rw [h.1]
    refine pk_eqn (b := 0) (fun e0 => ?_) (fun e0 => ⟨fun c => absurd c (nI_pos (by omega)), fun _ => pk_le n c (fun hcn => ?_) (fun hcn => ?_)⟩) (by omega) (by omega)
    · have et : pcs t = z := by omega
      refine sp_err h hn hg hsm ⟨_, _, rfl, ?_⟩
      have eb := er_b hg hn hlt (t0 et)
      rw [mn_nI (by omega) (by omega)]
      exact hQ _ (fin hc ht et hV)
    · refine hQ V (isLe.none (fun s hs => ?_))
      have := ext_few hn hc ht hs
      omega
    · rw [nI_sub hc]
      refine pk_le (z - pcs t) (n - c) (fun hle t5 e5 => ?_) (fun hgt => ?_)
      · have hcp : 2 ^ c < 2 ^ n := Nat.pow_lt_pow_right (by omega) hcn
        rw [shl1 (by omega), shl1 (by omega), nI_sub (Nat.le_of_lt hcp)] at e5
        rw [e5, fa_or]
        have hor : t ||| (2 ^ n - 2 ^ c) < 2 ^ n := Nat.or_lt_two_pow hlt (Nat.sub_lt (by omega) (Nat.pow_pos (by omega)))
        have ub := und_bit n (by omega) c (by omega)
        have hob : ∀ i, i < 10 → (t ||| (2 ^ n - 2 ^ c)).testBit i = (t.testBit i || decide (c ≤ i ∧ i < n)) := fun i hi => by rw [Nat.testBit_or, ub i hi]
        have hne : t ||| (2 ^ n - 2 ^ c) ≠ 0 := fun e => by
          have := hob c (by omega)
          rw [e, decide_eq_true ⟨Nat.le_refl c, hcn⟩, Bool.or_true, Nat.zero_testBit] at this
          cases this
        have eb := er_b hg hn hor hne
        refine sp_err h hn hg (by omega) ⟨_, _, rfl, pk_lt (erP g n (t ||| (2 ^ n - 2 ^ c))) V (fun hlt2 => ?_) (fun hge => ?_)⟩
        · have hpo := pcs_or (t := t) (c := c) (by omega) ht
          rw [shl1 (by omega), fa_or, nI_1, nI_p (by omega), show z - pcs t - 1 = z - pcs (t ||| 2 ^ c) by omega]
          refine ih (by omega) (by omega) (or_lt ht) (by omega) hV (fun W hW => ⟨_, _, rfl, ?_⟩)
          refine ih (by omega) (by omega) (Nat.lt_trans ht (Nat.pow_lt_pow_right (by omega) (by omega))) hpt (by have := hW.1; omega) (fun Z hZ => ⟨_, _, rfl, ?_⟩)
          exact hQ Z (hW.two hZ (fun s => ext_two ht))
        · refine hQ V (isLe.none (fun s hs => Nat.le_trans hge (erP_anti (fun i hi => ?_))))
          obtain ⟨s1, s2, s3⟩ := hs
          have hi10 : i < n := by
            rcases Nat.lt_or_ge i n with k | k
            · exact k
            · rw [bit_lt s1 k] at hi; cases hi
          rw [hob i (by omega)]
          by_cases hic : i < c
          · rw [← s2 i hic, hi]; rfl
          · rw [decide_eq_true ⟨by omega, hi10⟩, Bool.or_true]
      · refine hQ V (isLe.none (fun s hs => ?_))
        have := ext_few hn hc ht hs
        omega
theorem sp_bySearch {z : Nat} (h : pOK m n g) (hn : n ≤ 10) (hg : ∀ i j, i < n → j < n → g i j ≤ 29403) (hz : 1 ≤ z) (hz2 : z ≤ n) (hQ : Q (.inl (some (vi (nI (erP g n (bestP g n z (2 ^ n)))))), G x m)) : Cl X (d + 13) 128 [vp 20 0, vi (nI z)] (G x m) Q := by
  refine vc_X4_errorBySearch ?_
  have p0 : pcs 0 = 0 := by decide
  have e := sp_srch (X := X) (d := d) (x := x) h hn hg hz (show z ≤ 10 by omega) 10 (Q := fun r => ∃ (v1 : Int32) (m2 : MI), r = (.inl (some (vi v1)), G x m2) ∧ Q (.inl (some (vi v1)), G x m2)) (c := 0) (t := 0) (V := 1000000000) (by omega) (by omega) (by decide) (by omega) (Nat.le_refl _) (fun W hW => ⟨_, _, rfl, ?_⟩)
  · rw [p0, Nat.sub_zero] at e
    exact e
  · obtain ⟨b1, b2, b3⟩ := bestP_ok (g := g) hz hz2 hn
    have eb := er_b hg hn b2 b1
    have hw : W = erP g n (bestP g n z (2 ^ n)) := by
      have h1 := hW.2.1 _ ⟨b2, fun k hk => absurd hk (Nat.not_lt_zero _), b3⟩
      rcases hW.2.2 with e | ⟨s, ⟨s1, s2, s3⟩, e⟩
      · omega
      · have hs0 : 1 ≤ s := by
          rcases Nat.eq_zero_or_pos s with c | c
          · rw [c] at s3; omega
          · exact c
        have := (bestP_min (g := g) (n := n) (2 ^ n) s hs0 s1 s3).2
        omega
    rw [hw]
    exact hQ
theorem sp_memb {s p : Nat} (h : pOK m n g) (hn : n ≤ 10) (hs : s < 2 ^ n) (hp : p < pcs s) (hQ : ∀ k, k < n → memb s p = k → Q (.inl (some (vi (nI k))), G x m)) : Cl X d 127 [vp 20 0, vi (nI s), vi (nI p)] (G x m) Q := by
  refine vc_X4_memberAt ?_
  have hpn := p2 hn
  have h10 := pcs_le s
  have key : ∀ k, k ≤ n → fb_ct (fun k => s.testBit k) k ≤ p → Wp X d 127 (5, ([some (vp 20 0), some (vi (nI s)), some (vi (nI p)), some (vi (nI (fb_ct (fun k => s.testBit k) k))), some (vi (nI k))], ([], G x m))) Q := by
    refine lup (fun k hk ih hle => ?_)
    refine vl_X4_memberAt_5 ?_
    rw [h.1]
    refine pk_le n k (fun hc => ?_) (fun hc => bit_c (by omega) (by omega) (fun hb t3 e3 => ?_) (fun hb => pk_eqn (fun c => ?_) (fun c t5 e5 t6 e6 => ?_) (by omega) (by omega)))
    · obtain rfl : k = n := by omega
      have := pcs_low hn hs
      omega
    · have ih := ih hc
      rw [fb_ct_succ, hb] at ih
      rw [e3, nI_1]
      exact ih (by show _ + 0 ≤ _; omega)
    · exact hQ k hc (memb_is (by omega) hb c)
    · have ih := ih hc
      rw [fb_ct_succ, hb] at ih
      rw [e5, e6, nI_1, nI_1]
      exact ih (by show _ + 1 ≤ _; omega)
  exact key 0 (by omega) (by show 0 ≤ _; omega)
end PALS
section PALS2
variable {X : MX} {d : Nat} {x : Int64 × UInt64} {m : MI} {Q : MRes → Prop} {B : Nat} {o : OS}
theorem cw_palErr {p : Int32} (h : CoR m o) (ok : okO B o) (hQ : cq m (whyPa (oA o) p) (nI (erP (dCC (oA o)) (aC (oA o)).length (palV (oA o) (clN p)))) Q x) : Cl X (d + 4) 307 [vp 0 0, vi p, vp 43 0] (G x m) Q := by
  have hl := ok.1.len
  unfold cq whyPa at hQ
  refine vc_L_paletteError (vc_X10_paletteError ?_)
  rw [h.1.1.1]
  refine sp_isb 1 (aC (oA o)).length (fun hc => ⟨_, _, rfl, fun _ => ?_, fun c => absurd (by decide) c⟩) (fun hc => ⟨_, _, rfl, fun c => absurd rfl c, fun _ => Or.inr ⟨_, _, _, rfl, fun _ => hQ.2 1 (by omega) (if_neg hc) m FQ.rf, fun c => absurd rfl c⟩⟩)
  have hn1 : 1 ≤ (aC (oA o)).length := by
    rcases Nat.eq_zero_or_pos (aC (oA o)).length with c | c
    · rw [c] at hc
      exact absurd (Int32.le_trans hc.1 hc.2) (by decide)
    · exact c
  have e := inR_cl hc hn1 (by omega)
  rw [e.1]
  have hg : ∀ i j, i < (aC (oA o)).length → j < (aC (oA o)).length → dCC (oA o) i j ≤ 29403 := fun i j hi hj => ok.1.dCC hi hj
  obtain ⟨b1, b2, b3⟩ := bestP_ok (g := dCC (oA o)) e.2.1 e.2.2 hl.1
  have hpn := p2 hl.1
  refine sp_measAll h.1 ok.1 (fun m5 hP K5 => ⟨_, rfl, sp_best hP hl.1 hg (by omega) ⟨_, _, rfl, sp_err hP hl.1 hg (by omega) ⟨_, _, rfl, Or.inl ⟨_, _, rfl, ?_⟩⟩⟩⟩)
  exact hQ.1 (if_pos hc) m5 K5.fq
theorem cw_palErr2 {p : Int32} (h : CoR m o) (ok : okO B o) (hQ : cq m (whyPa (oA o) p) (nI (erP (dCC (oA o)) (aC (oA o)).length (palV (oA o) (clN p)))) Q x) : Cl X (d + 15) 308 [vp 0 0, vi p, vp 43 0] (G x m) Q := by
  have hl := ok.1.len
  unfold cq whyPa at hQ
  refine vc_L_paletteErrorBySearch (vc_X10_paletteErrorBySearch ?_)
  rw [h.1.1.1]
  refine sp_isb 1 (aC (oA o)).length (fun hc => ⟨_, _, rfl, fun _ => ?_, fun c => absurd (by decide) c⟩) (fun hc => ⟨_, _, rfl, fun c => absurd rfl c, fun _ => Or.inr ⟨_, _, _, rfl, fun _ => hQ.2 1 (by omega) (if_neg hc) m FQ.rf, fun c => absurd rfl c⟩⟩)
  have hn1 : 1 ≤ (aC (oA o)).length := by
    rcases Nat.eq_zero_or_pos (aC (oA o)).length with c | c
    · rw [c] at hc
      exact absurd (Int32.le_trans hc.1 hc.2) (by decide)
    · exact c
  have e := inR_cl hc hn1 (by omega)
  rw [e.1]
  have hg : ∀ i j, i < (aC (oA o)).length → j < (aC (oA o)).length → dCC (oA o) i j ≤ 29403 := fun i j hi hj => ok.1.dCC hi hj
  refine sp_measAll h.1 ok.1 (fun m5 hP K5 => ⟨_, rfl, sp_bySearch hP hl.1 hg e.2.1 e.2.2 ⟨_, _, rfl, Or.inl ⟨_, _, rfl, ?_⟩⟩⟩)
  exact hQ.1 (if_pos hc) m5 K5.fq
theorem cw_palCol {p q : Int32} (h : CoR m o) (ok : okO B o) (hQ : cq m (whyPc (oA o) p q) (nI (rowD (aC (oA o)) (memb (palV (oA o) (clN p)) (clN q)) 0)) Q x) : Cl X (d + 4) 309 [vp 0 0, vi p, vi q, vp 43 0] (G x m) Q := by
  have hl := ok.1.len
  unfold cq whyPc at hQ
  refine vc_L_paletteColour (vc_X10_paletteColour ?_)
  rw [h.1.1.1]
  refine sp_isb 1 (aC (oA o)).length (fun hc => ⟨_, _, rfl, fun _ => ?_, fun c => absurd (by decide) c⟩) (fun hc => ⟨_, _, rfl, fun c => absurd rfl c, fun _ => Or.inr ⟨_, _, _, rfl, fun _ => hQ.2 1 (by omega) (if_neg hc) m FQ.rf, fun c => absurd c (by decide), fun c => absurd rfl c.1⟩⟩)
  rw [if_pos hc] at hQ
  have th : (q < 0 ∨ p ≤ q) → ((2 = 0 → Q (.inl (some (vi 1)), Gu (1, 6) x m)) ∧ ((2 = 2 → Q (.inl (some (vi 2)), Gu (1, 6) x m)) ∧ ((¬ 2 = 0 ∧ ¬ 2 = 2) → Q (.inr 2, Gu (1, 6) x m)))) := fun c => ⟨fun c => absurd c (by decide), fun _ => hQ.2 2 (by omega) (if_pos c) m FQ.rf, fun c => absurd rfl c.2⟩
  refine ⟨fun c => Or.inr ⟨_, _, _, rfl, th (Or.inl c)⟩, fun c => ⟨fun c2 => ?_, fun c2 => Or.inr ⟨_, _, _, rfl, th (Or.inr (Int32.not_lt.mp c2))⟩⟩⟩
  have hn1 : 1 ≤ (aC (oA o)).length := by
    rcases Nat.eq_zero_or_pos (aC (oA o)).length with c | c
    · rw [c] at hc
      exact absurd (Int32.le_trans hc.1 hc.2) (by decide)
    · exact c
  have e := inR_cl hc hn1 (by omega)
  obtain ⟨q9, hq9, rfl⟩ := nI_of c
  have hQ1 := hQ.1 (if_neg (fun z => by
    rcases z with z | z
    · exact c z
    · exact absurd c2 (Int32.not_lt.mpr z)))
  rw [e.1] at c2 ⊢
  have hqz := (nI_ltI hq9 (by omega)).mp c2
  have ecl : clN (nI q9) = q9 := nI_clamp hq9
  rw [ecl] at hQ1
  have hg : ∀ i j, i < (aC (oA o)).length → j < (aC (oA o)).length → dCC (oA o) i j ≤ 29403 := fun i j hi hj => ok.1.dCC hi hj
  obtain ⟨b1, b2, b3⟩ := bestP_ok (g := dCC (oA o)) e.2.1 e.2.2 hl.1
  have hpn := p2 hl.1
  refine sp_measAll h.1 ok.1 (fun m5 hP K5 => ⟨_, rfl, sp_best hP hl.1 hg (by omega) ⟨_, _, rfl, sp_memb hP hl.1 b2 (by omega) (fun k hk ek => ⟨_, _, rfl, ?_⟩)⟩⟩)
  have h5 := K5.fq.cor h ok
  rw [nI_clamp (n := k) (by omega), h5.1.1.2.2 k hk 0 (by omega)]
  refine ⟨inb_n k 10 (by omega), Or.inl ⟨_, _, rfl, ?_⟩⟩
  have := hQ1 m5 K5.fq
  unfold palV at this
  rw [ek] at this
  exact this
end PALS2
