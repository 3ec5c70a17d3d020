/-! ===== SETTLEMENTS OF THE CLASS ===== -/
def spA (a : AS) : SP := (((aC a).length, (aR a).length), ((fun k => rowD (aR a) k 5), ((fun k p => dRC a k p), (fun k p => decide (fitP a k p)))))
theorem spA_ok {B : Nat} {a : AS} (ho : okA B a) : (spA a).ok := by
  have hl := ho.len
  refine ⟨hl.1, hl.2.1, fun k hk => ?_, fun k p hk hp hf => ?_⟩
  · have := ho.r (k := k) hk
    unfold okRp at this
    exact ⟨this.2.2.2.2.2.1, this.2.2.2.2.2.2⟩
  · have := ho.r (k := k) hk
    unfold okRp at this
    have hf2 : fitP a k p := of_decide_eq_true hf
    exact Nat.le_trans hf2 this.2.2.2.2.1
def KL (m m9 : MI) : Prop := ∀ f i k, ¬ (12 ≤ f ∧ f ≤ 19 ∧ ¬ (f = 18 ∧ i = 0)) → m9 f i k = m f i k
theorem KL.rf {m : MI} : KL m m := fun _ _ _ _ => rfl
theorem KL.tr {a b c : MI} (h : KL a b) (k : KL b c) : KL a c := fun f i j h1 => (k f i j h1).trans (h f i j h1)
theorem KL.fq {m m9 : MI} (h : KL m m9) : FQ m m9 := fun f i k hf => h f i k (by unfold kC inSt tH at hf; omega)
def ldd (m : MI) (S : SP) : Prop := (m 12 0 5 = nI S.r ∧ m 12 0 6 = nI S.n) ∧ (∀ k p, k < S.r → p < S.n → m 14 k p = if S.F k p then nI (S.D k p) else -1) ∧ (∀ k, k < S.r → m 15 0 k = nI (S.w k)) ∧ (∀ t, 1 ≤ t → t ≤ S.r → m 16 0 (S.r - t) = nI (S.pf t))
/-- writes into the table of weights, and of the chosen -/
theorem ldd.on {m m9 : MI} {S : SP} (h : ldd m S) (hf : ∀ f i k, f = 12 ∨ f = 14 ∨ f = 15 ∨ f = 16 → m9 f i k = m f i k) : ldd m9 S := by
  obtain ⟨⟨h1, h2⟩, h3, h4, h5⟩ := h
  refine ⟨⟨by rw [hf 12 _ _ (by omega)]; exact h1, by rw [hf 12 _ _ (by omega)]; exact h2⟩, fun k p hk hp => ?_, fun k hk => ?_, fun t ht1 ht2 => ?_⟩
  · rw [hf 14 _ _ (by omega)]; exact h3 k p hk hp
  · rw [hf 15 _ _ (by omega)]; exact h4 k hk
  · rw [hf 16 _ _ (by omega)]; exact h5 t ht1 ht2
def tbl (m : MI) (S : SP) (t : Nat) : Prop := ∀ t9, t9 ≤ t → ∀ s, s < 2 ^ S.n → pcs s + t9 ≤ S.r → m 18 t9 s = nI (valW 100000 (S.pr t9 s))
theorem neg1 (x : Int32) : x + (-1) = x - 1 := (Int32.sub_eq_add_neg x 1).symm
theorem nIm {k : Nat} : nI (k + 1) - 1 = nI k := nI_pred k
section SETC
variable {X : MX} {d : Nat} {x : Int64 × UInt64} {m : MI} {Q : MRes → Prop} {B : Nat} {a : AS} {S : SP}
theorem sp_load (h : relS m 0 a) (ho : okA B a) (hQ : ∀ m9, ldd m9 (spA a) → (∀ f i k, ¬ (f = 12 ∨ f = 14 ∨ f = 15 ∨ f = 16) → m9 f i k = m f i k) → Q (.inl none, G x m9)) : Cl X (d + 2) 109 [vp 12 0, vp 1 0] (G x m) Q := by
  have hl := ho.len
  refine vc_X6_load (fun m1 e1 m2 e2 t3 e3 => ?_)
  rw [h.2.1.1] at e1
  have e20 : m1 2 0 1 = nI (aC a).length := by rw [e1, mup_no (by omega)]; exact h.1.1
  rw [e20] at e2
  have e25 : m2 12 0 5 = nI (aR a).length := by rw [e2, mup_no (by omega), e1, mup_eq]
  have e26 : m2 12 0 6 = nI (aC a).length := by rw [e2, mup_eq]
  rw [e25] at e3
  have K2 : ∀ f i k, ¬ (f = 12 ∨ f = 14 ∨ f = 15 ∨ f = 16) → m2 f i k = m f i k := fun f i k hf => by rw [e2, mup_no (by omega), e1, mup_no (by omega)]
  have outer : ∀ k, k ≤ (aR a).length → ∀ m9 o4 o5 o6 o7 o8, m9 12 0 5 = nI (aR a).length → m9 12 0 6 = nI (aC a).length → (∀ i p, k ≤ i → i < (aR a).length → p < (aC a).length → m9 14 i p = if (spA a).F i p then nI ((spA a).D i p) else -1) → (∀ i, k ≤ i → i < (aR a).length → m9 15 0 i = nI ((spA a).w i)) → (∀ t, 1 ≤ t → t ≤ (aR a).length - k → m9 16 0 ((aR a).length - t) = nI ((spA a).pf t)) → (∀ f i k, ¬ (f = 12 ∨ f = 14 ∨ f = 15 ∨ f = 16) → m9 f i k = m f i k) → Wp X (d + 2) 109 (31, ([some (vp 12 0), some (vp 1 0), some (vi (nI ((spA a).pf ((aR a).length - k)))), some (vi (nI k - 1)), o4, o5, o6, o7, o8], ([], G x m9))) Q := by
    intro k
    induction k with
    | zero =>
      intro hk m9 o4 o5 o6 o7 o8 h5 h6 hA hB hC hK
      refine vl_X6_load_31 ⟨fun _ => hQ m9 ⟨⟨h5, h6⟩, fun i p hi hp => hA i p (by omega) hi hp, fun i hi => hB i (by omega) hi, fun t t1 t2 => hC t t1 (by exact t2)⟩ hK, fun c => absurd (show nI 0 - 1 < 0 by decide +kernel) c⟩
    | succ k ih =>
      intro hk m9 o4 o5 o6 o7 o8 h5 h6 hA hB hC hK
      rw [nIm]
      refine vl_X6_load_31 ⟨fun c => absurd c (nI_pos (by omega)), fun _ => ⟨inb_n k 6 (by omega), ?_⟩⟩
      rw [nI_clamp (n := k) (by omega)]
      have inner : ∀ p, p ≤ (aC a).length → ∀ m8 o7 o8, m8 12 0 5 = nI (aR a).length → m8 12 0 6 = nI (aC a).length → (∀ i q, (k < i ∨ (i = k ∧ q < p)) → i < (aR a).length → q < (aC a).length → m8 14 i q = if (spA a).F i q then nI ((spA a).D i q) else -1) → (∀ i, k < i → i < (aR a).length → m8 15 0 i = nI ((spA a).w i)) → (∀ t, 1 ≤ t → t ≤ (aR a).length - (k + 1) → m8 16 0 ((aR a).length - t) = nI ((spA a).pf t)) → (∀ f i k, ¬ (f = 12 ∨ f = 14 ∨ f = 15 ∨ f = 16) → m8 f i k = m f i k) → Wp X (d + 2) 109 (52, ([some (vp 12 0), some (vp 1 0), some (vi (nI ((spA a).pf ((aR a).length - (k + 1))))), some (vi (nI k)), some (vp 7 (6 * 0 + k)), some (vi (if (spA a).any k p then 1 else 0)), some (vi (nI p)), o7, o8], ([], G x m8))) Q := by
        refine lup (fun p hp ihp m8 o7 o8 h5 h6 hA hB hC hK => ?_)
        have h8 : relS m8 0 a := h.on hl.1 hl.2.1 (fun f i k hi => hK f i k (by unfold inSt at hi; omega))
        have hrk := ho.r (k := k) (by omega)
        unfold okRp at hrk
        have key := vl_X6_load_52 (X := X) (d := d + 1) (x := x) (m := m8) (Q := Q) (q0 := 0) (l2 := nI ((spA a).pf ((aR a).length - (k + 1)))) (l3 := nI k) (l5 := if (spA a).any k p then 1 else 0) (l6 := nI p) (o7 := o7) (o8 := o8)
        rw [nI_clamp (n := k) (by omega), nI_clamp (n := p) (by omega), h6] at key
        refine key ?_
        refine pk_le (aC a).length p (fun hc => ⟨inb_n k 6 (by omega), fun m2 e2 => ?_⟩) (fun hc => ⟨inb_n p 10 (by omega), sp_betw7 hl.2.2 h8.2.2.2.1 (ho.rpR h8 (by omega)) (ho.rpC h8 hc) ⟨_, _, rfl, ?_⟩⟩)
        · obtain rfl : p = (aC a).length := by omega
          rw [h8.2.1.2.2 k (by omega) 5 (by omega)] at e2
          have e215 : m2 15 0 k = nI ((spA a).w k) := by rw [e2, mup_eq]; rfl
          have epf : (spA a).pf ((aR a).length - k) = (spA a).pf ((aR a).length - (k + 1)) + (if (spA a).any k (aC a).length then (spA a).w k else 0) := by
            have e0 : (aR a).length - k = ((aR a).length - (k + 1)) + 1 := by omega
            rw [e0]
            show (spA a).pf _ + (if (spA a).any ((aR a).length - (((aR a).length - (k + 1)) + 1)) (aC a).length then (spA a).w ((aR a).length - (((aR a).length - (k + 1)) + 1)) else 0) = _
            rw [show (aR a).length - (((aR a).length - (k + 1)) + 1) = k by omega]
          have fin : ∀ (v : Int32) m5 t6 l5 o7 o8, v = nI ((spA a).pf ((aR a).length - k)) → m5 = mup m2 16 0 k v → t6 = nI k + (-1) → Wp X (d + 2) 109 (31, ([some (vp 12 0), some (vp 1 0), some (vi v), some (vi t6), some (vp 7 (6 * 0 + k)), some (vi l5), some (vi (nI (aC a).length)), o7, o8], ([], G x m5))) Q := fun v m5 t6 l5 o7 o8 ev e5 e6 => by
            rw [e6, neg1, ev]
            refine ih (by omega) m5 _ _ _ _ _ ?_ ?_ (fun i q h1 h2 h3 => ?_) (fun i h1 h2 => ?_) (fun t t1 t2 => ?_) (fun f i j hf => ?_)
            · rw [e5, mup_no (by omega), e2, mup_no (by omega)]; exact h5
            · rw [e5, mup_no (by omega), e2, mup_no (by omega)]; exact h6
            · rw [e5, mup_no (by omega), e2, mup_no (by omega)]; exact hA i q (by omega) h2 h3
            · rw [e5, mup_no (by omega)]
              by_cases hik : i = k
              · rw [hik]; exact e215
              · rw [e2, mup_no (by omega)]; exact hB i (by omega) h2
            · by_cases htk : t = (aR a).length - k
              · rw [htk, show (aR a).length - ((aR a).length - k) = k by omega, e5, mup_eq, ev]
              · rw [e5, mup_no (by omega), e2, mup_no (by omega)]; exact hC t t1 (by omega)
            · rw [e5, mup_no (by omega), e2, mup_no (by omega)]; exact hK f i j hf
          cases hany : (spA a).any k (aC a).length with
          | true =>
            rw [hany, if_pos rfl] at epf
            rw [if_pos rfl]
            refine ⟨fun c => absurd c (by decide), fun _ => ⟨inb_n k 6 (by omega), fun t7 e7 => ⟨inb_n k 6 (by omega), fun m8 e8 t9 e9 => ?_⟩⟩⟩
            rw [e215, nI_add, ← epf] at e7
            exact fin t7 m8 t9 _ _ _ e7 e8 e9
          | false =>
            rw [hany, if_neg (by decide), Nat.add_zero] at epf
            rw [if_neg (by decide)]
            refine ⟨fun _ t4 e4 => ⟨inb_n k 6 (by omega), fun m5 e5 t6 e6 => ?_⟩, fun c => absurd rfl c⟩
            rw [Int32.add_zero, ← epf] at e4
            exact fin t4 m5 t6 _ _ _ e4 e5 e6
        · have hb := ho.dst (i := k) (j := p) (by omega) hc (aMet a)
          rw [h8.2.1.2.2 k (by omega) 4 (by omega)]
          have hF : (spA a).F k p = decide (fitP a k p) := rfl
          have hany : (spA a).any k (p + 1) = ((spA a).any k p || (spA a).F k p) := rfl
          have ihp := fun m7 o7 o8 => ihp hc m7 o7 o8
          rw [hany] at ihp
          have nx : ∀ (v : Int32) m5 (t14 t15 : Int32) o7 o8, v = (if (spA a).F k p then nI ((spA a).D k p) else -1) → m5 = mup m8 14 k p v → t14 = (if ((spA a).any k p || (spA a).F k p) then 1 else 0) → t15 = nI p + 1 → Wp X (d + 2) 109 (52, ([some (vp 12 0), some (vp 1 0), some (vi (nI ((spA a).pf ((aR a).length - (k + 1))))), some (vi (nI k)), some (vp 7 (6 * 0 + k)), some (vi t14), some (vi t15), o7, o8], ([], G x m5))) Q := fun v m5 t14 t15 o7 o8 ev e5 e14 e15 => by
            rw [e14, e15, nI_1]
            refine ihp m5 _ _ ?_ ?_ (fun i q h1 h2 h3 => ?_) (fun i h1 h2 => ?_) (fun t t1 t2 => ?_) (fun f i j hf => ?_)
            · rw [e5, mup_no (by omega)]; exact h5
            · rw [e5, mup_no (by omega)]; exact h6
            · by_cases hiq : i = k ∧ q = p
              · rw [hiq.1, hiq.2, e5, mup_eq, ev]
              · rw [e5, mup_no (by omega)]; exact hA i q (by omega) h2 h3
            · rw [e5, mup_no (by omega)]; exact hB i h1 h2
            · rw [e5, mup_no (by omega)]; exact hC t t1 t2
            · rw [e5, mup_no (by omega)]; exact hK f i j hf
          refine pk_lt (rowD (aR a) k 4) (dst (aMet a) (rowD (aR a) k) (rowD (aC a) p)) (fun c => ⟨inb_n k 6 (by omega), inb_n p 10 (by omega), fun m13 e13 => ?_⟩) (fun c => ⟨inb_n k 6 (by omega), inb_n p 10 (by omega), fun m17 e17 => ?_⟩)
          · have hf0 : (spA a).F k p = false := decide_eq_false (by omega)
            refine ⟨fun ca t15 e15 => nx (-1) m13 1 t15 _ _ (by rw [hf0]; rfl) e13 ?_ e15, fun ca t16 e16 => nx (-1) m13 0 t16 _ _ (by rw [hf0]; rfl) e13 ?_ e16⟩
            · rw [hf0, Bool.or_false]
              revert ca
              cases (spA a).any k p <;> decide
            · rw [hf0, Bool.or_false]
              revert ca
              cases (spA a).any k p <;> decide
          · have hf1 : (spA a).F k p = true := decide_eq_true c
            have e1 : (1 : Int32) = if ((spA a).any k p || (spA a).F k p) then 1 else 0 := by
              rw [hf1, Bool.or_true]; rfl
            exact ⟨fun ca t19 e19 => nx _ m17 1 t19 _ _ (by rw [hf1]; rfl) e17 e1 e19, fun ca t20 e20 => nx _ m17 1 t20 _ _ (by rw [hf1]; rfl) e17 e1 e20⟩
      exact inner 0 (by omega) m9 _ _ h5 h6 (fun i q h1 h2 h3 => hA i q (by omega) h2 h3) (fun i h1 h2 => hB i (by omega) h2) hC hK
  have e0 := outer (aR a).length (Nat.le_refl _) m2 none none none none none e25 e26 (fun i p h1 h2 => by omega) (fun i h1 h2 => by omega) (fun t t1 t2 => by omega) K2
  rw [Nat.sub_self] at e0
  rw [e3]
  exact e0
theorem sp_free {k p s : Nat} (h : ldd m S) (hS : S.ok) (hk : k < S.r) (hp : p < S.n) (hs : s < 1024) (hQ : Q (.inl (some (vi (if S.free k s p then 1 else 0))), G x m)) : Cl X d 112 [vp 12 0, vi (nI k), vi (nI p), vi (nI s)] (G x m) Q := by
  have h1 := hS.1
  have h2 := hS.2.1
  refine vc_X6_isFree ?_
  rw [nI_clamp (n := k) (by omega), nI_clamp (n := p) (by omega), h.2.1 k p hk hp]
  refine ⟨inb_n k 6 (by omega), inb_n p 10 (by omega), ?_⟩
  unfold SP.free at hQ
  cases hF : S.F k p with
  | false =>
    rw [hF, Bool.false_and] at hQ
    rw [if_neg (by decide)]
    exact ⟨fun _ => hQ, fun c => absurd (by decide) c⟩
  | true =>
    have hD := hS.2.2.2 k p hk hp hF
    rw [hF, Bool.true_and] at hQ
    rw [if_pos rfl]
    refine ⟨fun c => absurd c (nI_pos (by omega)), fun _ => ?_⟩
    have hbc := bit_c (s := s) (k := p) (by omega) (by omega) (A := s.testBit p = false) (fun hb => hb) (fun hb => hb)
    refine ⟨fun c => ?_, fun c => ?_⟩
    · rw [hbc.2 c] at hQ; exact hQ
    · rw [hbc.1 (Decidable.not_not.mp c)] at hQ; exact hQ
theorem free_lt {S : SP} {k s p : Nat} (hf : S.free k s p = true) : s.testBit p = false := by
  unfold SP.free at hf
  rw [Bool.and_eq_true] at hf
  cases hb : s.testBit p with
  | false => rfl
  | true => rw [hb] at hf; cases hf.2
theorem pcs_add {s p : Nat} (hp : p < 10) (hb : s.testBit p = false) : pcs (s ||| 2 ^ p) = pcs s + 1 := by
  have e1 := fb_ct_upd (fun k => s.testBit k) true (i := p) (n := 10) hp
  have e2 : fb_ct (fun k => if k = p then true else s.testBit k) 10 = pcs (s ||| 2 ^ p) := fb_ct_cong (fun k _ => by
    rw [bit_or]
    by_cases h : k = p
    · rw [if_pos h, decide_eq_true h, Bool.or_true]
    · rw [if_neg h, decide_eq_false h, Bool.or_false])
  rw [e2, hb, if_pos rfl] at e1
  exact e1
theorem sp_ww {k t p s : Nat} (h : ldd m S) (hS : S.ok) (ht : t + k + 1 = S.r) (hT : tbl m S t) (hp : p < S.n) (hs : s < 2 ^ S.n) (hpc : pcs s ≤ k) (hf : S.free k s p = true) (hQ : Q (.inl (some (vi (nI (valW 100000 (S.cand k t s p))))), G x m)) : Cl X d 113 [vp 12 0, vi (nI k), vi (nI p), vi (nI s)] (G x m) Q := by
  have h1 := hS.1
  have h2 := hS.2.1
  have hpn := p2 h1
  have hb := free_lt hf
  have hF : S.F k p = true := by
    unfold SP.free at hf
    rw [Bool.and_eq_true] at hf
    exact hf.1
  have hD := hS.2.2.2 k p (by omega) hp hF
  have hw := hS.2.2.1 k (by omega)
  have hor : s ||| 2 ^ p < 2 ^ S.n := Nat.or_lt_two_pow hs (Nat.pow_lt_pow_right (by omega) hp)
  have hpo := pcs_add (s := s) (p := p) (by omega) hb
  refine vc_X6_weightWith ?_
  rw [h.1.1, shl1 (by omega), fa_or, nI_sub (a := S.r) (b := k) (by omega), nI_p (by omega), show S.r - k - 1 = t by omega]
  refine ⟨inb_n k 6 (by omega), inb_n k 6 (by omega), inb_n p 10 (by omega), inb_n t 7 (by omega), inb_n (s ||| 2 ^ p) 1024 (by omega), ?_⟩
  rw [nI_clamp (n := k) (by omega), nI_clamp (n := p) (by omega), nI_clamp (n := t) (by omega), nI_clamp (n := s ||| 2 ^ p) (by omega), h.2.2.1 k (by omega), h.2.1 k p (by omega) hp, hF, if_pos rfl, hT t (Nat.le_refl t) _ hor (by omega)]
  have e1 : nI (S.w k) * 100000 = nI (100000 * S.w k) := by
    rw [show (100000 : Int32) = nI 100000 from rfl, pk_mul, Nat.mul_comm]
  rw [e1, nI_sub (by omega), nI_add]
  unfold SP.cand at hQ
  rw [val_add (Or.inl rfl) (pr_ok hS t (by omega) (s ||| 2 ^ p)) (by omega) hw.1 hD] at hQ
  exact hQ
theorem sp_bw {k t s : Nat} (h : ldd m S) (hS : S.ok) (ht : t + k + 1 = S.r) (hT : tbl m S t) (hs : s < 2 ^ S.n) (hpc : pcs s ≤ k) (hQ : Q (.inl (some (vi (nI (valW 100000 (S.pr (t + 1) s))))), G x m)) : Cl X (d + 1) 111 [vp 12 0, vi (nI k), vi (nI s)] (G x m) Q := by
  have h1 := hS.1
  have h2 := hS.2.1
  have hpn := p2 h1
  refine vc_X6_bestWeight ?_
  rw [h.1.1, nI_sub (a := S.r) (b := k) (by omega), nI_p (by omega), show S.r - k - 1 = t by omega, nI_clamp (n := t) (by omega), nI_clamp (n := s) (by omega), hT t (Nat.le_refl t) s hs (by omega)]
  refine ⟨inb_n t 7 (by omega), inb_n s 1024 (by omega), fun t1 e1 => ?_⟩
  rw [e1]
  have key : ∀ p, p ≤ S.n → Wp X (d + 1) 111 (19, ([some (vp 12 0), some (vi (nI k)), some (vi (nI s)), some (vi (nI (valW 100000 (S.prF k (S.pr t) s p)))), some (vi (nI p))], ([], G x m))) Q := by
    refine lup (fun p hp ih => ?_)
    refine vl_X6_bestWeight_19 ?_
    rw [h.1.2]
    refine pk_le S.n p (fun hc => ?_) (fun hc => sp_free h hS (by omega) hc (by omega) ⟨_, _, rfl, ?_⟩)
    · obtain rfl : p = S.n := by omega
      have e : S.pr (t + 1) s = S.prF k (S.pr t) s S.n := by
        show S.prF (S.r - (t + 1)) (S.pr t) s S.n = _
        rw [show S.r - (t + 1) = k by omega]
      rw [e] at hQ
      exact hQ
    · have ih := ih hc
      have o1 := prF_ok hS (k := k) (t := t) (T := S.pr t) (by omega) (pr_ok hS t (by omega)) s p (by omega)
      by_cases hf : S.free k s p = true
      · rw [if_pos hf]
        have o2 := cand_ok hS (k := k) (t := t) (s := s) (p := p) (by omega) hc (by omega) hf
        refine ⟨fun c => absurd c (by decide), fun _ => sp_ww h hS ht hT hc hs hpc hf ⟨_, _, rfl, fun t8 e8 t9 e9 => ?_⟩⟩
        have b1 := val_b (Or.inl rfl) (W := 100000) (by omega) o1
        have b2 := val_b (Or.inl rfl) (W := 100000) (by omega) o2
        rw [mx_nI (by omega) (by omega), ← val_max (Or.inl rfl) (by omega) o1 o2] at e8
        rw [show S.prF k (S.pr t) s (p + 1) = lexM (S.prF k (S.pr t) s p) (S.cand k t s p) from if_pos hf] at ih
        rw [e8, e9, nI_1]
        exact ih
      · rw [if_neg hf]
        refine ⟨fun _ t5 e5 => ?_, fun c => absurd rfl c⟩
        rw [show S.prF k (S.pr t) s (p + 1) = S.prF k (S.pr t) s p from if_neg hf] at ih
        rw [e5, nI_1]
        exact ih
  exact key 0 (by omega)
theorem sp_weigh (h : ldd m S) (hS : S.ok) (hz : ∀ s, m 18 0 s = 0) (hQ : ∀ m9, tbl m9 S S.r → (∀ f i k, ¬ (f = 18 ∧ ¬ i = 0) → m9 f i k = m f i k) → Q (.inl none, G x m9)) : Cl X (d + 2) 110 [vp 12 0] (G x m) Q := by
  have h1 := hS.1
  have h2 := hS.2.1
  have hpn := p2 h1
  refine vc_X6_weighAll (fun t1 e1 => ?_)
  rw [h.1.1] at e1
  rw [e1]
  have L : ∀ m9, (∀ f i k, ¬ (f = 18 ∧ ¬ i = 0) → m9 f i k = m f i k) → ldd m9 S := fun m9 hK => h.on (fun f i k hf => hK f i k (by omega))
  have outer : ∀ k, k ≤ S.r → ∀ m9 o2, tbl m9 S (S.r - k) → (∀ f i k, ¬ (f = 18 ∧ ¬ i = 0) → m9 f i k = m f i k) → Wp X (d + 2) 110 (7, ([some (vp 12 0), some (vi (nI k - 1)), o2], ([], G x m9))) Q := by
    intro k
    induction k with
    | zero =>
      intro hk m9 o2 hT hK
      exact vl_X6_weighAll_7 ⟨fun _ => hQ m9 hT hK, fun c => absurd (show nI 0 - 1 < 0 by decide +kernel) c⟩
    | succ k ih =>
      intro hk m9 o2 hT hK
      rw [nIm]
      refine vl_X6_weighAll_7 ⟨fun c => absurd c (nI_pos (by omega)), fun _ => ?_⟩
      have inner : ∀ s, s ≤ 2 ^ S.n → ∀ m8, tbl m8 S (S.r - (k + 1)) → (∀ s9, s9 < s → pcs s9 ≤ k → m8 18 (S.r - k) s9 = nI (valW 100000 (S.pr (S.r - k) s9))) → (∀ f i k, ¬ (f = 18 ∧ ¬ i = 0) → m8 f i k = m f i k) → Wp X (d + 2) 110 (13, ([some (vp 12 0), some (vi (nI k)), some (vi (nI s))], ([], G x m8))) Q := by
        refine lup (fun s hs ihs m8 hT8 hR8 hK8 => ?_)
        have L8 := L m8 hK8
        refine vl_X6_weighAll_13 ?_
        rw [L8.1.2, shl1 (by omega)]
        refine pk_le (2 ^ S.n) s (fun hc t2 e2 => ?_) (fun hc => sp_bc (by omega) ⟨_, _, rfl, ?_⟩)
        rotate_left
        rw [L8.1.1, nI_sub (a := S.r) (b := k) (by omega)]
        refine pk_lt k (pcs s) (fun c t6 e6 => ?_) (fun c => ⟨inb_n (S.r - k) 7 (by omega), sp_bw (t := S.r - (k + 1)) L8 hS (by omega) hT8 hc c ⟨_, _, rfl, inb_n s 1024 (by omega), fun m9 e9 t10 e10 => ?_⟩⟩) (hb := by have := pcs_le s; omega)
        rotate_right
        · rw [e2, neg1]
          refine ih (by omega) m8 _ (fun t9 ht9 s9 hs9 hp9 => ?_) hK8
          by_cases ht : t9 = S.r - k
          · rw [ht]
            exact hR8 s9 (by omega) (by omega)
          · exact hT8 t9 (by omega) s9 hs9 hp9
        · rw [e6, nI_1]
          refine ihs hc m8 hT8 (fun s9 h9 hp9 => ?_) hK8
          by_cases hss : s9 = s
          · rw [hss] at hp9; omega
          · exact hR8 s9 (by omega) hp9
        · rw [e10, nI_1]
          rw [nI_clamp (n := S.r - k) (by omega), nI_clamp (n := s) (by omega), show S.r - (k + 1) + 1 = S.r - k by omega] at e9
          refine ihs hc m9 (fun t9 ht9 s9 hs9 hp9 => ?_) (fun s9 h9 hp9 => ?_) (fun f i j hf => ?_)
          · rw [e9, mup_no (by omega)]; exact hT8 t9 ht9 s9 hs9 hp9
          · by_cases hss : s9 = s
            · rw [hss, e9, mup_eq]
            · rw [e9, mup_no (by omega)]; exact hR8 s9 (by omega) hp9
          · rw [e9, mup_no (by omega)]; exact hK8 f i j hf
      exact inner 0 (by omega) m9 hT (fun s9 h9 => by omega) hK
  refine outer S.r (Nat.le_refl _) m none (fun t9 ht9 s hs hp => ?_) (fun f i k _ => rfl)
  obtain rfl : t9 = 0 := by omega
  rw [hz]
  rfl
def cvI (S : SP) (k s : Nat) : Int32 := if S.ch k s < S.n then nI (S.ch k s) else -1
theorem sp_first {k s : Nat} (h : ldd m S) (hS : S.ok) (hk : k < S.r) (hT : tbl m S S.r) (hs : s < 2 ^ S.n) (hpc : pcs s ≤ k) (hQ : Q (.inl (some (vi (cvI S k s))), G x m)) : Cl X (d + 1) 115 [vp 12 0, vi (nI k), vi (nI s)] (G x m) Q := by
  have h1 := hS.1
  have h2 := hS.2.1
  have hpn := p2 h1
  have hT2 : tbl m S (S.r - (k + 1)) := fun t9 h9 => hT t9 (by omega)
  refine vc_X6_firstBest ?_
  rw [h.1.1, nI_sub (a := S.r) (b := k) (by omega), nI_clamp (n := S.r - k) (by omega), nI_clamp (n := s) (by omega), hT (S.r - k) (by omega) s hs (by omega)]
  refine ⟨inb_n (S.r - k) 7 (by omega), inb_n s 1024 (by omega), fun t1 e1 => ?_⟩
  rw [e1]
  unfold cvI at hQ
  have key : ∀ p, p ≤ S.n → (∀ i, i < p → ¬ (S.free k s i = true ∧ S.cand k (S.r - (k + 1)) s i = S.pr (S.r - k) s)) → Wp X (d + 1) 115 (17, ([some (vp 12 0), some (vi (nI k)), some (vi (nI s)), some (vi (nI (valW 100000 (S.pr (S.r - k) s)))), some (vi (nI p))], ([], G x m))) Q := by
    refine lup (fun p hp ih hno => ?_)
    refine vl_X6_firstBest_17 ?_
    rw [h.1.2]
    refine pk_le S.n p (fun hc => ?_) (fun hc => sp_free h hS hk hc (by omega) ⟨_, _, rfl, ?_⟩)
    · have e := ch_none (fun i hi => hno i (by omega))
      rw [e, if_neg (Nat.lt_irrefl _)] at hQ
      exact hQ
    · have nx : ¬ (S.free k s p = true ∧ S.cand k (S.r - (k + 1)) s p = S.pr (S.r - k) s) → ∀ t5 : Int32, t5 = nI p + 1 → Wp X (d + 1) 115 (17, ([some (vp 12 0), some (vi (nI k)), some (vi (nI s)), some (vi (nI (valW 100000 (S.pr (S.r - k) s)))), some (vi t5)], ([], G x m))) Q := fun c t5 e5 => by
        rw [e5, nI_1]
        refine ih hc (fun i hi => ?_)
        rcases Nat.lt_succ_iff_lt_or_eq.mp hi with h9 | h9
        · exact hno i h9
        · rw [h9]; exact c
      by_cases hf : S.free k s p = true
      · rw [if_pos hf]
        have o1 := pr_ok hS (S.r - k) (by omega) s
        have o2 := cand_ok hS (k := k) (t := S.r - (k + 1)) (s := s) (p := p) hk hc (by omega) hf
        rw [show S.r - (k + 1) + 1 = S.r - k by omega] at o2
        refine ⟨fun c => absurd c (by decide), fun _ => sp_ww h hS (t := S.r - (k + 1)) (by omega) hT2 hc hs hpc hf ⟨_, _, rfl, ?_⟩⟩
        have b1 := val_b (Or.inl rfl) (W := 100000) (by omega) o1
        have b2 := val_b (Or.inl rfl) (W := 100000) (by omega) o2
        have ve := val_eq (W := 100000) (Or.inl rfl) (by omega) o2 o1
        refine pk_eqn (fun c => ?_) (fun c => nx (fun z => c (ve.mpr z.2))) (by omega) (by omega)
        rw [ch_at hc hf (ve.mp c) hno, if_pos hc] at hQ
        exact hQ
      · rw [if_neg hf]
        exact ⟨fun _ => nx (fun z => hf z.1), fun c => absurd rfl c⟩
  exact key 0 (by omega) (fun i hi => by omega)
def cvV (S : SP) (k : Nat) : Int32 := if S.cv k < S.n then nI (S.cv k) else -1
theorem cvV_c {S : SP} (hn : S.n ≤ 10) (k : Nat) {A C : Prop} (f : ¬ S.cv k < S.n → A) (g : S.cv k < S.n → C) : (cvV S k < 0 → A) ∧ (¬ cvV S k < 0 → C) := by
  unfold cvV
  by_cases hc : S.cv k < S.n
  · rw [if_pos hc]
    exact ⟨fun c => absurd c (nI_pos (by omega)), fun _ => g hc⟩
  · rw [if_neg hc]
    exact ⟨fun _ => f hc, fun c => absurd (by decide) c⟩
theorem sp_choose (h : ldd m S) (hS : S.ok) (hT : tbl m S S.r) (hQ : ∀ m9, (∀ k, k < S.r → m9 19 0 k = cvV S k) → (∀ f i k, ¬ f = 19 → m9 f i k = m f i k) → Q (.inl none, G x m9)) : Cl X (d + 2) 114 [vp 12 0] (G x m) Q := by
  have h1 := hS.1
  have h2 := hS.2.1
  have hpn := p2 h1
  refine vc_X6_choose ?_
  have key : ∀ k, k ≤ S.r → ∀ m9, (∀ i, i < k → m9 19 0 i = cvV S i) → (∀ f i k, ¬ f = 19 → m9 f i k = m f i k) → Wp X (d + 2) 114 (4, ([some (vp 12 0), some (vi (nI (S.us k))), some (vi (nI k))], ([], G x m9))) Q := by
    refine lup (fun k hk ih m9 hA hK => ?_)
    have L9 : ldd m9 S := h.on (fun f i k hf => hK f i k (by omega))
    have T9 : tbl m9 S S.r := fun t9 ht9 s hs hp => by rw [hK 18 _ _ (by omega)]; exact hT t9 ht9 s hs hp
    obtain ⟨u1, u2⟩ := us_bits hS k
    refine vl_X6_choose_4 ?_
    rw [L9.1.1]
    refine pk_le S.r k (fun hc => hQ m9 (fun i hi => hA i (by omega)) hK) (fun hc => sp_first L9 hS hc T9 u1 u2 ⟨_, _, rfl, inb_n k 6 (by omega), fun m4 e4 => ⟨inb_n k 6 (by omega), ?_⟩⟩)
    rw [nI_clamp (n := k) (by omega)] at e4 ⊢
    have ev : m4 19 0 k = cvV S k := by rw [e4, mup_eq]; rfl
    rw [ev]
    have A4 : ∀ i, i < k + 1 → m4 19 0 i = cvV S i := fun i hi => by
      by_cases hik : i = k
      · rw [hik]; exact ev
      · rw [e4, mup_no (by omega)]; exact hA i (by omega)
    have K4 : ∀ f i k, ¬ f = 19 → m4 f i k = m f i k := fun f i j hf => by rw [e4, mup_no (by omega)]; exact hK f i j hf
    have ih := ih hc m4 A4 K4
    have eu : S.us (k + 1) = if S.cv k < S.n then S.us k ||| 2 ^ S.cv k else S.us k := rfl
    rw [eu] at ih
    refine cvV_c h1 k (fun c t6 e6 => ?_) (fun c => ⟨inb_n k 6 (by omega), fun t7 e7 t8 e8 => ?_⟩)
    · rw [if_neg c] at ih
      rw [e6, nI_1]
      exact ih
    · rw [if_pos c] at ih
      rw [show cvV S k = nI (S.cv k) from if_pos c, shl1 (by omega), fa_or] at e7
      rw [e7, e8, nI_1]
      exact ih
  exact key 0 (by omega) m (fun i hi => by omega) (fun f i k _ => rfl)
theorem sp_solve (h : relS m 0 a) (ho : okA B a) (hz : ∀ s, m 18 0 s = 0) (hQ : ∀ m9, ldd m9 (spA a) → (∀ k, k < (spA a).r → m9 19 0 k = cvV (spA a) k) → KL m m9 → Q (.inl none, G x m9)) : Cl X (d + 3) 108 [vp 12 0, vp 1 0] (G x m) Q := by
  have hS := spA_ok ho
  refine vc_X6_solve (sp_load h ho (fun m2 L2 K2 => ⟨_, rfl, ?_⟩))
  refine sp_weigh L2 hS (fun s => by rw [K2 18 0 s (by omega)]; exact hz s) (fun m4 T4 K4 => ⟨_, rfl, ?_⟩)
  have L4 : ldd m4 (spA a) := L2.on (fun f i k hf => K4 f i k (by omega))
  refine sp_choose L4 hS T4 (fun m6 C6 K6 => ⟨_, rfl, ?_⟩)
  exact hQ m6 (L4.on (fun f i k hf => K6 f i k (by omega))) C6 (fun f i k hf => by rw [K6 f i k (by omega), K4 f i k (by omega), K2 f i k (by omega)])
theorem sp_sumW (h : ldd m S) (hS : S.ok) (hC : ∀ k, k < S.r → m 19 0 k = cvV S k) (hQ : Q (.inl (some (vi (nI (S.sumW S.r)))), G x m)) : Cl X d 116 [vp 12 0] (G x m) Q := by
  have h1 := hS.1
  have h2 := hS.2.1
  refine vc_X6_rewardSum ?_
  have key : ∀ k, k ≤ S.r → Wp X d 116 (4, ([some (vp 12 0), some (vi (nI (S.sumW k))), some (vi (nI k))], ([], G x m))) Q := by
    refine lup (fun k hk ih => ?_)
    refine vl_X6_rewardSum_4 ?_
    rw [h.1.1, nI_clamp (n := k) (by omega)]
    refine pk_le S.r k (fun hc => ?_) (fun hc => ⟨inb_n k 6 (by omega), ?_⟩)
    · obtain rfl : k = S.r := by omega
      exact hQ
    · rw [hC k hc, h.2.2.1 k hc]
      have ih := ih hc
      have e : S.sumW (k + 1) = S.sumW k + (if S.cv k < S.n then S.w k else 0) := rfl
      rw [e] at ih
      refine cvV_c h1 k (fun c t3 e3 => ?_) (fun c => ⟨inb_n k 6 (by omega), fun t4 e4 t5 e5 => ?_⟩)
      · rw [if_neg c] at ih
        rw [e3, nI_1]; exact ih
      · rw [if_pos c] at ih
        rw [e4, e5, nI_1, nI_add]; exact ih
  exact key 0 (by omega)
theorem cv_F {S : SP} {k : Nat} (h : S.cv k < S.n) : S.F k (S.cv k) = true := by
  have hf := (ch_yes (S := S) (k := k) (s := S.us k) h).1
  unfold SP.free at hf
  rw [Bool.and_eq_true] at hf
  exact hf.1
theorem sp_sumD (h : ldd m S) (hS : S.ok) (hC : ∀ k, k < S.r → m 19 0 k = cvV S k) (hQ : Q (.inl (some (vi (nI (S.sumD S.r)))), G x m)) : Cl X d 117 [vp 12 0] (G x m) Q := by
  have h1 := hS.1
  have h2 := hS.2.1
  refine vc_X6_distanceSum ?_
  have key : ∀ k, k ≤ S.r → Wp X d 117 (4, ([some (vp 12 0), some (vi (nI (S.sumD k))), some (vi (nI k))], ([], G x m))) Q := by
    refine lup (fun k hk ih => ?_)
    refine vl_X6_distanceSum_4 ?_
    rw [h.1.1, nI_clamp (n := k) (by omega)]
    refine pk_le S.r k (fun hc => ?_) (fun hc => ⟨inb_n k 6 (by omega), ?_⟩)
    · obtain rfl : k = S.r := by omega
      exact hQ
    · rw [hC k hc]
      have ih := ih hc
      have e : S.sumD (k + 1) = S.sumD k + (if S.cv k < S.n then S.D k (S.cv k) else 0) := rfl
      rw [e] at ih
      refine cvV_c h1 k (fun c t3 e3 => ?_) (fun c => ?_)
      · rw [if_neg c] at ih
        rw [e3, nI_1]; exact ih
      · rw [if_pos c] at ih
        rw [show cvV S k = nI (S.cv k) from if_pos c, nI_clamp (n := S.cv k) (by omega), h.2.1 k _ hc c, cv_F c, if_pos rfl]
        refine ⟨inb_n k 6 (by omega), inb_n k 6 (by omega), inb_n (S.cv k) 10 (by omega), fun t4 e4 t5 e5 => ?_⟩
        rw [e4, e5, nI_1, nI_add]; exact ih
  exact key 0 (by omega)
theorem sp_try (h : ldd m S) (hS : S.ok) : ∀ (t : Nat) {Q : MRes → Prop} {s : Nat}, t ≤ S.r → s < 2 ^ S.n → Q (.inl (some (vi (nI (S.rt t s)))), G x m) → Cl X (d + t + 1) 120 [vp 12 0, vi (nI (S.r - t)), vi (nI s)] (G x m) Q := by
  have h1 := hS.1
  have h2 := hS.2.1
  have hpn := p2 h1
  intro t
  induction t with
  | zero =>
    intro Q s ht hs hQ
    refine vc_X6_tryFrom ?_
    rw [h.1.1, Nat.sub_zero]
    exact ⟨fun c => absurd c (nI_pos (by omega)), fun _ => ⟨fun c => absurd c (nI_nlt (Nat.le_refl _) (by omega)), fun _ => hQ⟩⟩
  | succ t ih =>
    intro Q s ht hs hQ
    generalize hk : S.r - (t + 1) = k at *
    have hkr : k < S.r := by omega
    have ek : nI k + 1 = nI (S.r - t) := by rw [nI_1, show k + 1 = S.r - t by omega]
    have epf : m 16 0 k = nI (S.pf (t + 1)) := by
      have := h.2.2.2 (t + 1) (by omega) ht
      rwa [hk] at this
    have bR := rt_b hS ht s
    have bT := rt_b hS (t := t) (by omega) s
    have hle := rt_pf (S := S) (t + 1) s
    have bpf : S.pf (t + 1) ≤ 594 := by
      have : ∀ j, j ≤ S.r → S.pf j ≤ 99 * j := by
        intro j
        induction j with
        | zero => intro _; exact Nat.zero_le _
        | succ j ihj =>
          intro hj
          have := ihj (by omega)
          have hw := hS.2.2.1 (S.r - (j + 1)) (by omega)
          show S.pf j + (if S.any (S.r - (j + 1)) S.n then S.w (S.r - (j + 1)) else 0) ≤ _
          split <;> omega
      have := this (t + 1) ht
      omega
    refine vc_X6_tryFrom ?_
    rw [h.1.1]
    refine ⟨fun c => absurd c (nI_pos (by omega)), fun _ => ⟨fun _ => ?_, fun c => absurd (nI_lt hkr (by omega)) c⟩⟩
    have key : ∀ p, p ≤ S.n → ∀ o5, Wp X (d + (t + 1) + 1) 120 (19, ([some (vp 12 0), some (vi (nI k)), some (vi (nI s)), some (vi (nI (S.mxF k (S.rt t) s p))), some (vi (nI p)), o5], ([], G x m))) Q := by
      refine lup (fun p hp ihp o5 => ?_)
      have hmx := mxF_le (S := S) (t := t) (s := s) p hp
      rw [hk] at hmx
      refine vl_X6_tryFrom_19 ?_
      rw [h.1.2, nI_clamp (n := k) (by omega), epf, ek]
      have full : S.pf (t + 1) ≤ S.mxF k (S.rt t) s p → Q (.inl (some (vi (nI (S.mxF k (S.rt t) s p)))), G x m) := fun c => by
        rw [show S.mxF k (S.rt t) s p = S.rt (t + 1) s by omega]
        exact hQ
      refine pk_le S.n p (fun hc => ⟨inb_n k 6 (by omega), pk_le (S.pf (t + 1)) (S.mxF k (S.rt t) s p) full (fun c => ih (by omega) hs ⟨_, _, rfl, fun t5 e5 => ?_⟩)⟩) (fun hc => ⟨inb_n k 6 (by omega), pk_le (S.pf (t + 1)) (S.mxF k (S.rt t) s p) (fun c => ⟨inb_n k 6 (by omega), fun _ => full c, fun c2 => absurd (nI_le c (by omega)) c2⟩) (fun c => sp_free h hS hkr hc (by omega) ⟨_, _, rfl, ?_⟩)⟩)
      · obtain rfl : p = S.n := by omega
        rw [mx_nI (by omega) (by omega)] at e5
        rw [e5]
        have e : S.rt (t + 1) s = max (S.mxF k (S.rt t) s S.n) (S.rt t s) := by
          show max (S.mxF (S.r - (t + 1)) (S.rt t) s S.n) (S.rt t s) = _
          rw [hk]
        rw [e] at hQ
        exact hQ
      · have ihp := fun o5 => ihp hc o5
        by_cases hf : S.free k s p = true
        · rw [if_pos hf]
          have hor : s ||| 2 ^ p < 2 ^ S.n := Nat.or_lt_two_pow hs (Nat.pow_lt_pow_right (by omega) hc)
          have bo := rt_b hS (t := t) (by omega) (s ||| 2 ^ p)
          have hw := hS.2.2.1 k hkr
          rw [shl1 (by omega), fa_or]
          refine ⟨fun c => absurd c (by decide), fun _ => ih (by omega) hor ⟨_, _, rfl, inb_n k 6 (by omega), fun t17 e17 t18 e18 => ?_⟩⟩
          rw [h.2.2.1 k hkr, nI_add, mx_nI (by omega) (by omega)] at e17
          rw [show S.mxF k (S.rt t) s (p + 1) = max (S.mxF k (S.rt t) s p) (S.w k + S.rt t (s ||| 2 ^ p)) from if_pos hf] at ihp
          rw [e17, e18, nI_1]
          exact ihp _
        · rw [if_neg hf]
          refine ⟨fun _ t14 e14 => ?_, fun c => absurd rfl c⟩
          rw [show S.mxF k (S.rt t) s (p + 1) = S.mxF k (S.rt t) s p from if_neg hf] at ihp
          rw [e14, nI_1]
          exact ihp _
    exact key 0 (by omega) none
end SETC
