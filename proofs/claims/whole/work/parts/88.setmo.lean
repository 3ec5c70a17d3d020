/-! ===== SETTLEMENTS OF THE MODEL ===== -/
theorem bit_c1 {s k : Nat} (hs : s < 2 ^ 31) (hk : k < 31) {A C : Prop} (f : s.testBit k = true → A) (g : s.testBit k = false → C) : ((nI s >>> (nI k &&& 31)) &&& 1 = 1 → A) ∧ (¬ (nI s >>> (nI k &&& 31)) &&& 1 = 1 → C) := by
  rw [bitI hs hk]
  cases h : s.testBit k with
  | false => exact ⟨fun c => absurd c (by decide), fun _ => g h⟩
  | true => exact ⟨fun _ => f h, fun c => absurd rfl c⟩
def tbM (m : MI) (S : SP) (t : Nat) : Prop := ∀ t9, t9 ≤ t → ∀ s, s < 2 ^ S.n → m 36 0 (1024 * (S.r - t9) + s) = nI (valW 200000 (S.pr t9 s))
def t36 (f _i _k : Nat) : Prop := f = 36
section SETM
variable {X : MX} {d : Nat} {x : Int64 × UInt64} {m : MI} {Q : MRes → Prop} {B : Nat} {a : AS}
theorem ix36 {k s : Nat} (hk : k ≤ 6) (hs : s < 1024) : (1024 * nI k + nI s).toNatClampNeg = 1024 * k + s ∧ inb (1024 * nI k + nI s) 7168 = true := by
  rw [show (1024 : Int32) = nI 1024 from rfl, pk_mul, nI_add]
  exact ⟨nI_clamp (by omega), inb_n (1024 * k + s) 7168 (by omega)⟩
theorem sp_gain {k p : Nat} (h : relR (m 32 0) a) (ho : okA B a) (hk : k < (aR a).length) (hp : p < (aC a).length) (hf : fitP a k p) (hQ : Q (.inl (some (vi (nI (200000 * (spA a).w k - (spA a).D k p)))), G x m)) : Cl X (d + 3) 225 [vp 31 0, vi (nI k), vi (nI p)] (G x m) Q := by
  have hl := ho.len
  have hr := ho.r hk
  unfold okRp at hr
  have hD : dRC a k p ≤ 9999 := Nat.le_trans hf hr.2.2.2.2.1
  refine vc_X11_gain (sp_r (k := k) (o := 5) (by omega) (by omega) ⟨_, _, rfl, sp_mdist h ho hk hp ⟨_, _, rfl, ?_⟩⟩)
  rw [h.2.2 k hk 5 (by omega), show (200000 : Int32) = nI 200000 from rfl, pk_mul, nI_sub (by show dRC a k p ≤ _; omega)]
  exact hQ
theorem sp_settling (h : relR (m 32 0) a) (ho : okA B a) (hQ : ∀ m9, tbM m9 (spA a) (spA a).r → Fk t36 m m9 → Q (.inl (some (vi (nI (valW 200000 ((spA a).pr (spA a).r 0))))), G x m9)) : Cl X (d + 4) 226 [vp 31 0] (G x m) Q := by
  have hl := ho.len
  have hS := spA_ok ho
  have hpn := p2 hl.1
  have R : ∀ m9, Fk t36 m m9 → relR (m9 32 0) a := fun m9 hK => by
    rw [show m9 32 0 = m 32 0 from funext fun k => hK 32 0 k (by unfold t36; omega)]; exact h
  have U : ∀ {m8 m9 : MI} {k : Nat} {v : Int32}, Fk t36 m m8 → m9 = mup m8 36 0 k v → Fk t36 m m9 := fun {m8 m9 k v} hK e => by rw [e]; exact Fk.ups hK rfl
  have er : (spA a).r = (aR a).length := rfl
  have en : (spA a).n = (aC a).length := rfl
  refine vc_X11_settling ?_
  have rows : ∀ k, k ≤ (aR a).length → ∀ m9 o2 o3 o4 o5, tbM m9 (spA a) ((aR a).length - k) → Fk t36 m m9 → Wp X (d + 4) 226 (42, ([some (vp 31 0), some (vi (nI k - 1)), o2, o3, o4, o5], ([], G x m9))) Q := by
    intro k
    induction k with
    | zero =>
      intro hk m9 o2 o3 o4 o5 hT hK
      refine vl_X11_settling_42 ⟨fun _ => ?_, fun c => absurd (show nI 0 - 1 < 0 by decide +kernel) c⟩
      have e := hT (aR a).length (by omega) 0 (by rw [en]; omega)
      rw [er, Nat.sub_self] at e
      rw [show (0 : Nat) = 1024 * 0 + 0 from rfl, e]
      exact hQ m9 hT hK
    | succ k ih =>
      intro hk m9 o2 o3 o4 o5 hT hK
      rw [nIm]
      refine vl_X11_settling_42 ⟨fun c => absurd c (nI_pos (by omega)), fun _ => ?_⟩
      have sets : ∀ s, s ≤ 2 ^ (aC a).length → ∀ m8 o3 o4 o5, tbM m8 (spA a) ((aR a).length - (k + 1)) → (∀ s9, s9 < s → m8 36 0 (1024 * k + s9) = nI (valW 200000 ((spA a).pr ((aR a).length - k) s9))) → Fk t36 m m8 → Wp X (d + 4) 226 (48, ([some (vp 31 0), some (vi (nI k)), some (vi (nI s)), o3, o4, o5], ([], G x m8))) Q := by
        refine lup (fun s hs ihs m8 o3 o4 o5 hT8 hR8 hK8 => ?_)
        have h8 := R m8 hK8
        refine vl_X11_settling_48 ?_
        rw [h8.1.1, shl1 (by omega), nI_1]
        refine pk_le (2 ^ (aC a).length) s (fun hc t2 e2 => ?_) (fun hc => ?_)
        · rw [e2, neg1]
          refine ih (by omega) m8 _ _ _ _ (fun t9 ht9 s9 hs9 => ?_) hK8
          by_cases ht : t9 = (aR a).length - k
          · rw [ht, show (spA a).r - ((aR a).length - k) = k by rw [er]; omega]
            rw [en] at hs9
            exact hR8 s9 (by omega)
          · exact hT8 t9 (by omega) s9 hs9
        · have i1 := ix36 (k := k + 1) (s := s) (by omega) (by omega)
          have i0 := ix36 (k := k) (s := s) (by omega) (by omega)
          have e3 := hT8 ((aR a).length - (k + 1)) (Nat.le_refl _) s hc
          rw [show (spA a).r - ((aR a).length - (k + 1)) = k + 1 by rw [er]; omega] at e3
          rw [i1.1, e3]
          refine ⟨i1.2, fun t3 e3 => ?_⟩
          rw [e3]
          have cols : ∀ p, p ≤ (aC a).length → ∀ o5, Wp X (d + 4) 226 (78, ([some (vp 31 0), some (vi (nI k)), some (vi (nI s)), some (vi (nI (valW 200000 ((spA a).prF k ((spA a).pr ((aR a).length - (k + 1))) s p)))), some (vi (nI p)), o5], ([], G x m8))) Q := by
            refine lup (fun p hp ihp o5 => ?_)
            refine vl_X11_settling_78 ?_
            rw [h8.1.1, i0.1, nI_1 k]
            refine pk_le (aC a).length p (fun hc2 => ⟨i0.2, fun m2 e2 t3 e3 => ?_⟩) (fun hc2 => bit_c1 (by omega) (by omega) (fun hb t5 e5 => ?_) (fun hb => ?_))
            · obtain rfl : p = (aC a).length := by omega
              rw [e3, nI_1]
              have ev : (spA a).pr ((aR a).length - k) s = (spA a).prF k ((spA a).pr ((aR a).length - (k + 1))) s (aC a).length := by
                rw [show (aR a).length - k = ((aR a).length - (k + 1)) + 1 by omega]
                show (spA a).prF ((aR a).length - (((aR a).length - (k + 1)) + 1)) _ s (aC a).length = _
                rw [show (aR a).length - (((aR a).length - (k + 1)) + 1) = k by omega]
              refine ihs hc m2 _ _ _ (fun t9 ht9 s9 hs9 => ?_) (fun s9 h9 => ?_) (U hK8 e2)
              · have hs9' : s9 < 2 ^ (aC a).length := hs9
                rw [er, e2, mup_no (by omega), ← er]
                exact hT8 t9 ht9 s9 hs9
              · by_cases hss : s9 = s
                · rw [hss, e2, mup_eq, ev]
                · rw [e2, mup_no (by omega)]; exact hR8 s9 (by omega)
            · have ihp := ihp hc2
              have hf : ¬ (spA a).free k s p = true := by unfold SP.free; rw [hb, Bool.not_true, Bool.and_false]; decide
              rw [show (spA a).prF k ((spA a).pr ((aR a).length - (k + 1))) s (p + 1) = (spA a).prF k ((spA a).pr ((aR a).length - (k + 1))) s p from if_neg hf] at ihp
              rw [e5, nI_1]
              exact ihp _
            · have ihp := ihp hc2
              refine sp_mfit h8 ho (by omega) hc2 ⟨_, _, rfl, ?_⟩
              by_cases hfit : fitP a k p
              · have hF : (spA a).F k p = true := decide_eq_true hfit
                have hf : (spA a).free k s p = true := by unfold SP.free; rw [hb, hF]; rfl
                rw [if_pos hfit]
                refine ⟨fun _ => sp_gain h8 ho (by omega) hc2 hfit ⟨_, _, rfl, ?_⟩, fun c => absurd (by decide) c⟩
                have hor : s ||| 2 ^ p < 2 ^ (aC a).length := Nat.or_lt_two_pow hc (Nat.pow_lt_pow_right (by omega) hc2)
                have i2 := ix36 (k := k + 1) (s := s ||| 2 ^ p) (by omega) (by omega)
                have e4 := hT8 ((aR a).length - (k + 1)) (Nat.le_refl _) (s ||| 2 ^ p) hor
                rw [show (spA a).r - ((aR a).length - (k + 1)) = k + 1 by rw [er]; omega] at e4
                rw [shl1 (by omega), fa_or, i2.1, e4]
                refine ⟨i2.2, fun t11 e11 => ?_⟩
                have hD := hS.2.2.2 k p (by rw [er]; omega) (by rw [en]; omega) hF
                have hw := hS.2.2.1 k (by rw [er]; omega)
                have o1 := prF_ok hS (k := k) (t := (aR a).length - (k + 1)) (T := (spA a).pr ((aR a).length - (k + 1))) (by rw [er]; omega) (pr_ok hS _ (by rw [er]; omega)) s p (by rw [en]; omega)
                have o2 := cand_ok hS (k := k) (t := (aR a).length - (k + 1)) (s := s) (p := p) (by rw [er]; omega) (by rw [en]; omega) (by rw [er]; omega) hf
                have b1 := val_b (W := 200000) (Or.inr rfl) (by omega) o1
                have b2 := val_b (W := 200000) (Or.inr rfl) (by omega) o2
                have va := val_add (W := 200000) (w := (spA a).w k) (D := (spA a).D k p) (Or.inr rfl) (pr_ok hS ((aR a).length - (k + 1)) (by rw [er]; omega) (s ||| 2 ^ p)) (by omega) hw.1 hD
                have vm := val_max (W := 200000) (Or.inr rfl) (by omega) o1 o2
                rw [nI_add, ← va] at e11
                rw [show (spA a).prF k ((spA a).pr ((aR a).length - (k + 1))) s (p + 1) = lexM ((spA a).prF k ((spA a).pr ((aR a).length - (k + 1))) s p) ((spA a).cand k ((aR a).length - (k + 1)) s p) from if_pos hf, vm] at ihp
                have e11' : t11 = nI (valW 200000 ((spA a).cand k ((aR a).length - (k + 1)) s p)) := e11
                rw [e11']
                refine pk_le (valW 200000 ((spA a).cand k ((aR a).length - (k + 1)) s p)) (valW 200000 ((spA a).prF k ((spA a).pr ((aR a).length - (k + 1))) s p)) (fun c t13 e13 => ?_) (fun c t14 e14 => ?_)
                · rw [Nat.max_eq_left c] at ihp
                  rw [e13, nI_1]; exact ihp _
                · rw [Nat.max_eq_right (Nat.le_of_lt c)] at ihp
                  rw [e14, nI_1]; exact ihp _
              · have hf : ¬ (spA a).free k s p = true := by
                  have hF : (spA a).F k p = false := decide_eq_false hfit
                  unfold SP.free
                  rw [hF, Bool.false_and]; decide
                rw [show (spA a).prF k ((spA a).pr ((aR a).length - (k + 1))) s (p + 1) = (spA a).prF k ((spA a).pr ((aR a).length - (k + 1))) s p from if_neg hf] at ihp
                rw [if_neg hfit]
                refine ⟨fun c => absurd rfl c, fun _ t15 e15 => ?_⟩
                rw [e15, nI_1]
                exact ihp _
          exact cols 0 (by omega) _
      exact sets 0 (by omega) m9 _ _ _ hT (fun s9 h9 => by omega) hK
  have zeros : ∀ s, s ≤ 1024 → ∀ m9, (∀ s9, s9 < s → m9 36 0 (1024 * (aR a).length + s9) = 0) → Fk t36 m m9 → Wp X (d + 4) 226 (2, ([some (vp 31 0), some (vi (nI s)), none, none, none, none], ([], G x m9))) Q := by
    refine lup (fun s hs ih m9 hA hK => ?_)
    have h9 := R m9 hK
    refine vl_X11_settling_2 ?_
    rw [h9.1.2.1]
    refine pk_le 1024 s (fun hc t2 e2 => ?_) (fun hc => ?_)
    · rw [e2]
      refine rows (aR a).length (Nat.le_refl _) m9 _ _ _ _ (fun t9 ht9 s9 hs9 => ?_) hK
      obtain rfl : t9 = 0 := by omega
      have hs9' : s9 < 2 ^ (aC a).length := hs9
      rw [Nat.sub_zero, er, hA s9 (by omega)]
      rfl
    · have i1 := ix36 (k := (aR a).length) (s := s) (by omega) (by omega)
      rw [i1.1]
      refine ⟨i1.2, fun m3 e3 t4 e4 => ?_⟩
      rw [e4, nI_1]
      refine ih hc m3 (fun s9 h9 => ?_) (U hK e3)
      by_cases hss : s9 = s
      · rw [hss, e3, mup_eq]
      · rw [e3, mup_no (by omega)]; exact hA s9 (by omega)
  exact zeros 0 (by omega) m (fun s9 h9 => by omega) Fk.rf
theorem sp_choice {k s : Nat} (h : relR (m 32 0) a) (ho : okA B a) (hT : tbM m (spA a) (spA a).r) (hk : k < (aR a).length) (hs : s < 2 ^ (aC a).length) (hQ : Q (.inl (some (vi (cvI (spA a) k s))), G x m)) : Cl X (d + 4) 227 [vp 31 0, vi (nI k), vi (nI s)] (G x m) Q := by
  have hl := ho.len
  have hS := spA_ok ho
  have hpn := p2 hl.1
  have er : (spA a).r = (aR a).length := rfl
  have en : (spA a).n = (aC a).length := rfl
  refine vc_X11_choice ?_
  unfold cvI at hQ
  have key : ∀ p, p ≤ (aC a).length → (∀ i, i < p → ¬ ((spA a).free k s i = true ∧ (spA a).cand k ((spA a).r - (k + 1)) s i = (spA a).pr ((spA a).r - k) s)) → Wp X (d + 4) 227 (2, ([some (vp 31 0), some (vi (nI k)), some (vi (nI s)), some (vi (nI p))], ([], G x m))) Q := by
    refine lup (fun p hp ih hno => ?_)
    have nx : p < (aC a).length → ¬ ((spA a).free k s p = true ∧ (spA a).cand k ((spA a).r - (k + 1)) s p = (spA a).pr ((spA a).r - k) s) → ∀ t5 : Int32, t5 = nI p + 1 → Wp X (d + 4) 227 (2, ([some (vp 31 0), some (vi (nI k)), some (vi (nI s)), some (vi t5)], ([], G x m))) Q := fun hc c t5 e5 => by
      rw [e5, nI_1]
      refine ih hc (fun i hi => ?_)
      rcases Nat.lt_succ_iff_lt_or_eq.mp hi with h9 | h9
      · exact hno i h9
      · rw [h9]; exact c
    refine vl_X11_choice_2 ?_
    rw [h.1.1]
    refine pk_le (aC a).length p (fun hc => ?_) (fun hc => bit_c1 (by omega) (by omega) (fun hb => nx hc (fun z => ?_)) (fun hb => ?_))
    · have e := ch_none (S := spA a) (k := k) (s := s) (fun i hi => hno i (by rw [en] at hi; omega))
      rw [e, if_neg (Nat.lt_irrefl _)] at hQ
      exact hQ
    · have := free_lt z.1
      rw [hb] at this; cases this
    · refine sp_mfit h ho hk hc ⟨_, _, rfl, ?_⟩
      by_cases hfit : fitP a k p
      · have hF : (spA a).F k p = true := decide_eq_true hfit
        have hf : (spA a).free k s p = true := by unfold SP.free; rw [hb, hF]; rfl
        rw [if_pos hfit]
        refine ⟨fun _ => sp_gain h ho hk hc hfit ⟨_, _, rfl, ?_⟩, fun c => absurd (by decide) c⟩
        have hor : s ||| 2 ^ p < 2 ^ (aC a).length := Nat.or_lt_two_pow hs (Nat.pow_lt_pow_right (by omega) hc)
        have i2 := ix36 (k := k + 1) (s := s ||| 2 ^ p) (by omega) (by omega)
        have i0 := ix36 (k := k) (s := s) (by omega) (by omega)
        have e4 := hT ((spA a).r - (k + 1)) (by omega) (s ||| 2 ^ p) hor
        have e5 := hT ((spA a).r - k) (by omega) s hs
        rw [show (spA a).r - ((spA a).r - (k + 1)) = k + 1 by rw [er]; omega] at e4
        rw [show (spA a).r - ((spA a).r - k) = k by rw [er]; omega] at e5
        rw [nI_1, shl1 (by omega), fa_or, i2.1, i0.1, e4, e5]
        refine ⟨i2.2, i0.2, ?_⟩
        have hD := hS.2.2.2 k p hk hc hF
        have hw := hS.2.2.1 k hk
        have o1 := pr_ok hS ((spA a).r - k) (by omega) s
        have o2 := cand_ok hS (k := k) (t := (spA a).r - (k + 1)) (s := s) (p := p) hk hc (by rw [er]; omega) hf
        rw [show (spA a).r - (k + 1) + 1 = (spA a).r - k by rw [er]; omega] at o2
        have h6 : (spA a).r - k ≤ 6 := by rw [er]; omega
        have b1 := val_b (W := 200000) (Or.inr rfl) h6 o1
        have b2 := val_b (W := 200000) (Or.inr rfl) h6 o2
        have ve := val_eq (W := 200000) (Or.inr rfl) h6 o2 o1
        have va := val_add (W := 200000) (w := (spA a).w k) (D := (spA a).D k p) (Or.inr rfl) (pr_ok hS ((spA a).r - (k + 1)) (by omega) (s ||| 2 ^ p)) (by rw [er]; omega) hw.1 hD
        rw [nI_add, ← va]
        have ec : (((spA a).w k + ((spA a).pr ((spA a).r - (k + 1)) (s ||| 2 ^ p)).1, (spA a).D k p + ((spA a).pr ((spA a).r - (k + 1)) (s ||| 2 ^ p)).2) : Pr) = (spA a).cand k ((spA a).r - (k + 1)) s p := rfl
        rw [ec]
        refine pk_eqn (fun c => ?_) (fun c => nx hc (fun z => c (ve.mpr z.2))) (by omega) (by omega)
        rw [ch_at (S := spA a) hc hf (ve.mp c) hno, if_pos (show p < (spA a).n from hc)] at hQ
        exact hQ
      · rw [if_neg hfit]
        refine ⟨fun c => absurd rfl c, fun _ => nx hc (fun z => ?_)⟩
        have hf := z.1
        unfold SP.free at hf
        rw [Bool.and_eq_true] at hf
        exact hfit (of_decide_eq_true hf.1)
  exact key 0 (by omega) (fun i hi => by omega)
theorem cvI_c {S : SP} (hn : S.n ≤ 10) {k s : Nat} {A C : Prop} (g : S.ch k s < S.n → A) (f : ¬ S.ch k s < S.n → C) : (0 ≤ cvI S k s → A) ∧ (¬ 0 ≤ cvI S k s → C) := by
  unfold cvI
  by_cases hc : S.ch k s < S.n
  · rw [if_pos hc]
    exact ⟨fun _ => g hc, fun c => absurd (nI_pos' (by omega)) c⟩
  · rw [if_neg hc]
    exact ⟨fun c => absurd c (by decide), fun _ => f hc⟩
theorem sp_settled {k : Nat} (h : relR (m 32 0) a) (ho : okA B a) (hT : tbM m (spA a) (spA a).r) (hk : k < (aR a).length) (hQ : Q (.inl (some (vi (cvV (spA a) k))), G x m)) : Cl X (d + 5) 228 [vp 31 0, vi (nI k)] (G x m) Q := by
  have hl := ho.len
  have hS := spA_ok ho
  have en : (spA a).n = (aC a).length := rfl
  refine vc_X11_settled ?_
  have key : ∀ j, j ≤ k → Wp X (d + 5) 228 (4, ([some (vp 31 0), some (vi (nI k)), some (vi (nI ((spA a).us j))), some (vi (nI j))], ([], G x m))) Q := by
    refine lup (fun j hj ih => ?_)
    have u1 := (us_bits hS j).1
    refine vl_X11_settled_4 (pk_le k j (fun hc => ?_) (fun hc => sp_choice h ho hT (by omega) u1 ⟨_, _, rfl, ?_⟩))
    · obtain rfl : j = k := by omega
      exact sp_choice h ho hT hk u1 ⟨_, _, rfl, hQ⟩
    · have ih := ih hc
      have eu : (spA a).us (j + 1) = if (spA a).cv j < (spA a).n then (spA a).us j ||| 2 ^ (spA a).cv j else (spA a).us j := rfl
      rw [eu] at ih
      refine cvI_c (S := spA a) hl.1 (fun c => sp_choice h ho hT (by omega) u1 ⟨_, _, rfl, fun t9 e9 t10 e10 => ?_⟩) (fun c t11 e11 t12 e12 => ?_)
      · have c2 : (spA a).cv j < (spA a).n := c
        rw [if_pos c2] at ih
        have h10 := hl.1
        rw [show cvI (spA a) j ((spA a).us j) = nI ((spA a).cv j) from if_pos c, shl1 (by rw [en] at c2; omega), fa_or] at e9
        rw [e9, e10, nI_1]
        exact ih
      · have c2 : ¬ (spA a).cv j < (spA a).n := c
        rw [if_neg c2] at ih
        rw [show (0 : Int32) = nI 0 from rfl, fa_or, Nat.or_zero] at e11
        rw [e11, e12, nI_1]
        exact ih
  exact key 0 (by omega)
theorem sp_rewards (h : relR (m 32 0) a) (ho : okA B a) (hQ : ∀ m9, Fk t36 m m9 → Q (.inl (some (vi (nI ((spA a).sumW (spA a).r)))), G x m9)) : Cl X (d + 5) 229 [vp 31 0] (G x m) Q := by
  have hl := ho.len
  have hS := spA_ok ho
  have hr := hS.2.1
  refine vc_X11_rewards (sp_settling h ho (fun m9 hT hF => ⟨_, _, rfl, ?_⟩))
  have o1 := pr_ok hS (spA a).r (Nat.le_refl _) 0
  have e := (sum_end (S := spA a)).1
  have e2 : ((nI (valW 200000 ((spA a).pr (spA a).r 0)) + 200000) - 1) / 200000 = nI ((spA a).sumW (spA a).r) := by
    have b := val_b (W := 200000) (Or.inr rfl) hr o1
    rw [show (200000 : Int32) = nI 200000 from rfl, nI_add, nI_p (by omega), pk_div (by omega) (by omega) (by omega)]
    have ed : (valW 200000 ((spA a).pr (spA a).r 0) + 200000 - 1) / 200000 = (spA a).sumW (spA a).r := by
      rw [e]
      unfold okp at o1
      unfold valW
      omega
    rw [ed]
  rw [e2]
  exact hQ m9 hF
end SETM
section SETM2
variable {X : MX} {d : Nat} {x : Int64 × UInt64} {m : MI} {Q : MRes → Prop} {B : Nat} {o : OS}
theorem f36 {m9 : MI} (h : MoR m o) (hF : Fk t36 m m9) : MoR m9 o ∧ FM m m9 :=
  ⟨h.on (fun f i k hk => hF f i k (by unfold kM at hk; unfold t36; omega)), hF.fm (fun f i k t => by unfold t36 at t; omega)⟩
def bestW (a : AS) : Nat := (spA a).sumW (spA a).r
def bestD (a : AS) : Nat := (spA a).sumD (spA a).r
theorem mw_bestReward (h : MoR m o) (ok : okO B o) (hQ : mn m o (nI (bestW (oA o))) Q x) : Cl X (d + 6) 230 [vp 31 0] (G x m) Q := by
  refine vc_X11_bestReward (sp_rewards h.1 ok.1 (fun m2 F2 => ⟨_, _, rfl, ?_⟩))
  obtain ⟨h2, G2⟩ := f36 h F2
  exact mplain h2 (fun m9 h9 _ F9 => ⟨_, _, rfl, hQ m9 h9 (G2.tr F9)⟩)
theorem mw_bestReward2 (h : MoR m o) (ok : okO B o) (hQ : mn m o (nI (bestW (oA o))) Q x) : Cl X (d + 6) 231 [vp 31 0] (G x m) Q := by
  refine vc_X11_bestRewardByTrying (sp_rewards h.1 ok.1 (fun m2 F2 => ⟨_, _, rfl, ?_⟩))
  obtain ⟨h2, G2⟩ := f36 h F2
  exact mplain h2 (fun m9 h9 _ F9 => ⟨_, _, rfl, hQ m9 h9 (G2.tr F9)⟩)
theorem mw_bestDiff (h : MoR m o) (ok : okO B o) (hQ : mn m o (nI (bestD (oA o))) Q x) : Cl X (d + 6) 232 [vp 31 0] (G x m) Q := by
  have hS := spA_ok ok.1
  have hr := hS.2.1
  refine vc_X11_bestDifference (sp_rewards h.1 ok.1 (fun m2 F2 => ⟨_, _, rfl, ?_⟩))
  obtain ⟨h2, G2⟩ := f36 h F2
  refine sp_settling h2.1 ok.1 (fun m4 T4 F4 => ⟨_, _, rfl, ?_⟩)
  obtain ⟨h4, G4⟩ := f36 h2 F4
  have o1 := pr_ok hS (spA (oA o)).r (Nat.le_refl _) 0
  have e := sum_end (S := spA (oA o))
  have e2 : (200000 : Int32) * nI ((spA (oA o)).sumW (spA (oA o)).r) - nI (valW 200000 ((spA (oA o)).pr (spA (oA o)).r 0)) = nI (bestD (oA o)) := by
    have ed : 200000 * (spA (oA o)).sumW (spA (oA o)).r - valW 200000 ((spA (oA o)).pr (spA (oA o)).r 0) = bestD (oA o) ∧ valW 200000 ((spA (oA o)).pr (spA (oA o)).r 0) ≤ 200000 * (spA (oA o)).sumW (spA (oA o)).r := by
      unfold bestD
      rw [e.1, e.2]
      unfold okp at o1
      unfold valW
      omega
    rw [show (200000 : Int32) = nI 200000 from rfl, pk_mul, nI_sub ed.2, ed.1]
  rw [e2]
  exact mplain h4 (fun m9 h9 _ F9 => ⟨_, _, rfl, hQ m9 h9 ((G2.tr G4).tr F9)⟩)
def whySf (a : AS) (p : Int32) : Nat := if posI (aR a) p < (aR a).length ∧ (spA a).cv (posI (aR a) p) < (aC a).length then 0 else 1
theorem mw_setFor {p : Int32} (h : MoR m o) (ok : okO B o) (hQ : mq m o (whySf (oA o) p) (nI (rowD (aC (oA o)) ((spA (oA o)).cv (posI (aR (oA o)) p)) 0)) Q x) : Cl X (d + 6) 233 [vp 31 0, vi p] (G x m) Q := by
  have hl := ok.1.len
  unfold mq whySf at hQ
  refine vc_X11_settlementFor (sp_mrep h.1 hl.2.1 ⟨_, _, rfl, posV_lt0 (by omega) (fun hp => ?_) (fun hp => ?_)⟩)
  · rw [if_neg (by omega)] at hQ
    exact mchk0 h (fun m3 h3 e5 F3 => ⟨_, _, rfl, fun c => absurd c (by decide), fun _ => hQ m3 _ e5 (fun c => by omega) h3 F3⟩)
  · refine mchk1 h (fun m3 h3 e5 F3 => ⟨_, _, rfl, fun _ => ?_, fun c => absurd (by decide) c⟩)
    refine sp_settling h3.1 ok.1 (fun m8 T8 F8 => ⟨_, _, rfl, ?_⟩)
    obtain ⟨h8, G8⟩ := f36 h3 F8
    have e85 : m8 31 0 5 = 0 := by rw [F8 31 0 5 (by unfold t36; omega)]; exact e5
    refine sp_mrep h8.1 hl.2.1 ⟨_, _, rfl, ?_⟩
    rw [posV_in hp]
    refine sp_settled h8.1 ok.1 T8 hp ⟨_, _, rfl, ?_⟩
    have en : (spA (oA o)).n = (aC (oA o)).length := rfl
    unfold cvV
    by_cases hc : (spA (oA o)).cv (posI (aR (oA o)) p) < (aC (oA o)).length
    · rw [if_pos ⟨hp, hc⟩] at hQ
      rw [if_pos (show (spA (oA o)).cv (posI (aR (oA o)) p) < (spA (oA o)).n from hc)]
      exact ⟨fun _ => sp_c (k := (spA (oA o)).cv (posI (aR (oA o)) p)) (o := 0) (by omega) (by omega) ⟨_, _, rfl, hQ m8 _ e85 (fun _ => h8.1.2.1 _ hc 0 (by omega)) h8 (F3.tr G8)⟩, fun c => absurd (nI_pos' (by omega)) c⟩
    · rw [if_neg (fun z => hc z.2)] at hQ
      rw [if_neg (show ¬ (spA (oA o)).cv (posI (aR (oA o)) p) < (spA (oA o)).n from hc)]
      refine ⟨fun c => absurd c (by decide), fun _ => sp_fail (fun m9 h95 hF => ⟨_, _, rfl, ?_⟩)⟩
      obtain ⟨h9, F9⟩ := th_on h8 hF
      exact hQ m9 _ h95 (fun c => by omega) h9 ((F3.tr G8).tr F9)
theorem cw_bestReward (h : CoR m o) (ok : okO B o) (hz : ∀ s, m 18 0 s = 0) (hQ : cn m (nI (bestW (oA o))) Q x) : Cl X (d + 4) 31 [vp 0 0] (G x m) Q :=
  vc_X10_bestReward (sp_solve h.1 ok.1 hz (fun m2 L2 C2 K2 => ⟨_, rfl, sp_sumW L2 (spA_ok ok.1) C2 ⟨_, _, rfl, hQ m2 K2.fq⟩⟩))
theorem cw_bestDiff (h : CoR m o) (ok : okO B o) (hz : ∀ s, m 18 0 s = 0) (hQ : cn m (nI (bestD (oA o))) Q x) : Cl X (d + 4) 33 [vp 0 0] (G x m) Q :=
  vc_X10_bestDifference (sp_solve h.1 ok.1 hz (fun m2 L2 C2 K2 => ⟨_, rfl, sp_sumD L2 (spA_ok ok.1) C2 ⟨_, _, rfl, hQ m2 K2.fq⟩⟩))
theorem sp_byTry {a : AS} (h : relS m 0 a) (ho : okA B a) (hQ : ∀ m9, KL m m9 → Q (.inl (some (vi (nI (bestW a)))), G x m9)) : Cl X (d + 8) 119 [vp 12 0, vp 1 0] (G x m) Q := by
  have hS := spA_ok ho
  have hl := ho.len
  refine vc_X6_rewardByTrying (sp_load h ho (fun m2 L2 K2 => ⟨_, rfl, ?_⟩))
  have e0 : (0 : Int32) = nI ((spA a).r - (spA a).r) := by rw [Nat.sub_self]; rfl
  have hr := hS.2.1
  have e1 := sp_try (X := X) (d := d) (x := x) L2 hS (spA a).r (Q := fun r => ∃ (v3 : Int32) (m4 : MI), r = (.inl (some (vi v3)), G x m4) ∧ Q (.inl (some (vi v3)), G x m4)) (s := 0) (Nat.le_refl _) (Nat.pow_pos (by omega)) ⟨_, _, rfl, by
    have e := (sum_end (S := spA a)).1
    rw [pr_1] at e
    rw [← e]
    exact hQ m2 (fun f i k hf => K2 f i k (by omega))⟩
  rw [← e0] at e1
  exact e1.mono (by omega) (fun r z => z)
theorem cw_bestReward2 (h : CoR m o) (ok : okO B o) (hQ : cn m (nI (bestW (oA o))) Q x) : Cl X (d + 9) 32 [vp 0 0] (G x m) Q :=
  vc_X10_bestRewardByTrying (sp_byTry h.1 ok.1 (fun m9 K9 => ⟨_, _, rfl, hQ m9 K9.fq⟩))
theorem cw_setFor {p : Int32} (h : CoR m o) (ok : okO B o) (hz : ∀ s, m 18 0 s = 0) (hQ : cq m (whySf (oA o) p) (nI (rowD (aC (oA o)) ((spA (oA o)).cv (posI (aR (oA o)) p)) 0)) Q x) : Cl X (d + 5) 306 [vp 0 0, vi p, vp 43 0] (G x m) Q := by
  have hl := ok.1.len
  unfold cq whySf at hQ
  refine vc_L_settlementFor (vc_X10_settlementFor (sp_open h.1 hl.2.1 (fun hp => Or.inl ⟨_, _, rfl, ?_⟩) (fun c => Or.inr ⟨_, _, _, rfl, Or.inr ⟨_, _, _, rfl, fun _ => hQ.2 1 (by omega) (if_neg (by omega)) m FQ.rf, fun c => absurd rfl c⟩⟩)))
  refine sp_solve h.1 ok.1 hz (fun m4 L4 C4 K4 => ⟨_, rfl, inb_n (posI (aR (oA o)) p) 6 (by omega), fun t5 e5 => ?_⟩)
  have h4 := K4.fq.cor h ok
  rw [nI_clamp (n := posI (aR (oA o)) p) (by omega), C4 _ hp] at e5
  rw [e5]
  unfold cvV
  by_cases hc : (spA (oA o)).cv (posI (aR (oA o)) p) < (aC (oA o)).length
  · rw [if_pos (show (spA (oA o)).cv (posI (aR (oA o)) p) < (spA (oA o)).n from hc), nI_clamp (n := (spA (oA o)).cv (posI (aR (oA o)) p)) (by omega), h4.1.1.2.2 _ hc 0 (by omega)]
    exact ⟨fun _ => ⟨inb_n ((spA (oA o)).cv (posI (aR (oA o)) p)) 10 (by omega), Or.inl ⟨_, _, rfl, hQ.1 (if_pos ⟨hp, hc⟩) m4 K4.fq⟩⟩, fun c => absurd (nI_pos' (by omega)) c⟩
  · rw [if_neg (show ¬ (spA (oA o)).cv (posI (aR (oA o)) p) < (spA (oA o)).n from hc)]
    exact ⟨fun c => absurd c (by decide), fun _ => Or.inr ⟨_, _, _, rfl, fun _ => hQ.2 1 (by omega) (if_neg (fun z => hc z.2)) m4 K4.fq, fun c => absurd rfl c⟩⟩
end SETM2
