/-! ===== TEXTS ===== -/
def dgr (n : Nat) : Nat → List Nat
  | 0 => []
  | r + 1 => (48 + n / 10 ^ r % 10) :: dgr n r
def topk (n : Nat) : Nat := fa_first (fun k => decide (n / 10 ^ k ≤ 9)) 10
def dgt (n : Nat) : List Nat := dgr n (topk n + 1)
theorem dgr_len (n : Nat) : ∀ r, (dgr n r).length = r
  | 0 => rfl
  | r + 1 => by
    show (dgr n r).length + 1 = r + 1
    rw [dgr_len n r]
theorem p10 {r : Nat} (h : r ≤ 9) : 1 ≤ 10 ^ r ∧ 10 ^ r ≤ 1000000000 := by
  have h1 : 10 ^ r ≤ 10 ^ 9 := Nat.pow_le_pow_right (by omega) h
  have h2 := Nat.pow_pos (n := r) (show 0 < 10 by omega)
  have h3 : 10 ^ 9 = 1000000000 := by decide
  omega
theorem topk_at {n k : Nat} (hk : k < 10) (h1 : n / 10 ^ k ≤ 9) (h2 : ∀ i, i < k → ¬ n / 10 ^ i ≤ 9) : topk n = k := by
  unfold topk
  have h0 := fa_first_no (fun k => decide (n / 10 ^ k ≤ 9)) 10
  have h3 := fa_first_yes (fun k => decide (n / 10 ^ k ≤ 9)) 10
  generalize fa_first (fun k => decide (n / 10 ^ k ≤ 9)) 10 = q at h0 h3 ⊢
  rcases Nat.lt_trichotomy q k with h | h | h
  · exact absurd (of_decide_eq_true (h3 (by omega))) (h2 q h)
  · exact h
  · exact absurd h1 (of_decide_eq_false (h0 k h))
theorem topk_spec {n j : Nat} (hj : j ≤ 9) (h : n < 10 ^ (j + 1)) : topk n ≤ j ∧ n / 10 ^ topk n ≤ 9 ∧ ∀ i, i < topk n → ¬ n / 10 ^ i ≤ 9 := by
  have hd : n / 10 ^ j ≤ 9 := by
    have : n / 10 ^ j < 10 := Nat.div_lt_of_lt_mul (by rw [Nat.pow_succ] at h; exact h)
    omega
  unfold topk
  have h0 := fa_first_no (fun k => decide (n / 10 ^ k ≤ 9)) 10
  have h3 := fa_first_yes (fun k => decide (n / 10 ^ k ≤ 9)) 10
  generalize fa_first (fun k => decide (n / 10 ^ k ≤ 9)) 10 = q at h0 h3 ⊢
  have hq : q ≤ j := by
    rcases Nat.lt_or_ge j q with h9 | h9
    · exact absurd hd (of_decide_eq_false (h0 j h9))
    · exact h9
  exact ⟨hq, of_decide_eq_true (h3 (by omega)), fun i hi => of_decide_eq_false (h0 i hi)⟩
theorem dgt_len {n j : Nat} (hj : j ≤ 9) (h : n < 10 ^ (j + 1)) : (dgt n).length ≤ j + 1 := by
  unfold dgt
  rw [dgr_len]
  have := (topk_spec hj h).1
  omega
theorem dgr_ch (n : Nat) : ∀ r, ∀ c ∈ dgr n r, c ≤ 126
  | 0, c, hc => by cases hc
  | r + 1, c, hc => by
    rcases List.mem_cons.mp hc with rfl | h
    · have := Nat.mod_lt (n / 10 ^ r) (show 0 < 10 by omega)
      omega
    · exact dgr_ch n r c h
theorem dgt_ch (n : Nat) : ∀ c ∈ dgt n, c ≤ 126 := dgr_ch n _
def un (r : Nat) : Nat := if r = 0 then 0 else 10 ^ (r - 1)
theorem un_div (r : Nat) : un (r + 1) / 10 = un r := by
  unfold un
  rw [if_neg (by omega), Nat.add_sub_cancel]
  cases r with
  | zero => decide
  | succ r => rw [if_neg (by omega), Nat.add_sub_cancel, Nat.pow_succ, Nat.mul_div_cancel _ (by omega)]
theorem app_cons (l : List Nat) (c : Nat) (q : List Nat) : l ++ c :: q = (l ++ [c]) ++ q := by
  rw [List.append_assoc]; rfl
section TEXT
variable {X : MX} {d : Nat} {x : Int64 × UInt64} {m : MI} {Q : MRes → Prop} {B : Nat} {o : OS} {a : AS} {l : List Nat}
def K28 (m m9 : MI) : Prop := ∀ f i k, ¬ f = 28 → ¬ f = 29 → m9 f i k = m f i k
def K39 (m m9 : MI) : Prop := ∀ f i k, ¬ (f = 31 ∧ k = 14) → ¬ f = 39 → m9 f i k = m f i k
theorem K28.tr {a b c : MI} (h : K28 a b) (k : K28 b c) : K28 a c := fun f i j h1 h2 => (k f i j h1 h2).trans (h f i j h1 h2)
theorem K39.tr {a b c : MI} (h : K39 a b) (k : K39 b c) : K39 a c := fun f i j h1 h2 => (k f i j h1 h2).trans (h f i j h1 h2)
theorem sp_put {c : Nat} (h : txt m 28 1 29 l) (hl : l.length < 64) (hc : c ≤ 126) (hQ : ∀ m9, txt m9 28 1 29 (l ++ [c]) → K28 m m9 → Q (.inl none, G x m9)) : Cl X d 143 [vp 28 0, vi (nI c)] (G x m) Q := by
  refine vc_X9_put ?_
  rw [h.1, nI_clamp (n := l.length) (by omega)]
  refine pk_le 64 l.length (fun c => by omega) (fun _ => ⟨and_t (chr_ok hc) (inb_n l.length 64 hl), fun m2 e2 m3 e3 => ?_⟩)
  have e1 : m2 28 0 1 = nI l.length := by rw [e2, mup_no (by omega)]; exact h.1
  rw [e1, nI_1] at e3
  refine hQ m3 (txt_app h (by rw [e3, mup_eq]) (by rw [e3, mup_no (by omega), e2, mup_eq]) (fun k hk => by rw [e3, mup_no (by omega), e2, mup_no (by omega)])) (fun f i k h1 h2 => by rw [e3, mup_no (by omega), e2, mup_no (by omega)])
theorem sp_write {c : Nat} (h : txt m 31 14 39 l) (hl : l.length < 80) (hQ : ∀ m9, txt m9 31 14 39 (l ++ [c]) → K39 m m9 → Q (.inl none, G x m9)) : Cl X d 250 [vp 31 0, vi (nI c)] (G x m) Q := by
  refine vc_X11_write ?_
  rw [h.1, nI_clamp (n := l.length) (by omega)]
  refine ⟨inb_n l.length 80 hl, fun m2 e2 m3 e3 => ?_⟩
  have e1 : m2 31 0 14 = nI l.length := by rw [e2, mup_no (by omega)]; exact h.1
  rw [e1, nI_1] at e3
  refine hQ m3 (txt_app h (by rw [e3, mup_eq]) (by rw [e3, mup_no (by omega), e2, mup_eq]) (fun k hk => by rw [e3, mup_no (by omega), e2, mup_no (by omega)])) (fun f i k h1 h2 => by rw [e3, mup_no (by omega), e2, mup_no (by omega)])
theorem dig_I {n r : Nat} (hn : n < 2 ^ 31) (hr : r ≤ 9) : nI n / nI (10 ^ r) - nI n / nI (10 ^ r) / 10 * 10 = nI (n / 10 ^ r % 10) := by
  have hp := p10 hr
  rw [pk_div hn (by omega) (by omega), show (10 : Int32) = nI 10 from rfl, pk_rem (Nat.lt_of_le_of_lt (Nat.div_le_self _ _) hn) (by omega) (by omega)]
theorem dig_c {n r : Nat} : ((48 + nI (n / 10 ^ r % 10)).toUInt32 % 65536).toInt32 = nI (48 + n / 10 ^ r % 10) := by
  have := Nat.mod_lt (n / 10 ^ r) (show 0 < 10 by omega)
  rw [show (48 : Int32) = nI 48 from rfl, nI_add, chr_c (by omega)]
theorem sp_putNum {n : Nat} (hn : n < 1000000000) (h : txt m 28 1 29 l) (hl : l.length + (dgt n).length ≤ 64) (hQ : ∀ m9, txt m9 28 1 29 (l ++ dgt n) → K28 m m9 → Q (.inl none, G x m9)) : Cl X (d + 1) 144 [vp 28 0, vi (nI n)] (G x m) Q := by
  refine vc_X9_putNumber ?_
  have e10 : (10 : Int32) = nI 10 := rfl
  have started : ∀ r, r ≤ 9 → ∀ l m8 o4, txt m8 28 1 29 l → l.length + r ≤ 64 → (∀ m9, txt m9 28 1 29 (l ++ dgr n r) → K28 m8 m9 → Q (.inl none, G x m9)) → Wp X (d + 1) 144 (5, ([some (vp 28 0), some (vi (nI n)), some (vi 1), some (vi (nI (un r))), o4], ([], G x m8))) Q := by
    intro r
    induction r with
    | zero =>
      intro hr l m8 o4 h8 hl8 hQ8
      refine vl_X9_putNumber_5 ⟨fun _ => ?_, fun c => absurd (by decide) c⟩
      have := hQ8 m8
      rw [show dgr n 0 = [] from rfl, List.append_nil] at this
      exact this h8 (fun _ _ _ _ _ => rfl)
    | succ r ih =>
      intro hr l m8 o4 h8 hl8 hQ8
      have hp := p10 (show r ≤ 9 by omega)
      have hm := Nat.mod_lt (n / 10 ^ r) (show 0 < 10 by omega)
      have eu : un (r + 1) = 10 ^ r := by unfold un; rw [if_neg (by omega), Nat.add_sub_cancel]
      have eu2 : nI (10 ^ r) / 10 = nI (un r) := by rw [e10, pk_div (by omega) (by omega) (by omega), ← eu, un_div]
      rw [eu]
      refine vl_X9_putNumber_5 ⟨fun c => absurd c (nI_nle (by omega) (by omega)), fun _ => ⟨decide_eq_true (nI_ne0 (by omega) (by omega)), fun t2 e2 => ⟨fun _ => ?_, fun c => absurd (by decide) c⟩⟩⟩
      rw [dig_I (by omega) (by omega)] at e2
      rw [e2, dig_c]
      refine sp_put h8 (by omega) (by omega) (fun m7 h7 F7 => ⟨_, rfl, fun t6 e6 => ?_⟩)
      rw [e6, eu2]
      refine ih (by omega) _ m7 _ h7 (by rw [len_app]; omega) (fun m9 h9 F9 => hQ8 m9 ?_ (F7.tr F9))
      rw [show dgr n (r + 1) = (48 + n / 10 ^ r % 10) :: dgr n r from rfl, app_cons]
      exact h9
  obtain ⟨k8, kd, kno⟩ := topk_spec (n := n) (j := 8) (by omega) (by rw [show 10 ^ (8 + 1) = 1000000000 by decide]; exact hn)
  unfold dgt at hl hQ
  rw [dgr_len] at hl
  generalize topk n = k at *
  have wait : ∀ r, r ≤ 9 → k ≤ r → ∀ o4, Wp X (d + 1) 144 (5, ([some (vp 28 0), some (vi (nI n)), some (vi 0), some (vi (nI (10 ^ r))), o4], ([], G x m))) Q := by
    intro r
    induction r with
    | zero =>
      intro hr hk o4
      obtain rfl : k = 0 := by omega
      have hm := Nat.mod_lt (n / 10 ^ 0) (show 0 < 10 by omega)
      refine vl_X9_putNumber_5 ⟨fun c => absurd c (by decide), fun _ => ⟨by decide, fun t2 e2 => ⟨fun c => absurd rfl c, fun _ => ?_⟩⟩⟩
      rw [dig_I (by omega) (by omega)] at e2
      rw [e2, dig_c]
      have eu2 : nI (10 ^ 0) / 10 = nI (un 0) := by decide +kernel
      have fin : Cl X d 143 [vp 28 0, vi (nI (48 + n / 10 ^ 0 % 10))] (G x m) (fun r => ∃ (m5 : MI), r = (.inl none, G x m5) ∧ (∀ t6 : Int32, t6 = nI (10 ^ 0) / 10 → Wp X (d + 1) 144 (5, ([some (vp 28 0), some (vi (nI n)), some (vi 1), some (vi t6), some (vi (nI (n / 10 ^ 0 % 10)))], ([], G x m5))) Q)) := by
        refine sp_put h (by omega) (by omega) (fun m7 h7 F7 => ⟨_, rfl, fun t6 e6 => ?_⟩)
        rw [e6, eu2]
        refine started 0 (by omega) _ m7 _ h7 (by rw [len_app]; omega) (fun m9 h9 F9 => hQ m9 ?_ (F7.tr F9))
        rw [show dgr n (0 + 1) = (48 + n / 10 ^ 0 % 10) :: dgr n 0 from rfl, app_cons]
        exact h9
      exact ⟨fun _ => fin, fun _ => ⟨fun c => absurd rfl c, fun _ => fin⟩⟩
    | succ r ih =>
      intro hr hk o4
      have hp := p10 hr
      have hm := Nat.mod_lt (n / 10 ^ (r + 1)) (show 0 < 10 by omega)
      have eu2 : nI (10 ^ (r + 1)) / 10 = nI (10 ^ r) := by rw [e10, pk_div (by omega) (by omega) (by omega), Nat.pow_succ, Nat.mul_div_cancel _ (by omega)]
      have eu3 : 10 ^ r = un (r + 1) := by unfold un; rw [if_neg (by omega), Nat.add_sub_cancel]
      refine vl_X9_putNumber_5 ⟨fun c => absurd c (nI_nle (by omega) (by omega)), fun _ => ⟨decide_eq_true (nI_ne0 (by omega) (by omega)), fun t2 e2 => ⟨fun c => absurd rfl c, fun _ => ?_⟩⟩⟩
      rw [dig_I (by omega) (by omega)] at e2
      rw [e2, dig_c]
      by_cases hkr : k = r + 1
      · have hgt : 0 < n / 10 ^ (r + 1) % 10 := by
          have h9 := kno r (by omega)
          have : n / 10 ^ (r + 1) = n / 10 ^ r / 10 := by rw [Nat.pow_succ, Nat.div_div_eq_div_mul]
          rw [hkr] at kd
          omega
        refine ⟨fun _ => ?_, fun c => absurd (nI_lt (a := 0) hgt (by omega)) c⟩
        refine sp_put h (by omega) (by omega) (fun m7 h7 F7 => ⟨_, rfl, fun t6 e6 => ?_⟩)
        rw [e6, eu2, eu3]
        refine started (r + 1) (by omega) _ m7 _ h7 (by rw [len_app]; omega) (fun m9 h9 F9 => hQ m9 ?_ (F7.tr F9))
        rw [hkr, show dgr n (r + 1 + 1) = (48 + n / 10 ^ (r + 1) % 10) :: dgr n (r + 1) from rfl, app_cons]
        exact h9
      · have hz : n / 10 ^ (r + 1) % 10 = 0 := by
          have h1 : n / 10 ^ (r + 1) ≤ n / 10 ^ (k + 1) := Nat.div_le_div_left (Nat.pow_le_pow_right (by omega) (by omega)) (Nat.pow_pos (by omega))
          have h2 : n / 10 ^ (k + 1) = n / 10 ^ k / 10 := by rw [Nat.pow_succ, Nat.div_div_eq_div_mul]
          have h4 : n / 10 ^ k / 10 = 0 := Nat.div_eq_of_lt (Nat.lt_succ_of_le kd)
          rw [h2, h4] at h1
          rw [Nat.le_zero.mp h1]
        rw [hz]
        refine ⟨fun c => absurd c (by decide), fun _ => ⟨fun _ t12 e12 => ?_, fun c => ?_⟩⟩
        · rw [e12, eu2]
          exact ih (by omega) (by omega) _
        · exfalso
          apply c
          intro e
          have := (nI_eq (a := 10 ^ (r + 1)) (b := 1) (by omega) (by omega)).mp e
          have := (p10 (show r ≤ 9 by omega)).1
          rw [Nat.pow_succ] at *
          omega
  exact wait 9 (by omega) (by omega) none
theorem sp_wrNum {n : Nat} (hn : n < 1000000000) (h : txt m 31 14 39 l) (hl : l.length + (dgt n).length ≤ 80) (hQ : ∀ m9, txt m9 31 14 39 (l ++ dgt n) → K39 m m9 → Q (.inl none, G x m9)) : Cl X (d + 1) 251 [vp 31 0, vi (nI n)] (G x m) Q := by
  refine vc_X11_writeNumber ?_
  have e10 : (10 : Int32) = nI 10 := rfl
  have down : ∀ r, r ≤ 9 → ∀ l m8, txt m8 31 14 39 l → l.length + r ≤ 80 → (∀ m9, txt m9 31 14 39 (l ++ dgr n r) → K39 m8 m9 → Q (.inl none, G x m9)) → Wp X (d + 1) 251 (18, ([some (vp 31 0), some (vi (nI n)), some (vi (nI (un r)))], ([], G x m8))) Q := by
    intro r
    induction r with
    | zero =>
      intro hr l m8 h8 hl8 hQ8
      refine vl_X11_writeNumber_18 ⟨fun _ => ?_, fun c => absurd (by decide) c⟩
      have := hQ8 m8
      rw [show dgr n 0 = [] from rfl, List.append_nil] at this
      exact this h8 (fun _ _ _ _ _ => rfl)
    | succ r ih =>
      intro hr l m8 h8 hl8 hQ8
      have hp := p10 (show r ≤ 9 by omega)
      have hm := Nat.mod_lt (n / 10 ^ r) (show 0 < 10 by omega)
      have eu : un (r + 1) = 10 ^ r := by unfold un; rw [if_neg (by omega), Nat.add_sub_cancel]
      have eu2 : nI (10 ^ r) / 10 = nI (un r) := by rw [e10, pk_div (by omega) (by omega) (by omega), ← eu, un_div]
      rw [eu]
      refine vl_X11_writeNumber_18 ⟨fun c => absurd c (nI_nle (by omega) (by omega)), fun _ => ⟨decide_eq_true (nI_ne0 (by omega) (by omega)), ?_⟩⟩
      rw [dig_I (by omega) (by omega), show (48 : Int32) = nI 48 from rfl, nI_add]
      refine sp_write h8 (by omega) (fun m7 h7 F7 => ⟨_, rfl, fun t6 e6 => ?_⟩)
      rw [e6, eu2]
      refine ih (by omega) _ m7 h7 (by rw [len_app]; omega) (fun m9 h9 F9 => hQ8 m9 ?_ (F7.tr F9))
      rw [show dgr n (r + 1) = (48 + n / 10 ^ r % 10) :: dgr n r from rfl, app_cons]
      exact h9
  obtain ⟨k8, kd, kno⟩ := topk_spec (n := n) (j := 8) (by omega) (by rw [show 10 ^ (8 + 1) = 1000000000 by decide]; exact hn)
  unfold dgt at hl hQ
  rw [dgr_len] at hl
  generalize topk n = k at *
  have up : ∀ j r, r + j = k → Wp X (d + 1) 251 (2, ([some (vp 31 0), some (vi (nI n)), some (vi (nI (10 ^ r)))], ([], G x m))) Q := by
    intro j
    induction j with
    | zero =>
      intro r hr
      obtain rfl : r = k := by omega
      have hp := p10 (show r ≤ 9 by omega)
      refine vl_X11_writeNumber_2 ⟨decide_eq_true (nI_ne0 (by omega) (by omega)), ?_⟩
      rw [pk_div (by omega) (by omega) (by omega)]
      refine pk_le (n / 10 ^ r) 9 (fun _ => ?_) (fun c => by omega) (ha := by omega)
      have e := down (r + 1) (by omega) l m h (by omega) hQ
      rwa [show un (r + 1) = 10 ^ r by unfold un; rw [if_neg (by omega), Nat.add_sub_cancel]] at e
    | succ j ih =>
      intro r hr
      have hp := p10 (show r ≤ 9 by omega)
      refine vl_X11_writeNumber_2 ⟨decide_eq_true (nI_ne0 (by omega) (by omega)), ?_⟩
      have hd : n / 10 ^ r ≤ n := Nat.div_le_self _ _
      rw [pk_div (by omega) (by omega) (by omega)]
      refine pk_le (n / 10 ^ r) 9 (fun c => absurd c (kno r (by omega))) (fun c t2 e2 => ?_)
      rw [e10, pk_mul, ← Nat.pow_succ] at e2
      rw [e2]
      exact ih (r + 1) (by omega)
  have e := up k 0 (by omega)
  exact e
end TEXT
