/-! ===== DESCRIPTIONS ===== -/
def tx0 (u : Row) (mark : Nat) : List Nat := (((((([] ++ dgt (u 0)) ++ [mark]) ++ dgt (u 1)) ++ [47]) ++ dgt (u 2)) ++ [47]) ++ dgt (u 3)
def rendC (u : Row) (age : Nat) : List Nat := (((tx0 u 35 ++ [102]) ++ dgt (u 4)) ++ [100]) ++ dgt age
def rendG (u : Row) (age : Nat) : List Nat := if grey u then rendC u age ++ [103] else rendC u age
def rendR (u : Row) : List Nat := (((tx0 u 63 ++ [126]) ++ dgt (u 4)) ++ [43]) ++ dgt (u 5)
abbrev osOut (o : OS) (t : List Nat) : OS := (o.1, (o.2.1, (o.2.2.1, ((oB o, t), o.2.2.2.2))))
theorem txt_nil {m : MI} {fl kl ft : Nat} (h : m fl 0 kl = 0) : txt m fl kl ft [] := ⟨h, fun k hk => absurd hk (Nat.not_lt_zero k)⟩
theorem dgt2 {n : Nat} (h : n ≤ 99) : (dgt n).length ≤ 2 := dgt_len (j := 1) (by omega) (by rw [show 10 ^ (1 + 1) = 100 by decide]; omega)
theorem dgt4 {n : Nat} (h : n ≤ 9999) : (dgt n).length ≤ 4 := dgt_len (j := 3) (by omega) (by rw [show 10 ^ (3 + 1) = 10000 by decide]; omega)
theorem dgt9 {n : Nat} (h : n < 1000000000) : (dgt n).length ≤ 9 := dgt_len (j := 8) (by omega) (by rw [show 10 ^ (8 + 1) = 1000000000 by decide]; omega)
theorem mem_app {l q : List Nat} {P : Nat → Prop} (h : ∀ c ∈ l, P c) (k : ∀ c ∈ q, P c) : ∀ c ∈ l ++ q, P c := fun c hc => by
  rcases List.mem_append.mp hc with h1 | h1
  · exact h c h1
  · exact k c h1
theorem mem_one {b : Nat} {P : Nat → Prop} (h : P b) : ∀ c ∈ [b], P c := fun c hc => by
  rw [List.mem_singleton.mp hc]; exact h
theorem tx0_ch {u : Row} {mark : Nat} (h : mark ≤ 126) : ∀ c ∈ tx0 u mark, c ≤ 126 :=
  mem_app (mem_app (mem_app (mem_app (mem_app (mem_app (mem_app (fun c hc => by cases hc) (dgt_ch _)) (mem_one h)) (dgt_ch _)) (mem_one (by omega))) (dgt_ch _)) (mem_one (by omega))) (dgt_ch _)
theorem tx0_len {u : Row} {mark : Nat} (h0 : u 0 < 1000000000) (h1 : u 1 ≤ 99) (h2 : u 2 ≤ 99) (h3 : u 3 ≤ 99) : (tx0 u mark).length ≤ 18 := by
  have a0 := dgt9 h0
  have a1 := dgt2 h1
  have a2 := dgt2 h2
  have a3 := dgt2 h3
  unfold tx0
  simp only [List.length_append, List.length_cons, List.length_nil]
  omega
theorem rendG_ok {u : Row} {age : Nat} (h0 : u 0 < 1000000000) (h1 : u 1 ≤ 99) (h2 : u 2 ≤ 99) (h3 : u 3 ≤ 99) (h4 : u 4 ≤ 9) (h5 : age < 1000000000) : (rendG u age).length ≤ 64 ∧ ∀ c ∈ rendG u age, c ≤ 126 := by
  have a := tx0_len (mark := 35) h0 h1 h2 h3
  have a4 := dgt2 (show u 4 ≤ 99 by omega)
  have a5 := dgt9 h5
  have hc : ∀ c ∈ rendC u age, c ≤ 126 := mem_app (mem_app (mem_app (mem_app (tx0_ch (by omega)) (mem_one (by omega))) (dgt_ch _)) (mem_one (by omega))) (dgt_ch _)
  have hl : (rendC u age).length ≤ 40 := by
    unfold rendC
    simp only [List.length_append, List.length_cons, List.length_nil]
    omega
  unfold rendG
  split
  · exact ⟨by rw [len_app]; omega, mem_app hc (mem_one (by omega))⟩
  · exact ⟨by omega, hc⟩
theorem rendR_ok {u : Row} (h0 : u 0 < 1000000000) (h1 : u 1 ≤ 99) (h2 : u 2 ≤ 99) (h3 : u 3 ≤ 99) (h4 : u 4 ≤ 9999) (h5 : u 5 ≤ 99) : (rendR u).length ≤ 64 ∧ ∀ c ∈ rendR u, c ≤ 126 := by
  have a := tx0_len (mark := 63) h0 h1 h2 h3
  have a4 := dgt4 h4
  have a5 := dgt2 h5
  refine ⟨?_, mem_app (mem_app (mem_app (mem_app (tx0_ch (by omega)) (mem_one (by omega))) (dgt_ch _)) (mem_one (by omega))) (dgt_ch _)⟩
  unfold rendR
  simp only [List.length_append, List.length_cons, List.length_nil]
  omega
section REND
variable {X : MX} {d : Nat} {x : Int64 × UInt64} {m : MI} {Q : MRes → Prop} {B : Nat} {o : OS} {a : AS} {l : List Nat}
theorem CoR.out {m9 : MI} {t : List Nat} (h : CoR m o) (ok : okO B o) (ht : txt m9 28 1 29 t) (K : K28 m m9) : CoR m9 (osOut o t) := by
  obtain ⟨p1, p2, p3, p4, p5, p6, p7, p8⟩ := h
  have hn := ok.1.len
  refine ⟨p1.on hn.1 hn.2.1 (fun f i k hi => K f i k (by unfold inSt at hi; omega) (by unfold inSt at hi; omega)), p2.on ok.hl (K 0 0 11 (by omega) (by omega)) (fun f i k hi => K f i k (by unfold tH at hi; omega) (by unfold tH at hi; omega)), ?_, ⟨?_, fun k hk => ?_⟩, ht, ?_, ?_, ?_⟩
  · rcases p3 with ⟨e, p3⟩ | ⟨b, e, p3, p9⟩
    · exact Or.inl ⟨e, by rw [K 0 0 10 (by omega) (by omega)]; exact p3⟩
    · have hb := (ok.2.2.1 b e).len
      exact Or.inr ⟨b, e, by rw [K 0 0 10 (by omega) (by omega)]; exact p3, p9.on hb.1 hb.2.1 (fun f i k hi => K f i k (by unfold inSt at hi; omega) (by unfold inSt at hi; omega))⟩
  · rw [K 23 0 1 (by omega) (by omega)]; exact p4.1
  · rw [K 24 0 k (by omega) (by omega)]; exact p4.2 k hk
  · rw [K 0 0 12 (by omega) (by omega)]; exact p6
  · rw [K 0 0 13 (by omega) (by omega)]; exact p7
  · rw [K 0 0 14 (by omega) (by omega)]; exact p8
theorem MoR.out {m9 : MI} {t : List Nat} (h : MoR m o) (ht : txt m9 31 14 39 t) (K : ∀ f i k, ¬ (f = 31 ∧ (k = 5 ∨ k = 14)) → ¬ f = 39 → m9 f i k = m f i k) : MoR m9 (osOut o t) := by
  obtain ⟨h1, h2, h3, h4, h5, h6, h7, h8⟩ := h
  have e32 : m9 32 0 = m 32 0 := funext fun k => K 32 0 k (by omega) (by omega)
  have e34 : m9 34 0 = m 34 0 := funext fun k => K 34 0 k (by omega) (by omega)
  refine ⟨by rw [e32]; exact h1, h2.on (K 31 0 6 (by omega) (by omega)) (fun k => K 35 0 k (by omega) (by omega)), ?_, ⟨?_, fun k hk => ?_⟩, ht, ?_, ?_, ?_⟩
  · unfold snM
    rw [K 31 0 10 (by omega) (by omega), e34]
    exact h3
  · rw [K 31 0 18 (by omega) (by omega)]; exact h4.1
  · rw [K 40 0 k (by omega) (by omega)]; exact h4.2 k hk
  · rw [K 31 0 7 (by omega) (by omega)]; exact h6
  · rw [K 31 0 8 (by omega) (by omega)]; exact h7
  · rw [K 31 0 9 (by omega) (by omega)]; exact h8
theorem sp_start5 {q mark : Nat} {u : Row} (hr : ∀ o, o < 4 → m 5 q o = nI (u o)) (h0 : u 0 < 1000000000) (h1 : u 1 ≤ 99) (h2 : u 2 ≤ 99) (h3 : u 3 ≤ 99) (hm : mark ≤ 126) (hQ : ∀ m9, txt m9 28 1 29 (tx0 u mark) → K28 m m9 → Q (.inl none, G x m9)) : Cl X (d + 2) 142 [vp 28 0, vp 5 q, vi (nI mark)] (G x m) Q := by
  have a0 := dgt9 h0
  have a1 := dgt2 h1
  have a2 := dgt2 h2
  have a3 := dgt2 h3
  refine vc_X9_start_5 (fun m1 e1 => ?_)
  have F1 : K28 m m1 := fun f i k c1 c2 => by rw [e1, mup_no (by omega)]
  have T1 : txt m1 28 1 29 [] := txt_nil (by rw [e1, mup_eq])
  have z : ([] : List Nat).length = 0 := rfl
  rw [F1 5 q 0 (by omega) (by omega), hr 0 (by omega)]
  refine sp_putNum h0 T1 (by omega) (fun m3 T3 F3 => ⟨_, rfl, ?_⟩)
  have F3 := F1.tr F3
  refine sp_put T3 (by simp only [List.length_append, List.length_nil]; omega) hm (fun m5 T5 F5 => ⟨_, rfl, ?_⟩)
  have F5 := F3.tr F5
  rw [F5 5 q 1 (by omega) (by omega), hr 1 (by omega)]
  refine sp_putNum (by omega) T5 (by simp only [List.length_append, List.length_cons, List.length_nil]; omega) (fun m7 T7 F7 => ⟨_, rfl, ?_⟩)
  have F7 := F5.tr F7
  refine sp_put (c := 47) T7 (by simp only [List.length_append, List.length_cons, List.length_nil]; omega) (by omega) (fun m9 T9 F9 => ⟨_, rfl, ?_⟩)
  have F9 := F7.tr F9
  rw [F9 5 q 2 (by omega) (by omega), hr 2 (by omega)]
  refine sp_putNum (by omega) T9 (by simp only [List.length_append, List.length_cons, List.length_nil]; omega) (fun m11 T11 F11 => ⟨_, rfl, ?_⟩)
  have F11 := F9.tr F11
  refine sp_put (c := 47) T11 (by simp only [List.length_append, List.length_cons, List.length_nil]; omega) (by omega) (fun m13 T13 F13 => ⟨_, rfl, ?_⟩)
  have F13 := F11.tr F13
  rw [F13 5 q 3 (by omega) (by omega), hr 3 (by omega)]
  refine sp_putNum (by omega) T13 (by simp only [List.length_append, List.length_cons, List.length_nil]; omega) (fun m15 T15 F15 => ⟨_, rfl, ?_⟩)
  exact hQ m15 T15 (F13.tr F15)
theorem sp_start7 {q mark : Nat} {u : Row} (hr : ∀ o, o < 4 → m 7 q o = nI (u o)) (h0 : u 0 < 1000000000) (h1 : u 1 ≤ 99) (h2 : u 2 ≤ 99) (h3 : u 3 ≤ 99) (hm : mark ≤ 126) (hQ : ∀ m9, txt m9 28 1 29 (tx0 u mark) → K28 m m9 → Q (.inl none, G x m9)) : Cl X (d + 2) 142 [vp 28 0, vp 7 q, vi (nI mark)] (G x m) Q := by
  have a0 := dgt9 h0
  have a1 := dgt2 h1
  have a2 := dgt2 h2
  have a3 := dgt2 h3
  refine vc_X9_start_7 (fun m1 e1 => ?_)
  have F1 : K28 m m1 := fun f i k c1 c2 => by rw [e1, mup_no (by omega)]
  have T1 : txt m1 28 1 29 [] := txt_nil (by rw [e1, mup_eq])
  have z : ([] : List Nat).length = 0 := rfl
  rw [F1 7 q 0 (by omega) (by omega), hr 0 (by omega)]
  refine sp_putNum h0 T1 (by omega) (fun m3 T3 F3 => ⟨_, rfl, ?_⟩)
  have F3 := F1.tr F3
  refine sp_put T3 (by simp only [List.length_append, List.length_nil]; omega) hm (fun m5 T5 F5 => ⟨_, rfl, ?_⟩)
  have F5 := F3.tr F5
  rw [F5 7 q 1 (by omega) (by omega), hr 1 (by omega)]
  refine sp_putNum (by omega) T5 (by simp only [List.length_append, List.length_cons, List.length_nil]; omega) (fun m7 T7 F7 => ⟨_, rfl, ?_⟩)
  have F7 := F5.tr F7
  refine sp_put (c := 47) T7 (by simp only [List.length_append, List.length_cons, List.length_nil]; omega) (by omega) (fun m9 T9 F9 => ⟨_, rfl, ?_⟩)
  have F9 := F7.tr F9
  rw [F9 7 q 2 (by omega) (by omega), hr 2 (by omega)]
  refine sp_putNum (by omega) T9 (by simp only [List.length_append, List.length_cons, List.length_nil]; omega) (fun m11 T11 F11 => ⟨_, rfl, ?_⟩)
  have F11 := F9.tr F11
  refine sp_put (c := 47) T11 (by simp only [List.length_append, List.length_cons, List.length_nil]; omega) (by omega) (fun m13 T13 F13 => ⟨_, rfl, ?_⟩)
  have F13 := F11.tr F13
  rw [F13 7 q 3 (by omega) (by omega), hr 3 (by omega)]
  refine sp_putNum (by omega) T13 (by simp only [List.length_append, List.length_cons, List.length_nil]; omega) (fun m15 T15 F15 => ⟨_, rfl, ?_⟩)
  exact hQ m15 T15 (F13.tr F15)
theorem cw_renderColour {p : Int32} (h : CoR m o) (ok : okO B o) (hB : B < 2 ^ 29) (hQ0 : whyC (oA o) p = 0 → ∀ m9, CoR m9 (osOut o (rendG (rowD (aC (oA o)) (posI (aC (oA o)) p)) (aDay (oA o) - rowD (aC (oA o)) (posI (aC (oA o)) p) 5))) → FC m m9 → Q (.inl (some (vi 0)), G ((nI (rendG (rowD (aC (oA o)) (posI (aC (oA o)) p)) (aDay (oA o) - rowD (aC (oA o)) (posI (aC (oA o)) p) 5)).length).toInt64, x.2) m9))
    (hQk : ∀ k, k ≠ 0 → whyC (oA o) p = k → Q (.inl (some (vi (nI k))), Gu (1, 6) x m)) : Cl X (d + 5) 312 [vp 0 0, vi p, vp 43 0] (G x m) Q := by
  have hl := ok.1.len
  unfold whyC at hQ0 hQk
  refine vc_L_renderColour (vc_X10_renderColour (sp_found h.1 hl.1 (fun c => Or.inl ⟨_, _, rfl, ?_⟩) (fun c => Or.inr ⟨_, _, _, rfl, Or.inr ⟨_, _, _, rfl, fun _ => hQk 1 (by omega) (if_neg (by omega)), fun c => absurd rfl c⟩⟩)))
  have hQ0 := hQ0 (if_pos c)
  have hr := ok.1.c c
  have hd : aDay (oA o) ≤ B := ok.1.1.2.2.2.2.1
  have hX : aXC (oA o) ≤ B := ok.1.1.2.2.1
  have hr1 := hr.1
  unfold okC at hr1
  have rows : ∀ c9, c9 < 6 → m 5 (10 * 0 + posI (aC (oA o)) p) c9 = nI (rowD (aC (oA o)) (posI (aC (oA o)) p) c9) := fun c9 h9 => h.1.1.2.2 _ c c9 h9
  generalize hk : posI (aC (oA o)) p = k at *
  have a0 := tx0_len (mark := 35) (u := rowD (aC (oA o)) k) (by omega) hr1.2.1 hr1.2.2.1 hr1.2.2.2.1
  have a4 := dgt2 (show rowD (aC (oA o)) k 4 ≤ 99 by omega)
  have a5 := dgt9 (show aDay (oA o) - rowD (aC (oA o)) k 5 < 1000000000 by omega)
  rw [nI_clamp (n := k) (by omega)]
  refine ⟨inb_n k 10 (by omega), sp_start5 (mark := 35) (fun o ho => rows o (by omega)) (by omega) hr1.2.1 hr1.2.2.1 hr1.2.2.2.1 (by omega) (fun m4 T4 F4 => ⟨_, rfl, ?_⟩)⟩
  refine sp_put (c := 102) T4 (by omega) (by omega) (fun m6 T6 F6 => ⟨_, rfl, ?_⟩)
  have F6 := F4.tr F6
  rw [F6 5 (10 * 0 + k) 4 (by omega) (by omega), rows 4 (by omega)]
  refine sp_putNum (by omega) T6 (by simp only [List.length_append, List.length_cons, List.length_nil]; omega) (fun m8 T8 F8 => ⟨_, rfl, ?_⟩)
  have F8 := F6.tr F8
  refine sp_put (c := 100) T8 (by simp only [List.length_append, List.length_cons, List.length_nil]; omega) (by omega) (fun m10 T10 F10 => ⟨_, rfl, ?_⟩)
  have F10 := F8.tr F10
  have h10 : relS m10 0 (oA o) := h.1.on hl.1 hl.2.1 (fun f i k hi => F10 f i k (by unfold inSt at hi; omega) (by unfold inSt at hi; omega))
  refine sp_age h10 ok.1 c ⟨_, _, rfl, sp_putNum (by omega) T10 (by simp only [List.length_append, List.length_cons, List.length_nil]; omega) (fun m14 T14 F14 => ⟨_, rfl, ?_⟩)⟩
  have F14 := F10.tr F14
  have h14 : relS m14 0 (oA o) := h.1.on hl.1 hl.2.1 (fun f i k hi => F14 f i k (by unfold inSt at hi; omega) (by unfold inSt at hi; omega))
  refine sp_isGrey h14 ok.1 c ⟨_, _, rfl, ?_⟩
  unfold rendG at hQ0
  by_cases hg : grey (rowD (aC (oA o)) k) = true
  · rw [if_pos hg]
    rw [if_pos hg] at hQ0
    refine ⟨fun c => absurd c (by decide), fun _ => sp_put (c := 103) T14 (by simp only [List.length_append, List.length_cons, List.length_nil]; omega) (by omega) (fun m19 T19 F19 => ⟨_, rfl, Or.inl ⟨_, _, rfl, ?_⟩⟩)⟩
    rw [T19.1]
    have F19 := F14.tr F19
    exact hQ0 m19 (h.out ok T19 F19) (fun f i k hf => F19 f i k (by omega) (by omega))
  · rw [if_neg hg]
    rw [if_neg hg] at hQ0
    refine ⟨fun _ => Or.inl ⟨_, _, rfl, ?_⟩, fun c => absurd rfl c⟩
    rw [T14.1]
    exact hQ0 m14 (h.out ok T14 F14) (fun f i k hf => F14 f i k (by omega) (by omega))
theorem cw_renderReport {p : Int32} (h : CoR m o) (ok : okO B o) (hB : B < 2 ^ 29) (hQ0 : whyR (oA o) p = 0 → ∀ m9, CoR m9 (osOut o (rendR (rowD (aR (oA o)) (posI (aR (oA o)) p)))) → FC m m9 → Q (.inl (some (vi 0)), G ((nI (rendR (rowD (aR (oA o)) (posI (aR (oA o)) p))).length).toInt64, x.2) m9))
    (hQk : ∀ k, k ≠ 0 → whyR (oA o) p = k → Q (.inl (some (vi (nI k))), Gu (1, 6) x m)) : Cl X (d + 5) 313 [vp 0 0, vi p, vp 43 0] (G x m) Q := by
  have hl := ok.1.len
  unfold whyR at hQ0 hQk
  refine vc_L_renderReport (vc_X10_renderReport (sp_open h.1 hl.2.1 (fun c => Or.inl ⟨_, _, rfl, ?_⟩) (fun c => Or.inr ⟨_, _, _, rfl, Or.inr ⟨_, _, _, rfl, fun _ => hQk 1 (by omega) (if_neg (by omega)), fun c => absurd rfl c⟩⟩)))
  have hQ0 := hQ0 (if_pos c)
  have hr1 := ok.1.r c
  have hX : aXR (oA o) ≤ B := ok.1.1.2.2.2.1
  unfold okRp at hr1
  have rows : ∀ c9, c9 < 6 → m 7 (6 * 0 + posI (aR (oA o)) p) c9 = nI (rowD (aR (oA o)) (posI (aR (oA o)) p) c9) := fun c9 h9 => h.1.2.1.2.2 _ c c9 h9
  generalize hk : posI (aR (oA o)) p = k at *
  have a0 := tx0_len (mark := 63) (u := rowD (aR (oA o)) k) (by omega) hr1.2.1 hr1.2.2.1 hr1.2.2.2.1
  have a4 := dgt4 hr1.2.2.2.2.1
  have a5 := dgt2 hr1.2.2.2.2.2.2
  rw [nI_clamp (n := k) (by omega)]
  refine ⟨inb_n k 6 (by omega), sp_start7 (mark := 63) (fun o ho => rows o (by omega)) (by omega) hr1.2.1 hr1.2.2.1 hr1.2.2.2.1 (by omega) (fun m4 T4 F4 => ⟨_, rfl, ?_⟩)⟩
  refine sp_put (c := 126) T4 (by omega) (by omega) (fun m6 T6 F6 => ⟨_, rfl, ?_⟩)
  have F6 := F4.tr F6
  rw [F6 7 (6 * 0 + k) 4 (by omega) (by omega), rows 4 (by omega)]
  refine sp_putNum (by omega) T6 (by simp only [List.length_append, List.length_cons, List.length_nil]; omega) (fun m8 T8 F8 => ⟨_, rfl, ?_⟩)
  have F8 := F6.tr F8
  refine sp_put (c := 43) T8 (by simp only [List.length_append, List.length_cons, List.length_nil]; omega) (by omega) (fun m10 T10 F10 => ⟨_, rfl, ?_⟩)
  have F10 := F8.tr F10
  rw [F10 7 (6 * 0 + k) 5 (by omega) (by omega), rows 5 (by omega)]
  refine sp_putNum (by omega) T10 (by simp only [List.length_append, List.length_cons, List.length_nil]; omega) (fun m14 T14 F14 => ⟨_, rfl, Or.inl ⟨_, _, rfl, ?_⟩⟩)
  have F14 := F10.tr F14
  rw [T14.1]
  exact hQ0 m14 (h.out ok T14 F14) (fun f i k hf => F14 f i k (by omega) (by omega))
theorem sp_wrParts {r : Nat} {u : Row} (hr : r + 3 < 136) (hu : parts (m 32 0) r u) (h : txt m 31 14 39 l) (hl : l.length + 8 ≤ 80) (hQ : ∀ m9, txt m9 31 14 39 ((((l ++ dgt (u 1)) ++ [47]) ++ dgt (u 2)) ++ [47] ++ dgt (u 3)) → K39 m m9 → Q (.inl none, G x m9)) : Cl X (d + 2) 252 [vp 31 0, vi (nI r)] (G x m) Q := by
  obtain ⟨u1, b1⟩ := hu 1 (by omega) (by omega)
  obtain ⟨u2, b2⟩ := hu 2 (by omega) (by omega)
  obtain ⟨u3, b3⟩ := hu 3 (by omega) (by omega)
  have a1 := dgt2 b1
  have a2 := dgt2 b2
  have a3 := dgt2 b3
  have ix : ∀ o, o ≤ 3 → (nI r + nI o).toNatClampNeg = r + o ∧ inb (nI r + nI o) 136 = true := fun o ho => by
    rw [nI_add]
    exact ⟨nI_clamp (by omega), inb_n (r + o) 136 (by omega)⟩
  refine vc_X11_writeParts (vl_X11_writeParts_2 ⟨fun c => absurd c (by decide), fun _ => ⟨fun _ => ⟨(ix 1 (by omega)).2, ?_⟩, fun c => absurd (by decide) c⟩⟩)
  rw [show (nI r + 1).toNatClampNeg = r + 1 from (ix 1 (by omega)).1, u1]
  refine sp_wrNum (by omega) h (by omega) (fun m4 T4 F4 => ⟨_, rfl, fun t5 e5 => ?_⟩)
  obtain rfl : t5 = nI 2 := e5
  refine vl_X11_writeParts_2 ⟨fun c => absurd c (by decide), fun _ => ⟨fun c => absurd c (by decide), fun _ => sp_write (c := 47) T4 (by simp only [List.length_append]; omega) (fun m7 T7 F7 => ⟨_, rfl, (ix 2 (by omega)).2, ?_⟩)⟩⟩
  have F7 := F4.tr F7
  rw [(ix 2 (by omega)).1, F7 32 0 (r + 2) (by omega) (by omega), u2]
  refine sp_wrNum (by omega) T7 (by simp only [List.length_append, List.length_cons, List.length_nil]; omega) (fun m9 T9 F9 => ⟨_, rfl, fun t10 e10 => ?_⟩)
  have F9 := F7.tr F9
  obtain rfl : t10 = nI 3 := e10
  refine vl_X11_writeParts_2 ⟨fun c => absurd c (by decide), fun _ => ⟨fun c => absurd c (by decide), fun _ => sp_write (c := 47) T9 (by simp only [List.length_append, List.length_cons, List.length_nil]; omega) (fun m11 T11 F11 => ⟨_, rfl, (ix 3 (by omega)).2, ?_⟩)⟩⟩
  have F11 := F9.tr F11
  rw [(ix 3 (by omega)).1, F11 32 0 (r + 3) (by omega) (by omega), u3]
  refine sp_wrNum (by omega) T11 (by simp only [List.length_append, List.length_cons, List.length_nil]; omega) (fun m13 T13 F13 => ⟨_, rfl, fun t14 e14 => ?_⟩)
  obtain rfl : t14 = nI 4 := e14
  exact vl_X11_writeParts_2 ⟨fun _ => hQ m13 T13 (F11.tr F13), fun c => absurd (by decide) c⟩
theorem mw_renderColour {p : Int32} (h : MoR m o) (ok : okO B o) (hB : B < 2 ^ 29) (hQ : mres m o (osOut o (rendG (rowD (aC (oA o)) (posI (aC (oA o)) p)) (aDay (oA o) - rowD (aC (oA o)) (posI (aC (oA o)) p) 5))) (whyC (oA o) p) (nI (rendG (rowD (aC (oA o)) (posI (aC (oA o)) p)) (aDay (oA o) - rowD (aC (oA o)) (posI (aC (oA o)) p) 5)).length) Q x) : Cl X (d + 4) 253 [vp 31 0, vi p] (G x m) Q := by
  have hl := ok.1.len
  refine vc_X11_renderColour (sp_mcol h.1 hl.1 ⟨_, _, rfl, ?_⟩)
  unfold mres whyC at hQ
  refine posV_lt0 (by omega) (fun hp => ?_) (fun hp => ?_)
  · rw [if_neg (by omega)] at hQ
    exact mchk0 h (fun m3 h3 e5 F3 => ⟨_, _, rfl, fun c => absurd c (by decide), fun _ => hQ m3 _ e5 (fun c => by omega) (fun _ => h3) F3⟩)
  · rw [if_pos hp] at hQ
    refine vc_X11_checked ⟨fun c => absurd c (by decide), fun _ m3 e3 => ?_⟩
    have e5 : m3 31 0 5 = 0 := by rw [e3, mup_eq]
    obtain ⟨h3, F3⟩ := th_on h (m9 := m3) (by rw [e3]; exact Fk.up ⟨rfl, rfl⟩)
    have N3 : ∀ f i k, ¬ (f = 31 ∧ (k = 5 ∨ k = 14)) → ¬ f = 39 → m3 f i k = m f i k := fun f i k c1 c2 => by rw [e3, mup_no (by omega)]
    rw [e5]
    refine ⟨_, _, rfl, fun _ => ?_, fun c => absurd (by decide) c⟩
    refine sp_mcol h3.1 hl.1 ⟨_, _, rfl, fun m9 e9 => ?_⟩
    have eid := posI_id hp
    rw [posV_in hp]
    have hr := ok.1.c hp
    have hd : aDay (oA o) ≤ B := ok.1.1.2.2.2.2.1
    have hX : aXC (oA o) ≤ B := ok.1.1.2.2.1
    have hr1 := hr.1
    unfold okC at hr1
    generalize hk : posI (aC (oA o)) p = k at *
    rw [← eid]
    have a0 := tx0_len (mark := 35) (u := rowD (aC (oA o)) k) (by omega) hr1.2.1 hr1.2.2.1 hr1.2.2.2.1
    have b0 := dgt9 (show rowD (aC (oA o)) k 0 < 1000000000 by omega)
    have a4 := dgt2 (show rowD (aC (oA o)) k 4 ≤ 99 by omega)
    have a5 := dgt9 (show aDay (oA o) - rowD (aC (oA o)) k 5 < 1000000000 by omega)
    have F9 : K39 m3 m9 := fun f i k c1 c2 => by rw [e9, mup_no (by omega)]
    have T9 : txt m9 31 14 39 [] := txt_nil (by rw [e9, mup_eq])
    have z : ([] : List Nat).length = 0 := rfl
    have R : ∀ m8, K39 m3 m8 → relR (m8 32 0) (oA o) := fun m8 F8 => by
      rw [show m8 32 0 = m3 32 0 from funext fun k => F8 32 0 k (by omega) (by omega)]; exact h3.1
    refine sp_wrNum (by omega) T9 (by omega) (fun m11 T11 F11 => ⟨_, rfl, ?_⟩)
    have F11 := F9.tr F11
    refine sp_write (c := 35) T11 (by simp only [List.length_append, List.length_nil]; omega) (fun m13 T13 F13 => ⟨_, rfl, sp_crow ⟨_, _, rfl, ?_⟩⟩)
    have F13 := F11.tr F13
    refine sp_wrParts (by omega) (ok.1.ptC (R m13 F13) hp) T13 (by simp only [List.length_append, List.length_cons, List.length_nil]; omega) (fun m17 T17 F17 => ⟨_, rfl, ?_⟩)
    have F17 := F13.tr F17
    have T17 : txt m17 31 14 39 (tx0 (rowD (aC (oA o)) k) 35) := T17
    refine sp_write (c := 102) T17 (by omega) (fun m19 T19 F19 => ⟨_, rfl, sp_c (k := k) (o := 4) (by omega) (by omega) ⟨_, _, rfl, ?_⟩⟩)
    have F19 := F17.tr F19
    rw [(R m19 F19).2.1 k hp 4 (by omega)]
    refine sp_wrNum (by omega) T19 (by simp only [List.length_append, List.length_cons, List.length_nil]; omega) (fun m23 T23 F23 => ⟨_, rfl, ?_⟩)
    have F23 := F19.tr F23
    refine sp_write (c := 100) T23 (by simp only [List.length_append, List.length_cons, List.length_nil]; omega) (fun m25 T25 F25 => ⟨_, rfl, ?_⟩)
    have F25 := F23.tr F25
    refine vc_X11_ageAt (sp_c (k := k) (o := 5) (by omega) (by omega) ⟨_, _, rfl, ?_⟩)
    rw [(R m25 F25).2.1 k hp 5 (by omega), (R m25 F25).1.2.2.2.2.1, nI_sub hr.2]
    refine ⟨_, _, rfl, sp_wrNum (by omega) T25 (by simp only [List.length_append, List.length_cons, List.length_nil]; omega) (fun m29 T29 F29 => ⟨_, rfl, ?_⟩)⟩
    have F29 := F25.tr F29
    refine sp_fades (R m29 F29) ok.1 hp ⟨_, _, rfl, ?_⟩
    have hb : flv (rowD (aC (oA o)) k) ≤ 99 := by
      have h1 := adf_le hr1.2.1 (show 50 ≤ 99 by omega)
      have h2 := adf_le hr1.2.2.1 (show 50 ≤ 99 by omega)
      have h3 := adf_le hr1.2.2.2.1 (show 50 ≤ 99 by omega)
      unfold flv
      omega
    unfold rendG at hQ
    refine pk_eqn (b := 0) (fun c => ?_) (fun c => ?_) (by omega) (by omega)
    · rw [if_pos ((flv_0 _).mp c)] at hQ
      refine sp_write (c := 103) T29 (by simp only [List.length_append, List.length_cons, List.length_nil]; omega) (fun m34 T34 F34 => ⟨_, rfl, ?_⟩)
      have F34 := F29.tr F34
      have N34 : ∀ f i k, ¬ (f = 31 ∧ (k = 5 ∨ k = 14)) → ¬ f = 39 → m34 f i k = m f i k := fun f i k c1 c2 => (F34 f i k (by omega) c2).trans (N3 f i k c1 c2)
      rw [T34.1]
      exact hQ m34 _ (by rw [F34 31 0 5 (by omega) (by omega)]; exact e5) (fun _ => ⟨rfl, h.out T34 N34⟩) (fun c => absurd rfl c) (fun f i k hf => N34 f i k (by omega) (by omega))
    · rw [if_neg (fun z => c ((flv_0 _).mpr z))] at hQ
      have N29 : ∀ f i k, ¬ (f = 31 ∧ (k = 5 ∨ k = 14)) → ¬ f = 39 → m29 f i k = m f i k := fun f i k c1 c2 => (F29 f i k (by omega) c2).trans (N3 f i k c1 c2)
      rw [T29.1]
      exact hQ m29 _ (by rw [F29 31 0 5 (by omega) (by omega)]; exact e5) (fun _ => ⟨rfl, h.out T29 N29⟩) (fun c => absurd rfl c) (fun f i k hf => N29 f i k (by omega) (by omega))
theorem mw_renderReport {p : Int32} (h : MoR m o) (ok : okO B o) (hB : B < 2 ^ 29) (hQ : mres m o (osOut o (rendR (rowD (aR (oA o)) (posI (aR (oA o)) p)))) (whyR (oA o) p) (nI (rendR (rowD (aR (oA o)) (posI (aR (oA o)) p))).length) Q x) : Cl X (d + 4) 254 [vp 31 0, vi p] (G x m) Q := by
  have hl := ok.1.len
  refine vc_X11_renderReport (sp_mrep h.1 hl.2.1 ⟨_, _, rfl, ?_⟩)
  unfold mres whyR at hQ
  refine posV_lt0 (by omega) (fun hp => ?_) (fun hp => ?_)
  · rw [if_neg (by omega)] at hQ
    exact mchk0 h (fun m3 h3 e5 F3 => ⟨_, _, rfl, fun c => absurd c (by decide), fun _ => hQ m3 _ e5 (fun c => by omega) (fun _ => h3) F3⟩)
  · rw [if_pos hp] at hQ
    refine vc_X11_checked ⟨fun c => absurd c (by decide), fun _ m3 e3 => ?_⟩
    have e5 : m3 31 0 5 = 0 := by rw [e3, mup_eq]
    obtain ⟨h3, F3⟩ := th_on h (m9 := m3) (by rw [e3]; exact Fk.up ⟨rfl, rfl⟩)
    have N3 : ∀ f i k, ¬ (f = 31 ∧ (k = 5 ∨ k = 14)) → ¬ f = 39 → m3 f i k = m f i k := fun f i k c1 c2 => by rw [e3, mup_no (by omega)]
    rw [e5]
    refine ⟨_, _, rfl, fun _ => ?_, fun c => absurd (by decide) c⟩
    refine sp_mrep h3.1 hl.2.1 ⟨_, _, rfl, fun m9 e9 => ?_⟩
    have eid := posI_id hp
    rw [posV_in hp]
    have hX : aXR (oA o) ≤ B := ok.1.1.2.2.2.1
    have hr1 := ok.1.r hp
    unfold okRp at hr1
    generalize hk : posI (aR (oA o)) p = k at *
    rw [← eid]
    have a0 := tx0_len (mark := 63) (u := rowD (aR (oA o)) k) (by omega) hr1.2.1 hr1.2.2.1 hr1.2.2.2.1
    have b0 := dgt9 (show rowD (aR (oA o)) k 0 < 1000000000 by omega)
    have a4 := dgt4 hr1.2.2.2.2.1
    have a5 := dgt2 hr1.2.2.2.2.2.2
    have F9 : K39 m3 m9 := fun f i k c1 c2 => by rw [e9, mup_no (by omega)]
    have T9 : txt m9 31 14 39 [] := txt_nil (by rw [e9, mup_eq])
    have z : ([] : List Nat).length = 0 := rfl
    have R : ∀ m8, K39 m3 m8 → relR (m8 32 0) (oA o) := fun m8 F8 => by
      rw [show m8 32 0 = m3 32 0 from funext fun k => F8 32 0 k (by omega) (by omega)]; exact h3.1
    refine sp_wrNum (by omega) T9 (by omega) (fun m11 T11 F11 => ⟨_, rfl, ?_⟩)
    have F11 := F9.tr F11
    refine sp_write (c := 63) T11 (by simp only [List.length_append, List.length_nil]; omega) (fun m13 T13 F13 => ⟨_, rfl, sp_rrow ⟨_, _, rfl, ?_⟩⟩)
    have F13 := F11.tr F13
    refine sp_wrParts (by omega) (ok.1.ptR (R m13 F13) hp) T13 (by simp only [List.length_append, List.length_cons, List.length_nil]; omega) (fun m17 T17 F17 => ⟨_, rfl, ?_⟩)
    have F17 := F13.tr F17
    have T17 : txt m17 31 14 39 (tx0 (rowD (aR (oA o)) k) 63) := T17
    refine sp_write (c := 126) T17 (by omega) (fun m19 T19 F19 => ⟨_, rfl, sp_r (k := k) (o := 4) (by omega) (by omega) ⟨_, _, rfl, ?_⟩⟩)
    have F19 := F17.tr F19
    rw [(R m19 F19).2.2 k hp 4 (by omega)]
    refine sp_wrNum (by omega) T19 (by simp only [List.length_append, List.length_cons, List.length_nil]; omega) (fun m23 T23 F23 => ⟨_, rfl, ?_⟩)
    have F23 := F19.tr F23
    refine sp_write (c := 43) T23 (by simp only [List.length_append, List.length_cons, List.length_nil]; omega) (fun m25 T25 F25 => ⟨_, rfl, sp_r (k := k) (o := 5) (by omega) (by omega) ⟨_, _, rfl, ?_⟩⟩)
    have F25 := F23.tr F25
    rw [(R m25 F25).2.2 k hp 5 (by omega)]
    refine sp_wrNum (by omega) T25 (by simp only [List.length_append, List.length_cons, List.length_nil]; omega) (fun m29 T29 F29 => ⟨_, rfl, ?_⟩)
    have F29 := F25.tr F29
    have N29 : ∀ f i k, ¬ (f = 31 ∧ (k = 5 ∨ k = 14)) → ¬ f = 39 → m29 f i k = m f i k := fun f i k c1 c2 => (F29 f i k (by omega) c2).trans (N3 f i k c1 c2)
    rw [T29.1]
    exact hQ m29 _ (by rw [F29 31 0 5 (by omega) (by omega)]; exact e5) (fun _ => ⟨rfl, h.out T29 N29⟩) (fun c => absurd rfl c) (fun f i k hf => N29 f i k (by omega) (by omega))
end REND
