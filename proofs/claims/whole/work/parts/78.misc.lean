/-! ===== TYPING, UNDO, SNAPSHOT; NEAREST BY LOOKING; CLOSEST PAIR ===== -/
def whyTy (o : OS) (p : Int32) : Nat := if inR p 32 126 then (if (oB o).length = 60 then 2 else 0) else 1
abbrev osType (o : OS) (p : Int32) : OS := (o.1, (o.2.1, (o.2.2.1, ((oB o ++ [clN p], oT o), o.2.2.2.2))))
abbrev osUndo (o : OS) (b : AS) (H : List AS) : OS := (b, (H, o.2.2))
abbrev osSave (o : OS) : OS := (o.1, (o.2.1, (some (oA o), o.2.2.2)))
abbrev osRest (o : OS) (b : AS) : OS := (b, ([], o.2.2))
theorem getD_app1 {l : List Nat} {c k : Nat} (h : k < l.length) : (l ++ [c]).getD k 0 = l.getD k 0 := by
  rw [List.getD_eq_getElem?_getD, List.getD_eq_getElem?_getD, List.getElem?_append_left h]
theorem getD_app2 {l : List Nat} {c : Nat} : (l ++ [c]).getD l.length 0 = c := by
  rw [List.getD_eq_getElem?_getD, List.getElem?_append_right (Nat.le_refl _), Nat.sub_self]; rfl
theorem len_app {l : List Nat} {c : Nat} : (l ++ [c]).length = l.length + 1 := by
  rw [List.length_append]; rfl
section MISC2
variable {X : MX} {d : Nat} {x : Int64 × UInt64} {m : MI} {Q : MRes → Prop} {B : Nat} {o : OS} {a : AS}
theorem txt_app {m m9 : MI} {fl kl ft c : Nat} {l : List Nat} (h : txt m fl kl ft l) (e1 : m9 fl 0 kl = nI (l.length + 1)) (e2 : m9 ft 0 l.length = nI c) (e3 : ∀ k, k < l.length → m9 ft 0 k = m ft 0 k) : txt m9 fl kl ft (l ++ [c]) := by
  refine ⟨by rw [e1, len_app], fun k hk => ?_⟩
  rw [len_app] at hk
  by_cases hc : k < l.length
  · rw [e3 k hc, getD_app1 hc]; exact h.2 k hc
  · obtain rfl : k = l.length := by omega
    rw [e2, getD_app2]
theorem cw_type {p : Int32} (h : CoR m o) (ok : okO B o) (hQ0 : whyTy o p = 0 → ∀ m9, CoR m9 (osType o p) → FC m m9 → Q (.inl (some (vi 0)), G ((nI ((oB o).length + 1)).toInt64, x.2) m9))
    (hQk : ∀ k, k ≠ 0 → whyTy o p = k → Q (.inl (some (vi (nI k))), Gu (1, 6) x m)) : Cl X (d + 2) 315 [vp 0 0, vi p, vp 43 0] (G x m) Q := by
  have hl := ok.2.2.2.1
  unfold whyTy at hQ0 hQk
  have hx : ¬ inR p 32 126 → ((0 = 0 → Q (.inl (some (vi 1)), Gu (1, 6) x m)) ∧ ((0 = 1 → Q (.inl (some (vi 2)), Gu (1, 6) x m)) ∧ ((¬ 0 = 0 ∧ ¬ 0 = 1) → Q (.inr 0, Gu (1, 6) x m)))) := fun c => ⟨fun _ => hQk 1 (by omega) (if_neg c), fun c => absurd c (by decide), fun c => absurd rfl c.1⟩
  refine vc_L_type (vc_X10_type ⟨fun c => Or.inr ⟨_, _, _, rfl, hx (fun z => absurd c (Int32.not_lt.mpr z.1))⟩, fun c => ⟨fun c2 => ?_, fun c2 => Or.inr ⟨_, _, _, rfl, hx (fun z => c2 z.2)⟩⟩⟩)
  have hc : inR p 32 126 := ⟨Int32.not_lt.mp c, c2⟩
  rw [if_pos hc] at hQ0 hQk
  have e := inR_cl hc
  have h4 := h.2.2.2.1
  refine vc_X5_isFull ?_
  rw [h4.1]
  refine pk_lt (oB o).length 60 (fun c3 => ⟨_, _, rfl, fun _ => ?_, fun c => absurd rfl c⟩) (fun c3 => ⟨_, _, rfl, fun c => absurd c (by decide), fun _ => Or.inr ⟨_, _, _, rfl, fun c => absurd c (by decide), fun _ => hQk 2 (by omega) (if_pos (by omega)), fun c => absurd rfl c.2⟩⟩)
  refine vc_X5_append ?_
  rw [h4.1, nI_clamp (n := (oB o).length) (by omega), e.1]
  refine ⟨and_t (chr_ok (by omega)) (inb_n (oB o).length 60 (by omega)), fun m1 e1 m2 e2 => ⟨_, _, rfl, Or.inl ⟨_, _, rfl, ?_⟩⟩⟩
  have e23 : m1 23 0 1 = nI (oB o).length := by rw [e1, mup_no (by omega)]; exact h4.1
  rw [e23, nI_1] at e2
  have ev : m2 23 0 1 = nI ((oB o).length + 1) := by rw [e2, mup_eq]
  rw [ev]
  have K : ∀ f i k, ¬ (f = 23 ∧ k = 1) → ¬ f = 24 → m2 f i k = m f i k := fun f i k h1 h2 => by rw [e2, mup_no (by omega), e1, mup_no (by omega)]
  have ecl : clN (nI (clN p)) = clN p := nI_clamp (by omega)
  refine hQ0 (if_neg (by omega)) m2 ?_ (fun f i k hf => K f i k (by omega) (by omega))
  have hn := ok.1.len
  obtain ⟨h1, h2, h3, _, h5, h6, h7, h8⟩ := h
  refine ⟨h1.on hn.1 hn.2.1 (fun f i k hi => K f i k (by unfold inSt at hi; omega) (by unfold inSt at hi; omega)), h2.on ok.hl (K 0 0 11 (by omega) (by omega)) (fun f i k hi => K f i k (by unfold tH at hi; omega) (by unfold tH at hi; omega)), ?_, txt_app h4 ev ?_ (fun k hk => ?_), ⟨?_, fun k hk => ?_⟩, ?_, ?_, ?_⟩
  · rcases h3 with ⟨e, h3⟩ | ⟨b, e, h3, h9⟩
    · exact Or.inl ⟨e, by rw [K 0 0 10 (by omega) (by omega)]; exact h3⟩
    · have hb := (ok.2.2.1 b e).len
      exact Or.inr ⟨b, e, by rw [K 0 0 10 (by omega) (by omega)]; exact h3, h9.on hb.1 hb.2.1 (fun f i k hi => K f i k (by unfold inSt at hi; omega) (by unfold inSt at hi; omega))⟩
  · rw [e2, mup_no (by omega), e1, mup_eq]
  · rw [e2, mup_no (by omega), e1, mup_no (by omega)]
  · rw [K 28 0 1 (by omega) (by omega)]; exact h5.1
  · rw [K 29 0 k (by omega) (by omega)]; exact h5.2 k hk
  · rw [K 0 0 12 (by omega) (by omega)]; exact h6
  · rw [K 0 0 13 (by omega) (by omega)]; exact h7
  · rw [K 0 0 14 (by omega) (by omega)]; exact h8
theorem mw_type {p : Int32} (h : MoR m o) (ok : okO B o) (hQ : mres m o (osType o p) (whyTy o p) (nI ((oB o).length + 1)) Q x) : Cl X (d + 1) 256 [vp 31 0, vi p] (G x m) Q := by
  have hl := ok.2.2.2.1
  unfold mres whyTy at hQ
  have h4 := h.2.2.2.1
  refine vc_X11_type (sp_in 32 126 (fun hc => ⟨_, _, rfl, fun _ => ?_, fun c => absurd (by decide) c⟩) (fun hc => ⟨_, _, rfl, fun c => absurd rfl c, fun _ m5 e5 => ?_⟩))
  · rw [if_pos hc] at hQ
    have e := inR_cl hc
    rw [h4.1]
    refine pk_eqn (b := 60) (fun c3 m5 e5 => ?_) (fun c3 m5 e5 => ?_) (by omega) (by omega)
    · rw [if_pos c3] at hQ
      obtain ⟨h9, F9⟩ := th_on h (m9 := m5) (by rw [e5]; exact Fk.up ⟨rfl, rfl⟩)
      have e55 : m5 31 0 5 = 2 := by rw [e5, mup_eq]
      rw [e55]
      exact ⟨fun c => absurd c (by decide), fun _ => hQ m5 _ e55 (fun c => by omega) (fun _ => h9) F9⟩
    · rw [if_neg c3] at hQ
      have e55 : m5 31 0 5 = 0 := by rw [e5, mup_eq]
      have e518 : m5 31 0 18 = nI (oB o).length := by rw [e5, mup_no (by omega)]; exact h4.1
      rw [e55, e518, nI_clamp (n := (oB o).length) (by omega)]
      refine ⟨fun _ => ⟨inb_n (oB o).length 60 (by omega), fun m7 e7 m8 e8 => ?_⟩, fun c => absurd (by decide) c⟩
      have e7v : m7 31 0 18 = nI (oB o).length := by rw [e7, mup_no (by omega)]; exact e518
      rw [e7v, nI_1] at e8
      have ev : m8 31 0 18 = nI ((oB o).length + 1) := by rw [e8, mup_eq]
      rw [ev]
      have K : ∀ f i k, ¬ (f = 31 ∧ (k = 5 ∨ k = 18)) → ¬ f = 40 → m8 f i k = m f i k := fun f i k h1 h2 => by rw [e8, mup_no (by omega), e7, mup_no (by omega), e5, mup_no (by omega)]
      refine hQ m8 _ (by rw [e8, mup_no (by omega), e7, mup_no (by omega), e55]; rfl) (fun _ => ⟨rfl, ?_⟩) (fun c => absurd rfl c) (fun f i k hf => K f i k (by omega) (by omega))
      obtain ⟨h1, h2, h3, _, h5, h6, h7, h8⟩ := h
      have e32 : m8 32 0 = m 32 0 := funext fun k => K 32 0 k (by omega) (by omega)
      have e34 : m8 34 0 = m 34 0 := funext fun k => K 34 0 k (by omega) (by omega)
      refine ⟨by rw [e32]; exact h1, h2.on (K 31 0 6 (by omega) (by omega)) (fun k => K 35 0 k (by omega) (by omega)), ?_, txt_app h4 ev ?_ (fun k hk => ?_), ⟨?_, fun k hk => ?_⟩, ?_, ?_, ?_⟩
      · unfold snM
        rw [K 31 0 10 (by omega) (by omega), e34]
        exact h3
      · rw [e8, mup_no (by omega), e7, mup_eq]; exact e.1
      · rw [e8, mup_no (by omega), e7, mup_no (by omega), e5, mup_no (by omega)]
      · rw [K 31 0 14 (by omega) (by omega)]; exact h5.1
      · rw [K 39 0 k (by omega) (by omega)]; exact h5.2 k hk
      · rw [K 31 0 7 (by omega) (by omega)]; exact h6
      · rw [K 31 0 8 (by omega) (by omega)]; exact h7
      · rw [K 31 0 9 (by omega) (by omega)]; exact h8
  · rw [if_neg hc] at hQ
    obtain ⟨h9, F9⟩ := th_on h (m9 := m5) (by rw [e5]; exact Fk.up ⟨rfl, rfl⟩)
    have e55 : m5 31 0 5 = 1 := by rw [e5, mup_eq]
    rw [e55]
    exact ⟨fun c => absurd c (by decide), fun _ => hQ m5 _ e55 (fun c => by omega) (fun _ => h9) F9⟩
/-- undo -/
theorem cw_undo (h : CoR m o) (ok : okO B o) (h0 : ∀ b H, oH o = b :: H → ∀ m9, CoR m9 (osUndo o b H) → FC m m9 → Q (.inl (some (vi 0)), G ((nI H.length).toInt64, x.2) m9)) (h1 : oH o = [] → Q (.inl (some (vi 1)), Gu (1, 6) x m)) : Cl X (d + 4) 320 [vp 0 0, vp 43 0] (G x m) Q := by
  have hH := h.2.1.2 rfl
  have hl := ok.hl
  have hn := ok.1.len
  obtain ⟨nx, k1, k2, k3, k4, k5⟩ := hH
  refine vc_L_undo (vc_X10_undo ?_)
  rw [k3]
  cases hh : oH o with
  | nil => exact ⟨fun c => absurd (show nI ([] : List AS).length = 0 from rfl) c, fun _ => Or.inr ⟨_, _, _, rfl, fun _ => h1 hh, fun c => absurd rfl c⟩⟩
  | cons b H =>
    have hlen : (b :: H).length = H.length + 1 := List.length_cons
    rw [hh] at k3 k4 k5 hl
    refine ⟨fun _ => ?_, fun c => absurd (nI_ne0 (by omega) (by omega)) c⟩
    refine sp_pop (H := H) (b := b) ⟨nx, k1, k2, k3, k4, k5⟩ hl (fun m9 hS hH9 hF => ⟨_, rfl, Or.inl ⟨_, _, rfl, ?_⟩⟩)
    obtain ⟨n9, q1, q2, q3, q4, q5⟩ := hH9
    rw [q3]
    have K : ∀ f i k, ¬ (inSt 0 f i ∨ f = 8) → m9 f i k = m f i k := hF
    refine h0 b H hh m9 ?_ (hF.fc (fun f i t => by unfold inSt at t; omega))
    obtain ⟨p1, p2, p3, p4, p5, p6, p7, p8⟩ := h
    refine ⟨hS, ⟨?_, fun _ => ⟨n9, q1, q2, q3, q4, q5⟩⟩, ?_, ⟨?_, fun k hk => ?_⟩, ⟨?_, fun k hk => ?_⟩, ?_, ?_, ?_⟩
    · rw [K 0 0 11 (by unfold inSt; omega)]; exact p2.1
    · rcases p3 with ⟨e, p3⟩ | ⟨c, e, p3, p9⟩
      · exact Or.inl ⟨e, by rw [K 0 0 10 (by unfold inSt; omega)]; exact p3⟩
      · have hb := (ok.2.2.1 c e).len
        exact Or.inr ⟨c, e, by rw [K 0 0 10 (by unfold inSt; omega)]; exact p3, p9.on hb.1 hb.2.1 (fun f i k hi => K f i k (by unfold inSt at hi ⊢; omega))⟩
    · rw [K 23 0 1 (by unfold inSt; omega)]; exact p4.1
    · rw [K 24 0 k (by unfold inSt; omega)]; exact p4.2 k hk
    · rw [K 28 0 1 (by unfold inSt; omega)]; exact p5.1
    · rw [K 29 0 k (by unfold inSt; omega)]; exact p5.2 k hk
    · rw [K 0 0 12 (by unfold inSt; omega)]; exact p6
    · rw [K 0 0 13 (by unfold inSt; omega)]; exact p7
    · rw [K 0 0 14 (by unfold inSt; omega)]; exact p8
/-- the model's memory with another state, another history -/
theorem MoR.st {m m9 : MI} {o : OS} {a9 : AS} {H9 : List AS} (h : MoR m o) (hR : relR (m9 32 0) a9) (hH : relMH m9 H9) (K : ∀ f i k, ¬ f = 32 → ¬ (f = 31 ∧ (k = 5 ∨ k = 6)) → m9 f i k = m f i k) : MoR m9 (a9, (H9, o.2.2)) := by
  obtain ⟨h1, h2, h3, h4, h5, h6, h7, h8⟩ := h
  have e34 : m9 34 0 = m 34 0 := funext fun k => K 34 0 k (by omega) (by omega)
  refine ⟨hR, hH, ?_, ⟨?_, fun k hk => ?_⟩, ⟨?_, fun k hk => ?_⟩, ?_, ?_, ?_⟩
  · unfold snM
    rw [K 31 0 10 (by omega) (by omega), e34]
    exact h3
  · rw [K 31 0 18 (by omega) (by omega)]; exact h4.1
  · rw [K 40 0 k (by omega) (by omega)]; exact h4.2 k hk
  · rw [K 31 0 14 (by omega) (by omega)]; exact h5.1
  · rw [K 39 0 k (by omega) (by omega)]; exact h5.2 k hk
  · rw [K 31 0 7 (by omega) (by omega)]; exact h6
  · rw [K 31 0 8 (by omega) (by omega)]; exact h7
  · rw [K 31 0 9 (by omega) (by omega)]; exact h8
theorem mw_undo (h : MoR m o) (ok : okO B o) (h0 : ∀ b H, oH o = b :: H → ∀ m9, m9 31 0 5 = 0 → MoR m9 (osUndo o b H) → FM m m9 → Q (.inl (some (vi (nI H.length))), G x m9)) (h1 : oH o = [] → ∀ m9 v, m9 31 0 5 = 1 → MoR m9 o → FM m m9 → Q (.inl (some (vi v)), G x m9)) : Cl X (d + 1) 276 [vp 31 0] (G x m) Q := by
  have hl := ok.hl
  obtain ⟨k1, k2, k3⟩ := h.2.1
  refine vc_X11_undo ?_
  rw [k1]
  cases hh : oH o with
  | nil =>
    refine ⟨fun _ => mchk0 h (fun m3 h3 e5 F3 => ⟨_, _, rfl, fun c => absurd c (by decide), fun _ => h1 hh m3 _ e5 h3 F3⟩), fun c => absurd (show nI ([] : List AS).length ≤ 0 from by decide) c⟩
  | cons b H =>
    have hlen : (b :: H).length = H.length + 1 := List.length_cons
    rw [hh] at k1 k2 k3 hl
    refine ⟨fun c => absurd c (nI_nle (by omega) (by omega)), fun _ => mchk1 h (fun m3 h3 e5 F3 => ⟨_, _, rfl, fun _ m11 e11 => ?_, fun c => absurd (by decide) c⟩)⟩
    have k1' := h3.2.1.1
    have k3' := h3.2.1.2.2
    rw [hh] at k1' k3'
    rw [k1', hlen, nI_pred] at e11
    have e116 : m11 31 0 6 = nI H.length := by rw [e11, mup_eq]
    rw [e116, show (136 : Int32) = nI 136 from rfl, pk_mul]
    refine sp_cp_35_32 (p := 136 * H.length) (q := 0) (by omega) (by omega) ⟨_, rfl, ?_⟩
    have e13 : cpM m11 35 32 (136 * H.length) 0 136 31 0 6 = nI H.length := by rw [cpM_no (by omega)]; exact e116
    rw [e13]
    have K : ∀ f i k, ¬ f = 32 → ¬ (f = 31 ∧ k = 6) → cpM m11 35 32 (136 * H.length) 0 136 f i k = m3 f i k := fun f i k c1 c2 => by rw [cpM_no (by omega), e11, mup_no (by omega)]
    refine h0 b H hh _ (by rw [K 31 0 5 (by omega) (by omega)]; exact e5) (h3.st ?_ ⟨e13, by omega, fun i c hc => ?_⟩ (fun f i k c1 c2 => K f i k c1 (by omega))) (F3.tr (fun f i k hf => K f i k (by omega) (by omega)))
    · have hb := k3' 0 b rfl
      refine hb.on (hl b List.mem_cons_self) (fun k hk => ?_)
      have := cpM_in (m := m11) (A := 35) (B := 32) (p := 136 * H.length) (q := 0) hk
      rw [Nat.zero_add] at this
      rw [this, e11, mup_no (by omega), hlen]; rfl
    · have hi : i < H.length := (List.getElem?_eq_some_iff.mp hc).1
      have h9 := k3' (i + 1) c hc
      refine h9.on (hl c (List.mem_cons_of_mem b (List.mem_of_getElem? hc))) (fun k hk => ?_)
      rw [K 35 0 _ (by omega) (by omega), hlen, show 136 * (H.length - 1 - i) + k = 136 * (H.length + 1 - 1 - (i + 1)) + k by omega]
/-- the snapshot -/
theorem cw_save (h : CoR m o) (ok : okO B o) (hQ : ∀ m9, CoR m9 (osSave o) → FC m m9 → Q (.inl (some (vi (nI (aC (oA o)).length))), G x m9)) : Cl X (d + 2) 55 [vp 0 0] (G x m) Q := by
  have hn := ok.1.len
  refine vc_X10_save (sp_cpyS h.1 hn.1 hn.2.1 hn.2.2 (by omega) (fun m2 hS hF => ⟨_, rfl, fun m3 e3 => ?_⟩))
  have K : ∀ f i k, ¬ inSt 2 f i → ¬ (f = 0 ∧ k = 10) → m3 f i k = m f i k := fun f i k c1 c2 => by rw [e3, mup_no (by omega)]; exact hF f i k c1
  have e20 : m3 2 0 1 = nI (aC (oA o)).length := by rw [K 2 0 1 (by unfold inSt; omega) (by omega)]; exact h.1.1.1
  rw [e20]
  refine hQ m3 ?_ (fun f i k hf => K f i k (by unfold inSt; omega) (by omega))
  obtain ⟨p1, p2, p3, p4, p5, p6, p7, p8⟩ := h
  refine ⟨p1.on hn.1 hn.2.1 (fun f i k hi => K f i k (by unfold inSt at hi ⊢; omega) (by unfold inSt at hi; omega)), p2.on ok.hl (K 0 0 11 (by unfold inSt; omega) (by omega)) (fun f i k hi => K f i k (by unfold tH at hi; unfold inSt; omega) (by unfold tH at hi; omega)), Or.inr ⟨_, rfl, by rw [e3, mup_eq], hS.on hn.1 hn.2.1 (fun f i k hi => by rw [e3, mup_no (by unfold inSt at hi; omega)])⟩, ⟨?_, fun k hk => ?_⟩, ⟨?_, fun k hk => ?_⟩, ?_, ?_, ?_⟩
  · rw [K 23 0 1 (by unfold inSt; omega) (by omega)]; exact p4.1
  · rw [K 24 0 k (by unfold inSt; omega) (by omega)]; exact p4.2 k hk
  · rw [K 28 0 1 (by unfold inSt; omega) (by omega)]; exact p5.1
  · rw [K 29 0 k (by unfold inSt; omega) (by omega)]; exact p5.2 k hk
  · rw [K 0 0 12 (by unfold inSt; omega) (by omega)]; exact p6
  · rw [K 0 0 13 (by unfold inSt; omega) (by omega)]; exact p7
  · rw [K 0 0 14 (by unfold inSt; omega) (by omega)]; exact p8
theorem mw_save (h : MoR m o) (ok : okO B o) (hQ : ∀ m9, MoR m9 (osSave o) → FM m m9 → Q (.inl (some (vi (nI (aC (oA o)).length))), G x m9)) : Cl X (d + 1) 277 [vp 31 0] (G x m) Q := by
  refine vc_X11_save (fun m1 e1 => sp_cp_32_34 (p := 0) (q := 0) (by omega) (by omega) ⟨_, rfl, fun m4 e4 => ?_⟩)
  have K : ∀ f i k, ¬ f = 34 → ¬ (f = 31 ∧ (k = 5 ∨ k = 10)) → m4 f i k = m f i k := fun f i k c1 c2 => by rw [e4, mup_no (by omega), cpM_no (by omega), e1, mup_no (by omega)]
  rw [K 32 0 0 (by omega) (by omega), h.1.1.1]
  refine hQ m4 ?_ (fun f i k hf => K f i k (by omega) (by omega))
  obtain ⟨h1, h2, h3, h4, h5, h6, h7, h8⟩ := h
  have e32 : m4 32 0 = m 32 0 := funext fun k => K 32 0 k (by omega) (by omega)
  refine ⟨by rw [e32]; exact h1, h2.on (K 31 0 6 (by omega) (by omega)) (fun k => K 35 0 k (by omega) (by omega)), Or.inr ⟨_, rfl, by rw [e4, mup_eq], h1.on ok.1.len (fun k hk => ?_)⟩, ⟨?_, fun k hk => ?_⟩, ⟨?_, fun k hk => ?_⟩, ?_, ?_, ?_⟩
  · have := cpM_in (m := m1) (A := 32) (B := 34) (p := 0) (q := 0) hk
    rw [Nat.zero_add] at this
    rw [e4, mup_no (by omega), this, e1, mup_no (by omega)]
  · rw [K 31 0 18 (by omega) (by omega)]; exact h4.1
  · rw [K 40 0 k (by omega) (by omega)]; exact h4.2 k hk
  · rw [K 31 0 14 (by omega) (by omega)]; exact h5.1
  · rw [K 39 0 k (by omega) (by omega)]; exact h5.2 k hk
  · rw [K 31 0 7 (by omega) (by omega)]; exact h6
  · rw [K 31 0 8 (by omega) (by omega)]; exact h7
  · rw [K 31 0 9 (by omega) (by omega)]; exact h8
theorem cw_restore (h : CoR m o) (ok : okO B o) (h0 : ∀ b, oS o = some b → ∀ m9, CoR m9 (osRest o b) → FC m m9 → Q (.inl (some (vi 0)), G ((nI (aC b).length).toInt64, x.2) m9)) (h1 : oS o = none → Q (.inl (some (vi 1)), Gu (1, 6) x m)) : Cl X (d + 4) 321 [vp 0 0, vp 43 0] (G x m) Q := by
  have hn := ok.1.len
  have hl := ok.hl
  refine vc_L_restore (vc_X10_restore ?_)
  obtain ⟨p1, p2, p3, p4, p5, p6, p7, p8⟩ := h
  rcases p3 with ⟨e, p3⟩ | ⟨b, e, p3, p9⟩
  · rw [p3]
    exact ⟨fun c => absurd rfl c, fun _ => Or.inr ⟨_, _, _, rfl, fun _ => h1 e, fun c => absurd rfl c⟩⟩
  · rw [p3]
    have hb := (ok.2.2.1 b e).len
    refine ⟨fun _ => sp_cpyS p9 hb.1 hb.2.1 hb.2.2 (by omega) (fun m3 hS hF => ⟨_, rfl, ?_⟩), fun c => absurd (by decide) c⟩
    have hH3 : relH m3 (oH o) := (p2.2 rfl).on hl (fun f i k hi => hF f i k (by unfold tH at hi; unfold inSt; omega))
    refine sp_forget (fun m5 hH5 hF5 => ⟨_, rfl, Or.inl ⟨_, _, rfl, ?_⟩⟩) hH3
    have K : ∀ f i k, ¬ inSt 0 f i → ¬ f = 8 → m5 f i k = m f i k := fun f i k c1 c2 => (hF5 f i k c2).trans (hF f i k c1)
    have hS5 : relS m5 0 b := hS.on hb.1 hb.2.1 (fun f i k hi => hF5 f i k (by unfold inSt at hi; omega))
    rw [hS5.1.1]
    refine h0 b e m5 ?_ (fun f i k hf => K f i k (by unfold inSt; omega) (by omega))
    refine ⟨hS5, ⟨?_, fun _ => hH5⟩, Or.inr ⟨b, e, ?_, p9.on hb.1 hb.2.1 (fun f i k hi => K f i k (by unfold inSt at hi ⊢; omega) (by unfold inSt at hi; omega))⟩, ⟨?_, fun k hk => ?_⟩, ⟨?_, fun k hk => ?_⟩, ?_, ?_, ?_⟩
    · rw [K 0 0 11 (by unfold inSt; omega) (by omega)]; exact p2.1
    · rw [K 0 0 10 (by unfold inSt; omega) (by omega)]; exact p3
    · rw [K 23 0 1 (by unfold inSt; omega) (by omega)]; exact p4.1
    · rw [K 24 0 k (by unfold inSt; omega) (by omega)]; exact p4.2 k hk
    · rw [K 28 0 1 (by unfold inSt; omega) (by omega)]; exact p5.1
    · rw [K 29 0 k (by unfold inSt; omega) (by omega)]; exact p5.2 k hk
    · rw [K 0 0 12 (by unfold inSt; omega) (by omega)]; exact p6
    · rw [K 0 0 13 (by unfold inSt; omega) (by omega)]; exact p7
    · rw [K 0 0 14 (by unfold inSt; omega) (by omega)]; exact p8
theorem mw_restore (h : MoR m o) (ok : okO B o) (h0 : ∀ b, oS o = some b → ∀ m9, m9 31 0 5 = 0 → MoR m9 (osRest o b) → FM m m9 → Q (.inl (some (vi (nI (aC b).length))), G x m9)) (h1 : oS o = none → ∀ m9 v, m9 31 0 5 = 1 → MoR m9 o → FM m m9 → Q (.inl (some (vi v)), G x m9)) : Cl X (d + 1) 278 [vp 31 0] (G x m) Q := by
  refine vc_X11_restore ?_
  rcases h.2.2.1 with ⟨e, p3⟩ | ⟨b, e, p3, p9⟩
  · rw [p3]
    exact mchk0 h (fun m3 h3 e5 F3 => ⟨_, _, rfl, fun c => absurd c (by decide), fun _ => h1 e m3 _ e5 h3 F3⟩)
  · rw [p3]
    have hb := (ok.2.2.1 b e).len
    refine mchk1 h (fun m3 h3 e5 F3 => ⟨_, _, rfl, fun _ => sp_cp_34_32 (p := 0) (q := 0) (by omega) (by omega) ⟨_, rfl, fun m6 e6 => ?_⟩, fun c => absurd (by decide) c⟩)
    have p93 : relR (m3 34 0) b := by
      rcases h3.2.2.1 with ⟨e2, _⟩ | ⟨c, e2, _, q9⟩
      · rw [e] at e2; cases e2
      · rw [e] at e2
        obtain rfl : b = c := Option.some.inj e2
        exact q9
    have K : ∀ f i k, ¬ f = 32 → ¬ (f = 31 ∧ k = 6) → m6 f i k = m3 f i k := fun f i k c1 c2 => by rw [e6, mup_no (by omega), cpM_no (by omega)]
    have hR : relR (m6 32 0) b := p93.on hb (fun k hk => by
      have := cpM_in (m := m3) (A := 34) (B := 32) (p := 0) (q := 0) hk
      rw [Nat.zero_add] at this
      rw [e6, mup_no (by omega), this])
    rw [hR.1.1]
    exact h0 b e m6 (by rw [K 31 0 5 (by omega) (by omega)]; exact e5) (h3.st hR ⟨by rw [e6, mup_eq]; rfl, by show 0 ≤ 8; omega, fun i c hc => by cases hc⟩ (fun f i k c1 c2 => K f i k c1 (by omega))) (F3.tr (fun f i k hf => K f i k (by omega) (by omega)))
end MISC2
