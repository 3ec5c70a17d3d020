/-! ===== LOOPS, FRAMES, CHANGES OF THE ABSTRACT STATE ===== -/
theorem lup {n : Nat} {P : Nat → Prop} (h : ∀ k, k ≤ n → (k < n → P (k + 1)) → P k) : ∀ k, k ≤ n → P k := by
  have key : ∀ j k, k + j = n → P k := by
    intro j
    induction j with
    | zero => intro k hk; exact h k (by omega) (fun c => by omega)
    | succ j ih => intro k hk; exact h k (by omega) (fun _ => ih (k + 1) (by omega))
  exact fun k hk => key (n - k) k (by omega)
/-- what lies outside T is what it was -/
def Fr (T : Nat → Nat → Prop) (m m9 : MI) : Prop := ∀ f i k, ¬ T f i → m9 f i k = m f i k
theorem Fr.rf {T : Nat → Nat → Prop} {m : MI} : Fr T m m := fun _ _ _ _ => rfl
theorem Fr.tr {T : Nat → Nat → Prop} {a b c : MI} (h : Fr T a b) (k : Fr T b c) : Fr T a c := fun f i j hn => (k f i j hn).trans (h f i j hn)
theorem Fr.mono {T U : Nat → Nat → Prop} {a b : MI} (h : Fr T a b) (hs : ∀ f i, T f i → U f i) : Fr U a b := fun f i j hn => h f i j (fun t => hn (hs f i t))
theorem Fr.up {T : Nat → Nat → Prop} {f i k : Nat} {v : Int32} {m : MI} (h : T f i) : Fr T m (mup m f i k v) := fun f9 i9 k9 hn => mup_no (fun z => hn (by rw [z.1, z.2.1]; exact h))
theorem Fr.ups {T : Nat → Nat → Prop} {f i k : Nat} {v : Int32} {m m2 : MI} (h : Fr T m m2) (ht : T f i) : Fr T m (mup m2 f i k v) := h.tr (Fr.up ht)
def tyC (s f i : Nat) : Prop := (f = 2 ∧ i = s) ∨ (f = 5 ∧ 10 * s ≤ i ∧ i < 10 * s + 10)
def tyR (s f i : Nat) : Prop := (f = 3 ∧ i = s) ∨ (f = 7 ∧ 6 * s ≤ i ∧ i < 6 * s + 6)
def t1 (s f i : Nat) : Prop := f = 1 ∧ i = s
theorem tC_S {s f i : Nat} (h : tyC s f i) : inSt s f i := by unfold tyC at h; unfold inSt; omega
theorem tR_S {s f i : Nat} (h : tyR s f i) : inSt s f i := by unfold tyR at h; unfold inSt; omega
theorem t1_S {s f i : Nat} (h : t1 s f i) : inSt s f i := by unfold t1 at h; unfold inSt; omega
/-- six places in a row -/
def wr6 (m : MI) (f i k0 : Nat) (v : Nat → Int32) : MI := fun f9 i9 k9 => if f9 = f ∧ i9 = i ∧ k0 ≤ k9 ∧ k9 < k0 + 6 then v (k9 - k0) else m f9 i9 k9
theorem wr6_no {m : MI} {f i k0 f9 i9 k9 : Nat} {v : Nat → Int32} (h : ¬ (f9 = f ∧ i9 = i ∧ k0 ≤ k9 ∧ k9 < k0 + 6)) : wr6 m f i k0 v f9 i9 k9 = m f9 i9 k9 := if_neg h
theorem wr6_in {m : MI} {f i k0 o : Nat} {v : Nat → Int32} (h : o < 6) : wr6 m f i k0 v f i (k0 + o) = v o := by
  unfold wr6
  rw [if_pos (by omega), Nat.add_sub_cancel_left]
theorem wr6_eq (m : MI) (f i k0 : Nat) (v : Nat → Int32) : mup (mup (mup (mup (mup (mup m f i (k0 + 0) (v 0)) f i (k0 + 1) (v 1)) f i (k0 + 2) (v 2)) f i (k0 + 3) (v 3)) f i (k0 + 4) (v 4)) f i (k0 + 5) (v 5) = wr6 m f i k0 v := by
  funext f9 i9 k9
  by_cases h : f9 = f ∧ i9 = i ∧ k0 ≤ k9 ∧ k9 < k0 + 6
  · obtain ⟨rfl, rfl, h1, h2⟩ := h
    obtain ⟨o, rfl⟩ : ∃ o, k9 = k0 + o := ⟨k9 - k0, by omega⟩
    rw [wr6_in (by omega)]
    have ho : o = 0 ∨ o = 1 ∨ o = 2 ∨ o = 3 ∨ o = 4 ∨ o = 5 := by omega
    rcases ho with rfl | rfl | rfl | rfl | rfl | rfl
    · rw [mup_no (by omega), mup_no (by omega), mup_no (by omega), mup_no (by omega), mup_no (by omega), mup_eq]
    · rw [mup_no (by omega), mup_no (by omega), mup_no (by omega), mup_no (by omega), mup_eq]
    · rw [mup_no (by omega), mup_no (by omega), mup_no (by omega), mup_eq]
    · rw [mup_no (by omega), mup_no (by omega), mup_eq]
    · rw [mup_no (by omega), mup_eq]
    · rw [mup_eq]
  · rw [wr6_no h, mup_no (by omega), mup_no (by omega), mup_no (by omega), mup_no (by omega), mup_no (by omega), mup_no (by omega)]
/-- a row of six numbers -/
def mkR (a b c d e f : Nat) : Row := fun o => match o with | 0 => a | 1 => b | 2 => c | 3 => d | 4 => e | _ => f
abbrev asC (a : AS) (l : List Row) (nx : Nat) : AS := ((l, aR a), ((nx, (aXR a, (aDay a, aMet a))), (aCo a, aRt a)))
abbrev asR (a : AS) (l : List Row) (nx : Nat) : AS := ((aC a, l), ((aXC a, (nx, (aDay a, aMet a))), (aCo a, aRt a)))
abbrev as1 (a : AS) (dy mt : Nat) (c r : Int32) : AS := ((aC a, aR a), ((aXC a, (aXR a, (dy, mt))), (c, r)))
abbrev asAdd (a : AS) (r g b f : Nat) : AS := asC a (aC a ++ [mkR (aXC a) r g b f (aDay a)]) (aXC a + 1)
abbrev asRep (a : AS) (r g b t w : Nat) : AS := asR a (aR a ++ [mkR (aXR a) r g b t w]) (aXR a + 1)
abbrev asDl (a : AS) (p : Nat) : AS := asC a ((aC a).eraseIdx p) (aXC a)
abbrev asWd (a : AS) (p : Nat) : AS := asR a ((aR a).eraseIdx p) (aXR a)
abbrev asDis (a : AS) (p : Nat) : AS := as1 (asDl a p) (aDay a) (aMet a) (aCo a - 1) (aRt a)
abbrev asMt (a : AS) (mt : Nat) : AS := as1 a (aDay a) mt (aCo a) (aRt a)
abbrev asEarn (a : AS) (w : Nat) : AS := as1 a (aDay a) (aMet a) (aCo a + nI w) (aRt a + 1)
abbrev asGive (a : AS) (p q : Nat) : AS := asDl (asWd (asEarn a (rowD (aR a) p 5)) p) q
def mixR (u w : Row) (nx dy : Nat) : Row := mkR nx ((u 1 + w 1) / 2) ((u 2 + w 2) / 2) ((u 3 + w 3) / 2) (min (u 4) (w 4)) dy
abbrev asMix (a : AS) (p q : Nat) : AS := asC a (((aC a).eraseIdx (max p q)).eraseIdx (min p q) ++ [mixR (rowD (aC a) p) (rowD (aC a) q) (aXC a) (aDay a)]) (aXC a + 1)
def fdp (n : Nat) : Nat := if 50 < n then n - 1 else if n < 50 then n + 1 else n
def fdR (dy : Nat) (r : Row) : Row := fun o => if (dy - r 5) % r 4 = 0 ∧ 1 ≤ o ∧ o ≤ 3 then fdp (r o) else r o
def asPass (a : AS) : AS := as1 (asC a ((aC a).map (fdR (aDay a + 1))) (aXC a)) (aDay a + 1) (aMet a) (aCo a) (aRt a)
def asDays : Nat → AS → AS
  | 0, a => a
  | n + 1, a => asPass (asDays n a)
theorem rowD_app1 {l : List Row} {r : Row} {k : Nat} (h : k < l.length) : rowD (l ++ [r]) k = rowD l k := by
  unfold rowD
  rw [List.getD_eq_getElem?_getD, List.getD_eq_getElem?_getD, List.getElem?_append_left h]
theorem rowD_app2 {l : List Row} {r : Row} : rowD (l ++ [r]) l.length = r := by
  unfold rowD
  rw [List.getD_eq_getElem?_getD, List.getElem?_append_right (Nat.le_refl _), Nat.sub_self]; rfl
theorem rowD_map {l : List Row} {f : Row → Row} {k : Nat} (h : k < l.length) : rowD (l.map f) k = f (rowD l k) := by
  unfold rowD
  rw [List.getD_eq_getElem?_getD, List.getD_eq_getElem?_getD, List.getElem?_map, List.getElem?_eq_getElem h]; rfl
theorem rowD_er1 {l : List Row} {p k : Nat} (h : k < p) : rowD (l.eraseIdx p) k = rowD l k := by
  unfold rowD
  rw [List.getD_eq_getElem?_getD, List.getD_eq_getElem?_getD, List.getElem?_eraseIdx, if_pos h]
theorem rowD_er2 {l : List Row} {p k : Nat} (h : p ≤ k) : rowD (l.eraseIdx p) k = rowD l (k + 1) := by
  unfold rowD
  rw [List.getD_eq_getElem?_getD, List.getD_eq_getElem?_getD, List.getElem?_eraseIdx, if_neg (by omega)]
theorem len_er {l : List Row} {p : Nat} (h : p < l.length) : (l.eraseIdx p).length = l.length - 1 := List.length_eraseIdx_of_lt h
section SETS
variable {m m9 : MI} {s nx : Nat} {a : AS} {l : List Row}
theorem relS.on (h : relS m s a) (hC : (aC a).length ≤ 10) (hR : (aR a).length ≤ 6) (hf : ∀ f i k, inSt s f i → m9 f i k = m f i k) : relS m9 s a := by
  have o : ∀ f k, f = 1 ∨ f = 2 ∨ f = 3 → m9 f s k = m f s k := fun f k hk => hf f s k (by unfold inSt; omega)
  refine ⟨h.1.fr (fun k => o 2 k (by omega)) (fun k hk c => hf 5 _ c (by unfold inSt; omega)), h.2.1.fr (fun k => o 3 k (by omega)) (fun k hk c => hf 7 _ c (by unfold inSt; omega)), ?_, ?_, ?_, ?_, ?_⟩
  · rw [o 1 2 (by omega)]; exact h.2.2.1
  · rw [o 1 3 (by omega)]; exact h.2.2.2.1
  · rw [o 1 4 (by omega)]; exact h.2.2.2.2.1
  · rw [o 1 5 (by omega), o 1 6 (by omega)]; exact h.2.2.2.2.2.1
  · rw [o 1 7 (by omega)]; exact h.2.2.2.2.2.2
theorem relS.setC (h : relS m s a) (hR : (aR a).length ≤ 6) (hf : Fr (tyC s) m m9) (hT : relT m9 2 5 10 s l nx) : relS m9 s (asC a l nx) := by
  have o : ∀ f i k, f = 1 ∨ f = 3 ∨ f = 7 → m9 f i k = m f i k := fun f i k hk => hf f i k (by unfold tyC; omega)
  refine ⟨hT, h.2.1.fr (fun k => o 3 _ k (by omega)) (fun k hk c => o 7 _ c (by omega)), ?_, ?_, ?_, ?_, ?_⟩
  · rw [o 1 _ 2 (by omega)]; exact h.2.2.1
  · rw [o 1 _ 3 (by omega)]; exact h.2.2.2.1
  · rw [o 1 _ 4 (by omega)]; exact h.2.2.2.2.1
  · rw [o 1 _ 5 (by omega), o 1 _ 6 (by omega)]; exact h.2.2.2.2.2.1
  · rw [o 1 _ 7 (by omega)]; exact h.2.2.2.2.2.2
theorem relS.setR (h : relS m s a) (hC : (aC a).length ≤ 10) (hf : Fr (tyR s) m m9) (hT : relT m9 3 7 6 s l nx) : relS m9 s (asR a l nx) := by
  have o : ∀ f i k, f = 1 ∨ f = 2 ∨ f = 5 → m9 f i k = m f i k := fun f i k hk => hf f i k (by unfold tyR; omega)
  refine ⟨h.1.fr (fun k => o 2 _ k (by omega)) (fun k hk c => o 5 _ c (by omega)), hT, ?_, ?_, ?_, ?_, ?_⟩
  · rw [o 1 _ 2 (by omega)]; exact h.2.2.1
  · rw [o 1 _ 3 (by omega)]; exact h.2.2.2.1
  · rw [o 1 _ 4 (by omega)]; exact h.2.2.2.2.1
  · rw [o 1 _ 5 (by omega), o 1 _ 6 (by omega)]; exact h.2.2.2.2.2.1
  · rw [o 1 _ 7 (by omega)]; exact h.2.2.2.2.2.2
theorem relS.set1 {dy mt : Nat} {c r : Int32} (h : relS m s a) (hf : Fr (t1 s) m m9) (e2 : m9 1 s 2 = nI dy) (e3 : m9 1 s 3 = nI mt) (e4 : m9 1 s 4 = c) (e5 : m9 1 s 5 - m9 1 s 6 = c) (e7 : m9 1 s 7 = r) : relS m9 s (as1 a dy mt c r) := by
  have o : ∀ f i k, ¬ f = 1 → m9 f i k = m f i k := fun f i k hk => hf f i k (by unfold t1; omega)
  exact ⟨h.1.fr (fun k => o 2 _ k (by omega)) (fun k hk c => o 5 _ c (by omega)), h.2.1.fr (fun k => o 3 _ k (by omega)) (fun k hk c => o 7 _ c (by omega)), e2, e3, e4, e5, e7⟩
end SETS
theorem okT_met {n : Nat} (h : okMet n) : okT 3 (nI n) = true := by
  rcases h with rfl | rfl | rfl <;> decide +kernel
section OPS
variable {X : MX} {d : Nat} {x : Int64 × UInt64} {m : MI} {Q : MRes → Prop} {s q nx : Nat} {l : List Row} {a : AS}
theorem sp_appC {r g b f t : Nat} (h : relT m 2 5 10 s l nx) (hl : l.length < 10) (hQ : ∀ m9, relT m9 2 5 10 s (l ++ [mkR nx r g b f t]) (nx + 1) → Fr (tyC s) m m9 → Q (.inl (some (vi (nI nx))), G x m9)) : Cl X d 92 [vp 2 s, vi (nI r), vi (nI g), vi (nI b), vi (nI f), vi (nI t)] (G x m) Q := by
  refine vc_X8_append_2 ?_
  rw [h.1, nI_clamp (n := l.length) (by omega), h.2.1]
  refine ⟨inb_n l.length 10 hl, fun m1 e1 m2 e2 m3 e3 m4 e4 m5 e5 m6 e6 m7 e7 m8 e8 => ?_⟩
  have E : m6 = wr6 m 5 (10 * s + l.length) 0 (fun o => nI (mkR nx r g b f t o)) := by
    rw [e6, e5, e4, e3, e2, e1]
    exact wr6_eq m 5 (10 * s + l.length) 0 (fun o => nI (mkR nx r g b f t o))
  have E1 : m6 2 s 1 = nI l.length := by rw [E, wr6_no (by omega)]; exact h.1
  have E2 : m6 2 s 2 = nI nx := by rw [E, wr6_no (by omega)]; exact h.2.1
  have E7 : m7 2 s 2 = nI nx := by rw [e7, mup_no (by omega)]; exact E2
  rw [E1, nI_1] at e7
  rw [E7, nI_1] at e8
  have e0 : m8 5 (10 * s + l.length) 0 = nI nx := by
    rw [e8, mup_no (by omega), e7, mup_no (by omega), E]
    exact wr6_in (k0 := 0) (o := 0) (by omega)
  rw [e0]
  refine hQ m8 ⟨?_, ?_, fun k hk o ho => ?_⟩ ?_
  · rw [e8, mup_no (by omega), e7, mup_eq, List.length_append]; rfl
  · rw [e8, mup_eq]
  · rw [e8, mup_no (by omega), e7, mup_no (by omega), E]
    rw [List.length_append] at hk
    by_cases hc : k < l.length
    · rw [wr6_no (by omega), rowD_app1 hc]
      exact h.2.2 k hc o ho
    · obtain rfl : k = l.length := by
        have : ([mkR nx r g b f t] : List Row).length = 1 := rfl
        omega
      rw [rowD_app2]
      have := wr6_in (m := m) (f := 5) (i := 10 * s + l.length) (k0 := 0) (v := fun o => nI (mkR nx r g b f t o)) ho
      rw [Nat.zero_add] at this
      exact this
  · rw [e8, e7, E]
    refine Fr.ups (Fr.ups (fun f9 i9 k9 hn => wr6_no (fun z => hn ?_)) ?_) ?_
    · unfold tyC; omega
    · unfold tyC; omega
    · unfold tyC; omega
theorem sp_appR {r g b f t : Nat} (h : relT m 3 7 6 s l nx) (hl : l.length < 6) (hQ : ∀ m9, relT m9 3 7 6 s (l ++ [mkR nx r g b f t]) (nx + 1) → Fr (tyR s) m m9 → Q (.inl (some (vi (nI nx))), G x m9)) : Cl X d 92 [vp 3 s, vi (nI r), vi (nI g), vi (nI b), vi (nI f), vi (nI t)] (G x m) Q := by
  refine vc_X8_append_3 ?_
  rw [h.1, nI_clamp (n := l.length) (by omega), h.2.1]
  refine ⟨inb_n l.length 6 hl, fun m1 e1 m2 e2 m3 e3 m4 e4 m5 e5 m6 e6 m7 e7 m8 e8 => ?_⟩
  have E : m6 = wr6 m 7 (6 * s + l.length) 0 (fun o => nI (mkR nx r g b f t o)) := by
    rw [e6, e5, e4, e3, e2, e1]
    exact wr6_eq m 7 (6 * s + l.length) 0 (fun o => nI (mkR nx r g b f t o))
  have E1 : m6 3 s 1 = nI l.length := by rw [E, wr6_no (by omega)]; exact h.1
  have E2 : m6 3 s 2 = nI nx := by rw [E, wr6_no (by omega)]; exact h.2.1
  have E7 : m7 3 s 2 = nI nx := by rw [e7, mup_no (by omega)]; exact E2
  rw [E1, nI_1] at e7
  rw [E7, nI_1] at e8
  have e0 : m8 7 (6 * s + l.length) 0 = nI nx := by
    rw [e8, mup_no (by omega), e7, mup_no (by omega), E]
    exact wr6_in (k0 := 0) (o := 0) (by omega)
  rw [e0]
  refine hQ m8 ⟨?_, ?_, fun k hk o ho => ?_⟩ ?_
  · rw [e8, mup_no (by omega), e7, mup_eq, List.length_append]; rfl
  · rw [e8, mup_eq]
  · rw [e8, mup_no (by omega), e7, mup_no (by omega), E]
    rw [List.length_append] at hk
    by_cases hc : k < l.length
    · rw [wr6_no (by omega), rowD_app1 hc]
      exact h.2.2 k hc o ho
    · obtain rfl : k = l.length := by
        have : ([mkR nx r g b f t] : List Row).length = 1 := rfl
        omega
      rw [rowD_app2]
      have := wr6_in (m := m) (f := 7) (i := 6 * s + l.length) (k0 := 0) (v := fun o => nI (mkR nx r g b f t o)) ho
      rw [Nat.zero_add] at this
      exact this
  · rw [e8, e7, E]
    refine Fr.ups (Fr.ups (fun f9 i9 k9 hn => wr6_no (fun z => hn ?_)) ?_) ?_
    · unfold tyR; omega
    · unfold tyR; omega
    · unfold tyR; omega
theorem sp_rmC {p : Nat} (h : relT m 2 5 10 s l nx) (hl : l.length ≤ 10) (hp : p < l.length) (hQ : ∀ m9, relT m9 2 5 10 s (l.eraseIdx p) nx → Fr (tyC s) m m9 → Q (.inl none, G x m9)) : Cl X d 93 [vp 2 s, vi (nI p)] (G x m) Q := by
  refine sp_remC h hl hp (hQ _ (relT_remC h hp hl) (Fr.ups (fun f9 i9 k9 hn => ?_) (by unfold tyC; omega)))
  unfold rmvC
  unfold tyC at hn
  rw [if_neg (by omega)]
theorem sp_rmR {p : Nat} (h : relT m 3 7 6 s l nx) (hl : l.length ≤ 6) (hp : p < l.length) (hQ : ∀ m9, relT m9 3 7 6 s (l.eraseIdx p) nx → Fr (tyR s) m m9 → Q (.inl none, G x m9)) : Cl X d 93 [vp 3 s, vi (nI p)] (G x m) Q := by
  refine sp_remR h hl hp (hQ _ (relT_remR h hp hl) (Fr.ups (fun f9 i9 k9 hn => ?_) (by unfold tyR; omega)))
  unfold rmvR
  unfold tyR at hn
  rw [if_neg (by omega)]
theorem sp_cpyS (h : relS m q a) (hC : (aC a).length ≤ 10) (hR : (aR a).length ≤ 6) (hk : okMet (aMet a)) (hn : s ≠ q) (hQ : ∀ m9, relS m9 s a → Fr (inSt s) m m9 → Q (.inl none, G x m9)) : Cl X (d + 1) 71 [vp 1 s, vp 1 q] (G x m) Q := by
  refine vc_X7_copyFrom ?_
  refine sp_cpyC h.1 hC hn ⟨_, rfl, ?_⟩
  have hR1 : relT (ctC m s q (aC a).length (aXC a)) 3 7 6 q (aR a) (aXR a) := h.2.1.fr (fun k => ctC_no (by omega) (by omega)) (fun k hk o => ctC_no (by omega) (by omega))
  refine sp_cpyR hR1 hR hn ⟨_, rfl, fun m5 e5 => ?_⟩
  have T1 : relT (ctR (ctC m s q (aC a).length (aXC a)) s q (aR a).length (aXR a)) 2 5 10 s (aC a) (aXC a) := (relT_cpyC h.1 hC hn).fr (fun k => ctR_no (by omega) (by omega)) (fun k hk o => ctR_no (by omega) (by omega))
  have T2 : relT (ctR (ctC m s q (aC a).length (aXC a)) s q (aR a).length (aXR a)) 3 7 6 s (aR a) (aXR a) := relT_cpyR hR1 hR hn
  have F : Fr (inSt s) m (ctR (ctC m s q (aC a).length (aXC a)) s q (aR a).length (aXR a)) := ct_fr _ _ _ _ hC hR
  have O : ∀ k, ctR (ctC m s q (aC a).length (aXC a)) s q (aR a).length (aXR a) 1 q k = m 1 q k := fun k => F 1 q k (by unfold inSt; omega)
  generalize ctR (ctC m s q (aC a).length (aXC a)) s q (aR a).length (aXR a) = m4 at e5 T1 T2 F O
  have e3 : m5 1 q 3 = m 1 q 3 := by rw [e5, mup_no (by omega), O]
  refine ⟨by rw [e3, h.2.2.2.1]; exact okT_met hk, fun m6 e6 m7 e7 m8 e8 m9 e9 m10 e10 => ?_⟩
  have n6 : ∀ k, m6 1 q k = m 1 q k := fun k => by rw [e6, mup_no (by omega), e5, mup_no (by omega), O]
  have n7 : ∀ k, m7 1 q k = m 1 q k := fun k => by rw [e7, mup_no (by omega), n6]
  have n8 : ∀ k, m8 1 q k = m 1 q k := fun k => by rw [e8, mup_no (by omega), n7]
  have n9 : ∀ k, m9 1 q k = m 1 q k := fun k => by rw [e9, mup_no (by omega), n8]
  have E : m10 = wr6 m4 1 s 2 (fun o => m 1 q (2 + o)) := by
    rw [e10, n9, e9, n8, e8, n7, e7, n6, e6, e3, e5, O]
    exact wr6_eq m4 1 s 2 (fun o => m 1 q (2 + o))
  have V : ∀ o, o < 6 → m10 1 s (2 + o) = m 1 q (2 + o) := fun o ho => by rw [E, wr6_in ho]
  have K : ∀ f i k, ¬ f = 1 → m10 f i k = m4 f i k := fun f i k hk => by rw [E, wr6_no (by omega)]
  refine hQ m10 ⟨T1.fr (fun k => K 2 _ k (by omega)) (fun k hk o => K 5 _ o (by omega)), T2.fr (fun k => K 3 _ k (by omega)) (fun k hk o => K 7 _ o (by omega)), ?_, ?_, ?_, ?_, ?_⟩ ?_
  · exact (V 0 (by omega)).trans h.2.2.1
  · exact (V 1 (by omega)).trans h.2.2.2.1
  · exact (V 2 (by omega)).trans h.2.2.2.2.1
  · rw [show m10 1 s 5 = m 1 q 5 from V 3 (by omega), show m10 1 s 6 = m 1 q 6 from V 4 (by omega)]; exact h.2.2.2.2.2.1
  · exact (V 5 (by omega)).trans h.2.2.2.2.2.2
  · rw [E]
    refine F.tr (fun f9 i9 k9 hn => wr6_no (fun z => hn ?_))
    unfold inSt; omega
theorem sp_pay (h : relS m s a) (hQ : ∀ m9, relS m9 s (as1 a (aDay a) (aMet a) (aCo a - 1) (aRt a)) → Fr (t1 s) m m9 → Q (.inl none, G x m9)) : Cl X d 72 [vp 1 s] (G x m) Q := by
  refine vc_X7_payForDiscard (fun m1 e1 m2 e2 => ?_)
  have F : Fr (t1 s) m m2 := by rw [e2, e1]; exact Fr.ups (Fr.up ⟨rfl, rfl⟩) ⟨rfl, rfl⟩
  refine hQ m2 (h.set1 F ?_ ?_ ?_ ?_ ?_) F
  · rw [e2, mup_no (by omega), e1, mup_no (by omega)]; exact h.2.2.1
  · rw [e2, mup_no (by omega), e1, mup_no (by omega)]; exact h.2.2.2.1
  · rw [e2, mup_no (by omega), e1, mup_eq, h.2.2.2.2.1]
  · rw [e2, mup_eq, mup_no (by omega), e1, mup_no (by omega), mup_no (by omega), ← h.2.2.2.2.2.1]
    rw [Int32.sub_eq_add_neg, Int32.sub_eq_add_neg, Int32.sub_eq_add_neg, Int32.neg_add, Int32.sub_eq_add_neg, Int32.add_assoc]
  · rw [e2, mup_no (by omega), e1, mup_no (by omega)]; exact h.2.2.2.2.2.2
theorem sp_earn {w : Nat} (h : relS m s a) (hQ : ∀ m9, relS m9 s (asEarn a w) → Fr (t1 s) m m9 → Q (.inl none, G x m9)) : Cl X d 73 [vp 1 s, vi (nI w)] (G x m) Q := by
  refine vc_X7_earn (fun m1 e1 m2 e2 m3 e3 => ?_)
  have F : Fr (t1 s) m m3 := by rw [e3, e2, e1]; exact Fr.ups (Fr.ups (Fr.up ⟨rfl, rfl⟩) ⟨rfl, rfl⟩) ⟨rfl, rfl⟩
  refine hQ m3 (h.set1 F ?_ ?_ ?_ ?_ ?_) F
  · rw [e3, mup_no (by omega), e2, mup_no (by omega), e1, mup_no (by omega)]; exact h.2.2.1
  · rw [e3, mup_no (by omega), e2, mup_no (by omega), e1, mup_no (by omega)]; exact h.2.2.2.1
  · rw [e3, mup_no (by omega), e2, mup_no (by omega), e1, mup_eq, h.2.2.2.2.1]
  · rw [e3, mup_no (by omega), mup_no (by omega), e2, mup_eq, mup_no (by omega), e1, mup_no (by omega), mup_no (by omega), ← h.2.2.2.2.2.1]
    rw [Int32.sub_eq_add_neg, Int32.sub_eq_add_neg, Int32.add_assoc, Int32.add_assoc, Int32.add_comm (nI w)]
  · rw [e3, mup_eq, e2, mup_no (by omega), e1, mup_no (by omega), h.2.2.2.2.2.2]
end OPS
