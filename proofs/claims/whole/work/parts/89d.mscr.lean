/-! ===== SCRIPTS: THE MODEL READS ===== -/
def bI (w : Bool) : Int32 := if w then 1 else 0
theorem bI_or (w v : Bool) : bI w ||| bI v = bI (w || v) := by cases w <;> cases v <;> decide
theorem okT_b (w : Bool) : okT 2 (bI w) = true := by cases w <;> decide
/-- the reader's memory: text, wrong, place, commands -/
def PM (m : MI) (l : List Nat) (w : Bool) (p cm : Nat) : Prop := m 31 0 19 = nI l.length ∧ (∀ k, k < l.length → m 40 0 k = nI (l.getD k 0)) ∧ m 31 0 22 = bI w ∧ m 31 0 20 = nI p ∧ m 31 0 21 = nI cm
def KW (cm : Nat) (m m9 : MI) : Prop := ∀ f i k, ¬ ((f = 31 ∧ (k = 20 ∨ k = 22)) ∨ (f = 42 ∧ 8 * cm ≤ k ∧ k < 8 * cm + 8)) → m9 f i k = m f i k
theorem KW.rf {cm : Nat} {m : MI} : KW cm m m := fun _ _ _ _ => rfl
theorem KW.tr {cm : Nat} {a b c : MI} (h : KW cm a b) (k : KW cm b c) : KW cm a c := fun f i j h1 => (k f i j h1).trans (h f i j h1)
theorem PM.w {m m9 : MI} {l : List Nat} {w v : Bool} {p cm : Nat} (h : PM m l w p cm) (e : m9 = mup m 31 0 22 (bI v)) : PM m9 l v p cm ∧ KW cm m m9 := by
  obtain ⟨h1, h2, h3, h4, h5⟩ := h
  refine ⟨⟨?_, fun k hk => ?_, by rw [e, mup_eq], ?_, ?_⟩, fun f i k hn => by rw [e, mup_no (by omega)]⟩
  · rw [e, mup_no (by omega)]; exact h1
  · rw [e, mup_no (by omega)]; exact h2 k hk
  · rw [e, mup_no (by omega)]; exact h4
  · rw [e, mup_no (by omega)]; exact h5
theorem PM.p {m m9 : MI} {l : List Nat} {w : Bool} {p q cm : Nat} (h : PM m l w p cm) (e : m9 = mup m 31 0 20 (nI q)) : PM m9 l w q cm ∧ KW cm m m9 := by
  obtain ⟨h1, h2, h3, h4, h5⟩ := h
  refine ⟨⟨?_, fun k hk => ?_, ?_, by rw [e, mup_eq], ?_⟩, fun f i k hn => by rw [e, mup_no (by omega)]⟩
  · rw [e, mup_no (by omega)]; exact h1
  · rw [e, mup_no (by omega)]; exact h2 k hk
  · rw [e, mup_no (by omega)]; exact h3
  · rw [e, mup_no (by omega)]; exact h5
theorem PM.a {m m9 : MI} {l : List Nat} {w : Bool} {p cm off : Nat} {v : Int32} (h : PM m l w p cm) (ho : off < 8) (e : m9 = mup m 42 0 (8 * cm + off) v) : PM m9 l w p cm ∧ KW cm m m9 := by
  obtain ⟨h1, h2, h3, h4, h5⟩ := h
  refine ⟨⟨?_, fun k hk => ?_, ?_, ?_, ?_⟩, fun f i k hn => by rw [e, mup_no (by omega)]⟩
  · rw [e, mup_no (by omega)]; exact h1
  · rw [e, mup_no (by omega)]; exact h2 k hk
  · rw [e, mup_no (by omega)]; exact h3
  · rw [e, mup_no (by omega)]; exact h4
  · rw [e, mup_no (by omega)]; exact h5
def mkI (l : List Nat) (w : Bool) (p : Nat) : Int32 := if w = false ∧ p < l.length then nI (l.getD p 0) else -1
section MSCR
variable {X : MX} {d : Nat} {x : Int64 × UInt64} {m : MI} {Q : MRes → Prop} {l : List Nat} {cm : Nat}
theorem sp_mark {w : Bool} {p : Nat} (h : PM m l w p cm) (hp : p ≤ l.length) (hl : l.length ≤ 60) (hQ : Q (.inl (some (vi (mkI l w p))), G x m)) : Cl X d 257 [vp 31 0] (G x m) Q := by
  obtain ⟨h1, h2, h3, h4, h5⟩ := h
  refine vc_X11_mark ?_
  rw [h3, h1, h4, nI_clamp (n := p) (by omega)]
  unfold mkI at hQ
  cases w with
  | true =>
    rw [if_neg (fun z => Bool.noConfusion z.1)] at hQ
    exact ⟨fun _ => hQ, fun c => absurd (by decide) c⟩
  | false =>
    refine ⟨fun c => absurd rfl c, fun _ => pk_le l.length p (fun c => ?_) (fun c => ⟨inb_n p 60 (by omega), ?_⟩)⟩
    · rw [if_neg (fun z => by omega)] at hQ; exact hQ
    · rw [if_pos ⟨rfl, c⟩] at hQ
      rw [h2 p c]; exact hQ
theorem mk_dig {w : Bool} {p : Nat} (hc : ∀ c ∈ l, c ≤ 126) : inR (mkI l w p) 48 57 ↔ (w = false ∧ isDg l p = true) := by
  unfold mkI isDg
  by_cases h : w = false ∧ p < l.length
  · have hb := hc _ (getD_mem h.2)
    rw [if_pos h, decide_eq_true_iff]
    constructor
    · intro z
      exact ⟨h.1, h.2, (nI_leI (by omega) (by omega)).mp z.1, (nI_leI (by omega) (by omega)).mp z.2⟩
    · rintro ⟨_, _, z1, z2⟩
      exact ⟨nI_le z1 (by omega), nI_le z2 (by omega)⟩
  · rw [if_neg h, decide_eq_true_iff]
    constructor
    · intro z; exact absurd z.1 (by decide +kernel)
    · rintro ⟨z1, z2, _⟩; exact absurd ⟨z1, z2⟩ h
theorem sp_mnum {w : Bool} {p : Nat} (h : PM m l w p cm) (hp : p ≤ l.length) (hl : l.length ≤ 60) (hc : ∀ c ∈ l, c ≤ 126)
    (h1 : w = false ∧ isDg l p = true → ∀ m9, PM m9 l false (p + dl l p) cm → KW cm m m9 → (∀ k, m9 42 0 k = m 42 0 k) → Q (.inl (some (vi (nI (nv l p)))), G x m9))
    (h0 : ¬ (w = false ∧ isDg l p = true) → ∀ m9, PM m9 l true p cm → KW cm m m9 → (∀ k, m9 42 0 k = m 42 0 k) → Q (.inl (some (vi 0)), G x m9)) : Cl X (d + 1) 258 [vp 31 0] (G x m) Q := by
  refine vc_X11_number (sp_mark h hp hl ⟨_, _, rfl, ?_⟩)
  have key : ∀ j i q v m9, i + j = 4 → v < 10 ^ i → q ≤ l.length → PM m9 l false q cm → KW cm m m9 → (∀ k, m9 42 0 k = m 42 0 k) → (∀ m8, PM m8 l false (q + dlF l q j) cm → KW cm m m8 → (∀ k, m8 42 0 k = m 42 0 k) → Q (.inl (some (vi (nI (nvF l q v j)))), G x m8)) → Wp X (d + 1) 258 (32, ([some (vp 31 0), some (vi (nI v)), some (vi (nI i))], ([], G x m9))) Q := by
    intro j
    induction j with
    | zero =>
      intro i q v m9 hij hv hq h9 hK hA hQ9
      exact vl_X11_number_32 ⟨fun _ => hQ9 m9 h9 hK hA, fun c => absurd (nI_le (a := 4) (b := i) (by omega) (by omega)) c⟩
    | succ j ih =>
      intro i q v m9 hij hv hq h9 hK hA hQ9
      refine vl_X11_number_32 ⟨fun c => absurd c (nI_ge (a := i) (b := 4) (by omega) (by omega)), fun _ => sp_mark h9 hq hl ⟨_, _, rfl, sp_in 48 57 (fun z => ⟨_, _, rfl, fun c => absurd c (by decide), fun _ => ?_⟩) (fun z => ⟨_, _, rfl, fun _ => ?_, fun c => absurd rfl c⟩)⟩⟩
      · have hd := ((mk_dig hc).mp z).2
        have hdd := of_decide_eq_true hd
        have e1 : dlF l q (j + 1) = 1 + dlF l (q + 1) j := if_pos hd
        have e2 : nvF l q v (j + 1) = nvF l (q + 1) (v * 10 + (l.getD q 0 - 48)) j := if_pos hd
        rw [h9.2.2.2.1, nI_clamp (n := q) (by omega), h9.2.1 q hdd.1]
        refine ⟨inb_n q 60 (by omega), fun t7 e7 m8 e8 t9 e9 => ?_⟩
        rw [nI_1] at e8
        have ev : t7 = nI (v * 10 + (l.getD q 0 - 48)) := by
          rw [e7, show (10 : Int32) = nI 10 from rfl, show (48 : Int32) = nI 48 from rfl, pk_mul, nI_add, nI_sub (by omega), show 10 * v + l.getD q 0 - 48 = v * 10 + (l.getD q 0 - 48) by omega]
        obtain ⟨p8, k8⟩ := h9.p e8
        rw [e9, nI_1, ev]
        refine ih (i + 1) (q + 1) _ m8 (by omega) (by rw [Nat.pow_succ]; omega) (by omega) p8 (hK.tr k8) (fun k => by rw [e8, mup_no (by omega)]; exact hA k) (fun m7 h7 hK7 hA7 => ?_)
        have e := hQ9 m7 (by rw [e1, show q + (1 + dlF l (q + 1) j) = q + 1 + dlF l (q + 1) j by omega]; exact h7) hK7 hA7
        rw [e2] at e
        exact e
      · have hd : isDg l q = false := by
          cases hb : isDg l q with
          | false => rfl
          | true => exact absurd ((mk_dig hc).mpr ⟨rfl, hb⟩) z
        have e1 : dlF l q (j + 1) = 0 := if_neg (by rw [hd]; decide)
        have e2 : nvF l q v (j + 1) = v := if_neg (by rw [hd]; decide)
        have e := hQ9 m9 (by rw [e1, Nat.add_zero]; exact h9) hK hA
        rw [e2] at e
        exact e
  rw [h.2.2.1]
  refine sp_in 48 57 (fun z => ⟨_, _, rfl, fun _ => ?_, fun c => absurd (by decide) c⟩) (fun z => ⟨_, _, rfl, fun c => absurd rfl c, fun _ => ?_⟩)
  · have hd := (mk_dig hc).mp z
    have e0 : bI w ||| 0 = bI false := by rw [hd.1]; decide
    rw [e0]
    refine ⟨okT_b _, fun m6 e6 => ?_⟩
    obtain ⟨p6, k6⟩ := h.w e6
    refine key 4 0 p 0 m6 (by omega) (by decide) hp p6 k6 (fun k => by rw [e6, mup_no (by omega)]) (fun m8 h8 hK8 hA8 => h1 hd m8 h8 hK8 hA8)
  · have e0 : bI w ||| 1 = bI true := by cases w <;> decide
    rw [e0]
    refine ⟨okT_b _, fun m7 e7 => ?_⟩
    obtain ⟨p7, k7⟩ := h.w e7
    refine vl_X11_number_32 ⟨fun c => absurd c (by decide), fun _ => sp_mark p7 hp hl ⟨_, _, rfl, sp_in 48 57 (fun z9 => ?_) (fun z9 => ⟨_, _, rfl, fun _ => ?_, fun c => absurd rfl c⟩)⟩⟩
    · exact absurd ((mk_dig hc).mp z9).1 (by decide)
    · exact h0 (fun y => z ((mk_dig hc).mpr y)) m7 p7 k7 (fun k => by rw [e7, mup_no (by omega)])
theorem mk_eq {w : Bool} {p s : Nat} (hc : ∀ c ∈ l, c ≤ 126) (hs : s ≤ 126) : mkI l w p = nI s ↔ (w = false ∧ p < l.length ∧ l.getD p 0 = s) := by
  unfold mkI
  by_cases h : w = false ∧ p < l.length
  · have hb := hc _ (getD_mem h.2)
    rw [if_pos h, nI_eq (by omega) (by omega)]
    constructor
    · intro z; exact ⟨h.1, h.2, z⟩
    · intro z; exact z.2.2
  · rw [if_neg h]
    constructor
    · intro z
      exact absurd (show (0 : Int32) ≤ nI s from nI_pos' (by omega)) (by rw [← z]; decide)
    · rintro ⟨z1, z2, _⟩; exact absurd ⟨z1, z2⟩ h
/-- a sign and a number -/
theorem sp_reads {w : Bool} {p s off : Nat} (h : PM m l w p cm) (hp : p ≤ l.length) (hl : l.length ≤ 60) (hc : ∀ c ∈ l, c ≤ 126) (hs : s ≤ 126) (ho : off < 8) (hcm : cm < 32)
    (h1 : (w = false ∧ p < l.length ∧ l.getD p 0 = s) → isDg l (p + 1) = true → ∀ m9, PM m9 l false (p + 1 + dl l (p + 1)) cm → KW cm m m9 → m9 42 0 (8 * cm + off) = nI (nv l (p + 1)) → (∀ k, k ≠ 8 * cm + off → m9 42 0 k = m 42 0 k) → Q (.inl none, G x m9))
    (h2 : (w = false ∧ p < l.length ∧ l.getD p 0 = s) → isDg l (p + 1) = false → ∀ m9, PM m9 l true (p + 1) cm → KW cm m m9 → Q (.inl none, G x m9))
    (h3 : ¬ (w = false ∧ p < l.length ∧ l.getD p 0 = s) → ∀ m9, PM m9 l true p cm → KW cm m m9 → Q (.inl none, G x m9)) : Cl X (d + 2) 259 [vp 31 0, vi (nI s), vi (nI off)] (G x m) Q := by
  refine vc_X11_reads (sp_mark h hp hl ⟨_, _, rfl, ?_⟩)
  have ix : (8 * nI cm + nI off).toNatClampNeg = 8 * cm + off ∧ inb (8 * nI cm + nI off) 256 = true := by
    rw [show (8 : Int32) = nI 8 from rfl, pk_mul, nI_add]
    exact ⟨nI_clamp (by omega), inb_n (8 * cm + off) 256 (by omega)⟩
  rw [h.2.2.1]
  by_cases hm : w = false ∧ p < l.length ∧ l.getD p 0 = s
  · have e0 : bI w ||| 0 = bI false := by rw [hm.1]; decide
    refine ⟨fun _ => ?_, fun c => absurd ((mk_eq hc hs).mpr hm) c⟩
    rw [e0]
    refine ⟨okT_b _, fun m4 e4 => ?_⟩
    obtain ⟨p4, k4⟩ := h.w e4
    refine ⟨fun _ m6 e6 => ?_, fun c => absurd p4.2.2.1 c⟩
    rw [p4.2.2.2.1, nI_1] at e6
    obtain ⟨p6, k6⟩ := p4.p e6
    rw [p6.2.2.2.2, ix.1]
    have A6 : ∀ k, m6 42 0 k = m 42 0 k := fun k => by rw [e6, mup_no (by omega), e4, mup_no (by omega)]
    refine sp_mnum p6 (by omega) hl hc (fun z m8 h8 k8 a8 => ⟨_, _, rfl, ix.2, fun m9 e9 => ?_⟩) (fun z m8 h8 k8 a8 => ⟨_, _, rfl, ix.2, fun m9 e9 => ?_⟩)
    · obtain ⟨p9, k9⟩ := h8.a ho e9
      exact h1 hm z.2 m9 p9 (((k4.tr k6).tr k8).tr k9) (by rw [e9, mup_eq]) (fun k hk => by rw [e9, mup_no (by omega), a8, A6])
    · obtain ⟨p9, k9⟩ := h8.a ho e9
      refine h2 hm ?_ m9 p9 (((k4.tr k6).tr k8).tr k9)
      cases hb : isDg l (p + 1) with
      | false => rfl
      | true => exact absurd ⟨rfl, hb⟩ z
  · have e0 : bI w ||| 1 = bI true := by cases w <;> decide
    refine ⟨fun c => absurd ((mk_eq hc hs).mp c) hm, fun _ => ?_⟩
    rw [e0]
    refine ⟨okT_b _, fun m14 e14 => ?_⟩
    obtain ⟨p4, k4⟩ := h.w e14
    refine ⟨fun c => absurd (p4.2.2.1.symm.trans c) (by decide), fun _ m20 e20 => ?_⟩
    rw [p4.2.2.2.1, Int32.add_zero] at e20
    obtain ⟨p6, k6⟩ := p4.p e20
    rw [p6.2.2.2.2, ix.1]
    refine sp_mnum p6 (by omega) hl hc (fun z m8 h8 k8 a8 => Bool.noConfusion z.1) (fun z m8 h8 k8 a8 => ⟨_, _, rfl, ix.2, fun m9 e9 => ?_⟩)
    obtain ⟨p9, k9⟩ := h8.a ho e9
    exact h3 hm m9 p9 (((k4.tr k6).tr k8).tr k9)
end MSCR
