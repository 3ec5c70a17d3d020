/-! ===== THE CLASS: HISTORY, CHANGES ===== -/
abbrev lenOk (a : AS) : Prop := (aC a).length ≤ 10 ∧ (aR a).length ≤ 6 ∧ okMet (aMet a)
theorem okA.len {B : Nat} {a : AS} (h : okA B a) : lenOk a := ⟨h.1.1, h.1.2.1, h.1.2.2.2.2.2⟩
def hpush (a : AS) (H : List AS) : List AS := (a :: H).take 8
def relH (m : MI) (H : List AS) : Prop := ∃ nx, nx < 8 ∧ m 8 0 1 = nI nx ∧ m 8 0 2 = nI H.length ∧ H.length ≤ 8 ∧ ∀ (i : Nat) (b : AS), H[i]? = some b → relS m (3 + (nx + 7 - i) % 8) b
def tH (f i : Nat) : Prop := f = 8 ∨ ((f = 1 ∨ f = 2 ∨ f = 3) ∧ 3 ≤ i ∧ i ≤ 10) ∨ (f = 5 ∧ 30 ≤ i ∧ i < 110) ∨ (f = 7 ∧ 18 ≤ i ∧ i < 66)
theorem hp_len {a : AS} {H : List AS} (h : H.length ≤ 8) : (hpush a H).length = min (H.length + 1) 8 := by
  unfold hpush
  rw [List.length_take, List.length_cons]
  omega
theorem hp_get {a : AS} {H : List AS} {i : Nat} {b : AS} (h : (hpush a H)[i]? = some b) : i < 8 ∧ ((i = 0 ∧ b = a) ∨ ∃ j, i = j + 1 ∧ H[j]? = some b) := by
  unfold hpush at h
  rw [List.getElem?_take] at h
  by_cases hi : i < 8
  · rw [if_pos hi] at h
    refine ⟨hi, ?_⟩
    cases i with
    | zero => exact Or.inl ⟨rfl, (Option.some.inj h).symm⟩
    | succ j => exact Or.inr ⟨j, rfl, h⟩
  · rw [if_neg hi] at h; cases h
theorem hp_mem {a b : AS} {H : List AS} (h : b ∈ hpush a H) : b = a ∨ b ∈ H := by
  have := List.mem_of_mem_take h
  exact List.mem_cons.mp this
def HyP (fl : Bool) (m : MI) (H : List AS) : Prop := m 0 0 11 = (if fl then 1 else 0) ∧ (fl = false → relH m H)
/-- what a change touches -/
def tO (fl : Bool) (f i : Nat) : Prop := inSt 0 f i ∨ (11 ≤ f ∧ f ≤ 22 ∧ ¬ (f = 18 ∧ i = 0)) ∨ (fl = false ∧ tH f i)
theorem tO_S {fl : Bool} {f i : Nat} (h : inSt 0 f i) : tO fl f i := Or.inl h
theorem relH.on {m m9 : MI} {H : List AS} (h : relH m H) (hl : ∀ b ∈ H, lenOk b) (hf : ∀ f i k, tH f i → m9 f i k = m f i k) : relH m9 H := by
  obtain ⟨nx, h1, h2, h3, h4, h5⟩ := h
  refine ⟨nx, h1, by rw [hf 8 0 1 (Or.inl rfl)]; exact h2, by rw [hf 8 0 2 (Or.inl rfl)]; exact h3, h4, fun i b hb => ?_⟩
  have hm := hl b (List.mem_of_getElem? hb)
  refine (h5 i b hb).on hm.1 hm.2.1 (fun f j k hj => hf f j k ?_)
  unfold inSt at hj
  unfold tH
  omega
theorem HyP.on {fl : Bool} {m m9 : MI} {H : List AS} (h : HyP fl m H) (hl : ∀ b ∈ H, lenOk b) (h0 : m9 0 0 11 = m 0 0 11) (hf : ∀ f i k, tH f i → m9 f i k = m f i k) : HyP fl m9 H :=
  ⟨h0.trans h.1, fun c => (h.2 c).on hl hf⟩
/-- a change of the state at hand leaves the history alone -/
theorem HyP.st {fl : Bool} {m m9 : MI} {H : List AS} (h : HyP fl m H) (hl : ∀ b ∈ H, lenOk b) (hf : Fr (inSt 0) m m9) : HyP fl m9 H :=
  h.on hl (hf 0 0 11 (by unfold inSt; omega)) (fun f i k ht => hf f i k (by unfold tH at ht; unfold inSt; omega))
section CHG
variable {X : MX} {d : Nat} {x : Int64 × UInt64} {m : MI} {Q : MRes → Prop} {a : AS} {H : List AS} {fl : Bool}
theorem sp_push {q : Nat} (h : relS m q a) (hq : q ≤ 2) (ho : lenOk a) (hH : relH m H) (hl : ∀ b ∈ H, lenOk b) (hQ : ∀ m9, relH m9 (hpush a H) → Fr tH m m9 → Q (.inl none, G x m9)) : Cl X (d + 2) 96 [vp 8 0, vp 1 q] (G x m) Q := by
  refine vc_X3_push ?_
  obtain ⟨nx, h1, h2, h3, h4, h5⟩ := hH
  rw [h2, nI_clamp (n := nx) (by omega)]
  refine ⟨inb_n nx 8 h1, sp_cpyS h ho.1 ho.2.1 ho.2.2 (by omega) (fun m2 hS hF => ⟨_, rfl, fun m3 e3 m4 e4 => ?_⟩)⟩
  have e81 : m2 8 0 1 = nI nx := (hF 8 0 1 (by unfold inSt; omega)).trans h2
  have e82 : m3 8 0 2 = nI H.length := by rw [e3, mup_no (by omega)]; exact (hF 8 0 2 (by unfold inSt; omega)).trans h3
  rw [e81, nI_1, show (8 : Int32) = nI 8 from rfl, pk_rem (by omega) (by omega) (by omega)] at e3
  have e9 : (if nI H.length + 1 < 8 then nI H.length + 1 else (8 : Int32)) = nI (min (H.length + 1) 8) := by
    have e88 : (8 : Int32) = nI 8 := rfl
    rw [nI_1, e88]
    by_cases hc : H.length + 1 < 8
    · rw [if_pos (nI_lt hc (by omega)), Nat.min_eq_left (by omega)]
    · rw [if_neg (nI_nlt (by omega) (by omega)), Nat.min_eq_right (by omega)]
  rw [e82, e9] at e4
  have F4 : Fr (fun f _ => f = 8) m2 m4 := by
    rw [e4, e3]
    exact Fr.ups (Fr.up rfl) rfl
  refine hQ m4 ⟨(nx + 1) % 8, by omega, ?_, ?_, by rw [hp_len h4]; omega, fun i b hb => ?_⟩ ((hF.mono (fun f i hi => ?_)).tr (F4.mono (fun f i hi => Or.inl hi)))
  · rw [e4, mup_no (by omega), e3, mup_eq]
  · rw [e4, mup_eq, hp_len h4]
  · obtain ⟨hi, hb1 | ⟨j, rfl, hb2⟩⟩ := hp_get hb
    · obtain ⟨rfl, rfl⟩ := hb1
      rw [show 3 + ((nx + 1) % 8 + 7 - 0) % 8 = 3 + nx by omega]
      exact hS.on ho.1 ho.2.1 (fun f j k hj => F4 f j k (by unfold inSt at hj; omega))
    · have hm := hl b (List.mem_of_getElem? hb2)
      rw [show 3 + ((nx + 1) % 8 + 7 - (j + 1)) % 8 = 3 + (nx + 7 - j) % 8 by omega]
      refine (h5 j b hb2).on hm.1 hm.2.1 (fun f i k hj => (F4 f i k (by unfold inSt at hj; omega)).trans (hF f i k ?_))
      unfold inSt at hj ⊢
      omega
  · unfold inSt at hi
    unfold tH
    omega
theorem sp_pop {b : AS} (h : relH m (b :: H)) (hl : ∀ c ∈ b :: H, lenOk c) (hQ : ∀ m9, relS m9 0 b → relH m9 H → Fr (fun f i => inSt 0 f i ∨ f = 8) m m9 → Q (.inl none, G x m9)) : Cl X (d + 2) 97 [vp 8 0, vp 1 0] (G x m) Q := by
  refine vc_X3_popInto (fun m1 e1 => ?_)
  obtain ⟨nx, h1, h2, h3, h4, h5⟩ := h
  have ho := hl b List.mem_cons_self
  have hlen : (b :: H).length = H.length + 1 := List.length_cons
  have hb := h5 0 b rfl
  rw [Nat.sub_zero] at hb
  rw [h2, show (8 : Int32) = nI 8 from rfl, nI_add, show nI (nx + 8) - 1 = nI (nx + 7) from nI_pred (nx + 7), pk_rem (by omega) (by omega) (by omega)] at e1
  have F1 : Fr (fun f _ => f = 8) m m1 := by
    rw [e1]
    exact Fr.up rfl
  have e81 : m1 8 0 1 = nI ((nx + 7) % 8) := by rw [e1, mup_eq]
  rw [e81, nI_clamp (n := (nx + 7) % 8) (by omega)]
  have hb1 : relS m1 (3 + (nx + 7) % 8) b := hb.on ho.1 ho.2.1 (fun f j k hj => F1 f j k (by unfold inSt at hj; omega))
  refine ⟨inb_n ((nx + 7) % 8) 8 (by omega), sp_cpyS hb1 ho.1 ho.2.1 ho.2.2 (by omega) (fun m3 hS hF => ⟨_, rfl, fun m4 e4 => ?_⟩)⟩
  have e82 : m3 8 0 2 = nI (H.length + 1) := by
    rw [hF 8 0 2 (by unfold inSt; omega), e1, mup_no (by omega), h3, hlen]
  rw [e82, nI_pred] at e4
  have F4 : Fr (fun f _ => f = 8) m3 m4 := by
    rw [e4]
    exact Fr.up rfl
  have F9 : Fr (fun f i => inSt 0 f i ∨ f = 8) m m4 := ((F1.mono (fun f i hi => Or.inr hi)).tr (hF.mono (fun f i hi => Or.inl hi))).tr (F4.mono (fun f i hi => Or.inr hi))
  refine hQ m4 (hS.on ho.1 ho.2.1 (fun f j k hj => F4 f j k (by unfold inSt at hj; omega))) ⟨(nx + 7) % 8, by omega, ?_, ?_, by omega, fun i c hc => ?_⟩ F9
  · rw [e4, mup_no (by omega), hF 8 0 1 (by unfold inSt; omega), e81]
  · rw [e4, mup_eq]
  · have hi : i < H.length := (List.getElem?_eq_some_iff.mp hc).1
    have hm := hl c (List.mem_cons_of_mem b (List.mem_of_getElem? hc))
    have h9 := h5 (i + 1) c hc
    rw [show 3 + (nx + 7 - (i + 1)) % 8 = 3 + ((nx + 7) % 8 + 7 - i) % 8 by omega] at h9
    refine h9.on hm.1 hm.2.1 (fun f i k hj => F9 f i k ?_)
    unfold inSt at hj ⊢
    omega
theorem sp_forget (hQ : ∀ m9, relH m9 [] → Fr (fun f _ => f = 8) m m9 → Q (.inl none, G x m9)) (h : relH m H) : Cl X d 98 [vp 8 0] (G x m) Q := by
  refine vc_X3_forget (fun m1 e1 => ?_)
  obtain ⟨nx, h1, h2, h3, h4, h5⟩ := h
  refine hQ m1 ⟨nx, h1, ?_, ?_, Nat.zero_le _, fun i b hb => by cases hb⟩ ?_
  · rw [e1, mup_no (by omega)]; exact h2
  · rw [e1, mup_eq]; rfl
  · rw [e1]; exact Fr.up rfl
theorem sp_rem (h : relS m 0 a) (ho : lenOk a) (hH : HyP fl m H) (hl : ∀ b ∈ H, lenOk b) (hQ : ∀ m9, HyP fl m9 (hpush a H) → Fr (fun f i => fl = false ∧ tH f i) m m9 → Q (.inl none, G x m9)) : Cl X (d + 3) 64 [vp 0 0] (G x m) Q := by
  refine vc_X10_remember ?_
  rw [hH.1]
  cases fl with
  | true => exact ⟨fun _ => hQ m ⟨hH.1, fun c => Bool.noConfusion c⟩ Fr.rf, fun c => absurd (by decide) c⟩
  | false =>
    refine ⟨fun c => absurd rfl c, fun _ => sp_push h (by omega) ho (hH.2 rfl) hl (fun m3 h3 hF => ⟨_, rfl, hQ m3 ⟨?_, fun _ => h3⟩ (hF.mono (fun f i hi => ⟨rfl, hi⟩))⟩)⟩
    rw [hF 0 0 11 (by unfold tH; omega)]
    exact hH.1
/-- numbers between bounds -/
abbrev inR (p : Int32) (lo hi : Nat) : Prop := nI lo ≤ p ∧ p ≤ nI hi
abbrev clN (p : Int32) : Nat := p.toNatClampNeg
theorem inR_cl {p : Int32} {lo hi : Nat} (h : inR p lo hi) (hl : lo ≤ hi := by omega) (hh : hi < 2 ^ 31 := by omega) : p = nI (clN p) ∧ lo ≤ clN p ∧ clN p ≤ hi := by
  obtain ⟨j, hj, rfl⟩ := nI_of (fun hn => absurd (Int32.lt_of_le_of_lt h.1 hn) (nI_pos (by omega)))
  have e : clN (nI j) = j := nI_clamp hj
  rw [e]
  exact ⟨rfl, (nI_leI (by omega) hj).mp h.1, (nI_leI hj hh).mp h.2⟩
theorem sp_isb {p : Int32} (lo hi : Nat) (h1 : inR p lo hi → Q (.inl (some (vi 1)), G x m)) (h0 : ¬ inR p lo hi → Q (.inl (some (vi 0)), G x m)) : Cl X d 57 [vi p, vi (nI lo), vi (nI hi)] (G x m) Q := by
  refine vc_X10_isBetween ⟨fun c => h0 (fun z => absurd c (Int32.not_lt.mpr z.1)), fun c => ⟨fun c2 => h0 (fun z => absurd c2 (Int32.not_lt.mpr z.2)), fun c2 => h1 ⟨Int32.not_lt.mp c, Int32.not_lt.mp c2⟩⟩⟩
abbrev isP3 (p q r : Int32) : Prop := inR p 0 99 ∧ inR q 0 99 ∧ inR r 0 99
theorem sp_isC {p q r : Int32} (h1 : isP3 p q r → Q (.inl (some (vi 1)), G x m)) (h0 : ¬ isP3 p q r → Q (.inl (some (vi 0)), G x m)) : Cl X (d + 1) 58 [vi p, vi q, vi r] (G x m) Q := by
  refine vc_X10_isColour ?_
  refine sp_isb 0 99 (fun c1 => ⟨_, _, rfl, fun c => absurd c (by decide), fun _ => ?_⟩) (fun c1 => ⟨_, _, rfl, fun _ => h0 (fun z => c1 z.1), fun c => absurd rfl c⟩)
  refine sp_isb 0 99 (fun c2 => ⟨_, _, rfl, fun c => absurd c (by decide), fun _ => ?_⟩) (fun c1 => ⟨_, _, rfl, fun _ => h0 (fun z => c1 z.2.1), fun c => absurd rfl c⟩)
  refine sp_isb 0 99 (fun c3 => ⟨_, _, rfl, fun c => absurd c (by decide), fun _ => h1 ⟨c1, c2, c3⟩⟩) (fun c1 => ⟨_, _, rfl, fun _ => h0 (fun z => c1 z.2.2), fun c => absurd rfl c⟩)
def whyAdd (a : AS) (p q r f : Int32) : Nat := if isP3 p q r ∧ inR f 1 9 then (if (aC a).length = 10 then 2 else 0) else 1
def whyRep (a : AS) (p q r t w : Int32) : Nat := if isP3 p q r ∧ inR t 0 9999 ∧ inR w 1 99 then (if (aR a).length = 6 then 2 else 0) else 1
theorem sp_addColour {p q r f : Int32} (h : relS m 0 a) (ho : lenOk a) (hH : HyP fl m H) (hl : ∀ b ∈ H, lenOk b)
    (h1 : whyAdd a p q r f = 1 → Q (.inr 0, Gu (1, 6) x m)) (h2 : whyAdd a p q r f = 2 → Q (.inr 1, Gu (1, 6) x m))
    (h0 : whyAdd a p q r f = 0 → ∀ m9, relS m9 0 (asAdd a (clN p) (clN q) (clN r) (clN f)) → HyP fl m9 (hpush a H) → Fr (tO fl) m m9 → Q (.inl (some (vi (nI (aXC a)))), G x m9)) : Cl X (d + 4) 1 [vp 0 0, vi p, vi q, vi r, vi f] (G x m) Q := by
  refine vc_X10_addColour ?_
  unfold whyAdd at h1 h2 h0
  refine sp_isC (fun c1 => ⟨_, _, rfl, fun c => absurd c (by decide), fun _ => ?_⟩) (fun c1 => ⟨_, _, rfl, fun _ => h1 (if_neg (fun z => c1 z.1)), fun c => absurd rfl c⟩)
  refine sp_isb 1 9 (fun c2 => ⟨_, _, rfl, fun _ => ?_, fun c => absurd (by decide) c⟩) (fun c2 => ⟨_, _, rfl, fun c => absurd rfl c, fun _ => h1 (if_neg (fun z => c2 z.2))⟩)
  rw [if_pos ⟨c1, c2⟩] at h1 h2 h0
  refine sp_fullC h.1 ho.1 ⟨_, _, rfl, ?_⟩
  by_cases hc : (aC a).length < 10
  · rw [if_pos hc]
    refine ⟨fun _ => ?_, fun c => absurd rfl c⟩
    refine sp_rem h ho hH hl (fun m9 hH9 hF9 => ⟨_, rfl, ?_⟩)
    have h9 : relS m9 0 a := h.on ho.1 ho.2.1 (fun f i k hi => hF9 f i k (by unfold inSt at hi; unfold tH; omega))
    rw [h9.2.2.1, (inR_cl c1.1).1, (inR_cl c1.2.1).1, (inR_cl c1.2.2).1, (inR_cl c2).1]
    refine sp_appC h9.1 hc (fun m8 hT hF => ⟨_, _, rfl, ?_⟩)
    have F8 : Fr (inSt 0) m9 m8 := hF.mono (fun f i hi => tC_S hi)
    have hl9 : ∀ b ∈ hpush a H, lenOk b := fun b hb => by
      rcases hp_mem hb with rfl | hb
      · exact ho
      · exact hl b hb
    exact h0 (if_neg (by omega)) m8 (h9.setC ho.2.1 hF hT) (hH9.st hl9 F8) ((hF9.mono (fun f i hi => Or.inr (Or.inr hi))).tr (F8.mono (fun f i hi => Or.inl hi)))
  · rw [if_neg hc]
    exact ⟨fun c => absurd c (by decide), fun _ => h2 (if_pos (by omega))⟩
end CHG
