/-! ===== THE CLASS: CHANGES, CONTINUED ===== -/
theorem okA.c {B k : Nat} {a : AS} (h : okA B a) (hk : k < (aC a).length) : okC (aXC a) (rowD (aC a) k) ∧ rowD (aC a) k 5 ≤ aDay a := h.2.1.1 _ (rowD_mem hk)
theorem okA.r {B k : Nat} {a : AS} (h : okA B a) (hk : k < (aR a).length) : okRp (aXR a) (rowD (aR a) k) := h.2.2.1 _ (rowD_mem hk)
theorem okA.rpC {B k s : Nat} {a : AS} {m : MI} (ho : okA B a) (h : relS m s a) (hk : k < (aC a).length) : rparts m 5 (10 * s + k) (rowD (aC a) k) := fun o h1 h3 => by
  refine ⟨h.1.2.2 k hk o (by omega), ?_⟩
  have := (ho.c hk).1
  unfold okC at this
  have hc : o = 1 ∨ o = 2 ∨ o = 3 := by omega
  rcases hc with rfl | rfl | rfl <;> omega
theorem okA.rpR {B k s : Nat} {a : AS} {m : MI} (ho : okA B a) (h : relS m s a) (hk : k < (aR a).length) : rparts m 7 (6 * s + k) (rowD (aR a) k) := fun o h1 h3 => by
  refine ⟨h.2.1.2.2 k hk o (by omega), ?_⟩
  have := ho.r hk
  unfold okRp at this
  have hc : o = 1 ∨ o = 2 ∨ o = 3 := by omega
  rcases hc with rfl | rfl | rfl <;> omega
theorem pk_eqn {a b : Nat} {A B : Prop} (f : a = b → A) (g : a ≠ b → B) (ha : a < 2 ^ 31) (hb : b < 2 ^ 31) : (¬ nI a = nI b → B) ∧ (¬ ¬ nI a = nI b → A) := by
  rw [nI_eq ha hb, Decidable.not_not]
  exact ⟨g, f⟩
theorem mx_nI {a b : Nat} (ha : a < 2 ^ 31) (hb : b < 2 ^ 31) : (if nI a < nI b then nI b else nI a) = nI (max a b) := by
  by_cases h : a < b
  · rw [if_pos (nI_lt h hb), Nat.max_eq_right (Nat.le_of_lt h)]
  · rw [if_neg (nI_nlt (Nat.not_lt.mp h) ha), Nat.max_eq_left (Nat.not_lt.mp h)]
theorem mn_nI {a b : Nat} (ha : a < 2 ^ 31) (hb : b < 2 ^ 31) : (if nI a < nI b then nI a else nI b) = nI (min a b) := by
  by_cases h : a < b
  · rw [if_pos (nI_lt h hb), Nat.min_eq_left (Nat.le_of_lt h)]
  · rw [if_neg (nI_nlt (Nat.not_lt.mp h) ha), Nat.min_eq_right (Nat.not_lt.mp h)]
def nrR (a : AS) (p : Nat) : Int32 := nrV (fun k => dst (aMet a) (rowD (aR a) p) (rowD (aC a) k)) (aC a).length
abbrev fitP (a : AS) (p q : Nat) : Prop := dst (aMet a) (rowD (aR a) p) (rowD (aC a) q) ≤ rowD (aR a) p 4
def whyGive (a : AS) (p q : Int32) : Nat := if posI (aR a) p < (aR a).length ∧ posI (aC a) q < (aC a).length then (if nrR a (posI (aR a) p) = nI (posI (aC a) q) ∧ fitP a (posI (aR a) p) (posI (aC a) q) then 0 else 2) else 1
def whyMix (a : AS) (p q : Int32) : Nat := if posI (aC a) p < (aC a).length ∧ posI (aC a) q < (aC a).length then (if p = q then 2 else 0) else 1
def whyDays (p : Int32) : Nat := if inR p 1 99 then 0 else 1
def grey (r : Row) : Bool := decide (r 1 = 50 ∧ r 2 = 50 ∧ r 3 = 50)
def greyN (l : List Row) : Nat := fa_cnt (fun k => grey (rowD l k)) l.length
section CHG2
variable {X : MX} {d : Nat} {x : Int64 × UInt64} {m : MI} {Q : MRes → Prop} {a : AS} {H : List AS} {fl : Bool} {B s : Nat}
theorem sp_report {p q r t w : Int32} (h : relS m 0 a) (ho : lenOk a) (hH : HyP fl m H) (hl : ∀ b ∈ H, lenOk b)
    (h1 : whyRep a p q r t w = 1 → Q (.inr 0, Gu (1, 6) x m)) (h2 : whyRep a p q r t w = 2 → Q (.inr 1, Gu (1, 6) x m))
    (h0 : whyRep a p q r t w = 0 → ∀ m9, relS m9 0 (asRep a (clN p) (clN q) (clN r) (clN t) (clN w)) → HyP fl m9 (hpush a H) → Fr (tO fl) m m9 → Q (.inl (some (vi (nI (aXR a)))), G x m9)) : Cl X (d + 4) 2 [vp 0 0, vi p, vi q, vi r, vi t, vi w] (G x m) Q := by
  refine vc_X10_report ?_
  unfold whyRep at h1 h2 h0
  refine sp_isC (fun c1 => ⟨_, _, rfl, fun c => absurd c (by decide), fun _ => ?_⟩) (fun c1 => ⟨_, _, rfl, fun _ => h1 (if_neg (fun z => c1 z.1)), fun c => absurd rfl c⟩)
  refine sp_isb 0 9999 (fun c2 => ⟨_, _, rfl, fun c => absurd c (by decide), fun _ => ?_⟩) (fun c2 => ⟨_, _, rfl, fun _ => h1 (if_neg (fun z => c2 z.2.1)), fun c => absurd rfl c⟩)
  refine sp_isb 1 99 (fun c3 => ⟨_, _, rfl, fun _ => ?_, fun c => absurd (by decide) c⟩) (fun c3 => ⟨_, _, rfl, fun c => absurd rfl c, fun _ => h1 (if_neg (fun z => c3 z.2.2))⟩)
  rw [if_pos ⟨c1, c2, c3⟩] at h1 h2 h0
  refine sp_fullR h.2.1 ho.2.1 ⟨_, _, rfl, ?_⟩
  by_cases hc : (aR a).length < 6
  · rw [if_pos hc]
    refine ⟨fun _ => ?_, fun c => absurd rfl c⟩
    refine sp_rem h ho hH hl (fun m9 hH9 hF9 => ⟨_, rfl, ?_⟩)
    have h9 : relS m9 0 a := h.on ho.1 ho.2.1 (fun f i k hi => hF9 f i k (by unfold inSt at hi; unfold tH; omega))
    rw [(inR_cl c1.1).1, (inR_cl c1.2.1).1, (inR_cl c1.2.2).1, (inR_cl c2).1, (inR_cl c3).1]
    refine sp_appR h9.2.1 hc (fun m8 hT hF => ⟨_, _, rfl, ?_⟩)
    have F8 : Fr (inSt 0) m9 m8 := hF.mono (fun f i hi => tR_S hi)
    have hl9 : ∀ b ∈ hpush a H, lenOk b := fun b hb => by
      rcases hp_mem hb with rfl | hb
      · exact ho
      · exact hl b hb
    exact h0 (if_neg (by omega)) m8 (h9.setR ho.1 hF hT) (hH9.st hl9 F8) ((hF9.mono (fun f i hi => Or.inr (Or.inr hi))).tr (F8.mono (fun f i hi => Or.inl hi)))
  · rw [if_neg hc]
    exact ⟨fun c => absurd c (by decide), fun _ => h2 (if_pos (by omega))⟩
theorem hl_push {ho : lenOk a} (hl : ∀ b ∈ H, lenOk b) : ∀ b ∈ hpush a H, lenOk b := fun b hb => by
  rcases hp_mem hb with rfl | hb
  · exact ho
  · exact hl b hb
theorem sp_withdraw {p : Int32} (h : relS m 0 a) (ho : lenOk a) (hH : HyP fl m H) (hl : ∀ b ∈ H, lenOk b)
    (h1 : posI (aR a) p = (aR a).length → Q (.inr 2, Gu (1, 6) x m))
    (h0 : posI (aR a) p < (aR a).length → ∀ m9, relS m9 0 (asWd a (posI (aR a) p)) → HyP fl m9 (hpush a H) → Fr (tO fl) m m9 → Q (.inl (some (vi (nI ((aR a).length - 1)))), G x m9)) : Cl X (d + 4) 3 [vp 0 0, vi p] (G x m) Q := by
  refine vc_X10_withdraw (sp_open h ho.2.1 (fun hc => Or.inl ⟨_, _, rfl, ?_⟩) (fun hc => Or.inr ⟨_, _, _, rfl, h1 hc⟩))
  refine sp_rem h ho hH hl (fun m9 hH9 hF9 => ⟨_, rfl, ?_⟩)
  have h9 : relS m9 0 a := h.on ho.1 ho.2.1 (fun f i k hi => hF9 f i k (by unfold inSt at hi; unfold tH; omega))
  refine sp_rmR h9.2.1 ho.2.1 hc (fun m8 hT hF => ⟨_, rfl, ?_⟩)
  have F8 : Fr (inSt 0) m9 m8 := hF.mono (fun f i hi => tR_S hi)
  rw [hT.1, len_er hc]
  exact h0 hc m8 (h9.setR ho.1 hF hT) (hH9.st (hl_push (ho := ho) hl) F8) ((hF9.mono (fun f i hi => Or.inr (Or.inr hi))).tr (F8.mono (fun f i hi => Or.inl hi)))
theorem sp_discard {p : Int32} (h : relS m 0 a) (ho : lenOk a) (hH : HyP fl m H) (hl : ∀ b ∈ H, lenOk b)
    (h1 : posI (aC a) p = (aC a).length → Q (.inr 2, Gu (1, 6) x m))
    (h0 : posI (aC a) p < (aC a).length → ∀ m9, relS m9 0 (asDis a (posI (aC a) p)) → HyP fl m9 (hpush a H) → Fr (tO fl) m m9 → Q (.inl (some (vi (nI ((aC a).length - 1)))), G x m9)) : Cl X (d + 4) 4 [vp 0 0, vi p] (G x m) Q := by
  refine vc_X10_discard (sp_found h ho.1 (fun hc => Or.inl ⟨_, _, rfl, ?_⟩) (fun hc => Or.inr ⟨_, _, _, rfl, h1 hc⟩))
  refine sp_rem h ho hH hl (fun m9 hH9 hF9 => ⟨_, rfl, ?_⟩)
  have h9 : relS m9 0 a := h.on ho.1 ho.2.1 (fun f i k hi => hF9 f i k (by unfold inSt at hi; unfold tH; omega))
  refine sp_rmC h9.1 ho.1 hc (fun m8 hT hF => ⟨_, rfl, ?_⟩)
  refine sp_pay (h9.setC ho.2.1 hF hT) (fun m7 h7 hF7 => ⟨_, rfl, ?_⟩)
  have F7 : Fr (inSt 0) m9 m7 := (hF.mono (fun f i hi => tC_S hi)).tr (hF7.mono (fun f i hi => t1_S hi))
  rw [h7.1.1, len_er hc]
  exact h0 hc m7 h7 (hH9.st (hl_push (ho := ho) hl) F7) ((hF9.mono (fun f i hi => Or.inr (Or.inr hi))).tr (F7.mono (fun f i hi => Or.inl hi)))
def isMt (p : Int32) : Prop := p = 109 ∨ p = 115 ∨ p = 103
theorem isMt_ok {p : Int32} (h : isMt p) : p = nI (clN p) ∧ okMet (clN p) := by
  rcases h with rfl | rfl | rfl
  · exact ⟨rfl, Or.inl rfl⟩
  · exact ⟨rfl, Or.inr (Or.inl rfl)⟩
  · exact ⟨rfl, Or.inr (Or.inr rfl)⟩
theorem sp_isMt {p : Int32} (h1 : isMt p → Q (.inl (some (vi 1)), G x m)) (h0 : ¬ isMt p → Q (.inl (some (vi 0)), G x m)) : Cl X d 59 [vi p] (G x m) Q :=
  vc_X10_isMetric ⟨fun c => h1 (Or.inl c), fun c1 => ⟨fun c => h1 (Or.inr (Or.inl c)), fun c2 => ⟨fun c => h0 (fun z => by rcases z with z | z | z <;> contradiction), fun c => h1 (Or.inr (Or.inr (Decidable.not_not.mp c)))⟩⟩⟩
theorem sp_setMetric {p : Int32} (h : relS m 0 a) (ho : lenOk a) (hH : HyP fl m H) (hl : ∀ b ∈ H, lenOk b)
    (h1 : ¬ isMt p → Q (.inr 0, Gu (1, 6) x m))
    (h0 : isMt p → ∀ m9, relS m9 0 (asMt a (clN p)) → HyP fl m9 (hpush a H) → Fr (tO fl) m m9 → Q (.inl (some (vi (nI (aMet a)))), G x m9)) : Cl X (d + 4) 5 [vp 0 0, vi p] (G x m) Q := by
  refine vc_X10_setMetric (sp_isMt (fun c1 => ⟨_, _, rfl, fun _ => ?_, fun c => absurd (by decide) c⟩) (fun c1 => ⟨_, _, rfl, fun c => absurd rfl c, fun _ => h1 c1⟩))
  refine sp_rem h ho hH hl (fun m9 hH9 hF9 => ⟨_, rfl, fun t6 e6 => ?_⟩)
  have h9 : relS m9 0 a := h.on ho.1 ho.2.1 (fun f i k hi => hF9 f i k (by unfold inSt at hi; unfold tH; omega))
  rw [h9.2.2.2.1] at e6
  obtain ⟨ep, hp⟩ := isMt_ok c1
  refine ⟨by rw [ep]; exact okT_met hp, fun m7 e7 => ⟨by rw [e6]; exact okT_met ho.2.2, ?_⟩⟩
  have F7 : Fr (t1 0) m9 m7 := by rw [e7]; exact Fr.up ⟨rfl, rfl⟩
  have F8 : Fr (inSt 0) m9 m7 := F7.mono (fun f i hi => t1_S hi)
  rw [e6]
  refine h0 c1 m7 (h9.set1 F7 ?_ ?_ ?_ ?_ ?_) (hH9.st (hl_push (ho := ho) hl) F8) ((hF9.mono (fun f i hi => Or.inr (Or.inr hi))).tr (F8.mono (fun f i hi => Or.inl hi)))
  · rw [e7, mup_no (by omega)]; exact h9.2.2.1
  · rw [e7, mup_eq]; exact ep
  · rw [e7, mup_no (by omega)]; exact h9.2.2.2.2.1
  · rw [e7, mup_no (by omega), mup_no (by omega)]; exact h9.2.2.2.2.2.1
  · rw [e7, mup_no (by omega)]; exact h9.2.2.2.2.2.2
theorem sp_fit {p q : Nat} (h : relS m 0 a) (ho : okA B a) (hp : p < (aR a).length) (hq : q < (aC a).length) (hQ : Q (.inl (some (vi (if fitP a p q then 1 else 0))), G x m)) : Cl X (d + 2) 86 [vp 1 0, vi (nI p), vi (nI q)] (G x m) Q := by
  refine vc_X7_isFitting ?_
  have hl := ho.len
  rw [nI_clamp (n := p) (by omega), nI_clamp (n := q) (by omega)]
  have hr := ho.r hp
  unfold okRp at hr
  have hb : dst (aMet a) (rowD (aR a) p) (rowD (aC a) q) ≤ 29403 := gap3_le (adf_le (ho.rpR h hp 1 (by omega) (by omega)).2 (ho.rpC h hq 1 (by omega) (by omega)).2) (adf_le (ho.rpR h hp 2 (by omega) (by omega)).2 (ho.rpC h hq 2 (by omega) (by omega)).2) (adf_le (ho.rpR h hp 3 (by omega) (by omega)).2 (ho.rpC h hq 3 (by omega) (by omega)).2)
  refine ⟨inb_n p 6 (by omega), inb_n q 10 (by omega), sp_betw7 hl.2.2 h.2.2.2.1 (ho.rpR h hp) (ho.rpC h hq) ⟨_, _, rfl, ?_⟩⟩
  rw [h.2.1.2.2 p hp 4 (by omega)]
  refine pk_lt (rowD (aR a) p 4) (dst (aMet a) (rowD (aR a) p) (rowD (aC a) q)) (fun c => ?_) (fun c => ?_)
  · rw [if_neg (by omega)] at hQ; exact hQ
  · rw [if_pos c] at hQ; exact hQ
theorem sp_nearR {p : Nat} (h : relS m 0 a) (ho : okA B a) (hp : p < (aR a).length) (hQ : Q (.inl (some (vi (nrR a p))), G x m)) : Cl X (d + 2) 87 [vp 1 0, vp 7 (6 * 0 + p)] (G x m) Q :=
  sp_near7 ho.len.2.2 h.2.2.2.1 (ho.rpR h hp) h.1 ho.len.1 (fun k hk => ho.rpC h hk) hQ
theorem sp_giveBack {p q : Int32} (h : relS m 0 a) (ho : okA B a) (hH : HyP fl m H) (hl : ∀ b ∈ H, lenOk b)
    (h1 : whyGive a p q = 1 → Q (.inr 2, Gu (1, 6) x m)) (h2 : whyGive a p q = 2 → Q (.inr 3, Gu (1, 6) x m))
    (h0 : whyGive a p q = 0 → ∀ m9, relS m9 0 (asGive a (posI (aR a) p) (posI (aC a) q)) → HyP fl m9 (hpush a H) → Fr (tO fl) m m9 → Q (.inl (some (vi (nI (rowD (aR a) (posI (aR a) p) 5)))), G x m9)) : Cl X (d + 4) 6 [vp 0 0, vi p, vi q] (G x m) Q := by
  have hn := ho.len
  unfold whyGive at h1 h2 h0
  refine vc_X10_giveBack (sp_open h hn.2.1 (fun hp => Or.inl ⟨_, _, rfl, ?_⟩) (fun hp => Or.inr ⟨_, _, _, rfl, h1 (if_neg (by omega))⟩))
  refine sp_found h hn.1 (fun hq => Or.inl ⟨_, _, rfl, ?_⟩) (fun hq => Or.inr ⟨_, _, _, rfl, h1 (if_neg (by omega))⟩)
  rw [if_pos ⟨hp, hq⟩] at h1 h2 h0
  have h5 := ho.r hp
  unfold okRp at h5
  generalize hpp : posI (aR a) p = pp at *
  generalize hqq : posI (aC a) q = qq at *
  rw [nI_clamp (n := pp) (by omega)]
  refine ⟨inb_n pp 6 (by omega), sp_nearR h ho hp ⟨_, _, rfl, fun c => h2 (if_neg (fun z => c z.1)), fun c => ?_⟩⟩
  refine sp_fit h ho hp hq ⟨_, _, rfl, ?_⟩
  by_cases hf : fitP a pp qq
  · rw [if_pos hf]
    refine ⟨fun _ => ?_, fun c => absurd (by decide) c⟩
    refine sp_rem h hn hH hl (fun m9 hH9 hF9 => ⟨_, rfl, inb_n pp 6 (by omega), fun t13 e13 => ?_⟩)
    have h9 : relS m9 0 a := h.on hn.1 hn.2.1 (fun f i k hi => hF9 f i k (by unfold inSt at hi; unfold tH; omega))
    rw [h9.2.1.2.2 pp hp 5 (by omega)] at e13
    rw [e13]
    refine sp_earn h9 (fun m8 h8 hF8 => ⟨_, rfl, ?_⟩)
    refine sp_rmR h8.2.1 hn.2.1 hp (fun m7 hT7 hF7 => ⟨_, rfl, ?_⟩)
    have h7 := h8.setR hn.1 hF7 hT7
    refine sp_rmC h7.1 hn.1 hq (fun m6 hT6 hF6 => ⟨_, rfl, ?_⟩)
    have h6 := h7.setC (by show ((aR a).eraseIdx pp).length ≤ 6; rw [len_er hp]; omega) hF6 hT6
    have F6 : Fr (inSt 0) m9 m6 := ((hF8.mono (fun f i hi => t1_S hi)).tr (hF7.mono (fun f i hi => tR_S hi))).tr (hF6.mono (fun f i hi => tC_S hi))
    exact h0 (if_pos ⟨Decidable.not_not.mp c, hf⟩) m6 h6 (hH9.st (hl_push (ho := hn) hl) F6) ((hF9.mono (fun f i hi => Or.inr (Or.inr hi))).tr (F6.mono (fun f i hi => Or.inl hi)))
  · rw [if_neg hf]
    exact ⟨fun c => absurd rfl c, fun _ => h2 (if_neg (fun z => hf z.2))⟩
end CHG2
