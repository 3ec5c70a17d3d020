/-! ===== THE CLASS: DAYS, MIXTURES ===== -/
section CHG3
variable {X : MX} {d : Nat} {x : Int64 × UInt64} {m : MI} {Q : MRes → Prop} {a : AS} {H : List AS} {fl : Bool} {B s : Nat}
theorem sp_blend {p q : Nat} (h : relS m 0 a) (ho : okA B a) (hp : p < (aC a).length) (hq : q < (aC a).length) (hn : p ≠ q) (hQ : ∀ m9, relS m9 0 (asMix a p q) → Fr (inSt 0) m m9 → Q (.inl (some (vi (nI (aXC a)))), G x m9)) : Cl X (d + 1) 74 [vp 1 0, vi (nI p), vi (nI q)] (G x m) Q := by
  refine vc_X7_blend ?_
  have hl := ho.len
  have cp := (ho.c hp).1
  have cq := (ho.c hq).1
  unfold okC at cp cq
  rw [nI_clamp (n := p) (by omega), nI_clamp (n := q) (by omega), mx_nI (by omega) (by omega), mn_nI (by omega) (by omega)]
  refine ⟨inb_n p 10 (by omega), inb_n q 10 (by omega), fun t1 e1 t2 e2 t3 e3 t4 e4 => ?_⟩
  rw [h.1.2.2 p hp 1 (by omega), h.1.2.2 q hq 1 (by omega), nI_add, show (2 : Int32) = nI 2 from rfl, pk_div (by omega) (by omega) (by omega)] at e1
  rw [h.1.2.2 p hp 2 (by omega), h.1.2.2 q hq 2 (by omega), nI_add, show (2 : Int32) = nI 2 from rfl, pk_div (by omega) (by omega) (by omega)] at e2
  rw [h.1.2.2 p hp 3 (by omega), h.1.2.2 q hq 3 (by omega), nI_add, show (2 : Int32) = nI 2 from rfl, pk_div (by omega) (by omega) (by omega)] at e3
  rw [h.1.2.2 p hp 4 (by omega), h.1.2.2 q hq 4 (by omega), mn_nI (by omega) (by omega)] at e4
  have l1 : ((aC a).eraseIdx (max p q)).length = (aC a).length - 1 := len_er (by omega)
  have l2 : (((aC a).eraseIdx (max p q)).eraseIdx (min p q)).length = (aC a).length - 1 - 1 := by rw [len_er (by omega), l1]
  refine sp_rmC h.1 hl.1 (by omega) (fun m6 hT6 hF6 => ⟨_, rfl, ?_⟩)
  refine sp_rmC hT6 (by omega) (by omega) (fun m8 hT8 hF8 => ⟨_, rfl, ?_⟩)
  have F8 := hF6.tr hF8
  rw [F8 1 0 2 (by unfold tyC; omega), h.2.2.1, e1, e2, e3, e4]
  refine sp_appC hT8 (by omega) (fun m9 hT9 hF9 => ⟨_, _, rfl, ?_⟩)
  have F9 := F8.tr hF9
  exact hQ m9 (h.setC hl.2.1 F9 hT9) (F9.mono (fun f i hi => tC_S hi))
theorem sp_mix {p q : Int32} (h : relS m 0 a) (ho : okA B a) (hH : HyP fl m H) (hl : ∀ b ∈ H, lenOk b)
    (h1 : whyMix a p q = 1 → Q (.inr 2, Gu (1, 6) x m)) (h2 : whyMix a p q = 2 → Q (.inr 0, Gu (1, 6) x m))
    (h0 : whyMix a p q = 0 → ∀ m9, relS m9 0 (asMix a (posI (aC a) p) (posI (aC a) q)) → HyP fl m9 (hpush a H) → Fr (tO fl) m m9 → Q (.inl (some (vi (nI (aXC a)))), G x m9)) : Cl X (d + 4) 8 [vp 0 0, vi p, vi q] (G x m) Q := by
  have hn := ho.len
  unfold whyMix at h1 h2 h0
  refine vc_X10_mix (sp_found h hn.1 (fun hp => Or.inl ⟨_, _, rfl, ?_⟩) (fun hp => Or.inr ⟨_, _, _, rfl, h1 (if_neg (by omega))⟩))
  refine sp_found h hn.1 (fun hq => Or.inl ⟨_, _, rfl, ?_⟩) (fun hq => Or.inr ⟨_, _, _, rfl, h1 (if_neg (by omega))⟩)
  rw [if_pos ⟨hp, hq⟩] at h1 h2 h0
  refine pk_eqn (a := posI (aC a) p) (b := posI (aC a) q) (fun he => ?_) (fun he => ?_) (by omega) (by omega)
  · have e1 := posI_id hp
    have e2 := posI_id hq
    rw [he, e2] at e1
    exact h2 (if_pos e1.symm)
  · refine sp_rem h hn hH hl (fun m9 hH9 hF9 => ⟨_, rfl, ?_⟩)
    have h9 : relS m9 0 a := h.on hn.1 hn.2.1 (fun f i k hi => hF9 f i k (by unfold inSt at hi; unfold tH; omega))
    refine sp_blend h9 ho hp hq he (fun m8 h8 hF8 => ⟨_, _, rfl, ?_⟩)
    exact h0 (if_neg (fun c => he (by rw [c]))) m8 h8 (hH9.st (hl_push (ho := hn) hl) hF8) ((hF9.mono (fun f i hi => Or.inr (Or.inr hi))).tr (hF8.mono (fun f i hi => Or.inl hi)))
theorem sp_age {k : Nat} (h : relS m 0 a) (ho : okA B a) (hk : k < (aC a).length) (hQ : Q (.inl (some (vi (nI (aDay a - rowD (aC a) k 5)))), G x m)) : Cl X d 77 [vp 1 0, vi (nI k)] (G x m) Q := by
  have hl := ho.len
  refine vc_X7_ageAt ?_
  rw [nI_clamp (n := k) (by omega), h.2.2.1, h.1.2.2 k hk 5 (by omega), nI_sub (ho.c hk).2]
  exact ⟨inb_n k 10 (by omega), hQ⟩
theorem fdp_le {n : Nat} (h : n ≤ 99) : fdp n ≤ 99 := by
  unfold fdp
  split
  · omega
  · split <;> omega
theorem sp_fade {q : Nat} {u : Row} (hu : rparts m 5 q u) (hQ : ∀ m9, (∀ o, 1 ≤ o → o ≤ 3 → m9 5 q o = nI (fdp (u o))) → (∀ f i k, ¬ (f = 5 ∧ i = q ∧ 1 ≤ k ∧ k ≤ 3) → m9 f i k = m f i k) → Q (.inl none, G x m9)) : Cl X d 76 [vp 5 q] (G x m) Q := by
  refine vc_X7_fade ?_
  have key : ∀ k, k ≤ 4 → 1 ≤ k → ∀ m9, (∀ o, 1 ≤ o → o < k → m9 5 q o = nI (fdp (u o))) → (∀ f i j, ¬ (f = 5 ∧ i = q ∧ 1 ≤ j ∧ j < k) → m9 f i j = m f i j) → Wp X d 76 (2, ([some (vp 5 q), some (vi (nI k))], ([], G x m9))) Q := by
    refine lup (fun k hk ih h1 m9 hA hB => ?_)
    refine vl_X7_fade_2 ?_
    rw [nI_clamp (n := k) (by omega)]
    refine pk_lt 3 k (fun hc => ?_) (fun hc => ?_)
    · exact hQ m9 (fun o h1 h3 => hA o h1 (by omega)) (fun f i j hn => hB f i j (by omega))
    · rw [hB 5 q k (by omega), (hu k h1 hc).1]
      have h99 := (hu k h1 hc).2
      have nx : ∀ v m8, m8 = mup m9 5 q k v → v = nI (fdp (u k)) → Wp X d 76 (2, ([some (vp 5 q), some (vi (nI (k + 1)))], ([], G x m8))) Q := fun v m8 e8 ev => by
        refine ih (by omega) (by omega) m8 (fun o h1 h3 => ?_) (fun f i j hn => ?_)
        · rw [e8]
          by_cases ho : o = k
          · rw [ho, mup_eq, ev]
          · rw [mup_no (by omega)]; exact hA o h1 (by omega)
        · rw [e8, mup_no (by omega)]; exact hB f i j (by omega)
      refine ⟨inb_n k 6 (by omega), pk_le (u k) 50 (fun c1 => ⟨inb_n k 6 (by omega), pk_le 50 (u k) (fun c2 t4 e4 => ?_) (fun c2 => ⟨inb_n k 6 (by omega), inb_n k 6 (by omega), fun m5 e5 t6 e6 => ?_⟩)⟩) (fun c1 => ⟨inb_n k 6 (by omega), inb_n k 6 (by omega), fun m7 e7 t8 e8 => ?_⟩)⟩
      · rw [e4, nI_1]
        refine ih (by omega) (by omega) m9 (fun o h1 h3 => ?_) (fun f i j hn => hB f i j (by omega))
        by_cases ho : o = k
        · rw [ho, hB 5 q k (by omega), (hu k (by omega) hc).1]
          unfold fdp
          rw [if_neg (by omega), if_neg (by omega)]
        · exact hA o h1 (by omega)
      · rw [e6, nI_1]
        refine nx _ m5 e5 ?_
        unfold fdp
        rw [if_neg (by omega), if_pos c2, nI_1]
      · rw [e8, nI_1]
        refine nx _ m7 e7 ?_
        unfold fdp
        rw [if_pos c1]
        have := nI_pred (u k - 1)
        rwa [show u k - 1 + 1 = u k by omega] at this
  exact key 1 (by omega) (by omega) m (fun o h1 h3 => by omega) (fun f i j hn => rfl)
theorem sp_day1 (h : relS m 0 a) (ho : okA B a) (hB : B < 2 ^ 30) (hQ : ∀ m9, relS m9 0 (asPass a) → Fr (inSt 0) m m9 → Q (.inl none, G x m9)) : Cl X (d + 1) 75 [vp 1 0] (G x m) Q := by
  have hl := ho.len
  refine vc_X7_passOneDay (fun m1 e1 => ?_)
  rw [h.2.2.1, nI_1] at e1
  have key : ∀ k, k ≤ (aC a).length → ∀ o2 o3 m9, (∀ j, j < (aC a).length → ∀ o, o < 6 → m9 5 (10 * 0 + j) o = nI ((if j < k then fdR (aDay a + 1) (rowD (aC a) j) else rowD (aC a) j) o)) → (∀ f i j, ¬ (f = 5 ∧ i < 10) → m9 f i j = m1 f i j) → Wp X (d + 1) 75 (12, ([some (vp 1 0), some (vi (nI k)), o2, o3], ([], G x m9))) Q := by
    refine lup (fun k hk ih o2 o3 m9 hA hB => ?_)
    have e2 : m9 2 0 1 = nI (aC a).length := by rw [hB 2 0 1 (by omega), e1, mup_no (by omega)]; exact h.1.1
    have ed : m9 1 0 2 = nI (aDay a + 1) := by rw [hB 1 0 2 (by omega), e1, mup_eq]
    refine vl_X7_passOneDay_12 ?_
    rw [e2, nI_clamp (n := k) (by omega)]
    refine pk_le (aC a).length k (fun hc => ?_) (fun hc => ?_)
    · have F : Fr (inSt 0) m m9 := fun f i j hn => by
        unfold inSt at hn
        rw [hB f i j (by omega), e1, mup_no (by omega)]
      have O : ∀ f i j, f = 3 ∨ f = 7 ∨ (f = 1 ∧ j ≠ 2) → m9 f i j = m f i j := fun f i j hf => by
        rw [hB f i j (by omega), e1, mup_no (by omega)]
      refine hQ m9 ⟨⟨?_, ?_, fun j hj o ho => ?_⟩, h.2.1.fr (fun k => O 3 _ k (by omega)) (fun k hk c => O 7 _ c (by omega)), ed, ?_, ?_, ?_, ?_⟩ F
      · rw [e2]
        show _ = nI ((aC a).map _).length
        rw [List.length_map]
      · rw [hB 2 0 2 (by omega), e1, mup_no (by omega)]; exact h.1.2.1
      · have hj2 : j < (aC a).length := by
          have : j < ((aC a).map (fdR (aDay a + 1))).length := hj
          rwa [List.length_map] at this
        rw [hA j hj2 o ho, if_pos (by omega)]
        show _ = nI (rowD ((aC a).map (fdR (aDay a + 1))) j o)
        rw [rowD_map hj2]
      · rw [O 1 0 3 (by omega)]; exact h.2.2.2.1
      · rw [O 1 0 4 (by omega)]; exact h.2.2.2.2.1
      · rw [O 1 0 5 (by omega), O 1 0 6 (by omega)]; exact h.2.2.2.2.2.1
      · rw [O 1 0 7 (by omega)]; exact h.2.2.2.2.2.2
    · have hr := ho.c hc
      have hr1 := hr.1
      unfold okC at hr1
      have hd : aDay a ≤ B := ho.1.2.2.2.2.1
      have e4 : ∀ o, o < 6 → m9 5 (10 * 0 + k) o = nI (rowD (aC a) k o) := fun o ho => by rw [hA k hc o ho, if_neg (by omega)]
      refine ⟨inb_n k 10 (by omega), fun t2 et => ?_⟩
      rw [e4 4 (by omega)] at et
      subst et
      have eR : ∀ (m8 : MI) j o, (m8 5 (10 * 0 + j) o = nI ((if j < k then fdR (aDay a + 1) (rowD (aC a) j) else rowD (aC a) j) o)) → (j = k → fdR (aDay a + 1) (rowD (aC a) k) o = rowD (aC a) k o) → m8 5 (10 * 0 + j) o = nI ((if j < k + 1 then fdR (aDay a + 1) (rowD (aC a) j) else rowD (aC a) j) o) := fun m8 j o e z => by
        rw [e]
        by_cases hj : j = k
        · rw [if_neg (by omega), if_pos (by omega), hj, z hj]
        · by_cases hj2 : j < k
          · rw [if_pos hj2, if_pos (by omega)]
          · rw [if_neg hj2, if_neg (by omega)]
      refine ⟨fun c => absurd c (nI_nle (by omega) (by omega)), fun _ => ?_⟩
      refine vc_X7_ageAt ?_
      rw [nI_clamp (n := k) (by omega), ed, e4 5 (by omega), nI_sub (by omega)]
      refine ⟨inb_n k 10 (by omega), _, _, rfl, decide_eq_true (nI_ne0 (by omega) (by omega)), ?_⟩
      rw [pk_rem (by omega) (by omega) (by omega)]
      have hm : (aDay a + 1 - rowD (aC a) k 5) % rowD (aC a) k 4 < rowD (aC a) k 4 := Nat.mod_lt _ (by omega)
      by_cases hz : (aDay a + 1 - rowD (aC a) k 5) % rowD (aC a) k 4 = 0
      · rw [hz]
        refine ⟨fun c => absurd rfl c, fun _ => ?_⟩
        refine sp_fade (u := rowD (aC a) k) (fun o h1 h3 => ⟨e4 o (by omega), (ho.rpC h hc o h1 h3).2⟩) (fun m8 hA8 hB8 => ⟨_, rfl, fun t11 e11 => ?_⟩)
        rw [e11, nI_1]
        refine ih hc _ _ m8 (fun j hj o ho => ?_) (fun f i j hn => ?_)
        · by_cases hj2 : j = k ∧ 1 ≤ o ∧ o ≤ 3
          · rw [hj2.1, if_pos (by omega), hA8 o hj2.2.1 hj2.2.2]
            unfold fdR
            rw [if_pos ⟨hz, hj2.2⟩]
          · refine eR m8 j o ?_ (fun hj3 => ?_)
            · rw [hB8 5 (10 * 0 + j) o (by omega)]; exact hA j hj o ho
            · unfold fdR
              rw [if_neg (by omega)]
        · rw [hB8 f i j (by omega)]; exact hB f i j hn
      · refine ⟨fun _ t8 e8 => ?_, fun c => absurd (nI_ne0 (by omega) (by omega)) c⟩
        rw [e8, nI_1]
        refine ih hc _ _ m9 (fun j hj o ho => eR m9 j o (hA j hj o ho) (fun hj3 => ?_)) hB
        unfold fdR
        rw [if_neg (fun z => hz z.1)]
  refine key 0 (by omega) none none m1 (fun j hj o ho => ?_) (fun f i j hn => rfl)
  rw [if_neg (by omega), e1, mup_no (by omega)]
  exact h.1.2.2 j hj o ho
theorem sp_isGrey {k : Nat} (h : relS m 0 a) (ho : okA B a) (hk : k < (aC a).length) (hQ : Q (.inl (some (vi (if grey (rowD (aC a) k) then 1 else 0))), G x m)) : Cl X d 78 [vp 1 0, vi (nI k)] (G x m) Q := by
  have hl := ho.len
  have hr := (ho.c hk).1
  unfold okC at hr
  refine vc_X7_isGreyAt ?_
  rw [nI_clamp (n := k) (by omega), h.1.2.2 k hk 1 (by omega), h.1.2.2 k hk 2 (by omega), h.1.2.2 k hk 3 (by omega)]
  refine ⟨inb_n k 10 (by omega), ?_⟩
  unfold grey at hQ
  refine pk_eqn (b := 50) (fun c1 => ?_) (fun c1 => ?_) (by omega) (by omega)
  · refine pk_eqn (b := 50) (fun c2 => ?_) (fun c2 => ?_) (by omega) (by omega)
    · refine pk_eqn (b := 50) (fun c3 => ?_) (fun c3 => ?_) (by omega) (by omega)
      · rw [if_pos (decide_eq_true ⟨c1, c2, c3⟩)] at hQ; exact hQ
      · rw [if_neg (fun z => c3 (of_decide_eq_true z).2.2)] at hQ; exact hQ
    · rw [if_neg (fun z => c2 (of_decide_eq_true z).2.1)] at hQ; exact hQ
  · rw [if_neg (fun z => c1 (of_decide_eq_true z).1)] at hQ; exact hQ
theorem sp_greyN (h : relS m 0 a) (ho : okA B a) (hQ : Q (.inl (some (vi (nI (greyN (aC a))))), G x m)) : Cl X (d + 1) 79 [vp 1 0] (G x m) Q := by
  have hl := ho.len
  refine vc_X7_greyCount ?_
  have key : ∀ k, k ≤ (aC a).length → Wp X (d + 1) 79 (4, ([some (vp 1 0), some (vi (nI (fa_cnt (fun k => grey (rowD (aC a) k)) k))), some (vi (nI k))], ([], G x m))) Q := by
    refine lup (fun k hk ih => ?_)
    refine vl_X7_greyCount_4 ?_
    rw [h.1.1]
    refine pk_le (aC a).length k (fun hc => ?_) (fun hc => ?_)
    · obtain rfl : k = (aC a).length := by omega
      exact hQ
    · refine sp_isGrey h ho hc ⟨_, _, rfl, ?_⟩
      have ih := ih hc
      by_cases hg : grey (rowD (aC a) k) = true
      · rw [if_pos hg]
        rw [fa_cnt_yes (p := fun k => grey (rowD (aC a) k)) hg] at ih
        refine ⟨fun c => absurd c (by decide), fun _ t6 e6 t7 e7 => ?_⟩
        rw [e6, e7, nI_1, nI_1]
        exact ih
      · rw [if_neg hg]
        rw [fa_cnt_no (p := fun k => grey (rowD (aC a) k)) (Bool.eq_false_iff.mpr hg)] at ih
        refine ⟨fun _ t5 e5 => ?_, fun c => absurd rfl c⟩
        rw [e5, nI_1]
        exact ih
  exact key 0 (by omega)
end CHG3
