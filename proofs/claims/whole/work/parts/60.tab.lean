/-! ===== THE TABLES OF THE CLASS (wip/whole/gen_tab.py) ===== -/
/-- the rows of table s after the rows from p+1 up to j have moved down, row j's columns below c too -/
def rmvC (m : MI) (s p j c : Nat) : MI := fun f i k => if f = 5 ∧ 10 * s + p ≤ i ∧ (i + 1 < 10 * s + j ∨ (i + 1 = 10 * s + j ∧ k < c)) ∧ k < 6 then m 5 (i + 1) k else m f i k
theorem rmvC_0 (m : MI) (s p c : Nat) (hc : c = 0) : rmvC m s p (p + 1) c = m := by
  subst hc
  funext f i k
  unfold rmvC
  rw [if_neg (by omega)]
theorem rmvC_c (m : MI) (s p j c : Nat) (hp : p < j) (hc : c < 6) : mup (rmvC m s p j c) 5 (10 * s + (j - 1)) c (rmvC m s p j c 5 (10 * s + j) c) = rmvC m s p j (c + 1) := by
  funext f i k
  rw [mup_if]
  have e : rmvC m s p j c 5 (10 * s + j) c = m 5 (10 * s + j) c := by
    unfold rmvC
    rw [if_neg (by omega)]
  rw [e]
  by_cases h : f = 5 ∧ i = 10 * s + (j - 1) ∧ k = c
  · rw [if_pos h]
    obtain ⟨rfl, rfl, rfl⟩ := h
    unfold rmvC
    rw [if_pos (by omega), show 10 * s + (j - 1) + 1 = 10 * s + j by omega]
  · rw [if_neg h]
    unfold rmvC
    by_cases h2 : f = 5 ∧ 10 * s + p ≤ i ∧ (i + 1 < 10 * s + j ∨ (i + 1 = 10 * s + j ∧ k < c)) ∧ k < 6
    · rw [if_pos h2, if_pos (by omega)]
    · rw [if_neg h2, if_neg (by omega)]
theorem rmvC_j (m : MI) (s p j : Nat) : rmvC m s p j 6 = rmvC m s p (j + 1) 0 := by
  funext f i k
  unfold rmvC
  by_cases h2 : f = 5 ∧ 10 * s + p ≤ i ∧ (i + 1 < 10 * s + j ∨ (i + 1 = 10 * s + j ∧ k < 6)) ∧ k < 6
  · rw [if_pos h2, if_pos (by omega)]
  · rw [if_neg h2, if_neg (by omega)]
theorem rmvC_t (m : MI) (s p j c f i k : Nat) (h : f ≠ 5) : rmvC m s p j c f i k = m f i k := by
  unfold rmvC
  rw [if_neg (fun z => h z.1)]
section TABC
variable {X : MX} {d : Nat} {x : Int64 × UInt64} {m : MI} {Q : MRes → Prop} {s nx : Nat} {l : List Row}
theorem sp_fullC (h : relT m 2 5 10 s l nx) (hl : l.length ≤ 10) (hQ : Q (.inl (some (vi (if l.length < 10 then 0 else 1))), G x m)) : Cl X d 90 [vp 2 s] (G x m) Q := by
  refine vc_X8_isFull_2 ?_
  rw [h.1]
  refine pk_lt l.length 10 (fun hc => ?_) (fun hc => ?_)
  · rw [if_pos hc] at hQ; exact hQ
  · rw [if_neg (by omega)] at hQ; exact hQ
theorem sp_posC {id : Int32} (h : relT m 2 5 10 s l nx) (hl : l.length ≤ 10) (hQ : Q (.inl (some (vi (posV l id))), G x m)) : Cl X d 91 [vp 2 s, vi id] (G x m) Q := by
  refine vc_X8_positionOf_2 ?_
  have key : ∀ j k : Nat, k + j = l.length → (∀ i, i < k → ¬ nI (rowD l i 0) = id) → Wp X d 91 (2, ([some (vp 2 s), some (vi id), some (vi (nI k))], ([], G x m))) Q := by
    intro j
    induction j with
    | zero =>
      intro k hk hno
      refine vl_X8_positionOf_2_2 ?_
      rw [h.1]
      refine pk_le l.length k (fun _ => ?_) (fun hc => by omega)
      have e : posV l id = -1 := by
        unfold posV
        rw [posI_no (fun i hi => hno i (by omega)), if_neg (Nat.lt_irrefl _)]
      rw [e] at hQ
      exact hQ
    | succ j ih =>
      intro k hk hno
      refine vl_X8_positionOf_2_2 ?_
      rw [h.1]
      refine pk_le l.length k (fun hc => by omega) (fun hc => ?_)
      rw [nI_clamp (n := k) (by omega), h.2.2 k hc 0 (by decide)]
      refine ⟨inb_n k 10 (by omega), fun hne t3 ht3 => ?_, fun heq => ?_⟩
      · rw [ht3, nI_1]
        refine ih (k + 1) (by omega) (fun i hi => ?_)
        rcases Nat.lt_succ_iff_lt_or_eq.mp hi with h9 | h9
        · exact hno i h9
        · rw [h9]; exact hne
      · have e : posV l id = nI k := by
          unfold posV
          rw [posI_at hc (Decidable.not_not.mp heq) hno, if_pos hc]
        rw [e] at hQ
        exact hQ
  exact key l.length 0 (by omega) (fun i hi => absurd hi (Nat.not_lt_zero i))
theorem sp_remC {p : Nat} (h : relT m 2 5 10 s l nx) (hl : l.length ≤ 10) (hp : p < l.length) (hQ : Q (.inl none, G x (mup (rmvC m s p l.length 0) 2 s 1 (nI (l.length - 1))))) : Cl X d 93 [vp 2 s, vi (nI p)] (G x m) Q := by
  refine vc_X8_removeAt_2 (fun t1 ht1 => ?_)
  rw [ht1, nI_1]
  have inner : ∀ q j c : Nat, c + q = 6 → p < j → j < l.length → (Wp X d 93 (4, ([some (vp 2 s), some (vi (nI p)), some (vi (nI (j + 1))), some (vi 6)], ([], G x (rmvC m s p (j + 1) 0)))) Q) →
      Wp X d 93 (14, ([some (vp 2 s), some (vi (nI p)), some (vi (nI j)), some (vi (nI c))], ([], G x (rmvC m s p j c)))) Q := by
    intro q
    induction q with
    | zero =>
      intro j c hc hpj hj hk
      refine vl_X8_removeAt_2_14 ?_
      refine pk_le 6 c (fun _ t2 ht2 => ?_) (fun hc => by omega)
      obtain rfl : c = 6 := by omega
      rw [ht2, nI_1, rmvC_j]
      exact hk
    | succ q ih =>
      intro j c hc hpj hj hk
      refine vl_X8_removeAt_2_14 ?_
      refine pk_le 6 c (fun hc => by omega) (fun _ => ?_)
      have e1 : nI j - 1 = nI (j - 1) := by
        have := nI_pred (j - 1)
        rwa [show j - 1 + 1 = j by omega] at this
      rw [e1, nI_clamp (n := j) (by omega), nI_clamp (n := j - 1) (by omega), nI_clamp (n := c) (by omega)]
      refine ⟨inb_n (j - 1) 10 (by omega), inb_n j 10 (by omega), inb_n c 6 (by omega), inb_n c 6 (by omega), fun m3 hm3 t4 ht4 => ?_⟩
      rw [hm3, ht4, nI_1, rmvC_c m s p j c hpj (by omega)]
      exact ih j (c + 1) (by omega) hpj hj hk
  have outer : ∀ (q j : Nat) (o : Option MV), j + q = l.length → p < j → Wp X d 93 (4, ([some (vp 2 s), some (vi (nI p)), some (vi (nI j)), o], ([], G x (rmvC m s p j 0)))) Q := by
    intro q
    induction q with
    | zero =>
      intro j o hj hpj
      refine vl_X8_removeAt_2_4 ?_
      rw [rmvC_t m s p j 0 2 s 1 (by decide), h.1]
      refine pk_le l.length j (fun _ m2 hm2 => ?_) (fun hc => by omega)
      obtain rfl : j = l.length := by omega
      have e1 : nI l.length - 1 = nI (l.length - 1) := by
        have := nI_pred (l.length - 1)
        rwa [show l.length - 1 + 1 = l.length by omega] at this
      rw [hm2, e1]
      exact hQ
    | succ q ih =>
      intro j o hj hpj
      refine vl_X8_removeAt_2_4 ?_
      rw [rmvC_t m s p j 0 2 s 1 (by decide), h.1]
      refine pk_le l.length j (fun hc => by omega) (fun hc => ?_)
      exact inner 6 j 0 (by omega) hpj hc (ih (j + 1) _ (by omega) (by omega))
  have e0 := outer (l.length - (p + 1)) (p + 1) none (by omega) (by omega)
  rw [rmvC_0 _ _ _ _ rfl] at e0
  exact e0
theorem rowD_eraseC : True := trivial
theorem relT_remC {p : Nat} (h : relT m 2 5 10 s l nx) (hp : p < l.length) (hl : l.length ≤ 10) : relT (mup (rmvC m s p l.length 0) 2 s 1 (nI (l.length - 1))) 2 5 10 s (l.eraseIdx p) nx := by
  have hlen : (l.eraseIdx p).length = l.length - 1 := List.length_eraseIdx_of_lt hp
  refine ⟨by rw [mup_eq, hlen], ?_, fun k hk o ho => ?_⟩
  · rw [mup_no (by omega), rmvC_t m s p l.length 0 2 s 2 (by decide)]
    exact h.2.1
  · rw [hlen] at hk
    rw [mup_no (by omega)]
    unfold rmvC
    unfold rowD
    rw [List.getD_eq_getElem?_getD, List.getElem?_eraseIdx]
    by_cases hkp : k < p
    · rw [if_pos hkp, if_neg (by omega)]
      have := h.2.2 k (by omega) o ho
      unfold rowD at this
      rw [List.getD_eq_getElem?_getD] at this
      exact this
    · rw [if_neg hkp, if_pos (by omega)]
      have := h.2.2 (k + 1) (by omega) o ho
      unfold rowD at this
      rw [List.getD_eq_getElem?_getD] at this
      exact this
end TABC

/-- the rows of table s after the rows from p+1 up to j have moved down, row j's columns below c too -/
def rmvR (m : MI) (s p j c : Nat) : MI := fun f i k => if f = 7 ∧ 6 * s + p ≤ i ∧ (i + 1 < 6 * s + j ∨ (i + 1 = 6 * s + j ∧ k < c)) ∧ k < 6 then m 7 (i + 1) k else m f i k
theorem rmvR_0 (m : MI) (s p c : Nat) (hc : c = 0) : rmvR m s p (p + 1) c = m := by
  subst hc
  funext f i k
  unfold rmvR
  rw [if_neg (by omega)]
theorem rmvR_c (m : MI) (s p j c : Nat) (hp : p < j) (hc : c < 6) : mup (rmvR m s p j c) 7 (6 * s + (j - 1)) c (rmvR m s p j c 7 (6 * s + j) c) = rmvR m s p j (c + 1) := by
  funext f i k
  rw [mup_if]
  have e : rmvR m s p j c 7 (6 * s + j) c = m 7 (6 * s + j) c := by
    unfold rmvR
    rw [if_neg (by omega)]
  rw [e]
  by_cases h : f = 7 ∧ i = 6 * s + (j - 1) ∧ k = c
  · rw [if_pos h]
    obtain ⟨rfl, rfl, rfl⟩ := h
    unfold rmvR
    rw [if_pos (by omega), show 6 * s + (j - 1) + 1 = 6 * s + j by omega]
  · rw [if_neg h]
    unfold rmvR
    by_cases h2 : f = 7 ∧ 6 * s + p ≤ i ∧ (i + 1 < 6 * s + j ∨ (i + 1 = 6 * s + j ∧ k < c)) ∧ k < 6
    · rw [if_pos h2, if_pos (by omega)]
    · rw [if_neg h2, if_neg (by omega)]
theorem rmvR_j (m : MI) (s p j : Nat) : rmvR m s p j 6 = rmvR m s p (j + 1) 0 := by
  funext f i k
  unfold rmvR
  by_cases h2 : f = 7 ∧ 6 * s + p ≤ i ∧ (i + 1 < 6 * s + j ∨ (i + 1 = 6 * s + j ∧ k < 6)) ∧ k < 6
  · rw [if_pos h2, if_pos (by omega)]
  · rw [if_neg h2, if_neg (by omega)]
theorem rmvR_t (m : MI) (s p j c f i k : Nat) (h : f ≠ 7) : rmvR m s p j c f i k = m f i k := by
  unfold rmvR
  rw [if_neg (fun z => h z.1)]
section TABR
variable {X : MX} {d : Nat} {x : Int64 × UInt64} {m : MI} {Q : MRes → Prop} {s nx : Nat} {l : List Row}
theorem sp_fullR (h : relT m 3 7 6 s l nx) (hl : l.length ≤ 6) (hQ : Q (.inl (some (vi (if l.length < 6 then 0 else 1))), G x m)) : Cl X d 90 [vp 3 s] (G x m) Q := by
  refine vc_X8_isFull_3 ?_
  rw [h.1]
  refine pk_lt l.length 6 (fun hc => ?_) (fun hc => ?_)
  · rw [if_pos hc] at hQ; exact hQ
  · rw [if_neg (by omega)] at hQ; exact hQ
theorem sp_posR {id : Int32} (h : relT m 3 7 6 s l nx) (hl : l.length ≤ 6) (hQ : Q (.inl (some (vi (posV l id))), G x m)) : Cl X d 91 [vp 3 s, vi id] (G x m) Q := by
  refine vc_X8_positionOf_3 ?_
  have key : ∀ j k : Nat, k + j = l.length → (∀ i, i < k → ¬ nI (rowD l i 0) = id) → Wp X d 91 (2, ([some (vp 3 s), some (vi id), some (vi (nI k))], ([], G x m))) Q := by
    intro j
    induction j with
    | zero =>
      intro k hk hno
      refine vl_X8_positionOf_3_2 ?_
      rw [h.1]
      refine pk_le l.length k (fun _ => ?_) (fun hc => by omega)
      have e : posV l id = -1 := by
        unfold posV
        rw [posI_no (fun i hi => hno i (by omega)), if_neg (Nat.lt_irrefl _)]
      rw [e] at hQ
      exact hQ
    | succ j ih =>
      intro k hk hno
      refine vl_X8_positionOf_3_2 ?_
      rw [h.1]
      refine pk_le l.length k (fun hc => by omega) (fun hc => ?_)
      rw [nI_clamp (n := k) (by omega), h.2.2 k hc 0 (by decide)]
      refine ⟨inb_n k 6 (by omega), fun hne t3 ht3 => ?_, fun heq => ?_⟩
      · rw [ht3, nI_1]
        refine ih (k + 1) (by omega) (fun i hi => ?_)
        rcases Nat.lt_succ_iff_lt_or_eq.mp hi with h9 | h9
        · exact hno i h9
        · rw [h9]; exact hne
      · have e : posV l id = nI k := by
          unfold posV
          rw [posI_at hc (Decidable.not_not.mp heq) hno, if_pos hc]
        rw [e] at hQ
        exact hQ
  exact key l.length 0 (by omega) (fun i hi => absurd hi (Nat.not_lt_zero i))
theorem sp_remR {p : Nat} (h : relT m 3 7 6 s l nx) (hl : l.length ≤ 6) (hp : p < l.length) (hQ : Q (.inl none, G x (mup (rmvR m s p l.length 0) 3 s 1 (nI (l.length - 1))))) : Cl X d 93 [vp 3 s, vi (nI p)] (G x m) Q := by
  refine vc_X8_removeAt_3 (fun t1 ht1 => ?_)
  rw [ht1, nI_1]
  have inner : ∀ q j c : Nat, c + q = 6 → p < j → j < l.length → (Wp X d 93 (4, ([some (vp 3 s), some (vi (nI p)), some (vi (nI (j + 1))), some (vi 6)], ([], G x (rmvR m s p (j + 1) 0)))) Q) →
      Wp X d 93 (14, ([some (vp 3 s), some (vi (nI p)), some (vi (nI j)), some (vi (nI c))], ([], G x (rmvR m s p j c)))) Q := by
    intro q
    induction q with
    | zero =>
      intro j c hc hpj hj hk
      refine vl_X8_removeAt_3_14 ?_
      refine pk_le 6 c (fun _ t2 ht2 => ?_) (fun hc => by omega)
      obtain rfl : c = 6 := by omega
      rw [ht2, nI_1, rmvR_j]
      exact hk
    | succ q ih =>
      intro j c hc hpj hj hk
      refine vl_X8_removeAt_3_14 ?_
      refine pk_le 6 c (fun hc => by omega) (fun _ => ?_)
      have e1 : nI j - 1 = nI (j - 1) := by
        have := nI_pred (j - 1)
        rwa [show j - 1 + 1 = j by omega] at this
      rw [e1, nI_clamp (n := j) (by omega), nI_clamp (n := j - 1) (by omega), nI_clamp (n := c) (by omega)]
      refine ⟨inb_n (j - 1) 6 (by omega), inb_n j 6 (by omega), inb_n c 6 (by omega), inb_n c 6 (by omega), fun m3 hm3 t4 ht4 => ?_⟩
      rw [hm3, ht4, nI_1, rmvR_c m s p j c hpj (by omega)]
      exact ih j (c + 1) (by omega) hpj hj hk
  have outer : ∀ (q j : Nat) (o : Option MV), j + q = l.length → p < j → Wp X d 93 (4, ([some (vp 3 s), some (vi (nI p)), some (vi (nI j)), o], ([], G x (rmvR m s p j 0)))) Q := by
    intro q
    induction q with
    | zero =>
      intro j o hj hpj
      refine vl_X8_removeAt_3_4 ?_
      rw [rmvR_t m s p j 0 3 s 1 (by decide), h.1]
      refine pk_le l.length j (fun _ m2 hm2 => ?_) (fun hc => by omega)
      obtain rfl : j = l.length := by omega
      have e1 : nI l.length - 1 = nI (l.length - 1) := by
        have := nI_pred (l.length - 1)
        rwa [show l.length - 1 + 1 = l.length by omega] at this
      rw [hm2, e1]
      exact hQ
    | succ q ih =>
      intro j o hj hpj
      refine vl_X8_removeAt_3_4 ?_
      rw [rmvR_t m s p j 0 3 s 1 (by decide), h.1]
      refine pk_le l.length j (fun hc => by omega) (fun hc => ?_)
      exact inner 6 j 0 (by omega) hpj hc (ih (j + 1) _ (by omega) (by omega))
  have e0 := outer (l.length - (p + 1)) (p + 1) none (by omega) (by omega)
  rw [rmvR_0 _ _ _ _ rfl] at e0
  exact e0
theorem rowD_eraseR : True := trivial
theorem relT_remR {p : Nat} (h : relT m 3 7 6 s l nx) (hp : p < l.length) (hl : l.length ≤ 6) : relT (mup (rmvR m s p l.length 0) 3 s 1 (nI (l.length - 1))) 3 7 6 s (l.eraseIdx p) nx := by
  have hlen : (l.eraseIdx p).length = l.length - 1 := List.length_eraseIdx_of_lt hp
  refine ⟨by rw [mup_eq, hlen], ?_, fun k hk o ho => ?_⟩
  · rw [mup_no (by omega), rmvR_t m s p l.length 0 3 s 2 (by decide)]
    exact h.2.1
  · rw [hlen] at hk
    rw [mup_no (by omega)]
    unfold rmvR
    unfold rowD
    rw [List.getD_eq_getElem?_getD, List.getElem?_eraseIdx]
    by_cases hkp : k < p
    · rw [if_pos hkp, if_neg (by omega)]
      have := h.2.2 k (by omega) o ho
      unfold rowD at this
      rw [List.getD_eq_getElem?_getD] at this
      exact this
    · rw [if_neg hkp, if_pos (by omega)]
      have := h.2.2 (k + 1) (by omega) o ho
      unfold rowD at this
      rw [List.getD_eq_getElem?_getD] at this
      exact this
end TABR
