/-! ===== COPIES OF TABLES (wip/whole/gen_cp.py) ===== -/
/-- the rows of table q copied to table s: rows below j, of row j the columns below c -/
def cpC (m : MI) (s q j c : Nat) : MI := fun f i k => if f = 5 ∧ 10 * s ≤ i ∧ (i < 10 * s + j ∨ (i = 10 * s + j ∧ k < c)) ∧ k < 6 then m 5 (10 * q + (i - 10 * s)) k else m f i k
theorem cpC_0 (m : MI) (s q : Nat) : cpC m s q 0 0 = m := by
  funext f i k
  unfold cpC
  rw [if_neg (by omega)]
theorem cpC_c (m : MI) (s q j c : Nat) (hn : s ≠ q) (hj : j < 10) (hc : c < 6) : mup (cpC m s q j c) 5 (10 * s + j) c (cpC m s q j c 5 (10 * q + j) c) = cpC m s q j (c + 1) := by
  funext f i k
  rw [mup_if]
  have e : cpC m s q j c 5 (10 * q + j) c = m 5 (10 * q + j) c := by
    unfold cpC
    rw [if_neg (by omega)]
  rw [e]
  by_cases h : f = 5 ∧ i = 10 * s + j ∧ k = c
  · rw [if_pos h]
    obtain ⟨rfl, rfl, rfl⟩ := h
    unfold cpC
    rw [if_pos (by omega), show 10 * q + (10 * s + j - 10 * s) = 10 * q + j by omega]
  · rw [if_neg h]
    unfold cpC
    by_cases h2 : f = 5 ∧ 10 * s ≤ i ∧ (i < 10 * s + j ∨ (i = 10 * s + j ∧ k < c)) ∧ k < 6
    · rw [if_pos h2, if_pos (by omega)]
    · rw [if_neg h2, if_neg (by omega)]
theorem cpC_j (m : MI) (s q j : Nat) : cpC m s q j 6 = cpC m s q (j + 1) 0 := by
  funext f i k
  unfold cpC
  by_cases h2 : f = 5 ∧ 10 * s ≤ i ∧ (i < 10 * s + j ∨ (i = 10 * s + j ∧ k < 6)) ∧ k < 6
  · rw [if_pos h2, if_pos (by omega)]
  · rw [if_neg h2, if_neg (by omega)]
theorem cpC_t (m : MI) (s q j c f i k : Nat) (h : f ≠ 5) : cpC m s q j c f i k = m f i k := by
  unfold cpC
  rw [if_neg (fun z => h z.1)]
/-- what copying a table makes of the memory -/
def ctC (m : MI) (s q n nx : Nat) : MI := mup (mup (cpC m s q n 0) 2 s 1 (nI n)) 2 s 2 (nI nx)
section CPYC
variable {X : MX} {d : Nat} {x : Int64 × UInt64} {m : MI} {Q : MRes → Prop} {s q nx : Nat} {l : List Row}
theorem sp_cpyC (h : relT m 2 5 10 q l nx) (hl : l.length ≤ 10) (hn : s ≠ q) (hQ : Q (.inl none, G x (ctC m s q l.length nx))) : Cl X d 94 [vp 2 s, vp 2 q] (G x m) Q := by
  refine vc_X8_copyFrom_2 ?_
  have inner : ∀ z j c : Nat, c + z = 6 → j < l.length → (Wp X d 94 (2, ([some (vp 2 s), some (vp 2 q), some (vi (nI (j + 1))), some (vi 6)], ([], G x (cpC m s q (j + 1) 0)))) Q) →
      Wp X d 94 (12, ([some (vp 2 s), some (vp 2 q), some (vi (nI j)), some (vi (nI c))], ([], G x (cpC m s q j c)))) Q := by
    intro z
    induction z with
    | zero =>
      intro j c hc hj hk
      refine vl_X8_copyFrom_2_12 ?_
      refine pk_le 6 c (fun _ t2 ht2 => ?_) (fun hc => by omega)
      obtain rfl : c = 6 := by omega
      rw [ht2, nI_1, cpC_j]
      exact hk
    | succ z ih =>
      intro j c hc hj hk
      refine vl_X8_copyFrom_2_12 ?_
      refine pk_le 6 c (fun hc => by omega) (fun _ => ?_)
      rw [nI_clamp (n := j) (by omega), nI_clamp (n := c) (by omega)]
      refine ⟨inb_n j 10 (by omega), inb_n j 10 (by omega), inb_n c 6 (by omega), inb_n c 6 (by omega), fun m3 hm3 t4 ht4 => ?_⟩
      rw [hm3, ht4, nI_1, cpC_c m s q j c hn (by omega) (by omega)]
      exact ih j (c + 1) (by omega) hj hk
  have outer : ∀ (z j : Nat) (o : Option MV), j + z = l.length → Wp X d 94 (2, ([some (vp 2 s), some (vp 2 q), some (vi (nI j)), o], ([], G x (cpC m s q j 0)))) Q := by
    intro z
    induction z with
    | zero =>
      intro j o hj
      refine vl_X8_copyFrom_2_2 ?_
      rw [cpC_t m s q j 0 2 q 1 (by decide), h.1]
      refine pk_le l.length j (fun _ m2 hm2 m3 hm3 => ?_) (fun hc => by omega)
      obtain rfl : j = l.length := by omega
      rw [hm3, hm2, mup_no (by omega), cpC_t m s q l.length 0 2 q 2 (by decide), h.2.1]
      exact hQ
    | succ z ih =>
      intro j o hj
      refine vl_X8_copyFrom_2_2 ?_
      rw [cpC_t m s q j 0 2 q 1 (by decide), h.1]
      refine pk_le l.length j (fun hc => by omega) (fun hc => ?_)
      exact inner 6 j 0 (by omega) hc (ih (j + 1) _ (by omega))
  have e0 := outer l.length 0 none (by omega)
  rw [cpC_0] at e0
  exact e0
theorem relT_cpyC (h : relT m 2 5 10 q l nx) (hl : l.length ≤ 10) (hn : s ≠ q) : relT (ctC m s q l.length nx) 2 5 10 s l nx := by
  unfold ctC
  refine ⟨by rw [mup_no (by omega), mup_eq], mup_eq _ _ _ _ _, fun k hk o ho => ?_⟩
  rw [mup_no (by omega), mup_no (by omega)]
  unfold cpC
  rw [if_pos (by omega), show 10 * q + (10 * s + k - 10 * s) = 10 * q + k by omega]
  exact h.2.2 k hk o ho
theorem ctC_no {n f i k : Nat} (h1 : ¬ (f = 2 ∧ i = s)) (h2 : ¬ (f = 5 ∧ 10 * s ≤ i ∧ i < 10 * s + n)) : ctC m s q n nx f i k = m f i k := by
  unfold ctC
  rw [mup_no (by omega), mup_no (by omega)]
  unfold cpC
  rw [if_neg (by omega)]
end CPYC

/-- the rows of table q copied to table s: rows below j, of row j the columns below c -/
def cpR (m : MI) (s q j c : Nat) : MI := fun f i k => if f = 7 ∧ 6 * s ≤ i ∧ (i < 6 * s + j ∨ (i = 6 * s + j ∧ k < c)) ∧ k < 6 then m 7 (6 * q + (i - 6 * s)) k else m f i k
theorem cpR_0 (m : MI) (s q : Nat) : cpR m s q 0 0 = m := by
  funext f i k
  unfold cpR
  rw [if_neg (by omega)]
theorem cpR_c (m : MI) (s q j c : Nat) (hn : s ≠ q) (hj : j < 6) (hc : c < 6) : mup (cpR m s q j c) 7 (6 * s + j) c (cpR m s q j c 7 (6 * q + j) c) = cpR m s q j (c + 1) := by
  funext f i k
  rw [mup_if]
  have e : cpR m s q j c 7 (6 * q + j) c = m 7 (6 * q + j) c := by
    unfold cpR
    rw [if_neg (by omega)]
  rw [e]
  by_cases h : f = 7 ∧ i = 6 * s + j ∧ k = c
  · rw [if_pos h]
    obtain ⟨rfl, rfl, rfl⟩ := h
    unfold cpR
    rw [if_pos (by omega), show 6 * q + (6 * s + j - 6 * s) = 6 * q + j by omega]
  · rw [if_neg h]
    unfold cpR
    by_cases h2 : f = 7 ∧ 6 * s ≤ i ∧ (i < 6 * s + j ∨ (i = 6 * s + j ∧ k < c)) ∧ k < 6
    · rw [if_pos h2, if_pos (by omega)]
    · rw [if_neg h2, if_neg (by omega)]
theorem cpR_j (m : MI) (s q j : Nat) : cpR m s q j 6 = cpR m s q (j + 1) 0 := by
  funext f i k
  unfold cpR
  by_cases h2 : f = 7 ∧ 6 * s ≤ i ∧ (i < 6 * s + j ∨ (i = 6 * s + j ∧ k < 6)) ∧ k < 6
  · rw [if_pos h2, if_pos (by omega)]
  · rw [if_neg h2, if_neg (by omega)]
theorem cpR_t (m : MI) (s q j c f i k : Nat) (h : f ≠ 7) : cpR m s q j c f i k = m f i k := by
  unfold cpR
  rw [if_neg (fun z => h z.1)]
/-- what copying a table makes of the memory -/
def ctR (m : MI) (s q n nx : Nat) : MI := mup (mup (cpR m s q n 0) 3 s 1 (nI n)) 3 s 2 (nI nx)
section CPYR
variable {X : MX} {d : Nat} {x : Int64 × UInt64} {m : MI} {Q : MRes → Prop} {s q nx : Nat} {l : List Row}
theorem sp_cpyR (h : relT m 3 7 6 q l nx) (hl : l.length ≤ 6) (hn : s ≠ q) (hQ : Q (.inl none, G x (ctR m s q l.length nx))) : Cl X d 94 [vp 3 s, vp 3 q] (G x m) Q := by
  refine vc_X8_copyFrom_3 ?_
  have inner : ∀ z j c : Nat, c + z = 6 → j < l.length → (Wp X d 94 (2, ([some (vp 3 s), some (vp 3 q), some (vi (nI (j + 1))), some (vi 6)], ([], G x (cpR m s q (j + 1) 0)))) Q) →
      Wp X d 94 (12, ([some (vp 3 s), some (vp 3 q), some (vi (nI j)), some (vi (nI c))], ([], G x (cpR m s q j c)))) Q := by
    intro z
    induction z with
    | zero =>
      intro j c hc hj hk
      refine vl_X8_copyFrom_3_12 ?_
      refine pk_le 6 c (fun _ t2 ht2 => ?_) (fun hc => by omega)
      obtain rfl : c = 6 := by omega
      rw [ht2, nI_1, cpR_j]
      exact hk
    | succ z ih =>
      intro j c hc hj hk
      refine vl_X8_copyFrom_3_12 ?_
      refine pk_le 6 c (fun hc => by omega) (fun _ => ?_)
      rw [nI_clamp (n := j) (by omega), nI_clamp (n := c) (by omega)]
      refine ⟨inb_n j 6 (by omega), inb_n j 6 (by omega), inb_n c 6 (by omega), inb_n c 6 (by omega), fun m3 hm3 t4 ht4 => ?_⟩
      rw [hm3, ht4, nI_1, cpR_c m s q j c hn (by omega) (by omega)]
      exact ih j (c + 1) (by omega) hj hk
  have outer : ∀ (z j : Nat) (o : Option MV), j + z = l.length → Wp X d 94 (2, ([some (vp 3 s), some (vp 3 q), some (vi (nI j)), o], ([], G x (cpR m s q j 0)))) Q := by
    intro z
    induction z with
    | zero =>
      intro j o hj
      refine vl_X8_copyFrom_3_2 ?_
      rw [cpR_t m s q j 0 3 q 1 (by decide), h.1]
      refine pk_le l.length j (fun _ m2 hm2 m3 hm3 => ?_) (fun hc => by omega)
      obtain rfl : j = l.length := by omega
      rw [hm3, hm2, mup_no (by omega), cpR_t m s q l.length 0 3 q 2 (by decide), h.2.1]
      exact hQ
    | succ z ih =>
      intro j o hj
      refine vl_X8_copyFrom_3_2 ?_
      rw [cpR_t m s q j 0 3 q 1 (by decide), h.1]
      refine pk_le l.length j (fun hc => by omega) (fun hc => ?_)
      exact inner 6 j 0 (by omega) hc (ih (j + 1) _ (by omega))
  have e0 := outer l.length 0 none (by omega)
  rw [cpR_0] at e0
  exact e0
theorem relT_cpyR (h : relT m 3 7 6 q l nx) (hl : l.length ≤ 6) (hn : s ≠ q) : relT (ctR m s q l.length nx) 3 7 6 s l nx := by
  unfold ctR
  refine ⟨by rw [mup_no (by omega), mup_eq], mup_eq _ _ _ _ _, fun k hk o ho => ?_⟩
  rw [mup_no (by omega), mup_no (by omega)]
  unfold cpR
  rw [if_pos (by omega), show 6 * q + (6 * s + k - 6 * s) = 6 * q + k by omega]
  exact h.2.2 k hk o ho
theorem ctR_no {n f i k : Nat} (h1 : ¬ (f = 3 ∧ i = s)) (h2 : ¬ (f = 7 ∧ 6 * s ≤ i ∧ i < 6 * s + n)) : ctR m s q n nx f i k = m f i k := by
  unfold ctR
  rw [mup_no (by omega), mup_no (by omega)]
  unfold cpR
  rw [if_neg (by omega)]
end CPYR
