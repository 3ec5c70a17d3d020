/-! ===== DISTANCES ===== -/
def adf (a b : Nat) : Nat := if a < b then b - a else a - b
theorem adf_comm (a b : Nat) : adf a b = adf b a := by
  unfold adf
  by_cases h : a < b
  · rw [if_pos h, if_neg (by omega)]
  · rw [if_neg h]
    by_cases h2 : b < a
    · rw [if_pos h2]
    · rw [if_neg h2]; omega
theorem adf_le {a b c : Nat} (ha : a ≤ c) (hb : b ≤ c) : adf a b ≤ c := by
  unfold adf
  split <;> omega
theorem nI_sub {a b : Nat} (h : b ≤ a) : nI a - nI b = nI (a - b) := pk_sub h
theorem abs_adf {a b : Nat} (ha : a < 2 ^ 30) (hb : b < 2 ^ 30) : (if nI a - nI b < 0 then -(nI a - nI b) else nI a - nI b) = nI (adf a b) := by
  unfold adf
  by_cases h : a < b
  · rw [if_pos (pk_sneg hb h), if_pos h, Int32.neg_sub, pk_sub (Nat.le_of_lt h)]
  · rw [if_neg h, pk_sub (Nat.not_lt.mp h), if_neg (nI_pos (by omega))]
theorem abs_adf2 {a b : Nat} (ha : a < 2 ^ 30) (hb : b < 2 ^ 30) {P : Int32 → Prop} (h : P (nI (adf a b))) : (0 ≤ nI a - nI b → P (nI a - nI b)) ∧ (¬ 0 ≤ nI a - nI b → P (-(nI a - nI b))) := by
  have e := abs_adf ha hb
  by_cases hc : nI a - nI b < 0
  · rw [if_pos hc] at e
    refine ⟨fun h0 => absurd hc (Int32.not_lt.mpr h0), fun _ => ?_⟩
    rw [e]; exact h
  · rw [if_neg hc] at e
    refine ⟨fun _ => ?_, fun h0 => absurd (Int32.not_lt.mp hc) h0⟩
    rw [e]; exact h
/-- a distance out of three gaps -/
def gap3 (mt p q r : Nat) : Nat := if mt = 115 then p * p + q * q + r * r else if mt = 103 then max p (max q r) else p + q + r
def dst (mt : Nat) (u w : Row) : Nat := gap3 mt (adf (u 1) (w 1)) (adf (u 2) (w 2)) (adf (u 3) (w 3))
theorem dst_comm (mt : Nat) (u w : Row) : dst mt u w = dst mt w u := by
  unfold dst
  rw [adf_comm (u 1), adf_comm (u 2), adf_comm (u 3)]
theorem sq_le {p : Nat} (h : p ≤ 99) : p * p ≤ 9801 := Nat.mul_le_mul h h
theorem gap3_le {mt p q r : Nat} (hp : p ≤ 99) (hq : q ≤ 99) (hr : r ≤ 99) : gap3 mt p q r ≤ 29403 := by
  have := sq_le hp
  have := sq_le hq
  have := sq_le hr
  unfold gap3
  split
  · omega
  · split <;> omega
section DST
variable {X : MX} {d : Nat} {x : Int64 × UInt64} {m : MI} {Q : MRes → Prop}
theorem sp_measure {mt a1 b1 a2 b2 a3 b3 : Nat} (hm : okMet mt) (h1 : a1 ≤ 99 ∧ b1 ≤ 99) (h2 : a2 ≤ 99 ∧ b2 ≤ 99) (h3 : a3 ≤ 99 ∧ b3 ≤ 99)
    (hQ : Q (.inl (some (vi (nI (gap3 mt (adf a1 b1) (adf a2 b2) (adf a3 b3))))), G x m)) : Cl X d 60 [vi (nI mt), vi (nI a1 - nI b1), vi (nI a2 - nI b2), vi (nI a3 - nI b3)] (G x m) Q := by
  refine vc_X10_measure (fun t1 e1 t2 e2 t3 e3 => ?_)
  rw [abs_adf (by omega) (by omega)] at e1 e2 e3
  have l1 := adf_le h1.1 h1.2
  have l2 := adf_le h2.1 h2.2
  have l3 := adf_le h3.1 h3.2
  generalize adf a1 b1 = p at e1 l1 hQ
  generalize adf a2 b2 = q at e2 l2 hQ
  generalize adf a3 b3 = r at e3 l3 hQ
  subst e1; subst e2; subst e3
  rcases hm with rfl | rfl | rfl
  · refine ⟨fun _ => ⟨fun _ => ?_, fun c => absurd (by decide) c⟩, fun c => absurd (by decide) c⟩
    rw [nI_add, nI_add]
    exact hQ
  · refine ⟨fun c => absurd (by decide) c, fun _ => ?_⟩
    rw [pk_mul, pk_mul, pk_mul, nI_add, nI_add]
    exact hQ
  · refine ⟨fun _ => ⟨fun c => absurd (by decide) c, fun _ => ?_⟩, fun c => absurd (by decide) c⟩
    have mx : ∀ {a b : Nat}, a ≤ 99 → b ≤ 99 → (if nI a < nI b then nI b else nI a) = nI (max a b) := by
      intro a b ha hb
      by_cases h : a < b
      · rw [if_pos (nI_lt h (by omega)), Nat.max_eq_right (Nat.le_of_lt h)]
      · rw [if_neg (nI_nlt (Nat.not_lt.mp h) (by omega)), Nat.max_eq_left (Nat.not_lt.mp h)]
    rw [mx l2 l3, mx l1 (Nat.max_le.mpr ⟨l2, l3⟩)]
    exact hQ
/-- the model's 'size' -/
theorem sp_size {a b : Nat} (ha : a < 2 ^ 30) (hb : b < 2 ^ 30) (hQ : Q (.inl (some (vi (nI (adf a b)))), G x m)) : Cl X d 161 [vi (nI a - nI b)] (G x m) Q :=
  vc_X11_size (abs_adf2 (P := fun v => Q (.inl (some (vi v)), G x m)) ha hb hQ)
/-- parts of a row of the model's array -/
def parts (f : Nat → Int32) (r : Nat) (u : Row) : Prop := ∀ o, 1 ≤ o → o ≤ 3 → f (r + o) = nI (u o) ∧ u o ≤ 99
theorem sp_apart {mt r q : Nat} {u w : Row} (hr : r + 3 < 136) (hq : q + 3 < 136) (hm : okMet mt) (h5 : m 32 0 5 = nI mt) (hu : parts (m 32 0) r u) (hw : parts (m 32 0) q w)
    (hQ : Q (.inl (some (vi (nI (dst mt u w)))), G x m)) : Cl X (d + 1) 162 [vp 31 0, vi (nI r), vi (nI q)] (G x m) Q := by
  refine vc_X11_apart ?_
  have ix : ∀ {a o : Nat}, a + o < 136 → (nI a + nI o).toNatClampNeg = a + o ∧ inb (nI a + nI o) 136 = true := by
    intro a o h
    rw [nI_add]
    exact ⟨pk_cl (a + o), inb_n (a + o) 136 h⟩
  obtain ⟨u1, u1'⟩ := hu 1 (by omega) (by omega)
  obtain ⟨u2, u2'⟩ := hu 2 (by omega) (by omega)
  obtain ⟨u3, u3'⟩ := hu 3 (by omega) (by omega)
  obtain ⟨w1, w1'⟩ := hw 1 (by omega) (by omega)
  obtain ⟨w2, w2'⟩ := hw 2 (by omega) (by omega)
  obtain ⟨w3, w3'⟩ := hw 3 (by omega) (by omega)
  have i1 := ix (a := r) (o := 1) (by omega)
  have i2 := ix (a := r) (o := 2) (by omega)
  have i3 := ix (a := r) (o := 3) (by omega)
  have j1 := ix (a := q) (o := 1) (by omega)
  have j2 := ix (a := q) (o := 2) (by omega)
  have j3 := ix (a := q) (o := 3) (by omega)
  refine ⟨i1.2, j1.2, ?_⟩
  rw [show (nI r + 1).toNatClampNeg = r + 1 from i1.1, show (nI q + 1).toNatClampNeg = q + 1 from j1.1, u1, w1]
  refine sp_size (by omega) (by omega) ⟨_, _, rfl, i2.2, j2.2, ?_⟩
  rw [show (nI r + 2).toNatClampNeg = r + 2 from i2.1, show (nI q + 2).toNatClampNeg = q + 2 from j2.1, u2, w2]
  refine sp_size (by omega) (by omega) ⟨_, _, rfl, i3.2, j3.2, ?_⟩
  rw [show (nI r + 3).toNatClampNeg = r + 3 from i3.1, show (nI q + 3).toNatClampNeg = q + 3 from j3.1, u3, w3]
  refine sp_size (by omega) (by omega) ⟨_, _, rfl, ?_⟩
  rw [h5]
  unfold dst at hQ
  have l1 := adf_le u1' w1'
  have l2 := adf_le u2' w2'
  have l3 := adf_le u3' w3'
  generalize adf (u 1) (w 1) = a at l1 hQ ⊢
  generalize adf (u 2) (w 2) = b at l2 hQ ⊢
  generalize adf (u 3) (w 3) = c at l3 hQ ⊢
  rcases hm with rfl | rfl | rfl
  · refine ⟨fun c => absurd (by decide) c, fun _ => ?_⟩
    rw [nI_add, nI_add]
    exact hQ
  · refine ⟨fun _ => ⟨fun c => absurd (by decide) c, fun _ => ?_⟩, fun c => absurd (by decide) c⟩
    rw [pk_mul, pk_mul, pk_mul, nI_add, nI_add]
    exact hQ
  · refine ⟨fun _ => ⟨fun _ => ?_, fun c => absurd (by decide) c⟩, fun c => absurd (by decide) c⟩
    have e : gap3 103 a b c = max a (max b c) := rfl
    rw [e] at hQ
    refine pk_le a b (fun hab => ?_) (fun hab => ?_)
    · rw [Nat.max_eq_right (Nat.le_trans hab (Nat.le_max_left _ _))] at hQ
      refine pk_le b c (fun hbc => ?_) (fun hbc => ?_)
      · rw [Nat.max_eq_right hbc] at hQ; exact hQ
      · rw [Nat.max_eq_left (Nat.le_of_lt hbc)] at hQ; exact hQ
    · refine pk_le a c (fun hac => ?_) (fun hac => ?_)
      · rw [Nat.max_eq_right (Nat.le_of_lt (Nat.lt_of_lt_of_le hab hac)), Nat.max_eq_right hac] at hQ; exact hQ
      · rw [Nat.max_eq_left (Nat.max_le.mpr ⟨Nat.le_of_lt hab, Nat.le_of_lt hac⟩)] at hQ; exact hQ
/-- the model's readers -/
theorem sp_crow {k : Nat} (hQ : Q (.inl (some (vi (nI (8 + 8 * k)))), G x m)) : Cl X d 152 [vi (nI k)] (G x m) Q := by
  refine vc_X11_colourRow ?_
  rw [show (8 : Int32) = nI 8 from rfl, pk_mul, nI_add]
  exact hQ
theorem sp_rrow {k : Nat} (hQ : Q (.inl (some (vi (nI (88 + 8 * k)))), G x m)) : Cl X d 153 [vi (nI k)] (G x m) Q := by
  refine vc_X11_reportRow ?_
  rw [show (8 : Int32) = nI 8 from rfl, show (88 : Int32) = nI 88 from rfl, pk_mul, nI_add]
  exact hQ
theorem sp_c {k o : Nat} (hk : k ≤ 15) (ho : o < 8) (hQ : Q (.inl (some (vi (m 32 0 (8 + 8 * k + o)))), G x m)) : Cl X (d + 1) 154 [vp 31 0, vi (nI k), vi (nI o)] (G x m) Q := by
  refine vc_X11_c (sp_crow ⟨_, _, rfl, ?_⟩)
  rw [nI_add, nI_clamp (n := 8 + 8 * k + o) (by omega)]
  exact ⟨inb_n (8 + 8 * k + o) 136 (by omega), hQ⟩
theorem sp_r {k o : Nat} (hk : k ≤ 5) (ho : o < 8) (hQ : Q (.inl (some (vi (m 32 0 (88 + 8 * k + o)))), G x m)) : Cl X (d + 1) 155 [vp 31 0, vi (nI k), vi (nI o)] (G x m) Q := by
  refine vc_X11_r (sp_rrow ⟨_, _, rfl, ?_⟩)
  rw [nI_add, nI_clamp (n := 88 + 8 * k + o) (by omega)]
  exact ⟨inb_n (88 + 8 * k + o) 136 (by omega), hQ⟩
/-- a search in the model -/
theorem sp_mcol {a : AS} {id : Int32} (h : relR (m 32 0) a) (hl : (aC a).length ≤ 10) (hQ : Q (.inl (some (vi (posV (aC a) id))), G x m)) : Cl X (d + 2) 156 [vp 31 0, vi id] (G x m) Q := by
  refine vc_X11_colour ?_
  have key : ∀ j k : Nat, k + j = (aC a).length → (∀ i, i < k → ¬ nI (rowD (aC a) i 0) = id) → Wp X (d + 2) 156 (2, ([some (vp 31 0), some (vi id), some (vi (nI k))], ([], G x m))) Q := by
    intro j
    induction j with
    | zero =>
      intro k hk hno
      refine vl_X11_colour_2 ?_
      rw [h.1.1]
      refine pk_le (aC a).length k (fun _ => ?_) (fun hc => by omega)
      have e : posV (aC a) id = -1 := by
        unfold posV
        rw [posI_no (fun i hi => hno i (by omega)), if_neg (Nat.lt_irrefl _)]
      rw [e] at hQ
      exact hQ
    | succ j ih =>
      intro k hk hno
      refine vl_X11_colour_2 ?_
      rw [h.1.1]
      refine pk_le (aC a).length k (fun hc => by omega) (fun hc => ?_)
      refine sp_c (k := k) (o := 0) (by omega) (by omega) ⟨_, _, rfl, ?_⟩
      rw [h.2.1 k hc 0 (by decide)]
      refine ⟨fun hne t3 ht3 => ?_, fun heq => ?_⟩
      · rw [ht3, nI_1]
        refine ih (k + 1) (by omega) (fun i hi => ?_)
        rcases Nat.lt_succ_iff_lt_or_eq.mp hi with h9 | h9
        · exact hno i h9
        · rw [h9]; exact hne
      · have e : posV (aC a) id = nI k := by
          unfold posV
          rw [posI_at hc (Decidable.not_not.mp heq) hno, if_pos hc]
        rw [e] at hQ
        exact hQ
  exact key (aC a).length 0 (by omega) (fun i hi => absurd hi (Nat.not_lt_zero i))
theorem sp_mrep {a : AS} {id : Int32} (h : relR (m 32 0) a) (hl : (aR a).length ≤ 6) (hQ : Q (.inl (some (vi (posV (aR a) id))), G x m)) : Cl X (d + 2) 157 [vp 31 0, vi id] (G x m) Q := by
  refine vc_X11_openReport ?_
  have key : ∀ j k : Nat, k + j = (aR a).length → (∀ i, i < k → ¬ nI (rowD (aR a) i 0) = id) → Wp X (d + 2) 157 (2, ([some (vp 31 0), some (vi id), some (vi (nI k))], ([], G x m))) Q := by
    intro j
    induction j with
    | zero =>
      intro k hk hno
      refine vl_X11_openReport_2 ?_
      rw [h.1.2.1]
      refine pk_le (aR a).length k (fun _ => ?_) (fun hc => by omega)
      have e : posV (aR a) id = -1 := by
        unfold posV
        rw [posI_no (fun i hi => hno i (by omega)), if_neg (Nat.lt_irrefl _)]
      rw [e] at hQ
      exact hQ
    | succ j ih =>
      intro k hk hno
      refine vl_X11_openReport_2 ?_
      rw [h.1.2.1]
      refine pk_le (aR a).length k (fun hc => by omega) (fun hc => ?_)
      refine sp_r (k := k) (o := 0) (by omega) (by omega) ⟨_, _, rfl, ?_⟩
      rw [h.2.2 k hc 0 (by decide)]
      refine ⟨fun hne t3 ht3 => ?_, fun heq => ?_⟩
      · rw [ht3, nI_1]
        refine ih (k + 1) (by omega) (fun i hi => ?_)
        rcases Nat.lt_succ_iff_lt_or_eq.mp hi with h9 | h9
        · exact hno i h9
        · rw [h9]; exact hne
      · have e : posV (aR a) id = nI k := by
          unfold posV
          rw [posI_at hc (Decidable.not_not.mp heq) hno, if_pos hc]
        rw [e] at hQ
        exact hQ
  exact key (aR a).length 0 (by omega) (fun i hi => absurd hi (Nat.not_lt_zero i))
end DST
