set_option maxRecDepth 100000 in
set_option maxHeartbeats 4000000 in
theorem vc_X2_nearestByTree_30 {X : MX} {d : Nat} {x : Int64 × UInt64} {m : MI} {Q : MRes → Prop} {q0 : Nat} (h : (∀ t1 : Int32, t1 = m 2 q0 1 → Cl X d 101 [vp 10 0, vi t1] (G x m) (fun r => ∃ (m3 : MI), r = (.inl none, G x m3) ∧ Cl X d 102 [vp 4 q0, vp 11 0, vi 0, vi t1, vi 0] (G x m3) (fun r => ∃ (m5 : MI), r = (.inl none, G x m5) ∧ Cl X d 104 [vp 1 q0, vp 11 0, vp 30 0, vi 0, vi t1, vi 0, vi (-1)] (G x m5) (fun r => ∃ (v6 : Int32) (m7 : MI), r = (.inl (some (vi v6)), G x m7) ∧ Q (.inl (some (vi v6)), G x m7)))))) : Cl X (d + 1) 100 [vp 10 0, vp 1 q0, vp 30 0] (G x m) Q := by
  show Wp X (d + 1) 100 (0, ([some (vp 10 0), some (vp 1 q0), some (vp 30 0), none], ([], G x m))) Q
  refine wp_run 4 true (8, ([some (vp 10 0), some (vp 1 q0), some (vp 30 0), some (vi (m 2 q0 1))], ([], G x m))) rfl rfl ?_
  refine wpg (fun t1 => Wp X (d + 1) 100 (8, ([some (vp 10 0), some (vp 1 q0), some (vp 30 0), some (vi t1)], ([], G x m))) Q) (m 2 q0 1) (fun t1 ht1 => ?_)
  have h := h t1 ht1
  refine wp_run 2 true (10, ([some (vp 10 0), some (vp 1 q0), some (vp 30 0), some (vi t1)], ([vi t1, vp 10 0], G x m))) rfl rfl ?_
  refine wp_call 101 [vp 10 0, vi t1] (13, ([some (vp 10 0), some (vp 1 q0), some (vp 30 0), some (vi t1)], ([], G x m))) rfl rfl (Cl.mono h (Nat.le_refl _) ?_)
  rintro r ⟨m3, rfl, h⟩
  · show Wp X (d + 1) 100 (13, ([some (vp 10 0), some (vp 1 q0), some (vp 30 0), some (vi t1)], ([], G x m3))) Q
    refine wp_run 8 true (27, ([some (vp 10 0), some (vp 1 q0), some (vp 30 0), some (vi t1)], ([vi 0, vi t1, vi 0, vp 11 0, vp 4 q0], G x m3))) rfl rfl ?_
    refine wp_call 102 [vp 4 q0, vp 11 0, vi 0, vi t1, vi 0] (30, ([some (vp 10 0), some (vp 1 q0), some (vp 30 0), some (vi t1)], ([], G x m3))) rfl rfl (Cl.mono h (Nat.le_refl _) ?_)
    rintro r ⟨m5, rfl, h⟩
    · show Wp X (d + 1) 100 (30, ([some (vp 10 0), some (vp 1 q0), some (vp 30 0), some (vi t1)], ([], G x m5))) Q
      refine wp_run 8 true (40, ([some (vp 10 0), some (vp 1 q0), some (vp 30 0), some (vi t1)], ([vi (-1), vi 0, vi t1, vi 0, vp 30 0, vp 11 0, vp 1 q0], G x m5))) rfl rfl ?_
      refine wp_call 104 [vp 1 q0, vp 11 0, vp 30 0, vi 0, vi t1, vi 0, vi (-1)] (43, ([some (vp 10 0), some (vp 1 q0), some (vp 30 0), some (vi t1)], ([], G x m5))) rfl rfl (Cl.mono h (Nat.le_refl _) ?_)
      rintro r ⟨v6, m7, rfl, h⟩
      · show Wp X (d + 1) 100 (43, ([some (vp 10 0), some (vp 1 q0), some (vp 30 0), some (vi t1)], ([vi v6], G x m7))) Q
        exact wp_ret rfl h
set_option maxRecDepth 100000 in
set_option maxHeartbeats 4000000 in
theorem vc_X2_nearestByTree_7 {X : MX} {d : Nat} {x : Int64 × UInt64} {m : MI} {Q : MRes → Prop} {q0 : Nat} {q1 : Nat} (h : (∀ t1 : Int32, t1 = m 2 q0 1 → Cl X d 101 [vp 10 0, vi t1] (G x m) (fun r => ∃ (m3 : MI), r = (.inl none, G x m3) ∧ Cl X d 102 [vp 4 q0, vp 11 0, vi 0, vi t1, vi 0] (G x m3) (fun r => ∃ (m5 : MI), r = (.inl none, G x m5) ∧ Cl X d 104 [vp 1 q0, vp 11 0, vp 7 q1, vi 0, vi t1, vi 0, vi (-1)] (G x m5) (fun r => ∃ (v6 : Int32) (m7 : MI), r = (.inl (some (vi v6)), G x m7) ∧ Q (.inl (some (vi v6)), G x m7)))))) : Cl X (d + 1) 100 [vp 10 0, vp 1 q0, vp 7 q1] (G x m) Q := by
  show Wp X (d + 1) 100 (0, ([some (vp 10 0), some (vp 1 q0), some (vp 7 q1), none], ([], G x m))) Q
  refine wp_run 4 true (8, ([some (vp 10 0), some (vp 1 q0), some (vp 7 q1), some (vi (m 2 q0 1))], ([], G x m))) rfl rfl ?_
  refine wpg (fun t1 => Wp X (d + 1) 100 (8, ([some (vp 10 0), some (vp 1 q0), some (vp 7 q1), some (vi t1)], ([], G x m))) Q) (m 2 q0 1) (fun t1 ht1 => ?_)
  have h := h t1 ht1
  refine wp_run 2 true (10, ([some (vp 10 0), some (vp 1 q0), some (vp 7 q1), some (vi t1)], ([vi t1, vp 10 0], G x m))) rfl rfl ?_
  refine wp_call 101 [vp 10 0, vi t1] (13, ([some (vp 10 0), some (vp 1 q0), some (vp 7 q1), some (vi t1)], ([], G x m))) rfl rfl (Cl.mono h (Nat.le_refl _) ?_)
  rintro r ⟨m3, rfl, h⟩
  · show Wp X (d + 1) 100 (13, ([some (vp 10 0), some (vp 1 q0), some (vp 7 q1), some (vi t1)], ([], G x m3))) Q
    refine wp_run 8 true (27, ([some (vp 10 0), some (vp 1 q0), some (vp 7 q1), some (vi t1)], ([vi 0, vi t1, vi 0, vp 11 0, vp 4 q0], G x m3))) rfl rfl ?_
    refine wp_call 102 [vp 4 q0, vp 11 0, vi 0, vi t1, vi 0] (30, ([some (vp 10 0), some (vp 1 q0), some (vp 7 q1), some (vi t1)], ([], G x m3))) rfl rfl (Cl.mono h (Nat.le_refl _) ?_)
    rintro r ⟨m5, rfl, h⟩
    · show Wp X (d + 1) 100 (30, ([some (vp 10 0), some (vp 1 q0), some (vp 7 q1), some (vi t1)], ([], G x m5))) Q
      refine wp_run 8 true (40, ([some (vp 10 0), some (vp 1 q0), some (vp 7 q1), some (vi t1)], ([vi (-1), vi 0, vi t1, vi 0, vp 7 q1, vp 11 0, vp 1 q0], G x m5))) rfl rfl ?_
      refine wp_call 104 [vp 1 q0, vp 11 0, vp 7 q1, vi 0, vi t1, vi 0, vi (-1)] (43, ([some (vp 10 0), some (vp 1 q0), some (vp 7 q1), some (vi t1)], ([], G x m5))) rfl rfl (Cl.mono h (Nat.le_refl _) ?_)
      rintro r ⟨v6, m7, rfl, h⟩
      · show Wp X (d + 1) 100 (43, ([some (vp 10 0), some (vp 1 q0), some (vp 7 q1), some (vi t1)], ([vi v6], G x m7))) Q
        exact wp_ret rfl h
set_option maxRecDepth 100000 in
set_option maxHeartbeats 4000000 in
theorem vc_X2_listAll {X : MX} {d : Nat} {x : Int64 × UInt64} {m : MI} {Q : MRes → Prop} {p0 : Int32} (h : Wp X d 101 (2, ([some (vp 10 0), some (vi p0), some (vi 0)], ([], G x m))) Q) : Cl X d 101 [vp 10 0, vi p0] (G x m) Q := by
  show Wp X d 101 (0, ([some (vp 10 0), some (vi p0), none], ([], G x m))) Q
  refine wp_run 2 true (2, ([some (vp 10 0), some (vi p0), some (vi 0)], ([], G x m))) rfl rfl ?_
  exact h
set_option maxRecDepth 100000 in
set_option maxHeartbeats 4000000 in
theorem vl_X2_listAll_2 {X : MX} {d : Nat} {x : Int64 × UInt64} {m : MI} {Q : MRes → Prop} {l1 : Int32} {l2 : Int32} (h : ((l1 ≤ l2 → Q (.inl none, G x m)) ∧ (¬ (l1 ≤ l2) → (inb l2 10 = true ∧ (∀ m2 : MI, m2 = mup m 11 0 (l2.toNatClampNeg) l2 → (∀ t3 : Int32, t3 = l2 + 1 → Wp X d 101 (2, ([some (vp 10 0), some (vi l1), some (vi t3)], ([], G x m2))) Q)))))) : Wp X d 101 (2, ([some (vp 10 0), some (vi l1), some (vi l2)], ([], G x m))) Q := by
  refine wp_run 3 true ((bif decide (l1 ≤ l2) then 20 else 7), ([some (vp 10 0), some (vi l1), some (vi l2)], ([], G x m))) rfl rfl ?_
  refine wp_if (l1 ≤ l2) (fun c1 => ?_) (fun c1 => ?_)
  · have h := h.1 c1
    exact wp_ret rfl h
  · have h := h.2 c1
    obtain ⟨hg2_0, h⟩ := h
    refine wp_run 5 (inb l2 10 && true) (14, ([some (vp 10 0), some (vi l1), some (vi l2)], ([], G x (mup m 11 0 (l2.toNatClampNeg) l2)))) rfl (and_t hg2_0 rfl) ?_
    refine wpg (fun m2 => Wp X d 101 (14, ([some (vp 10 0), some (vi l1), some (vi l2)], ([], G x m2))) Q) (mup m 11 0 (l2.toNatClampNeg) l2) (fun m2 hm2 => ?_)
    have h := h m2 hm2
    refine wp_run 1 true (17, ([some (vp 10 0), some (vi l1), some (vi (l2 + 1))], ([], G x m2))) rfl rfl ?_
    refine wpg (fun t3 => Wp X d 101 (17, ([some (vp 10 0), some (vi l1), some (vi t3)], ([], G x m2))) Q) (l2 + 1) (fun t3 ht3 => ?_)
    have h := h t3 ht3
    refine wp_run 1 true (2, ([some (vp 10 0), some (vi l1), some (vi t3)], ([], G x m2))) rfl rfl ?_
    exact h
set_option maxRecDepth 100000 in
set_option maxHeartbeats 4000000 in
theorem vc_X2_divide {X : MX} {d : Nat} {x : Int64 × UInt64} {m : MI} {Q : MRes → Prop} {q0 : Nat} {p2 : Int32} {p3 : Int32} {p4 : Int32} (h : (((p3 - p2) < 2 → Q (.inl none, G x m)) ∧ (¬ ((p3 - p2) < 2) → ((p4 ≤ 10 → Cl X d 103 [vp 4 q0, vp 11 0, vi p2, vi p3, vi (1 + (p4 - p4 / 3 * 3))] (G x m) (fun r => ∃ (m4 : MI), r = (.inl none, G x m4) ∧ (∀ t5 : Int32, t5 = (p2 + p3) / 2 → Cl X d 102 [vp 4 q0, vp 11 0, vi p2, vi t5, vi (p4 + 1)] (G x m4) (fun r => ∃ (m7 : MI), r = (.inl none, G x m7) ∧ Cl X d 102 [vp 4 q0, vp 11 0, vi (t5 + 1), vi p3, vi (p4 + 1)] (G x m7) (fun r => ∃ (m9 : MI), r = (.inl none, G x m9) ∧ Q (.inl none, G x m9)))))) ∧ (¬ (p4 ≤ 10) → Q (.inl none, G x m)))))) : Cl X (d + 1) 102 [vp 4 q0, vp 11 0, vi p2, vi p3, vi p4] (G x m) Q := by
  show Wp X (d + 1) 102 (0, ([some (vp 4 q0), some (vp 11 0), some (vi p2), some (vi p3), some (vi p4), none], ([], G x m))) Q
  refine wp_run 5 true ((bif decide ((p3 - p2) < 2) then 14 else 7), ([some (vp 4 q0), some (vp 11 0), some (vi p2), some (vi p3), some (vi p4), none], ([], G x m))) rfl rfl ?_
  refine wp_if ((p3 - p2) < 2) (fun c1 => ?_) (fun c1 => ?_)
  · have h := h.1 c1
    exact wp_ret rfl h
  · have h := h.2 c1
    refine wp_run 3 true ((bif decide (p4 ≤ 10) then 15 else 14), ([some (vp 4 q0), some (vp 11 0), some (vi p2), some (vi p3), some (vi p4), none], ([], G x m))) rfl rfl ?_
    refine wp_if (p4 ≤ 10) (fun c2 => ?_) (fun c2 => ?_)
    · have h := h.1 c2
      refine wp_run 9 true (25, ([some (vp 4 q0), some (vp 11 0), some (vi p2), some (vi p3), some (vi p4), none], ([vi (1 + (p4 - p4 / 3 * 3)), vi p3, vi p2, vp 11 0, vp 4 q0], G x m))) rfl rfl ?_
      refine wp_call 103 [vp 4 q0, vp 11 0, vi p2, vi p3, vi (1 + (p4 - p4 / 3 * 3))] (28, ([some (vp 4 q0), some (vp 11 0), some (vi p2), some (vi p3), some (vi p4), none], ([], G x m))) rfl rfl (Cl.mono h (Nat.le_refl _) ?_)
      rintro r ⟨m4, rfl, h⟩
      · show Wp X (d + 1) 102 (28, ([some (vp 4 q0), some (vp 11 0), some (vi p2), some (vi p3), some (vi p4), none], ([], G x m4))) Q
        refine wp_run 6 true (35, ([some (vp 4 q0), some (vp 11 0), some (vi p2), some (vi p3), some (vi p4), some (vi ((p2 + p3) / 2))], ([], G x m4))) rfl rfl ?_
        refine wpg (fun t5 => Wp X (d + 1) 102 (35, ([some (vp 4 q0), some (vp 11 0), some (vi p2), some (vi p3), some (vi p4), some (vi t5)], ([], G x m4))) Q) ((p2 + p3) / 2) (fun t5 ht5 => ?_)
        have h := h t5 ht5
        refine wp_run 7 true (44, ([some (vp 4 q0), some (vp 11 0), some (vi p2), some (vi p3), some (vi p4), some (vi t5)], ([vi (p4 + 1), vi t5, vi p2, vp 11 0, vp 4 q0], G x m4))) rfl rfl ?_
        refine wp_call 102 [vp 4 q0, vp 11 0, vi p2, vi t5, vi (p4 + 1)] (47, ([some (vp 4 q0), some (vp 11 0), some (vi p2), some (vi p3), some (vi p4), some (vi t5)], ([], G x m4))) rfl rfl (Cl.mono h (Nat.le_refl _) ?_)
        rintro r ⟨m7, rfl, h⟩
        · show Wp X (d + 1) 102 (47, ([some (vp 4 q0), some (vp 11 0), some (vi p2), some (vi p3), some (vi p4), some (vi t5)], ([], G x m7))) Q
          refine wp_run 9 true (58, ([some (vp 4 q0), some (vp 11 0), some (vi p2), some (vi p3), some (vi p4), some (vi t5)], ([vi (p4 + 1), vi p3, vi (t5 + 1), vp 11 0, vp 4 q0], G x m7))) rfl rfl ?_
          refine wp_call 102 [vp 4 q0, vp 11 0, vi (t5 + 1), vi p3, vi (p4 + 1)] (61, ([some (vp 4 q0), some (vp 11 0), some (vi p2), some (vi p3), some (vi p4), some (vi t5)], ([], G x m7))) rfl rfl (Cl.mono h (Nat.le_refl _) ?_)
          rintro r ⟨m9, rfl, h⟩
          · show Wp X (d + 1) 102 (61, ([some (vp 4 q0), some (vp 11 0), some (vi p2), some (vi p3), some (vi p4), some (vi t5)], ([], G x m9))) Q
            exact wp_ret rfl h
    · have h := h.2 c2
      exact wp_ret rfl h
set_option maxRecDepth 100000 in
set_option maxHeartbeats 4000000 in
theorem vc_X2_sort {X : MX} {d : Nat} {x : Int64 × UInt64} {m : MI} {Q : MRes → Prop} {q0 : Nat} {p2 : Int32} {p3 : Int32} {p4 : Int32} (h : (∀ t1 : Int32, t1 = p2 + 1 → Wp X d 103 (5, ([some (vp 4 q0), some (vp 11 0), some (vi p2), some (vi p3), some (vi p4), some (vi t1), none, none], ([], G x m))) Q)) : Cl X d 103 [vp 4 q0, vp 11 0, vi p2, vi p3, vi p4] (G x m) Q := by
  show Wp X d 103 (0, ([some (vp 4 q0), some (vp 11 0), some (vi p2), some (vi p3), some (vi p4), none, none, none], ([], G x m))) Q
  refine wp_run 4 true (5, ([some (vp 4 q0), some (vp 11 0), some (vi p2), some (vi p3), some (vi p4), some (vi (p2 + 1)), none, none], ([], G x m))) rfl rfl ?_
  refine wpg (fun t1 => Wp X d 103 (5, ([some (vp 4 q0), some (vp 11 0), some (vi p2), some (vi p3), some (vi p4), some (vi t1), none, none], ([], G x m))) Q) (p2 + 1) (fun t1 ht1 => ?_)
  have h := h t1 ht1
  exact h
set_option maxRecDepth 100000 in
set_option maxHeartbeats 4000000 in
theorem vl_X2_sort_5 {X : MX} {d : Nat} {x : Int64 × UInt64} {m : MI} {Q : MRes → Prop} {q0 : Nat} {l2 : Int32} {l3 : Int32} {l4 : Int32} {l5 : Int32} {o6 : Option MV} {o7 : Option MV} (h : ((l3 ≤ l5 → Q (.inl none, G x m)) ∧ (¬ (l3 ≤ l5) → Wp X d 103 (15, ([some (vp 4 q0), some (vp 11 0), some (vi l2), some (vi l3), some (vi l4), some (vi l5), some (vi l5), o7], ([], G x m))) Q))) : Wp X d 103 (5, ([some (vp 4 q0), some (vp 11 0), some (vi l2), some (vi l3), some (vi l4), some (vi l5), o6, o7], ([], G x m))) Q := by
  refine wp_run 3 true ((bif decide (l3 ≤ l5) then 80 else 11), ([some (vp 4 q0), some (vp 11 0), some (vi l2), some (vi l3), some (vi l4), some (vi l5), o6, o7], ([], G x m))) rfl rfl ?_
  refine wp_if (l3 ≤ l5) (fun c1 => ?_) (fun c1 => ?_)
  · have h := h.1 c1
    exact wp_ret rfl h
  · have h := h.2 c1
    refine wp_run 2 true (15, ([some (vp 4 q0), some (vp 11 0), some (vi l2), some (vi l3), some (vi l4), some (vi l5), some (vi l5), o7], ([], G x m))) rfl rfl ?_
    exact h
set_option maxRecDepth 100000 in
set_option maxHeartbeats 4000000 in
theorem vl_X2_sort_15 {X : MX} {d : Nat} {x : Int64 × UInt64} {m : MI} {Q : MRes → Prop} {q0 : Nat} {l2 : Int32} {l3 : Int32} {l4 : Int32} {l5 : Int32} {l6 : Int32} {o7 : Option MV} (h : ((l6 ≤ l2 → (∀ t2 : Int32, t2 = l5 + 1 → Wp X d 103 (5, ([some (vp 4 q0), some (vp 11 0), some (vi l2), some (vi l3), some (vi l4), some (vi t2), some (vi l6), o7], ([], G x m))) Q)) ∧ (¬ (l6 ≤ l2) → (inb (l6 - 1) 10 = true ∧ inb (m 11 0 (l6 - 1).toNatClampNeg) 10 = true ∧ inb l4 6 = true ∧ inb l6 10 = true ∧ inb (m 11 0 l6.toNatClampNeg) 10 = true ∧ inb l4 6 = true ∧ (((m 5 (10 * q0 + (m 11 0 (l6 - 1).toNatClampNeg).toNatClampNeg) l4.toNatClampNeg) ≤ (m 5 (10 * q0 + (m 11 0 l6.toNatClampNeg).toNatClampNeg) l4.toNatClampNeg) → (∀ t4 : Int32, t4 = l5 + 1 → Wp X d 103 (5, ([some (vp 4 q0), some (vp 11 0), some (vi l2), some (vi l3), some (vi l4), some (vi t4), some (vi l6), o7], ([], G x m))) Q)) ∧ (¬ ((m 5 (10 * q0 + (m 11 0 (l6 - 1).toNatClampNeg).toNatClampNeg) l4.toNatClampNeg) ≤ (m 5 (10 * q0 + (m 11 0 l6.toNatClampNeg).toNatClampNeg) l4.toNatClampNeg)) → (inb l6 10 = true ∧ (∀ t5 : Int32, t5 = m 11 0 l6.toNatClampNeg → (inb (l6 - 1) 10 = true ∧ inb l6 10 = true ∧ (∀ m6 : MI, m6 = mup m 11 0 (l6.toNatClampNeg) (m 11 0 (l6 - 1).toNatClampNeg) → (inb (l6 - 1) 10 = true ∧ (∀ m7 : MI, m7 = mup m6 11 0 ((l6 - 1).toNatClampNeg) t5 → (∀ t8 : Int32, t8 = l6 + (-1) → Wp X d 103 (15, ([some (vp 4 q0), some (vp 11 0), some (vi l2), some (vi l3), some (vi l4), some (vi l5), some (vi t8), some (vi t5)], ([], G x m7))) Q))))))))))))) : Wp X d 103 (15, ([some (vp 4 q0), some (vp 11 0), some (vi l2), some (vi l3), some (vi l4), some (vi l5), some (vi l6), o7], ([], G x m))) Q := by
  refine wp_run 3 true ((bif decide (l6 ≤ l2) then 74 else 21), ([some (vp 4 q0), some (vp 11 0), some (vi l2), some (vi l3), some (vi l4), some (vi l5), some (vi l6), o7], ([], G x m))) rfl rfl ?_
  refine wp_if (l6 ≤ l2) (fun c1 => ?_) (fun c1 => ?_)
  · have h := h.1 c1
    refine wp_run 1 true (77, ([some (vp 4 q0), some (vp 11 0), some (vi l2), some (vi l3), some (vi l4), some (vi (l5 + 1)), some (vi l6), o7], ([], G x m))) rfl rfl ?_
    refine wpg (fun t2 => Wp X d 103 (77, ([some (vp 4 q0), some (vp 11 0), some (vi l2), some (vi l3), some (vi l4), some (vi t2), some (vi l6), o7], ([], G x m))) Q) (l5 + 1) (fun t2 ht2 => ?_)
    have h := h t2 ht2
    refine wp_run 1 true (5, ([some (vp 4 q0), some (vp 11 0), some (vi l2), some (vi l3), some (vi l4), some (vi t2), some (vi l6), o7], ([], G x m))) rfl rfl ?_
    exact h
  · have h := h.2 c1
    obtain ⟨hg2_0, hg2_1, hg2_2, hg2_3, hg2_4, hg2_5, h⟩ := h
    refine wp_run 17 (inb l4 6 && (inb (m 11 0 l6.toNatClampNeg) 10 && (inb l6 10 && (inb l4 6 && (inb (m 11 0 (l6 - 1).toNatClampNeg) 10 && (inb (l6 - 1) 10 && true)))))) ((bif decide ((m 5 (10 * q0 + (m 11 0 (l6 - 1).toNatClampNeg).toNatClampNeg) l4.toNatClampNeg) ≤ (m 5 (10 * q0 + (m 11 0 l6.toNatClampNeg).toNatClampNeg) l4.toNatClampNeg)) then 74 else 44), ([some (vp 4 q0), some (vp 11 0), some (vi l2), some (vi l3), some (vi l4), some (vi l5), some (vi l6), o7], ([], G x m))) rfl (and_t hg2_5 (and_t hg2_4 (and_t hg2_3 (and_t hg2_2 (and_t hg2_1 (and_t hg2_0 rfl)))))) ?_
    refine wp_if ((m 5 (10 * q0 + (m 11 0 (l6 - 1).toNatClampNeg).toNatClampNeg) l4.toNatClampNeg) ≤ (m 5 (10 * q0 + (m 11 0 l6.toNatClampNeg).toNatClampNeg) l4.toNatClampNeg)) (fun c3 => ?_) (fun c3 => ?_)
    · have h := h.1 c3
      refine wp_run 1 true (77, ([some (vp 4 q0), some (vp 11 0), some (vi l2), some (vi l3), some (vi l4), some (vi (l5 + 1)), some (vi l6), o7], ([], G x m))) rfl rfl ?_
      refine wpg (fun t4 => Wp X d 103 (77, ([some (vp 4 q0), some (vp 11 0), some (vi l2), some (vi l3), some (vi l4), some (vi t4), some (vi l6), o7], ([], G x m))) Q) (l5 + 1) (fun t4 ht4 => ?_)
      have h := h t4 ht4
      refine wp_run 1 true (5, ([some (vp 4 q0), some (vp 11 0), some (vi l2), some (vi l3), some (vi l4), some (vi t4), some (vi l6), o7], ([], G x m))) rfl rfl ?_
      exact h
    · have h := h.2 c3
      obtain ⟨hg3_0, h⟩ := h
      refine wp_run 4 (inb l6 10 && true) (50, ([some (vp 4 q0), some (vp 11 0), some (vi l2), some (vi l3), some (vi l4), some (vi l5), some (vi l6), some (vi (m 11 0 l6.toNatClampNeg))], ([], G x m))) rfl (and_t hg3_0 rfl) ?_
      refine wpg (fun t5 => Wp X d 103 (50, ([some (vp 4 q0), some (vp 11 0), some (vi l2), some (vi l3), some (vi l4), some (vi l5), some (vi l6), some (vi t5)], ([], G x m))) Q) (m 11 0 l6.toNatClampNeg) (fun t5 ht5 => ?_)
      have h := h t5 ht5
      obtain ⟨hg3_0, hg3_1, h⟩ := h
      refine wp_run 8 (inb l6 10 && (inb (l6 - 1) 10 && true)) (60, ([some (vp 4 q0), some (vp 11 0), some (vi l2), some (vi l3), some (vi l4), some (vi l5), some (vi l6), some (vi t5)], ([], G x (mup m 11 0 (l6.toNatClampNeg) (m 11 0 (l6 - 1).toNatClampNeg))))) rfl (and_t hg3_1 (and_t hg3_0 rfl)) ?_
      refine wpg (fun m6 => Wp X d 103 (60, ([some (vp 4 q0), some (vp 11 0), some (vi l2), some (vi l3), some (vi l4), some (vi l5), some (vi l6), some (vi t5)], ([], G x m6))) Q) (mup m 11 0 (l6.toNatClampNeg) (m 11 0 (l6 - 1).toNatClampNeg)) (fun m6 hm6 => ?_)
      have h := h m6 hm6
      obtain ⟨hg3_0, h⟩ := h
      refine wp_run 6 (inb (l6 - 1) 10 && true) (68, ([some (vp 4 q0), some (vp 11 0), some (vi l2), some (vi l3), some (vi l4), some (vi l5), some (vi l6), some (vi t5)], ([], G x (mup m6 11 0 ((l6 - 1).toNatClampNeg) t5)))) rfl (and_t hg3_0 rfl) ?_
      refine wpg (fun m7 => Wp X d 103 (68, ([some (vp 4 q0), some (vp 11 0), some (vi l2), some (vi l3), some (vi l4), some (vi l5), some (vi l6), some (vi t5)], ([], G x m7))) Q) (mup m6 11 0 ((l6 - 1).toNatClampNeg) t5) (fun m7 hm7 => ?_)
      have h := h m7 hm7
      refine wp_run 1 true (71, ([some (vp 4 q0), some (vp 11 0), some (vi l2), some (vi l3), some (vi l4), some (vi l5), some (vi (l6 + (-1))), some (vi t5)], ([], G x m7))) rfl rfl ?_
      refine wpg (fun t8 => Wp X d 103 (71, ([some (vp 4 q0), some (vp 11 0), some (vi l2), some (vi l3), some (vi l4), some (vi l5), some (vi t8), some (vi t5)], ([], G x m7))) Q) (l6 + (-1)) (fun t8 ht8 => ?_)
      have h := h t8 ht8
      refine wp_run 1 true (15, ([some (vp 4 q0), some (vp 11 0), some (vi l2), some (vi l3), some (vi l4), some (vi l5), some (vi t8), some (vi t5)], ([], G x m7))) rfl rfl ?_
      exact h
set_option maxRecDepth 100000 in
set_option maxHeartbeats 4000000 in
theorem vc_X2_search_11_30 {X : MX} {d : Nat} {x : Int64 × UInt64} {m : MI} {Q : MRes → Prop} {q0 : Nat} {p3 : Int32} {p4 : Int32} {p5 : Int32} {p6 : Int32} (h : ((p4 ≤ p3 → Q (.inl (some (vi p6)), G x m)) ∧ (¬ (p4 ≤ p3) → ((p5 ≤ 10 → (∀ t3 : Int32, t3 = (p3 + p4) / 2 → (inb t3 10 = true ∧ (∀ t4 : Int32, t4 = m 11 0 t3.toNatClampNeg → (∀ t5 : Int32, t5 = 1 + (p5 - p5 / 3 * 3) → (inb t5 6 = true ∧ inb t4 10 = true ∧ inb t5 6 = true ∧ (∀ t6 : Int32, t6 = (m 30 0 t5.toNatClampNeg) - (m 5 (10 * q0 + t4.toNatClampNeg) t5.toNatClampNeg) → Cl X d 105 [vp 1 q0, vp 30 0, vi p6, vi t4] (G x m) (fun r => ∃ (v7 : Int32) (m8 : MI), r = (.inl (some (vi v7)), G x m8) ∧ ((0 ≤ t6 → Cl X d 104 [vp 1 q0, vp 11 0, vp 30 0, vi (t3 + 1), vi p4, vi (p5 + 1), vi v7] (G x m8) (fun r => ∃ (v10 : Int32) (m11 : MI), r = (.inl (some (vi v10)), G x m11) ∧ Cl X d 60 [vi (m11 1 q0 3), vi t6, vi 0, vi 0] (G x m11) (fun r => ∃ (v12 : Int32) (m13 : MI), r = (.inl (some (vi v12)), G x m13) ∧ (inb v10 10 = true ∧ Cl X d 85 [vp 1 q0, vp 30 0, vp 5 (10 * q0 + v10.toNatClampNeg)] (G x m13) (fun r => ∃ (v14 : Int32) (m15 : MI), r = (.inl (some (vi v14)), G x m15) ∧ ((v14 < v12 → Q (.inl (some (vi v10)), G x m15)) ∧ (¬ (v14 < v12) → ((0 ≤ t6 → Cl X d 104 [vp 1 q0, vp 11 0, vp 30 0, vi p3, vi t3, vi (p5 + 1), vi v10] (G x m15) (fun r => ∃ (v18 : Int32) (m19 : MI), r = (.inl (some (vi v18)), G x m19) ∧ Q (.inl (some (vi v18)), G x m19))) ∧ (¬ (0 ≤ t6) → Cl X d 104 [vp 1 q0, vp 11 0, vp 30 0, vi (t3 + 1), vi p4, vi (p5 + 1), vi v10] (G x m15) (fun r => ∃ (v20 : Int32) (m21 : MI), r = (.inl (some (vi v20)), G x m21) ∧ Q (.inl (some (vi v20)), G x m21))))))))))) ∧ (¬ (0 ≤ t6) → Cl X d 104 [vp 1 q0, vp 11 0, vp 30 0, vi p3, vi t3, vi (p5 + 1), vi v7] (G x m8) (fun r => ∃ (v22 : Int32) (m23 : MI), r = (.inl (some (vi v22)), G x m23) ∧ Cl X d 60 [vi (m23 1 q0 3), vi t6, vi 0, vi 0] (G x m23) (fun r => ∃ (v24 : Int32) (m25 : MI), r = (.inl (some (vi v24)), G x m25) ∧ (inb v22 10 = true ∧ Cl X d 85 [vp 1 q0, vp 30 0, vp 5 (10 * q0 + v22.toNatClampNeg)] (G x m25) (fun r => ∃ (v26 : Int32) (m27 : MI), r = (.inl (some (vi v26)), G x m27) ∧ ((v26 < v24 → Q (.inl (some (vi v22)), G x m27)) ∧ (¬ (v26 < v24) → ((0 ≤ t6 → Cl X d 104 [vp 1 q0, vp 11 0, vp 30 0, vi p3, vi t3, vi (p5 + 1), vi v22] (G x m27) (fun r => ∃ (v30 : Int32) (m31 : MI), r = (.inl (some (vi v30)), G x m31) ∧ Q (.inl (some (vi v30)), G x m31))) ∧ (¬ (0 ≤ t6) → Cl X d 104 [vp 1 q0, vp 11 0, vp 30 0, vi (t3 + 1), vi p4, vi (p5 + 1), vi v22] (G x m27) (fun r => ∃ (v32 : Int32) (m33 : MI), r = (.inl (some (vi v32)), G x m33) ∧ Q (.inl (some (vi v32)), G x m33)))))))))))))))))))) ∧ (¬ (p5 ≤ 10) → Q (.inl (some (vi p6)), G x m)))))) : Cl X (d + 1) 104 [vp 1 q0, vp 11 0, vp 30 0, vi p3, vi p4, vi p5, vi p6] (G x m) Q := by
  show Wp X (d + 1) 104 (0, ([some (vp 1 q0), some (vp 11 0), some (vp 30 0), some (vi p3), some (vi p4), some (vi p5), some (vi p6), none, none, none, none, none], ([], G x m))) Q
  refine wp_run 3 true ((bif decide (p4 ≤ p3) then 13 else 6), ([some (vp 1 q0), some (vp 11 0), some (vp 30 0), some (vi p3), some (vi p4), some (vi p5), some (vi p6), none, none, none, none, none], ([], G x m))) rfl rfl ?_
  refine wp_if (p4 ≤ p3) (fun c1 => ?_) (fun c1 => ?_)
  · have h := h.1 c1
    refine wp_run 1 true (15, ([some (vp 1 q0), some (vp 11 0), some (vp 30 0), some (vi p3), some (vi p4), some (vi p5), some (vi p6), none, none, none, none, none], ([vi p6], G x m))) rfl rfl ?_
    exact wp_ret rfl h
  · have h := h.2 c1
    refine wp_run 3 true ((bif decide (p5 ≤ 10) then 16 else 13), ([some (vp 1 q0), some (vp 11 0), some (vp 30 0), some (vi p3), some (vi p4), some (vi p5), some (vi p6), none, none, none, none, none], ([], G x m))) rfl rfl ?_
    refine wp_if (p5 ≤ 10) (fun c2 => ?_) (fun c2 => ?_)
    · have h := h.1 c2
      refine wp_run 6 true (24, ([some (vp 1 q0), some (vp 11 0), some (vp 30 0), some (vi p3), some (vi p4), some (vi p5), some (vi p6), some (vi ((p3 + p4) / 2)), none, none, none, none], ([], G x m))) rfl rfl ?_
      refine wpg (fun t3 => Wp X (d + 1) 104 (24, ([some (vp 1 q0), some (vp 11 0), some (vp 30 0), some (vi p3), some (vi p4), some (vi p5), some (vi p6), some (vi t3), none, none, none, none], ([], G x m))) Q) ((p3 + p4) / 2) (fun t3 ht3 => ?_)
      have h := h t3 ht3
      obtain ⟨hg3_0, h⟩ := h
      refine wp_run 4 (inb t3 10 && true) (30, ([some (vp 1 q0), some (vp 11 0), some (vp 30 0), some (vi p3), some (vi p4), some (vi p5), some (vi p6), some (vi t3), some (vi (m 11 0 t3.toNatClampNeg)), none, none, none], ([], G x m))) rfl (and_t hg3_0 rfl) ?_
      refine wpg (fun t4 => Wp X (d + 1) 104 (30, ([some (vp 1 q0), some (vp 11 0), some (vp 30 0), some (vi p3), some (vi p4), some (vi p5), some (vi p6), some (vi t3), some (vi t4), none, none, none], ([], G x m))) Q) (m 11 0 t3.toNatClampNeg) (fun t4 ht4 => ?_)
      have h := h t4 ht4
      refine wp_run 6 true (38, ([some (vp 1 q0), some (vp 11 0), some (vp 30 0), some (vi p3), some (vi p4), some (vi p5), some (vi p6), some (vi t3), some (vi t4), some (vi (1 + (p5 - p5 / 3 * 3))), none, none], ([], G x m))) rfl rfl ?_
      refine wpg (fun t5 => Wp X (d + 1) 104 (38, ([some (vp 1 q0), some (vp 11 0), some (vp 30 0), some (vi p3), some (vi p4), some (vi p5), some (vi p6), some (vi t3), some (vi t4), some (vi t5), none, none], ([], G x m))) Q) (1 + (p5 - p5 / 3 * 3)) (fun t5 ht5 => ?_)
      have h := h t5 ht5
      obtain ⟨hg3_0, hg3_1, hg3_2, h⟩ := h
      refine wp_run 12 (inb t5 6 && (inb t4 10 && (inb t5 6 && true))) (58, ([some (vp 1 q0), some (vp 11 0), some (vp 30 0), some (vi p3), some (vi p4), some (vi p5), some (vi p6), some (vi t3), some (vi t4), some (vi t5), some (vi ((m 30 0 t5.toNatClampNeg) - (m 5 (10 * q0 + t4.toNatClampNeg) t5.toNatClampNeg))), none], ([], G x m))) rfl (and_t hg3_2 (and_t hg3_1 (and_t hg3_0 rfl))) ?_
      refine wpg (fun t6 => Wp X (d + 1) 104 (58, ([some (vp 1 q0), some (vp 11 0), some (vp 30 0), some (vi p3), some (vi p4), some (vi p5), some (vi p6), some (vi t3), some (vi t4), some (vi t5), some (vi t6), none], ([], G x m))) Q) ((m 30 0 t5.toNatClampNeg) - (m 5 (10 * q0 + t4.toNatClampNeg) t5.toNatClampNeg)) (fun t6 ht6 => ?_)
      have h := h t6 ht6
      refine wp_run 4 true (64, ([some (vp 1 q0), some (vp 11 0), some (vp 30 0), some (vi p3), some (vi p4), some (vi p5), some (vi p6), some (vi t3), some (vi t4), some (vi t5), some (vi t6), none], ([vi t4, vi p6, vp 30 0, vp 1 q0], G x m))) rfl rfl ?_
      refine wp_call 105 [vp 1 q0, vp 30 0, vi p6, vi t4] (67, ([some (vp 1 q0), some (vp 11 0), some (vp 30 0), some (vi p3), some (vi p4), some (vi p5), some (vi p6), some (vi t3), some (vi t4), some (vi t5), some (vi t6), none], ([], G x m))) rfl rfl (Cl.mono h (Nat.le_refl _) ?_)
      rintro r ⟨v7, m8, rfl, h⟩
      · show Wp X (d + 1) 104 (67, ([some (vp 1 q0), some (vp 11 0), some (vp 30 0), some (vi p3), some (vi p4), some (vi p5), some (vi p6), some (vi t3), some (vi t4), some (vi t5), some (vi t6), none], ([vi v7], G x m8))) Q
        refine wp_run 3 true ((bif decide (0 ≤ t6) then 92 else 74), ([some (vp 1 q0), some (vp 11 0), some (vp 30 0), some (vi p3), some (vi p4), some (vi p5), some (vi p6), some (vi t3), some (vi t4), some (vi t5), some (vi t6), some (vi v7)], ([], G x m8))) rfl rfl ?_
        refine wp_if (0 ≤ t6) (fun c9 => ?_) (fun c9 => ?_)
        · have h := h.1 c9
          refine wp_run 11 true (107, ([some (vp 1 q0), some (vp 11 0), some (vp 30 0), some (vi p3), some (vi p4), some (vi p5), some (vi p6), some (vi t3), some (vi t4), some (vi t5), some (vi t6), some (vi v7)], ([vi v7, vi (p5 + 1), vi p4, vi (t3 + 1), vp 30 0, vp 11 0, vp 1 q0], G x m8))) rfl rfl ?_
          refine wp_call 104 [vp 1 q0, vp 11 0, vp 30 0, vi (t3 + 1), vi p4, vi (p5 + 1), vi v7] (110, ([some (vp 1 q0), some (vp 11 0), some (vp 30 0), some (vi p3), some (vi p4), some (vi p5), some (vi p6), some (vi t3), some (vi t4), some (vi t5), some (vi t6), some (vi v7)], ([], G x m8))) rfl rfl (Cl.mono h (Nat.le_refl _) ?_)
          rintro r ⟨v10, m11, rfl, h⟩
          · show Wp X (d + 1) 104 (110, ([some (vp 1 q0), some (vp 11 0), some (vp 30 0), some (vi p3), some (vi p4), some (vi p5), some (vi p6), some (vi t3), some (vi t4), some (vi t5), some (vi t6), some (vi v7)], ([vi v10], G x m11))) Q
            refine wp_run 6 true (120, ([some (vp 1 q0), some (vp 11 0), some (vp 30 0), some (vi p3), some (vi p4), some (vi p5), some (vi p6), some (vi t3), some (vi t4), some (vi t5), some (vi t6), some (vi v10)], ([vi 0, vi 0, vi t6, vi (m11 1 q0 3)], G x m11))) rfl rfl ?_
            refine wp_call 60 [vi (m11 1 q0 3), vi t6, vi 0, vi 0] (123, ([some (vp 1 q0), some (vp 11 0), some (vp 30 0), some (vi p3), some (vi p4), some (vi p5), some (vi p6), some (vi t3), some (vi t4), some (vi t5), some (vi t6), some (vi v10)], ([], G x m11))) rfl rfl (Cl.mono h (Nat.le_refl _) ?_)
            rintro r ⟨v12, m13, rfl, h⟩
            · show Wp X (d + 1) 104 (123, ([some (vp 1 q0), some (vp 11 0), some (vp 30 0), some (vi p3), some (vi p4), some (vi p5), some (vi p6), some (vi t3), some (vi t4), some (vi t5), some (vi t6), some (vi v10)], ([vi v12], G x m13))) Q
              obtain ⟨hg7_0, h⟩ := h
              refine wp_run 7 (inb v10 10 && true) (135, ([some (vp 1 q0), some (vp 11 0), some (vp 30 0), some (vi p3), some (vi p4), some (vi p5), some (vi p6), some (vi t3), some (vi t4), some (vi t5), some (vi t6), some (vi v10)], ([vp 5 (10 * q0 + v10.toNatClampNeg), vp 30 0, vp 1 q0, vi v12], G x m13))) rfl (and_t hg7_0 rfl) ?_
              refine wp_call 85 [vp 1 q0, vp 30 0, vp 5 (10 * q0 + v10.toNatClampNeg)] (138, ([some (vp 1 q0), some (vp 11 0), some (vp 30 0), some (vi p3), some (vi p4), some (vi p5), some (vi p6), some (vi t3), some (vi t4), some (vi t5), some (vi t6), some (vi v10)], ([vi v12], G x m13))) rfl rfl (Cl.mono h (Nat.le_refl _) ?_)
              rintro r ⟨v14, m15, rfl, h⟩
              · show Wp X (d + 1) 104 (138, ([some (vp 1 q0), some (vp 11 0), some (vp 30 0), some (vi p3), some (vi p4), some (vi p5), some (vi p6), some (vi t3), some (vi t4), some (vi t5), some (vi t6), some (vi v10)], ([vi v14, vi v12], G x m15))) Q
                refine wp_run 1 true ((bif decide (v14 < v12) then 184 else 141), ([some (vp 1 q0), some (vp 11 0), some (vp 30 0), some (vi p3), some (vi p4), some (vi p5), some (vi p6), some (vi t3), some (vi t4), some (vi t5), some (vi t6), some (vi v10)], ([], G x m15))) rfl rfl ?_
                refine wp_if (v14 < v12) (fun c16 => ?_) (fun c16 => ?_)
                · have h := h.1 c16
                  refine wp_run 1 true (186, ([some (vp 1 q0), some (vp 11 0), some (vp 30 0), some (vi p3), some (vi p4), some (vi p5), some (vi p6), some (vi t3), some (vi t4), some (vi t5), some (vi t6), some (vi v10)], ([vi v10], G x m15))) rfl rfl ?_
                  exact wp_ret rfl h
                · have h := h.2 c16
                  refine wp_run 2 true ((bif decide (0 ≤ t6) then 167 else 146), ([some (vp 1 q0), some (vp 11 0), some (vp 30 0), some (vi p3), some (vi p4), some (vi p5), some (vi p6), some (vi t3), some (vi t4), some (vi t5), some (vi t6), some (vi v10)], ([], G x m15))) rfl rfl ?_
                  refine wp_if (0 ≤ t6) (fun c17 => ?_) (fun c17 => ?_)
                  · have h := h.1 c17
                    refine wp_run 9 true (179, ([some (vp 1 q0), some (vp 11 0), some (vp 30 0), some (vi p3), some (vi p4), some (vi p5), some (vi p6), some (vi t3), some (vi t4), some (vi t5), some (vi t6), some (vi v10)], ([vi v10, vi (p5 + 1), vi t3, vi p3, vp 30 0, vp 11 0, vp 1 q0], G x m15))) rfl rfl ?_
                    refine wp_call 104 [vp 1 q0, vp 11 0, vp 30 0, vi p3, vi t3, vi (p5 + 1), vi v10] (182, ([some (vp 1 q0), some (vp 11 0), some (vp 30 0), some (vi p3), some (vi p4), some (vi p5), some (vi p6), some (vi t3), some (vi t4), some (vi t5), some (vi t6), some (vi v10)], ([], G x m15))) rfl rfl (Cl.mono h (Nat.le_refl _) ?_)
                    rintro r ⟨v18, m19, rfl, h⟩
                    · show Wp X (d + 1) 104 (182, ([some (vp 1 q0), some (vp 11 0), some (vp 30 0), some (vi p3), some (vi p4), some (vi p5), some (vi p6), some (vi t3), some (vi t4), some (vi t5), some (vi t6), some (vi v10)], ([vi v18], G x m19))) Q
                      refine wp_run 2 true (186, ([some (vp 1 q0), some (vp 11 0), some (vp 30 0), some (vi p3), some (vi p4), some (vi p5), some (vi p6), some (vi t3), some (vi t4), some (vi t5), some (vi t6), some (vi v18)], ([vi v18], G x m19))) rfl rfl ?_
                      exact wp_ret rfl h
                  · have h := h.2 c17
                    refine wp_run 11 true (161, ([some (vp 1 q0), some (vp 11 0), some (vp 30 0), some (vi p3), some (vi p4), some (vi p5), some (vi p6), some (vi t3), some (vi t4), some (vi t5), some (vi t6), some (vi v10)], ([vi v10, vi (p5 + 1), vi p4, vi (t3 + 1), vp 30 0, vp 11 0, vp 1 q0], G x m15))) rfl rfl ?_
                    refine wp_call 104 [vp 1 q0, vp 11 0, vp 30 0, vi (t3 + 1), vi p4, vi (p5 + 1), vi v10] (164, ([some (vp 1 q0), some (vp 11 0), some (vp 30 0), some (vi p3), some (vi p4), some (vi p5), some (vi p6), some (vi t3), some (vi t4), some (vi t5), some (vi t6), some (vi v10)], ([], G x m15))) rfl rfl (Cl.mono h (Nat.le_refl _) ?_)
                    rintro r ⟨v20, m21, rfl, h⟩
                    · show Wp X (d + 1) 104 (164, ([some (vp 1 q0), some (vp 11 0), some (vp 30 0), some (vi p3), some (vi p4), some (vi p5), some (vi p6), some (vi t3), some (vi t4), some (vi t5), some (vi t6), some (vi v10)], ([vi v20], G x m21))) Q
                      refine wp_run 3 true (186, ([some (vp 1 q0), some (vp 11 0), some (vp 30 0), some (vi p3), some (vi p4), some (vi p5), some (vi p6), some (vi t3), some (vi t4), some (vi t5), some (vi t6), some (vi v20)], ([vi v20], G x m21))) rfl rfl ?_
                      exact wp_ret rfl h
        · have h := h.2 c9
          refine wp_run 9 true (86, ([some (vp 1 q0), some (vp 11 0), some (vp 30 0), some (vi p3), some (vi p4), some (vi p5), some (vi p6), some (vi t3), some (vi t4), some (vi t5), some (vi t6), some (vi v7)], ([vi v7, vi (p5 + 1), vi t3, vi p3, vp 30 0, vp 11 0, vp 1 q0], G x m8))) rfl rfl ?_
          refine wp_call 104 [vp 1 q0, vp 11 0, vp 30 0, vi p3, vi t3, vi (p5 + 1), vi v7] (89, ([some (vp 1 q0), some (vp 11 0), some (vp 30 0), some (vi p3), some (vi p4), some (vi p5), some (vi p6), some (vi t3), some (vi t4), some (vi t5), some (vi t6), some (vi v7)], ([], G x m8))) rfl rfl (Cl.mono h (Nat.le_refl _) ?_)
          rintro r ⟨v22, m23, rfl, h⟩
          · show Wp X (d + 1) 104 (89, ([some (vp 1 q0), some (vp 11 0), some (vp 30 0), some (vi p3), some (vi p4), some (vi p5), some (vi p6), some (vi t3), some (vi t4), some (vi t5), some (vi t6), some (vi v7)], ([vi v22], G x m23))) Q
            refine wp_run 7 true (120, ([some (vp 1 q0), some (vp 11 0), some (vp 30 0), some (vi p3), some (vi p4), some (vi p5), some (vi p6), some (vi t3), some (vi t4), some (vi t5), some (vi t6), some (vi v22)], ([vi 0, vi 0, vi t6, vi (m23 1 q0 3)], G x m23))) rfl rfl ?_
            refine wp_call 60 [vi (m23 1 q0 3), vi t6, vi 0, vi 0] (123, ([some (vp 1 q0), some (vp 11 0), some (vp 30 0), some (vi p3), some (vi p4), some (vi p5), some (vi p6), some (vi t3), some (vi t4), some (vi t5), some (vi t6), some (vi v22)], ([], G x m23))) rfl rfl (Cl.mono h (Nat.le_refl _) ?_)
            rintro r ⟨v24, m25, rfl, h⟩
            · show Wp X (d + 1) 104 (123, ([some (vp 1 q0), some (vp 11 0), some (vp 30 0), some (vi p3), some (vi p4), some (vi p5), some (vi p6), some (vi t3), some (vi t4), some (vi t5), some (vi t6), some (vi v22)], ([vi v24], G x m25))) Q
              obtain ⟨hg7_0, h⟩ := h
              refine wp_run 7 (inb v22 10 && true) (135, ([some (vp 1 q0), some (vp 11 0), some (vp 30 0), some (vi p3), some (vi p4), some (vi p5), some (vi p6), some (vi t3), some (vi t4), some (vi t5), some (vi t6), some (vi v22)], ([vp 5 (10 * q0 + v22.toNatClampNeg), vp 30 0, vp 1 q0, vi v24], G x m25))) rfl (and_t hg7_0 rfl) ?_
              refine wp_call 85 [vp 1 q0, vp 30 0, vp 5 (10 * q0 + v22.toNatClampNeg)] (138, ([some (vp 1 q0), some (vp 11 0), some (vp 30 0), some (vi p3), some (vi p4), some (vi p5), some (vi p6), some (vi t3), some (vi t4), some (vi t5), some (vi t6), some (vi v22)], ([vi v24], G x m25))) rfl rfl (Cl.mono h (Nat.le_refl _) ?_)
              rintro r ⟨v26, m27, rfl, h⟩
              · show Wp X (d + 1) 104 (138, ([some (vp 1 q0), some (vp 11 0), some (vp 30 0), some (vi p3), some (vi p4), some (vi p5), some (vi p6), some (vi t3), some (vi t4), some (vi t5), some (vi t6), some (vi v22)], ([vi v26, vi v24], G x m27))) Q
                refine wp_run 1 true ((bif decide (v26 < v24) then 184 else 141), ([some (vp 1 q0), some (vp 11 0), some (vp 30 0), some (vi p3), some (vi p4), some (vi p5), some (vi p6), some (vi t3), some (vi t4), some (vi t5), some (vi t6), some (vi v22)], ([], G x m27))) rfl rfl ?_
                refine wp_if (v26 < v24) (fun c28 => ?_) (fun c28 => ?_)
                · have h := h.1 c28
                  refine wp_run 1 true (186, ([some (vp 1 q0), some (vp 11 0), some (vp 30 0), some (vi p3), some (vi p4), some (vi p5), some (vi p6), some (vi t3), some (vi t4), some (vi t5), some (vi t6), some (vi v22)], ([vi v22], G x m27))) rfl rfl ?_
                  exact wp_ret rfl h
                · have h := h.2 c28
                  refine wp_run 2 true ((bif decide (0 ≤ t6) then 167 else 146), ([some (vp 1 q0), some (vp 11 0), some (vp 30 0), some (vi p3), some (vi p4), some (vi p5), some (vi p6), some (vi t3), some (vi t4), some (vi t5), some (vi t6), some (vi v22)], ([], G x m27))) rfl rfl ?_
                  refine wp_if (0 ≤ t6) (fun c29 => ?_) (fun c29 => ?_)
                  · have h := h.1 c29
                    refine wp_run 9 true (179, ([some (vp 1 q0), some (vp 11 0), some (vp 30 0), some (vi p3), some (vi p4), some (vi p5), some (vi p6), some (vi t3), some (vi t4), some (vi t5), some (vi t6), some (vi v22)], ([vi v22, vi (p5 + 1), vi t3, vi p3, vp 30 0, vp 11 0, vp 1 q0], G x m27))) rfl rfl ?_
                    refine wp_call 104 [vp 1 q0, vp 11 0, vp 30 0, vi p3, vi t3, vi (p5 + 1), vi v22] (182, ([some (vp 1 q0), some (vp 11 0), some (vp 30 0), some (vi p3), some (vi p4), some (vi p5), some (vi p6), some (vi t3), some (vi t4), some (vi t5), some (vi t6), some (vi v22)], ([], G x m27))) rfl rfl (Cl.mono h (Nat.le_refl _) ?_)
                    rintro r ⟨v30, m31, rfl, h⟩
                    · show Wp X (d + 1) 104 (182, ([some (vp 1 q0), some (vp 11 0), some (vp 30 0), some (vi p3), some (vi p4), some (vi p5), some (vi p6), some (vi t3), some (vi t4), some (vi t5), some (vi t6), some (vi v22)], ([vi v30], G x m31))) Q
                      refine wp_run 2 true (186, ([some (vp 1 q0), some (vp 11 0), some (vp 30 0), some (vi p3), some (vi p4), some (vi p5), some (vi p6), some (vi t3), some (vi t4), some (vi t5), some (vi t6), some (vi v30)], ([vi v30], G x m31))) rfl rfl ?_
                      exact wp_ret rfl h
                  · have h := h.2 c29
                    refine wp_run 11 true (161, ([some (vp 1 q0), some (vp 11 0), some (vp 30 0), some (vi p3), some (vi p4), some (vi p5), some (vi p6), some (vi t3), some (vi t4), some (vi t5), some (vi t6), some (vi v22)], ([vi v22, vi (p5 + 1), vi p4, vi (t3 + 1), vp 30 0, vp 11 0, vp 1 q0], G x m27))) rfl rfl ?_
                    refine wp_call 104 [vp 1 q0, vp 11 0, vp 30 0, vi (t3 + 1), vi p4, vi (p5 + 1), vi v22] (164, ([some (vp 1 q0), some (vp 11 0), some (vp 30 0), some (vi p3), some (vi p4), some (vi p5), some (vi p6), some (vi t3), some (vi t4), some (vi t5), some (vi t6), some (vi v22)], ([], G x m27))) rfl rfl (Cl.mono h (Nat.le_refl _) ?_)
                    rintro r ⟨v32, m33, rfl, h⟩
                    · show Wp X (d + 1) 104 (164, ([some (vp 1 q0), some (vp 11 0), some (vp 30 0), some (vi p3), some (vi p4), some (vi p5), some (vi p6), some (vi t3), some (vi t4), some (vi t5), some (vi t6), some (vi v22)], ([vi v32], G x m33))) Q
                      refine wp_run 3 true (186, ([some (vp 1 q0), some (vp 11 0), some (vp 30 0), some (vi p3), some (vi p4), some (vi p5), some (vi p6), some (vi t3), some (vi t4), some (vi t5), some (vi t6), some (vi v32)], ([vi v32], G x m33))) rfl rfl ?_
                      exact wp_ret rfl h
    · have h := h.2 c2
      refine wp_run 1 true (15, ([some (vp 1 q0), some (vp 11 0), some (vp 30 0), some (vi p3), some (vi p4), some (vi p5), some (vi p6), none, none, none, none, none], ([vi p6], G x m))) rfl rfl ?_
      exact wp_ret rfl h
set_option maxRecDepth 100000 in
set_option maxHeartbeats 4000000 in
theorem vc_X2_search_11_7 {X : MX} {d : Nat} {x : Int64 × UInt64} {m : MI} {Q : MRes → Prop} {q0 : Nat} {q2 : Nat} {p3 : Int32} {p4 : Int32} {p5 : Int32} {p6 : Int32} (h : ((p4 ≤ p3 → Q (.inl (some (vi p6)), G x m)) ∧ (¬ (p4 ≤ p3) → ((p5 ≤ 10 → (∀ t3 : Int32, t3 = (p3 + p4) / 2 → (inb t3 10 = true ∧ (∀ t4 : Int32, t4 = m 11 0 t3.toNatClampNeg → (∀ t5 : Int32, t5 = 1 + (p5 - p5 / 3 * 3) → (inb t5 6 = true ∧ inb t4 10 = true ∧ inb t5 6 = true ∧ (∀ t6 : Int32, t6 = (m 7 q2 t5.toNatClampNeg) - (m 5 (10 * q0 + t4.toNatClampNeg) t5.toNatClampNeg) → Cl X d 105 [vp 1 q0, vp 7 q2, vi p6, vi t4] (G x m) (fun r => ∃ (v7 : Int32) (m8 : MI), r = (.inl (some (vi v7)), G x m8) ∧ ((0 ≤ t6 → Cl X d 104 [vp 1 q0, vp 11 0, vp 7 q2, vi (t3 + 1), vi p4, vi (p5 + 1), vi v7] (G x m8) (fun r => ∃ (v10 : Int32) (m11 : MI), r = (.inl (some (vi v10)), G x m11) ∧ Cl X d 60 [vi (m11 1 q0 3), vi t6, vi 0, vi 0] (G x m11) (fun r => ∃ (v12 : Int32) (m13 : MI), r = (.inl (some (vi v12)), G x m13) ∧ (inb v10 10 = true ∧ Cl X d 85 [vp 1 q0, vp 7 q2, vp 5 (10 * q0 + v10.toNatClampNeg)] (G x m13) (fun r => ∃ (v14 : Int32) (m15 : MI), r = (.inl (some (vi v14)), G x m15) ∧ ((v14 < v12 → Q (.inl (some (vi v10)), G x m15)) ∧ (¬ (v14 < v12) → ((0 ≤ t6 → Cl X d 104 [vp 1 q0, vp 11 0, vp 7 q2, vi p3, vi t3, vi (p5 + 1), vi v10] (G x m15) (fun r => ∃ (v18 : Int32) (m19 : MI), r = (.inl (some (vi v18)), G x m19) ∧ Q (.inl (some (vi v18)), G x m19))) ∧ (¬ (0 ≤ t6) → Cl X d 104 [vp 1 q0, vp 11 0, vp 7 q2, vi (t3 + 1), vi p4, vi (p5 + 1), vi v10] (G x m15) (fun r => ∃ (v20 : Int32) (m21 : MI), r = (.inl (some (vi v20)), G x m21) ∧ Q (.inl (some (vi v20)), G x m21))))))))))) ∧ (¬ (0 ≤ t6) → Cl X d 104 [vp 1 q0, vp 11 0, vp 7 q2, vi p3, vi t3, vi (p5 + 1), vi v7] (G x m8) (fun r => ∃ (v22 : Int32) (m23 : MI), r = (.inl (some (vi v22)), G x m23) ∧ Cl X d 60 [vi (m23 1 q0 3), vi t6, vi 0, vi 0] (G x m23) (fun r => ∃ (v24 : Int32) (m25 : MI), r = (.inl (some (vi v24)), G x m25) ∧ (inb v22 10 = true ∧ Cl X d 85 [vp 1 q0, vp 7 q2, vp 5 (10 * q0 + v22.toNatClampNeg)] (G x m25) (fun r => ∃ (v26 : Int32) (m27 : MI), r = (.inl (some (vi v26)), G x m27) ∧ ((v26 < v24 → Q (.inl (some (vi v22)), G x m27)) ∧ (¬ (v26 < v24) → ((0 ≤ t6 → Cl X d 104 [vp 1 q0, vp 11 0, vp 7 q2, vi p3, vi t3, vi (p5 + 1), vi v22] (G x m27) (fun r => ∃ (v30 : Int32) (m31 : MI), r = (.inl (some (vi v30)), G x m31) ∧ Q (.inl (some (vi v30)), G x m31))) ∧ (¬ (0 ≤ t6) → Cl X d 104 [vp 1 q0, vp 11 0, vp 7 q2, vi (t3 + 1), vi p4, vi (p5 + 1), vi v22] (G x m27) (fun r => ∃ (v32 : Int32) (m33 : MI), r = (.inl (some (vi v32)), G x m33) ∧ Q (.inl (some (vi v32)), G x m33)))))))))))))))))))) ∧ (¬ (p5 ≤ 10) → Q (.inl (some (vi p6)), G x m)))))) : Cl X (d + 1) 104 [vp 1 q0, vp 11 0, vp 7 q2, vi p3, vi p4, vi p5, vi p6] (G x m) Q := by
  show Wp X (d + 1) 104 (0, ([some (vp 1 q0), some (vp 11 0), some (vp 7 q2), some (vi p3), some (vi p4), some (vi p5), some (vi p6), none, none, none, none, none], ([], G x m))) Q
  refine wp_run 3 true ((bif decide (p4 ≤ p3) then 13 else 6), ([some (vp 1 q0), some (vp 11 0), some (vp 7 q2), some (vi p3), some (vi p4), some (vi p5), some (vi p6), none, none, none, none, none], ([], G x m))) rfl rfl ?_
  refine wp_if (p4 ≤ p3) (fun c1 => ?_) (fun c1 => ?_)
  · have h := h.1 c1
    refine wp_run 1 true (15, ([some (vp 1 q0), some (vp 11 0), some (vp 7 q2), some (vi p3), some (vi p4), some (vi p5), some (vi p6), none, none, none, none, none], ([vi p6], G x m))) rfl rfl ?_
    exact wp_ret rfl h
  · have h := h.2 c1
    refine wp_run 3 true ((bif decide (p5 ≤ 10) then 16 else 13), ([some (vp 1 q0), some (vp 11 0), some (vp 7 q2), some (vi p3), some (vi p4), some (vi p5), some (vi p6), none, none, none, none, none], ([], G x m))) rfl rfl ?_
    refine wp_if (p5 ≤ 10) (fun c2 => ?_) (fun c2 => ?_)
    · have h := h.1 c2
      refine wp_run 6 true (24, ([some (vp 1 q0), some (vp 11 0), some (vp 7 q2), some (vi p3), some (vi p4), some (vi p5), some (vi p6), some (vi ((p3 + p4) / 2)), none, none, none, none], ([], G x m))) rfl rfl ?_
      refine wpg (fun t3 => Wp X (d + 1) 104 (24, ([some (vp 1 q0), some (vp 11 0), some (vp 7 q2), some (vi p3), some (vi p4), some (vi p5), some (vi p6), some (vi t3), none, none, none, none], ([], G x m))) Q) ((p3 + p4) / 2) (fun t3 ht3 => ?_)
      have h := h t3 ht3
      obtain ⟨hg3_0, h⟩ := h
      refine wp_run 4 (inb t3 10 && true) (30, ([some (vp 1 q0), some (vp 11 0), some (vp 7 q2), some (vi p3), some (vi p4), some (vi p5), some (vi p6), some (vi t3), some (vi (m 11 0 t3.toNatClampNeg)), none, none, none], ([], G x m))) rfl (and_t hg3_0 rfl) ?_
      refine wpg (fun t4 => Wp X (d + 1) 104 (30, ([some (vp 1 q0), some (vp 11 0), some (vp 7 q2), some (vi p3), some (vi p4), some (vi p5), some (vi p6), some (vi t3), some (vi t4), none, none, none], ([], G x m))) Q) (m 11 0 t3.toNatClampNeg) (fun t4 ht4 => ?_)
      have h := h t4 ht4
      refine wp_run 6 true (38, ([some (vp 1 q0), some (vp 11 0), some (vp 7 q2), some (vi p3), some (vi p4), some (vi p5), some (vi p6), some (vi t3), some (vi t4), some (vi (1 + (p5 - p5 / 3 * 3))), none, none], ([], G x m))) rfl rfl ?_
      refine wpg (fun t5 => Wp X (d + 1) 104 (38, ([some (vp 1 q0), some (vp 11 0), some (vp 7 q2), some (vi p3), some (vi p4), some (vi p5), some (vi p6), some (vi t3), some (vi t4), some (vi t5), none, none], ([], G x m))) Q) (1 + (p5 - p5 / 3 * 3)) (fun t5 ht5 => ?_)
      have h := h t5 ht5
      obtain ⟨hg3_0, hg3_1, hg3_2, h⟩ := h
      refine wp_run 12 (inb t5 6 && (inb t4 10 && (inb t5 6 && true))) (58, ([some (vp 1 q0), some (vp 11 0), some (vp 7 q2), some (vi p3), some (vi p4), some (vi p5), some (vi p6), some (vi t3), some (vi t4), some (vi t5), some (vi ((m 7 q2 t5.toNatClampNeg) - (m 5 (10 * q0 + t4.toNatClampNeg) t5.toNatClampNeg))), none], ([], G x m))) rfl (and_t hg3_2 (and_t hg3_1 (and_t hg3_0 rfl))) ?_
      refine wpg (fun t6 => Wp X (d + 1) 104 (58, ([some (vp 1 q0), some (vp 11 0), some (vp 7 q2), some (vi p3), some (vi p4), some (vi p5), some (vi p6), some (vi t3), some (vi t4), some (vi t5), some (vi t6), none], ([], G x m))) Q) ((m 7 q2 t5.toNatClampNeg) - (m 5 (10 * q0 + t4.toNatClampNeg) t5.toNatClampNeg)) (fun t6 ht6 => ?_)
      have h := h t6 ht6
      refine wp_run 4 true (64, ([some (vp 1 q0), some (vp 11 0), some (vp 7 q2), some (vi p3), some (vi p4), some (vi p5), some (vi p6), some (vi t3), some (vi t4), some (vi t5), some (vi t6), none], ([vi t4, vi p6, vp 7 q2, vp 1 q0], G x m))) rfl rfl ?_
      refine wp_call 105 [vp 1 q0, vp 7 q2, vi p6, vi t4] (67, ([some (vp 1 q0), some (vp 11 0), some (vp 7 q2), some (vi p3), some (vi p4), some (vi p5), some (vi p6), some (vi t3), some (vi t4), some (vi t5), some (vi t6), none], ([], G x m))) rfl rfl (Cl.mono h (Nat.le_refl _) ?_)
      rintro r ⟨v7, m8, rfl, h⟩
      · show Wp X (d + 1) 104 (67, ([some (vp 1 q0), some (vp 11 0), some (vp 7 q2), some (vi p3), some (vi p4), some (vi p5), some (vi p6), some (vi t3), some (vi t4), some (vi t5), some (vi t6), none], ([vi v7], G x m8))) Q
        refine wp_run 3 true ((bif decide (0 ≤ t6) then 92 else 74), ([some (vp 1 q0), some (vp 11 0), some (vp 7 q2), some (vi p3), some (vi p4), some (vi p5), some (vi p6), some (vi t3), some (vi t4), some (vi t5), some (vi t6), some (vi v7)], ([], G x m8))) rfl rfl ?_
        refine wp_if (0 ≤ t6) (fun c9 => ?_) (fun c9 => ?_)
        · have h := h.1 c9
          refine wp_run 11 true (107, ([some (vp 1 q0), some (vp 11 0), some (vp 7 q2), some (vi p3), some (vi p4), some (vi p5), some (vi p6), some (vi t3), some (vi t4), some (vi t5), some (vi t6), some (vi v7)], ([vi v7, vi (p5 + 1), vi p4, vi (t3 + 1), vp 7 q2, vp 11 0, vp 1 q0], G x m8))) rfl rfl ?_
          refine wp_call 104 [vp 1 q0, vp 11 0, vp 7 q2, vi (t3 + 1), vi p4, vi (p5 + 1), vi v7] (110, ([some (vp 1 q0), some (vp 11 0), some (vp 7 q2), some (vi p3), some (vi p4), some (vi p5), some (vi p6), some (vi t3), some (vi t4), some (vi t5), some (vi t6), some (vi v7)], ([], G x m8))) rfl rfl (Cl.mono h (Nat.le_refl _) ?_)
          rintro r ⟨v10, m11, rfl, h⟩
          · show Wp X (d + 1) 104 (110, ([some (vp 1 q0), some (vp 11 0), some (vp 7 q2), some (vi p3), some (vi p4), some (vi p5), some (vi p6), some (vi t3), some (vi t4), some (vi t5), some (vi t6), some (vi v7)], ([vi v10], G x m11))) Q
            refine wp_run 6 true (120, ([some (vp 1 q0), some (vp 11 0), some (vp 7 q2), some (vi p3), some (vi p4), some (vi p5), some (vi p6), some (vi t3), some (vi t4), some (vi t5), some (vi t6), some (vi v10)], ([vi 0, vi 0, vi t6, vi (m11 1 q0 3)], G x m11))) rfl rfl ?_
            refine wp_call 60 [vi (m11 1 q0 3), vi t6, vi 0, vi 0] (123, ([some (vp 1 q0), some (vp 11 0), some (vp 7 q2), some (vi p3), some (vi p4), some (vi p5), some (vi p6), some (vi t3), some (vi t4), some (vi t5), some (vi t6), some (vi v10)], ([], G x m11))) rfl rfl (Cl.mono h (Nat.le_refl _) ?_)
            rintro r ⟨v12, m13, rfl, h⟩
            · show Wp X (d + 1) 104 (123, ([some (vp 1 q0), some (vp 11 0), some (vp 7 q2), some (vi p3), some (vi p4), some (vi p5), some (vi p6), some (vi t3), some (vi t4), some (vi t5), some (vi t6), some (vi v10)], ([vi v12], G x m13))) Q
              obtain ⟨hg7_0, h⟩ := h
              refine wp_run 7 (inb v10 10 && true) (135, ([some (vp 1 q0), some (vp 11 0), some (vp 7 q2), some (vi p3), some (vi p4), some (vi p5), some (vi p6), some (vi t3), some (vi t4), some (vi t5), some (vi t6), some (vi v10)], ([vp 5 (10 * q0 + v10.toNatClampNeg), vp 7 q2, vp 1 q0, vi v12], G x m13))) rfl (and_t hg7_0 rfl) ?_
              refine wp_call 85 [vp 1 q0, vp 7 q2, vp 5 (10 * q0 + v10.toNatClampNeg)] (138, ([some (vp 1 q0), some (vp 11 0), some (vp 7 q2), some (vi p3), some (vi p4), some (vi p5), some (vi p6), some (vi t3), some (vi t4), some (vi t5), some (vi t6), some (vi v10)], ([vi v12], G x m13))) rfl rfl (Cl.mono h (Nat.le_refl _) ?_)
              rintro r ⟨v14, m15, rfl, h⟩
              · show Wp X (d + 1) 104 (138, ([some (vp 1 q0), some (vp 11 0), some (vp 7 q2), some (vi p3), some (vi p4), some (vi p5), some (vi p6), some (vi t3), some (vi t4), some (vi t5), some (vi t6), some (vi v10)], ([vi v14, vi v12], G x m15))) Q
                refine wp_run 1 true ((bif decide (v14 < v12) then 184 else 141), ([some (vp 1 q0), some (vp 11 0), some (vp 7 q2), some (vi p3), some (vi p4), some (vi p5), some (vi p6), some (vi t3), some (vi t4), some (vi t5), some (vi t6), some (vi v10)], ([], G x m15))) rfl rfl ?_
                refine wp_if (v14 < v12) (fun c16 => ?_) (fun c16 => ?_)
                · have h := h.1 c16
                  refine wp_run 1 true (186, ([some (vp 1 q0), some (vp 11 0), some (vp 7 q2), some (vi p3), some (vi p4), some (vi p5), some (vi p6), some (vi t3), some (vi t4), some (vi t5), some (vi t6), some (vi v10)], ([vi v10], G x m15))) rfl rfl ?_
                  exact wp_ret rfl h
                · have h := h.2 c16
                  refine wp_run 2 true ((bif decide (0 ≤ t6) then 167 else 146), ([some (vp 1 q0), some (vp 11 0), some (vp 7 q2), some (vi p3), some (vi p4), some (vi p5), some (vi p6), some (vi t3), some (vi t4), some (vi t5), some (vi t6), some (vi v10)], ([], G x m15))) rfl rfl ?_
                  refine wp_if (0 ≤ t6) (fun c17 => ?_) (fun c17 => ?_)
                  · have h := h.1 c17
                    refine wp_run 9 true (179, ([some (vp 1 q0), some (vp 11 0), some (vp 7 q2), some (vi p3), some (vi p4), some (vi p5), some (vi p6), some (vi t3), some (vi t4), some (vi t5), some (vi t6), some (vi v10)], ([vi v10, vi (p5 + 1), vi t3, vi p3, vp 7 q2, vp 11 0, vp 1 q0], G x m15))) rfl rfl ?_
                    refine wp_call 104 [vp 1 q0, vp 11 0, vp 7 q2, vi p3, vi t3, vi (p5 + 1), vi v10] (182, ([some (vp 1 q0), some (vp 11 0), some (vp 7 q2), some (vi p3), some (vi p4), some (vi p5), some (vi p6), some (vi t3), some (vi t4), some (vi t5), some (vi t6), some (vi v10)], ([], G x m15))) rfl rfl (Cl.mono h (Nat.le_refl _) ?_)
                    rintro r ⟨v18, m19, rfl, h⟩
                    · show Wp X (d + 1) 104 (182, ([some (vp 1 q0), some (vp 11 0), some (vp 7 q2), some (vi p3), some (vi p4), some (vi p5), some (vi p6), some (vi t3), some (vi t4), some (vi t5), some (vi t6), some (vi v10)], ([vi v18], G x m19))) Q
                      refine wp_run 2 true (186, ([some (vp 1 q0), some (vp 11 0), some (vp 7 q2), some (vi p3), some (vi p4), some (vi p5), some (vi p6), some (vi t3), some (vi t4), some (vi t5), some (vi t6), some (vi v18)], ([vi v18], G x m19))) rfl rfl ?_
                      exact wp_ret rfl h
                  · have h := h.2 c17
                    refine wp_run 11 true (161, ([some (vp 1 q0), some (vp 11 0), some (vp 7 q2), some (vi p3), some (vi p4), some (vi p5), some (vi p6), some (vi t3), some (vi t4), some (vi t5), some (vi t6), some (vi v10)], ([vi v10, vi (p5 + 1), vi p4, vi (t3 + 1), vp 7 q2, vp 11 0, vp 1 q0], G x m15))) rfl rfl ?_
                    refine wp_call 104 [vp 1 q0, vp 11 0, vp 7 q2, vi (t3 + 1), vi p4, vi (p5 + 1), vi v10] (164, ([some (vp 1 q0), some (vp 11 0), some (vp 7 q2), some (vi p3), some (vi p4), some (vi p5), some (vi p6), some (vi t3), some (vi t4), some (vi t5), some (vi t6), some (vi v10)], ([], G x m15))) rfl rfl (Cl.mono h (Nat.le_refl _) ?_)
                    rintro r ⟨v20, m21, rfl, h⟩
                    · show Wp X (d + 1) 104 (164, ([some (vp 1 q0), some (vp 11 0), some (vp 7 q2), some (vi p3), some (vi p4), some (vi p5), some (vi p6), some (vi t3), some (vi t4), some (vi t5), some (vi t6), some (vi v10)], ([vi v20], G x m21))) Q
                      refine wp_run 3 true (186, ([some (vp 1 q0), some (vp 11 0), some (vp 7 q2), some (vi p3), some (vi p4), some (vi p5), some (vi p6), some (vi t3), some (vi t4), some (vi t5), some (vi t6), some (vi v20)], ([vi v20], G x m21))) rfl rfl ?_
                      exact wp_ret rfl h
        · have h := h.2 c9
          refine wp_run 9 true (86, ([some (vp 1 q0), some (vp 11 0), some (vp 7 q2), some (vi p3), some (vi p4), some (vi p5), some (vi p6), some (vi t3), some (vi t4), some (vi t5), some (vi t6), some (vi v7)], ([vi v7, vi (p5 + 1), vi t3, vi p3, vp 7 q2, vp 11 0, vp 1 q0], G x m8))) rfl rfl ?_
          refine wp_call 104 [vp 1 q0, vp 11 0, vp 7 q2, vi p3, vi t3, vi (p5 + 1), vi v7] (89, ([some (vp 1 q0), some (vp 11 0), some (vp 7 q2), some (vi p3), some (vi p4), some (vi p5), some (vi p6), some (vi t3), some (vi t4), some (vi t5), some (vi t6), some (vi v7)], ([], G x m8))) rfl rfl (Cl.mono h (Nat.le_refl _) ?_)
          rintro r ⟨v22, m23, rfl, h⟩
          · show Wp X (d + 1) 104 (89, ([some (vp 1 q0), some (vp 11 0), some (vp 7 q2), some (vi p3), some (vi p4), some (vi p5), some (vi p6), some (vi t3), some (vi t4), some (vi t5), some (vi t6), some (vi v7)], ([vi v22], G x m23))) Q
            refine wp_run 7 true (120, ([some (vp 1 q0), some (vp 11 0), some (vp 7 q2), some (vi p3), some (vi p4), some (vi p5), some (vi p6), some (vi t3), some (vi t4), some (vi t5), some (vi t6), some (vi v22)], ([vi 0, vi 0, vi t6, vi (m23 1 q0 3)], G x m23))) rfl rfl ?_
            refine wp_call 60 [vi (m23 1 q0 3), vi t6, vi 0, vi 0] (123, ([some (vp 1 q0), some (vp 11 0), some (vp 7 q2), some (vi p3), some (vi p4), some (vi p5), some (vi p6), some (vi t3), some (vi t4), some (vi t5), some (vi t6), some (vi v22)], ([], G x m23))) rfl rfl (Cl.mono h (Nat.le_refl _) ?_)
            rintro r ⟨v24, m25, rfl, h⟩
            · show Wp X (d + 1) 104 (123, ([some (vp 1 q0), some (vp 11 0), some (vp 7 q2), some (vi p3), some (vi p4), some (vi p5), some (vi p6), some (vi t3), some (vi t4), some (vi t5), some (vi t6), some (vi v22)], ([vi v24], G x m25))) Q
              obtain ⟨hg7_0, h⟩ := h
              refine wp_run 7 (inb v22 10 && true) (135, ([some (vp 1 q0), some (vp 11 0), some (vp 7 q2), some (vi p3), some (vi p4), some (vi p5), some (vi p6), some (vi t3), some (vi t4), some (vi t5), some (vi t6), some (vi v22)], ([vp 5 (10 * q0 + v22.toNatClampNeg), vp 7 q2, vp 1 q0, vi v24], G x m25))) rfl (and_t hg7_0 rfl) ?_
              refine wp_call 85 [vp 1 q0, vp 7 q2, vp 5 (10 * q0 + v22.toNatClampNeg)] (138, ([some (vp 1 q0), some (vp 11 0), some (vp 7 q2), some (vi p3), some (vi p4), some (vi p5), some (vi p6), some (vi t3), some (vi t4), some (vi t5), some (vi t6), some (vi v22)], ([vi v24], G x m25))) rfl rfl (Cl.mono h (Nat.le_refl _) ?_)
              rintro r ⟨v26, m27, rfl, h⟩
              · show Wp X (d + 1) 104 (138, ([some (vp 1 q0), some (vp 11 0), some (vp 7 q2), some (vi p3), some (vi p4), some (vi p5), some (vi p6), some (vi t3), some (vi t4), some (vi t5), some (vi t6), some (vi v22)], ([vi v26, vi v24], G x m27))) Q
                refine wp_run 1 true ((bif decide (v26 < v24) then 184 else 141), ([some (vp 1 q0), some (vp 11 0), some (vp 7 q2), some (vi p3), some (vi p4), some (vi p5), some (vi p6), some (vi t3), some (vi t4), some (vi t5), some (vi t6), some (vi v22)], ([], G x m27))) rfl rfl ?_
                refine wp_if (v26 < v24) (fun c28 => ?_) (fun c28 => ?_)
                · have h := h.1 c28
                  refine wp_run 1 true (186, ([some (vp 1 q0), some (vp 11 0), some (vp 7 q2), some (vi p3), some (vi p4), some (vi p5), some (vi p6), some (vi t3), some (vi t4), some (vi t5), some (vi t6), some (vi v22)], ([vi v22], G x m27))) rfl rfl ?_
                  exact wp_ret rfl h
                · have h := h.2 c28
                  refine wp_run 2 true ((bif decide (0 ≤ t6) then 167 else 146), ([some (vp 1 q0), some (vp 11 0), some (vp 7 q2), some (vi p3), some (vi p4), some (vi p5), some (vi p6), some (vi t3), some (vi t4), some (vi t5), some (vi t6), some (vi v22)], ([], G x m27))) rfl rfl ?_
                  refine wp_if (0 ≤ t6) (fun c29 => ?_) (fun c29 => ?_)
                  · have h := h.1 c29
                    refine wp_run 9 true (179, ([some (vp 1 q0), some (vp 11 0), some (vp 7 q2), some (vi p3), some (vi p4), some (vi p5), some (vi p6), some (vi t3), some (vi t4), some (vi t5), some (vi t6), some (vi v22)], ([vi v22, vi (p5 + 1), vi t3, vi p3, vp 7 q2, vp 11 0, vp 1 q0], G x m27))) rfl rfl ?_
                    refine wp_call 104 [vp 1 q0, vp 11 0, vp 7 q2, vi p3, vi t3, vi (p5 + 1), vi v22] (182, ([some (vp 1 q0), some (vp 11 0), some (vp 7 q2), some (vi p3), some (vi p4), some (vi p5), some (vi p6), some (vi t3), some (vi t4), some (vi t5), some (vi t6), some (vi v22)], ([], G x m27))) rfl rfl (Cl.mono h (Nat.le_refl _) ?_)
                    rintro r ⟨v30, m31, rfl, h⟩
                    · show Wp X (d + 1) 104 (182, ([some (vp 1 q0), some (vp 11 0), some (vp 7 q2), some (vi p3), some (vi p4), some (vi p5), some (vi p6), some (vi t3), some (vi t4), some (vi t5), some (vi t6), some (vi v22)], ([vi v30], G x m31))) Q
                      refine wp_run 2 true (186, ([some (vp 1 q0), some (vp 11 0), some (vp 7 q2), some (vi p3), some (vi p4), some (vi p5), some (vi p6), some (vi t3), some (vi t4), some (vi t5), some (vi t6), some (vi v30)], ([vi v30], G x m31))) rfl rfl ?_
                      exact wp_ret rfl h
                  · have h := h.2 c29
                    refine wp_run 11 true (161, ([some (vp 1 q0), some (vp 11 0), some (vp 7 q2), some (vi p3), some (vi p4), some (vi p5), some (vi p6), some (vi t3), some (vi t4), some (vi t5), some (vi t6), some (vi v22)], ([vi v22, vi (p5 + 1), vi p4, vi (t3 + 1), vp 7 q2, vp 11 0, vp 1 q0], G x m27))) rfl rfl ?_
                    refine wp_call 104 [vp 1 q0, vp 11 0, vp 7 q2, vi (t3 + 1), vi p4, vi (p5 + 1), vi v22] (164, ([some (vp 1 q0), some (vp 11 0), some (vp 7 q2), some (vi p3), some (vi p4), some (vi p5), some (vi p6), some (vi t3), some (vi t4), some (vi t5), some (vi t6), some (vi v22)], ([], G x m27))) rfl rfl (Cl.mono h (Nat.le_refl _) ?_)
                    rintro r ⟨v32, m33, rfl, h⟩
                    · show Wp X (d + 1) 104 (164, ([some (vp 1 q0), some (vp 11 0), some (vp 7 q2), some (vi p3), some (vi p4), some (vi p5), some (vi p6), some (vi t3), some (vi t4), some (vi t5), some (vi t6), some (vi v22)], ([vi v32], G x m33))) Q
                      refine wp_run 3 true (186, ([some (vp 1 q0), some (vp 11 0), some (vp 7 q2), some (vi p3), some (vi p4), some (vi p5), some (vi p6), some (vi t3), some (vi t4), some (vi t5), some (vi t6), some (vi v32)], ([vi v32], G x m33))) rfl rfl ?_
                      exact wp_ret rfl h
    · have h := h.2 c2
      refine wp_run 1 true (15, ([some (vp 1 q0), some (vp 11 0), some (vp 7 q2), some (vi p3), some (vi p4), some (vi p5), some (vi p6), none, none, none, none, none], ([vi p6], G x m))) rfl rfl ?_
      exact wp_ret rfl h
set_option maxRecDepth 100000 in
set_option maxHeartbeats 4000000 in
theorem vc_X2_nearer_30 {X : MX} {d : Nat} {x : Int64 × UInt64} {m : MI} {Q : MRes → Prop} {q0 : Nat} {p2 : Int32} {p3 : Int32} (h : ((0 ≤ p2 → (inb p2 10 = true ∧ Cl X d 85 [vp 1 q0, vp 30 0, vp 5 (10 * q0 + p2.toNatClampNeg)] (G x m) (fun r => ∃ (v2 : Int32) (m3 : MI), r = (.inl (some (vi v2)), G x m3) ∧ (inb p3 10 = true ∧ Cl X d 85 [vp 1 q0, vp 30 0, vp 5 (10 * q0 + p3.toNatClampNeg)] (G x m3) (fun r => ∃ (v4 : Int32) (m5 : MI), r = (.inl (some (vi v4)), G x m5) ∧ ((v4 < v2 → Q (.inl (some (vi p3)), G x m5)) ∧ (¬ (v4 < v2) → ((¬ v4 = v2 → Q (.inl (some (vi p2)), G x m5)) ∧ (¬ (¬ v4 = v2) → ((p2 ≤ p3 → Q (.inl (some (vi p2)), G x m5)) ∧ (¬ (p2 ≤ p3) → Q (.inl (some (vi p3)), G x m5)))))))))))) ∧ (¬ (0 ≤ p2) → Q (.inl (some (vi p3)), G x m)))) : Cl X (d + 1) 105 [vp 1 q0, vp 30 0, vi p2, vi p3] (G x m) Q := by
  show Wp X (d + 1) 105 (0, ([some (vp 1 q0), some (vp 30 0), some (vi p2), some (vi p3), none, none], ([], G x m))) Q
  refine wp_run 2 true ((bif decide (0 ≤ p2) then 6 else 4), ([some (vp 1 q0), some (vp 30 0), some (vi p2), some (vi p3), none, none], ([], G x m))) rfl rfl ?_
  refine wp_if (0 ≤ p2) (fun c1 => ?_) (fun c1 => ?_)
  · have h := h.1 c1
    obtain ⟨hg2_0, h⟩ := h
    refine wp_run 7 (inb p2 10 && true) (17, ([some (vp 1 q0), some (vp 30 0), some (vi p2), some (vi p3), none, none], ([vp 5 (10 * q0 + p2.toNatClampNeg), vp 30 0, vp 1 q0], G x m))) rfl (and_t hg2_0 rfl) ?_
    refine wp_call 85 [vp 1 q0, vp 30 0, vp 5 (10 * q0 + p2.toNatClampNeg)] (20, ([some (vp 1 q0), some (vp 30 0), some (vi p2), some (vi p3), none, none], ([], G x m))) rfl rfl (Cl.mono h (Nat.le_refl _) ?_)
    rintro r ⟨v2, m3, rfl, h⟩
    · show Wp X (d + 1) 105 (20, ([some (vp 1 q0), some (vp 30 0), some (vi p2), some (vi p3), none, none], ([vi v2], G x m3))) Q
      obtain ⟨hg3_0, h⟩ := h
      refine wp_run 8 (inb p3 10 && true) (33, ([some (vp 1 q0), some (vp 30 0), some (vi p2), some (vi p3), some (vi v2), none], ([vp 5 (10 * q0 + p3.toNatClampNeg), vp 30 0, vp 1 q0], G x m3))) rfl (and_t hg3_0 rfl) ?_
      refine wp_call 85 [vp 1 q0, vp 30 0, vp 5 (10 * q0 + p3.toNatClampNeg)] (36, ([some (vp 1 q0), some (vp 30 0), some (vi p2), some (vi p3), some (vi v2), none], ([], G x m3))) rfl rfl (Cl.mono h (Nat.le_refl _) ?_)
      rintro r ⟨v4, m5, rfl, h⟩
      · show Wp X (d + 1) 105 (36, ([some (vp 1 q0), some (vp 30 0), some (vi p2), some (vi p3), some (vi v2), none], ([vi v4], G x m5))) Q
        refine wp_run 4 true ((bif decide (v4 < v2) then 57 else 45), ([some (vp 1 q0), some (vp 30 0), some (vi p2), some (vi p3), some (vi v2), some (vi v4)], ([], G x m5))) rfl rfl ?_
        refine wp_if (v4 < v2) (fun c6 => ?_) (fun c6 => ?_)
        · have h := h.1 c6
          refine wp_run 2 true (62, ([some (vp 1 q0), some (vp 30 0), some (vi p2), some (vi p3), some (vi v2), some (vi v4)], ([vi p3], G x m5))) rfl rfl ?_
          exact wp_ret rfl h
        · have h := h.2 c6
          refine wp_run 3 true ((bif decide (¬ v4 = v2) then 61 else 52), ([some (vp 1 q0), some (vp 30 0), some (vi p2), some (vi p3), some (vi v2), some (vi v4)], ([], G x m5))) rfl rfl ?_
          refine wp_if (¬ v4 = v2) (fun c7 => ?_) (fun c7 => ?_)
          · have h := h.1 c7
            refine wp_run 1 true (62, ([some (vp 1 q0), some (vp 30 0), some (vi p2), some (vi p3), some (vi v2), some (vi v4)], ([vi p2], G x m5))) rfl rfl ?_
            exact wp_ret rfl h
          · have h := h.2 c7
            refine wp_run 3 true ((bif decide (p2 ≤ p3) then 61 else 57), ([some (vp 1 q0), some (vp 30 0), some (vi p2), some (vi p3), some (vi v2), some (vi v4)], ([], G x m5))) rfl rfl ?_
            refine wp_if (p2 ≤ p3) (fun c8 => ?_) (fun c8 => ?_)
            · have h := h.1 c8
              refine wp_run 1 true (62, ([some (vp 1 q0), some (vp 30 0), some (vi p2), some (vi p3), some (vi v2), some (vi v4)], ([vi p2], G x m5))) rfl rfl ?_
              exact wp_ret rfl h
            · have h := h.2 c8
              refine wp_run 2 true (62, ([some (vp 1 q0), some (vp 30 0), some (vi p2), some (vi p3), some (vi v2), some (vi v4)], ([vi p3], G x m5))) rfl rfl ?_
              exact wp_ret rfl h
  · have h := h.2 c1
    refine wp_run 1 true (5, ([some (vp 1 q0), some (vp 30 0), some (vi p2), some (vi p3), none, none], ([vi p3], G x m))) rfl rfl ?_
    exact wp_ret rfl h
set_option maxRecDepth 100000 in
set_option maxHeartbeats 4000000 in
theorem vc_X2_nearer_7 {X : MX} {d : Nat} {x : Int64 × UInt64} {m : MI} {Q : MRes → Prop} {q0 : Nat} {q1 : Nat} {p2 : Int32} {p3 : Int32} (h : ((0 ≤ p2 → (inb p2 10 = true ∧ Cl X d 85 [vp 1 q0, vp 7 q1, vp 5 (10 * q0 + p2.toNatClampNeg)] (G x m) (fun r => ∃ (v2 : Int32) (m3 : MI), r = (.inl (some (vi v2)), G x m3) ∧ (inb p3 10 = true ∧ Cl X d 85 [vp 1 q0, vp 7 q1, vp 5 (10 * q0 + p3.toNatClampNeg)] (G x m3) (fun r => ∃ (v4 : Int32) (m5 : MI), r = (.inl (some (vi v4)), G x m5) ∧ ((v4 < v2 → Q (.inl (some (vi p3)), G x m5)) ∧ (¬ (v4 < v2) → ((¬ v4 = v2 → Q (.inl (some (vi p2)), G x m5)) ∧ (¬ (¬ v4 = v2) → ((p2 ≤ p3 → Q (.inl (some (vi p2)), G x m5)) ∧ (¬ (p2 ≤ p3) → Q (.inl (some (vi p3)), G x m5)))))))))))) ∧ (¬ (0 ≤ p2) → Q (.inl (some (vi p3)), G x m)))) : Cl X (d + 1) 105 [vp 1 q0, vp 7 q1, vi p2, vi p3] (G x m) Q := by
  show Wp X (d + 1) 105 (0, ([some (vp 1 q0), some (vp 7 q1), some (vi p2), some (vi p3), none, none], ([], G x m))) Q
  refine wp_run 2 true ((bif decide (0 ≤ p2) then 6 else 4), ([some (vp 1 q0), some (vp 7 q1), some (vi p2), some (vi p3), none, none], ([], G x m))) rfl rfl ?_
  refine wp_if (0 ≤ p2) (fun c1 => ?_) (fun c1 => ?_)
  · have h := h.1 c1
    obtain ⟨hg2_0, h⟩ := h
    refine wp_run 7 (inb p2 10 && true) (17, ([some (vp 1 q0), some (vp 7 q1), some (vi p2), some (vi p3), none, none], ([vp 5 (10 * q0 + p2.toNatClampNeg), vp 7 q1, vp 1 q0], G x m))) rfl (and_t hg2_0 rfl) ?_
    refine wp_call 85 [vp 1 q0, vp 7 q1, vp 5 (10 * q0 + p2.toNatClampNeg)] (20, ([some (vp 1 q0), some (vp 7 q1), some (vi p2), some (vi p3), none, none], ([], G x m))) rfl rfl (Cl.mono h (Nat.le_refl _) ?_)
    rintro r ⟨v2, m3, rfl, h⟩
    · show Wp X (d + 1) 105 (20, ([some (vp 1 q0), some (vp 7 q1), some (vi p2), some (vi p3), none, none], ([vi v2], G x m3))) Q
      obtain ⟨hg3_0, h⟩ := h
      refine wp_run 8 (inb p3 10 && true) (33, ([some (vp 1 q0), some (vp 7 q1), some (vi p2), some (vi p3), some (vi v2), none], ([vp 5 (10 * q0 + p3.toNatClampNeg), vp 7 q1, vp 1 q0], G x m3))) rfl (and_t hg3_0 rfl) ?_
      refine wp_call 85 [vp 1 q0, vp 7 q1, vp 5 (10 * q0 + p3.toNatClampNeg)] (36, ([some (vp 1 q0), some (vp 7 q1), some (vi p2), some (vi p3), some (vi v2), none], ([], G x m3))) rfl rfl (Cl.mono h (Nat.le_refl _) ?_)
      rintro r ⟨v4, m5, rfl, h⟩
      · show Wp X (d + 1) 105 (36, ([some (vp 1 q0), some (vp 7 q1), some (vi p2), some (vi p3), some (vi v2), none], ([vi v4], G x m5))) Q
        refine wp_run 4 true ((bif decide (v4 < v2) then 57 else 45), ([some (vp 1 q0), some (vp 7 q1), some (vi p2), some (vi p3), some (vi v2), some (vi v4)], ([], G x m5))) rfl rfl ?_
        refine wp_if (v4 < v2) (fun c6 => ?_) (fun c6 => ?_)
        · have h := h.1 c6
          refine wp_run 2 true (62, ([some (vp 1 q0), some (vp 7 q1), some (vi p2), some (vi p3), some (vi v2), some (vi v4)], ([vi p3], G x m5))) rfl rfl ?_
          exact wp_ret rfl h
        · have h := h.2 c6
          refine wp_run 3 true ((bif decide (¬ v4 = v2) then 61 else 52), ([some (vp 1 q0), some (vp 7 q1), some (vi p2), some (vi p3), some (vi v2), some (vi v4)], ([], G x m5))) rfl rfl ?_
          refine wp_if (¬ v4 = v2) (fun c7 => ?_) (fun c7 => ?_)
          · have h := h.1 c7
            refine wp_run 1 true (62, ([some (vp 1 q0), some (vp 7 q1), some (vi p2), some (vi p3), some (vi v2), some (vi v4)], ([vi p2], G x m5))) rfl rfl ?_
            exact wp_ret rfl h
          · have h := h.2 c7
            refine wp_run 3 true ((bif decide (p2 ≤ p3) then 61 else 57), ([some (vp 1 q0), some (vp 7 q1), some (vi p2), some (vi p3), some (vi v2), some (vi v4)], ([], G x m5))) rfl rfl ?_
            refine wp_if (p2 ≤ p3) (fun c8 => ?_) (fun c8 => ?_)
            · have h := h.1 c8
              refine wp_run 1 true (62, ([some (vp 1 q0), some (vp 7 q1), some (vi p2), some (vi p3), some (vi v2), some (vi v4)], ([vi p2], G x m5))) rfl rfl ?_
              exact wp_ret rfl h
            · have h := h.2 c8
              refine wp_run 2 true (62, ([some (vp 1 q0), some (vp 7 q1), some (vi p2), some (vi p3), some (vi v2), some (vi v4)], ([vi p3], G x m5))) rfl rfl ?_
              exact wp_ret rfl h
  · have h := h.2 c1
    refine wp_run 1 true (5, ([some (vp 1 q0), some (vp 7 q1), some (vi p2), some (vi p3), none, none], ([vi p3], G x m))) rfl rfl ?_
    exact wp_ret rfl h
set_option maxRecDepth 100000 in
set_option maxHeartbeats 4000000 in
theorem vc_X2_closestBySorting {X : MX} {d : Nat} {x : Int64 × UInt64} {m : MI} {Q : MRes → Prop} {q0 : Nat} (h : (∀ t1 : Int32, t1 = m 2 q0 1 → Cl X d 101 [vp 10 0, vi t1] (G x m) (fun r => ∃ (m3 : MI), r = (.inl none, G x m3) ∧ Cl X d 103 [vp 4 q0, vp 11 0, vi 0, vi t1, vi 1] (G x m3) (fun r => ∃ (m5 : MI), r = (.inl none, G x m5) ∧ Wp X (d + 1) 106 (39, ([some (vp 10 0), some (vp 1 q0), some (vp 4 q0), some (vi t1), some (vi 1000000000), some (vi 0), none, none, none], ([], G x m5))) Q)))) : Cl X (d + 1) 106 [vp 10 0, vp 1 q0] (G x m) Q := by
  show Wp X (d + 1) 106 (0, ([some (vp 10 0), some (vp 1 q0), none, none, none, none, none, none, none], ([], G x m))) Q
  refine wp_run 8 true (16, ([some (vp 10 0), some (vp 1 q0), some (vp 4 q0), some (vi (m 2 q0 1)), none, none, none, none, none], ([], G x m))) rfl rfl ?_
  refine wpg (fun t1 => Wp X (d + 1) 106 (16, ([some (vp 10 0), some (vp 1 q0), some (vp 4 q0), some (vi t1), none, none, none, none, none], ([], G x m))) Q) (m 2 q0 1) (fun t1 ht1 => ?_)
  have h := h t1 ht1
  refine wp_run 2 true (18, ([some (vp 10 0), some (vp 1 q0), some (vp 4 q0), some (vi t1), none, none, none, none, none], ([vi t1, vp 10 0], G x m))) rfl rfl ?_
  refine wp_call 101 [vp 10 0, vi t1] (21, ([some (vp 10 0), some (vp 1 q0), some (vp 4 q0), some (vi t1), none, none, none, none, none], ([], G x m))) rfl rfl (Cl.mono h (Nat.le_refl _) ?_)
  rintro r ⟨m3, rfl, h⟩
  · show Wp X (d + 1) 106 (21, ([some (vp 10 0), some (vp 1 q0), some (vp 4 q0), some (vi t1), none, none, none, none, none], ([], G x m3))) Q
    refine wp_run 6 true (29, ([some (vp 10 0), some (vp 1 q0), some (vp 4 q0), some (vi t1), none, none, none, none, none], ([vi 1, vi t1, vi 0, vp 11 0, vp 4 q0], G x m3))) rfl rfl ?_
    refine wp_call 103 [vp 4 q0, vp 11 0, vi 0, vi t1, vi 1] (32, ([some (vp 10 0), some (vp 1 q0), some (vp 4 q0), some (vi t1), none, none, none, none, none], ([], G x m3))) rfl rfl (Cl.mono h (Nat.le_refl _) ?_)
    rintro r ⟨m5, rfl, h⟩
    · show Wp X (d + 1) 106 (32, ([some (vp 10 0), some (vp 1 q0), some (vp 4 q0), some (vi t1), none, none, none, none, none], ([], G x m5))) Q
      refine wp_run 4 true (39, ([some (vp 10 0), some (vp 1 q0), some (vp 4 q0), some (vi t1), some (vi 1000000000), some (vi 0), none, none, none], ([], G x m5))) rfl rfl ?_
      exact h
set_option maxRecDepth 100000 in
set_option maxHeartbeats 4000000 in
theorem vl_X2_closestBySorting_39 {X : MX} {d : Nat} {x : Int64 × UInt64} {m : MI} {Q : MRes → Prop} {q0 : Nat} {l3 : Int32} {l4 : Int32} {l5 : Int32} {o6 : Option MV} {o7 : Option MV} {o8 : Option MV} (h : ((l3 ≤ l5 → Q (.inl (some (vi l4)), G x m)) ∧ (¬ (l3 ≤ l5) → (inb l5 10 = true ∧ inb (m 11 0 l5.toNatClampNeg) 10 = true ∧ (∀ t2 : Int32, t2 = l5 + 1 → Wp X (d + 1) 106 (62, ([some (vp 10 0), some (vp 1 q0), some (vp 4 q0), some (vi l3), some (vi l4), some (vi l5), some (vp 5 (10 * q0 + (m 11 0 l5.toNatClampNeg).toNatClampNeg)), some (vi t2), o8], ([], G x m))) Q))))) : Wp X (d + 1) 106 (39, ([some (vp 10 0), some (vp 1 q0), some (vp 4 q0), some (vi l3), some (vi l4), some (vi l5), o6, o7, o8], ([], G x m))) Q := by
  refine wp_run 3 true ((bif decide (l3 ≤ l5) then 132 else 45), ([some (vp 10 0), some (vp 1 q0), some (vp 4 q0), some (vi l3), some (vi l4), some (vi l5), o6, o7, o8], ([], G x m))) rfl rfl ?_
  refine wp_if (l3 ≤ l5) (fun c1 => ?_) (fun c1 => ?_)
  · have h := h.1 c1
    refine wp_run 1 true (134, ([some (vp 10 0), some (vp 1 q0), some (vp 4 q0), some (vi l3), some (vi l4), some (vi l5), o6, o7, o8], ([vi l4], G x m))) rfl rfl ?_
    exact wp_ret rfl h
  · have h := h.2 c1
    obtain ⟨hg2_0, hg2_1, h⟩ := h
    refine wp_run 11 (inb (m 11 0 l5.toNatClampNeg) 10 && (inb l5 10 && true)) (62, ([some (vp 10 0), some (vp 1 q0), some (vp 4 q0), some (vi l3), some (vi l4), some (vi l5), some (vp 5 (10 * q0 + (m 11 0 l5.toNatClampNeg).toNatClampNeg)), some (vi (l5 + 1)), o8], ([], G x m))) rfl (and_t hg2_1 (and_t hg2_0 rfl)) ?_
    refine wpg (fun t2 => Wp X (d + 1) 106 (62, ([some (vp 10 0), some (vp 1 q0), some (vp 4 q0), some (vi l3), some (vi l4), some (vi l5), some (vp 5 (10 * q0 + (m 11 0 l5.toNatClampNeg).toNatClampNeg)), some (vi t2), o8], ([], G x m))) Q) (l5 + 1) (fun t2 ht2 => ?_)
    have h := h t2 ht2
    exact h
set_option maxRecDepth 100000 in
set_option maxHeartbeats 4000000 in
theorem vl_X2_closestBySorting_62 {X : MX} {d : Nat} {x : Int64 × UInt64} {m : MI} {Q : MRes → Prop} {q0 : Nat} {l3 : Int32} {l4 : Int32} {l5 : Int32} {l7 : Int32} {o8 : Option MV} (h : ((l3 ≤ l7 → (∀ t2 : Int32, t2 = l5 + 1 → Wp X (d + 1) 106 (39, ([some (vp 10 0), some (vp 1 q0), some (vp 4 q0), some (vi l3), some (vi l4), some (vi t2), some (vp 5 (10 * q0 + (m 11 0 l5.toNatClampNeg).toNatClampNeg)), some (vi l7), o8], ([], G x m))) Q)) ∧ (¬ (l3 ≤ l7) → (inb l7 10 = true ∧ inb (m 11 0 l7.toNatClampNeg) 10 = true ∧ Cl X d 60 [vi (m 1 q0 3), vi ((m 5 (10 * q0 + (m 11 0 l7.toNatClampNeg).toNatClampNeg) 1) - (m 5 (10 * q0 + (m 11 0 l5.toNatClampNeg).toNatClampNeg) 1)), vi 0, vi 0] (G x m) (fun r => ∃ (v3 : Int32) (m4 : MI), r = (.inl (some (vi v3)), G x m4) ∧ ((v3 < l4 → Cl X d 85 [vp 1 q0, vp 5 (10 * q0 + (m 11 0 l5.toNatClampNeg).toNatClampNeg), vp 5 (10 * q0 + (m 11 0 l7.toNatClampNeg).toNatClampNeg)] (G x m4) (fun r => ∃ (v6 : Int32) (m7 : MI), r = (.inl (some (vi v6)), G x m7) ∧ (∀ t8 : Int32, t8 = (if l4 < v6 then l4 else v6) → (∀ t9 : Int32, t9 = l7 + 1 → Wp X (d + 1) 106 (62, ([some (vp 10 0), some (vp 1 q0), some (vp 4 q0), some (vi l3), some (vi t8), some (vi l5), some (vp 5 (10 * q0 + (m 11 0 l5.toNatClampNeg).toNatClampNeg)), some (vi t9), some (vp 5 (10 * q0 + (m 11 0 l7.toNatClampNeg).toNatClampNeg))], ([], G x m7))) Q)))) ∧ (¬ (v3 < l4) → (∀ t10 : Int32, t10 = l5 + 1 → Wp X (d + 1) 106 (39, ([some (vp 10 0), some (vp 1 q0), some (vp 4 q0), some (vi l3), some (vi l4), some (vi t10), some (vp 5 (10 * q0 + (m 11 0 l5.toNatClampNeg).toNatClampNeg)), some (vi l7), some (vp 5 (10 * q0 + (m 11 0 l7.toNatClampNeg).toNatClampNeg))], ([], G x m4))) Q)))))))) : Wp X (d + 1) 106 (62, ([some (vp 10 0), some (vp 1 q0), some (vp 4 q0), some (vi l3), some (vi l4), some (vi l5), some (vp 5 (10 * q0 + (m 11 0 l5.toNatClampNeg).toNatClampNeg)), some (vi l7), o8], ([], G x m))) Q := by
  refine wp_run 3 true ((bif decide (l3 ≤ l7) then 126 else 68), ([some (vp 10 0), some (vp 1 q0), some (vp 4 q0), some (vi l3), some (vi l4), some (vi l5), some (vp 5 (10 * q0 + (m 11 0 l5.toNatClampNeg).toNatClampNeg)), some (vi l7), o8], ([], G x m))) rfl rfl ?_
  refine wp_if (l3 ≤ l7) (fun c1 => ?_) (fun c1 => ?_)
  · have h := h.1 c1
    refine wp_run 1 true (129, ([some (vp 10 0), some (vp 1 q0), some (vp 4 q0), some (vi l3), some (vi l4), some (vi (l5 + 1)), some (vp 5 (10 * q0 + (m 11 0 l5.toNatClampNeg).toNatClampNeg)), some (vi l7), o8], ([], G x m))) rfl rfl ?_
    refine wpg (fun t2 => Wp X (d + 1) 106 (129, ([some (vp 10 0), some (vp 1 q0), some (vp 4 q0), some (vi l3), some (vi l4), some (vi t2), some (vp 5 (10 * q0 + (m 11 0 l5.toNatClampNeg).toNatClampNeg)), some (vi l7), o8], ([], G x m))) Q) (l5 + 1) (fun t2 ht2 => ?_)
    have h := h t2 ht2
    refine wp_run 1 true (39, ([some (vp 10 0), some (vp 1 q0), some (vp 4 q0), some (vi l3), some (vi l4), some (vi t2), some (vp 5 (10 * q0 + (m 11 0 l5.toNatClampNeg).toNatClampNeg)), some (vi l7), o8], ([], G x m))) rfl rfl ?_
    exact h
  · have h := h.2 c1
    obtain ⟨hg2_0, hg2_1, h⟩ := h
    refine wp_run 18 (inb (m 11 0 l7.toNatClampNeg) 10 && (inb l7 10 && true)) (94, ([some (vp 10 0), some (vp 1 q0), some (vp 4 q0), some (vi l3), some (vi l4), some (vi l5), some (vp 5 (10 * q0 + (m 11 0 l5.toNatClampNeg).toNatClampNeg)), some (vi l7), some (vp 5 (10 * q0 + (m 11 0 l7.toNatClampNeg).toNatClampNeg))], ([vi 0, vi 0, vi ((m 5 (10 * q0 + (m 11 0 l7.toNatClampNeg).toNatClampNeg) 1) - (m 5 (10 * q0 + (m 11 0 l5.toNatClampNeg).toNatClampNeg) 1)), vi (m 1 q0 3)], G x m))) rfl (and_t hg2_1 (and_t hg2_0 rfl)) ?_
    refine wp_call 60 [vi (m 1 q0 3), vi ((m 5 (10 * q0 + (m 11 0 l7.toNatClampNeg).toNatClampNeg) 1) - (m 5 (10 * q0 + (m 11 0 l5.toNatClampNeg).toNatClampNeg) 1)), vi 0, vi 0] (97, ([some (vp 10 0), some (vp 1 q0), some (vp 4 q0), some (vi l3), some (vi l4), some (vi l5), some (vp 5 (10 * q0 + (m 11 0 l5.toNatClampNeg).toNatClampNeg)), some (vi l7), some (vp 5 (10 * q0 + (m 11 0 l7.toNatClampNeg).toNatClampNeg))], ([], G x m))) rfl rfl (Cl.mono h (Nat.le_refl _) ?_)
    rintro r ⟨v3, m4, rfl, h⟩
    · show Wp X (d + 1) 106 (97, ([some (vp 10 0), some (vp 1 q0), some (vp 4 q0), some (vi l3), some (vi l4), some (vi l5), some (vp 5 (10 * q0 + (m 11 0 l5.toNatClampNeg).toNatClampNeg)), some (vi l7), some (vp 5 (10 * q0 + (m 11 0 l7.toNatClampNeg).toNatClampNeg))], ([vi v3], G x m4))) Q
      refine wp_run 2 true ((bif decide (v3 < l4) then 105 else 102), ([some (vp 10 0), some (vp 1 q0), some (vp 4 q0), some (vi l3), some (vi l4), some (vi l5), some (vp 5 (10 * q0 + (m 11 0 l5.toNatClampNeg).toNatClampNeg)), some (vi l7), some (vp 5 (10 * q0 + (m 11 0 l7.toNatClampNeg).toNatClampNeg))], ([], G x m4))) rfl rfl ?_
      refine wp_if (v3 < l4) (fun c5 => ?_) (fun c5 => ?_)
      · have h := h.1 c5
        refine wp_run 4 true (112, ([some (vp 10 0), some (vp 1 q0), some (vp 4 q0), some (vi l3), some (vi l4), some (vi l5), some (vp 5 (10 * q0 + (m 11 0 l5.toNatClampNeg).toNatClampNeg)), some (vi l7), some (vp 5 (10 * q0 + (m 11 0 l7.toNatClampNeg).toNatClampNeg))], ([vp 5 (10 * q0 + (m 11 0 l7.toNatClampNeg).toNatClampNeg), vp 5 (10 * q0 + (m 11 0 l5.toNatClampNeg).toNatClampNeg), vp 1 q0, vi l4], G x m4))) rfl rfl ?_
        refine wp_call 85 [vp 1 q0, vp 5 (10 * q0 + (m 11 0 l5.toNatClampNeg).toNatClampNeg), vp 5 (10 * q0 + (m 11 0 l7.toNatClampNeg).toNatClampNeg)] (115, ([some (vp 10 0), some (vp 1 q0), some (vp 4 q0), some (vi l3), some (vi l4), some (vi l5), some (vp 5 (10 * q0 + (m 11 0 l5.toNatClampNeg).toNatClampNeg)), some (vi l7), some (vp 5 (10 * q0 + (m 11 0 l7.toNatClampNeg).toNatClampNeg))], ([vi l4], G x m4))) rfl rfl (Cl.mono h (Nat.le_refl _) ?_)
        rintro r ⟨v6, m7, rfl, h⟩
        · show Wp X (d + 1) 106 (115, ([some (vp 10 0), some (vp 1 q0), some (vp 4 q0), some (vi l3), some (vi l4), some (vi l5), some (vp 5 (10 * q0 + (m 11 0 l5.toNatClampNeg).toNatClampNeg)), some (vi l7), some (vp 5 (10 * q0 + (m 11 0 l7.toNatClampNeg).toNatClampNeg))], ([vi v6, vi l4], G x m7))) Q
          refine wp_run 2 true (120, ([some (vp 10 0), some (vp 1 q0), some (vp 4 q0), some (vi l3), some (vi (if l4 < v6 then l4 else v6)), some (vi l5), some (vp 5 (10 * q0 + (m 11 0 l5.toNatClampNeg).toNatClampNeg)), some (vi l7), some (vp 5 (10 * q0 + (m 11 0 l7.toNatClampNeg).toNatClampNeg))], ([], G x m7))) rfl rfl ?_
          refine wpg (fun t8 => Wp X (d + 1) 106 (120, ([some (vp 10 0), some (vp 1 q0), some (vp 4 q0), some (vi l3), some (vi t8), some (vi l5), some (vp 5 (10 * q0 + (m 11 0 l5.toNatClampNeg).toNatClampNeg)), some (vi l7), some (vp 5 (10 * q0 + (m 11 0 l7.toNatClampNeg).toNatClampNeg))], ([], G x m7))) Q) (if l4 < v6 then l4 else v6) (fun t8 ht8 => ?_)
          have h := h t8 ht8
          refine wp_run 1 true (123, ([some (vp 10 0), some (vp 1 q0), some (vp 4 q0), some (vi l3), some (vi t8), some (vi l5), some (vp 5 (10 * q0 + (m 11 0 l5.toNatClampNeg).toNatClampNeg)), some (vi (l7 + 1)), some (vp 5 (10 * q0 + (m 11 0 l7.toNatClampNeg).toNatClampNeg))], ([], G x m7))) rfl rfl ?_
          refine wpg (fun t9 => Wp X (d + 1) 106 (123, ([some (vp 10 0), some (vp 1 q0), some (vp 4 q0), some (vi l3), some (vi t8), some (vi l5), some (vp 5 (10 * q0 + (m 11 0 l5.toNatClampNeg).toNatClampNeg)), some (vi t9), some (vp 5 (10 * q0 + (m 11 0 l7.toNatClampNeg).toNatClampNeg))], ([], G x m7))) Q) (l7 + 1) (fun t9 ht9 => ?_)
          have h := h t9 ht9
          refine wp_run 1 true (62, ([some (vp 10 0), some (vp 1 q0), some (vp 4 q0), some (vi l3), some (vi t8), some (vi l5), some (vp 5 (10 * q0 + (m 11 0 l5.toNatClampNeg).toNatClampNeg)), some (vi t9), some (vp 5 (10 * q0 + (m 11 0 l7.toNatClampNeg).toNatClampNeg))], ([], G x m7))) rfl rfl ?_
          exact h
      · have h := h.2 c5
        refine wp_run 2 true (129, ([some (vp 10 0), some (vp 1 q0), some (vp 4 q0), some (vi l3), some (vi l4), some (vi (l5 + 1)), some (vp 5 (10 * q0 + (m 11 0 l5.toNatClampNeg).toNatClampNeg)), some (vi l7), some (vp 5 (10 * q0 + (m 11 0 l7.toNatClampNeg).toNatClampNeg))], ([], G x m4))) rfl rfl ?_
        refine wpg (fun t10 => Wp X (d + 1) 106 (129, ([some (vp 10 0), some (vp 1 q0), some (vp 4 q0), some (vi l3), some (vi l4), some (vi t10), some (vp 5 (10 * q0 + (m 11 0 l5.toNatClampNeg).toNatClampNeg)), some (vi l7), some (vp 5 (10 * q0 + (m 11 0 l7.toNatClampNeg).toNatClampNeg))], ([], G x m4))) Q) (l5 + 1) (fun t10 ht10 => ?_)
        have h := h t10 ht10
        refine wp_run 1 true (39, ([some (vp 10 0), some (vp 1 q0), some (vp 4 q0), some (vi l3), some (vi l4), some (vi t10), some (vp 5 (10 * q0 + (m 11 0 l5.toNatClampNeg).toNatClampNeg)), some (vi l7), some (vp 5 (10 * q0 + (m 11 0 l7.toNatClampNeg).toNatClampNeg))], ([], G x m4))) rfl rfl ?_
        exact h
set_option maxRecDepth 100000 in
set_option maxHeartbeats 4000000 in
theorem vc_X6_solve {X : MX} {d : Nat} {x : Int64 × UInt64} {m : MI} {Q : MRes → Prop} {q0 : Nat} (h : Cl X d 109 [vp 12 0, vp 1 q0] (G x m) (fun r => ∃ (m2 : MI), r = (.inl none, G x m2) ∧ Cl X d 110 [vp 12 0] (G x m2) (fun r => ∃ (m4 : MI), r = (.inl none, G x m4) ∧ Cl X d 114 [vp 12 0] (G x m4) (fun r => ∃ (m6 : MI), r = (.inl none, G x m6) ∧ Q (.inl none, G x m6))))) : Cl X (d + 1) 108 [vp 12 0, vp 1 q0] (G x m) Q := by
  show Wp X (d + 1) 108 (0, ([some (vp 12 0), some (vp 1 q0)], ([], G x m))) Q
  refine wp_run 2 true (2, ([some (vp 12 0), some (vp 1 q0)], ([vp 1 q0, vp 12 0], G x m))) rfl rfl ?_
  refine wp_call 109 [vp 12 0, vp 1 q0] (5, ([some (vp 12 0), some (vp 1 q0)], ([], G x m))) rfl rfl (Cl.mono h (Nat.le_refl _) ?_)
  rintro r ⟨m2, rfl, h⟩
  · show Wp X (d + 1) 108 (5, ([some (vp 12 0), some (vp 1 q0)], ([], G x m2))) Q
    refine wp_run 1 true (6, ([some (vp 12 0), some (vp 1 q0)], ([vp 12 0], G x m2))) rfl rfl ?_
    refine wp_call 110 [vp 12 0] (9, ([some (vp 12 0), some (vp 1 q0)], ([], G x m2))) rfl rfl (Cl.mono h (Nat.le_refl _) ?_)
    rintro r ⟨m4, rfl, h⟩
    · show Wp X (d + 1) 108 (9, ([some (vp 12 0), some (vp 1 q0)], ([], G x m4))) Q
      refine wp_run 1 true (10, ([some (vp 12 0), some (vp 1 q0)], ([vp 12 0], G x m4))) rfl rfl ?_
      refine wp_call 114 [vp 12 0] (13, ([some (vp 12 0), some (vp 1 q0)], ([], G x m4))) rfl rfl (Cl.mono h (Nat.le_refl _) ?_)
      rintro r ⟨m6, rfl, h⟩
      · show Wp X (d + 1) 108 (13, ([some (vp 12 0), some (vp 1 q0)], ([], G x m6))) Q
        exact wp_ret rfl h
set_option maxRecDepth 100000 in
set_option maxHeartbeats 4000000 in
theorem vc_X6_load {X : MX} {d : Nat} {x : Int64 × UInt64} {m : MI} {Q : MRes → Prop} {q0 : Nat} (h : (∀ m1 : MI, m1 = mup m 12 0 5 (m 3 q0 1) → (∀ m2 : MI, m2 = mup m1 12 0 6 (m1 2 q0 1) → (∀ t3 : Int32, t3 = (m2 12 0 5) - 1 → Wp X (d + 1) 109 (31, ([some (vp 12 0), some (vp 1 q0), some (vi 0), some (vi t3), none, none, none, none, none], ([], G x m2))) Q)))) : Cl X (d + 1) 109 [vp 12 0, vp 1 q0] (G x m) Q := by
  show Wp X (d + 1) 109 (0, ([some (vp 12 0), some (vp 1 q0), none, none, none, none, none, none, none], ([], G x m))) Q
  refine wp_run 5 true (11, ([some (vp 12 0), some (vp 1 q0), none, none, none, none, none, none, none], ([], G x (mup m 12 0 5 (m 3 q0 1))))) rfl rfl ?_
  refine wpg (fun m1 => Wp X (d + 1) 109 (11, ([some (vp 12 0), some (vp 1 q0), none, none, none, none, none, none, none], ([], G x m1))) Q) (mup m 12 0 5 (m 3 q0 1)) (fun m1 hm1 => ?_)
  have h := h m1 hm1
  refine wp_run 5 true (22, ([some (vp 12 0), some (vp 1 q0), none, none, none, none, none, none, none], ([], G x (mup m1 12 0 6 (m1 2 q0 1))))) rfl rfl ?_
  refine wpg (fun m2 => Wp X (d + 1) 109 (22, ([some (vp 12 0), some (vp 1 q0), none, none, none, none, none, none, none], ([], G x m2))) Q) (mup m1 12 0 6 (m1 2 q0 1)) (fun m2 hm2 => ?_)
  have h := h m2 hm2
  refine wp_run 7 true (31, ([some (vp 12 0), some (vp 1 q0), some (vi 0), some (vi ((m2 12 0 5) - 1)), none, none, none, none, none], ([], G x m2))) rfl rfl ?_
  refine wpg (fun t3 => Wp X (d + 1) 109 (31, ([some (vp 12 0), some (vp 1 q0), some (vi 0), some (vi t3), none, none, none, none, none], ([], G x m2))) Q) ((m2 12 0 5) - 1) (fun t3 ht3 => ?_)
  have h := h t3 ht3
  exact h
set_option maxRecDepth 100000 in
set_option maxHeartbeats 4000000 in
theorem vl_X6_load_31 {X : MX} {d : Nat} {x : Int64 × UInt64} {m : MI} {Q : MRes → Prop} {q0 : Nat} {l2 : Int32} {l3 : Int32} {o4 : Option MV} {o5 : Option MV} {o6 : Option MV} {o7 : Option MV} {o8 : Option MV} (h : ((l3 < 0 → Q (.inl none, G x m)) ∧ (¬ (l3 < 0) → (inb l3 6 = true ∧ Wp X (d + 1) 109 (52, ([some (vp 12 0), some (vp 1 q0), some (vi l2), some (vi l3), some (vp 7 (6 * q0 + l3.toNatClampNeg)), some (vi 0), some (vi 0), o7, o8], ([], G x m))) Q)))) : Wp X (d + 1) 109 (31, ([some (vp 12 0), some (vp 1 q0), some (vi l2), some (vi l3), o4, o5, o6, o7, o8], ([], G x m))) Q := by
  refine wp_run 2 true ((bif decide (l3 < 0) then 179 else 35), ([some (vp 12 0), some (vp 1 q0), some (vi l2), some (vi l3), o4, o5, o6, o7, o8], ([], G x m))) rfl rfl ?_
  refine wp_if (l3 < 0) (fun c1 => ?_) (fun c1 => ?_)
  · have h := h.1 c1
    exact wp_ret rfl h
  · have h := h.2 c1
    obtain ⟨hg2_0, h⟩ := h
    refine wp_run 10 (inb l3 6 && true) (52, ([some (vp 12 0), some (vp 1 q0), some (vi l2), some (vi l3), some (vp 7 (6 * q0 + l3.toNatClampNeg)), some (vi 0), some (vi 0), o7, o8], ([], G x m))) rfl (and_t hg2_0 rfl) ?_
    exact h
set_option maxRecDepth 100000 in
set_option maxHeartbeats 4000000 in
theorem vl_X6_load_52 {X : MX} {d : Nat} {x : Int64 × UInt64} {m : MI} {Q : MRes → Prop} {q0 : Nat} {l2 : Int32} {l3 : Int32} {l5 : Int32} {l6 : Int32} {o7 : Option MV} {o8 : Option MV} (h : (((m 12 0 6) ≤ l6 → (inb l3 6 = true ∧ (∀ m2 : MI, m2 = mup m 15 0 (l3.toNatClampNeg) (m 7 (6 * q0 + l3.toNatClampNeg) 5) → ((l5 = 0 → (∀ t4 : Int32, t4 = l2 + 0 → (inb l3 6 = true ∧ (∀ m5 : MI, m5 = mup m2 16 0 (l3.toNatClampNeg) t4 → (∀ t6 : Int32, t6 = l3 + (-1) → Wp X (d + 1) 109 (31, ([some (vp 12 0), some (vp 1 q0), some (vi t4), some (vi t6), some (vp 7 (6 * q0 + l3.toNatClampNeg)), some (vi l5), some (vi l6), o7, o8], ([], G x m5))) Q))))) ∧ (¬ (l5 = 0) → (inb l3 6 = true ∧ (∀ t7 : Int32, t7 = l2 + (m2 15 0 l3.toNatClampNeg) → (inb l3 6 = true ∧ (∀ m8 : MI, m8 = mup m2 16 0 (l3.toNatClampNeg) t7 → (∀ t9 : Int32, t9 = l3 + (-1) → Wp X (d + 1) 109 (31, ([some (vp 12 0), some (vp 1 q0), some (vi t7), some (vi t9), some (vp 7 (6 * q0 + l3.toNatClampNeg)), some (vi l5), some (vi l6), o7, o8], ([], G x m8))) Q)))))))))) ∧ (¬ ((m 12 0 6) ≤ l6) → (inb l6 10 = true ∧ Cl X d 85 [vp 1 q0, vp 7 (6 * q0 + l3.toNatClampNeg), vp 5 (10 * q0 + l6.toNatClampNeg)] (G x m) (fun r => ∃ (v10 : Int32) (m11 : MI), r = (.inl (some (vi v10)), G x m11) ∧ (((m11 7 (6 * q0 + l3.toNatClampNeg) 4) < v10 → (inb l3 6 = true ∧ inb l6 10 = true ∧ (∀ m13 : MI, m13 = mup m11 14 (l3.toNatClampNeg) (l6.toNatClampNeg) (-1) → ((¬ l5 = 0 → (∀ t15 : Int32, t15 = l6 + 1 → Wp X (d + 1) 109 (52, ([some (vp 12 0), some (vp 1 q0), some (vi l2), some (vi l3), some (vp 7 (6 * q0 + l3.toNatClampNeg)), some (vi 1), some (vi t15), some (vi v10), some (vi 0)], ([], G x m13))) Q)) ∧ (¬ (¬ l5 = 0) → (∀ t16 : Int32, t16 = l6 + 1 → Wp X (d + 1) 109 (52, ([some (vp 12 0), some (vp 1 q0), some (vi l2), some (vi l3), some (vp 7 (6 * q0 + l3.toNatClampNeg)), some (vi 0), some (vi t16), some (vi v10), some (vi 0)], ([], G x m13))) Q)))))) ∧ (¬ ((m11 7 (6 * q0 + l3.toNatClampNeg) 4) < v10) → (inb l3 6 = true ∧ inb l6 10 = true ∧ (∀ m17 : MI, m17 = mup m11 14 (l3.toNatClampNeg) (l6.toNatClampNeg) v10 → ((¬ l5 = 0 → (∀ t19 : Int32, t19 = l6 + 1 → Wp X (d + 1) 109 (52, ([some (vp 12 0), some (vp 1 q0), some (vi l2), some (vi l3), some (vp 7 (6 * q0 + l3.toNatClampNeg)), some (vi 1), some (vi t19), some (vi v10), some (vi 1)], ([], G x m17))) Q)) ∧ (¬ (¬ l5 = 0) → (∀ t20 : Int32, t20 = l6 + 1 → Wp X (d + 1) 109 (52, ([some (vp 12 0), some (vp 1 q0), some (vi l2), some (vi l3), some (vp 7 (6 * q0 + l3.toNatClampNeg)), some (vi 1), some (vi t20), some (vi v10), some (vi 1)], ([], G x m17))) Q)))))))))))) : Wp X (d + 1) 109 (52, ([some (vp 12 0), some (vp 1 q0), some (vi l2), some (vi l3), some (vp 7 (6 * q0 + l3.toNatClampNeg)), some (vi l5), some (vi l6), o7, o8], ([], G x m))) Q := by
  refine wp_run 4 true ((bif decide ((m 12 0 6) ≤ l6) then 138 else 61), ([some (vp 12 0), some (vp 1 q0), some (vi l2), some (vi l3), some (vp 7 (6 * q0 + l3.toNatClampNeg)), some (vi l5), some (vi l6), o7, o8], ([], G x m))) rfl rfl ?_
  refine wp_if ((m 12 0 6) ≤ l6) (fun c1 => ?_) (fun c1 => ?_)
  · have h := h.1 c1
    obtain ⟨hg2_0, h⟩ := h
    refine wp_run 7 (inb l3 6 && true) (148, ([some (vp 12 0), some (vp 1 q0), some (vi l2), some (vi l3), some (vp 7 (6 * q0 + l3.toNatClampNeg)), some (vi l5), some (vi l6), o7, o8], ([], G x (mup m 15 0 (l3.toNatClampNeg) (m 7 (6 * q0 + l3.toNatClampNeg) 5))))) rfl (and_t hg2_0 rfl) ?_
    refine wpg (fun m2 => Wp X (d + 1) 109 (148, ([some (vp 12 0), some (vp 1 q0), some (vi l2), some (vi l3), some (vp 7 (6 * q0 + l3.toNatClampNeg)), some (vi l5), some (vi l6), o7, o8], ([], G x m2))) Q) (mup m 15 0 (l3.toNatClampNeg) (m 7 (6 * q0 + l3.toNatClampNeg) 5)) (fun m2 hm2 => ?_)
    have h := h m2 hm2
    refine wp_run 3 true ((bif decide (l5 = 0) then 163 else 154), ([some (vp 12 0), some (vp 1 q0), some (vi l2), some (vi l3), some (vp 7 (6 * q0 + l3.toNatClampNeg)), some (vi l5), some (vi l6), o7, o8], ([vi l2], G x m2))) rfl rfl ?_
    refine wp_if (l5 = 0) (fun c3 => ?_) (fun c3 => ?_)
    · have h := h.1 c3
      refine wp_run 3 true (166, ([some (vp 12 0), some (vp 1 q0), some (vi (l2 + 0)), some (vi l3), some (vp 7 (6 * q0 + l3.toNatClampNeg)), some (vi l5), some (vi l6), o7, o8], ([], G x m2))) rfl rfl ?_
      refine wpg (fun t4 => Wp X (d + 1) 109 (166, ([some (vp 12 0), some (vp 1 q0), some (vi t4), some (vi l3), some (vp 7 (6 * q0 + l3.toNatClampNeg)), some (vi l5), some (vi l6), o7, o8], ([], G x m2))) Q) (l2 + 0) (fun t4 ht4 => ?_)
      have h := h t4 ht4
      obtain ⟨hg3_0, h⟩ := h
      refine wp_run 5 (inb l3 6 && true) (173, ([some (vp 12 0), some (vp 1 q0), some (vi t4), some (vi l3), some (vp 7 (6 * q0 + l3.toNatClampNeg)), some (vi l5), some (vi l6), o7, o8], ([], G x (mup m2 16 0 (l3.toNatClampNeg) t4)))) rfl (and_t hg3_0 rfl) ?_
      refine wpg (fun m5 => Wp X (d + 1) 109 (173, ([some (vp 12 0), some (vp 1 q0), some (vi t4), some (vi l3), some (vp 7 (6 * q0 + l3.toNatClampNeg)), some (vi l5), some (vi l6), o7, o8], ([], G x m5))) Q) (mup m2 16 0 (l3.toNatClampNeg) t4) (fun m5 hm5 => ?_)
      have h := h m5 hm5
      refine wp_run 1 true (176, ([some (vp 12 0), some (vp 1 q0), some (vi t4), some (vi (l3 + (-1))), some (vp 7 (6 * q0 + l3.toNatClampNeg)), some (vi l5), some (vi l6), o7, o8], ([], G x m5))) rfl rfl ?_
      refine wpg (fun t6 => Wp X (d + 1) 109 (176, ([some (vp 12 0), some (vp 1 q0), some (vi t4), some (vi t6), some (vp 7 (6 * q0 + l3.toNatClampNeg)), some (vi l5), some (vi l6), o7, o8], ([], G x m5))) Q) (l3 + (-1)) (fun t6 ht6 => ?_)
      have h := h t6 ht6
      refine wp_run 1 true (31, ([some (vp 12 0), some (vp 1 q0), some (vi t4), some (vi t6), some (vp 7 (6 * q0 + l3.toNatClampNeg)), some (vi l5), some (vi l6), o7, o8], ([], G x m5))) rfl rfl ?_
      exact h
    · have h := h.2 c3
      obtain ⟨hg3_0, h⟩ := h
      refine wp_run 7 (inb l3 6 && true) (166, ([some (vp 12 0), some (vp 1 q0), some (vi (l2 + (m2 15 0 l3.toNatClampNeg))), some (vi l3), some (vp 7 (6 * q0 + l3.toNatClampNeg)), some (vi l5), some (vi l6), o7, o8], ([], G x m2))) rfl (and_t hg3_0 rfl) ?_
      refine wpg (fun t7 => Wp X (d + 1) 109 (166, ([some (vp 12 0), some (vp 1 q0), some (vi t7), some (vi l3), some (vp 7 (6 * q0 + l3.toNatClampNeg)), some (vi l5), some (vi l6), o7, o8], ([], G x m2))) Q) (l2 + (m2 15 0 l3.toNatClampNeg)) (fun t7 ht7 => ?_)
      have h := h t7 ht7
      obtain ⟨hg3_0, h⟩ := h
      refine wp_run 5 (inb l3 6 && true) (173, ([some (vp 12 0), some (vp 1 q0), some (vi t7), some (vi l3), some (vp 7 (6 * q0 + l3.toNatClampNeg)), some (vi l5), some (vi l6), o7, o8], ([], G x (mup m2 16 0 (l3.toNatClampNeg) t7)))) rfl (and_t hg3_0 rfl) ?_
      refine wpg (fun m8 => Wp X (d + 1) 109 (173, ([some (vp 12 0), some (vp 1 q0), some (vi t7), some (vi l3), some (vp 7 (6 * q0 + l3.toNatClampNeg)), some (vi l5), some (vi l6), o7, o8], ([], G x m8))) Q) (mup m2 16 0 (l3.toNatClampNeg) t7) (fun m8 hm8 => ?_)
      have h := h m8 hm8
      refine wp_run 1 true (176, ([some (vp 12 0), some (vp 1 q0), some (vi t7), some (vi (l3 + (-1))), some (vp 7 (6 * q0 + l3.toNatClampNeg)), some (vi l5), some (vi l6), o7, o8], ([], G x m8))) rfl rfl ?_
      refine wpg (fun t9 => Wp X (d + 1) 109 (176, ([some (vp 12 0), some (vp 1 q0), some (vi t7), some (vi t9), some (vp 7 (6 * q0 + l3.toNatClampNeg)), some (vi l5), some (vi l6), o7, o8], ([], G x m8))) Q) (l3 + (-1)) (fun t9 ht9 => ?_)
      have h := h t9 ht9
      refine wp_run 1 true (31, ([some (vp 12 0), some (vp 1 q0), some (vi t7), some (vi t9), some (vp 7 (6 * q0 + l3.toNatClampNeg)), some (vi l5), some (vi l6), o7, o8], ([], G x m8))) rfl rfl ?_
      exact h
  · have h := h.2 c1
    obtain ⟨hg2_0, h⟩ := h
    refine wp_run 7 (inb l6 10 && true) (74, ([some (vp 12 0), some (vp 1 q0), some (vi l2), some (vi l3), some (vp 7 (6 * q0 + l3.toNatClampNeg)), some (vi l5), some (vi l6), o7, o8], ([vp 5 (10 * q0 + l6.toNatClampNeg), vp 7 (6 * q0 + l3.toNatClampNeg), vp 1 q0], G x m))) rfl (and_t hg2_0 rfl) ?_
    refine wp_call 85 [vp 1 q0, vp 7 (6 * q0 + l3.toNatClampNeg), vp 5 (10 * q0 + l6.toNatClampNeg)] (77, ([some (vp 12 0), some (vp 1 q0), some (vi l2), some (vi l3), some (vp 7 (6 * q0 + l3.toNatClampNeg)), some (vi l5), some (vi l6), o7, o8], ([], G x m))) rfl rfl (Cl.mono h (Nat.le_refl _) ?_)
    rintro r ⟨v10, m11, rfl, h⟩
    · show Wp X (d + 1) 109 (77, ([some (vp 12 0), some (vp 1 q0), some (vi l2), some (vi l3), some (vp 7 (6 * q0 + l3.toNatClampNeg)), some (vi l5), some (vi l6), o7, o8], ([vi v10], G x m11))) Q
      refine wp_run 6 true ((bif decide ((m11 7 (6 * q0 + l3.toNatClampNeg) 4) < v10) then 92 else 88), ([some (vp 12 0), some (vp 1 q0), some (vi l2), some (vi l3), some (vp 7 (6 * q0 + l3.toNatClampNeg)), some (vi l5), some (vi l6), some (vi v10), o8], ([], G x m11))) rfl rfl ?_
      refine wp_if ((m11 7 (6 * q0 + l3.toNatClampNeg) 4) < v10) (fun c12 => ?_) (fun c12 => ?_)
      · have h := h.1 c12
        obtain ⟨hg4_0, hg4_1, h⟩ := h
        refine wp_run 11 (inb l6 10 && (inb l3 6 && true)) (115, ([some (vp 12 0), some (vp 1 q0), some (vi l2), some (vi l3), some (vp 7 (6 * q0 + l3.toNatClampNeg)), some (vi l5), some (vi l6), some (vi v10), some (vi 0)], ([], G x (mup m11 14 (l3.toNatClampNeg) (l6.toNatClampNeg) (-1))))) rfl (and_t hg4_1 (and_t hg4_0 rfl)) ?_
        refine wpg (fun m13 => Wp X (d + 1) 109 (115, ([some (vp 12 0), some (vp 1 q0), some (vi l2), some (vi l3), some (vp 7 (6 * q0 + l3.toNatClampNeg)), some (vi l5), some (vi l6), some (vi v10), some (vi 0)], ([], G x m13))) Q) (mup m11 14 (l3.toNatClampNeg) (l6.toNatClampNeg) (-1)) (fun m13 hm13 => ?_)
        have h := h m13 hm13
        refine wp_run 2 true ((bif decide (¬ l5 = 0) then 125 else 120), ([some (vp 12 0), some (vp 1 q0), some (vi l2), some (vi l3), some (vp 7 (6 * q0 + l3.toNatClampNeg)), some (vi l5), some (vi l6), some (vi v10), some (vi 0)], ([], G x m13))) rfl rfl ?_
        refine wp_if (¬ l5 = 0) (fun c14 => ?_) (fun c14 => ?_)
        · have h := h.1 c14
          refine wp_run 4 true (135, ([some (vp 12 0), some (vp 1 q0), some (vi l2), some (vi l3), some (vp 7 (6 * q0 + l3.toNatClampNeg)), some (vi 1), some (vi (l6 + 1)), some (vi v10), some (vi 0)], ([], G x m13))) rfl rfl ?_
          refine wpg (fun t15 => Wp X (d + 1) 109 (135, ([some (vp 12 0), some (vp 1 q0), some (vi l2), some (vi l3), some (vp 7 (6 * q0 + l3.toNatClampNeg)), some (vi 1), some (vi t15), some (vi v10), some (vi 0)], ([], G x m13))) Q) (l6 + 1) (fun t15 ht15 => ?_)
          have h := h t15 ht15
          refine wp_run 1 true (52, ([some (vp 12 0), some (vp 1 q0), some (vi l2), some (vi l3), some (vp 7 (6 * q0 + l3.toNatClampNeg)), some (vi 1), some (vi t15), some (vi v10), some (vi 0)], ([], G x m13))) rfl rfl ?_
          exact h
        · have h := h.2 c14
          refine wp_run 5 true (135, ([some (vp 12 0), some (vp 1 q0), some (vi l2), some (vi l3), some (vp 7 (6 * q0 + l3.toNatClampNeg)), some (vi 0), some (vi (l6 + 1)), some (vi v10), some (vi 0)], ([], G x m13))) rfl rfl ?_
          refine wpg (fun t16 => Wp X (d + 1) 109 (135, ([some (vp 12 0), some (vp 1 q0), some (vi l2), some (vi l3), some (vp 7 (6 * q0 + l3.toNatClampNeg)), some (vi 0), some (vi t16), some (vi v10), some (vi 0)], ([], G x m13))) Q) (l6 + 1) (fun t16 ht16 => ?_)
          have h := h t16 ht16
          refine wp_run 1 true (52, ([some (vp 12 0), some (vp 1 q0), some (vi l2), some (vi l3), some (vp 7 (6 * q0 + l3.toNatClampNeg)), some (vi 0), some (vi t16), some (vi v10), some (vi 0)], ([], G x m13))) rfl rfl ?_
          exact h
      · have h := h.2 c12
        obtain ⟨hg4_0, hg4_1, h⟩ := h
        refine wp_run 13 (inb l6 10 && (inb l3 6 && true)) (115, ([some (vp 12 0), some (vp 1 q0), some (vi l2), some (vi l3), some (vp 7 (6 * q0 + l3.toNatClampNeg)), some (vi l5), some (vi l6), some (vi v10), some (vi 1)], ([], G x (mup m11 14 (l3.toNatClampNeg) (l6.toNatClampNeg) v10)))) rfl (and_t hg4_1 (and_t hg4_0 rfl)) ?_
        refine wpg (fun m17 => Wp X (d + 1) 109 (115, ([some (vp 12 0), some (vp 1 q0), some (vi l2), some (vi l3), some (vp 7 (6 * q0 + l3.toNatClampNeg)), some (vi l5), some (vi l6), some (vi v10), some (vi 1)], ([], G x m17))) Q) (mup m11 14 (l3.toNatClampNeg) (l6.toNatClampNeg) v10) (fun m17 hm17 => ?_)
        have h := h m17 hm17
        refine wp_run 2 true ((bif decide (¬ l5 = 0) then 125 else 120), ([some (vp 12 0), some (vp 1 q0), some (vi l2), some (vi l3), some (vp 7 (6 * q0 + l3.toNatClampNeg)), some (vi l5), some (vi l6), some (vi v10), some (vi 1)], ([], G x m17))) rfl rfl ?_
        refine wp_if (¬ l5 = 0) (fun c18 => ?_) (fun c18 => ?_)
        · have h := h.1 c18
          refine wp_run 4 true (135, ([some (vp 12 0), some (vp 1 q0), some (vi l2), some (vi l3), some (vp 7 (6 * q0 + l3.toNatClampNeg)), some (vi 1), some (vi (l6 + 1)), some (vi v10), some (vi 1)], ([], G x m17))) rfl rfl ?_
          refine wpg (fun t19 => Wp X (d + 1) 109 (135, ([some (vp 12 0), some (vp 1 q0), some (vi l2), some (vi l3), some (vp 7 (6 * q0 + l3.toNatClampNeg)), some (vi 1), some (vi t19), some (vi v10), some (vi 1)], ([], G x m17))) Q) (l6 + 1) (fun t19 ht19 => ?_)
          have h := h t19 ht19
          refine wp_run 1 true (52, ([some (vp 12 0), some (vp 1 q0), some (vi l2), some (vi l3), some (vp 7 (6 * q0 + l3.toNatClampNeg)), some (vi 1), some (vi t19), some (vi v10), some (vi 1)], ([], G x m17))) rfl rfl ?_
          exact h
        · have h := h.2 c18
          refine wp_run 6 true (135, ([some (vp 12 0), some (vp 1 q0), some (vi l2), some (vi l3), some (vp 7 (6 * q0 + l3.toNatClampNeg)), some (vi 1), some (vi (l6 + 1)), some (vi v10), some (vi 1)], ([], G x m17))) rfl rfl ?_
          refine wpg (fun t20 => Wp X (d + 1) 109 (135, ([some (vp 12 0), some (vp 1 q0), some (vi l2), some (vi l3), some (vp 7 (6 * q0 + l3.toNatClampNeg)), some (vi 1), some (vi t20), some (vi v10), some (vi 1)], ([], G x m17))) Q) (l6 + 1) (fun t20 ht20 => ?_)
          have h := h t20 ht20
          refine wp_run 1 true (52, ([some (vp 12 0), some (vp 1 q0), some (vi l2), some (vi l3), some (vp 7 (6 * q0 + l3.toNatClampNeg)), some (vi 1), some (vi t20), some (vi v10), some (vi 1)], ([], G x m17))) rfl rfl ?_
          exact h
set_option maxRecDepth 100000 in
set_option maxHeartbeats 4000000 in
theorem vc_X6_weighAll {X : MX} {d : Nat} {x : Int64 × UInt64} {m : MI} {Q : MRes → Prop} (h : (∀ t1 : Int32, t1 = (m 12 0 5) - 1 → Wp X (d + 1) 110 (7, ([some (vp 12 0), some (vi t1), none], ([], G x m))) Q)) : Cl X (d + 1) 110 [vp 12 0] (G x m) Q := by
  show Wp X (d + 1) 110 (0, ([some (vp 12 0), none, none], ([], G x m))) Q
  refine wp_run 5 true (7, ([some (vp 12 0), some (vi ((m 12 0 5) - 1)), none], ([], G x m))) rfl rfl ?_
  refine wpg (fun t1 => Wp X (d + 1) 110 (7, ([some (vp 12 0), some (vi t1), none], ([], G x m))) Q) ((m 12 0 5) - 1) (fun t1 ht1 => ?_)
  have h := h t1 ht1
  exact h
set_option maxRecDepth 100000 in
set_option maxHeartbeats 4000000 in
theorem vl_X6_weighAll_7 {X : MX} {d : Nat} {x : Int64 × UInt64} {m : MI} {Q : MRes → Prop} {l1 : Int32} {o2 : Option MV} (h : ((l1 < 0 → Q (.inl none, G x m)) ∧ (¬ (l1 < 0) → Wp X (d + 1) 110 (13, ([some (vp 12 0), some (vi l1), some (vi 0)], ([], G x m))) Q))) : Wp X (d + 1) 110 (7, ([some (vp 12 0), some (vi l1), o2], ([], G x m))) Q := by
  refine wp_run 2 true ((bif decide (l1 < 0) then 62 else 11), ([some (vp 12 0), some (vi l1), o2], ([], G x m))) rfl rfl ?_
  refine wp_if (l1 < 0) (fun c1 => ?_) (fun c1 => ?_)
  · have h := h.1 c1
    exact wp_ret rfl h
  · have h := h.2 c1
    refine wp_run 2 true (13, ([some (vp 12 0), some (vi l1), some (vi 0)], ([], G x m))) rfl rfl ?_
    exact h
set_option maxRecDepth 100000 in
set_option maxHeartbeats 4000000 in
theorem vl_X6_weighAll_13 {X : MX} {d : Nat} {x : Int64 × UInt64} {m : MI} {Q : MRes → Prop} {l1 : Int32} {l2 : Int32} (h : ((((1 : Int32) <<< ((m 12 0 6) &&& 31)) ≤ l2 → (∀ t2 : Int32, t2 = l1 + (-1) → Wp X (d + 1) 110 (7, ([some (vp 12 0), some (vi t2), some (vi l2)], ([], G x m))) Q)) ∧ (¬ (((1 : Int32) <<< ((m 12 0 6) &&& 31)) ≤ l2) → Cl X d 329 [vi l2] (G x m) (fun r => ∃ (v3 : Int32) (m4 : MI), r = (.inl (some (vi v3)), G x m4) ∧ ((l1 < v3 → (∀ t6 : Int32, t6 = l2 + 1 → Wp X (d + 1) 110 (13, ([some (vp 12 0), some (vi l1), some (vi t6)], ([], G x m4))) Q)) ∧ (¬ (l1 < v3) → (inb ((m4 12 0 5) - l1) 7 = true ∧ Cl X d 111 [vp 12 0, vi l1, vi l2] (G x m4) (fun r => ∃ (v7 : Int32) (m8 : MI), r = (.inl (some (vi v7)), G x m8) ∧ (inb l2 1024 = true ∧ (∀ m9 : MI, m9 = mup m8 18 (((m4 12 0 5) - l1).toNatClampNeg) (l2.toNatClampNeg) v7 → (∀ t10 : Int32, t10 = l2 + 1 → Wp X (d + 1) 110 (13, ([some (vp 12 0), some (vi l1), some (vi t10)], ([], G x m9))) Q))))))))))) : Wp X (d + 1) 110 (13, ([some (vp 12 0), some (vi l1), some (vi l2)], ([], G x m))) Q := by
  refine wp_run 6 true ((bif decide (((1 : Int32) <<< ((m 12 0 6) &&& 31)) ≤ l2) then 56 else 23), ([some (vp 12 0), some (vi l1), some (vi l2)], ([], G x m))) rfl rfl ?_
  refine wp_if (((1 : Int32) <<< ((m 12 0 6) &&& 31)) ≤ l2) (fun c1 => ?_) (fun c1 => ?_)
  · have h := h.1 c1
    refine wp_run 1 true (59, ([some (vp 12 0), some (vi (l1 + (-1))), some (vi l2)], ([], G x m))) rfl rfl ?_
    refine wpg (fun t2 => Wp X (d + 1) 110 (59, ([some (vp 12 0), some (vi t2), some (vi l2)], ([], G x m))) Q) (l1 + (-1)) (fun t2 ht2 => ?_)
    have h := h t2 ht2
    refine wp_run 1 true (7, ([some (vp 12 0), some (vi t2), some (vi l2)], ([], G x m))) rfl rfl ?_
    exact h
  · have h := h.2 c1
    refine wp_run 1 true (24, ([some (vp 12 0), some (vi l1), some (vi l2)], ([vi l2], G x m))) rfl rfl ?_
    refine wp_call 329 [vi l2] (27, ([some (vp 12 0), some (vi l1), some (vi l2)], ([], G x m))) rfl rfl (Cl.mono h (Nat.le_refl _) ?_)
    rintro r ⟨v3, m4, rfl, h⟩
    · show Wp X (d + 1) 110 (27, ([some (vp 12 0), some (vi l1), some (vi l2)], ([vi v3], G x m4))) Q
      refine wp_run 2 true ((bif decide (l1 < v3) then 50 else 31), ([some (vp 12 0), some (vi l1), some (vi l2)], ([], G x m4))) rfl rfl ?_
      refine wp_if (l1 < v3) (fun c5 => ?_) (fun c5 => ?_)
      · have h := h.1 c5
        refine wp_run 1 true (53, ([some (vp 12 0), some (vi l1), some (vi (l2 + 1))], ([], G x m4))) rfl rfl ?_
        refine wpg (fun t6 => Wp X (d + 1) 110 (53, ([some (vp 12 0), some (vi l1), some (vi t6)], ([], G x m4))) Q) (l2 + 1) (fun t6 ht6 => ?_)
        have h := h t6 ht6
        refine wp_run 1 true (13, ([some (vp 12 0), some (vi l1), some (vi t6)], ([], G x m4))) rfl rfl ?_
        exact h
      · have h := h.2 c5
        obtain ⟨hg4_0, h⟩ := h
        refine wp_run 11 (inb ((m4 12 0 5) - l1) 7 && true) (46, ([some (vp 12 0), some (vi l1), some (vi l2)], ([vi l2, vi l1, vp 12 0, vi l2, vp 18 (((m4 12 0 5) - l1).toNatClampNeg)], G x m4))) rfl (and_t hg4_0 rfl) ?_
        refine wp_call 111 [vp 12 0, vi l1, vi l2] (49, ([some (vp 12 0), some (vi l1), some (vi l2)], ([vi l2, vp 18 (((m4 12 0 5) - l1).toNatClampNeg)], G x m4))) rfl rfl (Cl.mono h (Nat.le_refl _) ?_)
        rintro r ⟨v7, m8, rfl, h⟩
        · show Wp X (d + 1) 110 (49, ([some (vp 12 0), some (vi l1), some (vi l2)], ([vi v7, vi l2, vp 18 (((m4 12 0 5) - l1).toNatClampNeg)], G x m8))) Q
          obtain ⟨hg5_0, h⟩ := h
          refine wp_run 1 (inb l2 1024 && true) (50, ([some (vp 12 0), some (vi l1), some (vi l2)], ([], G x (mup m8 18 (((m4 12 0 5) - l1).toNatClampNeg) (l2.toNatClampNeg) v7)))) rfl (and_t hg5_0 rfl) ?_
          refine wpg (fun m9 => Wp X (d + 1) 110 (50, ([some (vp 12 0), some (vi l1), some (vi l2)], ([], G x m9))) Q) (mup m8 18 (((m4 12 0 5) - l1).toNatClampNeg) (l2.toNatClampNeg) v7) (fun m9 hm9 => ?_)
          have h := h m9 hm9
          refine wp_run 1 true (53, ([some (vp 12 0), some (vi l1), some (vi (l2 + 1))], ([], G x m9))) rfl rfl ?_
          refine wpg (fun t10 => Wp X (d + 1) 110 (53, ([some (vp 12 0), some (vi l1), some (vi t10)], ([], G x m9))) Q) (l2 + 1) (fun t10 ht10 => ?_)
          have h := h t10 ht10
          refine wp_run 1 true (13, ([some (vp 12 0), some (vi l1), some (vi t10)], ([], G x m9))) rfl rfl ?_
          exact h
set_option maxRecDepth 100000 in
set_option maxHeartbeats 4000000 in
theorem vc_X6_bestWeight {X : MX} {d : Nat} {x : Int64 × UInt64} {m : MI} {Q : MRes → Prop} {p0 : Int32} {p1 : Int32} (h : (inb (((m 12 0 5) - p0) - 1) 7 = true ∧ inb p1 1024 = true ∧ (∀ t1 : Int32, t1 = m 18 ((((m 12 0 5) - p0) - 1).toNatClampNeg) p1.toNatClampNeg → Wp X (d + 1) 111 (19, ([some (vp 12 0), some (vi p0), some (vi p1), some (vi t1), some (vi 0)], ([], G x m))) Q))) : Cl X (d + 1) 111 [vp 12 0, vi p0, vi p1] (G x m) Q := by
  show Wp X (d + 1) 111 (0, ([some (vp 12 0), some (vi p0), some (vi p1), none, none], ([], G x m))) Q
  obtain ⟨hg1_0, hg1_1, h⟩ := h
  refine wp_run 12 (inb p1 1024 && (inb (((m 12 0 5) - p0) - 1) 7 && true)) (16, ([some (vp 12 0), some (vi p0), some (vi p1), some (vi (m 18 ((((m 12 0 5) - p0) - 1).toNatClampNeg) p1.toNatClampNeg)), none], ([], G x m))) rfl (and_t hg1_1 (and_t hg1_0 rfl)) ?_
  refine wpg (fun t1 => Wp X (d + 1) 111 (16, ([some (vp 12 0), some (vi p0), some (vi p1), some (vi t1), none], ([], G x m))) Q) (m 18 ((((m 12 0 5) - p0) - 1).toNatClampNeg) p1.toNatClampNeg) (fun t1 ht1 => ?_)
  have h := h t1 ht1
  refine wp_run 2 true (19, ([some (vp 12 0), some (vi p0), some (vi p1), some (vi t1), some (vi 0)], ([], G x m))) rfl rfl ?_
  exact h
set_option maxRecDepth 100000 in
set_option maxHeartbeats 4000000 in
theorem vl_X6_bestWeight_19 {X : MX} {d : Nat} {x : Int64 × UInt64} {m : MI} {Q : MRes → Prop} {l1 : Int32} {l2 : Int32} {l3 : Int32} {l4 : Int32} (h : (((m 12 0 6) ≤ l4 → Q (.inl (some (vi l3)), G x m)) ∧ (¬ ((m 12 0 6) ≤ l4) → Cl X d 112 [vp 12 0, vi l1, vi l4, vi l2] (G x m) (fun r => ∃ (v2 : Int32) (m3 : MI), r = (.inl (some (vi v2)), G x m3) ∧ ((v2 = 0 → (∀ t5 : Int32, t5 = l4 + 1 → Wp X (d + 1) 111 (19, ([some (vp 12 0), some (vi l1), some (vi l2), some (vi l3), some (vi t5)], ([], G x m3))) Q)) ∧ (¬ (v2 = 0) → Cl X d 113 [vp 12 0, vi l1, vi l4, vi l2] (G x m3) (fun r => ∃ (v6 : Int32) (m7 : MI), r = (.inl (some (vi v6)), G x m7) ∧ (∀ t8 : Int32, t8 = (if l3 < v6 then v6 else l3) → (∀ t9 : Int32, t9 = l4 + 1 → Wp X (d + 1) 111 (19, ([some (vp 12 0), some (vi l1), some (vi l2), some (vi t8), some (vi t9)], ([], G x m7))) Q))))))))) : Wp X (d + 1) 111 (19, ([some (vp 12 0), some (vi l1), some (vi l2), some (vi l3), some (vi l4)], ([], G x m))) Q := by
  refine wp_run 4 true ((bif decide ((m 12 0 6) ≤ l4) then 58 else 28), ([some (vp 12 0), some (vi l1), some (vi l2), some (vi l3), some (vi l4)], ([], G x m))) rfl rfl ?_
  refine wp_if ((m 12 0 6) ≤ l4) (fun c1 => ?_) (fun c1 => ?_)
  · have h := h.1 c1
    refine wp_run 1 true (59, ([some (vp 12 0), some (vi l1), some (vi l2), some (vi l3), some (vi l4)], ([vi l3], G x m))) rfl rfl ?_
    exact wp_ret rfl h
  · have h := h.2 c1
    refine wp_run 4 true (33, ([some (vp 12 0), some (vi l1), some (vi l2), some (vi l3), some (vi l4)], ([vi l2, vi l4, vi l1, vp 12 0], G x m))) rfl rfl ?_
    refine wp_call 112 [vp 12 0, vi l1, vi l4, vi l2] (36, ([some (vp 12 0), some (vi l1), some (vi l2), some (vi l3), some (vi l4)], ([], G x m))) rfl rfl (Cl.mono h (Nat.le_refl _) ?_)
    rintro r ⟨v2, m3, rfl, h⟩
    · show Wp X (d + 1) 111 (36, ([some (vp 12 0), some (vi l1), some (vi l2), some (vi l3), some (vi l4)], ([vi v2], G x m3))) Q
      refine wp_run 1 true ((bif decide (v2 = 0) then 52 else 39), ([some (vp 12 0), some (vi l1), some (vi l2), some (vi l3), some (vi l4)], ([], G x m3))) rfl rfl ?_
      refine wp_if (v2 = 0) (fun c4 => ?_) (fun c4 => ?_)
      · have h := h.1 c4
        refine wp_run 1 true (55, ([some (vp 12 0), some (vi l1), some (vi l2), some (vi l3), some (vi (l4 + 1))], ([], G x m3))) rfl rfl ?_
        refine wpg (fun t5 => Wp X (d + 1) 111 (55, ([some (vp 12 0), some (vi l1), some (vi l2), some (vi l3), some (vi t5)], ([], G x m3))) Q) (l4 + 1) (fun t5 ht5 => ?_)
        have h := h t5 ht5
        refine wp_run 1 true (19, ([some (vp 12 0), some (vi l1), some (vi l2), some (vi l3), some (vi t5)], ([], G x m3))) rfl rfl ?_
        exact h
      · have h := h.2 c4
        refine wp_run 5 true (45, ([some (vp 12 0), some (vi l1), some (vi l2), some (vi l3), some (vi l4)], ([vi l2, vi l4, vi l1, vp 12 0, vi l3], G x m3))) rfl rfl ?_
        refine wp_call 113 [vp 12 0, vi l1, vi l4, vi l2] (48, ([some (vp 12 0), some (vi l1), some (vi l2), some (vi l3), some (vi l4)], ([vi l3], G x m3))) rfl rfl (Cl.mono h (Nat.le_refl _) ?_)
        rintro r ⟨v6, m7, rfl, h⟩
        · show Wp X (d + 1) 111 (48, ([some (vp 12 0), some (vi l1), some (vi l2), some (vi l3), some (vi l4)], ([vi v6, vi l3], G x m7))) Q
          refine wp_run 2 true (52, ([some (vp 12 0), some (vi l1), some (vi l2), some (vi (if l3 < v6 then v6 else l3)), some (vi l4)], ([], G x m7))) rfl rfl ?_
          refine wpg (fun t8 => Wp X (d + 1) 111 (52, ([some (vp 12 0), some (vi l1), some (vi l2), some (vi t8), some (vi l4)], ([], G x m7))) Q) (if l3 < v6 then v6 else l3) (fun t8 ht8 => ?_)
          have h := h t8 ht8
          refine wp_run 1 true (55, ([some (vp 12 0), some (vi l1), some (vi l2), some (vi t8), some (vi (l4 + 1))], ([], G x m7))) rfl rfl ?_
          refine wpg (fun t9 => Wp X (d + 1) 111 (55, ([some (vp 12 0), some (vi l1), some (vi l2), some (vi t8), some (vi t9)], ([], G x m7))) Q) (l4 + 1) (fun t9 ht9 => ?_)
          have h := h t9 ht9
          refine wp_run 1 true (19, ([some (vp 12 0), some (vi l1), some (vi l2), some (vi t8), some (vi t9)], ([], G x m7))) rfl rfl ?_
          exact h
set_option maxRecDepth 100000 in
set_option maxHeartbeats 4000000 in
theorem vc_X6_isFree {X : MX} {d : Nat} {x : Int64 × UInt64} {m : MI} {Q : MRes → Prop} {p0 : Int32} {p1 : Int32} {p2 : Int32} (h : (inb p0 6 = true ∧ inb p1 10 = true ∧ (((m 14 (p0.toNatClampNeg) p1.toNatClampNeg) < 0 → Q (.inl (some (vi 0)), G x m)) ∧ (¬ ((m 14 (p0.toNatClampNeg) p1.toNatClampNeg) < 0) → ((¬ ((p2 >>> (p1 &&& 31)) &&& 1) = 0 → Q (.inl (some (vi 0)), G x m)) ∧ (¬ (¬ ((p2 >>> (p1 &&& 31)) &&& 1) = 0) → Q (.inl (some (vi 1)), G x m))))))) : Cl X d 112 [vp 12 0, vi p0, vi p1, vi p2] (G x m) Q := by
  show Wp X d 112 (0, ([some (vp 12 0), some (vi p0), some (vi p1), some (vi p2)], ([], G x m))) Q
  obtain ⟨hg1_0, hg1_1, h⟩ := h
  refine wp_run 7 (inb p1 10 && (inb p0 6 && true)) ((bif decide ((m 14 (p0.toNatClampNeg) p1.toNatClampNeg) < 0) then 23 else 11), ([some (vp 12 0), some (vi p0), some (vi p1), some (vi p2)], ([], G x m))) rfl (and_t hg1_1 (and_t hg1_0 rfl)) ?_
  refine wp_if ((m 14 (p0.toNatClampNeg) p1.toNatClampNeg) < 0) (fun c1 => ?_) (fun c1 => ?_)
  · have h := h.1 c1
    refine wp_run 1 true (24, ([some (vp 12 0), some (vi p0), some (vi p1), some (vi p2)], ([vi 0], G x m))) rfl rfl ?_
    exact wp_ret rfl h
  · have h := h.2 c1
    refine wp_run 6 true ((bif decide (¬ ((p2 >>> (p1 &&& 31)) &&& 1) = 0) then 23 else 19), ([some (vp 12 0), some (vi p0), some (vi p1), some (vi p2)], ([], G x m))) rfl rfl ?_
    refine wp_if (¬ ((p2 >>> (p1 &&& 31)) &&& 1) = 0) (fun c2 => ?_) (fun c2 => ?_)
    · have h := h.1 c2
      refine wp_run 1 true (24, ([some (vp 12 0), some (vi p0), some (vi p1), some (vi p2)], ([vi 0], G x m))) rfl rfl ?_
      exact wp_ret rfl h
    · have h := h.2 c2
      refine wp_run 2 true (24, ([some (vp 12 0), some (vi p0), some (vi p1), some (vi p2)], ([vi 1], G x m))) rfl rfl ?_
      exact wp_ret rfl h
set_option maxRecDepth 100000 in
set_option maxHeartbeats 4000000 in
theorem vc_X6_weightWith {X : MX} {d : Nat} {x : Int64 × UInt64} {m : MI} {Q : MRes → Prop} {p0 : Int32} {p1 : Int32} {p2 : Int32} (h : (inb p0 6 = true ∧ inb p0 6 = true ∧ inb p1 10 = true ∧ inb (((m 12 0 5) - p0) - 1) 7 = true ∧ inb (p2 ||| ((1 : Int32) <<< (p1 &&& 31))) 1024 = true ∧ Q (.inl (some (vi ((((m 15 0 p0.toNatClampNeg) * 100000) - (m 14 (p0.toNatClampNeg) p1.toNatClampNeg)) + (m 18 ((((m 12 0 5) - p0) - 1).toNatClampNeg) (p2 ||| ((1 : Int32) <<< (p1 &&& 31))).toNatClampNeg)))), G x m))) : Cl X d 113 [vp 12 0, vi p0, vi p1, vi p2] (G x m) Q := by
  show Wp X d 113 (0, ([some (vp 12 0), some (vi p0), some (vi p1), some (vi p2)], ([], G x m))) Q
  obtain ⟨hg1_0, hg1_1, hg1_2, hg1_3, hg1_4, h⟩ := h
  refine wp_run 29 (inb (p2 ||| ((1 : Int32) <<< (p1 &&& 31))) 1024 && (inb (((m 12 0 5) - p0) - 1) 7 && (inb p1 10 && (inb p0 6 && (inb p0 6 && true))))) (38, ([some (vp 12 0), some (vi p0), some (vi p1), some (vi p2)], ([vi ((((m 15 0 p0.toNatClampNeg) * 100000) - (m 14 (p0.toNatClampNeg) p1.toNatClampNeg)) + (m 18 ((((m 12 0 5) - p0) - 1).toNatClampNeg) (p2 ||| ((1 : Int32) <<< (p1 &&& 31))).toNatClampNeg))], G x m))) rfl (and_t hg1_4 (and_t hg1_3 (and_t hg1_2 (and_t hg1_1 (and_t hg1_0 rfl))))) ?_
  exact wp_ret rfl h
set_option maxRecDepth 100000 in
set_option maxHeartbeats 4000000 in
theorem vc_X6_choose {X : MX} {d : Nat} {x : Int64 × UInt64} {m : MI} {Q : MRes → Prop} (h : Wp X (d + 1) 114 (4, ([some (vp 12 0), some (vi 0), some (vi 0)], ([], G x m))) Q) : Cl X (d + 1) 114 [vp 12 0] (G x m) Q := by
  show Wp X (d + 1) 114 (0, ([some (vp 12 0), none, none], ([], G x m))) Q
  refine wp_run 4 true (4, ([some (vp 12 0), some (vi 0), some (vi 0)], ([], G x m))) rfl rfl ?_
  exact h
set_option maxRecDepth 100000 in
set_option maxHeartbeats 4000000 in
theorem vl_X6_choose_4 {X : MX} {d : Nat} {x : Int64 × UInt64} {m : MI} {Q : MRes → Prop} {l1 : Int32} {l2 : Int32} (h : (((m 12 0 5) ≤ l2 → Q (.inl none, G x m)) ∧ (¬ ((m 12 0 5) ≤ l2) → Cl X d 115 [vp 12 0, vi l2, vi l1] (G x m) (fun r => ∃ (v2 : Int32) (m3 : MI), r = (.inl (some (vi v2)), G x m3) ∧ (inb l2 6 = true ∧ (∀ m4 : MI, m4 = mup m3 19 0 (l2.toNatClampNeg) v2 → (inb l2 6 = true ∧ (((m4 19 0 l2.toNatClampNeg) < 0 → (∀ t6 : Int32, t6 = l2 + 1 → Wp X (d + 1) 114 (4, ([some (vp 12 0), some (vi l1), some (vi t6)], ([], G x m4))) Q)) ∧ (¬ ((m4 19 0 l2.toNatClampNeg) < 0) → (inb l2 6 = true ∧ (∀ t7 : Int32, t7 = l1 ||| ((1 : Int32) <<< ((m4 19 0 l2.toNatClampNeg) &&& 31)) → (∀ t8 : Int32, t8 = l2 + 1 → Wp X (d + 1) 114 (4, ([some (vp 12 0), some (vi t7), some (vi t8)], ([], G x m4))) Q)))))))))))) : Wp X (d + 1) 114 (4, ([some (vp 12 0), some (vi l1), some (vi l2)], ([], G x m))) Q := by
  refine wp_run 4 true ((bif decide ((m 12 0 5) ≤ l2) then 50 else 12), ([some (vp 12 0), some (vi l1), some (vi l2)], ([], G x m))) rfl rfl ?_
  refine wp_if ((m 12 0 5) ≤ l2) (fun c1 => ?_) (fun c1 => ?_)
  · have h := h.1 c1
    exact wp_ret rfl h
  · have h := h.2 c1
    refine wp_run 6 true (20, ([some (vp 12 0), some (vi l1), some (vi l2)], ([vi l1, vi l2, vp 12 0, vi l2, vp 19 0], G x m))) rfl rfl ?_
    refine wp_call 115 [vp 12 0, vi l2, vi l1] (23, ([some (vp 12 0), some (vi l1), some (vi l2)], ([vi l2, vp 19 0], G x m))) rfl rfl (Cl.mono h (Nat.le_refl _) ?_)
    rintro r ⟨v2, m3, rfl, h⟩
    · show Wp X (d + 1) 114 (23, ([some (vp 12 0), some (vi l1), some (vi l2)], ([vi v2, vi l2, vp 19 0], G x m3))) Q
      obtain ⟨hg3_0, h⟩ := h
      refine wp_run 1 (inb l2 6 && true) (24, ([some (vp 12 0), some (vi l1), some (vi l2)], ([], G x (mup m3 19 0 (l2.toNatClampNeg) v2)))) rfl (and_t hg3_0 rfl) ?_
      refine wpg (fun m4 => Wp X (d + 1) 114 (24, ([some (vp 12 0), some (vi l1), some (vi l2)], ([], G x m4))) Q) (mup m3 19 0 (l2.toNatClampNeg) v2) (fun m4 hm4 => ?_)
      have h := h m4 hm4
      obtain ⟨hg3_0, h⟩ := h
      refine wp_run 5 (inb l2 6 && true) ((bif decide ((m4 19 0 l2.toNatClampNeg) < 0) then 44 else 33), ([some (vp 12 0), some (vi l1), some (vi l2)], ([], G x m4))) rfl (and_t hg3_0 rfl) ?_
      refine wp_if ((m4 19 0 l2.toNatClampNeg) < 0) (fun c5 => ?_) (fun c5 => ?_)
      · have h := h.1 c5
        refine wp_run 1 true (47, ([some (vp 12 0), some (vi l1), some (vi (l2 + 1))], ([], G x m4))) rfl rfl ?_
        refine wpg (fun t6 => Wp X (d + 1) 114 (47, ([some (vp 12 0), some (vi l1), some (vi t6)], ([], G x m4))) Q) (l2 + 1) (fun t6 ht6 => ?_)
        have h := h t6 ht6
        refine wp_run 1 true (4, ([some (vp 12 0), some (vi l1), some (vi t6)], ([], G x m4))) rfl rfl ?_
        exact h
      · have h := h.2 c5
        obtain ⟨hg4_0, h⟩ := h
        refine wp_run 9 (inb l2 6 && true) (44, ([some (vp 12 0), some (vi (l1 ||| ((1 : Int32) <<< ((m4 19 0 l2.toNatClampNeg) &&& 31)))), some (vi l2)], ([], G x m4))) rfl (and_t hg4_0 rfl) ?_
        refine wpg (fun t7 => Wp X (d + 1) 114 (44, ([some (vp 12 0), some (vi t7), some (vi l2)], ([], G x m4))) Q) (l1 ||| ((1 : Int32) <<< ((m4 19 0 l2.toNatClampNeg) &&& 31))) (fun t7 ht7 => ?_)
        have h := h t7 ht7
        refine wp_run 1 true (47, ([some (vp 12 0), some (vi t7), some (vi (l2 + 1))], ([], G x m4))) rfl rfl ?_
        refine wpg (fun t8 => Wp X (d + 1) 114 (47, ([some (vp 12 0), some (vi t7), some (vi t8)], ([], G x m4))) Q) (l2 + 1) (fun t8 ht8 => ?_)
        have h := h t8 ht8
        refine wp_run 1 true (4, ([some (vp 12 0), some (vi t7), some (vi t8)], ([], G x m4))) rfl rfl ?_
        exact h
set_option maxRecDepth 100000 in
set_option maxHeartbeats 4000000 in
theorem vc_X6_firstBest {X : MX} {d : Nat} {x : Int64 × UInt64} {m : MI} {Q : MRes → Prop} {p0 : Int32} {p1 : Int32} (h : (inb ((m 12 0 5) - p0) 7 = true ∧ inb p1 1024 = true ∧ (∀ t1 : Int32, t1 = m 18 (((m 12 0 5) - p0).toNatClampNeg) p1.toNatClampNeg → Wp X (d + 1) 115 (17, ([some (vp 12 0), some (vi p0), some (vi p1), some (vi t1), some (vi 0)], ([], G x m))) Q))) : Cl X (d + 1) 115 [vp 12 0, vi p0, vi p1] (G x m) Q := by
  show Wp X (d + 1) 115 (0, ([some (vp 12 0), some (vi p0), some (vi p1), none, none], ([], G x m))) Q
  obtain ⟨hg1_0, hg1_1, h⟩ := h
  refine wp_run 10 (inb p1 1024 && (inb ((m 12 0 5) - p0) 7 && true)) (14, ([some (vp 12 0), some (vi p0), some (vi p1), some (vi (m 18 (((m 12 0 5) - p0).toNatClampNeg) p1.toNatClampNeg)), none], ([], G x m))) rfl (and_t hg1_1 (and_t hg1_0 rfl)) ?_
  refine wpg (fun t1 => Wp X (d + 1) 115 (14, ([some (vp 12 0), some (vi p0), some (vi p1), some (vi t1), none], ([], G x m))) Q) (m 18 (((m 12 0 5) - p0).toNatClampNeg) p1.toNatClampNeg) (fun t1 ht1 => ?_)
  have h := h t1 ht1
  refine wp_run 2 true (17, ([some (vp 12 0), some (vi p0), some (vi p1), some (vi t1), some (vi 0)], ([], G x m))) rfl rfl ?_
  exact h
set_option maxRecDepth 100000 in
set_option maxHeartbeats 4000000 in
theorem vl_X6_firstBest_17 {X : MX} {d : Nat} {x : Int64 × UInt64} {m : MI} {Q : MRes → Prop} {l1 : Int32} {l2 : Int32} {l3 : Int32} {l4 : Int32} (h : (((m 12 0 6) ≤ l4 → Q (.inl (some (vi (-1))), G x m)) ∧ (¬ ((m 12 0 6) ≤ l4) → Cl X d 112 [vp 12 0, vi l1, vi l4, vi l2] (G x m) (fun r => ∃ (v2 : Int32) (m3 : MI), r = (.inl (some (vi v2)), G x m3) ∧ ((v2 = 0 → (∀ t5 : Int32, t5 = l4 + 1 → Wp X (d + 1) 115 (17, ([some (vp 12 0), some (vi l1), some (vi l2), some (vi l3), some (vi t5)], ([], G x m3))) Q)) ∧ (¬ (v2 = 0) → Cl X d 113 [vp 12 0, vi l1, vi l4, vi l2] (G x m3) (fun r => ∃ (v6 : Int32) (m7 : MI), r = (.inl (some (vi v6)), G x m7) ∧ ((¬ v6 = l3 → (∀ t9 : Int32, t9 = l4 + 1 → Wp X (d + 1) 115 (17, ([some (vp 12 0), some (vi l1), some (vi l2), some (vi l3), some (vi t9)], ([], G x m7))) Q)) ∧ (¬ (¬ v6 = l3) → Q (.inl (some (vi l4)), G x m7)))))))))) : Wp X (d + 1) 115 (17, ([some (vp 12 0), some (vi l1), some (vi l2), some (vi l3), some (vi l4)], ([], G x m))) Q := by
  refine wp_run 4 true ((bif decide ((m 12 0 6) ≤ l4) then 58 else 26), ([some (vp 12 0), some (vi l1), some (vi l2), some (vi l3), some (vi l4)], ([], G x m))) rfl rfl ?_
  refine wp_if ((m 12 0 6) ≤ l4) (fun c1 => ?_) (fun c1 => ?_)
  · have h := h.1 c1
    refine wp_run 1 true (59, ([some (vp 12 0), some (vi l1), some (vi l2), some (vi l3), some (vi l4)], ([vi (-1)], G x m))) rfl rfl ?_
    exact wp_ret rfl h
  · have h := h.2 c1
    refine wp_run 4 true (31, ([some (vp 12 0), some (vi l1), some (vi l2), some (vi l3), some (vi l4)], ([vi l2, vi l4, vi l1, vp 12 0], G x m))) rfl rfl ?_
    refine wp_call 112 [vp 12 0, vi l1, vi l4, vi l2] (34, ([some (vp 12 0), some (vi l1), some (vi l2), some (vi l3), some (vi l4)], ([], G x m))) rfl rfl (Cl.mono h (Nat.le_refl _) ?_)
    rintro r ⟨v2, m3, rfl, h⟩
    · show Wp X (d + 1) 115 (34, ([some (vp 12 0), some (vi l1), some (vi l2), some (vi l3), some (vi l4)], ([vi v2], G x m3))) Q
      refine wp_run 1 true ((bif decide (v2 = 0) then 52 else 37), ([some (vp 12 0), some (vi l1), some (vi l2), some (vi l3), some (vi l4)], ([], G x m3))) rfl rfl ?_
      refine wp_if (v2 = 0) (fun c4 => ?_) (fun c4 => ?_)
      · have h := h.1 c4
        refine wp_run 1 true (55, ([some (vp 12 0), some (vi l1), some (vi l2), some (vi l3), some (vi (l4 + 1))], ([], G x m3))) rfl rfl ?_
        refine wpg (fun t5 => Wp X (d + 1) 115 (55, ([some (vp 12 0), some (vi l1), some (vi l2), some (vi l3), some (vi t5)], ([], G x m3))) Q) (l4 + 1) (fun t5 ht5 => ?_)
        have h := h t5 ht5
        refine wp_run 1 true (17, ([some (vp 12 0), some (vi l1), some (vi l2), some (vi l3), some (vi t5)], ([], G x m3))) rfl rfl ?_
        exact h
      · have h := h.2 c4
        refine wp_run 4 true (42, ([some (vp 12 0), some (vi l1), some (vi l2), some (vi l3), some (vi l4)], ([vi l2, vi l4, vi l1, vp 12 0], G x m3))) rfl rfl ?_
        refine wp_call 113 [vp 12 0, vi l1, vi l4, vi l2] (45, ([some (vp 12 0), some (vi l1), some (vi l2), some (vi l3), some (vi l4)], ([], G x m3))) rfl rfl (Cl.mono h (Nat.le_refl _) ?_)
        rintro r ⟨v6, m7, rfl, h⟩
        · show Wp X (d + 1) 115 (45, ([some (vp 12 0), some (vi l1), some (vi l2), some (vi l3), some (vi l4)], ([vi v6], G x m7))) Q
          refine wp_run 2 true ((bif decide (¬ v6 = l3) then 52 else 49), ([some (vp 12 0), some (vi l1), some (vi l2), some (vi l3), some (vi l4)], ([], G x m7))) rfl rfl ?_
          refine wp_if (¬ v6 = l3) (fun c8 => ?_) (fun c8 => ?_)
          · have h := h.1 c8
            refine wp_run 1 true (55, ([some (vp 12 0), some (vi l1), some (vi l2), some (vi l3), some (vi (l4 + 1))], ([], G x m7))) rfl rfl ?_
            refine wpg (fun t9 => Wp X (d + 1) 115 (55, ([some (vp 12 0), some (vi l1), some (vi l2), some (vi l3), some (vi t9)], ([], G x m7))) Q) (l4 + 1) (fun t9 ht9 => ?_)
            have h := h t9 ht9
            refine wp_run 1 true (17, ([some (vp 12 0), some (vi l1), some (vi l2), some (vi l3), some (vi t9)], ([], G x m7))) rfl rfl ?_
            exact h
          · have h := h.2 c8
            refine wp_run 1 true (51, ([some (vp 12 0), some (vi l1), some (vi l2), some (vi l3), some (vi l4)], ([vi l4], G x m7))) rfl rfl ?_
            exact wp_ret rfl h
set_option maxRecDepth 100000 in
set_option maxHeartbeats 4000000 in
theorem vc_X6_rewardSum {X : MX} {d : Nat} {x : Int64 × UInt64} {m : MI} {Q : MRes → Prop} (h : Wp X d 116 (4, ([some (vp 12 0), some (vi 0), some (vi 0)], ([], G x m))) Q) : Cl X d 116 [vp 12 0] (G x m) Q := by
  show Wp X d 116 (0, ([some (vp 12 0), none, none], ([], G x m))) Q
  refine wp_run 4 true (4, ([some (vp 12 0), some (vi 0), some (vi 0)], ([], G x m))) rfl rfl ?_
  exact h
set_option maxRecDepth 100000 in
set_option maxHeartbeats 4000000 in
theorem vl_X6_rewardSum_4 {X : MX} {d : Nat} {x : Int64 × UInt64} {m : MI} {Q : MRes → Prop} {l1 : Int32} {l2 : Int32} (h : (((m 12 0 5) ≤ l2 → Q (.inl (some (vi l1)), G x m)) ∧ (¬ ((m 12 0 5) ≤ l2) → (inb l2 6 = true ∧ (((m 19 0 l2.toNatClampNeg) < 0 → (∀ t3 : Int32, t3 = l2 + 1 → Wp X d 116 (4, ([some (vp 12 0), some (vi l1), some (vi t3)], ([], G x m))) Q)) ∧ (¬ ((m 19 0 l2.toNatClampNeg) < 0) → (inb l2 6 = true ∧ (∀ t4 : Int32, t4 = l1 + (m 15 0 l2.toNatClampNeg) → (∀ t5 : Int32, t5 = l2 + 1 → Wp X d 116 (4, ([some (vp 12 0), some (vi t4), some (vi t5)], ([], G x m))) Q))))))))) : Wp X d 116 (4, ([some (vp 12 0), some (vi l1), some (vi l2)], ([], G x m))) Q := by
  refine wp_run 4 true ((bif decide ((m 12 0 5) ≤ l2) then 36 else 12), ([some (vp 12 0), some (vi l1), some (vi l2)], ([], G x m))) rfl rfl ?_
  refine wp_if ((m 12 0 5) ≤ l2) (fun c1 => ?_) (fun c1 => ?_)
  · have h := h.1 c1
    refine wp_run 1 true (37, ([some (vp 12 0), some (vi l1), some (vi l2)], ([vi l1], G x m))) rfl rfl ?_
    exact wp_ret rfl h
  · have h := h.2 c1
    obtain ⟨hg2_0, h⟩ := h
    refine wp_run 5 (inb l2 6 && true) ((bif decide ((m 19 0 l2.toNatClampNeg) < 0) then 30 else 21), ([some (vp 12 0), some (vi l1), some (vi l2)], ([], G x m))) rfl (and_t hg2_0 rfl) ?_
    refine wp_if ((m 19 0 l2.toNatClampNeg) < 0) (fun c2 => ?_) (fun c2 => ?_)
    · have h := h.1 c2
      refine wp_run 1 true (33, ([some (vp 12 0), some (vi l1), some (vi (l2 + 1))], ([], G x m))) rfl rfl ?_
      refine wpg (fun t3 => Wp X d 116 (33, ([some (vp 12 0), some (vi l1), some (vi t3)], ([], G x m))) Q) (l2 + 1) (fun t3 ht3 => ?_)
      have h := h t3 ht3
      refine wp_run 1 true (4, ([some (vp 12 0), some (vi l1), some (vi t3)], ([], G x m))) rfl rfl ?_
      exact h
    · have h := h.2 c2
      obtain ⟨hg3_0, h⟩ := h
      refine wp_run 7 (inb l2 6 && true) (30, ([some (vp 12 0), some (vi (l1 + (m 15 0 l2.toNatClampNeg))), some (vi l2)], ([], G x m))) rfl (and_t hg3_0 rfl) ?_
      refine wpg (fun t4 => Wp X d 116 (30, ([some (vp 12 0), some (vi t4), some (vi l2)], ([], G x m))) Q) (l1 + (m 15 0 l2.toNatClampNeg)) (fun t4 ht4 => ?_)
      have h := h t4 ht4
      refine wp_run 1 true (33, ([some (vp 12 0), some (vi t4), some (vi (l2 + 1))], ([], G x m))) rfl rfl ?_
      refine wpg (fun t5 => Wp X d 116 (33, ([some (vp 12 0), some (vi t4), some (vi t5)], ([], G x m))) Q) (l2 + 1) (fun t5 ht5 => ?_)
      have h := h t5 ht5
      refine wp_run 1 true (4, ([some (vp 12 0), some (vi t4), some (vi t5)], ([], G x m))) rfl rfl ?_
      exact h
set_option maxRecDepth 100000 in
set_option maxHeartbeats 4000000 in
theorem vc_X6_distanceSum {X : MX} {d : Nat} {x : Int64 × UInt64} {m : MI} {Q : MRes → Prop} (h : Wp X d 117 (4, ([some (vp 12 0), some (vi 0), some (vi 0)], ([], G x m))) Q) : Cl X d 117 [vp 12 0] (G x m) Q := by
  show Wp X d 117 (0, ([some (vp 12 0), none, none], ([], G x m))) Q
  refine wp_run 4 true (4, ([some (vp 12 0), some (vi 0), some (vi 0)], ([], G x m))) rfl rfl ?_
  exact h
set_option maxRecDepth 100000 in
set_option maxHeartbeats 4000000 in
theorem vl_X6_distanceSum_4 {X : MX} {d : Nat} {x : Int64 × UInt64} {m : MI} {Q : MRes → Prop} {l1 : Int32} {l2 : Int32} (h : (((m 12 0 5) ≤ l2 → Q (.inl (some (vi l1)), G x m)) ∧ (¬ ((m 12 0 5) ≤ l2) → (inb l2 6 = true ∧ (((m 19 0 l2.toNatClampNeg) < 0 → (∀ t3 : Int32, t3 = l2 + 1 → Wp X d 117 (4, ([some (vp 12 0), some (vi l1), some (vi t3)], ([], G x m))) Q)) ∧ (¬ ((m 19 0 l2.toNatClampNeg) < 0) → (inb l2 6 = true ∧ inb l2 6 = true ∧ inb (m 19 0 l2.toNatClampNeg) 10 = true ∧ (∀ t4 : Int32, t4 = l1 + (m 14 (l2.toNatClampNeg) (m 19 0 l2.toNatClampNeg).toNatClampNeg) → (∀ t5 : Int32, t5 = l2 + 1 → Wp X d 117 (4, ([some (vp 12 0), some (vi t4), some (vi t5)], ([], G x m))) Q))))))))) : Wp X d 117 (4, ([some (vp 12 0), some (vi l1), some (vi l2)], ([], G x m))) Q := by
  refine wp_run 4 true ((bif decide ((m 12 0 5) ≤ l2) then 43 else 12), ([some (vp 12 0), some (vi l1), some (vi l2)], ([], G x m))) rfl rfl ?_
  refine wp_if ((m 12 0 5) ≤ l2) (fun c1 => ?_) (fun c1 => ?_)
  · have h := h.1 c1
    refine wp_run 1 true (44, ([some (vp 12 0), some (vi l1), some (vi l2)], ([vi l1], G x m))) rfl rfl ?_
    exact wp_ret rfl h
  · have h := h.2 c1
    obtain ⟨hg2_0, h⟩ := h
    refine wp_run 5 (inb l2 6 && true) ((bif decide ((m 19 0 l2.toNatClampNeg) < 0) then 37 else 21), ([some (vp 12 0), some (vi l1), some (vi l2)], ([], G x m))) rfl (and_t hg2_0 rfl) ?_
    refine wp_if ((m 19 0 l2.toNatClampNeg) < 0) (fun c2 => ?_) (fun c2 => ?_)
    · have h := h.1 c2
      refine wp_run 1 true (40, ([some (vp 12 0), some (vi l1), some (vi (l2 + 1))], ([], G x m))) rfl rfl ?_
      refine wpg (fun t3 => Wp X d 117 (40, ([some (vp 12 0), some (vi l1), some (vi t3)], ([], G x m))) Q) (l2 + 1) (fun t3 ht3 => ?_)
      have h := h t3 ht3
      refine wp_run 1 true (4, ([some (vp 12 0), some (vi l1), some (vi t3)], ([], G x m))) rfl rfl ?_
      exact h
    · have h := h.2 c2
      obtain ⟨hg3_0, hg3_1, hg3_2, h⟩ := h
      refine wp_run 12 (inb (m 19 0 l2.toNatClampNeg) 10 && (inb l2 6 && (inb l2 6 && true))) (37, ([some (vp 12 0), some (vi (l1 + (m 14 (l2.toNatClampNeg) (m 19 0 l2.toNatClampNeg).toNatClampNeg))), some (vi l2)], ([], G x m))) rfl (and_t hg3_2 (and_t hg3_1 (and_t hg3_0 rfl))) ?_
      refine wpg (fun t4 => Wp X d 117 (37, ([some (vp 12 0), some (vi t4), some (vi l2)], ([], G x m))) Q) (l1 + (m 14 (l2.toNatClampNeg) (m 19 0 l2.toNatClampNeg).toNatClampNeg)) (fun t4 ht4 => ?_)
      have h := h t4 ht4
      refine wp_run 1 true (40, ([some (vp 12 0), some (vi t4), some (vi (l2 + 1))], ([], G x m))) rfl rfl ?_
      refine wpg (fun t5 => Wp X d 117 (40, ([some (vp 12 0), some (vi t4), some (vi t5)], ([], G x m))) Q) (l2 + 1) (fun t5 ht5 => ?_)
      have h := h t5 ht5
      refine wp_run 1 true (4, ([some (vp 12 0), some (vi t4), some (vi t5)], ([], G x m))) rfl rfl ?_
      exact h
set_option maxRecDepth 100000 in
set_option maxHeartbeats 4000000 in
theorem vc_X6_carryOut {X : MX} {d : Nat} {x : Int64 × UInt64} {m : MI} {Q : MRes → Prop} {q0 : Nat} (h : (∀ t1 : Int32, t1 = (m 12 0 5) - 1 → Wp X (d + 1) 118 (12, ([some (vp 12 0), some (vp 1 q0), some (vi 0), some (vi 0), some (vi t1)], ([], G x m))) Q)) : Cl X (d + 1) 118 [vp 12 0, vp 1 q0] (G x m) Q := by
  show Wp X (d + 1) 118 (0, ([some (vp 12 0), some (vp 1 q0), none, none, none], ([], G x m))) Q
  refine wp_run 9 true (12, ([some (vp 12 0), some (vp 1 q0), some (vi 0), some (vi 0), some (vi ((m 12 0 5) - 1))], ([], G x m))) rfl rfl ?_
  refine wpg (fun t1 => Wp X (d + 1) 118 (12, ([some (vp 12 0), some (vp 1 q0), some (vi 0), some (vi 0), some (vi t1)], ([], G x m))) Q) ((m 12 0 5) - 1) (fun t1 ht1 => ?_)
  have h := h t1 ht1
  exact h
set_option maxRecDepth 100000 in
set_option maxHeartbeats 4000000 in
theorem vl_X6_carryOut_12 {X : MX} {d : Nat} {x : Int64 × UInt64} {m : MI} {Q : MRes → Prop} {q0 : Nat} {l2 : Int32} {l3 : Int32} {l4 : Int32} (h : ((l4 < 0 → (∀ t2 : Int32, t2 = (m 12 0 6) - 1 → Wp X (d + 1) 118 (76, ([some (vp 12 0), some (vp 1 q0), some (vi l2), some (vi l3), some (vi t2)], ([], G x m))) Q)) ∧ (¬ (l4 < 0) → (inb l4 6 = true ∧ (((m 19 0 l4.toNatClampNeg) < 0 → (∀ t4 : Int32, t4 = l4 + (-1) → Wp X (d + 1) 118 (12, ([some (vp 12 0), some (vp 1 q0), some (vi l2), some (vi l3), some (vi t4)], ([], G x m))) Q)) ∧ (¬ ((m 19 0 l4.toNatClampNeg) < 0) → (inb l4 6 = true ∧ (∀ t5 : Int32, t5 = l2 ||| ((1 : Int32) <<< ((m 19 0 l4.toNatClampNeg) &&& 31)) → (∀ t6 : Int32, t6 = l3 + 1 → (inb l4 6 = true ∧ Cl X d 73 [vp 1 q0, vi (m 15 0 l4.toNatClampNeg)] (G x m) (fun r => ∃ (m8 : MI), r = (.inl none, G x m8) ∧ Cl X d 93 [vp 3 q0, vi l4] (G x m8) (fun r => ∃ (m10 : MI), r = (.inl none, G x m10) ∧ (∀ t11 : Int32, t11 = l4 + (-1) → Wp X (d + 1) 118 (12, ([some (vp 12 0), some (vp 1 q0), some (vi t5), some (vi t6), some (vi t11)], ([], G x m10))) Q))))))))))))) : Wp X (d + 1) 118 (12, ([some (vp 12 0), some (vp 1 q0), some (vi l2), some (vi l3), some (vi l4)], ([], G x m))) Q := by
  refine wp_run 2 true ((bif decide (l4 < 0) then 68 else 17), ([some (vp 12 0), some (vp 1 q0), some (vi l2), some (vi l3), some (vi l4)], ([], G x m))) rfl rfl ?_
  refine wp_if (l4 < 0) (fun c1 => ?_) (fun c1 => ?_)
  · have h := h.1 c1
    refine wp_run 5 true (76, ([some (vp 12 0), some (vp 1 q0), some (vi l2), some (vi l3), some (vi ((m 12 0 6) - 1))], ([], G x m))) rfl rfl ?_
    refine wpg (fun t2 => Wp X (d + 1) 118 (76, ([some (vp 12 0), some (vp 1 q0), some (vi l2), some (vi l3), some (vi t2)], ([], G x m))) Q) ((m 12 0 6) - 1) (fun t2 ht2 => ?_)
    have h := h t2 ht2
    exact h
  · have h := h.2 c1
    obtain ⟨hg2_0, h⟩ := h
    refine wp_run 5 (inb l4 6 && true) ((bif decide ((m 19 0 l4.toNatClampNeg) < 0) then 62 else 27), ([some (vp 12 0), some (vp 1 q0), some (vi l2), some (vi l3), some (vi l4)], ([], G x m))) rfl (and_t hg2_0 rfl) ?_
    refine wp_if ((m 19 0 l4.toNatClampNeg) < 0) (fun c3 => ?_) (fun c3 => ?_)
    · have h := h.1 c3
      refine wp_run 1 true (65, ([some (vp 12 0), some (vp 1 q0), some (vi l2), some (vi l3), some (vi (l4 + (-1)))], ([], G x m))) rfl rfl ?_
      refine wpg (fun t4 => Wp X (d + 1) 118 (65, ([some (vp 12 0), some (vp 1 q0), some (vi l2), some (vi l3), some (vi t4)], ([], G x m))) Q) (l4 + (-1)) (fun t4 ht4 => ?_)
      have h := h t4 ht4
      refine wp_run 1 true (12, ([some (vp 12 0), some (vp 1 q0), some (vi l2), some (vi l3), some (vi t4)], ([], G x m))) rfl rfl ?_
      exact h
    · have h := h.2 c3
      obtain ⟨hg3_0, h⟩ := h
      refine wp_run 9 (inb l4 6 && true) (39, ([some (vp 12 0), some (vp 1 q0), some (vi (l2 ||| ((1 : Int32) <<< ((m 19 0 l4.toNatClampNeg) &&& 31)))), some (vi l3), some (vi l4)], ([], G x m))) rfl (and_t hg3_0 rfl) ?_
      refine wpg (fun t5 => Wp X (d + 1) 118 (39, ([some (vp 12 0), some (vp 1 q0), some (vi t5), some (vi l3), some (vi l4)], ([], G x m))) Q) (l2 ||| ((1 : Int32) <<< ((m 19 0 l4.toNatClampNeg) &&& 31))) (fun t5 ht5 => ?_)
      have h := h t5 ht5
      refine wp_run 1 true (42, ([some (vp 12 0), some (vp 1 q0), some (vi t5), some (vi (l3 + 1)), some (vi l4)], ([], G x m))) rfl rfl ?_
      refine wpg (fun t6 => Wp X (d + 1) 118 (42, ([some (vp 12 0), some (vp 1 q0), some (vi t5), some (vi t6), some (vi l4)], ([], G x m))) Q) (l3 + 1) (fun t6 ht6 => ?_)
      have h := h t6 ht6
      obtain ⟨hg3_0, h⟩ := h
      refine wp_run 5 (inb l4 6 && true) (50, ([some (vp 12 0), some (vp 1 q0), some (vi t5), some (vi t6), some (vi l4)], ([vi (m 15 0 l4.toNatClampNeg), vp 1 q0], G x m))) rfl (and_t hg3_0 rfl) ?_
      refine wp_call 73 [vp 1 q0, vi (m 15 0 l4.toNatClampNeg)] (53, ([some (vp 12 0), some (vp 1 q0), some (vi t5), some (vi t6), some (vi l4)], ([], G x m))) rfl rfl (Cl.mono h (Nat.le_refl _) ?_)
      rintro r ⟨m8, rfl, h⟩
      · show Wp X (d + 1) 118 (53, ([some (vp 12 0), some (vp 1 q0), some (vi t5), some (vi t6), some (vi l4)], ([], G x m8))) Q
        refine wp_run 3 true (59, ([some (vp 12 0), some (vp 1 q0), some (vi t5), some (vi t6), some (vi l4)], ([vi l4, vp 3 q0], G x m8))) rfl rfl ?_
        refine wp_call 93 [vp 3 q0, vi l4] (62, ([some (vp 12 0), some (vp 1 q0), some (vi t5), some (vi t6), some (vi l4)], ([], G x m8))) rfl rfl (Cl.mono h (Nat.le_refl _) ?_)
        rintro r ⟨m10, rfl, h⟩
        · show Wp X (d + 1) 118 (62, ([some (vp 12 0), some (vp 1 q0), some (vi t5), some (vi t6), some (vi l4)], ([], G x m10))) Q
          refine wp_run 1 true (65, ([some (vp 12 0), some (vp 1 q0), some (vi t5), some (vi t6), some (vi (l4 + (-1)))], ([], G x m10))) rfl rfl ?_
          refine wpg (fun t11 => Wp X (d + 1) 118 (65, ([some (vp 12 0), some (vp 1 q0), some (vi t5), some (vi t6), some (vi t11)], ([], G x m10))) Q) (l4 + (-1)) (fun t11 ht11 => ?_)
          have h := h t11 ht11
          refine wp_run 1 true (12, ([some (vp 12 0), some (vp 1 q0), some (vi t5), some (vi t6), some (vi t11)], ([], G x m10))) rfl rfl ?_
          exact h
set_option maxRecDepth 100000 in
set_option maxHeartbeats 4000000 in
theorem vl_X6_carryOut_76 {X : MX} {d : Nat} {x : Int64 × UInt64} {m : MI} {Q : MRes → Prop} {q0 : Nat} {l2 : Int32} {l3 : Int32} {l4 : Int32} (h : ((l4 < 0 → Q (.inl (some (vi l3)), G x m)) ∧ (¬ (l4 < 0) → ((((l2 >>> (l4 &&& 31)) &&& 1) = 0 → (∀ t3 : Int32, t3 = l4 + (-1) → Wp X (d + 1) 118 (76, ([some (vp 12 0), some (vp 1 q0), some (vi l2), some (vi l3), some (vi t3)], ([], G x m))) Q)) ∧ (¬ (((l2 >>> (l4 &&& 31)) &&& 1) = 0) → Cl X d 93 [vp 2 q0, vi l4] (G x m) (fun r => ∃ (m5 : MI), r = (.inl none, G x m5) ∧ (∀ t6 : Int32, t6 = l4 + (-1) → Wp X (d + 1) 118 (76, ([some (vp 12 0), some (vp 1 q0), some (vi l2), some (vi l3), some (vi t6)], ([], G x m5))) Q))))))) : Wp X (d + 1) 118 (76, ([some (vp 12 0), some (vp 1 q0), some (vi l2), some (vi l3), some (vi l4)], ([], G x m))) Q := by
  refine wp_run 2 true ((bif decide (l4 < 0) then 105 else 81), ([some (vp 12 0), some (vp 1 q0), some (vi l2), some (vi l3), some (vi l4)], ([], G x m))) rfl rfl ?_
  refine wp_if (l4 < 0) (fun c1 => ?_) (fun c1 => ?_)
  · have h := h.1 c1
    refine wp_run 1 true (106, ([some (vp 12 0), some (vp 1 q0), some (vi l2), some (vi l3), some (vi l4)], ([vi l3], G x m))) rfl rfl ?_
    exact wp_ret rfl h
  · have h := h.2 c1
    refine wp_run 6 true ((bif decide (((l2 >>> (l4 &&& 31)) &&& 1) = 0) then 99 else 90), ([some (vp 12 0), some (vp 1 q0), some (vi l2), some (vi l3), some (vi l4)], ([], G x m))) rfl rfl ?_
    refine wp_if (((l2 >>> (l4 &&& 31)) &&& 1) = 0) (fun c2 => ?_) (fun c2 => ?_)
    · have h := h.1 c2
      refine wp_run 1 true (102, ([some (vp 12 0), some (vp 1 q0), some (vi l2), some (vi l3), some (vi (l4 + (-1)))], ([], G x m))) rfl rfl ?_
      refine wpg (fun t3 => Wp X (d + 1) 118 (102, ([some (vp 12 0), some (vp 1 q0), some (vi l2), some (vi l3), some (vi t3)], ([], G x m))) Q) (l4 + (-1)) (fun t3 ht3 => ?_)
      have h := h t3 ht3
      refine wp_run 1 true (76, ([some (vp 12 0), some (vp 1 q0), some (vi l2), some (vi l3), some (vi t3)], ([], G x m))) rfl rfl ?_
      exact h
    · have h := h.2 c2
      refine wp_run 3 true (96, ([some (vp 12 0), some (vp 1 q0), some (vi l2), some (vi l3), some (vi l4)], ([vi l4, vp 2 q0], G x m))) rfl rfl ?_
      refine wp_call 93 [vp 2 q0, vi l4] (99, ([some (vp 12 0), some (vp 1 q0), some (vi l2), some (vi l3), some (vi l4)], ([], G x m))) rfl rfl (Cl.mono h (Nat.le_refl _) ?_)
      rintro r ⟨m5, rfl, h⟩
      · show Wp X (d + 1) 118 (99, ([some (vp 12 0), some (vp 1 q0), some (vi l2), some (vi l3), some (vi l4)], ([], G x m5))) Q
        refine wp_run 1 true (102, ([some (vp 12 0), some (vp 1 q0), some (vi l2), some (vi l3), some (vi (l4 + (-1)))], ([], G x m5))) rfl rfl ?_
        refine wpg (fun t6 => Wp X (d + 1) 118 (102, ([some (vp 12 0), some (vp 1 q0), some (vi l2), some (vi l3), some (vi t6)], ([], G x m5))) Q) (l4 + (-1)) (fun t6 ht6 => ?_)
        have h := h t6 ht6
        refine wp_run 1 true (76, ([some (vp 12 0), some (vp 1 q0), some (vi l2), some (vi l3), some (vi t6)], ([], G x m5))) rfl rfl ?_
        exact h
set_option maxRecDepth 100000 in
set_option maxHeartbeats 4000000 in
theorem vc_X6_rewardByTrying {X : MX} {d : Nat} {x : Int64 × UInt64} {m : MI} {Q : MRes → Prop} {q0 : Nat} (h : Cl X d 109 [vp 12 0, vp 1 q0] (G x m) (fun r => ∃ (m2 : MI), r = (.inl none, G x m2) ∧ Cl X d 120 [vp 12 0, vi 0, vi 0] (G x m2) (fun r => ∃ (v3 : Int32) (m4 : MI), r = (.inl (some (vi v3)), G x m4) ∧ Q (.inl (some (vi v3)), G x m4)))) : Cl X (d + 1) 119 [vp 12 0, vp 1 q0] (G x m) Q := by
  show Wp X (d + 1) 119 (0, ([some (vp 12 0), some (vp 1 q0)], ([], G x m))) Q
  refine wp_run 2 true (2, ([some (vp 12 0), some (vp 1 q0)], ([vp 1 q0, vp 12 0], G x m))) rfl rfl ?_
  refine wp_call 109 [vp 12 0, vp 1 q0] (5, ([some (vp 12 0), some (vp 1 q0)], ([], G x m))) rfl rfl (Cl.mono h (Nat.le_refl _) ?_)
  rintro r ⟨m2, rfl, h⟩
  · show Wp X (d + 1) 119 (5, ([some (vp 12 0), some (vp 1 q0)], ([], G x m2))) Q
    refine wp_run 3 true (8, ([some (vp 12 0), some (vp 1 q0)], ([vi 0, vi 0, vp 12 0], G x m2))) rfl rfl ?_
    refine wp_call 120 [vp 12 0, vi 0, vi 0] (11, ([some (vp 12 0), some (vp 1 q0)], ([], G x m2))) rfl rfl (Cl.mono h (Nat.le_refl _) ?_)
    rintro r ⟨v3, m4, rfl, h⟩
    · show Wp X (d + 1) 119 (11, ([some (vp 12 0), some (vp 1 q0)], ([vi v3], G x m4))) Q
      exact wp_ret rfl h
set_option maxRecDepth 100000 in
set_option maxHeartbeats 4000000 in
theorem vc_X6_tryFrom {X : MX} {d : Nat} {x : Int64 × UInt64} {m : MI} {Q : MRes → Prop} {p1 : Int32} {p2 : Int32} (h : ((p1 < 0 → Q (.inl (some (vi 0)), G x m)) ∧ (¬ (p1 < 0) → ((p1 < (m 12 0 5) → Wp X (d + 1) 120 (19, ([some (vp 12 0), some (vi p1), some (vi p2), some (vi 0), some (vi 0), none], ([], G x m))) Q) ∧ (¬ (p1 < (m 12 0 5)) → Q (.inl (some (vi 0)), G x m)))))) : Cl X (d + 1) 120 [vp 12 0, vi p1, vi p2] (G x m) Q := by
  show Wp X (d + 1) 120 (0, ([some (vp 12 0), some (vi p1), some (vi p2), none, none, none], ([], G x m))) Q
  refine wp_run 2 true ((bif decide (p1 < 0) then 12 else 4), ([some (vp 12 0), some (vi p1), some (vi p2), none, none, none], ([], G x m))) rfl rfl ?_
  refine wp_if (p1 < 0) (fun c1 => ?_) (fun c1 => ?_)
  · have h := h.1 c1
    refine wp_run 1 true (13, ([some (vp 12 0), some (vi p1), some (vi p2), none, none, none], ([vi 0], G x m))) rfl rfl ?_
    exact wp_ret rfl h
  · have h := h.2 c1
    refine wp_run 4 true ((bif decide (p1 < (m 12 0 5)) then 14 else 12), ([some (vp 12 0), some (vi p1), some (vi p2), none, none, none], ([], G x m))) rfl rfl ?_
    refine wp_if (p1 < (m 12 0 5)) (fun c2 => ?_) (fun c2 => ?_)
    · have h := h.1 c2
      refine wp_run 4 true (19, ([some (vp 12 0), some (vi p1), some (vi p2), some (vi 0), some (vi 0), none], ([], G x m))) rfl rfl ?_
      exact h
    · have h := h.2 c2
      refine wp_run 1 true (13, ([some (vp 12 0), some (vi p1), some (vi p2), none, none, none], ([vi 0], G x m))) rfl rfl ?_
      exact wp_ret rfl h
set_option maxRecDepth 100000 in
set_option maxHeartbeats 4000000 in
theorem vl_X6_tryFrom_19 {X : MX} {d : Nat} {x : Int64 × UInt64} {m : MI} {Q : MRes → Prop} {l1 : Int32} {l2 : Int32} {l3 : Int32} {l4 : Int32} {o5 : Option MV} (h : (((m 12 0 6) ≤ l4 → (inb l1 6 = true ∧ (((m 16 0 l1.toNatClampNeg) ≤ l3 → Q (.inl (some (vi l3)), G x m)) ∧ (¬ ((m 16 0 l1.toNatClampNeg) ≤ l3) → Cl X d 120 [vp 12 0, vi (l1 + 1), vi l2] (G x m) (fun r => ∃ (v3 : Int32) (m4 : MI), r = (.inl (some (vi v3)), G x m4) ∧ (∀ t5 : Int32, t5 = (if l3 < v3 then v3 else l3) → Q (.inl (some (vi t5)), G x m4))))))) ∧ (¬ ((m 12 0 6) ≤ l4) → (inb l1 6 = true ∧ (((m 16 0 l1.toNatClampNeg) ≤ l3 → (inb l1 6 = true ∧ (((m 16 0 l1.toNatClampNeg) ≤ l3 → Q (.inl (some (vi l3)), G x m)) ∧ (¬ ((m 16 0 l1.toNatClampNeg) ≤ l3) → Cl X d 120 [vp 12 0, vi (l1 + 1), vi l2] (G x m) (fun r => ∃ (v8 : Int32) (m9 : MI), r = (.inl (some (vi v8)), G x m9) ∧ (∀ t10 : Int32, t10 = (if l3 < v8 then v8 else l3) → Q (.inl (some (vi t10)), G x m9))))))) ∧ (¬ ((m 16 0 l1.toNatClampNeg) ≤ l3) → Cl X d 112 [vp 12 0, vi l1, vi l4, vi l2] (G x m) (fun r => ∃ (v11 : Int32) (m12 : MI), r = (.inl (some (vi v11)), G x m12) ∧ ((v11 = 0 → (∀ t14 : Int32, t14 = l4 + 1 → Wp X (d + 1) 120 (19, ([some (vp 12 0), some (vi l1), some (vi l2), some (vi l3), some (vi t14), o5], ([], G x m12))) Q)) ∧ (¬ (v11 = 0) → Cl X d 120 [vp 12 0, vi (l1 + 1), vi (l2 ||| ((1 : Int32) <<< (l4 &&& 31)))] (G x m12) (fun r => ∃ (v15 : Int32) (m16 : MI), r = (.inl (some (vi v15)), G x m16) ∧ (inb l1 6 = true ∧ (∀ t17 : Int32, t17 = (if l3 < ((m16 15 0 l1.toNatClampNeg) + v15) then ((m16 15 0 l1.toNatClampNeg) + v15) else l3) → (∀ t18 : Int32, t18 = l4 + 1 → Wp X (d + 1) 120 (19, ([some (vp 12 0), some (vi l1), some (vi l2), some (vi t17), some (vi t18), some (vi v15)], ([], G x m16))) Q))))))))))))) : Wp X (d + 1) 120 (19, ([some (vp 12 0), some (vi l1), some (vi l2), some (vi l3), some (vi l4), o5], ([], G x m))) Q := by
  refine wp_run 4 true ((bif decide ((m 12 0 6) ≤ l4) then 84 else 28), ([some (vp 12 0), some (vi l1), some (vi l2), some (vi l3), some (vi l4), o5], ([], G x m))) rfl rfl ?_
  refine wp_if ((m 12 0 6) ≤ l4) (fun c1 => ?_) (fun c1 => ?_)
  · have h := h.1 c1
    obtain ⟨hg2_0, h⟩ := h
    refine wp_run 6 (inb l1 6 && true) ((bif decide ((m 16 0 l1.toNatClampNeg) ≤ l3) then 107 else 94), ([some (vp 12 0), some (vi l1), some (vi l2), some (vi l3), some (vi l4), o5], ([], G x m))) rfl (and_t hg2_0 rfl) ?_
    refine wp_if ((m 16 0 l1.toNatClampNeg) ≤ l3) (fun c2 => ?_) (fun c2 => ?_)
    · have h := h.1 c2
      refine wp_run 1 true (108, ([some (vp 12 0), some (vi l1), some (vi l2), some (vi l3), some (vi l4), o5], ([vi l3], G x m))) rfl rfl ?_
      exact wp_ret rfl h
    · have h := h.2 c2
      refine wp_run 6 true (100, ([some (vp 12 0), some (vi l1), some (vi l2), some (vi l3), some (vi l4), o5], ([vi l2, vi (l1 + 1), vp 12 0, vi l3], G x m))) rfl rfl ?_
      refine wp_call 120 [vp 12 0, vi (l1 + 1), vi l2] (103, ([some (vp 12 0), some (vi l1), some (vi l2), some (vi l3), some (vi l4), o5], ([vi l3], G x m))) rfl rfl (Cl.mono h (Nat.le_refl _) ?_)
      rintro r ⟨v3, m4, rfl, h⟩
      · show Wp X (d + 1) 120 (103, ([some (vp 12 0), some (vi l1), some (vi l2), some (vi l3), some (vi l4), o5], ([vi v3, vi l3], G x m4))) Q
        refine wp_run 2 true (107, ([some (vp 12 0), some (vi l1), some (vi l2), some (vi (if l3 < v3 then v3 else l3)), some (vi l4), o5], ([], G x m4))) rfl rfl ?_
        refine wpg (fun t5 => Wp X (d + 1) 120 (107, ([some (vp 12 0), some (vi l1), some (vi l2), some (vi t5), some (vi l4), o5], ([], G x m4))) Q) (if l3 < v3 then v3 else l3) (fun t5 ht5 => ?_)
        have h := h t5 ht5
        refine wp_run 1 true (108, ([some (vp 12 0), some (vi l1), some (vi l2), some (vi t5), some (vi l4), o5], ([vi t5], G x m4))) rfl rfl ?_
        exact wp_ret rfl h
  · have h := h.2 c1
    obtain ⟨hg2_0, h⟩ := h
    refine wp_run 6 (inb l1 6 && true) ((bif decide ((m 16 0 l1.toNatClampNeg) ≤ l3) then 84 else 38), ([some (vp 12 0), some (vi l1), some (vi l2), some (vi l3), some (vi l4), o5], ([], G x m))) rfl (and_t hg2_0 rfl) ?_
    refine wp_if ((m 16 0 l1.toNatClampNeg) ≤ l3) (fun c6 => ?_) (fun c6 => ?_)
    · have h := h.1 c6
      obtain ⟨hg3_0, h⟩ := h
      refine wp_run 6 (inb l1 6 && true) ((bif decide ((m 16 0 l1.toNatClampNeg) ≤ l3) then 107 else 94), ([some (vp 12 0), some (vi l1), some (vi l2), some (vi l3), some (vi l4), o5], ([], G x m))) rfl (and_t hg3_0 rfl) ?_
      refine wp_if ((m 16 0 l1.toNatClampNeg) ≤ l3) (fun c7 => ?_) (fun c7 => ?_)
      · have h := h.1 c7
        refine wp_run 1 true (108, ([some (vp 12 0), some (vi l1), some (vi l2), some (vi l3), some (vi l4), o5], ([vi l3], G x m))) rfl rfl ?_
        exact wp_ret rfl h
      · have h := h.2 c7
        refine wp_run 6 true (100, ([some (vp 12 0), some (vi l1), some (vi l2), some (vi l3), some (vi l4), o5], ([vi l2, vi (l1 + 1), vp 12 0, vi l3], G x m))) rfl rfl ?_
        refine wp_call 120 [vp 12 0, vi (l1 + 1), vi l2] (103, ([some (vp 12 0), some (vi l1), some (vi l2), some (vi l3), some (vi l4), o5], ([vi l3], G x m))) rfl rfl (Cl.mono h (Nat.le_refl _) ?_)
        rintro r ⟨v8, m9, rfl, h⟩
        · show Wp X (d + 1) 120 (103, ([some (vp 12 0), some (vi l1), some (vi l2), some (vi l3), some (vi l4), o5], ([vi v8, vi l3], G x m9))) Q
          refine wp_run 2 true (107, ([some (vp 12 0), some (vi l1), some (vi l2), some (vi (if l3 < v8 then v8 else l3)), some (vi l4), o5], ([], G x m9))) rfl rfl ?_
          refine wpg (fun t10 => Wp X (d + 1) 120 (107, ([some (vp 12 0), some (vi l1), some (vi l2), some (vi t10), some (vi l4), o5], ([], G x m9))) Q) (if l3 < v8 then v8 else l3) (fun t10 ht10 => ?_)
          have h := h t10 ht10
          refine wp_run 1 true (108, ([some (vp 12 0), some (vi l1), some (vi l2), some (vi t10), some (vi l4), o5], ([vi t10], G x m9))) rfl rfl ?_
          exact wp_ret rfl h
    · have h := h.2 c6
      refine wp_run 4 true (43, ([some (vp 12 0), some (vi l1), some (vi l2), some (vi l3), some (vi l4), o5], ([vi l2, vi l4, vi l1, vp 12 0], G x m))) rfl rfl ?_
      refine wp_call 112 [vp 12 0, vi l1, vi l4, vi l2] (46, ([some (vp 12 0), some (vi l1), some (vi l2), some (vi l3), some (vi l4), o5], ([], G x m))) rfl rfl (Cl.mono h (Nat.le_refl _) ?_)
      rintro r ⟨v11, m12, rfl, h⟩
      · show Wp X (d + 1) 120 (46, ([some (vp 12 0), some (vi l1), some (vi l2), some (vi l3), some (vi l4), o5], ([vi v11], G x m12))) Q
        refine wp_run 1 true ((bif decide (v11 = 0) then 78 else 49), ([some (vp 12 0), some (vi l1), some (vi l2), some (vi l3), some (vi l4), o5], ([], G x m12))) rfl rfl ?_
        refine wp_if (v11 = 0) (fun c13 => ?_) (fun c13 => ?_)
        · have h := h.1 c13
          refine wp_run 1 true (81, ([some (vp 12 0), some (vi l1), some (vi l2), some (vi l3), some (vi (l4 + 1)), o5], ([], G x m12))) rfl rfl ?_
          refine wpg (fun t14 => Wp X (d + 1) 120 (81, ([some (vp 12 0), some (vi l1), some (vi l2), some (vi l3), some (vi t14), o5], ([], G x m12))) Q) (l4 + 1) (fun t14 ht14 => ?_)
          have h := h t14 ht14
          refine wp_run 1 true (19, ([some (vp 12 0), some (vi l1), some (vi l2), some (vi l3), some (vi t14), o5], ([], G x m12))) rfl rfl ?_
          exact h
        · have h := h.2 c13
          refine wp_run 9 true (59, ([some (vp 12 0), some (vi l1), some (vi l2), some (vi l3), some (vi l4), o5], ([vi (l2 ||| ((1 : Int32) <<< (l4 &&& 31))), vi (l1 + 1), vp 12 0], G x m12))) rfl rfl ?_
          refine wp_call 120 [vp 12 0, vi (l1 + 1), vi (l2 ||| ((1 : Int32) <<< (l4 &&& 31)))] (62, ([some (vp 12 0), some (vi l1), some (vi l2), some (vi l3), some (vi l4), o5], ([], G x m12))) rfl rfl (Cl.mono h (Nat.le_refl _) ?_)
          rintro r ⟨v15, m16, rfl, h⟩
          · show Wp X (d + 1) 120 (62, ([some (vp 12 0), some (vi l1), some (vi l2), some (vi l3), some (vi l4), o5], ([vi v15], G x m16))) Q
            obtain ⟨hg6_0, h⟩ := h
            refine wp_run 10 (inb l1 6 && true) (78, ([some (vp 12 0), some (vi l1), some (vi l2), some (vi (if l3 < ((m16 15 0 l1.toNatClampNeg) + v15) then ((m16 15 0 l1.toNatClampNeg) + v15) else l3)), some (vi l4), some (vi v15)], ([], G x m16))) rfl (and_t hg6_0 rfl) ?_
            refine wpg (fun t17 => Wp X (d + 1) 120 (78, ([some (vp 12 0), some (vi l1), some (vi l2), some (vi t17), some (vi l4), some (vi v15)], ([], G x m16))) Q) (if l3 < ((m16 15 0 l1.toNatClampNeg) + v15) then ((m16 15 0 l1.toNatClampNeg) + v15) else l3) (fun t17 ht17 => ?_)
            have h := h t17 ht17
            refine wp_run 1 true (81, ([some (vp 12 0), some (vi l1), some (vi l2), some (vi t17), some (vi (l4 + 1)), some (vi v15)], ([], G x m16))) rfl rfl ?_
            refine wpg (fun t18 => Wp X (d + 1) 120 (81, ([some (vp 12 0), some (vi l1), some (vi l2), some (vi t17), some (vi t18), some (vi v15)], ([], G x m16))) Q) (l4 + 1) (fun t18 ht18 => ?_)
            have h := h t18 ht18
            refine wp_run 1 true (19, ([some (vp 12 0), some (vi l1), some (vi l2), some (vi t17), some (vi t18), some (vi v15)], ([], G x m16))) rfl rfl ?_
            exact h
set_option maxRecDepth 100000 in
set_option maxHeartbeats 4000000 in
theorem vc_X4_measureAll {X : MX} {d : Nat} {x : Int64 × UInt64} {m : MI} {Q : MRes → Prop} {q0 : Nat} (h : (∀ m1 : MI, m1 = mup m 20 0 1 (m 2 q0 1) → Wp X (d + 1) 122 (13, ([some (vp 20 0), some (vp 1 q0), some (vi 0), none], ([], G x m1))) Q)) : Cl X (d + 1) 122 [vp 20 0, vp 1 q0] (G x m) Q := by
  show Wp X (d + 1) 122 (0, ([some (vp 20 0), some (vp 1 q0), none, none], ([], G x m))) Q
  refine wp_run 5 true (11, ([some (vp 20 0), some (vp 1 q0), none, none], ([], G x (mup m 20 0 1 (m 2 q0 1))))) rfl rfl ?_
  refine wpg (fun m1 => Wp X (d + 1) 122 (11, ([some (vp 20 0), some (vp 1 q0), none, none], ([], G x m1))) Q) (mup m 20 0 1 (m 2 q0 1)) (fun m1 hm1 => ?_)
  have h := h m1 hm1
  refine wp_run 2 true (13, ([some (vp 20 0), some (vp 1 q0), some (vi 0), none], ([], G x m1))) rfl rfl ?_
  exact h
set_option maxRecDepth 100000 in
set_option maxHeartbeats 4000000 in
theorem vl_X4_measureAll_13 {X : MX} {d : Nat} {x : Int64 × UInt64} {m : MI} {Q : MRes → Prop} {q0 : Nat} {l2 : Int32} {o3 : Option MV} (h : (((m 20 0 1) ≤ l2 → Q (.inl none, G x m)) ∧ (¬ ((m 20 0 1) ≤ l2) → Wp X (d + 1) 122 (23, ([some (vp 20 0), some (vp 1 q0), some (vi l2), some (vi 0)], ([], G x m))) Q))) : Wp X (d + 1) 122 (13, ([some (vp 20 0), some (vp 1 q0), some (vi l2), o3], ([], G x m))) Q := by
  refine wp_run 4 true ((bif decide ((m 20 0 1) ≤ l2) then 73 else 21), ([some (vp 20 0), some (vp 1 q0), some (vi l2), o3], ([], G x m))) rfl rfl ?_
  refine wp_if ((m 20 0 1) ≤ l2) (fun c1 => ?_) (fun c1 => ?_)
  · have h := h.1 c1
    exact wp_ret rfl h
  · have h := h.2 c1
    refine wp_run 2 true (23, ([some (vp 20 0), some (vp 1 q0), some (vi l2), some (vi 0)], ([], G x m))) rfl rfl ?_
    exact h
set_option maxRecDepth 100000 in
set_option maxHeartbeats 4000000 in
theorem vl_X4_measureAll_23 {X : MX} {d : Nat} {x : Int64 × UInt64} {m : MI} {Q : MRes → Prop} {q0 : Nat} {l2 : Int32} {l3 : Int32} (h : (((m 20 0 1) ≤ l3 → (∀ t2 : Int32, t2 = l2 + 1 → Wp X (d + 1) 122 (13, ([some (vp 20 0), some (vp 1 q0), some (vi t2), some (vi l3)], ([], G x m))) Q)) ∧ (¬ ((m 20 0 1) ≤ l3) → (inb l2 10 = true ∧ inb l2 10 = true ∧ inb l3 10 = true ∧ Cl X d 85 [vp 1 q0, vp 5 (10 * q0 + l2.toNatClampNeg), vp 5 (10 * q0 + l3.toNatClampNeg)] (G x m) (fun r => ∃ (v3 : Int32) (m4 : MI), r = (.inl (some (vi v3)), G x m4) ∧ (inb l3 10 = true ∧ (∀ m5 : MI, m5 = mup m4 22 (l2.toNatClampNeg) (l3.toNatClampNeg) v3 → (∀ t6 : Int32, t6 = l3 + 1 → Wp X (d + 1) 122 (23, ([some (vp 20 0), some (vp 1 q0), some (vi l2), some (vi t6)], ([], G x m5))) Q)))))))) : Wp X (d + 1) 122 (23, ([some (vp 20 0), some (vp 1 q0), some (vi l2), some (vi l3)], ([], G x m))) Q := by
  refine wp_run 4 true ((bif decide ((m 20 0 1) ≤ l3) then 67 else 31), ([some (vp 20 0), some (vp 1 q0), some (vi l2), some (vi l3)], ([], G x m))) rfl rfl ?_
  refine wp_if ((m 20 0 1) ≤ l3) (fun c1 => ?_) (fun c1 => ?_)
  · have h := h.1 c1
    refine wp_run 1 true (70, ([some (vp 20 0), some (vp 1 q0), some (vi (l2 + 1)), some (vi l3)], ([], G x m))) rfl rfl ?_
    refine wpg (fun t2 => Wp X (d + 1) 122 (70, ([some (vp 20 0), some (vp 1 q0), some (vi t2), some (vi l3)], ([], G x m))) Q) (l2 + 1) (fun t2 ht2 => ?_)
    have h := h t2 ht2
    refine wp_run 1 true (13, ([some (vp 20 0), some (vp 1 q0), some (vi t2), some (vi l3)], ([], G x m))) rfl rfl ?_
    exact h
  · have h := h.2 c1
    obtain ⟨hg2_0, hg2_1, hg2_2, h⟩ := h
    refine wp_run 16 (inb l3 10 && (inb l2 10 && (inb l2 10 && true))) (57, ([some (vp 20 0), some (vp 1 q0), some (vi l2), some (vi l3)], ([vp 5 (10 * q0 + l3.toNatClampNeg), vp 5 (10 * q0 + l2.toNatClampNeg), vp 1 q0, vi l3, vp 22 (l2.toNatClampNeg)], G x m))) rfl (and_t hg2_2 (and_t hg2_1 (and_t hg2_0 rfl))) ?_
    refine wp_call 85 [vp 1 q0, vp 5 (10 * q0 + l2.toNatClampNeg), vp 5 (10 * q0 + l3.toNatClampNeg)] (60, ([some (vp 20 0), some (vp 1 q0), some (vi l2), some (vi l3)], ([vi l3, vp 22 (l2.toNatClampNeg)], G x m))) rfl rfl (Cl.mono h (Nat.le_refl _) ?_)
    rintro r ⟨v3, m4, rfl, h⟩
    · show Wp X (d + 1) 122 (60, ([some (vp 20 0), some (vp 1 q0), some (vi l2), some (vi l3)], ([vi v3, vi l3, vp 22 (l2.toNatClampNeg)], G x m4))) Q
      obtain ⟨hg3_0, h⟩ := h
      refine wp_run 1 (inb l3 10 && true) (61, ([some (vp 20 0), some (vp 1 q0), some (vi l2), some (vi l3)], ([], G x (mup m4 22 (l2.toNatClampNeg) (l3.toNatClampNeg) v3)))) rfl (and_t hg3_0 rfl) ?_
      refine wpg (fun m5 => Wp X (d + 1) 122 (61, ([some (vp 20 0), some (vp 1 q0), some (vi l2), some (vi l3)], ([], G x m5))) Q) (mup m4 22 (l2.toNatClampNeg) (l3.toNatClampNeg) v3) (fun m5 hm5 => ?_)
      have h := h m5 hm5
      refine wp_run 1 true (64, ([some (vp 20 0), some (vp 1 q0), some (vi l2), some (vi (l3 + 1))], ([], G x m5))) rfl rfl ?_
      refine wpg (fun t6 => Wp X (d + 1) 122 (64, ([some (vp 20 0), some (vp 1 q0), some (vi l2), some (vi t6)], ([], G x m5))) Q) (l3 + 1) (fun t6 ht6 => ?_)
      have h := h t6 ht6
      refine wp_run 1 true (23, ([some (vp 20 0), some (vp 1 q0), some (vi l2), some (vi t6)], ([], G x m5))) rfl rfl ?_
      exact h
set_option maxRecDepth 100000 in
set_option maxHeartbeats 4000000 in
theorem vc_X4_errorOf {X : MX} {d : Nat} {x : Int64 × UInt64} {m : MI} {Q : MRes → Prop} {p0 : Int32} (h : Wp X (d + 1) 123 (4, ([some (vp 20 0), some (vi p0), some (vi 0), some (vi 0)], ([], G x m))) Q) : Cl X (d + 1) 123 [vp 20 0, vi p0] (G x m) Q := by
  show Wp X (d + 1) 123 (0, ([some (vp 20 0), some (vi p0), none, none], ([], G x m))) Q
  refine wp_run 4 true (4, ([some (vp 20 0), some (vi p0), some (vi 0), some (vi 0)], ([], G x m))) rfl rfl ?_
  exact h
set_option maxRecDepth 100000 in
set_option maxHeartbeats 4000000 in
theorem vl_X4_errorOf_4 {X : MX} {d : Nat} {x : Int64 × UInt64} {m : MI} {Q : MRes → Prop} {l1 : Int32} {l2 : Int32} {l3 : Int32} (h : (((m 20 0 1) ≤ l3 → Q (.inl (some (vi l2)), G x m)) ∧ (¬ ((m 20 0 1) ≤ l3) → Cl X d 124 [vp 20 0, vi l3, vi l1] (G x m) (fun r => ∃ (v2 : Int32) (m3 : MI), r = (.inl (some (vi v2)), G x m3) ∧ (∀ t4 : Int32, t4 = l2 + v2 → (∀ t5 : Int32, t5 = l3 + 1 → Wp X (d + 1) 123 (4, ([some (vp 20 0), some (vi l1), some (vi t4), some (vi t5)], ([], G x m3))) Q)))))) : Wp X (d + 1) 123 (4, ([some (vp 20 0), some (vi l1), some (vi l2), some (vi l3)], ([], G x m))) Q := by
  refine wp_run 4 true ((bif decide ((m 20 0 1) ≤ l3) then 27 else 12), ([some (vp 20 0), some (vi l1), some (vi l2), some (vi l3)], ([], G x m))) rfl rfl ?_
  refine wp_if ((m 20 0 1) ≤ l3) (fun c1 => ?_) (fun c1 => ?_)
  · have h := h.1 c1
    refine wp_run 1 true (28, ([some (vp 20 0), some (vi l1), some (vi l2), some (vi l3)], ([vi l2], G x m))) rfl rfl ?_
    exact wp_ret rfl h
  · have h := h.2 c1
    refine wp_run 4 true (16, ([some (vp 20 0), some (vi l1), some (vi l2), some (vi l3)], ([vi l1, vi l3, vp 20 0, vi l2], G x m))) rfl rfl ?_
    refine wp_call 124 [vp 20 0, vi l3, vi l1] (19, ([some (vp 20 0), some (vi l1), some (vi l2), some (vi l3)], ([vi l2], G x m))) rfl rfl (Cl.mono h (Nat.le_refl _) ?_)
    rintro r ⟨v2, m3, rfl, h⟩
    · show Wp X (d + 1) 123 (19, ([some (vp 20 0), some (vi l1), some (vi l2), some (vi l3)], ([vi v2, vi l2], G x m3))) Q
      refine wp_run 2 true (21, ([some (vp 20 0), some (vi l1), some (vi (l2 + v2)), some (vi l3)], ([], G x m3))) rfl rfl ?_
      refine wpg (fun t4 => Wp X (d + 1) 123 (21, ([some (vp 20 0), some (vi l1), some (vi t4), some (vi l3)], ([], G x m3))) Q) (l2 + v2) (fun t4 ht4 => ?_)
      have h := h t4 ht4
      refine wp_run 1 true (24, ([some (vp 20 0), some (vi l1), some (vi t4), some (vi (l3 + 1))], ([], G x m3))) rfl rfl ?_
      refine wpg (fun t5 => Wp X (d + 1) 123 (24, ([some (vp 20 0), some (vi l1), some (vi t4), some (vi t5)], ([], G x m3))) Q) (l3 + 1) (fun t5 ht5 => ?_)
      have h := h t5 ht5
      refine wp_run 1 true (4, ([some (vp 20 0), some (vi l1), some (vi t4), some (vi t5)], ([], G x m3))) rfl rfl ?_
      exact h
set_option maxRecDepth 100000 in
set_option maxHeartbeats 4000000 in
theorem vc_X4_distanceToPalette {X : MX} {d : Nat} {x : Int64 × UInt64} {m : MI} {Q : MRes → Prop} {p0 : Int32} {p1 : Int32} (h : Wp X d 124 (6, ([some (vp 20 0), some (vi p0), some (vi p1), some (vi 1000000000), some (vi 0)], ([], G x m))) Q) : Cl X d 124 [vp 20 0, vi p0, vi p1] (G x m) Q := by
  show Wp X d 124 (0, ([some (vp 20 0), some (vi p0), some (vi p1), none, none], ([], G x m))) Q
  refine wp_run 4 true (6, ([some (vp 20 0), some (vi p0), some (vi p1), some (vi 1000000000), some (vi 0)], ([], G x m))) rfl rfl ?_
  exact h
set_option maxRecDepth 100000 in
set_option maxHeartbeats 4000000 in
theorem vl_X4_distanceToPalette_6 {X : MX} {d : Nat} {x : Int64 × UInt64} {m : MI} {Q : MRes → Prop} {l1 : Int32} {l2 : Int32} {l3 : Int32} {l4 : Int32} (h : (((m 20 0 1) ≤ l4 → Q (.inl (some (vi l3)), G x m)) ∧ (¬ ((m 20 0 1) ≤ l4) → ((((l2 >>> (l4 &&& 31)) &&& 1) = 0 → (∀ t3 : Int32, t3 = l4 + 1 → Wp X d 124 (6, ([some (vp 20 0), some (vi l1), some (vi l2), some (vi l3), some (vi t3)], ([], G x m))) Q)) ∧ (¬ (((l2 >>> (l4 &&& 31)) &&& 1) = 0) → (inb l1 10 = true ∧ inb l4 10 = true ∧ (∀ t4 : Int32, t4 = (if l3 < (m 22 (l1.toNatClampNeg) l4.toNatClampNeg) then l3 else (m 22 (l1.toNatClampNeg) l4.toNatClampNeg)) → (∀ t5 : Int32, t5 = l4 + 1 → Wp X d 124 (6, ([some (vp 20 0), some (vi l1), some (vi l2), some (vi t4), some (vi t5)], ([], G x m))) Q)))))))) : Wp X d 124 (6, ([some (vp 20 0), some (vi l1), some (vi l2), some (vi l3), some (vi l4)], ([], G x m))) Q := by
  refine wp_run 4 true ((bif decide ((m 20 0 1) ≤ l4) then 44 else 15), ([some (vp 20 0), some (vi l1), some (vi l2), some (vi l3), some (vi l4)], ([], G x m))) rfl rfl ?_
  refine wp_if ((m 20 0 1) ≤ l4) (fun c1 => ?_) (fun c1 => ?_)
  · have h := h.1 c1
    refine wp_run 1 true (45, ([some (vp 20 0), some (vi l1), some (vi l2), some (vi l3), some (vi l4)], ([vi l3], G x m))) rfl rfl ?_
    exact wp_ret rfl h
  · have h := h.2 c1
    refine wp_run 6 true ((bif decide (((l2 >>> (l4 &&& 31)) &&& 1) = 0) then 38 else 24), ([some (vp 20 0), some (vi l1), some (vi l2), some (vi l3), some (vi l4)], ([], G x m))) rfl rfl ?_
    refine wp_if (((l2 >>> (l4 &&& 31)) &&& 1) = 0) (fun c2 => ?_) (fun c2 => ?_)
    · have h := h.1 c2
      refine wp_run 1 true (41, ([some (vp 20 0), some (vi l1), some (vi l2), some (vi l3), some (vi (l4 + 1))], ([], G x m))) rfl rfl ?_
      refine wpg (fun t3 => Wp X d 124 (41, ([some (vp 20 0), some (vi l1), some (vi l2), some (vi l3), some (vi t3)], ([], G x m))) Q) (l4 + 1) (fun t3 ht3 => ?_)
      have h := h t3 ht3
      refine wp_run 1 true (6, ([some (vp 20 0), some (vi l1), some (vi l2), some (vi l3), some (vi t3)], ([], G x m))) rfl rfl ?_
      exact h
    · have h := h.2 c2
      obtain ⟨hg3_0, hg3_1, h⟩ := h
      refine wp_run 9 (inb l4 10 && (inb l1 10 && true)) (38, ([some (vp 20 0), some (vi l1), some (vi l2), some (vi (if l3 < (m 22 (l1.toNatClampNeg) l4.toNatClampNeg) then l3 else (m 22 (l1.toNatClampNeg) l4.toNatClampNeg))), some (vi l4)], ([], G x m))) rfl (and_t hg3_1 (and_t hg3_0 rfl)) ?_
      refine wpg (fun t4 => Wp X d 124 (38, ([some (vp 20 0), some (vi l1), some (vi l2), some (vi t4), some (vi l4)], ([], G x m))) Q) (if l3 < (m 22 (l1.toNatClampNeg) l4.toNatClampNeg) then l3 else (m 22 (l1.toNatClampNeg) l4.toNatClampNeg)) (fun t4 ht4 => ?_)
      have h := h t4 ht4
      refine wp_run 1 true (41, ([some (vp 20 0), some (vi l1), some (vi l2), some (vi t4), some (vi (l4 + 1))], ([], G x m))) rfl rfl ?_
      refine wpg (fun t5 => Wp X d 124 (41, ([some (vp 20 0), some (vi l1), some (vi l2), some (vi t4), some (vi t5)], ([], G x m))) Q) (l4 + 1) (fun t5 ht5 => ?_)
      have h := h t5 ht5
      refine wp_run 1 true (6, ([some (vp 20 0), some (vi l1), some (vi l2), some (vi t4), some (vi t5)], ([], G x m))) rfl rfl ?_
      exact h
set_option maxRecDepth 100000 in
set_option maxHeartbeats 4000000 in
theorem vc_X4_bestOfSize {X : MX} {d : Nat} {x : Int64 × UInt64} {m : MI} {Q : MRes → Prop} {p0 : Int32} (h : Wp X (d + 1) 125 (8, ([some (vp 20 0), some (vi p0), some (vi 0), some (vi 1000000000), some (vi 1), none], ([], G x m))) Q) : Cl X (d + 1) 125 [vp 20 0, vi p0] (G x m) Q := by
  show Wp X (d + 1) 125 (0, ([some (vp 20 0), some (vi p0), none, none, none, none], ([], G x m))) Q
  refine wp_run 6 true (8, ([some (vp 20 0), some (vi p0), some (vi 0), some (vi 1000000000), some (vi 1), none], ([], G x m))) rfl rfl ?_
  exact h
set_option maxRecDepth 100000 in
set_option maxHeartbeats 4000000 in
theorem vl_X4_bestOfSize_8 {X : MX} {d : Nat} {x : Int64 × UInt64} {m : MI} {Q : MRes → Prop} {l1 : Int32} {l2 : Int32} {l3 : Int32} {l4 : Int32} {o5 : Option MV} (h : ((((1 : Int32) <<< ((m 20 0 1) &&& 31)) ≤ l4 → Q (.inl (some (vi l2)), G x m)) ∧ (¬ (((1 : Int32) <<< ((m 20 0 1) &&& 31)) ≤ l4) → Cl X d 329 [vi l4] (G x m) (fun r => ∃ (v2 : Int32) (m3 : MI), r = (.inl (some (vi v2)), G x m3) ∧ ((¬ v2 = l1 → (∀ t5 : Int32, t5 = l4 + 1 → Wp X (d + 1) 125 (8, ([some (vp 20 0), some (vi l1), some (vi l2), some (vi l3), some (vi t5), o5], ([], G x m3))) Q)) ∧ (¬ (¬ v2 = l1) → Cl X d 123 [vp 20 0, vi l4] (G x m3) (fun r => ∃ (v6 : Int32) (m7 : MI), r = (.inl (some (vi v6)), G x m7) ∧ ((v6 < l3 → (∀ t9 : Int32, t9 = l4 + 1 → Wp X (d + 1) 125 (8, ([some (vp 20 0), some (vi l1), some (vi l4), some (vi v6), some (vi t9), some (vi v6)], ([], G x m7))) Q)) ∧ (¬ (v6 < l3) → ((¬ v6 = l3 → (∀ t11 : Int32, t11 = l4 + 1 → Wp X (d + 1) 125 (8, ([some (vp 20 0), some (vi l1), some (vi l2), some (vi l3), some (vi t11), some (vi v6)], ([], G x m7))) Q)) ∧ (¬ (¬ v6 = l3) → Cl X d 126 [vi l4, vi l2] (G x m7) (fun r => ∃ (v12 : Int32) (m13 : MI), r = (.inl (some (vi v12)), G x m13) ∧ ((v12 = 0 → (∀ t15 : Int32, t15 = l4 + 1 → Wp X (d + 1) 125 (8, ([some (vp 20 0), some (vi l1), some (vi l2), some (vi l3), some (vi t15), some (vi v6)], ([], G x m13))) Q)) ∧ (¬ (v12 = 0) → (∀ t16 : Int32, t16 = l4 + 1 → Wp X (d + 1) 125 (8, ([some (vp 20 0), some (vi l1), some (vi l4), some (vi v6), some (vi t16), some (vi v6)], ([], G x m13))) Q))))))))))))))) : Wp X (d + 1) 125 (8, ([some (vp 20 0), some (vi l1), some (vi l2), some (vi l3), some (vi l4), o5], ([], G x m))) Q := by
  refine wp_run 6 true ((bif decide (((1 : Int32) <<< ((m 20 0 1) &&& 31)) ≤ l4) then 69 else 19), ([some (vp 20 0), some (vi l1), some (vi l2), some (vi l3), some (vi l4), o5], ([], G x m))) rfl rfl ?_
  refine wp_if (((1 : Int32) <<< ((m 20 0 1) &&& 31)) ≤ l4) (fun c1 => ?_) (fun c1 => ?_)
  · have h := h.1 c1
    refine wp_run 1 true (70, ([some (vp 20 0), some (vi l1), some (vi l2), some (vi l3), some (vi l4), o5], ([vi l2], G x m))) rfl rfl ?_
    exact wp_ret rfl h
  · have h := h.2 c1
    refine wp_run 1 true (21, ([some (vp 20 0), some (vi l1), some (vi l2), some (vi l3), some (vi l4), o5], ([vi l4], G x m))) rfl rfl ?_
    refine wp_call 329 [vi l4] (24, ([some (vp 20 0), some (vi l1), some (vi l2), some (vi l3), some (vi l4), o5], ([], G x m))) rfl rfl (Cl.mono h (Nat.le_refl _) ?_)
    rintro r ⟨v2, m3, rfl, h⟩
    · show Wp X (d + 1) 125 (24, ([some (vp 20 0), some (vi l1), some (vi l2), some (vi l3), some (vi l4), o5], ([vi v2], G x m3))) Q
      refine wp_run 2 true ((bif decide (¬ v2 = l1) then 63 else 28), ([some (vp 20 0), some (vi l1), some (vi l2), some (vi l3), some (vi l4), o5], ([], G x m3))) rfl rfl ?_
      refine wp_if (¬ v2 = l1) (fun c4 => ?_) (fun c4 => ?_)
      · have h := h.1 c4
        refine wp_run 1 true (66, ([some (vp 20 0), some (vi l1), some (vi l2), some (vi l3), some (vi (l4 + 1)), o5], ([], G x m3))) rfl rfl ?_
        refine wpg (fun t5 => Wp X (d + 1) 125 (66, ([some (vp 20 0), some (vi l1), some (vi l2), some (vi l3), some (vi t5), o5], ([], G x m3))) Q) (l4 + 1) (fun t5 ht5 => ?_)
        have h := h t5 ht5
        refine wp_run 1 true (8, ([some (vp 20 0), some (vi l1), some (vi l2), some (vi l3), some (vi t5), o5], ([], G x m3))) rfl rfl ?_
        exact h
      · have h := h.2 c4
        refine wp_run 2 true (31, ([some (vp 20 0), some (vi l1), some (vi l2), some (vi l3), some (vi l4), o5], ([vi l4, vp 20 0], G x m3))) rfl rfl ?_
        refine wp_call 123 [vp 20 0, vi l4] (34, ([some (vp 20 0), some (vi l1), some (vi l2), some (vi l3), some (vi l4), o5], ([], G x m3))) rfl rfl (Cl.mono h (Nat.le_refl _) ?_)
        rintro r ⟨v6, m7, rfl, h⟩
        · show Wp X (d + 1) 125 (34, ([some (vp 20 0), some (vi l1), some (vi l2), some (vi l3), some (vi l4), o5], ([vi v6], G x m7))) Q
          refine wp_run 4 true ((bif decide (v6 < l3) then 57 else 42), ([some (vp 20 0), some (vi l1), some (vi l2), some (vi l3), some (vi l4), some (vi v6)], ([], G x m7))) rfl rfl ?_
          refine wp_if (v6 < l3) (fun c8 => ?_) (fun c8 => ?_)
          · have h := h.1 c8
            refine wp_run 5 true (66, ([some (vp 20 0), some (vi l1), some (vi l4), some (vi v6), some (vi (l4 + 1)), some (vi v6)], ([], G x m7))) rfl rfl ?_
            refine wpg (fun t9 => Wp X (d + 1) 125 (66, ([some (vp 20 0), some (vi l1), some (vi l4), some (vi v6), some (vi t9), some (vi v6)], ([], G x m7))) Q) (l4 + 1) (fun t9 ht9 => ?_)
            have h := h t9 ht9
            refine wp_run 1 true (8, ([some (vp 20 0), some (vi l1), some (vi l4), some (vi v6), some (vi t9), some (vi v6)], ([], G x m7))) rfl rfl ?_
            exact h
          · have h := h.2 c8
            refine wp_run 3 true ((bif decide (¬ v6 = l3) then 63 else 48), ([some (vp 20 0), some (vi l1), some (vi l2), some (vi l3), some (vi l4), some (vi v6)], ([], G x m7))) rfl rfl ?_
            refine wp_if (¬ v6 = l3) (fun c10 => ?_) (fun c10 => ?_)
            · have h := h.1 c10
              refine wp_run 1 true (66, ([some (vp 20 0), some (vi l1), some (vi l2), some (vi l3), some (vi (l4 + 1)), some (vi v6)], ([], G x m7))) rfl rfl ?_
              refine wpg (fun t11 => Wp X (d + 1) 125 (66, ([some (vp 20 0), some (vi l1), some (vi l2), some (vi l3), some (vi t11), some (vi v6)], ([], G x m7))) Q) (l4 + 1) (fun t11 ht11 => ?_)
              have h := h t11 ht11
              refine wp_run 1 true (8, ([some (vp 20 0), some (vi l1), some (vi l2), some (vi l3), some (vi t11), some (vi v6)], ([], G x m7))) rfl rfl ?_
              exact h
            · have h := h.2 c10
              refine wp_run 2 true (51, ([some (vp 20 0), some (vi l1), some (vi l2), some (vi l3), some (vi l4), some (vi v6)], ([vi l2, vi l4], G x m7))) rfl rfl ?_
              refine wp_call 126 [vi l4, vi l2] (54, ([some (vp 20 0), some (vi l1), some (vi l2), some (vi l3), some (vi l4), some (vi v6)], ([], G x m7))) rfl rfl (Cl.mono h (Nat.le_refl _) ?_)
              rintro r ⟨v12, m13, rfl, h⟩
              · show Wp X (d + 1) 125 (54, ([some (vp 20 0), some (vi l1), some (vi l2), some (vi l3), some (vi l4), some (vi v6)], ([vi v12], G x m13))) Q
                refine wp_run 1 true ((bif decide (v12 = 0) then 63 else 57), ([some (vp 20 0), some (vi l1), some (vi l2), some (vi l3), some (vi l4), some (vi v6)], ([], G x m13))) rfl rfl ?_
                refine wp_if (v12 = 0) (fun c14 => ?_) (fun c14 => ?_)
                · have h := h.1 c14
                  refine wp_run 1 true (66, ([some (vp 20 0), some (vi l1), some (vi l2), some (vi l3), some (vi (l4 + 1)), some (vi v6)], ([], G x m13))) rfl rfl ?_
                  refine wpg (fun t15 => Wp X (d + 1) 125 (66, ([some (vp 20 0), some (vi l1), some (vi l2), some (vi l3), some (vi t15), some (vi v6)], ([], G x m13))) Q) (l4 + 1) (fun t15 ht15 => ?_)
                  have h := h t15 ht15
                  refine wp_run 1 true (8, ([some (vp 20 0), some (vi l1), some (vi l2), some (vi l3), some (vi t15), some (vi v6)], ([], G x m13))) rfl rfl ?_
                  exact h
                · have h := h.2 c14
                  refine wp_run 5 true (66, ([some (vp 20 0), some (vi l1), some (vi l4), some (vi v6), some (vi (l4 + 1)), some (vi v6)], ([], G x m13))) rfl rfl ?_
                  refine wpg (fun t16 => Wp X (d + 1) 125 (66, ([some (vp 20 0), some (vi l1), some (vi l4), some (vi v6), some (vi t16), some (vi v6)], ([], G x m13))) Q) (l4 + 1) (fun t16 ht16 => ?_)
                  have h := h t16 ht16
                  refine wp_run 1 true (8, ([some (vp 20 0), some (vi l1), some (vi l4), some (vi v6), some (vi t16), some (vi v6)], ([], G x m13))) rfl rfl ?_
                  exact h
set_option maxRecDepth 100000 in
set_option maxHeartbeats 4000000 in
theorem vc_X4_isBefore {X : MX} {d : Nat} {x : Int64 × UInt64} {m : MI} {Q : MRes → Prop} {p0 : Int32} {p1 : Int32} (h : (∀ t1 : Int32, t1 = p0 ^^^ p1 → (∀ t2 : Int32, t2 = t1 &&& (-t1) → (((p0 &&& t2) = 0 → Q (.inl (some (vi 0)), G x m)) ∧ (¬ ((p0 &&& t2) = 0) → Q (.inl (some (vi 1)), G x m)))))) : Cl X d 126 [vi p0, vi p1] (G x m) Q := by
  show Wp X d 126 (0, ([some (vi p0), some (vi p1), none, none], ([], G x m))) Q
  refine wp_run 4 true (4, ([some (vi p0), some (vi p1), some (vi (p0 ^^^ p1)), none], ([], G x m))) rfl rfl ?_
  refine wpg (fun t1 => Wp X d 126 (4, ([some (vi p0), some (vi p1), some (vi t1), none], ([], G x m))) Q) (p0 ^^^ p1) (fun t1 ht1 => ?_)
  have h := h t1 ht1
  refine wp_run 5 true (9, ([some (vi p0), some (vi p1), some (vi t1), some (vi (t1 &&& (-t1)))], ([], G x m))) rfl rfl ?_
  refine wpg (fun t2 => Wp X d 126 (9, ([some (vi p0), some (vi p1), some (vi t1), some (vi t2)], ([], G x m))) Q) (t1 &&& (-t1)) (fun t2 ht2 => ?_)
  have h := h t2 ht2
  refine wp_run 4 true ((bif decide ((p0 &&& t2) = 0) then 19 else 15), ([some (vi p0), some (vi p1), some (vi t1), some (vi t2)], ([], G x m))) rfl rfl ?_
  refine wp_if ((p0 &&& t2) = 0) (fun c3 => ?_) (fun c3 => ?_)
  · have h := h.1 c3
    refine wp_run 1 true (20, ([some (vi p0), some (vi p1), some (vi t1), some (vi t2)], ([vi 0], G x m))) rfl rfl ?_
    exact wp_ret rfl h
  · have h := h.2 c3
    refine wp_run 2 true (20, ([some (vi p0), some (vi p1), some (vi t1), some (vi t2)], ([vi 1], G x m))) rfl rfl ?_
    exact wp_ret rfl h
set_option maxRecDepth 100000 in
set_option maxHeartbeats 4000000 in
theorem vc_X4_memberAt {X : MX} {d : Nat} {x : Int64 × UInt64} {m : MI} {Q : MRes → Prop} {p0 : Int32} {p1 : Int32} (h : Wp X d 127 (5, ([some (vp 20 0), some (vi p0), some (vi p1), some (vi 0), some (vi 0)], ([], G x m))) Q) : Cl X d 127 [vp 20 0, vi p0, vi p1] (G x m) Q := by
  show Wp X d 127 (0, ([some (vp 20 0), some (vi p0), some (vi p1), none, none], ([], G x m))) Q
  refine wp_run 4 true (5, ([some (vp 20 0), some (vi p0), some (vi p1), some (vi 0), some (vi 0)], ([], G x m))) rfl rfl ?_
  exact h
set_option maxRecDepth 100000 in
set_option maxHeartbeats 4000000 in
theorem vl_X4_memberAt_5 {X : MX} {d : Nat} {x : Int64 × UInt64} {m : MI} {Q : MRes → Prop} {l1 : Int32} {l2 : Int32} {l3 : Int32} {l4 : Int32} (h : (((m 20 0 1) ≤ l4 → Q (.inl (some (vi 0)), G x m)) ∧ (¬ ((m 20 0 1) ≤ l4) → ((((l1 >>> (l4 &&& 31)) &&& 1) = 0 → (∀ t3 : Int32, t3 = l4 + 1 → Wp X d 127 (5, ([some (vp 20 0), some (vi l1), some (vi l2), some (vi l3), some (vi t3)], ([], G x m))) Q)) ∧ (¬ (((l1 >>> (l4 &&& 31)) &&& 1) = 0) → ((¬ l3 = l2 → (∀ t5 : Int32, t5 = l3 + 1 → (∀ t6 : Int32, t6 = l4 + 1 → Wp X d 127 (5, ([some (vp 20 0), some (vi l1), some (vi l2), some (vi t5), some (vi t6)], ([], G x m))) Q))) ∧ (¬ (¬ l3 = l2) → Q (.inl (some (vi l4)), G x m)))))))) : Wp X d 127 (5, ([some (vp 20 0), some (vi l1), some (vi l2), some (vi l3), some (vi l4)], ([], G x m))) Q := by
  refine wp_run 4 true ((bif decide ((m 20 0 1) ≤ l4) then 40 else 14), ([some (vp 20 0), some (vi l1), some (vi l2), some (vi l3), some (vi l4)], ([], G x m))) rfl rfl ?_
  refine wp_if ((m 20 0 1) ≤ l4) (fun c1 => ?_) (fun c1 => ?_)
  · have h := h.1 c1
    refine wp_run 1 true (41, ([some (vp 20 0), some (vi l1), some (vi l2), some (vi l3), some (vi l4)], ([vi 0], G x m))) rfl rfl ?_
    exact wp_ret rfl h
  · have h := h.2 c1
    refine wp_run 6 true ((bif decide (((l1 >>> (l4 &&& 31)) &&& 1) = 0) then 34 else 23), ([some (vp 20 0), some (vi l1), some (vi l2), some (vi l3), some (vi l4)], ([], G x m))) rfl rfl ?_
    refine wp_if (((l1 >>> (l4 &&& 31)) &&& 1) = 0) (fun c2 => ?_) (fun c2 => ?_)
    · have h := h.1 c2
      refine wp_run 1 true (37, ([some (vp 20 0), some (vi l1), some (vi l2), some (vi l3), some (vi (l4 + 1))], ([], G x m))) rfl rfl ?_
      refine wpg (fun t3 => Wp X d 127 (37, ([some (vp 20 0), some (vi l1), some (vi l2), some (vi l3), some (vi t3)], ([], G x m))) Q) (l4 + 1) (fun t3 ht3 => ?_)
      have h := h t3 ht3
      refine wp_run 1 true (5, ([some (vp 20 0), some (vi l1), some (vi l2), some (vi l3), some (vi t3)], ([], G x m))) rfl rfl ?_
      exact h
    · have h := h.2 c2
      refine wp_run 3 true ((bif decide (¬ l3 = l2) then 31 else 28), ([some (vp 20 0), some (vi l1), some (vi l2), some (vi l3), some (vi l4)], ([], G x m))) rfl rfl ?_
      refine wp_if (¬ l3 = l2) (fun c4 => ?_) (fun c4 => ?_)
      · have h := h.1 c4
        refine wp_run 1 true (34, ([some (vp 20 0), some (vi l1), some (vi l2), some (vi (l3 + 1)), some (vi l4)], ([], G x m))) rfl rfl ?_
        refine wpg (fun t5 => Wp X d 127 (34, ([some (vp 20 0), some (vi l1), some (vi l2), some (vi t5), some (vi l4)], ([], G x m))) Q) (l3 + 1) (fun t5 ht5 => ?_)
        have h := h t5 ht5
        refine wp_run 1 true (37, ([some (vp 20 0), some (vi l1), some (vi l2), some (vi t5), some (vi (l4 + 1))], ([], G x m))) rfl rfl ?_
        refine wpg (fun t6 => Wp X d 127 (37, ([some (vp 20 0), some (vi l1), some (vi l2), some (vi t5), some (vi t6)], ([], G x m))) Q) (l4 + 1) (fun t6 ht6 => ?_)
        have h := h t6 ht6
        refine wp_run 1 true (5, ([some (vp 20 0), some (vi l1), some (vi l2), some (vi t5), some (vi t6)], ([], G x m))) rfl rfl ?_
        exact h
      · have h := h.2 c4
        refine wp_run 1 true (30, ([some (vp 20 0), some (vi l1), some (vi l2), some (vi l3), some (vi l4)], ([vi l4], G x m))) rfl rfl ?_
        exact wp_ret rfl h
set_option maxRecDepth 100000 in
set_option maxHeartbeats 4000000 in
theorem vc_X4_errorBySearch {X : MX} {d : Nat} {x : Int64 × UInt64} {m : MI} {Q : MRes → Prop} {p0 : Int32} (h : Cl X d 129 [vp 20 0, vi 0, vi p0, vi 0, vi 1000000000] (G x m) (fun r => ∃ (v1 : Int32) (m2 : MI), r = (.inl (some (vi v1)), G x m2) ∧ Q (.inl (some (vi v1)), G x m2))) : Cl X (d + 1) 128 [vp 20 0, vi p0] (G x m) Q := by
  show Wp X (d + 1) 128 (0, ([some (vp 20 0), some (vi p0)], ([], G x m))) Q
  refine wp_run 5 true (6, ([some (vp 20 0), some (vi p0)], ([vi 1000000000, vi 0, vi p0, vi 0, vp 20 0], G x m))) rfl rfl ?_
  refine wp_call 129 [vp 20 0, vi 0, vi p0, vi 0, vi 1000000000] (9, ([some (vp 20 0), some (vi p0)], ([], G x m))) rfl rfl (Cl.mono h (Nat.le_refl _) ?_)
  rintro r ⟨v1, m2, rfl, h⟩
  · show Wp X (d + 1) 128 (9, ([some (vp 20 0), some (vi p0)], ([vi v1], G x m2))) Q
    exact wp_ret rfl h
set_option maxRecDepth 100000 in
set_option maxHeartbeats 4000000 in
theorem vc_X4_searchFrom {X : MX} {d : Nat} {x : Int64 × UInt64} {m : MI} {Q : MRes → Prop} {p1 : Int32} {p2 : Int32} {p3 : Int32} {p4 : Int32} (h : ((¬ p2 = 0 → ((p1 < 0 → Q (.inl (some (vi p4)), G x m)) ∧ (¬ (p1 < 0) → (((m 20 0 1) ≤ p1 → Q (.inl (some (vi p4)), G x m)) ∧ (¬ ((m 20 0 1) ≤ p1) → ((p2 ≤ ((m 20 0 1) - p1) → (∀ t5 : Int32, t5 = ((1 : Int32) <<< ((m 20 0 1) &&& 31)) - ((1 : Int32) <<< (p1 &&& 31)) → Cl X d 123 [vp 20 0, vi (p3 ||| t5)] (G x m) (fun r => ∃ (v6 : Int32) (m7 : MI), r = (.inl (some (vi v6)), G x m7) ∧ ((v6 < p4 → Cl X d 129 [vp 20 0, vi (p1 + 1), vi (p2 - 1), vi (p3 ||| ((1 : Int32) <<< (p1 &&& 31))), vi p4] (G x m7) (fun r => ∃ (v9 : Int32) (m10 : MI), r = (.inl (some (vi v9)), G x m10) ∧ Cl X d 129 [vp 20 0, vi (p1 + 1), vi p2, vi p3, vi v9] (G x m10) (fun r => ∃ (v11 : Int32) (m12 : MI), r = (.inl (some (vi v11)), G x m12) ∧ Q (.inl (some (vi v11)), G x m12)))) ∧ (¬ (v6 < p4) → Q (.inl (some (vi p4)), G x m7)))))) ∧ (¬ (p2 ≤ ((m 20 0 1) - p1)) → Q (.inl (some (vi p4)), G x m)))))))) ∧ (¬ (¬ p2 = 0) → Cl X d 123 [vp 20 0, vi p3] (G x m) (fun r => ∃ (v13 : Int32) (m14 : MI), r = (.inl (some (vi v13)), G x m14) ∧ Q (.inl (some (vi (if p4 < v13 then p4 else v13))), G x m14))))) : Cl X (d + 1) 129 [vp 20 0, vi p1, vi p2, vi p3, vi p4] (G x m) Q := by
  show Wp X (d + 1) 129 (0, ([some (vp 20 0), some (vi p1), some (vi p2), some (vi p3), some (vi p4), none, none], ([], G x m))) Q
  refine wp_run 2 true ((bif decide (¬ p2 = 0) then 15 else 4), ([some (vp 20 0), some (vi p1), some (vi p2), some (vi p3), some (vi p4), none, none], ([], G x m))) rfl rfl ?_
  refine wp_if (¬ p2 = 0) (fun c1 => ?_) (fun c1 => ?_)
  · have h := h.1 c1
    refine wp_run 2 true ((bif decide (p1 < 0) then 37 else 19), ([some (vp 20 0), some (vi p1), some (vi p2), some (vi p3), some (vi p4), none, none], ([], G x m))) rfl rfl ?_
    refine wp_if (p1 < 0) (fun c2 => ?_) (fun c2 => ?_)
    · have h := h.1 c2
      refine wp_run 1 true (39, ([some (vp 20 0), some (vi p1), some (vi p2), some (vi p3), some (vi p4), none, none], ([vi p4], G x m))) rfl rfl ?_
      exact wp_ret rfl h
    · have h := h.2 c2
      refine wp_run 4 true ((bif decide ((m 20 0 1) ≤ p1) then 37 else 27), ([some (vp 20 0), some (vi p1), some (vi p2), some (vi p3), some (vi p4), none, none], ([], G x m))) rfl rfl ?_
      refine wp_if ((m 20 0 1) ≤ p1) (fun c3 => ?_) (fun c3 => ?_)
      · have h := h.1 c3
        refine wp_run 1 true (39, ([some (vp 20 0), some (vi p1), some (vi p2), some (vi p3), some (vi p4), none, none], ([vi p4], G x m))) rfl rfl ?_
        exact wp_ret rfl h
      · have h := h.2 c3
        refine wp_run 6 true ((bif decide (p2 ≤ ((m 20 0 1) - p1)) then 40 else 37), ([some (vp 20 0), some (vi p1), some (vi p2), some (vi p3), some (vi p4), none, none], ([], G x m))) rfl rfl ?_
        refine wp_if (p2 ≤ ((m 20 0 1) - p1)) (fun c4 => ?_) (fun c4 => ?_)
        · have h := h.1 c4
          refine wp_run 9 true (52, ([some (vp 20 0), some (vi p1), some (vi p2), some (vi p3), some (vi p4), some (vi (((1 : Int32) <<< ((m 20 0 1) &&& 31)) - ((1 : Int32) <<< (p1 &&& 31)))), none], ([], G x m))) rfl rfl ?_
          refine wpg (fun t5 => Wp X (d + 1) 129 (52, ([some (vp 20 0), some (vi p1), some (vi p2), some (vi p3), some (vi p4), some (vi t5), none], ([], G x m))) Q) (((1 : Int32) <<< ((m 20 0 1) &&& 31)) - ((1 : Int32) <<< (p1 &&& 31))) (fun t5 ht5 => ?_)
          have h := h t5 ht5
          refine wp_run 4 true (57, ([some (vp 20 0), some (vi p1), some (vi p2), some (vi p3), some (vi p4), some (vi t5), none], ([vi (p3 ||| t5), vp 20 0], G x m))) rfl rfl ?_
          refine wp_call 123 [vp 20 0, vi (p3 ||| t5)] (60, ([some (vp 20 0), some (vi p1), some (vi p2), some (vi p3), some (vi p4), some (vi t5), none], ([], G x m))) rfl rfl (Cl.mono h (Nat.le_refl _) ?_)
          rintro r ⟨v6, m7, rfl, h⟩
          · show Wp X (d + 1) 129 (60, ([some (vp 20 0), some (vi p1), some (vi p2), some (vi p3), some (vi p4), some (vi t5), none], ([vi v6], G x m7))) Q
            refine wp_run 2 true ((bif decide (v6 < p4) then 68 else 65), ([some (vp 20 0), some (vi p1), some (vi p2), some (vi p3), some (vi p4), some (vi t5), none], ([], G x m7))) rfl rfl ?_
            refine wp_if (v6 < p4) (fun c8 => ?_) (fun c8 => ?_)
            · have h := h.1 c8
              refine wp_run 13 true (82, ([some (vp 20 0), some (vi p1), some (vi p2), some (vi p3), some (vi p4), some (vi t5), none], ([vi p4, vi (p3 ||| ((1 : Int32) <<< (p1 &&& 31))), vi (p2 - 1), vi (p1 + 1), vp 20 0], G x m7))) rfl rfl ?_
              refine wp_call 129 [vp 20 0, vi (p1 + 1), vi (p2 - 1), vi (p3 ||| ((1 : Int32) <<< (p1 &&& 31))), vi p4] (85, ([some (vp 20 0), some (vi p1), some (vi p2), some (vi p3), some (vi p4), some (vi t5), none], ([], G x m7))) rfl rfl (Cl.mono h (Nat.le_refl _) ?_)
              rintro r ⟨v9, m10, rfl, h⟩
              · show Wp X (d + 1) 129 (85, ([some (vp 20 0), some (vi p1), some (vi p2), some (vi p3), some (vi p4), some (vi t5), none], ([vi v9], G x m10))) Q
                refine wp_run 8 true (95, ([some (vp 20 0), some (vi p1), some (vi p2), some (vi p3), some (vi p4), some (vi t5), some (vi v9)], ([vi v9, vi p3, vi p2, vi (p1 + 1), vp 20 0], G x m10))) rfl rfl ?_
                refine wp_call 129 [vp 20 0, vi (p1 + 1), vi p2, vi p3, vi v9] (98, ([some (vp 20 0), some (vi p1), some (vi p2), some (vi p3), some (vi p4), some (vi t5), some (vi v9)], ([], G x m10))) rfl rfl (Cl.mono h (Nat.le_refl _) ?_)
                rintro r ⟨v11, m12, rfl, h⟩
                · show Wp X (d + 1) 129 (98, ([some (vp 20 0), some (vi p1), some (vi p2), some (vi p3), some (vi p4), some (vi t5), some (vi v9)], ([vi v11], G x m12))) Q
                  exact wp_ret rfl h
            · have h := h.2 c8
              refine wp_run 1 true (67, ([some (vp 20 0), some (vi p1), some (vi p2), some (vi p3), some (vi p4), some (vi t5), none], ([vi p4], G x m7))) rfl rfl ?_
              exact wp_ret rfl h
        · have h := h.2 c4
          refine wp_run 1 true (39, ([some (vp 20 0), some (vi p1), some (vi p2), some (vi p3), some (vi p4), none, none], ([vi p4], G x m))) rfl rfl ?_
          exact wp_ret rfl h
  · have h := h.2 c1
    refine wp_run 3 true (8, ([some (vp 20 0), some (vi p1), some (vi p2), some (vi p3), some (vi p4), none, none], ([vi p3, vp 20 0, vi p4], G x m))) rfl rfl ?_
    refine wp_call 123 [vp 20 0, vi p3] (11, ([some (vp 20 0), some (vi p1), some (vi p2), some (vi p3), some (vi p4), none, none], ([vi p4], G x m))) rfl rfl (Cl.mono h (Nat.le_refl _) ?_)
    rintro r ⟨v13, m14, rfl, h⟩
    · show Wp X (d + 1) 129 (11, ([some (vp 20 0), some (vi p1), some (vi p2), some (vi p3), some (vi p4), none, none], ([vi v13, vi p4], G x m14))) Q
      refine wp_run 1 true (14, ([some (vp 20 0), some (vi p1), some (vi p2), some (vi p3), some (vi p4), none, none], ([vi (if p4 < v13 then p4 else v13)], G x m14))) rfl rfl ?_
      exact wp_ret rfl h
