set_option maxRecDepth 100000 in
set_option maxHeartbeats 4000000 in
theorem vc_X5_isFull {X : MX} {d : Nat} {x : Int64 × UInt64} {m : MI} {Q : MRes → Prop} (h : (((m 23 0 1) < 60 → Q (.inl (some (vi 0)), G x m)) ∧ (¬ ((m 23 0 1) < 60) → Q (.inl (some (vi 1)), G x m)))) : Cl X d 131 [vp 23 0] (G x m) Q := by
  show Wp X d 131 (0, ([some (vp 23 0)], ([], G x m))) Q
  refine wp_run 4 true ((bif decide ((m 23 0 1) < 60) then 13 else 9), ([some (vp 23 0)], ([], G x m))) rfl rfl ?_
  refine wp_if ((m 23 0 1) < 60) (fun c1 => ?_) (fun c1 => ?_)
  · have h := h.1 c1
    refine wp_run 1 true (14, ([some (vp 23 0)], ([vi 0], G x m))) rfl rfl ?_
    exact wp_ret rfl h
  · have h := h.2 c1
    refine wp_run 2 true (14, ([some (vp 23 0)], ([vi 1], G x m))) rfl rfl ?_
    exact wp_ret rfl h
set_option maxRecDepth 100000 in
set_option maxHeartbeats 4000000 in
theorem vc_X5_append {X : MX} {d : Nat} {x : Int64 × UInt64} {m : MI} {Q : MRes → Prop} {p0 : Int32} (h : ((okT 3 p0 && inb (m 23 0 1) 60) = true ∧ (∀ m1 : MI, m1 = mup m 24 0 ((m 23 0 1).toNatClampNeg) p0 → (∀ m2 : MI, m2 = mup m1 23 0 1 ((m1 23 0 1) + 1) → Q (.inl (some (vi (m2 23 0 1))), G x m2))))) : Cl X d 132 [vp 23 0, vi p0] (G x m) Q := by
  show Wp X d 132 (0, ([some (vp 23 0), some (vi p0)], ([], G x m))) Q
  obtain ⟨hg1_0, h⟩ := h
  refine wp_run 6 ((okT 3 p0 && inb (m 23 0 1) 60) && true) (10, ([some (vp 23 0), some (vi p0)], ([], G x (mup m 24 0 ((m 23 0 1).toNatClampNeg) p0)))) rfl (and_t hg1_0 rfl) ?_
  refine wpg (fun m1 => Wp X d 132 (10, ([some (vp 23 0), some (vi p0)], ([], G x m1))) Q) (mup m 24 0 ((m 23 0 1).toNatClampNeg) p0) (fun m1 hm1 => ?_)
  have h := h m1 hm1
  refine wp_run 6 true (20, ([some (vp 23 0), some (vi p0)], ([], G x (mup m1 23 0 1 ((m1 23 0 1) + 1))))) rfl rfl ?_
  refine wpg (fun m2 => Wp X d 132 (20, ([some (vp 23 0), some (vi p0)], ([], G x m2))) Q) (mup m1 23 0 1 ((m1 23 0 1) + 1)) (fun m2 hm2 => ?_)
  have h := h m2 hm2
  refine wp_run 2 true (24, ([some (vp 23 0), some (vi p0)], ([vi (m2 23 0 1)], G x m2))) rfl rfl ?_
  exact wp_ret rfl h
set_option maxRecDepth 100000 in
set_option maxHeartbeats 4000000 in
theorem vc_X5_empty {X : MX} {d : Nat} {x : Int64 × UInt64} {m : MI} {Q : MRes → Prop} (h : (∀ m1 : MI, m1 = mup m 23 0 1 0 → Q (.inl none, G x m1))) : Cl X d 133 [vp 23 0] (G x m) Q := by
  show Wp X d 133 (0, ([some (vp 23 0)], ([], G x m))) Q
  refine wp_run 3 true (5, ([some (vp 23 0)], ([], G x (mup m 23 0 1 0)))) rfl rfl ?_
  refine wpg (fun m1 => Wp X d 133 (5, ([some (vp 23 0)], ([], G x m1))) Q) (mup m 23 0 1 0) (fun m1 hm1 => ?_)
  have h := h m1 hm1
  exact wp_ret rfl h
set_option maxRecDepth 100000 in
set_option maxHeartbeats 4000000 in
theorem vc_X5_parse {X : MX} {d : Nat} {x : Int64 × UInt64} {m : MI} {Q : MRes → Prop} (h : Wp X (d + 1) 134 (4, ([some (vp 23 0), some (vi 0), some (vi 0), none], ([], G x m))) Q) : Cl X (d + 1) 134 [vp 23 0] (G x m) Q := by
  show Wp X (d + 1) 134 (0, ([some (vp 23 0), none, none, none], ([], G x m))) Q
  refine wp_run 4 true (4, ([some (vp 23 0), some (vi 0), some (vi 0), none], ([], G x m))) rfl rfl ?_
  exact h
set_option maxRecDepth 100000 in
set_option maxHeartbeats 4000000 in
theorem vl_X5_parse_4 {X : MX} {d : Nat} {x : Int64 × UInt64} {m : MI} {Q : MRes → Prop} {l1 : Int32} {l2 : Int32} {o3 : Option MV} (h : ((16 ≤ l2 → Q (.inl (some (vi (m 23 0 1))), G x m)) ∧ (¬ (16 ≤ l2) → Cl X d 135 [vp 23 0, vi l2, vi l1] (G x m) (fun r => ∃ (v2 : Int32) (m3 : MI), r = (.inl (some (vi v2)), G x m3) ∧ ((v2 < 0 → (((m3 23 0 2) < (m3 23 0 1) → (∀ t6 : Int32, t6 = (m3 23 0 2) + 1 → (∀ t7 : Int32, t7 = l2 + 1 → Wp X (d + 1) 134 (4, ([some (vp 23 0), some (vi t6), some (vi t7), some (vi v2)], ([], G x m3))) Q))) ∧ (¬ ((m3 23 0 2) < (m3 23 0 1)) → (∀ m8 : MI, m8 = mup m3 23 0 5 (l2 + 1) → Q (.inl (some (vi (-1))), G x m8))))) ∧ (¬ (v2 < 0) → Q (.inl (some (vi v2)), G x m3))))))) : Wp X (d + 1) 134 (4, ([some (vp 23 0), some (vi l1), some (vi l2), o3], ([], G x m))) Q := by
  refine wp_run 3 true ((bif decide (16 ≤ l2) then 56 else 10), ([some (vp 23 0), some (vi l1), some (vi l2), o3], ([], G x m))) rfl rfl ?_
  refine wp_if (16 ≤ l2) (fun c1 => ?_) (fun c1 => ?_)
  · have h := h.1 c1
    refine wp_run 2 true (60, ([some (vp 23 0), some (vi l1), some (vi l2), o3], ([vi (m 23 0 1)], G x m))) rfl rfl ?_
    exact wp_ret rfl h
  · have h := h.2 c1
    refine wp_run 3 true (13, ([some (vp 23 0), some (vi l1), some (vi l2), o3], ([vi l1, vi l2, vp 23 0], G x m))) rfl rfl ?_
    refine wp_call 135 [vp 23 0, vi l2, vi l1] (16, ([some (vp 23 0), some (vi l1), some (vi l2), o3], ([], G x m))) rfl rfl (Cl.mono h (Nat.le_refl _) ?_)
    rintro r ⟨v2, m3, rfl, h⟩
    · show Wp X (d + 1) 134 (16, ([some (vp 23 0), some (vi l1), some (vi l2), o3], ([vi v2], G x m3))) Q
      refine wp_run 3 true ((bif decide (v2 < 0) then 23 else 21), ([some (vp 23 0), some (vi l1), some (vi l2), some (vi v2)], ([], G x m3))) rfl rfl ?_
      refine wp_if (v2 < 0) (fun c4 => ?_) (fun c4 => ?_)
      · have h := h.1 c4
        refine wp_run 5 true ((bif decide ((m3 23 0 2) < (m3 23 0 1)) then 43 else 34), ([some (vp 23 0), some (vi l1), some (vi l2), some (vi v2)], ([], G x m3))) rfl rfl ?_
        refine wp_if ((m3 23 0 2) < (m3 23 0 1)) (fun c5 => ?_) (fun c5 => ?_)
        · have h := h.1 c5
          refine wp_run 5 true (50, ([some (vp 23 0), some (vi ((m3 23 0 2) + 1)), some (vi l2), some (vi v2)], ([], G x m3))) rfl rfl ?_
          refine wpg (fun t6 => Wp X (d + 1) 134 (50, ([some (vp 23 0), some (vi t6), some (vi l2), some (vi v2)], ([], G x m3))) Q) ((m3 23 0 2) + 1) (fun t6 ht6 => ?_)
          have h := h t6 ht6
          refine wp_run 1 true (53, ([some (vp 23 0), some (vi t6), some (vi (l2 + 1)), some (vi v2)], ([], G x m3))) rfl rfl ?_
          refine wpg (fun t7 => Wp X (d + 1) 134 (53, ([some (vp 23 0), some (vi t6), some (vi t7), some (vi v2)], ([], G x m3))) Q) (l2 + 1) (fun t7 ht7 => ?_)
          have h := h t7 ht7
          refine wp_run 1 true (4, ([some (vp 23 0), some (vi t6), some (vi t7), some (vi v2)], ([], G x m3))) rfl rfl ?_
          exact h
        · have h := h.2 c5
          refine wp_run 5 true (41, ([some (vp 23 0), some (vi l1), some (vi l2), some (vi v2)], ([], G x (mup m3 23 0 5 (l2 + 1))))) rfl rfl ?_
          refine wpg (fun m8 => Wp X (d + 1) 134 (41, ([some (vp 23 0), some (vi l1), some (vi l2), some (vi v2)], ([], G x m8))) Q) (mup m3 23 0 5 (l2 + 1)) (fun m8 hm8 => ?_)
          have h := h m8 hm8
          refine wp_run 1 true (42, ([some (vp 23 0), some (vi l1), some (vi l2), some (vi v2)], ([vi (-1)], G x m8))) rfl rfl ?_
          exact wp_ret rfl h
      · have h := h.2 c4
        refine wp_run 1 true (22, ([some (vp 23 0), some (vi l1), some (vi l2), some (vi v2)], ([vi v2], G x m3))) rfl rfl ?_
        exact wp_ret rfl h
set_option maxRecDepth 100000 in
set_option maxHeartbeats 4000000 in
theorem vc_X5_parseCommand {X : MX} {d : Nat} {x : Int64 × UInt64} {m : MI} {Q : MRes → Prop} {p0 : Int32} {p1 : Int32} (h : Wp X (d + 1) 135 (5, ([some (vp 23 0), some (vi p0), some (vi p1), some (vi p1), some (vi 0)], ([], G x m))) Q) : Cl X (d + 1) 135 [vp 23 0, vi p0, vi p1] (G x m) Q := by
  show Wp X (d + 1) 135 (0, ([some (vp 23 0), some (vi p0), some (vi p1), none, none], ([], G x m))) Q
  refine wp_run 4 true (5, ([some (vp 23 0), some (vi p0), some (vi p1), some (vi p1), some (vi 0)], ([], G x m))) rfl rfl ?_
  exact h
set_option maxRecDepth 100000 in
set_option maxHeartbeats 4000000 in
theorem vl_X5_parseCommand_5 {X : MX} {d : Nat} {x : Int64 × UInt64} {m : MI} {Q : MRes → Prop} {l1 : Int32} {l2 : Int32} {l3 : Int32} {l4 : Int32} (h : ((10 ≤ l4 → Q (.inl (some (vi l3)), G x m)) ∧ (¬ (10 ≤ l4) → (inb l4 10 = true ∧ inb l1 16 = true ∧ Cl X d 136 [vp 23 0, vs 3 (l4.toNatClampNeg), vi l2, vp 27 (l1.toNatClampNeg)] (G x m) (fun r => ∃ (v2 : Int32) (m3 : MI), r = (.inl (some (vi v2)), G x m3) ∧ ((v2 = 0 → (∀ t5 : Int32, t5 = (if l3 < (m3 23 0 2) then (m3 23 0 2) else l3) → (∀ t6 : Int32, t6 = l4 + 1 → Wp X (d + 1) 135 (5, ([some (vp 23 0), some (vi l1), some (vi l2), some (vi t5), some (vi t6)], ([], G x m3))) Q))) ∧ (¬ (v2 = 0) → (inb l1 16 = true ∧ (∀ m7 : MI, m7 = mup m3 25 0 (l1.toNatClampNeg) l4 → Q (.inl (some (vi (-1))), G x m7)))))))))) : Wp X (d + 1) 135 (5, ([some (vp 23 0), some (vi l1), some (vi l2), some (vi l3), some (vi l4)], ([], G x m))) Q := by
  refine wp_run 4 true ((bif decide (10 ≤ l4) then 62 else 14), ([some (vp 23 0), some (vi l1), some (vi l2), some (vi l3), some (vi l4)], ([], G x m))) rfl rfl ?_
  refine wp_if (10 ≤ l4) (fun c1 => ?_) (fun c1 => ?_)
  · have h := h.1 c1
    refine wp_run 1 true (63, ([some (vp 23 0), some (vi l1), some (vi l2), some (vi l3), some (vi l4)], ([vi l3], G x m))) rfl rfl ?_
    exact wp_ret rfl h
  · have h := h.2 c1
    obtain ⟨hg2_0, hg2_1, h⟩ := h
    refine wp_run 10 (inb l1 16 && (inb l4 10 && true)) (31, ([some (vp 23 0), some (vi l1), some (vi l2), some (vi l3), some (vi l4)], ([vp 27 (l1.toNatClampNeg), vi l2, vs 3 (l4.toNatClampNeg), vp 23 0], G x m))) rfl (and_t hg2_1 (and_t hg2_0 rfl)) ?_
    refine wp_call 136 [vp 23 0, vs 3 (l4.toNatClampNeg), vi l2, vp 27 (l1.toNatClampNeg)] (34, ([some (vp 23 0), some (vi l1), some (vi l2), some (vi l3), some (vi l4)], ([], G x m))) rfl rfl (Cl.mono h (Nat.le_refl _) ?_)
    rintro r ⟨v2, m3, rfl, h⟩
    · show Wp X (d + 1) 135 (34, ([some (vp 23 0), some (vi l1), some (vi l2), some (vi l3), some (vi l4)], ([vi v2], G x m3))) Q
      refine wp_run 1 true ((bif decide (v2 = 0) then 47 else 37), ([some (vp 23 0), some (vi l1), some (vi l2), some (vi l3), some (vi l4)], ([], G x m3))) rfl rfl ?_
      refine wp_if (v2 = 0) (fun c4 => ?_) (fun c4 => ?_)
      · have h := h.1 c4
        refine wp_run 5 true (56, ([some (vp 23 0), some (vi l1), some (vi l2), some (vi (if l3 < (m3 23 0 2) then (m3 23 0 2) else l3)), some (vi l4)], ([], G x m3))) rfl rfl ?_
        refine wpg (fun t5 => Wp X (d + 1) 135 (56, ([some (vp 23 0), some (vi l1), some (vi l2), some (vi t5), some (vi l4)], ([], G x m3))) Q) (if l3 < (m3 23 0 2) then (m3 23 0 2) else l3) (fun t5 ht5 => ?_)
        have h := h t5 ht5
        refine wp_run 1 true (59, ([some (vp 23 0), some (vi l1), some (vi l2), some (vi t5), some (vi (l4 + 1))], ([], G x m3))) rfl rfl ?_
        refine wpg (fun t6 => Wp X (d + 1) 135 (59, ([some (vp 23 0), some (vi l1), some (vi l2), some (vi t5), some (vi t6)], ([], G x m3))) Q) (l4 + 1) (fun t6 ht6 => ?_)
        have h := h t6 ht6
        refine wp_run 1 true (5, ([some (vp 23 0), some (vi l1), some (vi l2), some (vi t5), some (vi t6)], ([], G x m3))) rfl rfl ?_
        exact h
      · have h := h.2 c4
        obtain ⟨hg4_0, h⟩ := h
        refine wp_run 5 (inb l1 16 && true) (45, ([some (vp 23 0), some (vi l1), some (vi l2), some (vi l3), some (vi l4)], ([], G x (mup m3 25 0 (l1.toNatClampNeg) l4)))) rfl (and_t hg4_0 rfl) ?_
        refine wpg (fun m7 => Wp X (d + 1) 135 (45, ([some (vp 23 0), some (vi l1), some (vi l2), some (vi l3), some (vi l4)], ([], G x m7))) Q) (mup m3 25 0 (l1.toNatClampNeg) l4) (fun m7 hm7 => ?_)
        have h := h m7 hm7
        refine wp_run 1 true (46, ([some (vp 23 0), some (vi l1), some (vi l2), some (vi l3), some (vi l4)], ([vi (-1)], G x m7))) rfl rfl ?_
        exact wp_ret rfl h
set_option maxRecDepth 100000 in
set_option maxHeartbeats 4000000 in
theorem vc_X5_matches {X : MX} {d : Nat} {x : Int64 × UInt64} {m : MI} {Q : MRes → Prop} {n : Nat} {p1 : Int32} {q2 : Nat} (h : (∀ m1 : MI, m1 = mup m 23 0 2 p1 → Wp X (d + 1) 136 (11, ([some (vp 23 0), some (vs 3 n), some (vi p1), some (vp 27 q2), some (vi 0), some (vi 0), none, none], ([], G x m1))) Q)) : Cl X (d + 1) 136 [vp 23 0, vs 3 n, vi p1, vp 27 q2] (G x m) Q := by
  show Wp X (d + 1) 136 (0, ([some (vp 23 0), some (vs 3 n), some (vi p1), some (vp 27 q2), none, none, none, none], ([], G x m))) Q
  refine wp_run 3 true (5, ([some (vp 23 0), some (vs 3 n), some (vi p1), some (vp 27 q2), none, none, none, none], ([], G x (mup m 23 0 2 p1)))) rfl rfl ?_
  refine wpg (fun m1 => Wp X (d + 1) 136 (5, ([some (vp 23 0), some (vs 3 n), some (vi p1), some (vp 27 q2), none, none, none, none], ([], G x m1))) Q) (mup m 23 0 2 p1) (fun m1 hm1 => ?_)
  have h := h m1 hm1
  refine wp_run 4 true (11, ([some (vp 23 0), some (vs 3 n), some (vi p1), some (vp 27 q2), some (vi 0), some (vi 0), none, none], ([], G x m1))) rfl rfl ?_
  exact h
set_option maxRecDepth 100000 in
set_option maxHeartbeats 4000000 in
theorem vl_X5_matches_11 {X : MX} {d : Nat} {x : Int64 × UInt64} {m : MI} {Q : MRes → Prop} {n : Nat} {q2 : Nat} {l2 : Int32} {l4 : Int32} {l5 : Int32} {o6 : Option MV} {o7 : Option MV} (h : Cl X d 323 [vs 3 n] (G x m) (fun r => ∃ (v1 : Int32) (m2 : MI), r = (.inl (some (vi v1)), G x m2) ∧ ((v1 ≤ l5 → (((m2 23 0 1) ≤ (m2 23 0 2) → Q (.inl (some (vi 1)), G x m2)) ∧ (¬ ((m2 23 0 1) ≤ (m2 23 0 2)) → (inb (m2 23 0 2) 60 = true ∧ ((¬ (m2 24 0 (m2 23 0 2).toNatClampNeg) = 59 → Q (.inl (some (vi 0)), G x m2)) ∧ (¬ (¬ (m2 24 0 (m2 23 0 2).toNatClampNeg) = 59) → Q (.inl (some (vi 1)), G x m2))))))) ∧ (¬ (v1 ≤ l5) → Cl X d 324 [vs 3 n, vi l5] (G x m2) (fun r => ∃ (v6 : Int32) (m7 : MI), r = (.inl (some (vi v6)), G x m7) ∧ ((v6 = 35 → ((¬ v6 = 35 → Cl X d 138 [vp 23 0] (G x m7) (fun r => ∃ (v10 : Int32) (m11 : MI), r = (.inl (some (vi v10)), G x m11) ∧ ((v10 < 0 → Q (.inl (some (vi 0)), G x m11)) ∧ (¬ (v10 < 0) → ((l4 < 5 → (inb l4 5 = true ∧ (∀ m14 : MI, m14 = mup m11 27 q2 (l4.toNatClampNeg) v10 → (∀ t15 : Int32, t15 = l4 + 1 → (∀ t16 : Int32, t16 = l5 + 1 → Wp X (d + 1) 136 (11, ([some (vp 23 0), some (vs 3 n), some (vi l2), some (vp 27 q2), some (vi t15), some (vi t16), some (vi v6), some (vi v10)], ([], G x m14))) Q))))) ∧ (¬ (l4 < 5) → Q (.inl (some (vi 0)), G x m11))))))) ∧ (¬ (¬ v6 = 35) → Cl X d 139 [vp 23 0] (G x m7) (fun r => ∃ (v17 : Int32) (m18 : MI), r = (.inl (some (vi v17)), G x m18) ∧ ((v17 < 0 → Q (.inl (some (vi 0)), G x m18)) ∧ (¬ (v17 < 0) → ((l4 < 5 → (inb l4 5 = true ∧ (∀ m21 : MI, m21 = mup m18 27 q2 (l4.toNatClampNeg) v17 → (∀ t22 : Int32, t22 = l4 + 1 → (∀ t23 : Int32, t23 = l5 + 1 → Wp X (d + 1) 136 (11, ([some (vp 23 0), some (vs 3 n), some (vi l2), some (vp 27 q2), some (vi t22), some (vi t23), some (vi v6), some (vi v17)], ([], G x m21))) Q))))) ∧ (¬ (l4 < 5) → Q (.inl (some (vi 0)), G x m18))))))))) ∧ (¬ (v6 = 35) → ((¬ v6 = 64 → Cl X d 137 [vp 23 0, vi v6] (G x m7) (fun r => ∃ (v25 : Int32) (m26 : MI), r = (.inl (some (vi v25)), G x m26) ∧ ((¬ v25 = 0 → (∀ t28 : Int32, t28 = l5 + 1 → Wp X (d + 1) 136 (11, ([some (vp 23 0), some (vs 3 n), some (vi l2), some (vp 27 q2), some (vi l4), some (vi t28), some (vi v6), o7], ([], G x m26))) Q)) ∧ (¬ (¬ v25 = 0) → Q (.inl (some (vi 0)), G x m26))))) ∧ (¬ (¬ v6 = 64) → ((¬ v6 = 35 → Cl X d 138 [vp 23 0] (G x m7) (fun r => ∃ (v30 : Int32) (m31 : MI), r = (.inl (some (vi v30)), G x m31) ∧ ((v30 < 0 → Q (.inl (some (vi 0)), G x m31)) ∧ (¬ (v30 < 0) → ((l4 < 5 → (inb l4 5 = true ∧ (∀ m34 : MI, m34 = mup m31 27 q2 (l4.toNatClampNeg) v30 → (∀ t35 : Int32, t35 = l4 + 1 → (∀ t36 : Int32, t36 = l5 + 1 → Wp X (d + 1) 136 (11, ([some (vp 23 0), some (vs 3 n), some (vi l2), some (vp 27 q2), some (vi t35), some (vi t36), some (vi v6), some (vi v30)], ([], G x m34))) Q))))) ∧ (¬ (l4 < 5) → Q (.inl (some (vi 0)), G x m31))))))) ∧ (¬ (¬ v6 = 35) → Cl X d 139 [vp 23 0] (G x m7) (fun r => ∃ (v37 : Int32) (m38 : MI), r = (.inl (some (vi v37)), G x m38) ∧ ((v37 < 0 → Q (.inl (some (vi 0)), G x m38)) ∧ (¬ (v37 < 0) → ((l4 < 5 → (inb l4 5 = true ∧ (∀ m41 : MI, m41 = mup m38 27 q2 (l4.toNatClampNeg) v37 → (∀ t42 : Int32, t42 = l4 + 1 → (∀ t43 : Int32, t43 = l5 + 1 → Wp X (d + 1) 136 (11, ([some (vp 23 0), some (vs 3 n), some (vi l2), some (vp 27 q2), some (vi t42), some (vi t43), some (vi v6), some (vi v37)], ([], G x m41))) Q))))) ∧ (¬ (l4 < 5) → Q (.inl (some (vi 0)), G x m38))))))))))))))))) : Wp X (d + 1) 136 (11, ([some (vp 23 0), some (vs 3 n), some (vi l2), some (vp 27 q2), some (vi l4), some (vi l5), o6, o7], ([], G x m))) Q := by
  refine wp_run 2 true (14, ([some (vp 23 0), some (vs 3 n), some (vi l2), some (vp 27 q2), some (vi l4), some (vi l5), o6, o7], ([vs 3 n, vi l5], G x m))) rfl rfl ?_
  refine wp_call 323 [vs 3 n] (17, ([some (vp 23 0), some (vs 3 n), some (vi l2), some (vp 27 q2), some (vi l4), some (vi l5), o6, o7], ([vi l5], G x m))) rfl rfl (Cl.mono h (Nat.le_refl _) ?_)
  rintro r ⟨v1, m2, rfl, h⟩
  · show Wp X (d + 1) 136 (17, ([some (vp 23 0), some (vs 3 n), some (vi l2), some (vp 27 q2), some (vi l4), some (vi l5), o6, o7], ([vi v1, vi l5], G x m2))) Q
    refine wp_run 1 true ((bif decide (v1 ≤ l5) then 105 else 20), ([some (vp 23 0), some (vs 3 n), some (vi l2), some (vp 27 q2), some (vi l4), some (vi l5), o6, o7], ([], G x m2))) rfl rfl ?_
    refine wp_if (v1 ≤ l5) (fun c3 => ?_) (fun c3 => ?_)
    · have h := h.1 c3
      refine wp_run 5 true ((bif decide ((m2 23 0 1) ≤ (m2 23 0 2)) then 130 else 116), ([some (vp 23 0), some (vs 3 n), some (vi l2), some (vp 27 q2), some (vi l4), some (vi l5), o6, o7], ([], G x m2))) rfl rfl ?_
      refine wp_if ((m2 23 0 1) ≤ (m2 23 0 2)) (fun c4 => ?_) (fun c4 => ?_)
      · have h := h.1 c4
        refine wp_run 2 true (135, ([some (vp 23 0), some (vs 3 n), some (vi l2), some (vp 27 q2), some (vi l4), some (vi l5), o6, o7], ([vi 1], G x m2))) rfl rfl ?_
        exact wp_ret rfl h
      · have h := h.2 c4
        obtain ⟨hg4_0, h⟩ := h
        refine wp_run 7 (inb (m2 23 0 2) 60 && true) ((bif decide (¬ (m2 24 0 (m2 23 0 2).toNatClampNeg) = 59) then 134 else 130), ([some (vp 23 0), some (vs 3 n), some (vi l2), some (vp 27 q2), some (vi l4), some (vi l5), o6, o7], ([], G x m2))) rfl (and_t hg4_0 rfl) ?_
        refine wp_if (¬ (m2 24 0 (m2 23 0 2).toNatClampNeg) = 59) (fun c5 => ?_) (fun c5 => ?_)
        · have h := h.1 c5
          refine wp_run 1 true (135, ([some (vp 23 0), some (vs 3 n), some (vi l2), some (vp 27 q2), some (vi l4), some (vi l5), o6, o7], ([vi 0], G x m2))) rfl rfl ?_
          exact wp_ret rfl h
        · have h := h.2 c5
          refine wp_run 2 true (135, ([some (vp 23 0), some (vs 3 n), some (vi l2), some (vp 27 q2), some (vi l4), some (vi l5), o6, o7], ([vi 1], G x m2))) rfl rfl ?_
          exact wp_ret rfl h
    · have h := h.2 c3
      refine wp_run 2 true (23, ([some (vp 23 0), some (vs 3 n), some (vi l2), some (vp 27 q2), some (vi l4), some (vi l5), o6, o7], ([vi l5, vs 3 n], G x m2))) rfl rfl ?_
      refine wp_call 324 [vs 3 n, vi l5] (26, ([some (vp 23 0), some (vs 3 n), some (vi l2), some (vp 27 q2), some (vi l4), some (vi l5), o6, o7], ([], G x m2))) rfl rfl (Cl.mono h (Nat.le_refl _) ?_)
      rintro r ⟨v6, m7, rfl, h⟩
      · show Wp X (d + 1) 136 (26, ([some (vp 23 0), some (vs 3 n), some (vi l2), some (vp 27 q2), some (vi l4), some (vi l5), o6, o7], ([vi v6], G x m7))) Q
        refine wp_run 4 true ((bif decide (v6 = 35) then 42 else 35), ([some (vp 23 0), some (vs 3 n), some (vi l2), some (vp 27 q2), some (vi l4), some (vi l5), some (vi v6), o7], ([], G x m7))) rfl rfl ?_
        refine wp_if (v6 = 35) (fun c8 => ?_) (fun c8 => ?_)
        · have h := h.1 c8
          refine wp_run 3 true ((bif decide (¬ v6 = 35) then 56 else 49), ([some (vp 23 0), some (vs 3 n), some (vi l2), some (vp 27 q2), some (vi l4), some (vi l5), some (vi v6), o7], ([], G x m7))) rfl rfl ?_
          refine wp_if (¬ v6 = 35) (fun c9 => ?_) (fun c9 => ?_)
          · have h := h.1 c9
            refine wp_run 1 true (57, ([some (vp 23 0), some (vs 3 n), some (vi l2), some (vp 27 q2), some (vi l4), some (vi l5), some (vi v6), o7], ([vp 23 0], G x m7))) rfl rfl ?_
            refine wp_call 138 [vp 23 0] (60, ([some (vp 23 0), some (vs 3 n), some (vi l2), some (vp 27 q2), some (vi l4), some (vi l5), some (vi v6), o7], ([], G x m7))) rfl rfl (Cl.mono h (Nat.le_refl _) ?_)
            rintro r ⟨v10, m11, rfl, h⟩
            · show Wp X (d + 1) 136 (60, ([some (vp 23 0), some (vs 3 n), some (vi l2), some (vp 27 q2), some (vi l4), some (vi l5), some (vi v6), o7], ([vi v10], G x m11))) Q
              refine wp_run 3 true ((bif decide (v10 < 0) then 74 else 67), ([some (vp 23 0), some (vs 3 n), some (vi l2), some (vp 27 q2), some (vi l4), some (vi l5), some (vi v6), some (vi v10)], ([], G x m11))) rfl rfl ?_
              refine wp_if (v10 < 0) (fun c12 => ?_) (fun c12 => ?_)
              · have h := h.1 c12
                refine wp_run 1 true (75, ([some (vp 23 0), some (vs 3 n), some (vi l2), some (vp 27 q2), some (vi l4), some (vi l5), some (vi v6), some (vi v10)], ([vi 0], G x m11))) rfl rfl ?_
                exact wp_ret rfl h
              · have h := h.2 c12
                refine wp_run 4 true ((bif decide (l4 < 5) then 76 else 74), ([some (vp 23 0), some (vs 3 n), some (vi l2), some (vp 27 q2), some (vi l4), some (vi l5), some (vi v6), some (vi v10)], ([], G x m11))) rfl rfl ?_
                refine wp_if (l4 < 5) (fun c13 => ?_) (fun c13 => ?_)
                · have h := h.1 c13
                  obtain ⟨hg9_0, h⟩ := h
                  refine wp_run 4 (inb l4 5 && true) (82, ([some (vp 23 0), some (vs 3 n), some (vi l2), some (vp 27 q2), some (vi l4), some (vi l5), some (vi v6), some (vi v10)], ([], G x (mup m11 27 q2 (l4.toNatClampNeg) v10)))) rfl (and_t hg9_0 rfl) ?_
                  refine wpg (fun m14 => Wp X (d + 1) 136 (82, ([some (vp 23 0), some (vs 3 n), some (vi l2), some (vp 27 q2), some (vi l4), some (vi l5), some (vi v6), some (vi v10)], ([], G x m14))) Q) (mup m11 27 q2 (l4.toNatClampNeg) v10) (fun m14 hm14 => ?_)
                  have h := h m14 hm14
                  refine wp_run 1 true (85, ([some (vp 23 0), some (vs 3 n), some (vi l2), some (vp 27 q2), some (vi (l4 + 1)), some (vi l5), some (vi v6), some (vi v10)], ([], G x m14))) rfl rfl ?_
                  refine wpg (fun t15 => Wp X (d + 1) 136 (85, ([some (vp 23 0), some (vs 3 n), some (vi l2), some (vp 27 q2), some (vi t15), some (vi l5), some (vi v6), some (vi v10)], ([], G x m14))) Q) (l4 + 1) (fun t15 ht15 => ?_)
                  have h := h t15 ht15
                  refine wp_run 2 true (102, ([some (vp 23 0), some (vs 3 n), some (vi l2), some (vp 27 q2), some (vi t15), some (vi (l5 + 1)), some (vi v6), some (vi v10)], ([], G x m14))) rfl rfl ?_
                  refine wpg (fun t16 => Wp X (d + 1) 136 (102, ([some (vp 23 0), some (vs 3 n), some (vi l2), some (vp 27 q2), some (vi t15), some (vi t16), some (vi v6), some (vi v10)], ([], G x m14))) Q) (l5 + 1) (fun t16 ht16 => ?_)
                  have h := h t16 ht16
                  refine wp_run 1 true (11, ([some (vp 23 0), some (vs 3 n), some (vi l2), some (vp 27 q2), some (vi t15), some (vi t16), some (vi v6), some (vi v10)], ([], G x m14))) rfl rfl ?_
                  exact h
                · have h := h.2 c13
                  refine wp_run 1 true (75, ([some (vp 23 0), some (vs 3 n), some (vi l2), some (vp 27 q2), some (vi l4), some (vi l5), some (vi v6), some (vi v10)], ([vi 0], G x m11))) rfl rfl ?_
                  exact wp_ret rfl h
          · have h := h.2 c9
            refine wp_run 1 true (50, ([some (vp 23 0), some (vs 3 n), some (vi l2), some (vp 27 q2), some (vi l4), some (vi l5), some (vi v6), o7], ([vp 23 0], G x m7))) rfl rfl ?_
            refine wp_call 139 [vp 23 0] (53, ([some (vp 23 0), some (vs 3 n), some (vi l2), some (vp 27 q2), some (vi l4), some (vi l5), some (vi v6), o7], ([], G x m7))) rfl rfl (Cl.mono h (Nat.le_refl _) ?_)
            rintro r ⟨v17, m18, rfl, h⟩
            · show Wp X (d + 1) 136 (53, ([some (vp 23 0), some (vs 3 n), some (vi l2), some (vp 27 q2), some (vi l4), some (vi l5), some (vi v6), o7], ([vi v17], G x m18))) Q
              refine wp_run 4 true ((bif decide (v17 < 0) then 74 else 67), ([some (vp 23 0), some (vs 3 n), some (vi l2), some (vp 27 q2), some (vi l4), some (vi l5), some (vi v6), some (vi v17)], ([], G x m18))) rfl rfl ?_
              refine wp_if (v17 < 0) (fun c19 => ?_) (fun c19 => ?_)
              · have h := h.1 c19
                refine wp_run 1 true (75, ([some (vp 23 0), some (vs 3 n), some (vi l2), some (vp 27 q2), some (vi l4), some (vi l5), some (vi v6), some (vi v17)], ([vi 0], G x m18))) rfl rfl ?_
                exact wp_ret rfl h
              · have h := h.2 c19
                refine wp_run 4 true ((bif decide (l4 < 5) then 76 else 74), ([some (vp 23 0), some (vs 3 n), some (vi l2), some (vp 27 q2), some (vi l4), some (vi l5), some (vi v6), some (vi v17)], ([], G x m18))) rfl rfl ?_
                refine wp_if (l4 < 5) (fun c20 => ?_) (fun c20 => ?_)
                · have h := h.1 c20
                  obtain ⟨hg9_0, h⟩ := h
                  refine wp_run 4 (inb l4 5 && true) (82, ([some (vp 23 0), some (vs 3 n), some (vi l2), some (vp 27 q2), some (vi l4), some (vi l5), some (vi v6), some (vi v17)], ([], G x (mup m18 27 q2 (l4.toNatClampNeg) v17)))) rfl (and_t hg9_0 rfl) ?_
                  refine wpg (fun m21 => Wp X (d + 1) 136 (82, ([some (vp 23 0), some (vs 3 n), some (vi l2), some (vp 27 q2), some (vi l4), some (vi l5), some (vi v6), some (vi v17)], ([], G x m21))) Q) (mup m18 27 q2 (l4.toNatClampNeg) v17) (fun m21 hm21 => ?_)
                  have h := h m21 hm21
                  refine wp_run 1 true (85, ([some (vp 23 0), some (vs 3 n), some (vi l2), some (vp 27 q2), some (vi (l4 + 1)), some (vi l5), some (vi v6), some (vi v17)], ([], G x m21))) rfl rfl ?_
                  refine wpg (fun t22 => Wp X (d + 1) 136 (85, ([some (vp 23 0), some (vs 3 n), some (vi l2), some (vp 27 q2), some (vi t22), some (vi l5), some (vi v6), some (vi v17)], ([], G x m21))) Q) (l4 + 1) (fun t22 ht22 => ?_)
                  have h := h t22 ht22
                  refine wp_run 2 true (102, ([some (vp 23 0), some (vs 3 n), some (vi l2), some (vp 27 q2), some (vi t22), some (vi (l5 + 1)), some (vi v6), some (vi v17)], ([], G x m21))) rfl rfl ?_
                  refine wpg (fun t23 => Wp X (d + 1) 136 (102, ([some (vp 23 0), some (vs 3 n), some (vi l2), some (vp 27 q2), some (vi t22), some (vi t23), some (vi v6), some (vi v17)], ([], G x m21))) Q) (l5 + 1) (fun t23 ht23 => ?_)
                  have h := h t23 ht23
                  refine wp_run 1 true (11, ([some (vp 23 0), some (vs 3 n), some (vi l2), some (vp 27 q2), some (vi t22), some (vi t23), some (vi v6), some (vi v17)], ([], G x m21))) rfl rfl ?_
                  exact h
                · have h := h.2 c20
                  refine wp_run 1 true (75, ([some (vp 23 0), some (vs 3 n), some (vi l2), some (vp 27 q2), some (vi l4), some (vi l5), some (vi v6), some (vi v17)], ([vi 0], G x m18))) rfl rfl ?_
                  exact wp_ret rfl h
        · have h := h.2 c8
          refine wp_run 3 true ((bif decide (¬ v6 = 64) then 88 else 42), ([some (vp 23 0), some (vs 3 n), some (vi l2), some (vp 27 q2), some (vi l4), some (vi l5), some (vi v6), o7], ([], G x m7))) rfl rfl ?_
          refine wp_if (¬ v6 = 64) (fun c24 => ?_) (fun c24 => ?_)
          · have h := h.1 c24
            refine wp_run 2 true (91, ([some (vp 23 0), some (vs 3 n), some (vi l2), some (vp 27 q2), some (vi l4), some (vi l5), some (vi v6), o7], ([vi v6, vp 23 0], G x m7))) rfl rfl ?_
            refine wp_call 137 [vp 23 0, vi v6] (94, ([some (vp 23 0), some (vs 3 n), some (vi l2), some (vp 27 q2), some (vi l4), some (vi l5), some (vi v6), o7], ([], G x m7))) rfl rfl (Cl.mono h (Nat.le_refl _) ?_)
            rintro r ⟨v25, m26, rfl, h⟩
            · show Wp X (d + 1) 136 (94, ([some (vp 23 0), some (vs 3 n), some (vi l2), some (vp 27 q2), some (vi l4), some (vi l5), some (vi v6), o7], ([vi v25], G x m26))) Q
              refine wp_run 1 true ((bif decide (¬ v25 = 0) then 99 else 97), ([some (vp 23 0), some (vs 3 n), some (vi l2), some (vp 27 q2), some (vi l4), some (vi l5), some (vi v6), o7], ([], G x m26))) rfl rfl ?_
              refine wp_if (¬ v25 = 0) (fun c27 => ?_) (fun c27 => ?_)
              · have h := h.1 c27
                refine wp_run 1 true (102, ([some (vp 23 0), some (vs 3 n), some (vi l2), some (vp 27 q2), some (vi l4), some (vi (l5 + 1)), some (vi v6), o7], ([], G x m26))) rfl rfl ?_
                refine wpg (fun t28 => Wp X (d + 1) 136 (102, ([some (vp 23 0), some (vs 3 n), some (vi l2), some (vp 27 q2), some (vi l4), some (vi t28), some (vi v6), o7], ([], G x m26))) Q) (l5 + 1) (fun t28 ht28 => ?_)
                have h := h t28 ht28
                refine wp_run 1 true (11, ([some (vp 23 0), some (vs 3 n), some (vi l2), some (vp 27 q2), some (vi l4), some (vi t28), some (vi v6), o7], ([], G x m26))) rfl rfl ?_
                exact h
              · have h := h.2 c27
                refine wp_run 1 true (98, ([some (vp 23 0), some (vs 3 n), some (vi l2), some (vp 27 q2), some (vi l4), some (vi l5), some (vi v6), o7], ([vi 0], G x m26))) rfl rfl ?_
                exact wp_ret rfl h
          · have h := h.2 c24
            refine wp_run 3 true ((bif decide (¬ v6 = 35) then 56 else 49), ([some (vp 23 0), some (vs 3 n), some (vi l2), some (vp 27 q2), some (vi l4), some (vi l5), some (vi v6), o7], ([], G x m7))) rfl rfl ?_
            refine wp_if (¬ v6 = 35) (fun c29 => ?_) (fun c29 => ?_)
            · have h := h.1 c29
              refine wp_run 1 true (57, ([some (vp 23 0), some (vs 3 n), some (vi l2), some (vp 27 q2), some (vi l4), some (vi l5), some (vi v6), o7], ([vp 23 0], G x m7))) rfl rfl ?_
              refine wp_call 138 [vp 23 0] (60, ([some (vp 23 0), some (vs 3 n), some (vi l2), some (vp 27 q2), some (vi l4), some (vi l5), some (vi v6), o7], ([], G x m7))) rfl rfl (Cl.mono h (Nat.le_refl _) ?_)
              rintro r ⟨v30, m31, rfl, h⟩
              · show Wp X (d + 1) 136 (60, ([some (vp 23 0), some (vs 3 n), some (vi l2), some (vp 27 q2), some (vi l4), some (vi l5), some (vi v6), o7], ([vi v30], G x m31))) Q
                refine wp_run 3 true ((bif decide (v30 < 0) then 74 else 67), ([some (vp 23 0), some (vs 3 n), some (vi l2), some (vp 27 q2), some (vi l4), some (vi l5), some (vi v6), some (vi v30)], ([], G x m31))) rfl rfl ?_
                refine wp_if (v30 < 0) (fun c32 => ?_) (fun c32 => ?_)
                · have h := h.1 c32
                  refine wp_run 1 true (75, ([some (vp 23 0), some (vs 3 n), some (vi l2), some (vp 27 q2), some (vi l4), some (vi l5), some (vi v6), some (vi v30)], ([vi 0], G x m31))) rfl rfl ?_
                  exact wp_ret rfl h
                · have h := h.2 c32
                  refine wp_run 4 true ((bif decide (l4 < 5) then 76 else 74), ([some (vp 23 0), some (vs 3 n), some (vi l2), some (vp 27 q2), some (vi l4), some (vi l5), some (vi v6), some (vi v30)], ([], G x m31))) rfl rfl ?_
                  refine wp_if (l4 < 5) (fun c33 => ?_) (fun c33 => ?_)
                  · have h := h.1 c33
                    obtain ⟨hg10_0, h⟩ := h
                    refine wp_run 4 (inb l4 5 && true) (82, ([some (vp 23 0), some (vs 3 n), some (vi l2), some (vp 27 q2), some (vi l4), some (vi l5), some (vi v6), some (vi v30)], ([], G x (mup m31 27 q2 (l4.toNatClampNeg) v30)))) rfl (and_t hg10_0 rfl) ?_
                    refine wpg (fun m34 => Wp X (d + 1) 136 (82, ([some (vp 23 0), some (vs 3 n), some (vi l2), some (vp 27 q2), some (vi l4), some (vi l5), some (vi v6), some (vi v30)], ([], G x m34))) Q) (mup m31 27 q2 (l4.toNatClampNeg) v30) (fun m34 hm34 => ?_)
                    have h := h m34 hm34
                    refine wp_run 1 true (85, ([some (vp 23 0), some (vs 3 n), some (vi l2), some (vp 27 q2), some (vi (l4 + 1)), some (vi l5), some (vi v6), some (vi v30)], ([], G x m34))) rfl rfl ?_
                    refine wpg (fun t35 => Wp X (d + 1) 136 (85, ([some (vp 23 0), some (vs 3 n), some (vi l2), some (vp 27 q2), some (vi t35), some (vi l5), some (vi v6), some (vi v30)], ([], G x m34))) Q) (l4 + 1) (fun t35 ht35 => ?_)
                    have h := h t35 ht35
                    refine wp_run 2 true (102, ([some (vp 23 0), some (vs 3 n), some (vi l2), some (vp 27 q2), some (vi t35), some (vi (l5 + 1)), some (vi v6), some (vi v30)], ([], G x m34))) rfl rfl ?_
                    refine wpg (fun t36 => Wp X (d + 1) 136 (102, ([some (vp 23 0), some (vs 3 n), some (vi l2), some (vp 27 q2), some (vi t35), some (vi t36), some (vi v6), some (vi v30)], ([], G x m34))) Q) (l5 + 1) (fun t36 ht36 => ?_)
                    have h := h t36 ht36
                    refine wp_run 1 true (11, ([some (vp 23 0), some (vs 3 n), some (vi l2), some (vp 27 q2), some (vi t35), some (vi t36), some (vi v6), some (vi v30)], ([], G x m34))) rfl rfl ?_
                    exact h
                  · have h := h.2 c33
                    refine wp_run 1 true (75, ([some (vp 23 0), some (vs 3 n), some (vi l2), some (vp 27 q2), some (vi l4), some (vi l5), some (vi v6), some (vi v30)], ([vi 0], G x m31))) rfl rfl ?_
                    exact wp_ret rfl h
            · have h := h.2 c29
              refine wp_run 1 true (50, ([some (vp 23 0), some (vs 3 n), some (vi l2), some (vp 27 q2), some (vi l4), some (vi l5), some (vi v6), o7], ([vp 23 0], G x m7))) rfl rfl ?_
              refine wp_call 139 [vp 23 0] (53, ([some (vp 23 0), some (vs 3 n), some (vi l2), some (vp 27 q2), some (vi l4), some (vi l5), some (vi v6), o7], ([], G x m7))) rfl rfl (Cl.mono h (Nat.le_refl _) ?_)
              rintro r ⟨v37, m38, rfl, h⟩
              · show Wp X (d + 1) 136 (53, ([some (vp 23 0), some (vs 3 n), some (vi l2), some (vp 27 q2), some (vi l4), some (vi l5), some (vi v6), o7], ([vi v37], G x m38))) Q
                refine wp_run 4 true ((bif decide (v37 < 0) then 74 else 67), ([some (vp 23 0), some (vs 3 n), some (vi l2), some (vp 27 q2), some (vi l4), some (vi l5), some (vi v6), some (vi v37)], ([], G x m38))) rfl rfl ?_
                refine wp_if (v37 < 0) (fun c39 => ?_) (fun c39 => ?_)
                · have h := h.1 c39
                  refine wp_run 1 true (75, ([some (vp 23 0), some (vs 3 n), some (vi l2), some (vp 27 q2), some (vi l4), some (vi l5), some (vi v6), some (vi v37)], ([vi 0], G x m38))) rfl rfl ?_
                  exact wp_ret rfl h
                · have h := h.2 c39
                  refine wp_run 4 true ((bif decide (l4 < 5) then 76 else 74), ([some (vp 23 0), some (vs 3 n), some (vi l2), some (vp 27 q2), some (vi l4), some (vi l5), some (vi v6), some (vi v37)], ([], G x m38))) rfl rfl ?_
                  refine wp_if (l4 < 5) (fun c40 => ?_) (fun c40 => ?_)
                  · have h := h.1 c40
                    obtain ⟨hg10_0, h⟩ := h
                    refine wp_run 4 (inb l4 5 && true) (82, ([some (vp 23 0), some (vs 3 n), some (vi l2), some (vp 27 q2), some (vi l4), some (vi l5), some (vi v6), some (vi v37)], ([], G x (mup m38 27 q2 (l4.toNatClampNeg) v37)))) rfl (and_t hg10_0 rfl) ?_
                    refine wpg (fun m41 => Wp X (d + 1) 136 (82, ([some (vp 23 0), some (vs 3 n), some (vi l2), some (vp 27 q2), some (vi l4), some (vi l5), some (vi v6), some (vi v37)], ([], G x m41))) Q) (mup m38 27 q2 (l4.toNatClampNeg) v37) (fun m41 hm41 => ?_)
                    have h := h m41 hm41
                    refine wp_run 1 true (85, ([some (vp 23 0), some (vs 3 n), some (vi l2), some (vp 27 q2), some (vi (l4 + 1)), some (vi l5), some (vi v6), some (vi v37)], ([], G x m41))) rfl rfl ?_
                    refine wpg (fun t42 => Wp X (d + 1) 136 (85, ([some (vp 23 0), some (vs 3 n), some (vi l2), some (vp 27 q2), some (vi t42), some (vi l5), some (vi v6), some (vi v37)], ([], G x m41))) Q) (l4 + 1) (fun t42 ht42 => ?_)
                    have h := h t42 ht42
                    refine wp_run 2 true (102, ([some (vp 23 0), some (vs 3 n), some (vi l2), some (vp 27 q2), some (vi t42), some (vi (l5 + 1)), some (vi v6), some (vi v37)], ([], G x m41))) rfl rfl ?_
                    refine wpg (fun t43 => Wp X (d + 1) 136 (102, ([some (vp 23 0), some (vs 3 n), some (vi l2), some (vp 27 q2), some (vi t42), some (vi t43), some (vi v6), some (vi v37)], ([], G x m41))) Q) (l5 + 1) (fun t43 ht43 => ?_)
                    have h := h t43 ht43
                    refine wp_run 1 true (11, ([some (vp 23 0), some (vs 3 n), some (vi l2), some (vp 27 q2), some (vi t42), some (vi t43), some (vi v6), some (vi v37)], ([], G x m41))) rfl rfl ?_
                    exact h
                  · have h := h.2 c40
                    refine wp_run 1 true (75, ([some (vp 23 0), some (vs 3 n), some (vi l2), some (vp 27 q2), some (vi l4), some (vi l5), some (vi v6), some (vi v37)], ([vi 0], G x m38))) rfl rfl ?_
                    exact wp_ret rfl h
set_option maxRecDepth 100000 in
set_option maxHeartbeats 4000000 in
theorem vc_X5_readSign {X : MX} {d : Nat} {x : Int64 × UInt64} {m : MI} {Q : MRes → Prop} {p0 : Int32} (h : (((m 23 0 1) ≤ (m 23 0 2) → Q (.inl (some (vi 0)), G x m)) ∧ (¬ ((m 23 0 1) ≤ (m 23 0 2)) → (inb (m 23 0 2) 60 = true ∧ (((m 24 0 (m 23 0 2).toNatClampNeg) = p0 → (∀ m3 : MI, m3 = mup m 23 0 2 ((m 23 0 2) + 1) → Q (.inl (some (vi 1)), G x m3))) ∧ (¬ ((m 24 0 (m 23 0 2).toNatClampNeg) = p0) → Q (.inl (some (vi 0)), G x m))))))) : Cl X d 137 [vp 23 0, vi p0] (G x m) Q := by
  show Wp X d 137 (0, ([some (vp 23 0), some (vi p0)], ([], G x m))) Q
  refine wp_run 5 true ((bif decide ((m 23 0 1) ≤ (m 23 0 2)) then 24 else 11), ([some (vp 23 0), some (vi p0)], ([], G x m))) rfl rfl ?_
  refine wp_if ((m 23 0 1) ≤ (m 23 0 2)) (fun c1 => ?_) (fun c1 => ?_)
  · have h := h.1 c1
    refine wp_run 1 true (25, ([some (vp 23 0), some (vi p0)], ([vi 0], G x m))) rfl rfl ?_
    exact wp_ret rfl h
  · have h := h.2 c1
    obtain ⟨hg2_0, h⟩ := h
    refine wp_run 7 (inb (m 23 0 2) 60 && true) ((bif decide ((m 24 0 (m 23 0 2).toNatClampNeg) = p0) then 26 else 24), ([some (vp 23 0), some (vi p0)], ([], G x m))) rfl (and_t hg2_0 rfl) ?_
    refine wp_if ((m 24 0 (m 23 0 2).toNatClampNeg) = p0) (fun c2 => ?_) (fun c2 => ?_)
    · have h := h.1 c2
      refine wp_run 6 true (36, ([some (vp 23 0), some (vi p0)], ([], G x (mup m 23 0 2 ((m 23 0 2) + 1))))) rfl rfl ?_
      refine wpg (fun m3 => Wp X d 137 (36, ([some (vp 23 0), some (vi p0)], ([], G x m3))) Q) (mup m 23 0 2 ((m 23 0 2) + 1)) (fun m3 hm3 => ?_)
      have h := h m3 hm3
      refine wp_run 1 true (37, ([some (vp 23 0), some (vi p0)], ([vi 1], G x m3))) rfl rfl ?_
      exact wp_ret rfl h
    · have h := h.2 c2
      refine wp_run 1 true (25, ([some (vp 23 0), some (vi p0)], ([vi 0], G x m))) rfl rfl ?_
      exact wp_ret rfl h
set_option maxRecDepth 100000 in
set_option maxHeartbeats 4000000 in
theorem vc_X5_readMetric {X : MX} {d : Nat} {x : Int64 × UInt64} {m : MI} {Q : MRes → Prop} (h : (((m 23 0 1) ≤ (m 23 0 2) → Q (.inl (some (vi (-1))), G x m)) ∧ (¬ ((m 23 0 1) ≤ (m 23 0 2)) → (inb (m 23 0 2) 60 = true ∧ Cl X d 59 [vi (m 24 0 (m 23 0 2).toNatClampNeg)] (G x m) (fun r => ∃ (v2 : Int32) (m3 : MI), r = (.inl (some (vi v2)), G x m3) ∧ ((¬ v2 = 0 → (∀ m5 : MI, m5 = mup m3 23 0 2 ((m3 23 0 2) + 1) → (inb ((m5 23 0 2) - 1) 60 = true ∧ Q (.inl (some (vi (m5 24 0 ((m5 23 0 2) - 1).toNatClampNeg))), G x m5)))) ∧ (¬ (¬ v2 = 0) → Q (.inl (some (vi (-1))), G x m3)))))))) : Cl X (d + 1) 138 [vp 23 0] (G x m) Q := by
  show Wp X (d + 1) 138 (0, ([some (vp 23 0)], ([], G x m))) Q
  refine wp_run 5 true ((bif decide ((m 23 0 1) ≤ (m 23 0 2)) then 26 else 11), ([some (vp 23 0)], ([], G x m))) rfl rfl ?_
  refine wp_if ((m 23 0 1) ≤ (m 23 0 2)) (fun c1 => ?_) (fun c1 => ?_)
  · have h := h.1 c1
    refine wp_run 1 true (27, ([some (vp 23 0)], ([vi (-1)], G x m))) rfl rfl ?_
    exact wp_ret rfl h
  · have h := h.2 c1
    obtain ⟨hg2_0, h⟩ := h
    refine wp_run 5 (inb (m 23 0 2) 60 && true) (20, ([some (vp 23 0)], ([vi (m 24 0 (m 23 0 2).toNatClampNeg)], G x m))) rfl (and_t hg2_0 rfl) ?_
    refine wp_call 59 [vi (m 24 0 (m 23 0 2).toNatClampNeg)] (23, ([some (vp 23 0)], ([], G x m))) rfl rfl (Cl.mono h (Nat.le_refl _) ?_)
    rintro r ⟨v2, m3, rfl, h⟩
    · show Wp X (d + 1) 138 (23, ([some (vp 23 0)], ([vi v2], G x m3))) Q
      refine wp_run 1 true ((bif decide (¬ v2 = 0) then 28 else 26), ([some (vp 23 0)], ([], G x m3))) rfl rfl ?_
      refine wp_if (¬ v2 = 0) (fun c4 => ?_) (fun c4 => ?_)
      · have h := h.1 c4
        refine wp_run 6 true (38, ([some (vp 23 0)], ([], G x (mup m3 23 0 2 ((m3 23 0 2) + 1))))) rfl rfl ?_
        refine wpg (fun m5 => Wp X (d + 1) 138 (38, ([some (vp 23 0)], ([], G x m5))) Q) (mup m3 23 0 2 ((m3 23 0 2) + 1)) (fun m5 hm5 => ?_)
        have h := h m5 hm5
        obtain ⟨hg4_0, h⟩ := h
        refine wp_run 7 (inb ((m5 23 0 2) - 1) 60 && true) (49, ([some (vp 23 0)], ([vi (m5 24 0 ((m5 23 0 2) - 1).toNatClampNeg)], G x m5))) rfl (and_t hg4_0 rfl) ?_
        exact wp_ret rfl h
      · have h := h.2 c4
        refine wp_run 1 true (27, ([some (vp 23 0)], ([vi (-1)], G x m3))) rfl rfl ?_
        exact wp_ret rfl h
set_option maxRecDepth 100000 in
set_option maxHeartbeats 4000000 in
theorem vc_X5_readNumber {X : MX} {d : Nat} {x : Int64 × UInt64} {m : MI} {Q : MRes → Prop} (h : Wp X (d + 1) 139 (4, ([some (vp 23 0), some (vi (-1)), some (vi 0)], ([], G x m))) Q) : Cl X (d + 1) 139 [vp 23 0] (G x m) Q := by
  show Wp X (d + 1) 139 (0, ([some (vp 23 0), none, none], ([], G x m))) Q
  refine wp_run 4 true (4, ([some (vp 23 0), some (vi (-1)), some (vi 0)], ([], G x m))) rfl rfl ?_
  exact h
set_option maxRecDepth 100000 in
set_option maxHeartbeats 4000000 in
theorem vl_X5_readNumber_4 {X : MX} {d : Nat} {x : Int64 × UInt64} {m : MI} {Q : MRes → Prop} {l1 : Int32} {l2 : Int32} (h : ((4 ≤ l2 → Q (.inl (some (vi l1)), G x m)) ∧ (¬ (4 ≤ l2) → Cl X d 140 [vp 23 0] (G x m) (fun r => ∃ (v2 : Int32) (m3 : MI), r = (.inl (some (vi v2)), G x m3) ∧ ((v2 = 0 → Q (.inl (some (vi l1)), G x m3)) ∧ (¬ (v2 = 0) → (inb (m3 23 0 2) 60 = true ∧ (∀ t5 : Int32, t5 = (((if l1 < 0 then 0 else l1) * 10) + (m3 24 0 (m3 23 0 2).toNatClampNeg)) - 48 → (∀ m6 : MI, m6 = mup m3 23 0 2 ((m3 23 0 2) + 1) → (∀ t7 : Int32, t7 = l2 + 1 → Wp X (d + 1) 139 (4, ([some (vp 23 0), some (vi t5), some (vi t7)], ([], G x m6))) Q)))))))))) : Wp X (d + 1) 139 (4, ([some (vp 23 0), some (vi l1), some (vi l2)], ([], G x m))) Q := by
  refine wp_run 3 true ((bif decide (4 ≤ l2) then 54 else 9), ([some (vp 23 0), some (vi l1), some (vi l2)], ([], G x m))) rfl rfl ?_
  refine wp_if (4 ≤ l2) (fun c1 => ?_) (fun c1 => ?_)
  · have h := h.1 c1
    refine wp_run 1 true (55, ([some (vp 23 0), some (vi l1), some (vi l2)], ([vi l1], G x m))) rfl rfl ?_
    exact wp_ret rfl h
  · have h := h.2 c1
    refine wp_run 1 true (10, ([some (vp 23 0), some (vi l1), some (vi l2)], ([vp 23 0], G x m))) rfl rfl ?_
    refine wp_call 140 [vp 23 0] (13, ([some (vp 23 0), some (vi l1), some (vi l2)], ([], G x m))) rfl rfl (Cl.mono h (Nat.le_refl _) ?_)
    rintro r ⟨v2, m3, rfl, h⟩
    · show Wp X (d + 1) 139 (13, ([some (vp 23 0), some (vi l1), some (vi l2)], ([vi v2], G x m3))) Q
      refine wp_run 1 true ((bif decide (v2 = 0) then 54 else 16), ([some (vp 23 0), some (vi l1), some (vi l2)], ([], G x m3))) rfl rfl ?_
      refine wp_if (v2 = 0) (fun c4 => ?_) (fun c4 => ?_)
      · have h := h.1 c4
        refine wp_run 1 true (55, ([some (vp 23 0), some (vi l1), some (vi l2)], ([vi l1], G x m3))) rfl rfl ?_
        exact wp_ret rfl h
      · have h := h.2 c4
        obtain ⟨hg4_0, h⟩ := h
        refine wp_run 14 (inb (m3 23 0 2) 60 && true) (38, ([some (vp 23 0), some (vi ((((if l1 < 0 then 0 else l1) * 10) + (m3 24 0 (m3 23 0 2).toNatClampNeg)) - 48)), some (vi l2)], ([], G x m3))) rfl (and_t hg4_0 rfl) ?_
        refine wpg (fun t5 => Wp X (d + 1) 139 (38, ([some (vp 23 0), some (vi t5), some (vi l2)], ([], G x m3))) Q) ((((if l1 < 0 then 0 else l1) * 10) + (m3 24 0 (m3 23 0 2).toNatClampNeg)) - 48) (fun t5 ht5 => ?_)
        have h := h t5 ht5
        refine wp_run 6 true (48, ([some (vp 23 0), some (vi t5), some (vi l2)], ([], G x (mup m3 23 0 2 ((m3 23 0 2) + 1))))) rfl rfl ?_
        refine wpg (fun m6 => Wp X (d + 1) 139 (48, ([some (vp 23 0), some (vi t5), some (vi l2)], ([], G x m6))) Q) (mup m3 23 0 2 ((m3 23 0 2) + 1)) (fun m6 hm6 => ?_)
        have h := h m6 hm6
        refine wp_run 1 true (51, ([some (vp 23 0), some (vi t5), some (vi (l2 + 1))], ([], G x m6))) rfl rfl ?_
        refine wpg (fun t7 => Wp X (d + 1) 139 (51, ([some (vp 23 0), some (vi t5), some (vi t7)], ([], G x m6))) Q) (l2 + 1) (fun t7 ht7 => ?_)
        have h := h t7 ht7
        refine wp_run 1 true (4, ([some (vp 23 0), some (vi t5), some (vi t7)], ([], G x m6))) rfl rfl ?_
        exact h
set_option maxRecDepth 100000 in
set_option maxHeartbeats 4000000 in
theorem vc_X5_isDigitNext {X : MX} {d : Nat} {x : Int64 × UInt64} {m : MI} {Q : MRes → Prop} (h : (((m 23 0 1) ≤ (m 23 0 2) → Q (.inl (some (vi 0)), G x m)) ∧ (¬ ((m 23 0 1) ≤ (m 23 0 2)) → (inb (m 23 0 2) 60 = true ∧ (((m 24 0 (m 23 0 2).toNatClampNeg) < 48 → Q (.inl (some (vi 0)), G x m)) ∧ (¬ ((m 24 0 (m 23 0 2).toNatClampNeg) < 48) → (inb (m 23 0 2) 60 = true ∧ ((57 < (m 24 0 (m 23 0 2).toNatClampNeg) → Q (.inl (some (vi 0)), G x m)) ∧ (¬ (57 < (m 24 0 (m 23 0 2).toNatClampNeg)) → Q (.inl (some (vi 1)), G x m)))))))))) : Cl X d 140 [vp 23 0] (G x m) Q := by
  show Wp X d 140 (0, ([some (vp 23 0)], ([], G x m))) Q
  refine wp_run 5 true ((bif decide ((m 23 0 1) ≤ (m 23 0 2)) then 43 else 11), ([some (vp 23 0)], ([], G x m))) rfl rfl ?_
  refine wp_if ((m 23 0 1) ≤ (m 23 0 2)) (fun c1 => ?_) (fun c1 => ?_)
  · have h := h.1 c1
    refine wp_run 1 true (44, ([some (vp 23 0)], ([vi 0], G x m))) rfl rfl ?_
    exact wp_ret rfl h
  · have h := h.2 c1
    obtain ⟨hg2_0, h⟩ := h
    refine wp_run 7 (inb (m 23 0 2) 60 && true) ((bif decide ((m 24 0 (m 23 0 2).toNatClampNeg) < 48) then 43 else 25), ([some (vp 23 0)], ([], G x m))) rfl (and_t hg2_0 rfl) ?_
    refine wp_if ((m 24 0 (m 23 0 2).toNatClampNeg) < 48) (fun c2 => ?_) (fun c2 => ?_)
    · have h := h.1 c2
      refine wp_run 1 true (44, ([some (vp 23 0)], ([vi 0], G x m))) rfl rfl ?_
      exact wp_ret rfl h
    · have h := h.2 c2
      obtain ⟨hg3_0, h⟩ := h
      refine wp_run 7 (inb (m 23 0 2) 60 && true) ((bif decide (57 < (m 24 0 (m 23 0 2).toNatClampNeg)) then 43 else 39), ([some (vp 23 0)], ([], G x m))) rfl (and_t hg3_0 rfl) ?_
      refine wp_if (57 < (m 24 0 (m 23 0 2).toNatClampNeg)) (fun c3 => ?_) (fun c3 => ?_)
      · have h := h.1 c3
        refine wp_run 1 true (44, ([some (vp 23 0)], ([vi 0], G x m))) rfl rfl ?_
        exact wp_ret rfl h
      · have h := h.2 c3
        refine wp_run 2 true (44, ([some (vp 23 0)], ([vi 1], G x m))) rfl rfl ?_
        exact wp_ret rfl h
set_option maxRecDepth 100000 in
set_option maxHeartbeats 4000000 in
theorem vc_X9_start_5 {X : MX} {d : Nat} {x : Int64 × UInt64} {m : MI} {Q : MRes → Prop} {q0 : Nat} {p1 : Int32} (h : (∀ m1 : MI, m1 = mup m 28 0 1 0 → Cl X d 144 [vp 28 0, vi (m1 5 q0 0)] (G x m1) (fun r => ∃ (m3 : MI), r = (.inl none, G x m3) ∧ Cl X d 143 [vp 28 0, vi p1] (G x m3) (fun r => ∃ (m5 : MI), r = (.inl none, G x m5) ∧ Cl X d 144 [vp 28 0, vi (m5 5 q0 1)] (G x m5) (fun r => ∃ (m7 : MI), r = (.inl none, G x m7) ∧ Cl X d 143 [vp 28 0, vi 47] (G x m7) (fun r => ∃ (m9 : MI), r = (.inl none, G x m9) ∧ Cl X d 144 [vp 28 0, vi (m9 5 q0 2)] (G x m9) (fun r => ∃ (m11 : MI), r = (.inl none, G x m11) ∧ Cl X d 143 [vp 28 0, vi 47] (G x m11) (fun r => ∃ (m13 : MI), r = (.inl none, G x m13) ∧ Cl X d 144 [vp 28 0, vi (m13 5 q0 3)] (G x m13) (fun r => ∃ (m15 : MI), r = (.inl none, G x m15) ∧ Q (.inl none, G x m15)))))))))) : Cl X (d + 1) 142 [vp 28 0, vp 5 q0, vi p1] (G x m) Q := by
  show Wp X (d + 1) 142 (0, ([some (vp 28 0), some (vp 5 q0), some (vi p1)], ([], G x m))) Q
  refine wp_run 3 true (5, ([some (vp 28 0), some (vp 5 q0), some (vi p1)], ([], G x (mup m 28 0 1 0)))) rfl rfl ?_
  refine wpg (fun m1 => Wp X (d + 1) 142 (5, ([some (vp 28 0), some (vp 5 q0), some (vi p1)], ([], G x m1))) Q) (mup m 28 0 1 0) (fun m1 hm1 => ?_)
  have h := h m1 hm1
  refine wp_run 4 true (9, ([some (vp 28 0), some (vp 5 q0), some (vi p1)], ([vi (m1 5 q0 0), vp 28 0], G x m1))) rfl rfl ?_
  refine wp_call 144 [vp 28 0, vi (m1 5 q0 0)] (12, ([some (vp 28 0), some (vp 5 q0), some (vi p1)], ([], G x m1))) rfl rfl (Cl.mono h (Nat.le_refl _) ?_)
  rintro r ⟨m3, rfl, h⟩
  · show Wp X (d + 1) 142 (12, ([some (vp 28 0), some (vp 5 q0), some (vi p1)], ([], G x m3))) Q
    refine wp_run 2 true (14, ([some (vp 28 0), some (vp 5 q0), some (vi p1)], ([vi p1, vp 28 0], G x m3))) rfl rfl ?_
    refine wp_call 143 [vp 28 0, vi p1] (17, ([some (vp 28 0), some (vp 5 q0), some (vi p1)], ([], G x m3))) rfl rfl (Cl.mono h (Nat.le_refl _) ?_)
    rintro r ⟨m5, rfl, h⟩
    · show Wp X (d + 1) 142 (17, ([some (vp 28 0), some (vp 5 q0), some (vi p1)], ([], G x m5))) Q
      refine wp_run 4 true (21, ([some (vp 28 0), some (vp 5 q0), some (vi p1)], ([vi (m5 5 q0 1), vp 28 0], G x m5))) rfl rfl ?_
      refine wp_call 144 [vp 28 0, vi (m5 5 q0 1)] (24, ([some (vp 28 0), some (vp 5 q0), some (vi p1)], ([], G x m5))) rfl rfl (Cl.mono h (Nat.le_refl _) ?_)
      rintro r ⟨m7, rfl, h⟩
      · show Wp X (d + 1) 142 (24, ([some (vp 28 0), some (vp 5 q0), some (vi p1)], ([], G x m7))) Q
        refine wp_run 2 true (27, ([some (vp 28 0), some (vp 5 q0), some (vi p1)], ([vi 47, vp 28 0], G x m7))) rfl rfl ?_
        refine wp_call 143 [vp 28 0, vi 47] (30, ([some (vp 28 0), some (vp 5 q0), some (vi p1)], ([], G x m7))) rfl rfl (Cl.mono h (Nat.le_refl _) ?_)
        rintro r ⟨m9, rfl, h⟩
        · show Wp X (d + 1) 142 (30, ([some (vp 28 0), some (vp 5 q0), some (vi p1)], ([], G x m9))) Q
          refine wp_run 4 true (34, ([some (vp 28 0), some (vp 5 q0), some (vi p1)], ([vi (m9 5 q0 2), vp 28 0], G x m9))) rfl rfl ?_
          refine wp_call 144 [vp 28 0, vi (m9 5 q0 2)] (37, ([some (vp 28 0), some (vp 5 q0), some (vi p1)], ([], G x m9))) rfl rfl (Cl.mono h (Nat.le_refl _) ?_)
          rintro r ⟨m11, rfl, h⟩
          · show Wp X (d + 1) 142 (37, ([some (vp 28 0), some (vp 5 q0), some (vi p1)], ([], G x m11))) Q
            refine wp_run 2 true (40, ([some (vp 28 0), some (vp 5 q0), some (vi p1)], ([vi 47, vp 28 0], G x m11))) rfl rfl ?_
            refine wp_call 143 [vp 28 0, vi 47] (43, ([some (vp 28 0), some (vp 5 q0), some (vi p1)], ([], G x m11))) rfl rfl (Cl.mono h (Nat.le_refl _) ?_)
            rintro r ⟨m13, rfl, h⟩
            · show Wp X (d + 1) 142 (43, ([some (vp 28 0), some (vp 5 q0), some (vi p1)], ([], G x m13))) Q
              refine wp_run 4 true (47, ([some (vp 28 0), some (vp 5 q0), some (vi p1)], ([vi (m13 5 q0 3), vp 28 0], G x m13))) rfl rfl ?_
              refine wp_call 144 [vp 28 0, vi (m13 5 q0 3)] (50, ([some (vp 28 0), some (vp 5 q0), some (vi p1)], ([], G x m13))) rfl rfl (Cl.mono h (Nat.le_refl _) ?_)
              rintro r ⟨m15, rfl, h⟩
              · show Wp X (d + 1) 142 (50, ([some (vp 28 0), some (vp 5 q0), some (vi p1)], ([], G x m15))) Q
                exact wp_ret rfl h
set_option maxRecDepth 100000 in
set_option maxHeartbeats 4000000 in
theorem vc_X9_start_7 {X : MX} {d : Nat} {x : Int64 × UInt64} {m : MI} {Q : MRes → Prop} {q0 : Nat} {p1 : Int32} (h : (∀ m1 : MI, m1 = mup m 28 0 1 0 → Cl X d 144 [vp 28 0, vi (m1 7 q0 0)] (G x m1) (fun r => ∃ (m3 : MI), r = (.inl none, G x m3) ∧ Cl X d 143 [vp 28 0, vi p1] (G x m3) (fun r => ∃ (m5 : MI), r = (.inl none, G x m5) ∧ Cl X d 144 [vp 28 0, vi (m5 7 q0 1)] (G x m5) (fun r => ∃ (m7 : MI), r = (.inl none, G x m7) ∧ Cl X d 143 [vp 28 0, vi 47] (G x m7) (fun r => ∃ (m9 : MI), r = (.inl none, G x m9) ∧ Cl X d 144 [vp 28 0, vi (m9 7 q0 2)] (G x m9) (fun r => ∃ (m11 : MI), r = (.inl none, G x m11) ∧ Cl X d 143 [vp 28 0, vi 47] (G x m11) (fun r => ∃ (m13 : MI), r = (.inl none, G x m13) ∧ Cl X d 144 [vp 28 0, vi (m13 7 q0 3)] (G x m13) (fun r => ∃ (m15 : MI), r = (.inl none, G x m15) ∧ Q (.inl none, G x m15)))))))))) : Cl X (d + 1) 142 [vp 28 0, vp 7 q0, vi p1] (G x m) Q := by
  show Wp X (d + 1) 142 (0, ([some (vp 28 0), some (vp 7 q0), some (vi p1)], ([], G x m))) Q
  refine wp_run 3 true (5, ([some (vp 28 0), some (vp 7 q0), some (vi p1)], ([], G x (mup m 28 0 1 0)))) rfl rfl ?_
  refine wpg (fun m1 => Wp X (d + 1) 142 (5, ([some (vp 28 0), some (vp 7 q0), some (vi p1)], ([], G x m1))) Q) (mup m 28 0 1 0) (fun m1 hm1 => ?_)
  have h := h m1 hm1
  refine wp_run 4 true (9, ([some (vp 28 0), some (vp 7 q0), some (vi p1)], ([vi (m1 7 q0 0), vp 28 0], G x m1))) rfl rfl ?_
  refine wp_call 144 [vp 28 0, vi (m1 7 q0 0)] (12, ([some (vp 28 0), some (vp 7 q0), some (vi p1)], ([], G x m1))) rfl rfl (Cl.mono h (Nat.le_refl _) ?_)
  rintro r ⟨m3, rfl, h⟩
  · show Wp X (d + 1) 142 (12, ([some (vp 28 0), some (vp 7 q0), some (vi p1)], ([], G x m3))) Q
    refine wp_run 2 true (14, ([some (vp 28 0), some (vp 7 q0), some (vi p1)], ([vi p1, vp 28 0], G x m3))) rfl rfl ?_
    refine wp_call 143 [vp 28 0, vi p1] (17, ([some (vp 28 0), some (vp 7 q0), some (vi p1)], ([], G x m3))) rfl rfl (Cl.mono h (Nat.le_refl _) ?_)
    rintro r ⟨m5, rfl, h⟩
    · show Wp X (d + 1) 142 (17, ([some (vp 28 0), some (vp 7 q0), some (vi p1)], ([], G x m5))) Q
      refine wp_run 4 true (21, ([some (vp 28 0), some (vp 7 q0), some (vi p1)], ([vi (m5 7 q0 1), vp 28 0], G x m5))) rfl rfl ?_
      refine wp_call 144 [vp 28 0, vi (m5 7 q0 1)] (24, ([some (vp 28 0), some (vp 7 q0), some (vi p1)], ([], G x m5))) rfl rfl (Cl.mono h (Nat.le_refl _) ?_)
      rintro r ⟨m7, rfl, h⟩
      · show Wp X (d + 1) 142 (24, ([some (vp 28 0), some (vp 7 q0), some (vi p1)], ([], G x m7))) Q
        refine wp_run 2 true (27, ([some (vp 28 0), some (vp 7 q0), some (vi p1)], ([vi 47, vp 28 0], G x m7))) rfl rfl ?_
        refine wp_call 143 [vp 28 0, vi 47] (30, ([some (vp 28 0), some (vp 7 q0), some (vi p1)], ([], G x m7))) rfl rfl (Cl.mono h (Nat.le_refl _) ?_)
        rintro r ⟨m9, rfl, h⟩
        · show Wp X (d + 1) 142 (30, ([some (vp 28 0), some (vp 7 q0), some (vi p1)], ([], G x m9))) Q
          refine wp_run 4 true (34, ([some (vp 28 0), some (vp 7 q0), some (vi p1)], ([vi (m9 7 q0 2), vp 28 0], G x m9))) rfl rfl ?_
          refine wp_call 144 [vp 28 0, vi (m9 7 q0 2)] (37, ([some (vp 28 0), some (vp 7 q0), some (vi p1)], ([], G x m9))) rfl rfl (Cl.mono h (Nat.le_refl _) ?_)
          rintro r ⟨m11, rfl, h⟩
          · show Wp X (d + 1) 142 (37, ([some (vp 28 0), some (vp 7 q0), some (vi p1)], ([], G x m11))) Q
            refine wp_run 2 true (40, ([some (vp 28 0), some (vp 7 q0), some (vi p1)], ([vi 47, vp 28 0], G x m11))) rfl rfl ?_
            refine wp_call 143 [vp 28 0, vi 47] (43, ([some (vp 28 0), some (vp 7 q0), some (vi p1)], ([], G x m11))) rfl rfl (Cl.mono h (Nat.le_refl _) ?_)
            rintro r ⟨m13, rfl, h⟩
            · show Wp X (d + 1) 142 (43, ([some (vp 28 0), some (vp 7 q0), some (vi p1)], ([], G x m13))) Q
              refine wp_run 4 true (47, ([some (vp 28 0), some (vp 7 q0), some (vi p1)], ([vi (m13 7 q0 3), vp 28 0], G x m13))) rfl rfl ?_
              refine wp_call 144 [vp 28 0, vi (m13 7 q0 3)] (50, ([some (vp 28 0), some (vp 7 q0), some (vi p1)], ([], G x m13))) rfl rfl (Cl.mono h (Nat.le_refl _) ?_)
              rintro r ⟨m15, rfl, h⟩
              · show Wp X (d + 1) 142 (50, ([some (vp 28 0), some (vp 7 q0), some (vi p1)], ([], G x m15))) Q
                exact wp_ret rfl h
set_option maxRecDepth 100000 in
set_option maxHeartbeats 4000000 in
theorem vc_X9_put {X : MX} {d : Nat} {x : Int64 × UInt64} {m : MI} {Q : MRes → Prop} {p0 : Int32} (h : ((64 ≤ (m 28 0 1) → Q (.inl none, G x m)) ∧ (¬ (64 ≤ (m 28 0 1)) → ((okT 3 p0 && inb (m 28 0 1) 64) = true ∧ (∀ m2 : MI, m2 = mup m 29 0 ((m 28 0 1).toNatClampNeg) p0 → (∀ m3 : MI, m3 = mup m2 28 0 1 ((m2 28 0 1) + 1) → Q (.inl none, G x m3))))))) : Cl X d 143 [vp 28 0, vi p0] (G x m) Q := by
  show Wp X d 143 (0, ([some (vp 28 0), some (vi p0)], ([], G x m))) Q
  refine wp_run 4 true ((bif decide (64 ≤ (m 28 0 1)) then 29 else 9), ([some (vp 28 0), some (vi p0)], ([], G x m))) rfl rfl ?_
  refine wp_if (64 ≤ (m 28 0 1)) (fun c1 => ?_) (fun c1 => ?_)
  · have h := h.1 c1
    exact wp_ret rfl h
  · have h := h.2 c1
    obtain ⟨hg2_0, h⟩ := h
    refine wp_run 6 ((okT 3 p0 && inb (m 28 0 1) 64) && true) (19, ([some (vp 28 0), some (vi p0)], ([], G x (mup m 29 0 ((m 28 0 1).toNatClampNeg) p0)))) rfl (and_t hg2_0 rfl) ?_
    refine wpg (fun m2 => Wp X d 143 (19, ([some (vp 28 0), some (vi p0)], ([], G x m2))) Q) (mup m 29 0 ((m 28 0 1).toNatClampNeg) p0) (fun m2 hm2 => ?_)
    have h := h m2 hm2
    refine wp_run 6 true (29, ([some (vp 28 0), some (vi p0)], ([], G x (mup m2 28 0 1 ((m2 28 0 1) + 1))))) rfl rfl ?_
    refine wpg (fun m3 => Wp X d 143 (29, ([some (vp 28 0), some (vi p0)], ([], G x m3))) Q) (mup m2 28 0 1 ((m2 28 0 1) + 1)) (fun m3 hm3 => ?_)
    have h := h m3 hm3
    exact wp_ret rfl h
set_option maxRecDepth 100000 in
set_option maxHeartbeats 4000000 in
theorem vc_X9_putNumber {X : MX} {d : Nat} {x : Int64 × UInt64} {m : MI} {Q : MRes → Prop} {p0 : Int32} (h : Wp X (d + 1) 144 (5, ([some (vp 28 0), some (vi p0), some (vi 0), some (vi 1000000000), none], ([], G x m))) Q) : Cl X (d + 1) 144 [vp 28 0, vi p0] (G x m) Q := by
  show Wp X (d + 1) 144 (0, ([some (vp 28 0), some (vi p0), none, none, none], ([], G x m))) Q
  refine wp_run 4 true (5, ([some (vp 28 0), some (vi p0), some (vi 0), some (vi 1000000000), none], ([], G x m))) rfl rfl ?_
  exact h
set_option maxRecDepth 100000 in
set_option maxHeartbeats 4000000 in
theorem vl_X9_putNumber_5 {X : MX} {d : Nat} {x : Int64 × UInt64} {m : MI} {Q : MRes → Prop} {l1 : Int32} {l2 : Int32} {l3 : Int32} {o4 : Option MV} (h : ((l3 ≤ 0 → Q (.inl none, G x m)) ∧ (¬ (l3 ≤ 0) → (decide (¬ l3 = 0) = true ∧ (∀ t2 : Int32, t2 = (l1 / l3) - (l1 / l3) / 10 * 10 → ((¬ l2 = 0 → Cl X d 143 [vp 28 0, vi (((48 + t2).toUInt32 % 65536).toInt32)] (G x m) (fun r => ∃ (m5 : MI), r = (.inl none, G x m5) ∧ (∀ t6 : Int32, t6 = l3 / 10 → Wp X (d + 1) 144 (5, ([some (vp 28 0), some (vi l1), some (vi 1), some (vi t6), some (vi t2)], ([], G x m5))) Q))) ∧ (¬ (¬ l2 = 0) → ((0 < t2 → Cl X d 143 [vp 28 0, vi (((48 + t2).toUInt32 % 65536).toInt32)] (G x m) (fun r => ∃ (m9 : MI), r = (.inl none, G x m9) ∧ (∀ t10 : Int32, t10 = l3 / 10 → Wp X (d + 1) 144 (5, ([some (vp 28 0), some (vi l1), some (vi 1), some (vi t10), some (vi t2)], ([], G x m9))) Q))) ∧ (¬ (0 < t2) → ((¬ l3 = 1 → (∀ t12 : Int32, t12 = l3 / 10 → Wp X (d + 1) 144 (5, ([some (vp 28 0), some (vi l1), some (vi l2), some (vi t12), some (vi t2)], ([], G x m))) Q)) ∧ (¬ (¬ l3 = 1) → Cl X d 143 [vp 28 0, vi (((48 + t2).toUInt32 % 65536).toInt32)] (G x m) (fun r => ∃ (m14 : MI), r = (.inl none, G x m14) ∧ (∀ t15 : Int32, t15 = l3 / 10 → Wp X (d + 1) 144 (5, ([some (vp 28 0), some (vi l1), some (vi 1), some (vi t15), some (vi t2)], ([], G x m14))) Q))))))))))))) : Wp X (d + 1) 144 (5, ([some (vp 28 0), some (vi l1), some (vi l2), some (vi l3), o4], ([], G x m))) Q := by
  refine wp_run 2 true ((bif decide (l3 ≤ 0) then 51 else 9), ([some (vp 28 0), some (vi l1), some (vi l2), some (vi l3), o4], ([], G x m))) rfl rfl ?_
  refine wp_if (l3 ≤ 0) (fun c1 => ?_) (fun c1 => ?_)
  · have h := h.1 c1
    exact wp_ret rfl h
  · have h := h.2 c1
    obtain ⟨hg2_0, h⟩ := h
    refine wp_run 6 (decide (¬ l3 = 0) && true) (17, ([some (vp 28 0), some (vi l1), some (vi l2), some (vi l3), some (vi ((l1 / l3) - (l1 / l3) / 10 * 10))], ([], G x m))) rfl (and_t hg2_0 rfl) ?_
    refine wpg (fun t2 => Wp X (d + 1) 144 (17, ([some (vp 28 0), some (vi l1), some (vi l2), some (vi l3), some (vi t2)], ([], G x m))) Q) ((l1 / l3) - (l1 / l3) / 10 * 10) (fun t2 ht2 => ?_)
    have h := h t2 ht2
    refine wp_run 2 true ((bif decide (¬ l2 = 0) then 31 else 21), ([some (vp 28 0), some (vi l1), some (vi l2), some (vi l3), some (vi t2)], ([], G x m))) rfl rfl ?_
    refine wp_if (¬ l2 = 0) (fun c3 => ?_) (fun c3 => ?_)
    · have h := h.1 c3
      refine wp_run 5 true (38, ([some (vp 28 0), some (vi l1), some (vi l2), some (vi l3), some (vi t2)], ([vi (((48 + t2).toUInt32 % 65536).toInt32), vp 28 0], G x m))) rfl rfl ?_
      refine wp_call 143 [vp 28 0, vi (((48 + t2).toUInt32 % 65536).toInt32)] (41, ([some (vp 28 0), some (vi l1), some (vi l2), some (vi l3), some (vi t2)], ([], G x m))) rfl rfl (Cl.mono h (Nat.le_refl _) ?_)
      rintro r ⟨m5, rfl, h⟩
      · show Wp X (d + 1) 144 (41, ([some (vp 28 0), some (vi l1), some (vi l2), some (vi l3), some (vi t2)], ([], G x m5))) Q
        refine wp_run 6 true (48, ([some (vp 28 0), some (vi l1), some (vi 1), some (vi (l3 / 10)), some (vi t2)], ([], G x m5))) rfl rfl ?_
        refine wpg (fun t6 => Wp X (d + 1) 144 (48, ([some (vp 28 0), some (vi l1), some (vi 1), some (vi t6), some (vi t2)], ([], G x m5))) Q) (l3 / 10) (fun t6 ht6 => ?_)
        have h := h t6 ht6
        refine wp_run 1 true (5, ([some (vp 28 0), some (vi l1), some (vi 1), some (vi t6), some (vi t2)], ([], G x m5))) rfl rfl ?_
        exact h
    · have h := h.2 c3
      refine wp_run 2 true ((bif decide (0 < t2) then 31 else 26), ([some (vp 28 0), some (vi l1), some (vi l2), some (vi l3), some (vi t2)], ([], G x m))) rfl rfl ?_
      refine wp_if (0 < t2) (fun c7 => ?_) (fun c7 => ?_)
      · have h := h.1 c7
        refine wp_run 5 true (38, ([some (vp 28 0), some (vi l1), some (vi l2), some (vi l3), some (vi t2)], ([vi (((48 + t2).toUInt32 % 65536).toInt32), vp 28 0], G x m))) rfl rfl ?_
        refine wp_call 143 [vp 28 0, vi (((48 + t2).toUInt32 % 65536).toInt32)] (41, ([some (vp 28 0), some (vi l1), some (vi l2), some (vi l3), some (vi t2)], ([], G x m))) rfl rfl (Cl.mono h (Nat.le_refl _) ?_)
        rintro r ⟨m9, rfl, h⟩
        · show Wp X (d + 1) 144 (41, ([some (vp 28 0), some (vi l1), some (vi l2), some (vi l3), some (vi t2)], ([], G x m9))) Q
          refine wp_run 6 true (48, ([some (vp 28 0), some (vi l1), some (vi 1), some (vi (l3 / 10)), some (vi t2)], ([], G x m9))) rfl rfl ?_
          refine wpg (fun t10 => Wp X (d + 1) 144 (48, ([some (vp 28 0), some (vi l1), some (vi 1), some (vi t10), some (vi t2)], ([], G x m9))) Q) (l3 / 10) (fun t10 ht10 => ?_)
          have h := h t10 ht10
          refine wp_run 1 true (5, ([some (vp 28 0), some (vi l1), some (vi 1), some (vi t10), some (vi t2)], ([], G x m9))) rfl rfl ?_
          exact h
      · have h := h.2 c7
        refine wp_run 3 true ((bif decide (¬ l3 = 1) then 43 else 31), ([some (vp 28 0), some (vi l1), some (vi l2), some (vi l3), some (vi t2)], ([], G x m))) rfl rfl ?_
        refine wp_if (¬ l3 = 1) (fun c11 => ?_) (fun c11 => ?_)
        · have h := h.1 c11
          refine wp_run 4 true (48, ([some (vp 28 0), some (vi l1), some (vi l2), some (vi (l3 / 10)), some (vi t2)], ([], G x m))) rfl rfl ?_
          refine wpg (fun t12 => Wp X (d + 1) 144 (48, ([some (vp 28 0), some (vi l1), some (vi l2), some (vi t12), some (vi t2)], ([], G x m))) Q) (l3 / 10) (fun t12 ht12 => ?_)
          have h := h t12 ht12
          refine wp_run 1 true (5, ([some (vp 28 0), some (vi l1), some (vi l2), some (vi t12), some (vi t2)], ([], G x m))) rfl rfl ?_
          exact h
        · have h := h.2 c11
          refine wp_run 5 true (38, ([some (vp 28 0), some (vi l1), some (vi l2), some (vi l3), some (vi t2)], ([vi (((48 + t2).toUInt32 % 65536).toInt32), vp 28 0], G x m))) rfl rfl ?_
          refine wp_call 143 [vp 28 0, vi (((48 + t2).toUInt32 % 65536).toInt32)] (41, ([some (vp 28 0), some (vi l1), some (vi l2), some (vi l3), some (vi t2)], ([], G x m))) rfl rfl (Cl.mono h (Nat.le_refl _) ?_)
          rintro r ⟨m14, rfl, h⟩
          · show Wp X (d + 1) 144 (41, ([some (vp 28 0), some (vi l1), some (vi l2), some (vi l3), some (vi t2)], ([], G x m14))) Q
            refine wp_run 6 true (48, ([some (vp 28 0), some (vi l1), some (vi 1), some (vi (l3 / 10)), some (vi t2)], ([], G x m14))) rfl rfl ?_
            refine wpg (fun t15 => Wp X (d + 1) 144 (48, ([some (vp 28 0), some (vi l1), some (vi 1), some (vi t15), some (vi t2)], ([], G x m14))) Q) (l3 / 10) (fun t15 ht15 => ?_)
            have h := h t15 ht15
            refine wp_run 1 true (5, ([some (vp 28 0), some (vi l1), some (vi 1), some (vi t15), some (vi t2)], ([], G x m14))) rfl rfl ?_
            exact h
