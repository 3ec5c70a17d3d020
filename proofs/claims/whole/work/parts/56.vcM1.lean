set_option maxRecDepth 100000 in
set_option maxHeartbeats 4000000 in
theorem vc_X11_thrown {X : MX} {d : Nat} {x : Int64 × UInt64} {m : MI} {Q : MRes → Prop} (h : Q (.inl (some (vi (m 31 0 5))), G x m)) : Cl X d 146 [vp 31 0] (G x m) Q := by
  show Wp X d 146 (0, ([some (vp 31 0)], ([], G x m))) Q
  refine wp_run 2 true (4, ([some (vp 31 0)], ([vi (m 31 0 5)], G x m))) rfl rfl ?_
  exact wp_ret rfl h
set_option maxRecDepth 100000 in
set_option maxHeartbeats 4000000 in
theorem vc_X11_in {X : MX} {d : Nat} {x : Int64 × UInt64} {m : MI} {Q : MRes → Prop} {p0 : Int32} {p1 : Int32} {p2 : Int32} (h : ((p0 < p1 → Q (.inl (some (vi 0)), G x m)) ∧ (¬ (p0 < p1) → ((p2 < p0 → Q (.inl (some (vi 0)), G x m)) ∧ (¬ (p2 < p0) → Q (.inl (some (vi 1)), G x m)))))) : Cl X d 147 [vi p0, vi p1, vi p2] (G x m) Q := by
  show Wp X d 147 (0, ([some (vi p0), some (vi p1), some (vi p2)], ([], G x m))) Q
  refine wp_run 3 true ((bif decide (p0 < p1) then 14 else 5), ([some (vi p0), some (vi p1), some (vi p2)], ([], G x m))) rfl rfl ?_
  refine wp_if (p0 < p1) (fun c1 => ?_) (fun c1 => ?_)
  · have h := h.1 c1
    refine wp_run 1 true (15, ([some (vi p0), some (vi p1), some (vi p2)], ([vi 0], G x m))) rfl rfl ?_
    exact wp_ret rfl h
  · have h := h.2 c1
    refine wp_run 3 true ((bif decide (p2 < p0) then 14 else 10), ([some (vi p0), some (vi p1), some (vi p2)], ([], G x m))) rfl rfl ?_
    refine wp_if (p2 < p0) (fun c2 => ?_) (fun c2 => ?_)
    · have h := h.1 c2
      refine wp_run 1 true (15, ([some (vi p0), some (vi p1), some (vi p2)], ([vi 0], G x m))) rfl rfl ?_
      exact wp_ret rfl h
    · have h := h.2 c2
      refine wp_run 2 true (15, ([some (vi p0), some (vi p1), some (vi p2)], ([vi 1], G x m))) rfl rfl ?_
      exact wp_ret rfl h
set_option maxRecDepth 100000 in
set_option maxHeartbeats 4000000 in
theorem vc_X11_copy_32_33 {X : MX} {d : Nat} {x : Int64 × UInt64} {m : MI} {Q : MRes → Prop} {p1 : Int32} {p3 : Int32} (h : Wp X d 148 (3, ([some (vp 32 0), some (vi p1), some (vp 33 0), some (vi p3), some (vi 0)], ([], G x m))) Q) : Cl X d 148 [vp 32 0, vi p1, vp 33 0, vi p3] (G x m) Q := by
  show Wp X d 148 (0, ([some (vp 32 0), some (vi p1), some (vp 33 0), some (vi p3), none], ([], G x m))) Q
  refine wp_run 2 true (3, ([some (vp 32 0), some (vi p1), some (vp 33 0), some (vi p3), some (vi 0)], ([], G x m))) rfl rfl ?_
  exact h
set_option maxRecDepth 100000 in
set_option maxHeartbeats 4000000 in
theorem vl_X11_copy_32_33_3 {X : MX} {d : Nat} {x : Int64 × UInt64} {m : MI} {Q : MRes → Prop} {l1 : Int32} {l3 : Int32} {l4 : Int32} (h : ((136 ≤ l4 → Q (.inl none, G x m)) ∧ (¬ (136 ≤ l4) → (inb (l1 + l4) 136 = true ∧ inb (l3 + l4) 136 = true ∧ (∀ m2 : MI, m2 = mup m 33 0 ((l3 + l4).toNatClampNeg) (m 32 0 (l1 + l4).toNatClampNeg) → (∀ t3 : Int32, t3 = l4 + 1 → Wp X d 148 (3, ([some (vp 32 0), some (vi l1), some (vp 33 0), some (vi l3), some (vi t3)], ([], G x m2))) Q)))))) : Wp X d 148 (3, ([some (vp 32 0), some (vi l1), some (vp 33 0), some (vi l3), some (vi l4)], ([], G x m))) Q := by
  refine wp_run 3 true ((bif decide (136 ≤ l4) then 29 else 11), ([some (vp 32 0), some (vi l1), some (vp 33 0), some (vi l3), some (vi l4)], ([], G x m))) rfl rfl ?_
  refine wp_if (136 ≤ l4) (fun c1 => ?_) (fun c1 => ?_)
  · have h := h.1 c1
    exact wp_ret rfl h
  · have h := h.2 c1
    obtain ⟨hg2_0, hg2_1, h⟩ := h
    refine wp_run 10 (inb (l3 + l4) 136 && (inb (l1 + l4) 136 && true)) (23, ([some (vp 32 0), some (vi l1), some (vp 33 0), some (vi l3), some (vi l4)], ([], G x (mup m 33 0 ((l3 + l4).toNatClampNeg) (m 32 0 (l1 + l4).toNatClampNeg))))) rfl (and_t hg2_1 (and_t hg2_0 rfl)) ?_
    refine wpg (fun m2 => Wp X d 148 (23, ([some (vp 32 0), some (vi l1), some (vp 33 0), some (vi l3), some (vi l4)], ([], G x m2))) Q) (mup m 33 0 ((l3 + l4).toNatClampNeg) (m 32 0 (l1 + l4).toNatClampNeg)) (fun m2 hm2 => ?_)
    have h := h m2 hm2
    refine wp_run 1 true (26, ([some (vp 32 0), some (vi l1), some (vp 33 0), some (vi l3), some (vi (l4 + 1))], ([], G x m2))) rfl rfl ?_
    refine wpg (fun t3 => Wp X d 148 (26, ([some (vp 32 0), some (vi l1), some (vp 33 0), some (vi l3), some (vi t3)], ([], G x m2))) Q) (l4 + 1) (fun t3 ht3 => ?_)
    have h := h t3 ht3
    refine wp_run 1 true (3, ([some (vp 32 0), some (vi l1), some (vp 33 0), some (vi l3), some (vi t3)], ([], G x m2))) rfl rfl ?_
    exact h
set_option maxRecDepth 100000 in
set_option maxHeartbeats 4000000 in
theorem vc_X11_copy_33_35 {X : MX} {d : Nat} {x : Int64 × UInt64} {m : MI} {Q : MRes → Prop} {p1 : Int32} {p3 : Int32} (h : Wp X d 148 (3, ([some (vp 33 0), some (vi p1), some (vp 35 0), some (vi p3), some (vi 0)], ([], G x m))) Q) : Cl X d 148 [vp 33 0, vi p1, vp 35 0, vi p3] (G x m) Q := by
  show Wp X d 148 (0, ([some (vp 33 0), some (vi p1), some (vp 35 0), some (vi p3), none], ([], G x m))) Q
  refine wp_run 2 true (3, ([some (vp 33 0), some (vi p1), some (vp 35 0), some (vi p3), some (vi 0)], ([], G x m))) rfl rfl ?_
  exact h
set_option maxRecDepth 100000 in
set_option maxHeartbeats 4000000 in
theorem vl_X11_copy_33_35_3 {X : MX} {d : Nat} {x : Int64 × UInt64} {m : MI} {Q : MRes → Prop} {l1 : Int32} {l3 : Int32} {l4 : Int32} (h : ((136 ≤ l4 → Q (.inl none, G x m)) ∧ (¬ (136 ≤ l4) → (inb (l1 + l4) 136 = true ∧ inb (l3 + l4) 1088 = true ∧ (∀ m2 : MI, m2 = mup m 35 0 ((l3 + l4).toNatClampNeg) (m 33 0 (l1 + l4).toNatClampNeg) → (∀ t3 : Int32, t3 = l4 + 1 → Wp X d 148 (3, ([some (vp 33 0), some (vi l1), some (vp 35 0), some (vi l3), some (vi t3)], ([], G x m2))) Q)))))) : Wp X d 148 (3, ([some (vp 33 0), some (vi l1), some (vp 35 0), some (vi l3), some (vi l4)], ([], G x m))) Q := by
  refine wp_run 3 true ((bif decide (136 ≤ l4) then 29 else 11), ([some (vp 33 0), some (vi l1), some (vp 35 0), some (vi l3), some (vi l4)], ([], G x m))) rfl rfl ?_
  refine wp_if (136 ≤ l4) (fun c1 => ?_) (fun c1 => ?_)
  · have h := h.1 c1
    exact wp_ret rfl h
  · have h := h.2 c1
    obtain ⟨hg2_0, hg2_1, h⟩ := h
    refine wp_run 10 (inb (l3 + l4) 1088 && (inb (l1 + l4) 136 && true)) (23, ([some (vp 33 0), some (vi l1), some (vp 35 0), some (vi l3), some (vi l4)], ([], G x (mup m 35 0 ((l3 + l4).toNatClampNeg) (m 33 0 (l1 + l4).toNatClampNeg))))) rfl (and_t hg2_1 (and_t hg2_0 rfl)) ?_
    refine wpg (fun m2 => Wp X d 148 (23, ([some (vp 33 0), some (vi l1), some (vp 35 0), some (vi l3), some (vi l4)], ([], G x m2))) Q) (mup m 35 0 ((l3 + l4).toNatClampNeg) (m 33 0 (l1 + l4).toNatClampNeg)) (fun m2 hm2 => ?_)
    have h := h m2 hm2
    refine wp_run 1 true (26, ([some (vp 33 0), some (vi l1), some (vp 35 0), some (vi l3), some (vi (l4 + 1))], ([], G x m2))) rfl rfl ?_
    refine wpg (fun t3 => Wp X d 148 (26, ([some (vp 33 0), some (vi l1), some (vp 35 0), some (vi l3), some (vi t3)], ([], G x m2))) Q) (l4 + 1) (fun t3 ht3 => ?_)
    have h := h t3 ht3
    refine wp_run 1 true (3, ([some (vp 33 0), some (vi l1), some (vp 35 0), some (vi l3), some (vi t3)], ([], G x m2))) rfl rfl ?_
    exact h
set_option maxRecDepth 100000 in
set_option maxHeartbeats 4000000 in
theorem vc_X11_copy_35_35 {X : MX} {d : Nat} {x : Int64 × UInt64} {m : MI} {Q : MRes → Prop} {p1 : Int32} {p3 : Int32} (h : Wp X d 148 (3, ([some (vp 35 0), some (vi p1), some (vp 35 0), some (vi p3), some (vi 0)], ([], G x m))) Q) : Cl X d 148 [vp 35 0, vi p1, vp 35 0, vi p3] (G x m) Q := by
  show Wp X d 148 (0, ([some (vp 35 0), some (vi p1), some (vp 35 0), some (vi p3), none], ([], G x m))) Q
  refine wp_run 2 true (3, ([some (vp 35 0), some (vi p1), some (vp 35 0), some (vi p3), some (vi 0)], ([], G x m))) rfl rfl ?_
  exact h
set_option maxRecDepth 100000 in
set_option maxHeartbeats 4000000 in
theorem vl_X11_copy_35_35_3 {X : MX} {d : Nat} {x : Int64 × UInt64} {m : MI} {Q : MRes → Prop} {l1 : Int32} {l3 : Int32} {l4 : Int32} (h : ((136 ≤ l4 → Q (.inl none, G x m)) ∧ (¬ (136 ≤ l4) → (inb (l1 + l4) 1088 = true ∧ inb (l3 + l4) 1088 = true ∧ (∀ m2 : MI, m2 = mup m 35 0 ((l3 + l4).toNatClampNeg) (m 35 0 (l1 + l4).toNatClampNeg) → (∀ t3 : Int32, t3 = l4 + 1 → Wp X d 148 (3, ([some (vp 35 0), some (vi l1), some (vp 35 0), some (vi l3), some (vi t3)], ([], G x m2))) Q)))))) : Wp X d 148 (3, ([some (vp 35 0), some (vi l1), some (vp 35 0), some (vi l3), some (vi l4)], ([], G x m))) Q := by
  refine wp_run 3 true ((bif decide (136 ≤ l4) then 29 else 11), ([some (vp 35 0), some (vi l1), some (vp 35 0), some (vi l3), some (vi l4)], ([], G x m))) rfl rfl ?_
  refine wp_if (136 ≤ l4) (fun c1 => ?_) (fun c1 => ?_)
  · have h := h.1 c1
    exact wp_ret rfl h
  · have h := h.2 c1
    obtain ⟨hg2_0, hg2_1, h⟩ := h
    refine wp_run 10 (inb (l3 + l4) 1088 && (inb (l1 + l4) 1088 && true)) (23, ([some (vp 35 0), some (vi l1), some (vp 35 0), some (vi l3), some (vi l4)], ([], G x (mup m 35 0 ((l3 + l4).toNatClampNeg) (m 35 0 (l1 + l4).toNatClampNeg))))) rfl (and_t hg2_1 (and_t hg2_0 rfl)) ?_
    refine wpg (fun m2 => Wp X d 148 (23, ([some (vp 35 0), some (vi l1), some (vp 35 0), some (vi l3), some (vi l4)], ([], G x m2))) Q) (mup m 35 0 ((l3 + l4).toNatClampNeg) (m 35 0 (l1 + l4).toNatClampNeg)) (fun m2 hm2 => ?_)
    have h := h m2 hm2
    refine wp_run 1 true (26, ([some (vp 35 0), some (vi l1), some (vp 35 0), some (vi l3), some (vi (l4 + 1))], ([], G x m2))) rfl rfl ?_
    refine wpg (fun t3 => Wp X d 148 (26, ([some (vp 35 0), some (vi l1), some (vp 35 0), some (vi l3), some (vi t3)], ([], G x m2))) Q) (l4 + 1) (fun t3 ht3 => ?_)
    have h := h t3 ht3
    refine wp_run 1 true (3, ([some (vp 35 0), some (vi l1), some (vp 35 0), some (vi l3), some (vi t3)], ([], G x m2))) rfl rfl ?_
    exact h
set_option maxRecDepth 100000 in
set_option maxHeartbeats 4000000 in
theorem vc_X11_copy_33_32 {X : MX} {d : Nat} {x : Int64 × UInt64} {m : MI} {Q : MRes → Prop} {p1 : Int32} {p3 : Int32} (h : Wp X d 148 (3, ([some (vp 33 0), some (vi p1), some (vp 32 0), some (vi p3), some (vi 0)], ([], G x m))) Q) : Cl X d 148 [vp 33 0, vi p1, vp 32 0, vi p3] (G x m) Q := by
  show Wp X d 148 (0, ([some (vp 33 0), some (vi p1), some (vp 32 0), some (vi p3), none], ([], G x m))) Q
  refine wp_run 2 true (3, ([some (vp 33 0), some (vi p1), some (vp 32 0), some (vi p3), some (vi 0)], ([], G x m))) rfl rfl ?_
  exact h
set_option maxRecDepth 100000 in
set_option maxHeartbeats 4000000 in
theorem vl_X11_copy_33_32_3 {X : MX} {d : Nat} {x : Int64 × UInt64} {m : MI} {Q : MRes → Prop} {l1 : Int32} {l3 : Int32} {l4 : Int32} (h : ((136 ≤ l4 → Q (.inl none, G x m)) ∧ (¬ (136 ≤ l4) → (inb (l1 + l4) 136 = true ∧ inb (l3 + l4) 136 = true ∧ (∀ m2 : MI, m2 = mup m 32 0 ((l3 + l4).toNatClampNeg) (m 33 0 (l1 + l4).toNatClampNeg) → (∀ t3 : Int32, t3 = l4 + 1 → Wp X d 148 (3, ([some (vp 33 0), some (vi l1), some (vp 32 0), some (vi l3), some (vi t3)], ([], G x m2))) Q)))))) : Wp X d 148 (3, ([some (vp 33 0), some (vi l1), some (vp 32 0), some (vi l3), some (vi l4)], ([], G x m))) Q := by
  refine wp_run 3 true ((bif decide (136 ≤ l4) then 29 else 11), ([some (vp 33 0), some (vi l1), some (vp 32 0), some (vi l3), some (vi l4)], ([], G x m))) rfl rfl ?_
  refine wp_if (136 ≤ l4) (fun c1 => ?_) (fun c1 => ?_)
  · have h := h.1 c1
    exact wp_ret rfl h
  · have h := h.2 c1
    obtain ⟨hg2_0, hg2_1, h⟩ := h
    refine wp_run 10 (inb (l3 + l4) 136 && (inb (l1 + l4) 136 && true)) (23, ([some (vp 33 0), some (vi l1), some (vp 32 0), some (vi l3), some (vi l4)], ([], G x (mup m 32 0 ((l3 + l4).toNatClampNeg) (m 33 0 (l1 + l4).toNatClampNeg))))) rfl (and_t hg2_1 (and_t hg2_0 rfl)) ?_
    refine wpg (fun m2 => Wp X d 148 (23, ([some (vp 33 0), some (vi l1), some (vp 32 0), some (vi l3), some (vi l4)], ([], G x m2))) Q) (mup m 32 0 ((l3 + l4).toNatClampNeg) (m 33 0 (l1 + l4).toNatClampNeg)) (fun m2 hm2 => ?_)
    have h := h m2 hm2
    refine wp_run 1 true (26, ([some (vp 33 0), some (vi l1), some (vp 32 0), some (vi l3), some (vi (l4 + 1))], ([], G x m2))) rfl rfl ?_
    refine wpg (fun t3 => Wp X d 148 (26, ([some (vp 33 0), some (vi l1), some (vp 32 0), some (vi l3), some (vi t3)], ([], G x m2))) Q) (l4 + 1) (fun t3 ht3 => ?_)
    have h := h t3 ht3
    refine wp_run 1 true (3, ([some (vp 33 0), some (vi l1), some (vp 32 0), some (vi l3), some (vi t3)], ([], G x m2))) rfl rfl ?_
    exact h
set_option maxRecDepth 100000 in
set_option maxHeartbeats 4000000 in
theorem vc_X11_copy_35_32 {X : MX} {d : Nat} {x : Int64 × UInt64} {m : MI} {Q : MRes → Prop} {p1 : Int32} {p3 : Int32} (h : Wp X d 148 (3, ([some (vp 35 0), some (vi p1), some (vp 32 0), some (vi p3), some (vi 0)], ([], G x m))) Q) : Cl X d 148 [vp 35 0, vi p1, vp 32 0, vi p3] (G x m) Q := by
  show Wp X d 148 (0, ([some (vp 35 0), some (vi p1), some (vp 32 0), some (vi p3), none], ([], G x m))) Q
  refine wp_run 2 true (3, ([some (vp 35 0), some (vi p1), some (vp 32 0), some (vi p3), some (vi 0)], ([], G x m))) rfl rfl ?_
  exact h
set_option maxRecDepth 100000 in
set_option maxHeartbeats 4000000 in
theorem vl_X11_copy_35_32_3 {X : MX} {d : Nat} {x : Int64 × UInt64} {m : MI} {Q : MRes → Prop} {l1 : Int32} {l3 : Int32} {l4 : Int32} (h : ((136 ≤ l4 → Q (.inl none, G x m)) ∧ (¬ (136 ≤ l4) → (inb (l1 + l4) 1088 = true ∧ inb (l3 + l4) 136 = true ∧ (∀ m2 : MI, m2 = mup m 32 0 ((l3 + l4).toNatClampNeg) (m 35 0 (l1 + l4).toNatClampNeg) → (∀ t3 : Int32, t3 = l4 + 1 → Wp X d 148 (3, ([some (vp 35 0), some (vi l1), some (vp 32 0), some (vi l3), some (vi t3)], ([], G x m2))) Q)))))) : Wp X d 148 (3, ([some (vp 35 0), some (vi l1), some (vp 32 0), some (vi l3), some (vi l4)], ([], G x m))) Q := by
  refine wp_run 3 true ((bif decide (136 ≤ l4) then 29 else 11), ([some (vp 35 0), some (vi l1), some (vp 32 0), some (vi l3), some (vi l4)], ([], G x m))) rfl rfl ?_
  refine wp_if (136 ≤ l4) (fun c1 => ?_) (fun c1 => ?_)
  · have h := h.1 c1
    exact wp_ret rfl h
  · have h := h.2 c1
    obtain ⟨hg2_0, hg2_1, h⟩ := h
    refine wp_run 10 (inb (l3 + l4) 136 && (inb (l1 + l4) 1088 && true)) (23, ([some (vp 35 0), some (vi l1), some (vp 32 0), some (vi l3), some (vi l4)], ([], G x (mup m 32 0 ((l3 + l4).toNatClampNeg) (m 35 0 (l1 + l4).toNatClampNeg))))) rfl (and_t hg2_1 (and_t hg2_0 rfl)) ?_
    refine wpg (fun m2 => Wp X d 148 (23, ([some (vp 35 0), some (vi l1), some (vp 32 0), some (vi l3), some (vi l4)], ([], G x m2))) Q) (mup m 32 0 ((l3 + l4).toNatClampNeg) (m 35 0 (l1 + l4).toNatClampNeg)) (fun m2 hm2 => ?_)
    have h := h m2 hm2
    refine wp_run 1 true (26, ([some (vp 35 0), some (vi l1), some (vp 32 0), some (vi l3), some (vi (l4 + 1))], ([], G x m2))) rfl rfl ?_
    refine wpg (fun t3 => Wp X d 148 (26, ([some (vp 35 0), some (vi l1), some (vp 32 0), some (vi l3), some (vi t3)], ([], G x m2))) Q) (l4 + 1) (fun t3 ht3 => ?_)
    have h := h t3 ht3
    refine wp_run 1 true (3, ([some (vp 35 0), some (vi l1), some (vp 32 0), some (vi l3), some (vi t3)], ([], G x m2))) rfl rfl ?_
    exact h
set_option maxRecDepth 100000 in
set_option maxHeartbeats 4000000 in
theorem vc_X11_copy_32_34 {X : MX} {d : Nat} {x : Int64 × UInt64} {m : MI} {Q : MRes → Prop} {p1 : Int32} {p3 : Int32} (h : Wp X d 148 (3, ([some (vp 32 0), some (vi p1), some (vp 34 0), some (vi p3), some (vi 0)], ([], G x m))) Q) : Cl X d 148 [vp 32 0, vi p1, vp 34 0, vi p3] (G x m) Q := by
  show Wp X d 148 (0, ([some (vp 32 0), some (vi p1), some (vp 34 0), some (vi p3), none], ([], G x m))) Q
  refine wp_run 2 true (3, ([some (vp 32 0), some (vi p1), some (vp 34 0), some (vi p3), some (vi 0)], ([], G x m))) rfl rfl ?_
  exact h
set_option maxRecDepth 100000 in
set_option maxHeartbeats 4000000 in
theorem vl_X11_copy_32_34_3 {X : MX} {d : Nat} {x : Int64 × UInt64} {m : MI} {Q : MRes → Prop} {l1 : Int32} {l3 : Int32} {l4 : Int32} (h : ((136 ≤ l4 → Q (.inl none, G x m)) ∧ (¬ (136 ≤ l4) → (inb (l1 + l4) 136 = true ∧ inb (l3 + l4) 136 = true ∧ (∀ m2 : MI, m2 = mup m 34 0 ((l3 + l4).toNatClampNeg) (m 32 0 (l1 + l4).toNatClampNeg) → (∀ t3 : Int32, t3 = l4 + 1 → Wp X d 148 (3, ([some (vp 32 0), some (vi l1), some (vp 34 0), some (vi l3), some (vi t3)], ([], G x m2))) Q)))))) : Wp X d 148 (3, ([some (vp 32 0), some (vi l1), some (vp 34 0), some (vi l3), some (vi l4)], ([], G x m))) Q := by
  refine wp_run 3 true ((bif decide (136 ≤ l4) then 29 else 11), ([some (vp 32 0), some (vi l1), some (vp 34 0), some (vi l3), some (vi l4)], ([], G x m))) rfl rfl ?_
  refine wp_if (136 ≤ l4) (fun c1 => ?_) (fun c1 => ?_)
  · have h := h.1 c1
    exact wp_ret rfl h
  · have h := h.2 c1
    obtain ⟨hg2_0, hg2_1, h⟩ := h
    refine wp_run 10 (inb (l3 + l4) 136 && (inb (l1 + l4) 136 && true)) (23, ([some (vp 32 0), some (vi l1), some (vp 34 0), some (vi l3), some (vi l4)], ([], G x (mup m 34 0 ((l3 + l4).toNatClampNeg) (m 32 0 (l1 + l4).toNatClampNeg))))) rfl (and_t hg2_1 (and_t hg2_0 rfl)) ?_
    refine wpg (fun m2 => Wp X d 148 (23, ([some (vp 32 0), some (vi l1), some (vp 34 0), some (vi l3), some (vi l4)], ([], G x m2))) Q) (mup m 34 0 ((l3 + l4).toNatClampNeg) (m 32 0 (l1 + l4).toNatClampNeg)) (fun m2 hm2 => ?_)
    have h := h m2 hm2
    refine wp_run 1 true (26, ([some (vp 32 0), some (vi l1), some (vp 34 0), some (vi l3), some (vi (l4 + 1))], ([], G x m2))) rfl rfl ?_
    refine wpg (fun t3 => Wp X d 148 (26, ([some (vp 32 0), some (vi l1), some (vp 34 0), some (vi l3), some (vi t3)], ([], G x m2))) Q) (l4 + 1) (fun t3 ht3 => ?_)
    have h := h t3 ht3
    refine wp_run 1 true (3, ([some (vp 32 0), some (vi l1), some (vp 34 0), some (vi l3), some (vi t3)], ([], G x m2))) rfl rfl ?_
    exact h
set_option maxRecDepth 100000 in
set_option maxHeartbeats 4000000 in
theorem vc_X11_copy_34_32 {X : MX} {d : Nat} {x : Int64 × UInt64} {m : MI} {Q : MRes → Prop} {p1 : Int32} {p3 : Int32} (h : Wp X d 148 (3, ([some (vp 34 0), some (vi p1), some (vp 32 0), some (vi p3), some (vi 0)], ([], G x m))) Q) : Cl X d 148 [vp 34 0, vi p1, vp 32 0, vi p3] (G x m) Q := by
  show Wp X d 148 (0, ([some (vp 34 0), some (vi p1), some (vp 32 0), some (vi p3), none], ([], G x m))) Q
  refine wp_run 2 true (3, ([some (vp 34 0), some (vi p1), some (vp 32 0), some (vi p3), some (vi 0)], ([], G x m))) rfl rfl ?_
  exact h
set_option maxRecDepth 100000 in
set_option maxHeartbeats 4000000 in
theorem vl_X11_copy_34_32_3 {X : MX} {d : Nat} {x : Int64 × UInt64} {m : MI} {Q : MRes → Prop} {l1 : Int32} {l3 : Int32} {l4 : Int32} (h : ((136 ≤ l4 → Q (.inl none, G x m)) ∧ (¬ (136 ≤ l4) → (inb (l1 + l4) 136 = true ∧ inb (l3 + l4) 136 = true ∧ (∀ m2 : MI, m2 = mup m 32 0 ((l3 + l4).toNatClampNeg) (m 34 0 (l1 + l4).toNatClampNeg) → (∀ t3 : Int32, t3 = l4 + 1 → Wp X d 148 (3, ([some (vp 34 0), some (vi l1), some (vp 32 0), some (vi l3), some (vi t3)], ([], G x m2))) Q)))))) : Wp X d 148 (3, ([some (vp 34 0), some (vi l1), some (vp 32 0), some (vi l3), some (vi l4)], ([], G x m))) Q := by
  refine wp_run 3 true ((bif decide (136 ≤ l4) then 29 else 11), ([some (vp 34 0), some (vi l1), some (vp 32 0), some (vi l3), some (vi l4)], ([], G x m))) rfl rfl ?_
  refine wp_if (136 ≤ l4) (fun c1 => ?_) (fun c1 => ?_)
  · have h := h.1 c1
    exact wp_ret rfl h
  · have h := h.2 c1
    obtain ⟨hg2_0, hg2_1, h⟩ := h
    refine wp_run 10 (inb (l3 + l4) 136 && (inb (l1 + l4) 136 && true)) (23, ([some (vp 34 0), some (vi l1), some (vp 32 0), some (vi l3), some (vi l4)], ([], G x (mup m 32 0 ((l3 + l4).toNatClampNeg) (m 34 0 (l1 + l4).toNatClampNeg))))) rfl (and_t hg2_1 (and_t hg2_0 rfl)) ?_
    refine wpg (fun m2 => Wp X d 148 (23, ([some (vp 34 0), some (vi l1), some (vp 32 0), some (vi l3), some (vi l4)], ([], G x m2))) Q) (mup m 32 0 ((l3 + l4).toNatClampNeg) (m 34 0 (l1 + l4).toNatClampNeg)) (fun m2 hm2 => ?_)
    have h := h m2 hm2
    refine wp_run 1 true (26, ([some (vp 34 0), some (vi l1), some (vp 32 0), some (vi l3), some (vi (l4 + 1))], ([], G x m2))) rfl rfl ?_
    refine wpg (fun t3 => Wp X d 148 (26, ([some (vp 34 0), some (vi l1), some (vp 32 0), some (vi l3), some (vi t3)], ([], G x m2))) Q) (l4 + 1) (fun t3 ht3 => ?_)
    have h := h t3 ht3
    refine wp_run 1 true (3, ([some (vp 34 0), some (vi l1), some (vp 32 0), some (vi l3), some (vi t3)], ([], G x m2))) rfl rfl ?_
    exact h
set_option maxRecDepth 100000 in
set_option maxHeartbeats 4000000 in
theorem vc_X11_fail {X : MX} {d : Nat} {x : Int64 × UInt64} {m : MI} {Q : MRes → Prop} {p0 : Int32} (h : (∀ m1 : MI, m1 = mup m 31 0 5 p0 → Q (.inl (some (vi 0)), G x m1))) : Cl X d 149 [vp 31 0, vi p0] (G x m) Q := by
  show Wp X d 149 (0, ([some (vp 31 0), some (vi p0)], ([], G x m))) Q
  refine wp_run 3 true (5, ([some (vp 31 0), some (vi p0)], ([], G x (mup m 31 0 5 p0)))) rfl rfl ?_
  refine wpg (fun m1 => Wp X d 149 (5, ([some (vp 31 0), some (vi p0)], ([], G x m1))) Q) (mup m 31 0 5 p0) (fun m1 hm1 => ?_)
  have h := h m1 hm1
  refine wp_run 1 true (6, ([some (vp 31 0), some (vi p0)], ([vi 0], G x m1))) rfl rfl ?_
  exact wp_ret rfl h
set_option maxRecDepth 100000 in
set_option maxHeartbeats 4000000 in
theorem vc_X11_begin {X : MX} {d : Nat} {x : Int64 × UInt64} {m : MI} {Q : MRes → Prop} (h : (∀ m1 : MI, m1 = mup m 31 0 5 0 → Cl X d 148 [vp 32 0, vi 0, vp 33 0, vi 0] (G x m1) (fun r => ∃ (m3 : MI), r = (.inl none, G x m3) ∧ Q (.inl none, G x m3)))) : Cl X (d + 1) 150 [vp 31 0] (G x m) Q := by
  show Wp X (d + 1) 150 (0, ([some (vp 31 0)], ([], G x m))) Q
  refine wp_run 3 true (5, ([some (vp 31 0)], ([], G x (mup m 31 0 5 0)))) rfl rfl ?_
  refine wpg (fun m1 => Wp X (d + 1) 150 (5, ([some (vp 31 0)], ([], G x m1))) Q) (mup m 31 0 5 0) (fun m1 hm1 => ?_)
  have h := h m1 hm1
  refine wp_run 6 true (15, ([some (vp 31 0)], ([vi 0, vp 33 0, vi 0, vp 32 0], G x m1))) rfl rfl ?_
  refine wp_call 148 [vp 32 0, vi 0, vp 33 0, vi 0] (18, ([some (vp 31 0)], ([], G x m1))) rfl rfl (Cl.mono h (Nat.le_refl _) ?_)
  rintro r ⟨m3, rfl, h⟩
  · show Wp X (d + 1) 150 (18, ([some (vp 31 0)], ([], G x m3))) Q
    exact wp_ret rfl h
set_option maxRecDepth 100000 in
set_option maxHeartbeats 4000000 in
theorem vc_X11_commit {X : MX} {d : Nat} {x : Int64 × UInt64} {m : MI} {Q : MRes → Prop} {p0 : Int32} (h : ((¬ (m 31 0 6) = 8 → Cl X d 148 [vp 33 0, vi 0, vp 35 0, vi (136 * (m 31 0 6))] (G x m) (fun r => ∃ (m3 : MI), r = (.inl none, G x m3) ∧ (∀ m4 : MI, m4 = mup m3 31 0 6 ((m3 31 0 6) + 1) → Q (.inl (some (vi p0)), G x m4)))) ∧ (¬ (¬ (m 31 0 6) = 8) → Wp X (d + 1) 151 (11, ([some (vp 31 0), some (vi p0), some (vi 1)], ([], G x m))) Q))) : Cl X (d + 1) 151 [vp 31 0, vi p0] (G x m) Q := by
  show Wp X (d + 1) 151 (0, ([some (vp 31 0), some (vi p0), none], ([], G x m))) Q
  refine wp_run 4 true ((bif decide (¬ (m 31 0 6) = 8) then 56 else 9), ([some (vp 31 0), some (vi p0), none], ([], G x m))) rfl rfl ?_
  refine wp_if (¬ (m 31 0 6) = 8) (fun c1 => ?_) (fun c1 => ?_)
  · have h := h.1 c1
    refine wp_run 9 true (73, ([some (vp 31 0), some (vi p0), none], ([vi (136 * (m 31 0 6)), vp 35 0, vi 0, vp 33 0], G x m))) rfl rfl ?_
    refine wp_call 148 [vp 33 0, vi 0, vp 35 0, vi (136 * (m 31 0 6))] (76, ([some (vp 31 0), some (vi p0), none], ([], G x m))) rfl rfl (Cl.mono h (Nat.le_refl _) ?_)
    rintro r ⟨m3, rfl, h⟩
    · show Wp X (d + 1) 151 (76, ([some (vp 31 0), some (vi p0), none], ([], G x m3))) Q
      refine wp_run 6 true (86, ([some (vp 31 0), some (vi p0), none], ([], G x (mup m3 31 0 6 ((m3 31 0 6) + 1))))) rfl rfl ?_
      refine wpg (fun m4 => Wp X (d + 1) 151 (86, ([some (vp 31 0), some (vi p0), none], ([], G x m4))) Q) (mup m3 31 0 6 ((m3 31 0 6) + 1)) (fun m4 hm4 => ?_)
      have h := h m4 hm4
      refine wp_run 1 true (87, ([some (vp 31 0), some (vi p0), none], ([vi p0], G x m4))) rfl rfl ?_
      exact wp_ret rfl h
  · have h := h.2 c1
    refine wp_run 2 true (11, ([some (vp 31 0), some (vi p0), some (vi 1)], ([], G x m))) rfl rfl ?_
    exact h
set_option maxRecDepth 100000 in
set_option maxHeartbeats 4000000 in
theorem vl_X11_commit_11 {X : MX} {d : Nat} {x : Int64 × UInt64} {m : MI} {Q : MRes → Prop} {l1 : Int32} {l2 : Int32} (h : ((8 ≤ l2 → (∀ m2 : MI, m2 = mup m 31 0 6 ((m 31 0 6) - 1) → Cl X d 148 [vp 33 0, vi 0, vp 35 0, vi (136 * (m2 31 0 6))] (G x m2) (fun r => ∃ (m4 : MI), r = (.inl none, G x m4) ∧ (∀ m5 : MI, m5 = mup m4 31 0 6 ((m4 31 0 6) + 1) → Q (.inl (some (vi l1)), G x m5))))) ∧ (¬ (8 ≤ l2) → Cl X d 148 [vp 35 0, vi (136 * l2), vp 35 0, vi (136 * (l2 - 1))] (G x m) (fun r => ∃ (m7 : MI), r = (.inl none, G x m7) ∧ (∀ t8 : Int32, t8 = l2 + 1 → Wp X (d + 1) 151 (11, ([some (vp 31 0), some (vi l1), some (vi t8)], ([], G x m7))) Q))))) : Wp X (d + 1) 151 (11, ([some (vp 31 0), some (vi l1), some (vi l2)], ([], G x m))) Q := by
  refine wp_run 3 true ((bif decide (8 ≤ l2) then 46 else 17), ([some (vp 31 0), some (vi l1), some (vi l2)], ([], G x m))) rfl rfl ?_
  refine wp_if (8 ≤ l2) (fun c1 => ?_) (fun c1 => ?_)
  · have h := h.1 c1
    refine wp_run 6 true (56, ([some (vp 31 0), some (vi l1), some (vi l2)], ([], G x (mup m 31 0 6 ((m 31 0 6) - 1))))) rfl rfl ?_
    refine wpg (fun m2 => Wp X (d + 1) 151 (56, ([some (vp 31 0), some (vi l1), some (vi l2)], ([], G x m2))) Q) (mup m 31 0 6 ((m 31 0 6) - 1)) (fun m2 hm2 => ?_)
    have h := h m2 hm2
    refine wp_run 9 true (73, ([some (vp 31 0), some (vi l1), some (vi l2)], ([vi (136 * (m2 31 0 6)), vp 35 0, vi 0, vp 33 0], G x m2))) rfl rfl ?_
    refine wp_call 148 [vp 33 0, vi 0, vp 35 0, vi (136 * (m2 31 0 6))] (76, ([some (vp 31 0), some (vi l1), some (vi l2)], ([], G x m2))) rfl rfl (Cl.mono h (Nat.le_refl _) ?_)
    rintro r ⟨m4, rfl, h⟩
    · show Wp X (d + 1) 151 (76, ([some (vp 31 0), some (vi l1), some (vi l2)], ([], G x m4))) Q
      refine wp_run 6 true (86, ([some (vp 31 0), some (vi l1), some (vi l2)], ([], G x (mup m4 31 0 6 ((m4 31 0 6) + 1))))) rfl rfl ?_
      refine wpg (fun m5 => Wp X (d + 1) 151 (86, ([some (vp 31 0), some (vi l1), some (vi l2)], ([], G x m5))) Q) (mup m4 31 0 6 ((m4 31 0 6) + 1)) (fun m5 hm5 => ?_)
      have h := h m5 hm5
      refine wp_run 1 true (87, ([some (vp 31 0), some (vi l1), some (vi l2)], ([vi l1], G x m5))) rfl rfl ?_
      exact wp_ret rfl h
  · have h := h.2 c1
    refine wp_run 12 true (37, ([some (vp 31 0), some (vi l1), some (vi l2)], ([vi (136 * (l2 - 1)), vp 35 0, vi (136 * l2), vp 35 0], G x m))) rfl rfl ?_
    refine wp_call 148 [vp 35 0, vi (136 * l2), vp 35 0, vi (136 * (l2 - 1))] (40, ([some (vp 31 0), some (vi l1), some (vi l2)], ([], G x m))) rfl rfl (Cl.mono h (Nat.le_refl _) ?_)
    rintro r ⟨m7, rfl, h⟩
    · show Wp X (d + 1) 151 (40, ([some (vp 31 0), some (vi l1), some (vi l2)], ([], G x m7))) Q
      refine wp_run 1 true (43, ([some (vp 31 0), some (vi l1), some (vi (l2 + 1))], ([], G x m7))) rfl rfl ?_
      refine wpg (fun t8 => Wp X (d + 1) 151 (43, ([some (vp 31 0), some (vi l1), some (vi t8)], ([], G x m7))) Q) (l2 + 1) (fun t8 ht8 => ?_)
      have h := h t8 ht8
      refine wp_run 1 true (11, ([some (vp 31 0), some (vi l1), some (vi t8)], ([], G x m7))) rfl rfl ?_
      exact h
set_option maxRecDepth 100000 in
set_option maxHeartbeats 4000000 in
theorem vc_X11_colourRow {X : MX} {d : Nat} {x : Int64 × UInt64} {m : MI} {Q : MRes → Prop} {p0 : Int32} (h : Q (.inl (some (vi (8 + (8 * p0)))), G x m)) : Cl X d 152 [vi p0] (G x m) Q := by
  show Wp X d 152 (0, ([some (vi p0)], ([], G x m))) Q
  refine wp_run 5 true (7, ([some (vi p0)], ([vi (8 + (8 * p0))], G x m))) rfl rfl ?_
  exact wp_ret rfl h
set_option maxRecDepth 100000 in
set_option maxHeartbeats 4000000 in
theorem vc_X11_reportRow {X : MX} {d : Nat} {x : Int64 × UInt64} {m : MI} {Q : MRes → Prop} {p0 : Int32} (h : Q (.inl (some (vi (88 + (8 * p0)))), G x m)) : Cl X d 153 [vi p0] (G x m) Q := by
  show Wp X d 153 (0, ([some (vi p0)], ([], G x m))) Q
  refine wp_run 5 true (7, ([some (vi p0)], ([vi (88 + (8 * p0))], G x m))) rfl rfl ?_
  exact wp_ret rfl h
set_option maxRecDepth 100000 in
set_option maxHeartbeats 4000000 in
theorem vc_X11_c {X : MX} {d : Nat} {x : Int64 × UInt64} {m : MI} {Q : MRes → Prop} {p0 : Int32} {p1 : Int32} (h : Cl X d 152 [vi p0] (G x m) (fun r => ∃ (v1 : Int32) (m2 : MI), r = (.inl (some (vi v1)), G x m2) ∧ (inb (v1 + p1) 136 = true ∧ Q (.inl (some (vi (m2 32 0 (v1 + p1).toNatClampNeg))), G x m2)))) : Cl X (d + 1) 154 [vp 31 0, vi p0, vi p1] (G x m) Q := by
  show Wp X (d + 1) 154 (0, ([some (vp 31 0), some (vi p0), some (vi p1)], ([], G x m))) Q
  refine wp_run 3 true (5, ([some (vp 31 0), some (vi p0), some (vi p1)], ([vi p0, vp 32 0], G x m))) rfl rfl ?_
  refine wp_call 152 [vi p0] (8, ([some (vp 31 0), some (vi p0), some (vi p1)], ([vp 32 0], G x m))) rfl rfl (Cl.mono h (Nat.le_refl _) ?_)
  rintro r ⟨v1, m2, rfl, h⟩
  · show Wp X (d + 1) 154 (8, ([some (vp 31 0), some (vi p0), some (vi p1)], ([vi v1, vp 32 0], G x m2))) Q
    obtain ⟨hg2_0, h⟩ := h
    refine wp_run 3 (inb (v1 + p1) 136 && true) (11, ([some (vp 31 0), some (vi p0), some (vi p1)], ([vi (m2 32 0 (v1 + p1).toNatClampNeg)], G x m2))) rfl (and_t hg2_0 rfl) ?_
    exact wp_ret rfl h
set_option maxRecDepth 100000 in
set_option maxHeartbeats 4000000 in
theorem vc_X11_r {X : MX} {d : Nat} {x : Int64 × UInt64} {m : MI} {Q : MRes → Prop} {p0 : Int32} {p1 : Int32} (h : Cl X d 153 [vi p0] (G x m) (fun r => ∃ (v1 : Int32) (m2 : MI), r = (.inl (some (vi v1)), G x m2) ∧ (inb (v1 + p1) 136 = true ∧ Q (.inl (some (vi (m2 32 0 (v1 + p1).toNatClampNeg))), G x m2)))) : Cl X (d + 1) 155 [vp 31 0, vi p0, vi p1] (G x m) Q := by
  show Wp X (d + 1) 155 (0, ([some (vp 31 0), some (vi p0), some (vi p1)], ([], G x m))) Q
  refine wp_run 3 true (5, ([some (vp 31 0), some (vi p0), some (vi p1)], ([vi p0, vp 32 0], G x m))) rfl rfl ?_
  refine wp_call 153 [vi p0] (8, ([some (vp 31 0), some (vi p0), some (vi p1)], ([vp 32 0], G x m))) rfl rfl (Cl.mono h (Nat.le_refl _) ?_)
  rintro r ⟨v1, m2, rfl, h⟩
  · show Wp X (d + 1) 155 (8, ([some (vp 31 0), some (vi p0), some (vi p1)], ([vi v1, vp 32 0], G x m2))) Q
    obtain ⟨hg2_0, h⟩ := h
    refine wp_run 3 (inb (v1 + p1) 136 && true) (11, ([some (vp 31 0), some (vi p0), some (vi p1)], ([vi (m2 32 0 (v1 + p1).toNatClampNeg)], G x m2))) rfl (and_t hg2_0 rfl) ?_
    exact wp_ret rfl h
set_option maxRecDepth 100000 in
set_option maxHeartbeats 4000000 in
theorem vc_X11_colour {X : MX} {d : Nat} {x : Int64 × UInt64} {m : MI} {Q : MRes → Prop} {p0 : Int32} (h : Wp X (d + 1) 156 (2, ([some (vp 31 0), some (vi p0), some (vi 0)], ([], G x m))) Q) : Cl X (d + 1) 156 [vp 31 0, vi p0] (G x m) Q := by
  show Wp X (d + 1) 156 (0, ([some (vp 31 0), some (vi p0), none], ([], G x m))) Q
  refine wp_run 2 true (2, ([some (vp 31 0), some (vi p0), some (vi 0)], ([], G x m))) rfl rfl ?_
  exact h
set_option maxRecDepth 100000 in
set_option maxHeartbeats 4000000 in
theorem vl_X11_colour_2 {X : MX} {d : Nat} {x : Int64 × UInt64} {m : MI} {Q : MRes → Prop} {l1 : Int32} {l2 : Int32} (h : (((m 32 0 0) ≤ l2 → Q (.inl (some (vi (-1))), G x m)) ∧ (¬ ((m 32 0 0) ≤ l2) → Cl X d 154 [vp 31 0, vi l2, vi 0] (G x m) (fun r => ∃ (v2 : Int32) (m3 : MI), r = (.inl (some (vi v2)), G x m3) ∧ ((¬ v2 = l1 → (∀ t5 : Int32, t5 = l2 + 1 → Wp X (d + 1) 156 (2, ([some (vp 31 0), some (vi l1), some (vi t5)], ([], G x m3))) Q)) ∧ (¬ (¬ v2 = l1) → Q (.inl (some (vi l2)), G x m3))))))) : Wp X (d + 1) 156 (2, ([some (vp 31 0), some (vi l1), some (vi l2)], ([], G x m))) Q := by
  refine wp_run 6 true ((bif decide ((m 32 0 0) ≤ l2) then 30 else 12), ([some (vp 31 0), some (vi l1), some (vi l2)], ([], G x m))) rfl rfl ?_
  refine wp_if ((m 32 0 0) ≤ l2) (fun c1 => ?_) (fun c1 => ?_)
  · have h := h.1 c1
    refine wp_run 1 true (31, ([some (vp 31 0), some (vi l1), some (vi l2)], ([vi (-1)], G x m))) rfl rfl ?_
    exact wp_ret rfl h
  · have h := h.2 c1
    refine wp_run 3 true (15, ([some (vp 31 0), some (vi l1), some (vi l2)], ([vi 0, vi l2, vp 31 0], G x m))) rfl rfl ?_
    refine wp_call 154 [vp 31 0, vi l2, vi 0] (18, ([some (vp 31 0), some (vi l1), some (vi l2)], ([], G x m))) rfl rfl (Cl.mono h (Nat.le_refl _) ?_)
    rintro r ⟨v2, m3, rfl, h⟩
    · show Wp X (d + 1) 156 (18, ([some (vp 31 0), some (vi l1), some (vi l2)], ([vi v2], G x m3))) Q
      refine wp_run 2 true ((bif decide (¬ v2 = l1) then 24 else 22), ([some (vp 31 0), some (vi l1), some (vi l2)], ([], G x m3))) rfl rfl ?_
      refine wp_if (¬ v2 = l1) (fun c4 => ?_) (fun c4 => ?_)
      · have h := h.1 c4
        refine wp_run 1 true (27, ([some (vp 31 0), some (vi l1), some (vi (l2 + 1))], ([], G x m3))) rfl rfl ?_
        refine wpg (fun t5 => Wp X (d + 1) 156 (27, ([some (vp 31 0), some (vi l1), some (vi t5)], ([], G x m3))) Q) (l2 + 1) (fun t5 ht5 => ?_)
        have h := h t5 ht5
        refine wp_run 1 true (2, ([some (vp 31 0), some (vi l1), some (vi t5)], ([], G x m3))) rfl rfl ?_
        exact h
      · have h := h.2 c4
        refine wp_run 1 true (23, ([some (vp 31 0), some (vi l1), some (vi l2)], ([vi l2], G x m3))) rfl rfl ?_
        exact wp_ret rfl h
set_option maxRecDepth 100000 in
set_option maxHeartbeats 4000000 in
theorem vc_X11_openReport {X : MX} {d : Nat} {x : Int64 × UInt64} {m : MI} {Q : MRes → Prop} {p0 : Int32} (h : Wp X (d + 1) 157 (2, ([some (vp 31 0), some (vi p0), some (vi 0)], ([], G x m))) Q) : Cl X (d + 1) 157 [vp 31 0, vi p0] (G x m) Q := by
  show Wp X (d + 1) 157 (0, ([some (vp 31 0), some (vi p0), none], ([], G x m))) Q
  refine wp_run 2 true (2, ([some (vp 31 0), some (vi p0), some (vi 0)], ([], G x m))) rfl rfl ?_
  exact h
set_option maxRecDepth 100000 in
set_option maxHeartbeats 4000000 in
theorem vl_X11_openReport_2 {X : MX} {d : Nat} {x : Int64 × UInt64} {m : MI} {Q : MRes → Prop} {l1 : Int32} {l2 : Int32} (h : (((m 32 0 1) ≤ l2 → Q (.inl (some (vi (-1))), G x m)) ∧ (¬ ((m 32 0 1) ≤ l2) → Cl X d 155 [vp 31 0, vi l2, vi 0] (G x m) (fun r => ∃ (v2 : Int32) (m3 : MI), r = (.inl (some (vi v2)), G x m3) ∧ ((¬ v2 = l1 → (∀ t5 : Int32, t5 = l2 + 1 → Wp X (d + 1) 157 (2, ([some (vp 31 0), some (vi l1), some (vi t5)], ([], G x m3))) Q)) ∧ (¬ (¬ v2 = l1) → Q (.inl (some (vi l2)), G x m3))))))) : Wp X (d + 1) 157 (2, ([some (vp 31 0), some (vi l1), some (vi l2)], ([], G x m))) Q := by
  refine wp_run 6 true ((bif decide ((m 32 0 1) ≤ l2) then 30 else 12), ([some (vp 31 0), some (vi l1), some (vi l2)], ([], G x m))) rfl rfl ?_
  refine wp_if ((m 32 0 1) ≤ l2) (fun c1 => ?_) (fun c1 => ?_)
  · have h := h.1 c1
    refine wp_run 1 true (31, ([some (vp 31 0), some (vi l1), some (vi l2)], ([vi (-1)], G x m))) rfl rfl ?_
    exact wp_ret rfl h
  · have h := h.2 c1
    refine wp_run 3 true (15, ([some (vp 31 0), some (vi l1), some (vi l2)], ([vi 0, vi l2, vp 31 0], G x m))) rfl rfl ?_
    refine wp_call 155 [vp 31 0, vi l2, vi 0] (18, ([some (vp 31 0), some (vi l1), some (vi l2)], ([], G x m))) rfl rfl (Cl.mono h (Nat.le_refl _) ?_)
    rintro r ⟨v2, m3, rfl, h⟩
    · show Wp X (d + 1) 157 (18, ([some (vp 31 0), some (vi l1), some (vi l2)], ([vi v2], G x m3))) Q
      refine wp_run 2 true ((bif decide (¬ v2 = l1) then 24 else 22), ([some (vp 31 0), some (vi l1), some (vi l2)], ([], G x m3))) rfl rfl ?_
      refine wp_if (¬ v2 = l1) (fun c4 => ?_) (fun c4 => ?_)
      · have h := h.1 c4
        refine wp_run 1 true (27, ([some (vp 31 0), some (vi l1), some (vi (l2 + 1))], ([], G x m3))) rfl rfl ?_
        refine wpg (fun t5 => Wp X (d + 1) 157 (27, ([some (vp 31 0), some (vi l1), some (vi t5)], ([], G x m3))) Q) (l2 + 1) (fun t5 ht5 => ?_)
        have h := h t5 ht5
        refine wp_run 1 true (2, ([some (vp 31 0), some (vi l1), some (vi t5)], ([], G x m3))) rfl rfl ?_
        exact h
      · have h := h.2 c4
        refine wp_run 1 true (23, ([some (vp 31 0), some (vi l1), some (vi l2)], ([vi l2], G x m3))) rfl rfl ?_
        exact wp_ret rfl h
set_option maxRecDepth 100000 in
set_option maxHeartbeats 4000000 in
theorem vc_X11_close {X : MX} {d : Nat} {x : Int64 × UInt64} {m : MI} {Q : MRes → Prop} {p0 : Int32} {p1 : Int32} {p2 : Int32} (h : (∀ t1 : Int32, t1 = p0 + (8 * p1) → Wp X d 158 (8, ([some (vp 31 0), some (vi p0), some (vi p1), some (vi p2), some (vi t1)], ([], G x m))) Q)) : Cl X d 158 [vp 31 0, vi p0, vi p1, vi p2] (G x m) Q := by
  show Wp X d 158 (0, ([some (vp 31 0), some (vi p0), some (vi p1), some (vi p2), none], ([], G x m))) Q
  refine wp_run 6 true (8, ([some (vp 31 0), some (vi p0), some (vi p1), some (vi p2), some (vi (p0 + (8 * p1)))], ([], G x m))) rfl rfl ?_
  refine wpg (fun t1 => Wp X d 158 (8, ([some (vp 31 0), some (vi p0), some (vi p1), some (vi p2), some (vi t1)], ([], G x m))) Q) (p0 + (8 * p1)) (fun t1 ht1 => ?_)
  have h := h t1 ht1
  exact h
set_option maxRecDepth 100000 in
set_option maxHeartbeats 4000000 in
theorem vl_X11_close_8 {X : MX} {d : Nat} {x : Int64 × UInt64} {m : MI} {Q : MRes → Prop} {l1 : Int32} {l2 : Int32} {l3 : Int32} {l4 : Int32} (h : (((l1 + (8 * l3)) ≤ l4 → Wp X d 158 (45, ([some (vp 31 0), some (vi l1), some (vi l2), some (vi l3), some (vi 0)], ([], G x m))) Q) ∧ (¬ ((l1 + (8 * l3)) ≤ l4) → (inb (l4 + 8) 136 = true ∧ inb l4 136 = true ∧ (∀ m2 : MI, m2 = mup m 32 0 (l4.toNatClampNeg) (m 32 0 (l4 + 8).toNatClampNeg) → (∀ t3 : Int32, t3 = l4 + 1 → Wp X d 158 (8, ([some (vp 31 0), some (vi l1), some (vi l2), some (vi l3), some (vi t3)], ([], G x m2))) Q)))))) : Wp X d 158 (8, ([some (vp 31 0), some (vi l1), some (vi l2), some (vi l3), some (vi l4)], ([], G x m))) Q := by
  refine wp_run 7 true ((bif decide ((l1 + (8 * l3)) ≤ l4) then 42 else 19), ([some (vp 31 0), some (vi l1), some (vi l2), some (vi l3), some (vi l4)], ([], G x m))) rfl rfl ?_
  refine wp_if ((l1 + (8 * l3)) ≤ l4) (fun c1 => ?_) (fun c1 => ?_)
  · have h := h.1 c1
    refine wp_run 2 true (45, ([some (vp 31 0), some (vi l1), some (vi l2), some (vi l3), some (vi 0)], ([], G x m))) rfl rfl ?_
    exact h
  · have h := h.2 c1
    obtain ⟨hg2_0, hg2_1, h⟩ := h
    refine wp_run 10 (inb l4 136 && (inb (l4 + 8) 136 && true)) (36, ([some (vp 31 0), some (vi l1), some (vi l2), some (vi l3), some (vi l4)], ([], G x (mup m 32 0 (l4.toNatClampNeg) (m 32 0 (l4 + 8).toNatClampNeg))))) rfl (and_t hg2_1 (and_t hg2_0 rfl)) ?_
    refine wpg (fun m2 => Wp X d 158 (36, ([some (vp 31 0), some (vi l1), some (vi l2), some (vi l3), some (vi l4)], ([], G x m2))) Q) (mup m 32 0 (l4.toNatClampNeg) (m 32 0 (l4 + 8).toNatClampNeg)) (fun m2 hm2 => ?_)
    have h := h m2 hm2
    refine wp_run 1 true (39, ([some (vp 31 0), some (vi l1), some (vi l2), some (vi l3), some (vi (l4 + 1))], ([], G x m2))) rfl rfl ?_
    refine wpg (fun t3 => Wp X d 158 (39, ([some (vp 31 0), some (vi l1), some (vi l2), some (vi l3), some (vi t3)], ([], G x m2))) Q) (l4 + 1) (fun t3 ht3 => ?_)
    have h := h t3 ht3
    refine wp_run 1 true (8, ([some (vp 31 0), some (vi l1), some (vi l2), some (vi l3), some (vi t3)], ([], G x m2))) rfl rfl ?_
    exact h
set_option maxRecDepth 100000 in
set_option maxHeartbeats 4000000 in
theorem vl_X11_close_45 {X : MX} {d : Nat} {x : Int64 × UInt64} {m : MI} {Q : MRes → Prop} {l1 : Int32} {l2 : Int32} {l3 : Int32} {l4 : Int32} (h : ((8 ≤ l4 → Q (.inl none, G x m)) ∧ (¬ (8 ≤ l4) → (inb ((l1 + (8 * l3)) + l4) 136 = true ∧ (∀ m2 : MI, m2 = mup m 32 0 (((l1 + (8 * l3)) + l4).toNatClampNeg) 0 → (∀ t3 : Int32, t3 = l4 + 1 → Wp X d 158 (45, ([some (vp 31 0), some (vi l1), some (vi l2), some (vi l3), some (vi t3)], ([], G x m2))) Q)))))) : Wp X d 158 (45, ([some (vp 31 0), some (vi l1), some (vi l2), some (vi l3), some (vi l4)], ([], G x m))) Q := by
  refine wp_run 3 true ((bif decide (8 ≤ l4) then 73 else 52), ([some (vp 31 0), some (vi l1), some (vi l2), some (vi l3), some (vi l4)], ([], G x m))) rfl rfl ?_
  refine wp_if (8 ≤ l4) (fun c1 => ?_) (fun c1 => ?_)
  · have h := h.1 c1
    exact wp_ret rfl h
  · have h := h.2 c1
    obtain ⟨hg2_0, h⟩ := h
    refine wp_run 11 (inb ((l1 + (8 * l3)) + l4) 136 && true) (67, ([some (vp 31 0), some (vi l1), some (vi l2), some (vi l3), some (vi l4)], ([], G x (mup m 32 0 (((l1 + (8 * l3)) + l4).toNatClampNeg) 0)))) rfl (and_t hg2_0 rfl) ?_
    refine wpg (fun m2 => Wp X d 158 (67, ([some (vp 31 0), some (vi l1), some (vi l2), some (vi l3), some (vi l4)], ([], G x m2))) Q) (mup m 32 0 (((l1 + (8 * l3)) + l4).toNatClampNeg) 0) (fun m2 hm2 => ?_)
    have h := h m2 hm2
    refine wp_run 1 true (70, ([some (vp 31 0), some (vi l1), some (vi l2), some (vi l3), some (vi (l4 + 1))], ([], G x m2))) rfl rfl ?_
    refine wpg (fun t3 => Wp X d 158 (70, ([some (vp 31 0), some (vi l1), some (vi l2), some (vi l3), some (vi t3)], ([], G x m2))) Q) (l4 + 1) (fun t3 ht3 => ?_)
    have h := h t3 ht3
    refine wp_run 1 true (45, ([some (vp 31 0), some (vi l1), some (vi l2), some (vi l3), some (vi t3)], ([], G x m2))) rfl rfl ?_
    exact h
set_option maxRecDepth 100000 in
set_option maxHeartbeats 4000000 in
theorem vc_X11_removeColour {X : MX} {d : Nat} {x : Int64 × UInt64} {m : MI} {Q : MRes → Prop} {p0 : Int32} (h : (∀ m1 : MI, m1 = mup m 32 0 0 ((m 32 0 0) - 1) → Cl X d 158 [vp 31 0, vi 8, vi p0, vi (m1 32 0 0)] (G x m1) (fun r => ∃ (m3 : MI), r = (.inl none, G x m3) ∧ Q (.inl none, G x m3)))) : Cl X (d + 1) 159 [vp 31 0, vi p0] (G x m) Q := by
  show Wp X (d + 1) 159 (0, ([some (vp 31 0), some (vi p0)], ([], G x m))) Q
  refine wp_run 8 true (10, ([some (vp 31 0), some (vi p0)], ([], G x (mup m 32 0 0 ((m 32 0 0) - 1))))) rfl rfl ?_
  refine wpg (fun m1 => Wp X (d + 1) 159 (10, ([some (vp 31 0), some (vi p0)], ([], G x m1))) Q) (mup m 32 0 0 ((m 32 0 0) - 1)) (fun m1 hm1 => ?_)
  have h := h m1 hm1
  refine wp_run 7 true (20, ([some (vp 31 0), some (vi p0)], ([vi (m1 32 0 0), vi p0, vi 8, vp 31 0], G x m1))) rfl rfl ?_
  refine wp_call 158 [vp 31 0, vi 8, vi p0, vi (m1 32 0 0)] (23, ([some (vp 31 0), some (vi p0)], ([], G x m1))) rfl rfl (Cl.mono h (Nat.le_refl _) ?_)
  rintro r ⟨m3, rfl, h⟩
  · show Wp X (d + 1) 159 (23, ([some (vp 31 0), some (vi p0)], ([], G x m3))) Q
    exact wp_ret rfl h
set_option maxRecDepth 100000 in
set_option maxHeartbeats 4000000 in
theorem vc_X11_removeReport {X : MX} {d : Nat} {x : Int64 × UInt64} {m : MI} {Q : MRes → Prop} {p0 : Int32} (h : (∀ m1 : MI, m1 = mup m 32 0 1 ((m 32 0 1) - 1) → Cl X d 158 [vp 31 0, vi 88, vi p0, vi (m1 32 0 1)] (G x m1) (fun r => ∃ (m3 : MI), r = (.inl none, G x m3) ∧ Q (.inl none, G x m3)))) : Cl X (d + 1) 160 [vp 31 0, vi p0] (G x m) Q := by
  show Wp X (d + 1) 160 (0, ([some (vp 31 0), some (vi p0)], ([], G x m))) Q
  refine wp_run 8 true (10, ([some (vp 31 0), some (vi p0)], ([], G x (mup m 32 0 1 ((m 32 0 1) - 1))))) rfl rfl ?_
  refine wpg (fun m1 => Wp X (d + 1) 160 (10, ([some (vp 31 0), some (vi p0)], ([], G x m1))) Q) (mup m 32 0 1 ((m 32 0 1) - 1)) (fun m1 hm1 => ?_)
  have h := h m1 hm1
  refine wp_run 7 true (20, ([some (vp 31 0), some (vi p0)], ([vi (m1 32 0 1), vi p0, vi 88, vp 31 0], G x m1))) rfl rfl ?_
  refine wp_call 158 [vp 31 0, vi 88, vi p0, vi (m1 32 0 1)] (23, ([some (vp 31 0), some (vi p0)], ([], G x m1))) rfl rfl (Cl.mono h (Nat.le_refl _) ?_)
  rintro r ⟨m3, rfl, h⟩
  · show Wp X (d + 1) 160 (23, ([some (vp 31 0), some (vi p0)], ([], G x m3))) Q
    exact wp_ret rfl h
set_option maxRecDepth 100000 in
set_option maxHeartbeats 4000000 in
theorem vc_X11_size {X : MX} {d : Nat} {x : Int64 × UInt64} {m : MI} {Q : MRes → Prop} {p0 : Int32} (h : ((0 ≤ p0 → Q (.inl (some (vi p0)), G x m)) ∧ (¬ (0 ≤ p0) → Q (.inl (some (vi (-p0))), G x m)))) : Cl X d 161 [vi p0] (G x m) Q := by
  show Wp X d 161 (0, ([some (vi p0)], ([], G x m))) Q
  refine wp_run 2 true ((bif decide (0 ≤ p0) then 9 else 4), ([some (vi p0)], ([], G x m))) rfl rfl ?_
  refine wp_if (0 ≤ p0) (fun c1 => ?_) (fun c1 => ?_)
  · have h := h.1 c1
    refine wp_run 1 true (10, ([some (vi p0)], ([vi p0], G x m))) rfl rfl ?_
    exact wp_ret rfl h
  · have h := h.2 c1
    refine wp_run 3 true (10, ([some (vi p0)], ([vi (-p0)], G x m))) rfl rfl ?_
    exact wp_ret rfl h
set_option maxRecDepth 100000 in
set_option maxHeartbeats 4000000 in
theorem vc_X11_apart {X : MX} {d : Nat} {x : Int64 × UInt64} {m : MI} {Q : MRes → Prop} {p0 : Int32} {p1 : Int32} (h : (inb (p0 + 1) 136 = true ∧ inb (p1 + 1) 136 = true ∧ Cl X d 161 [vi ((m 32 0 (p0 + 1).toNatClampNeg) - (m 32 0 (p1 + 1).toNatClampNeg))] (G x m) (fun r => ∃ (v1 : Int32) (m2 : MI), r = (.inl (some (vi v1)), G x m2) ∧ (inb (p0 + 2) 136 = true ∧ inb (p1 + 2) 136 = true ∧ Cl X d 161 [vi ((m2 32 0 (p0 + 2).toNatClampNeg) - (m2 32 0 (p1 + 2).toNatClampNeg))] (G x m2) (fun r => ∃ (v3 : Int32) (m4 : MI), r = (.inl (some (vi v3)), G x m4) ∧ (inb (p0 + 3) 136 = true ∧ inb (p1 + 3) 136 = true ∧ Cl X d 161 [vi ((m4 32 0 (p0 + 3).toNatClampNeg) - (m4 32 0 (p1 + 3).toNatClampNeg))] (G x m4) (fun r => ∃ (v5 : Int32) (m6 : MI), r = (.inl (some (vi v5)), G x m6) ∧ ((¬ (m6 32 0 5) = 109 → ((¬ (m6 32 0 5) = 115 → ((v1 ≤ v3 → ((v3 ≤ v5 → Q (.inl (some (vi v5)), G x m6)) ∧ (¬ (v3 ≤ v5) → Q (.inl (some (vi v3)), G x m6)))) ∧ (¬ (v1 ≤ v3) → ((v1 ≤ v5 → Q (.inl (some (vi v5)), G x m6)) ∧ (¬ (v1 ≤ v5) → Q (.inl (some (vi v1)), G x m6)))))) ∧ (¬ (¬ (m6 32 0 5) = 115) → Q (.inl (some (vi (((v1 * v1) + (v3 * v3)) + (v5 * v5)))), G x m6)))) ∧ (¬ (¬ (m6 32 0 5) = 109) → Q (.inl (some (vi ((v1 + v3) + v5))), G x m6)))))))))) : Cl X (d + 1) 162 [vp 31 0, vi p0, vi p1] (G x m) Q := by
  show Wp X (d + 1) 162 (0, ([some (vp 31 0), some (vi p0), some (vi p1), none, none, none, none], ([], G x m))) Q
  obtain ⟨hg1_0, hg1_1, h⟩ := h
  refine wp_run 13 (inb (p1 + 1) 136 && (inb (p0 + 1) 136 && true)) (17, ([some (vp 31 0), some (vi p0), some (vi p1), none, none, none, none], ([vi ((m 32 0 (p0 + 1).toNatClampNeg) - (m 32 0 (p1 + 1).toNatClampNeg))], G x m))) rfl (and_t hg1_1 (and_t hg1_0 rfl)) ?_
  refine wp_call 161 [vi ((m 32 0 (p0 + 1).toNatClampNeg) - (m 32 0 (p1 + 1).toNatClampNeg))] (20, ([some (vp 31 0), some (vi p0), some (vi p1), none, none, none, none], ([], G x m))) rfl rfl (Cl.mono h (Nat.le_refl _) ?_)
  rintro r ⟨v1, m2, rfl, h⟩
  · show Wp X (d + 1) 162 (20, ([some (vp 31 0), some (vi p0), some (vi p1), none, none, none, none], ([vi v1], G x m2))) Q
    obtain ⟨hg2_0, hg2_1, h⟩ := h
    refine wp_run 14 (inb (p1 + 2) 136 && (inb (p0 + 2) 136 && true)) (38, ([some (vp 31 0), some (vi p0), some (vi p1), some (vi v1), none, none, none], ([vi ((m2 32 0 (p0 + 2).toNatClampNeg) - (m2 32 0 (p1 + 2).toNatClampNeg))], G x m2))) rfl (and_t hg2_1 (and_t hg2_0 rfl)) ?_
    refine wp_call 161 [vi ((m2 32 0 (p0 + 2).toNatClampNeg) - (m2 32 0 (p1 + 2).toNatClampNeg))] (41, ([some (vp 31 0), some (vi p0), some (vi p1), some (vi v1), none, none, none], ([], G x m2))) rfl rfl (Cl.mono h (Nat.le_refl _) ?_)
    rintro r ⟨v3, m4, rfl, h⟩
    · show Wp X (d + 1) 162 (41, ([some (vp 31 0), some (vi p0), some (vi p1), some (vi v1), none, none, none], ([vi v3], G x m4))) Q
      obtain ⟨hg3_0, hg3_1, h⟩ := h
      refine wp_run 14 (inb (p1 + 3) 136 && (inb (p0 + 3) 136 && true)) (60, ([some (vp 31 0), some (vi p0), some (vi p1), some (vi v1), some (vi v3), none, none], ([vi ((m4 32 0 (p0 + 3).toNatClampNeg) - (m4 32 0 (p1 + 3).toNatClampNeg))], G x m4))) rfl (and_t hg3_1 (and_t hg3_0 rfl)) ?_
      refine wp_call 161 [vi ((m4 32 0 (p0 + 3).toNatClampNeg) - (m4 32 0 (p1 + 3).toNatClampNeg))] (63, ([some (vp 31 0), some (vi p0), some (vi p1), some (vi v1), some (vi v3), none, none], ([], G x m4))) rfl rfl (Cl.mono h (Nat.le_refl _) ?_)
      rintro r ⟨v5, m6, rfl, h⟩
      · show Wp X (d + 1) 162 (63, ([some (vp 31 0), some (vi p0), some (vi p1), some (vi v1), some (vi v3), none, none], ([vi v5], G x m6))) Q
        refine wp_run 7 true ((bif decide (¬ (m6 32 0 5) = 109) then 84 else 76), ([some (vp 31 0), some (vi p0), some (vi p1), some (vi v1), some (vi v3), some (vi v5), none], ([], G x m6))) rfl rfl ?_
        refine wp_if (¬ (m6 32 0 5) = 109) (fun c7 => ?_) (fun c7 => ?_)
        · have h := h.1 c7
          refine wp_run 6 true ((bif decide (¬ (m6 32 0 5) = 115) then 111 else 95), ([some (vp 31 0), some (vi p0), some (vi p1), some (vi v1), some (vi v3), some (vi v5), none], ([], G x m6))) rfl rfl ?_
          refine wp_if (¬ (m6 32 0 5) = 115) (fun c8 => ?_) (fun c8 => ?_)
          · have h := h.1 c8
            refine wp_run 3 true ((bif decide (v1 ≤ v3) then 121 else 117), ([some (vp 31 0), some (vi p0), some (vi p1), some (vi v1), some (vi v3), some (vi v5), none], ([], G x m6))) rfl rfl ?_
            refine wp_if (v1 ≤ v3) (fun c9 => ?_) (fun c9 => ?_)
            · have h := h.1 c9
              refine wp_run 5 true ((bif decide (v3 ≤ v5) then 137 else 132), ([some (vp 31 0), some (vi p0), some (vi p1), some (vi v1), some (vi v3), some (vi v5), some (vi v3)], ([], G x m6))) rfl rfl ?_
              refine wp_if (v3 ≤ v5) (fun c10 => ?_) (fun c10 => ?_)
              · have h := h.1 c10
                refine wp_run 1 true (139, ([some (vp 31 0), some (vi p0), some (vi p1), some (vi v1), some (vi v3), some (vi v5), some (vi v3)], ([vi v5], G x m6))) rfl rfl ?_
                exact wp_ret rfl h
              · have h := h.2 c10
                refine wp_run 2 true (139, ([some (vp 31 0), some (vi p0), some (vi p1), some (vi v1), some (vi v3), some (vi v5), some (vi v3)], ([vi v3], G x m6))) rfl rfl ?_
                exact wp_ret rfl h
            · have h := h.2 c9
              refine wp_run 6 true ((bif decide (v1 ≤ v5) then 137 else 132), ([some (vp 31 0), some (vi p0), some (vi p1), some (vi v1), some (vi v3), some (vi v5), some (vi v1)], ([], G x m6))) rfl rfl ?_
              refine wp_if (v1 ≤ v5) (fun c11 => ?_) (fun c11 => ?_)
              · have h := h.1 c11
                refine wp_run 1 true (139, ([some (vp 31 0), some (vi p0), some (vi p1), some (vi v1), some (vi v3), some (vi v5), some (vi v1)], ([vi v5], G x m6))) rfl rfl ?_
                exact wp_ret rfl h
              · have h := h.2 c11
                refine wp_run 2 true (139, ([some (vp 31 0), some (vi p0), some (vi p1), some (vi v1), some (vi v3), some (vi v5), some (vi v1)], ([vi v1], G x m6))) rfl rfl ?_
                exact wp_ret rfl h
          · have h := h.2 c8
            refine wp_run 11 true (110, ([some (vp 31 0), some (vi p0), some (vi p1), some (vi v1), some (vi v3), some (vi v5), none], ([vi (((v1 * v1) + (v3 * v3)) + (v5 * v5))], G x m6))) rfl rfl ?_
            exact wp_ret rfl h
        · have h := h.2 c7
          refine wp_run 5 true (83, ([some (vp 31 0), some (vi p0), some (vi p1), some (vi v1), some (vi v3), some (vi v5), none], ([vi ((v1 + v3) + v5)], G x m6))) rfl rfl ?_
          exact wp_ret rfl h
set_option maxRecDepth 100000 in
set_option maxHeartbeats 4000000 in
theorem vc_X11_apartFor {X : MX} {d : Nat} {x : Int64 × UInt64} {m : MI} {Q : MRes → Prop} {p0 : Int32} {p1 : Int32} (h : Cl X d 153 [vi p0] (G x m) (fun r => ∃ (v1 : Int32) (m2 : MI), r = (.inl (some (vi v1)), G x m2) ∧ Cl X d 152 [vi p1] (G x m2) (fun r => ∃ (v3 : Int32) (m4 : MI), r = (.inl (some (vi v3)), G x m4) ∧ Cl X d 162 [vp 31 0, vi v1, vi v3] (G x m4) (fun r => ∃ (v5 : Int32) (m6 : MI), r = (.inl (some (vi v5)), G x m6) ∧ Q (.inl (some (vi v5)), G x m6))))) : Cl X (d + 1) 163 [vp 31 0, vi p0, vi p1] (G x m) Q := by
  show Wp X (d + 1) 163 (0, ([some (vp 31 0), some (vi p0), some (vi p1)], ([], G x m))) Q
  refine wp_run 2 true (2, ([some (vp 31 0), some (vi p0), some (vi p1)], ([vi p0, vp 31 0], G x m))) rfl rfl ?_
  refine wp_call 153 [vi p0] (5, ([some (vp 31 0), some (vi p0), some (vi p1)], ([vp 31 0], G x m))) rfl rfl (Cl.mono h (Nat.le_refl _) ?_)
  rintro r ⟨v1, m2, rfl, h⟩
  · show Wp X (d + 1) 163 (5, ([some (vp 31 0), some (vi p0), some (vi p1)], ([vi v1, vp 31 0], G x m2))) Q
    refine wp_run 1 true (6, ([some (vp 31 0), some (vi p0), some (vi p1)], ([vi p1, vi v1, vp 31 0], G x m2))) rfl rfl ?_
    refine wp_call 152 [vi p1] (9, ([some (vp 31 0), some (vi p0), some (vi p1)], ([vi v1, vp 31 0], G x m2))) rfl rfl (Cl.mono h (Nat.le_refl _) ?_)
    rintro r ⟨v3, m4, rfl, h⟩
    · show Wp X (d + 1) 163 (9, ([some (vp 31 0), some (vi p0), some (vi p1)], ([vi v3, vi v1, vp 31 0], G x m4))) Q
      refine wp_call 162 [vp 31 0, vi v1, vi v3] (12, ([some (vp 31 0), some (vi p0), some (vi p1)], ([], G x m4))) rfl rfl (Cl.mono h (Nat.le_refl _) ?_)
      rintro r ⟨v5, m6, rfl, h⟩
      · show Wp X (d + 1) 163 (12, ([some (vp 31 0), some (vi p0), some (vi p1)], ([vi v5], G x m6))) Q
        exact wp_ret rfl h
set_option maxRecDepth 100000 in
set_option maxHeartbeats 4000000 in
theorem vc_X11_isFit {X : MX} {d : Nat} {x : Int64 × UInt64} {m : MI} {Q : MRes → Prop} {p0 : Int32} {p1 : Int32} (h : Cl X d 163 [vp 31 0, vi p0, vi p1] (G x m) (fun r => ∃ (v1 : Int32) (m2 : MI), r = (.inl (some (vi v1)), G x m2) ∧ Cl X d 155 [vp 31 0, vi p0, vi 4] (G x m2) (fun r => ∃ (v3 : Int32) (m4 : MI), r = (.inl (some (vi v3)), G x m4) ∧ ((v3 < v1 → Q (.inl (some (vi 0)), G x m4)) ∧ (¬ (v3 < v1) → Q (.inl (some (vi 1)), G x m4)))))) : Cl X (d + 1) 164 [vp 31 0, vi p0, vi p1] (G x m) Q := by
  show Wp X (d + 1) 164 (0, ([some (vp 31 0), some (vi p0), some (vi p1)], ([], G x m))) Q
  refine wp_run 3 true (3, ([some (vp 31 0), some (vi p0), some (vi p1)], ([vi p1, vi p0, vp 31 0], G x m))) rfl rfl ?_
  refine wp_call 163 [vp 31 0, vi p0, vi p1] (6, ([some (vp 31 0), some (vi p0), some (vi p1)], ([], G x m))) rfl rfl (Cl.mono h (Nat.le_refl _) ?_)
  rintro r ⟨v1, m2, rfl, h⟩
  · show Wp X (d + 1) 164 (6, ([some (vp 31 0), some (vi p0), some (vi p1)], ([vi v1], G x m2))) Q
    refine wp_run 3 true (9, ([some (vp 31 0), some (vi p0), some (vi p1)], ([vi 4, vi p0, vp 31 0, vi v1], G x m2))) rfl rfl ?_
    refine wp_call 155 [vp 31 0, vi p0, vi 4] (12, ([some (vp 31 0), some (vi p0), some (vi p1)], ([vi v1], G x m2))) rfl rfl (Cl.mono h (Nat.le_refl _) ?_)
    rintro r ⟨v3, m4, rfl, h⟩
    · show Wp X (d + 1) 164 (12, ([some (vp 31 0), some (vi p0), some (vi p1)], ([vi v3, vi v1], G x m4))) Q
      refine wp_run 1 true ((bif decide (v3 < v1) then 19 else 15), ([some (vp 31 0), some (vi p0), some (vi p1)], ([], G x m4))) rfl rfl ?_
      refine wp_if (v3 < v1) (fun c5 => ?_) (fun c5 => ?_)
      · have h := h.1 c5
        refine wp_run 1 true (20, ([some (vp 31 0), some (vi p0), some (vi p1)], ([vi 0], G x m4))) rfl rfl ?_
        exact wp_ret rfl h
      · have h := h.2 c5
        refine wp_run 2 true (20, ([some (vp 31 0), some (vi p0), some (vi p1)], ([vi 1], G x m4))) rfl rfl ?_
        exact wp_ret rfl h
set_option maxRecDepth 100000 in
set_option maxHeartbeats 4000000 in
theorem vc_X11_nearestTo {X : MX} {d : Nat} {x : Int64 × UInt64} {m : MI} {Q : MRes → Prop} {p0 : Int32} (h : Wp X (d + 1) 165 (4, ([some (vp 31 0), some (vi p0), some (vi (-1)), some (vi 0)], ([], G x m))) Q) : Cl X (d + 1) 165 [vp 31 0, vi p0] (G x m) Q := by
  show Wp X (d + 1) 165 (0, ([some (vp 31 0), some (vi p0), none, none], ([], G x m))) Q
  refine wp_run 4 true (4, ([some (vp 31 0), some (vi p0), some (vi (-1)), some (vi 0)], ([], G x m))) rfl rfl ?_
  exact h
set_option maxRecDepth 100000 in
set_option maxHeartbeats 4000000 in
theorem vl_X11_nearestTo_4 {X : MX} {d : Nat} {x : Int64 × UInt64} {m : MI} {Q : MRes → Prop} {l1 : Int32} {l2 : Int32} {l3 : Int32} (h : (((m 32 0 0) ≤ l3 → Q (.inl (some (vi l2)), G x m)) ∧ (¬ ((m 32 0 0) ≤ l3) → ((l2 < 0 → (∀ t3 : Int32, t3 = l3 + 1 → Wp X (d + 1) 165 (4, ([some (vp 31 0), some (vi l1), some (vi l3), some (vi t3)], ([], G x m))) Q)) ∧ (¬ (l2 < 0) → Cl X d 152 [vi l3] (G x m) (fun r => ∃ (v4 : Int32) (m5 : MI), r = (.inl (some (vi v4)), G x m5) ∧ Cl X d 162 [vp 31 0, vi l1, vi v4] (G x m5) (fun r => ∃ (v6 : Int32) (m7 : MI), r = (.inl (some (vi v6)), G x m7) ∧ Cl X d 152 [vi l2] (G x m7) (fun r => ∃ (v8 : Int32) (m9 : MI), r = (.inl (some (vi v8)), G x m9) ∧ Cl X d 162 [vp 31 0, vi l1, vi v8] (G x m9) (fun r => ∃ (v10 : Int32) (m11 : MI), r = (.inl (some (vi v10)), G x m11) ∧ ((v10 ≤ v6 → (∀ t13 : Int32, t13 = l3 + 1 → Wp X (d + 1) 165 (4, ([some (vp 31 0), some (vi l1), some (vi l2), some (vi t13)], ([], G x m11))) Q)) ∧ (¬ (v10 ≤ v6) → (∀ t14 : Int32, t14 = l3 + 1 → Wp X (d + 1) 165 (4, ([some (vp 31 0), some (vi l1), some (vi l3), some (vi t14)], ([], G x m11))) Q)))))))))))) : Wp X (d + 1) 165 (4, ([some (vp 31 0), some (vi l1), some (vi l2), some (vi l3)], ([], G x m))) Q := by
  refine wp_run 6 true ((bif decide ((m 32 0 0) ≤ l3) then 47 else 14), ([some (vp 31 0), some (vi l1), some (vi l2), some (vi l3)], ([], G x m))) rfl rfl ?_
  refine wp_if ((m 32 0 0) ≤ l3) (fun c1 => ?_) (fun c1 => ?_)
  · have h := h.1 c1
    refine wp_run 1 true (48, ([some (vp 31 0), some (vi l1), some (vi l2), some (vi l3)], ([vi l2], G x m))) rfl rfl ?_
    exact wp_ret rfl h
  · have h := h.2 c1
    refine wp_run 2 true ((bif decide (l2 < 0) then 39 else 18), ([some (vp 31 0), some (vi l1), some (vi l2), some (vi l3)], ([], G x m))) rfl rfl ?_
    refine wp_if (l2 < 0) (fun c2 => ?_) (fun c2 => ?_)
    · have h := h.1 c2
      refine wp_run 3 true (44, ([some (vp 31 0), some (vi l1), some (vi l3), some (vi (l3 + 1))], ([], G x m))) rfl rfl ?_
      refine wpg (fun t3 => Wp X (d + 1) 165 (44, ([some (vp 31 0), some (vi l1), some (vi l3), some (vi t3)], ([], G x m))) Q) (l3 + 1) (fun t3 ht3 => ?_)
      have h := h t3 ht3
      refine wp_run 1 true (4, ([some (vp 31 0), some (vi l1), some (vi l3), some (vi t3)], ([], G x m))) rfl rfl ?_
      exact h
    · have h := h.2 c2
      refine wp_run 3 true (21, ([some (vp 31 0), some (vi l1), some (vi l2), some (vi l3)], ([vi l3, vi l1, vp 31 0], G x m))) rfl rfl ?_
      refine wp_call 152 [vi l3] (24, ([some (vp 31 0), some (vi l1), some (vi l2), some (vi l3)], ([vi l1, vp 31 0], G x m))) rfl rfl (Cl.mono h (Nat.le_refl _) ?_)
      rintro r ⟨v4, m5, rfl, h⟩
      · show Wp X (d + 1) 165 (24, ([some (vp 31 0), some (vi l1), some (vi l2), some (vi l3)], ([vi v4, vi l1, vp 31 0], G x m5))) Q
        refine wp_call 162 [vp 31 0, vi l1, vi v4] (27, ([some (vp 31 0), some (vi l1), some (vi l2), some (vi l3)], ([], G x m5))) rfl rfl (Cl.mono h (Nat.le_refl _) ?_)
        rintro r ⟨v6, m7, rfl, h⟩
        · show Wp X (d + 1) 165 (27, ([some (vp 31 0), some (vi l1), some (vi l2), some (vi l3)], ([vi v6], G x m7))) Q
          refine wp_run 3 true (30, ([some (vp 31 0), some (vi l1), some (vi l2), some (vi l3)], ([vi l2, vi l1, vp 31 0, vi v6], G x m7))) rfl rfl ?_
          refine wp_call 152 [vi l2] (33, ([some (vp 31 0), some (vi l1), some (vi l2), some (vi l3)], ([vi l1, vp 31 0, vi v6], G x m7))) rfl rfl (Cl.mono h (Nat.le_refl _) ?_)
          rintro r ⟨v8, m9, rfl, h⟩
          · show Wp X (d + 1) 165 (33, ([some (vp 31 0), some (vi l1), some (vi l2), some (vi l3)], ([vi v8, vi l1, vp 31 0, vi v6], G x m9))) Q
            refine wp_call 162 [vp 31 0, vi l1, vi v8] (36, ([some (vp 31 0), some (vi l1), some (vi l2), some (vi l3)], ([vi v6], G x m9))) rfl rfl (Cl.mono h (Nat.le_refl _) ?_)
            rintro r ⟨v10, m11, rfl, h⟩
            · show Wp X (d + 1) 165 (36, ([some (vp 31 0), some (vi l1), some (vi l2), some (vi l3)], ([vi v10, vi v6], G x m11))) Q
              refine wp_run 1 true ((bif decide (v10 ≤ v6) then 41 else 39), ([some (vp 31 0), some (vi l1), some (vi l2), some (vi l3)], ([], G x m11))) rfl rfl ?_
              refine wp_if (v10 ≤ v6) (fun c12 => ?_) (fun c12 => ?_)
              · have h := h.1 c12
                refine wp_run 1 true (44, ([some (vp 31 0), some (vi l1), some (vi l2), some (vi (l3 + 1))], ([], G x m11))) rfl rfl ?_
                refine wpg (fun t13 => Wp X (d + 1) 165 (44, ([some (vp 31 0), some (vi l1), some (vi l2), some (vi t13)], ([], G x m11))) Q) (l3 + 1) (fun t13 ht13 => ?_)
                have h := h t13 ht13
                refine wp_run 1 true (4, ([some (vp 31 0), some (vi l1), some (vi l2), some (vi t13)], ([], G x m11))) rfl rfl ?_
                exact h
              · have h := h.2 c12
                refine wp_run 3 true (44, ([some (vp 31 0), some (vi l1), some (vi l3), some (vi (l3 + 1))], ([], G x m11))) rfl rfl ?_
                refine wpg (fun t14 => Wp X (d + 1) 165 (44, ([some (vp 31 0), some (vi l1), some (vi l3), some (vi t14)], ([], G x m11))) Q) (l3 + 1) (fun t14 ht14 => ?_)
                have h := h t14 ht14
                refine wp_run 1 true (4, ([some (vp 31 0), some (vi l1), some (vi l3), some (vi t14)], ([], G x m11))) rfl rfl ?_
                exact h
set_option maxRecDepth 100000 in
set_option maxHeartbeats 4000000 in
theorem vc_X11_areParts {X : MX} {d : Nat} {x : Int64 × UInt64} {m : MI} {Q : MRes → Prop} {p0 : Int32} {p1 : Int32} {p2 : Int32} (h : Cl X d 147 [vi p0, vi 0, vi 99] (G x m) (fun r => ∃ (v1 : Int32) (m2 : MI), r = (.inl (some (vi v1)), G x m2) ∧ ((v1 = 0 → Q (.inl (some (vi 0)), G x m2)) ∧ (¬ (v1 = 0) → Cl X d 147 [vi p1, vi 0, vi 99] (G x m2) (fun r => ∃ (v4 : Int32) (m5 : MI), r = (.inl (some (vi v4)), G x m5) ∧ ((v4 = 0 → Q (.inl (some (vi 0)), G x m5)) ∧ (¬ (v4 = 0) → Cl X d 147 [vi p2, vi 0, vi 99] (G x m5) (fun r => ∃ (v7 : Int32) (m8 : MI), r = (.inl (some (vi v7)), G x m8) ∧ ((v7 = 0 → Q (.inl (some (vi 0)), G x m8)) ∧ (¬ (v7 = 0) → Q (.inl (some (vi 1)), G x m8))))))))))) : Cl X (d + 1) 166 [vi p0, vi p1, vi p2] (G x m) Q := by
  show Wp X (d + 1) 166 (0, ([some (vi p0), some (vi p1), some (vi p2)], ([], G x m))) Q
  refine wp_run 3 true (4, ([some (vi p0), some (vi p1), some (vi p2)], ([vi 99, vi 0, vi p0], G x m))) rfl rfl ?_
  refine wp_call 147 [vi p0, vi 0, vi 99] (7, ([some (vi p0), some (vi p1), some (vi p2)], ([], G x m))) rfl rfl (Cl.mono h (Nat.le_refl _) ?_)
  rintro r ⟨v1, m2, rfl, h⟩
  · show Wp X (d + 1) 166 (7, ([some (vi p0), some (vi p1), some (vi p2)], ([vi v1], G x m2))) Q
    refine wp_run 1 true ((bif decide (v1 = 0) then 34 else 10), ([some (vi p0), some (vi p1), some (vi p2)], ([], G x m2))) rfl rfl ?_
    refine wp_if (v1 = 0) (fun c3 => ?_) (fun c3 => ?_)
    · have h := h.1 c3
      refine wp_run 1 true (35, ([some (vi p0), some (vi p1), some (vi p2)], ([vi 0], G x m2))) rfl rfl ?_
      exact wp_ret rfl h
    · have h := h.2 c3
      refine wp_run 3 true (14, ([some (vi p0), some (vi p1), some (vi p2)], ([vi 99, vi 0, vi p1], G x m2))) rfl rfl ?_
      refine wp_call 147 [vi p1, vi 0, vi 99] (17, ([some (vi p0), some (vi p1), some (vi p2)], ([], G x m2))) rfl rfl (Cl.mono h (Nat.le_refl _) ?_)
      rintro r ⟨v4, m5, rfl, h⟩
      · show Wp X (d + 1) 166 (17, ([some (vi p0), some (vi p1), some (vi p2)], ([vi v4], G x m5))) Q
        refine wp_run 1 true ((bif decide (v4 = 0) then 34 else 20), ([some (vi p0), some (vi p1), some (vi p2)], ([], G x m5))) rfl rfl ?_
        refine wp_if (v4 = 0) (fun c6 => ?_) (fun c6 => ?_)
        · have h := h.1 c6
          refine wp_run 1 true (35, ([some (vi p0), some (vi p1), some (vi p2)], ([vi 0], G x m5))) rfl rfl ?_
          exact wp_ret rfl h
        · have h := h.2 c6
          refine wp_run 3 true (24, ([some (vi p0), some (vi p1), some (vi p2)], ([vi 99, vi 0, vi p2], G x m5))) rfl rfl ?_
          refine wp_call 147 [vi p2, vi 0, vi 99] (27, ([some (vi p0), some (vi p1), some (vi p2)], ([], G x m5))) rfl rfl (Cl.mono h (Nat.le_refl _) ?_)
          rintro r ⟨v7, m8, rfl, h⟩
          · show Wp X (d + 1) 166 (27, ([some (vi p0), some (vi p1), some (vi p2)], ([vi v7], G x m8))) Q
            refine wp_run 1 true ((bif decide (v7 = 0) then 34 else 30), ([some (vi p0), some (vi p1), some (vi p2)], ([], G x m8))) rfl rfl ?_
            refine wp_if (v7 = 0) (fun c9 => ?_) (fun c9 => ?_)
            · have h := h.1 c9
              refine wp_run 1 true (35, ([some (vi p0), some (vi p1), some (vi p2)], ([vi 0], G x m8))) rfl rfl ?_
              exact wp_ret rfl h
            · have h := h.2 c9
              refine wp_run 2 true (35, ([some (vi p0), some (vi p1), some (vi p2)], ([vi 1], G x m8))) rfl rfl ?_
              exact wp_ret rfl h
set_option maxRecDepth 100000 in
set_option maxHeartbeats 4000000 in
theorem vc_X11_lay {X : MX} {d : Nat} {x : Int64 × UInt64} {m : MI} {Q : MRes → Prop} {p0 : Int32} {p1 : Int32} {p2 : Int32} {p3 : Int32} {p4 : Int32} {p5 : Int32} {p6 : Int32} (h : (inb (p0 + 0) 136 = true ∧ (∀ m1 : MI, m1 = mup m 32 0 ((p0 + 0).toNatClampNeg) p1 → (inb (p0 + 1) 136 = true ∧ (∀ m2 : MI, m2 = mup m1 32 0 ((p0 + 1).toNatClampNeg) p2 → (inb (p0 + 2) 136 = true ∧ (∀ m3 : MI, m3 = mup m2 32 0 ((p0 + 2).toNatClampNeg) p3 → (inb (p0 + 3) 136 = true ∧ (∀ m4 : MI, m4 = mup m3 32 0 ((p0 + 3).toNatClampNeg) p4 → (inb (p0 + 4) 136 = true ∧ (∀ m5 : MI, m5 = mup m4 32 0 ((p0 + 4).toNatClampNeg) p5 → (inb (p0 + 5) 136 = true ∧ (∀ m6 : MI, m6 = mup m5 32 0 ((p0 + 5).toNatClampNeg) p6 → Q (.inl none, G x m6)))))))))))))) : Cl X d 167 [vp 31 0, vi p0, vi p1, vi p2, vi p3, vi p4, vi p5, vi p6] (G x m) Q := by
  show Wp X d 167 (0, ([some (vp 31 0), some (vi p0), some (vi p1), some (vi p2), some (vi p3), some (vi p4), some (vi p5), some (vi p6)], ([], G x m))) Q
  obtain ⟨hg1_0, h⟩ := h
  refine wp_run 7 (inb (p0 + 0) 136 && true) (9, ([some (vp 31 0), some (vi p0), some (vi p1), some (vi p2), some (vi p3), some (vi p4), some (vi p5), some (vi p6)], ([], G x (mup m 32 0 ((p0 + 0).toNatClampNeg) p1)))) rfl (and_t hg1_0 rfl) ?_
  refine wpg (fun m1 => Wp X d 167 (9, ([some (vp 31 0), some (vi p0), some (vi p1), some (vi p2), some (vi p3), some (vi p4), some (vi p5), some (vi p6)], ([], G x m1))) Q) (mup m 32 0 ((p0 + 0).toNatClampNeg) p1) (fun m1 hm1 => ?_)
  have h := h m1 hm1
  obtain ⟨hg1_0, h⟩ := h
  refine wp_run 7 (inb (p0 + 1) 136 && true) (18, ([some (vp 31 0), some (vi p0), some (vi p1), some (vi p2), some (vi p3), some (vi p4), some (vi p5), some (vi p6)], ([], G x (mup m1 32 0 ((p0 + 1).toNatClampNeg) p2)))) rfl (and_t hg1_0 rfl) ?_
  refine wpg (fun m2 => Wp X d 167 (18, ([some (vp 31 0), some (vi p0), some (vi p1), some (vi p2), some (vi p3), some (vi p4), some (vi p5), some (vi p6)], ([], G x m2))) Q) (mup m1 32 0 ((p0 + 1).toNatClampNeg) p2) (fun m2 hm2 => ?_)
  have h := h m2 hm2
  obtain ⟨hg1_0, h⟩ := h
  refine wp_run 7 (inb (p0 + 2) 136 && true) (28, ([some (vp 31 0), some (vi p0), some (vi p1), some (vi p2), some (vi p3), some (vi p4), some (vi p5), some (vi p6)], ([], G x (mup m2 32 0 ((p0 + 2).toNatClampNeg) p3)))) rfl (and_t hg1_0 rfl) ?_
  refine wpg (fun m3 => Wp X d 167 (28, ([some (vp 31 0), some (vi p0), some (vi p1), some (vi p2), some (vi p3), some (vi p4), some (vi p5), some (vi p6)], ([], G x m3))) Q) (mup m2 32 0 ((p0 + 2).toNatClampNeg) p3) (fun m3 hm3 => ?_)
  have h := h m3 hm3
  obtain ⟨hg1_0, h⟩ := h
  refine wp_run 7 (inb (p0 + 3) 136 && true) (38, ([some (vp 31 0), some (vi p0), some (vi p1), some (vi p2), some (vi p3), some (vi p4), some (vi p5), some (vi p6)], ([], G x (mup m3 32 0 ((p0 + 3).toNatClampNeg) p4)))) rfl (and_t hg1_0 rfl) ?_
  refine wpg (fun m4 => Wp X d 167 (38, ([some (vp 31 0), some (vi p0), some (vi p1), some (vi p2), some (vi p3), some (vi p4), some (vi p5), some (vi p6)], ([], G x m4))) Q) (mup m3 32 0 ((p0 + 3).toNatClampNeg) p4) (fun m4 hm4 => ?_)
  have h := h m4 hm4
  obtain ⟨hg1_0, h⟩ := h
  refine wp_run 7 (inb (p0 + 4) 136 && true) (48, ([some (vp 31 0), some (vi p0), some (vi p1), some (vi p2), some (vi p3), some (vi p4), some (vi p5), some (vi p6)], ([], G x (mup m4 32 0 ((p0 + 4).toNatClampNeg) p5)))) rfl (and_t hg1_0 rfl) ?_
  refine wpg (fun m5 => Wp X d 167 (48, ([some (vp 31 0), some (vi p0), some (vi p1), some (vi p2), some (vi p3), some (vi p4), some (vi p5), some (vi p6)], ([], G x m5))) Q) (mup m4 32 0 ((p0 + 4).toNatClampNeg) p5) (fun m5 hm5 => ?_)
  have h := h m5 hm5
  obtain ⟨hg1_0, h⟩ := h
  refine wp_run 7 (inb (p0 + 5) 136 && true) (58, ([some (vp 31 0), some (vi p0), some (vi p1), some (vi p2), some (vi p3), some (vi p4), some (vi p5), some (vi p6)], ([], G x (mup m5 32 0 ((p0 + 5).toNatClampNeg) p6)))) rfl (and_t hg1_0 rfl) ?_
  refine wpg (fun m6 => Wp X d 167 (58, ([some (vp 31 0), some (vi p0), some (vi p1), some (vi p2), some (vi p3), some (vi p4), some (vi p5), some (vi p6)], ([], G x m6))) Q) (mup m5 32 0 ((p0 + 5).toNatClampNeg) p6) (fun m6 hm6 => ?_)
  have h := h m6 hm6
  exact wp_ret rfl h
set_option maxRecDepth 100000 in
set_option maxHeartbeats 4000000 in
theorem vc_X11_cannotAdd {X : MX} {d : Nat} {x : Int64 × UInt64} {m : MI} {Q : MRes → Prop} {p0 : Int32} {p1 : Int32} {p2 : Int32} {p3 : Int32} (h : Cl X d 166 [vi p0, vi p1, vi p2] (G x m) (fun r => ∃ (v1 : Int32) (m2 : MI), r = (.inl (some (vi v1)), G x m2) ∧ ((v1 = 0 → Q (.inl (some (vi 1)), G x m2)) ∧ (¬ (v1 = 0) → Cl X d 147 [vi p3, vi 1, vi 9] (G x m2) (fun r => ∃ (v4 : Int32) (m5 : MI), r = (.inl (some (vi v4)), G x m5) ∧ ((¬ v4 = 0 → ((¬ (m5 32 0 0) = 10 → Q (.inl (some (vi 0)), G x m5)) ∧ (¬ (¬ (m5 32 0 0) = 10) → Q (.inl (some (vi 2)), G x m5)))) ∧ (¬ (¬ v4 = 0) → Q (.inl (some (vi 1)), G x m5)))))))) : Cl X (d + 1) 168 [vp 31 0, vi p0, vi p1, vi p2, vi p3] (G x m) Q := by
  show Wp X (d + 1) 168 (0, ([some (vp 31 0), some (vi p0), some (vi p1), some (vi p2), some (vi p3)], ([], G x m))) Q
  refine wp_run 3 true (3, ([some (vp 31 0), some (vi p0), some (vi p1), some (vi p2), some (vi p3)], ([vi p2, vi p1, vi p0], G x m))) rfl rfl ?_
  refine wp_call 166 [vi p0, vi p1, vi p2] (6, ([some (vp 31 0), some (vi p0), some (vi p1), some (vi p2), some (vi p3)], ([], G x m))) rfl rfl (Cl.mono h (Nat.le_refl _) ?_)
  rintro r ⟨v1, m2, rfl, h⟩
  · show Wp X (d + 1) 168 (6, ([some (vp 31 0), some (vi p0), some (vi p1), some (vi p2), some (vi p3)], ([vi v1], G x m2))) Q
    refine wp_run 1 true ((bif decide (v1 = 0) then 20 else 9), ([some (vp 31 0), some (vi p0), some (vi p1), some (vi p2), some (vi p3)], ([], G x m2))) rfl rfl ?_
    refine wp_if (v1 = 0) (fun c3 => ?_) (fun c3 => ?_)
    · have h := h.1 c3
      refine wp_run 1 true (21, ([some (vp 31 0), some (vi p0), some (vi p1), some (vi p2), some (vi p3)], ([vi 1], G x m2))) rfl rfl ?_
      exact wp_ret rfl h
    · have h := h.2 c3
      refine wp_run 3 true (14, ([some (vp 31 0), some (vi p0), some (vi p1), some (vi p2), some (vi p3)], ([vi 9, vi 1, vi p3], G x m2))) rfl rfl ?_
      refine wp_call 147 [vi p3, vi 1, vi 9] (17, ([some (vp 31 0), some (vi p0), some (vi p1), some (vi p2), some (vi p3)], ([], G x m2))) rfl rfl (Cl.mono h (Nat.le_refl _) ?_)
      rintro r ⟨v4, m5, rfl, h⟩
      · show Wp X (d + 1) 168 (17, ([some (vp 31 0), some (vi p0), some (vi p1), some (vi p2), some (vi p3)], ([vi v4], G x m5))) Q
        refine wp_run 1 true ((bif decide (¬ v4 = 0) then 22 else 20), ([some (vp 31 0), some (vi p0), some (vi p1), some (vi p2), some (vi p3)], ([], G x m5))) rfl rfl ?_
        refine wp_if (¬ v4 = 0) (fun c6 => ?_) (fun c6 => ?_)
        · have h := h.1 c6
          refine wp_run 6 true ((bif decide (¬ (m5 32 0 0) = 10) then 37 else 33), ([some (vp 31 0), some (vi p0), some (vi p1), some (vi p2), some (vi p3)], ([], G x m5))) rfl rfl ?_
          refine wp_if (¬ (m5 32 0 0) = 10) (fun c7 => ?_) (fun c7 => ?_)
          · have h := h.1 c7
            refine wp_run 1 true (38, ([some (vp 31 0), some (vi p0), some (vi p1), some (vi p2), some (vi p3)], ([vi 0], G x m5))) rfl rfl ?_
            exact wp_ret rfl h
          · have h := h.2 c7
            refine wp_run 2 true (38, ([some (vp 31 0), some (vi p0), some (vi p1), some (vi p2), some (vi p3)], ([vi 2], G x m5))) rfl rfl ?_
            exact wp_ret rfl h
        · have h := h.2 c6
          refine wp_run 1 true (21, ([some (vp 31 0), some (vi p0), some (vi p1), some (vi p2), some (vi p3)], ([vi 1], G x m5))) rfl rfl ?_
          exact wp_ret rfl h
set_option maxRecDepth 100000 in
set_option maxHeartbeats 4000000 in
theorem vc_X11_adds {X : MX} {d : Nat} {x : Int64 × UInt64} {m : MI} {Q : MRes → Prop} {p0 : Int32} {p1 : Int32} {p2 : Int32} {p3 : Int32} (h : Cl X d 152 [vi (m 32 0 0)] (G x m) (fun r => ∃ (v1 : Int32) (m2 : MI), r = (.inl (some (vi v1)), G x m2) ∧ Cl X d 167 [vp 31 0, vi v1, vi (m2 32 0 2), vi p0, vi p1, vi p2, vi p3, vi (m2 32 0 4)] (G x m2) (fun r => ∃ (m4 : MI), r = (.inl none, G x m4) ∧ (∀ m5 : MI, m5 = mup m4 32 0 0 ((m4 32 0 0) + 1) → (∀ m6 : MI, m6 = mup m5 32 0 2 ((m5 32 0 2) + 1) → Q (.inl (some (vi ((m6 32 0 2) - 1))), G x m6)))))) : Cl X (d + 1) 169 [vp 31 0, vi p0, vi p1, vi p2, vi p3] (G x m) Q := by
  show Wp X (d + 1) 169 (0, ([some (vp 31 0), some (vi p0), some (vi p1), some (vi p2), some (vi p3)], ([], G x m))) Q
  refine wp_run 5 true (7, ([some (vp 31 0), some (vi p0), some (vi p1), some (vi p2), some (vi p3)], ([vi (m 32 0 0), vp 31 0], G x m))) rfl rfl ?_
  refine wp_call 152 [vi (m 32 0 0)] (10, ([some (vp 31 0), some (vi p0), some (vi p1), some (vi p2), some (vi p3)], ([vp 31 0], G x m))) rfl rfl (Cl.mono h (Nat.le_refl _) ?_)
  rintro r ⟨v1, m2, rfl, h⟩
  · show Wp X (d + 1) 169 (10, ([some (vp 31 0), some (vi p0), some (vi p1), some (vi p2), some (vi p3)], ([vi v1, vp 31 0], G x m2))) Q
    refine wp_run 12 true (27, ([some (vp 31 0), some (vi p0), some (vi p1), some (vi p2), some (vi p3)], ([vi (m2 32 0 4), vi p3, vi p2, vi p1, vi p0, vi (m2 32 0 2), vi v1, vp 31 0], G x m2))) rfl rfl ?_
    refine wp_call 167 [vp 31 0, vi v1, vi (m2 32 0 2), vi p0, vi p1, vi p2, vi p3, vi (m2 32 0 4)] (30, ([some (vp 31 0), some (vi p0), some (vi p1), some (vi p2), some (vi p3)], ([], G x m2))) rfl rfl (Cl.mono h (Nat.le_refl _) ?_)
    rintro r ⟨m4, rfl, h⟩
    · show Wp X (d + 1) 169 (30, ([some (vp 31 0), some (vi p0), some (vi p1), some (vi p2), some (vi p3)], ([], G x m4))) Q
      refine wp_run 8 true (40, ([some (vp 31 0), some (vi p0), some (vi p1), some (vi p2), some (vi p3)], ([], G x (mup m4 32 0 0 ((m4 32 0 0) + 1))))) rfl rfl ?_
      refine wpg (fun m5 => Wp X (d + 1) 169 (40, ([some (vp 31 0), some (vi p0), some (vi p1), some (vi p2), some (vi p3)], ([], G x m5))) Q) (mup m4 32 0 0 ((m4 32 0 0) + 1)) (fun m5 hm5 => ?_)
      have h := h m5 hm5
      refine wp_run 8 true (50, ([some (vp 31 0), some (vi p0), some (vi p1), some (vi p2), some (vi p3)], ([], G x (mup m5 32 0 2 ((m5 32 0 2) + 1))))) rfl rfl ?_
      refine wpg (fun m6 => Wp X (d + 1) 169 (50, ([some (vp 31 0), some (vi p0), some (vi p1), some (vi p2), some (vi p3)], ([], G x m6))) Q) (mup m5 32 0 2 ((m5 32 0 2) + 1)) (fun m6 hm6 => ?_)
      have h := h m6 hm6
      refine wp_run 6 true (58, ([some (vp 31 0), some (vi p0), some (vi p1), some (vi p2), some (vi p3)], ([vi ((m6 32 0 2) - 1)], G x m6))) rfl rfl ?_
      exact wp_ret rfl h
set_option maxRecDepth 100000 in
set_option maxHeartbeats 4000000 in
theorem vc_X11_addColour {X : MX} {d : Nat} {x : Int64 × UInt64} {m : MI} {Q : MRes → Prop} {p0 : Int32} {p1 : Int32} {p2 : Int32} {p3 : Int32} (h : Cl X d 150 [vp 31 0] (G x m) (fun r => ∃ (m2 : MI), r = (.inl none, G x m2) ∧ Cl X d 168 [vp 31 0, vi p0, vi p1, vi p2, vi p3] (G x m2) (fun r => ∃ (v3 : Int32) (m4 : MI), r = (.inl (some (vi v3)), G x m4) ∧ ((v3 ≤ 0 → Cl X d 169 [vp 31 0, vi p0, vi p1, vi p2, vi p3] (G x m4) (fun r => ∃ (v6 : Int32) (m7 : MI), r = (.inl (some (vi v6)), G x m7) ∧ Cl X d 151 [vp 31 0, vi v6] (G x m7) (fun r => ∃ (v8 : Int32) (m9 : MI), r = (.inl (some (vi v8)), G x m9) ∧ Q (.inl (some (vi v8)), G x m9)))) ∧ (¬ (v3 ≤ 0) → Cl X d 149 [vp 31 0, vi v3] (G x m4) (fun r => ∃ (v10 : Int32) (m11 : MI), r = (.inl (some (vi v10)), G x m11) ∧ Q (.inl (some (vi v10)), G x m11))))))) : Cl X (d + 1) 170 [vp 31 0, vi p0, vi p1, vi p2, vi p3] (G x m) Q := by
  show Wp X (d + 1) 170 (0, ([some (vp 31 0), some (vi p0), some (vi p1), some (vi p2), some (vi p3), none], ([], G x m))) Q
  refine wp_run 1 true (1, ([some (vp 31 0), some (vi p0), some (vi p1), some (vi p2), some (vi p3), none], ([vp 31 0], G x m))) rfl rfl ?_
  refine wp_call 150 [vp 31 0] (4, ([some (vp 31 0), some (vi p0), some (vi p1), some (vi p2), some (vi p3), none], ([], G x m))) rfl rfl (Cl.mono h (Nat.le_refl _) ?_)
  rintro r ⟨m2, rfl, h⟩
  · show Wp X (d + 1) 170 (4, ([some (vp 31 0), some (vi p0), some (vi p1), some (vi p2), some (vi p3), none], ([], G x m2))) Q
    refine wp_run 5 true (10, ([some (vp 31 0), some (vi p0), some (vi p1), some (vi p2), some (vi p3), none], ([vi p3, vi p2, vi p1, vi p0, vp 31 0], G x m2))) rfl rfl ?_
    refine wp_call 168 [vp 31 0, vi p0, vi p1, vi p2, vi p3] (13, ([some (vp 31 0), some (vi p0), some (vi p1), some (vi p2), some (vi p3), none], ([], G x m2))) rfl rfl (Cl.mono h (Nat.le_refl _) ?_)
    rintro r ⟨v3, m4, rfl, h⟩
    · show Wp X (d + 1) 170 (13, ([some (vp 31 0), some (vi p0), some (vi p1), some (vi p2), some (vi p3), none], ([vi v3], G x m4))) Q
      refine wp_run 3 true ((bif decide (v3 ≤ 0) then 29 else 20), ([some (vp 31 0), some (vi p0), some (vi p1), some (vi p2), some (vi p3), some (vi v3)], ([], G x m4))) rfl rfl ?_
      refine wp_if (v3 ≤ 0) (fun c5 => ?_) (fun c5 => ?_)
      · have h := h.1 c5
        refine wp_run 6 true (36, ([some (vp 31 0), some (vi p0), some (vi p1), some (vi p2), some (vi p3), some (vi v3)], ([vi p3, vi p2, vi p1, vi p0, vp 31 0, vp 31 0], G x m4))) rfl rfl ?_
        refine wp_call 169 [vp 31 0, vi p0, vi p1, vi p2, vi p3] (39, ([some (vp 31 0), some (vi p0), some (vi p1), some (vi p2), some (vi p3), some (vi v3)], ([vp 31 0], G x m4))) rfl rfl (Cl.mono h (Nat.le_refl _) ?_)
        rintro r ⟨v6, m7, rfl, h⟩
        · show Wp X (d + 1) 170 (39, ([some (vp 31 0), some (vi p0), some (vi p1), some (vi p2), some (vi p3), some (vi v3)], ([vi v6, vp 31 0], G x m7))) Q
          refine wp_call 151 [vp 31 0, vi v6] (42, ([some (vp 31 0), some (vi p0), some (vi p1), some (vi p2), some (vi p3), some (vi v3)], ([], G x m7))) rfl rfl (Cl.mono h (Nat.le_refl _) ?_)
          rintro r ⟨v8, m9, rfl, h⟩
          · show Wp X (d + 1) 170 (42, ([some (vp 31 0), some (vi p0), some (vi p1), some (vi p2), some (vi p3), some (vi v3)], ([vi v8], G x m9))) Q
            exact wp_ret rfl h
      · have h := h.2 c5
        refine wp_run 2 true (23, ([some (vp 31 0), some (vi p0), some (vi p1), some (vi p2), some (vi p3), some (vi v3)], ([vi v3, vp 31 0], G x m4))) rfl rfl ?_
        refine wp_call 149 [vp 31 0, vi v3] (26, ([some (vp 31 0), some (vi p0), some (vi p1), some (vi p2), some (vi p3), some (vi v3)], ([], G x m4))) rfl rfl (Cl.mono h (Nat.le_refl _) ?_)
        rintro r ⟨v10, m11, rfl, h⟩
        · show Wp X (d + 1) 170 (26, ([some (vp 31 0), some (vi p0), some (vi p1), some (vi p2), some (vi p3), some (vi v3)], ([vi v10], G x m11))) Q
          refine wp_run 1 true (42, ([some (vp 31 0), some (vi p0), some (vi p1), some (vi p2), some (vi p3), some (vi v3)], ([vi v10], G x m11))) rfl rfl ?_
          exact wp_ret rfl h
set_option maxRecDepth 100000 in
set_option maxHeartbeats 4000000 in
theorem vc_X11_cannotReport {X : MX} {d : Nat} {x : Int64 × UInt64} {m : MI} {Q : MRes → Prop} {p0 : Int32} {p1 : Int32} {p2 : Int32} {p3 : Int32} {p4 : Int32} (h : Cl X d 166 [vi p0, vi p1, vi p2] (G x m) (fun r => ∃ (v1 : Int32) (m2 : MI), r = (.inl (some (vi v1)), G x m2) ∧ ((v1 = 0 → Q (.inl (some (vi 1)), G x m2)) ∧ (¬ (v1 = 0) → Cl X d 147 [vi p3, vi 0, vi 9999] (G x m2) (fun r => ∃ (v4 : Int32) (m5 : MI), r = (.inl (some (vi v4)), G x m5) ∧ ((v4 = 0 → Q (.inl (some (vi 1)), G x m5)) ∧ (¬ (v4 = 0) → Cl X d 147 [vi p4, vi 1, vi 99] (G x m5) (fun r => ∃ (v7 : Int32) (m8 : MI), r = (.inl (some (vi v7)), G x m8) ∧ ((¬ v7 = 0 → ((¬ (m8 32 0 1) = 6 → Q (.inl (some (vi 0)), G x m8)) ∧ (¬ (¬ (m8 32 0 1) = 6) → Q (.inl (some (vi 2)), G x m8)))) ∧ (¬ (¬ v7 = 0) → Q (.inl (some (vi 1)), G x m8))))))))))) : Cl X (d + 1) 171 [vp 31 0, vi p0, vi p1, vi p2, vi p3, vi p4] (G x m) Q := by
  show Wp X (d + 1) 171 (0, ([some (vp 31 0), some (vi p0), some (vi p1), some (vi p2), some (vi p3), some (vi p4)], ([], G x m))) Q
  refine wp_run 3 true (3, ([some (vp 31 0), some (vi p0), some (vi p1), some (vi p2), some (vi p3), some (vi p4)], ([vi p2, vi p1, vi p0], G x m))) rfl rfl ?_
  refine wp_call 166 [vi p0, vi p1, vi p2] (6, ([some (vp 31 0), some (vi p0), some (vi p1), some (vi p2), some (vi p3), some (vi p4)], ([], G x m))) rfl rfl (Cl.mono h (Nat.le_refl _) ?_)
  rintro r ⟨v1, m2, rfl, h⟩
  · show Wp X (d + 1) 171 (6, ([some (vp 31 0), some (vi p0), some (vi p1), some (vi p2), some (vi p3), some (vi p4)], ([vi v1], G x m2))) Q
    refine wp_run 1 true ((bif decide (v1 = 0) then 32 else 9), ([some (vp 31 0), some (vi p0), some (vi p1), some (vi p2), some (vi p3), some (vi p4)], ([], G x m2))) rfl rfl ?_
    refine wp_if (v1 = 0) (fun c3 => ?_) (fun c3 => ?_)
    · have h := h.1 c3
      refine wp_run 1 true (33, ([some (vp 31 0), some (vi p0), some (vi p1), some (vi p2), some (vi p3), some (vi p4)], ([vi 1], G x m2))) rfl rfl ?_
      exact wp_ret rfl h
    · have h := h.2 c3
      refine wp_run 3 true (15, ([some (vp 31 0), some (vi p0), some (vi p1), some (vi p2), some (vi p3), some (vi p4)], ([vi 9999, vi 0, vi p3], G x m2))) rfl rfl ?_
      refine wp_call 147 [vi p3, vi 0, vi 9999] (18, ([some (vp 31 0), some (vi p0), some (vi p1), some (vi p2), some (vi p3), some (vi p4)], ([], G x m2))) rfl rfl (Cl.mono h (Nat.le_refl _) ?_)
      rintro r ⟨v4, m5, rfl, h⟩
      · show Wp X (d + 1) 171 (18, ([some (vp 31 0), some (vi p0), some (vi p1), some (vi p2), some (vi p3), some (vi p4)], ([vi v4], G x m5))) Q
        refine wp_run 1 true ((bif decide (v4 = 0) then 32 else 21), ([some (vp 31 0), some (vi p0), some (vi p1), some (vi p2), some (vi p3), some (vi p4)], ([], G x m5))) rfl rfl ?_
        refine wp_if (v4 = 0) (fun c6 => ?_) (fun c6 => ?_)
        · have h := h.1 c6
          refine wp_run 1 true (33, ([some (vp 31 0), some (vi p0), some (vi p1), some (vi p2), some (vi p3), some (vi p4)], ([vi 1], G x m5))) rfl rfl ?_
          exact wp_ret rfl h
        · have h := h.2 c6
          refine wp_run 3 true (26, ([some (vp 31 0), some (vi p0), some (vi p1), some (vi p2), some (vi p3), some (vi p4)], ([vi 99, vi 1, vi p4], G x m5))) rfl rfl ?_
          refine wp_call 147 [vi p4, vi 1, vi 99] (29, ([some (vp 31 0), some (vi p0), some (vi p1), some (vi p2), some (vi p3), some (vi p4)], ([], G x m5))) rfl rfl (Cl.mono h (Nat.le_refl _) ?_)
          rintro r ⟨v7, m8, rfl, h⟩
          · show Wp X (d + 1) 171 (29, ([some (vp 31 0), some (vi p0), some (vi p1), some (vi p2), some (vi p3), some (vi p4)], ([vi v7], G x m8))) Q
            refine wp_run 1 true ((bif decide (¬ v7 = 0) then 34 else 32), ([some (vp 31 0), some (vi p0), some (vi p1), some (vi p2), some (vi p3), some (vi p4)], ([], G x m8))) rfl rfl ?_
            refine wp_if (¬ v7 = 0) (fun c9 => ?_) (fun c9 => ?_)
            · have h := h.1 c9
              refine wp_run 6 true ((bif decide (¬ (m8 32 0 1) = 6) then 49 else 45), ([some (vp 31 0), some (vi p0), some (vi p1), some (vi p2), some (vi p3), some (vi p4)], ([], G x m8))) rfl rfl ?_
              refine wp_if (¬ (m8 32 0 1) = 6) (fun c10 => ?_) (fun c10 => ?_)
              · have h := h.1 c10
                refine wp_run 1 true (50, ([some (vp 31 0), some (vi p0), some (vi p1), some (vi p2), some (vi p3), some (vi p4)], ([vi 0], G x m8))) rfl rfl ?_
                exact wp_ret rfl h
              · have h := h.2 c10
                refine wp_run 2 true (50, ([some (vp 31 0), some (vi p0), some (vi p1), some (vi p2), some (vi p3), some (vi p4)], ([vi 2], G x m8))) rfl rfl ?_
                exact wp_ret rfl h
            · have h := h.2 c9
              refine wp_run 1 true (33, ([some (vp 31 0), some (vi p0), some (vi p1), some (vi p2), some (vi p3), some (vi p4)], ([vi 1], G x m8))) rfl rfl ?_
              exact wp_ret rfl h
set_option maxRecDepth 100000 in
set_option maxHeartbeats 4000000 in
theorem vc_X11_reports {X : MX} {d : Nat} {x : Int64 × UInt64} {m : MI} {Q : MRes → Prop} {p0 : Int32} {p1 : Int32} {p2 : Int32} {p3 : Int32} {p4 : Int32} (h : Cl X d 153 [vi (m 32 0 1)] (G x m) (fun r => ∃ (v1 : Int32) (m2 : MI), r = (.inl (some (vi v1)), G x m2) ∧ Cl X d 167 [vp 31 0, vi v1, vi (m2 32 0 3), vi p0, vi p1, vi p2, vi p3, vi p4] (G x m2) (fun r => ∃ (m4 : MI), r = (.inl none, G x m4) ∧ (∀ m5 : MI, m5 = mup m4 32 0 1 ((m4 32 0 1) + 1) → (∀ m6 : MI, m6 = mup m5 32 0 3 ((m5 32 0 3) + 1) → Q (.inl (some (vi ((m6 32 0 3) - 1))), G x m6)))))) : Cl X (d + 1) 172 [vp 31 0, vi p0, vi p1, vi p2, vi p3, vi p4] (G x m) Q := by
  show Wp X (d + 1) 172 (0, ([some (vp 31 0), some (vi p0), some (vi p1), some (vi p2), some (vi p3), some (vi p4)], ([], G x m))) Q
  refine wp_run 5 true (7, ([some (vp 31 0), some (vi p0), some (vi p1), some (vi p2), some (vi p3), some (vi p4)], ([vi (m 32 0 1), vp 31 0], G x m))) rfl rfl ?_
  refine wp_call 153 [vi (m 32 0 1)] (10, ([some (vp 31 0), some (vi p0), some (vi p1), some (vi p2), some (vi p3), some (vi p4)], ([vp 31 0], G x m))) rfl rfl (Cl.mono h (Nat.le_refl _) ?_)
  rintro r ⟨v1, m2, rfl, h⟩
  · show Wp X (d + 1) 172 (10, ([some (vp 31 0), some (vi p0), some (vi p1), some (vi p2), some (vi p3), some (vi p4)], ([vi v1, vp 31 0], G x m2))) Q
    refine wp_run 9 true (23, ([some (vp 31 0), some (vi p0), some (vi p1), some (vi p2), some (vi p3), some (vi p4)], ([vi p4, vi p3, vi p2, vi p1, vi p0, vi (m2 32 0 3), vi v1, vp 31 0], G x m2))) rfl rfl ?_
    refine wp_call 167 [vp 31 0, vi v1, vi (m2 32 0 3), vi p0, vi p1, vi p2, vi p3, vi p4] (26, ([some (vp 31 0), some (vi p0), some (vi p1), some (vi p2), some (vi p3), some (vi p4)], ([], G x m2))) rfl rfl (Cl.mono h (Nat.le_refl _) ?_)
    rintro r ⟨m4, rfl, h⟩
    · show Wp X (d + 1) 172 (26, ([some (vp 31 0), some (vi p0), some (vi p1), some (vi p2), some (vi p3), some (vi p4)], ([], G x m4))) Q
      refine wp_run 8 true (36, ([some (vp 31 0), some (vi p0), some (vi p1), some (vi p2), some (vi p3), some (vi p4)], ([], G x (mup m4 32 0 1 ((m4 32 0 1) + 1))))) rfl rfl ?_
      refine wpg (fun m5 => Wp X (d + 1) 172 (36, ([some (vp 31 0), some (vi p0), some (vi p1), some (vi p2), some (vi p3), some (vi p4)], ([], G x m5))) Q) (mup m4 32 0 1 ((m4 32 0 1) + 1)) (fun m5 hm5 => ?_)
      have h := h m5 hm5
      refine wp_run 8 true (46, ([some (vp 31 0), some (vi p0), some (vi p1), some (vi p2), some (vi p3), some (vi p4)], ([], G x (mup m5 32 0 3 ((m5 32 0 3) + 1))))) rfl rfl ?_
      refine wpg (fun m6 => Wp X (d + 1) 172 (46, ([some (vp 31 0), some (vi p0), some (vi p1), some (vi p2), some (vi p3), some (vi p4)], ([], G x m6))) Q) (mup m5 32 0 3 ((m5 32 0 3) + 1)) (fun m6 hm6 => ?_)
      have h := h m6 hm6
      refine wp_run 6 true (54, ([some (vp 31 0), some (vi p0), some (vi p1), some (vi p2), some (vi p3), some (vi p4)], ([vi ((m6 32 0 3) - 1)], G x m6))) rfl rfl ?_
      exact wp_ret rfl h
set_option maxRecDepth 100000 in
set_option maxHeartbeats 4000000 in
theorem vc_X11_report {X : MX} {d : Nat} {x : Int64 × UInt64} {m : MI} {Q : MRes → Prop} {p0 : Int32} {p1 : Int32} {p2 : Int32} {p3 : Int32} {p4 : Int32} (h : Cl X d 150 [vp 31 0] (G x m) (fun r => ∃ (m2 : MI), r = (.inl none, G x m2) ∧ Cl X d 171 [vp 31 0, vi p0, vi p1, vi p2, vi p3, vi p4] (G x m2) (fun r => ∃ (v3 : Int32) (m4 : MI), r = (.inl (some (vi v3)), G x m4) ∧ ((v3 ≤ 0 → Cl X d 172 [vp 31 0, vi p0, vi p1, vi p2, vi p3, vi p4] (G x m4) (fun r => ∃ (v6 : Int32) (m7 : MI), r = (.inl (some (vi v6)), G x m7) ∧ Cl X d 151 [vp 31 0, vi v6] (G x m7) (fun r => ∃ (v8 : Int32) (m9 : MI), r = (.inl (some (vi v8)), G x m9) ∧ Q (.inl (some (vi v8)), G x m9)))) ∧ (¬ (v3 ≤ 0) → Cl X d 149 [vp 31 0, vi v3] (G x m4) (fun r => ∃ (v10 : Int32) (m11 : MI), r = (.inl (some (vi v10)), G x m11) ∧ Q (.inl (some (vi v10)), G x m11))))))) : Cl X (d + 1) 173 [vp 31 0, vi p0, vi p1, vi p2, vi p3, vi p4] (G x m) Q := by
  show Wp X (d + 1) 173 (0, ([some (vp 31 0), some (vi p0), some (vi p1), some (vi p2), some (vi p3), some (vi p4), none], ([], G x m))) Q
  refine wp_run 1 true (1, ([some (vp 31 0), some (vi p0), some (vi p1), some (vi p2), some (vi p3), some (vi p4), none], ([vp 31 0], G x m))) rfl rfl ?_
  refine wp_call 150 [vp 31 0] (4, ([some (vp 31 0), some (vi p0), some (vi p1), some (vi p2), some (vi p3), some (vi p4), none], ([], G x m))) rfl rfl (Cl.mono h (Nat.le_refl _) ?_)
  rintro r ⟨m2, rfl, h⟩
  · show Wp X (d + 1) 173 (4, ([some (vp 31 0), some (vi p0), some (vi p1), some (vi p2), some (vi p3), some (vi p4), none], ([], G x m2))) Q
    refine wp_run 6 true (12, ([some (vp 31 0), some (vi p0), some (vi p1), some (vi p2), some (vi p3), some (vi p4), none], ([vi p4, vi p3, vi p2, vi p1, vi p0, vp 31 0], G x m2))) rfl rfl ?_
    refine wp_call 171 [vp 31 0, vi p0, vi p1, vi p2, vi p3, vi p4] (15, ([some (vp 31 0), some (vi p0), some (vi p1), some (vi p2), some (vi p3), some (vi p4), none], ([], G x m2))) rfl rfl (Cl.mono h (Nat.le_refl _) ?_)
    rintro r ⟨v3, m4, rfl, h⟩
    · show Wp X (d + 1) 173 (15, ([some (vp 31 0), some (vi p0), some (vi p1), some (vi p2), some (vi p3), some (vi p4), none], ([vi v3], G x m4))) Q
      refine wp_run 3 true ((bif decide (v3 ≤ 0) then 31 else 22), ([some (vp 31 0), some (vi p0), some (vi p1), some (vi p2), some (vi p3), some (vi p4), some (vi v3)], ([], G x m4))) rfl rfl ?_
      refine wp_if (v3 ≤ 0) (fun c5 => ?_) (fun c5 => ?_)
      · have h := h.1 c5
        refine wp_run 7 true (40, ([some (vp 31 0), some (vi p0), some (vi p1), some (vi p2), some (vi p3), some (vi p4), some (vi v3)], ([vi p4, vi p3, vi p2, vi p1, vi p0, vp 31 0, vp 31 0], G x m4))) rfl rfl ?_
        refine wp_call 172 [vp 31 0, vi p0, vi p1, vi p2, vi p3, vi p4] (43, ([some (vp 31 0), some (vi p0), some (vi p1), some (vi p2), some (vi p3), some (vi p4), some (vi v3)], ([vp 31 0], G x m4))) rfl rfl (Cl.mono h (Nat.le_refl _) ?_)
        rintro r ⟨v6, m7, rfl, h⟩
        · show Wp X (d + 1) 173 (43, ([some (vp 31 0), some (vi p0), some (vi p1), some (vi p2), some (vi p3), some (vi p4), some (vi v3)], ([vi v6, vp 31 0], G x m7))) Q
          refine wp_call 151 [vp 31 0, vi v6] (46, ([some (vp 31 0), some (vi p0), some (vi p1), some (vi p2), some (vi p3), some (vi p4), some (vi v3)], ([], G x m7))) rfl rfl (Cl.mono h (Nat.le_refl _) ?_)
          rintro r ⟨v8, m9, rfl, h⟩
          · show Wp X (d + 1) 173 (46, ([some (vp 31 0), some (vi p0), some (vi p1), some (vi p2), some (vi p3), some (vi p4), some (vi v3)], ([vi v8], G x m9))) Q
            exact wp_ret rfl h
      · have h := h.2 c5
        refine wp_run 2 true (25, ([some (vp 31 0), some (vi p0), some (vi p1), some (vi p2), some (vi p3), some (vi p4), some (vi v3)], ([vi v3, vp 31 0], G x m4))) rfl rfl ?_
        refine wp_call 149 [vp 31 0, vi v3] (28, ([some (vp 31 0), some (vi p0), some (vi p1), some (vi p2), some (vi p3), some (vi p4), some (vi v3)], ([], G x m4))) rfl rfl (Cl.mono h (Nat.le_refl _) ?_)
        rintro r ⟨v10, m11, rfl, h⟩
        · show Wp X (d + 1) 173 (28, ([some (vp 31 0), some (vi p0), some (vi p1), some (vi p2), some (vi p3), some (vi p4), some (vi v3)], ([vi v10], G x m11))) Q
          refine wp_run 1 true (46, ([some (vp 31 0), some (vi p0), some (vi p1), some (vi p2), some (vi p3), some (vi p4), some (vi v3)], ([vi v10], G x m11))) rfl rfl ?_
          exact wp_ret rfl h
set_option maxRecDepth 100000 in
set_option maxHeartbeats 4000000 in
theorem vc_X11_withdraws {X : MX} {d : Nat} {x : Int64 × UInt64} {m : MI} {Q : MRes → Prop} {p0 : Int32} (h : Cl X d 157 [vp 31 0, vi p0] (G x m) (fun r => ∃ (v1 : Int32) (m2 : MI), r = (.inl (some (vi v1)), G x m2) ∧ Cl X d 160 [vp 31 0, vi v1] (G x m2) (fun r => ∃ (m4 : MI), r = (.inl none, G x m4) ∧ Q (.inl (some (vi (m4 32 0 1))), G x m4)))) : Cl X (d + 1) 174 [vp 31 0, vi p0] (G x m) Q := by
  show Wp X (d + 1) 174 (0, ([some (vp 31 0), some (vi p0)], ([], G x m))) Q
  refine wp_run 3 true (3, ([some (vp 31 0), some (vi p0)], ([vi p0, vp 31 0, vp 31 0], G x m))) rfl rfl ?_
  refine wp_call 157 [vp 31 0, vi p0] (6, ([some (vp 31 0), some (vi p0)], ([vp 31 0], G x m))) rfl rfl (Cl.mono h (Nat.le_refl _) ?_)
  rintro r ⟨v1, m2, rfl, h⟩
  · show Wp X (d + 1) 174 (6, ([some (vp 31 0), some (vi p0)], ([vi v1, vp 31 0], G x m2))) Q
    refine wp_call 160 [vp 31 0, vi v1] (9, ([some (vp 31 0), some (vi p0)], ([], G x m2))) rfl rfl (Cl.mono h (Nat.le_refl _) ?_)
    rintro r ⟨m4, rfl, h⟩
    · show Wp X (d + 1) 174 (9, ([some (vp 31 0), some (vi p0)], ([], G x m4))) Q
      refine wp_run 4 true (15, ([some (vp 31 0), some (vi p0)], ([vi (m4 32 0 1)], G x m4))) rfl rfl ?_
      exact wp_ret rfl h
set_option maxRecDepth 100000 in
set_option maxHeartbeats 4000000 in
theorem vc_X11_withdraw {X : MX} {d : Nat} {x : Int64 × UInt64} {m : MI} {Q : MRes → Prop} {p0 : Int32} (h : Cl X d 150 [vp 31 0] (G x m) (fun r => ∃ (m2 : MI), r = (.inl none, G x m2) ∧ Cl X d 157 [vp 31 0, vi p0] (G x m2) (fun r => ∃ (v3 : Int32) (m4 : MI), r = (.inl (some (vi v3)), G x m4) ∧ ((0 ≤ v3 → Cl X d 174 [vp 31 0, vi p0] (G x m4) (fun r => ∃ (v6 : Int32) (m7 : MI), r = (.inl (some (vi v6)), G x m7) ∧ Cl X d 151 [vp 31 0, vi v6] (G x m7) (fun r => ∃ (v8 : Int32) (m9 : MI), r = (.inl (some (vi v8)), G x m9) ∧ Q (.inl (some (vi v8)), G x m9)))) ∧ (¬ (0 ≤ v3) → Cl X d 149 [vp 31 0, vi 1] (G x m4) (fun r => ∃ (v10 : Int32) (m11 : MI), r = (.inl (some (vi v10)), G x m11) ∧ Q (.inl (some (vi v10)), G x m11))))))) : Cl X (d + 1) 175 [vp 31 0, vi p0] (G x m) Q := by
  show Wp X (d + 1) 175 (0, ([some (vp 31 0), some (vi p0)], ([], G x m))) Q
  refine wp_run 1 true (1, ([some (vp 31 0), some (vi p0)], ([vp 31 0], G x m))) rfl rfl ?_
  refine wp_call 150 [vp 31 0] (4, ([some (vp 31 0), some (vi p0)], ([], G x m))) rfl rfl (Cl.mono h (Nat.le_refl _) ?_)
  rintro r ⟨m2, rfl, h⟩
  · show Wp X (d + 1) 175 (4, ([some (vp 31 0), some (vi p0)], ([], G x m2))) Q
    refine wp_run 2 true (6, ([some (vp 31 0), some (vi p0)], ([vi p0, vp 31 0], G x m2))) rfl rfl ?_
    refine wp_call 157 [vp 31 0, vi p0] (9, ([some (vp 31 0), some (vi p0)], ([], G x m2))) rfl rfl (Cl.mono h (Nat.le_refl _) ?_)
    rintro r ⟨v3, m4, rfl, h⟩
    · show Wp X (d + 1) 175 (9, ([some (vp 31 0), some (vi p0)], ([vi v3], G x m4))) Q
      refine wp_run 1 true ((bif decide (0 ≤ v3) then 20 else 12), ([some (vp 31 0), some (vi p0)], ([], G x m4))) rfl rfl ?_
      refine wp_if (0 ≤ v3) (fun c5 => ?_) (fun c5 => ?_)
      · have h := h.1 c5
        refine wp_run 3 true (23, ([some (vp 31 0), some (vi p0)], ([vi p0, vp 31 0, vp 31 0], G x m4))) rfl rfl ?_
        refine wp_call 174 [vp 31 0, vi p0] (26, ([some (vp 31 0), some (vi p0)], ([vp 31 0], G x m4))) rfl rfl (Cl.mono h (Nat.le_refl _) ?_)
        rintro r ⟨v6, m7, rfl, h⟩
        · show Wp X (d + 1) 175 (26, ([some (vp 31 0), some (vi p0)], ([vi v6, vp 31 0], G x m7))) Q
          refine wp_call 151 [vp 31 0, vi v6] (29, ([some (vp 31 0), some (vi p0)], ([], G x m7))) rfl rfl (Cl.mono h (Nat.le_refl _) ?_)
          rintro r ⟨v8, m9, rfl, h⟩
          · show Wp X (d + 1) 175 (29, ([some (vp 31 0), some (vi p0)], ([vi v8], G x m9))) Q
            exact wp_ret rfl h
      · have h := h.2 c5
        refine wp_run 2 true (14, ([some (vp 31 0), some (vi p0)], ([vi 1, vp 31 0], G x m4))) rfl rfl ?_
        refine wp_call 149 [vp 31 0, vi 1] (17, ([some (vp 31 0), some (vi p0)], ([], G x m4))) rfl rfl (Cl.mono h (Nat.le_refl _) ?_)
        rintro r ⟨v10, m11, rfl, h⟩
        · show Wp X (d + 1) 175 (17, ([some (vp 31 0), some (vi p0)], ([vi v10], G x m11))) Q
          refine wp_run 1 true (29, ([some (vp 31 0), some (vi p0)], ([vi v10], G x m11))) rfl rfl ?_
          exact wp_ret rfl h
set_option maxRecDepth 100000 in
set_option maxHeartbeats 4000000 in
theorem vc_X11_discards {X : MX} {d : Nat} {x : Int64 × UInt64} {m : MI} {Q : MRes → Prop} {p0 : Int32} (h : Cl X d 156 [vp 31 0, vi p0] (G x m) (fun r => ∃ (v1 : Int32) (m2 : MI), r = (.inl (some (vi v1)), G x m2) ∧ Cl X d 159 [vp 31 0, vi v1] (G x m2) (fun r => ∃ (m4 : MI), r = (.inl none, G x m4) ∧ (∀ m5 : MI, m5 = mup m4 32 0 6 ((m4 32 0 6) - 1) → Q (.inl (some (vi (m5 32 0 0))), G x m5))))) : Cl X (d + 1) 176 [vp 31 0, vi p0] (G x m) Q := by
  show Wp X (d + 1) 176 (0, ([some (vp 31 0), some (vi p0)], ([], G x m))) Q
  refine wp_run 3 true (3, ([some (vp 31 0), some (vi p0)], ([vi p0, vp 31 0, vp 31 0], G x m))) rfl rfl ?_
  refine wp_call 156 [vp 31 0, vi p0] (6, ([some (vp 31 0), some (vi p0)], ([vp 31 0], G x m))) rfl rfl (Cl.mono h (Nat.le_refl _) ?_)
  rintro r ⟨v1, m2, rfl, h⟩
  · show Wp X (d + 1) 176 (6, ([some (vp 31 0), some (vi p0)], ([vi v1, vp 31 0], G x m2))) Q
    refine wp_call 159 [vp 31 0, vi v1] (9, ([some (vp 31 0), some (vi p0)], ([], G x m2))) rfl rfl (Cl.mono h (Nat.le_refl _) ?_)
    rintro r ⟨m4, rfl, h⟩
    · show Wp X (d + 1) 176 (9, ([some (vp 31 0), some (vi p0)], ([], G x m4))) Q
      refine wp_run 8 true (20, ([some (vp 31 0), some (vi p0)], ([], G x (mup m4 32 0 6 ((m4 32 0 6) - 1))))) rfl rfl ?_
      refine wpg (fun m5 => Wp X (d + 1) 176 (20, ([some (vp 31 0), some (vi p0)], ([], G x m5))) Q) (mup m4 32 0 6 ((m4 32 0 6) - 1)) (fun m5 hm5 => ?_)
      have h := h m5 hm5
      refine wp_run 4 true (26, ([some (vp 31 0), some (vi p0)], ([vi (m5 32 0 0)], G x m5))) rfl rfl ?_
      exact wp_ret rfl h
set_option maxRecDepth 100000 in
set_option maxHeartbeats 4000000 in
theorem vc_X11_discard {X : MX} {d : Nat} {x : Int64 × UInt64} {m : MI} {Q : MRes → Prop} {p0 : Int32} (h : Cl X d 150 [vp 31 0] (G x m) (fun r => ∃ (m2 : MI), r = (.inl none, G x m2) ∧ Cl X d 156 [vp 31 0, vi p0] (G x m2) (fun r => ∃ (v3 : Int32) (m4 : MI), r = (.inl (some (vi v3)), G x m4) ∧ ((0 ≤ v3 → Cl X d 176 [vp 31 0, vi p0] (G x m4) (fun r => ∃ (v6 : Int32) (m7 : MI), r = (.inl (some (vi v6)), G x m7) ∧ Cl X d 151 [vp 31 0, vi v6] (G x m7) (fun r => ∃ (v8 : Int32) (m9 : MI), r = (.inl (some (vi v8)), G x m9) ∧ Q (.inl (some (vi v8)), G x m9)))) ∧ (¬ (0 ≤ v3) → Cl X d 149 [vp 31 0, vi 1] (G x m4) (fun r => ∃ (v10 : Int32) (m11 : MI), r = (.inl (some (vi v10)), G x m11) ∧ Q (.inl (some (vi v10)), G x m11))))))) : Cl X (d + 1) 177 [vp 31 0, vi p0] (G x m) Q := by
  show Wp X (d + 1) 177 (0, ([some (vp 31 0), some (vi p0)], ([], G x m))) Q
  refine wp_run 1 true (1, ([some (vp 31 0), some (vi p0)], ([vp 31 0], G x m))) rfl rfl ?_
  refine wp_call 150 [vp 31 0] (4, ([some (vp 31 0), some (vi p0)], ([], G x m))) rfl rfl (Cl.mono h (Nat.le_refl _) ?_)
  rintro r ⟨m2, rfl, h⟩
  · show Wp X (d + 1) 177 (4, ([some (vp 31 0), some (vi p0)], ([], G x m2))) Q
    refine wp_run 2 true (6, ([some (vp 31 0), some (vi p0)], ([vi p0, vp 31 0], G x m2))) rfl rfl ?_
    refine wp_call 156 [vp 31 0, vi p0] (9, ([some (vp 31 0), some (vi p0)], ([], G x m2))) rfl rfl (Cl.mono h (Nat.le_refl _) ?_)
    rintro r ⟨v3, m4, rfl, h⟩
    · show Wp X (d + 1) 177 (9, ([some (vp 31 0), some (vi p0)], ([vi v3], G x m4))) Q
      refine wp_run 1 true ((bif decide (0 ≤ v3) then 20 else 12), ([some (vp 31 0), some (vi p0)], ([], G x m4))) rfl rfl ?_
      refine wp_if (0 ≤ v3) (fun c5 => ?_) (fun c5 => ?_)
      · have h := h.1 c5
        refine wp_run 3 true (23, ([some (vp 31 0), some (vi p0)], ([vi p0, vp 31 0, vp 31 0], G x m4))) rfl rfl ?_
        refine wp_call 176 [vp 31 0, vi p0] (26, ([some (vp 31 0), some (vi p0)], ([vp 31 0], G x m4))) rfl rfl (Cl.mono h (Nat.le_refl _) ?_)
        rintro r ⟨v6, m7, rfl, h⟩
        · show Wp X (d + 1) 177 (26, ([some (vp 31 0), some (vi p0)], ([vi v6, vp 31 0], G x m7))) Q
          refine wp_call 151 [vp 31 0, vi v6] (29, ([some (vp 31 0), some (vi p0)], ([], G x m7))) rfl rfl (Cl.mono h (Nat.le_refl _) ?_)
          rintro r ⟨v8, m9, rfl, h⟩
          · show Wp X (d + 1) 177 (29, ([some (vp 31 0), some (vi p0)], ([vi v8], G x m9))) Q
            exact wp_ret rfl h
      · have h := h.2 c5
        refine wp_run 2 true (14, ([some (vp 31 0), some (vi p0)], ([vi 1, vp 31 0], G x m4))) rfl rfl ?_
        refine wp_call 149 [vp 31 0, vi 1] (17, ([some (vp 31 0), some (vi p0)], ([], G x m4))) rfl rfl (Cl.mono h (Nat.le_refl _) ?_)
        rintro r ⟨v10, m11, rfl, h⟩
        · show Wp X (d + 1) 177 (17, ([some (vp 31 0), some (vi p0)], ([vi v10], G x m11))) Q
          refine wp_run 1 true (29, ([some (vp 31 0), some (vi p0)], ([vi v10], G x m11))) rfl rfl ?_
          exact wp_ret rfl h
set_option maxRecDepth 100000 in
set_option maxHeartbeats 4000000 in
theorem vc_X11_isMetric {X : MX} {d : Nat} {x : Int64 × UInt64} {m : MI} {Q : MRes → Prop} {p0 : Int32} (h : ((p0 = 109 → Q (.inl (some (vi 1)), G x m)) ∧ (¬ (p0 = 109) → ((p0 = 115 → Q (.inl (some (vi 1)), G x m)) ∧ (¬ (p0 = 115) → ((¬ p0 = 103 → Q (.inl (some (vi 0)), G x m)) ∧ (¬ (¬ p0 = 103) → Q (.inl (some (vi 1)), G x m)))))))) : Cl X d 178 [vi p0] (G x m) Q := by
  show Wp X d 178 (0, ([some (vi p0)], ([], G x m))) Q
  refine wp_run 3 true ((bif decide (p0 = 109) then 18 else 6), ([some (vi p0)], ([], G x m))) rfl rfl ?_
  refine wp_if (p0 = 109) (fun c1 => ?_) (fun c1 => ?_)
  · have h := h.1 c1
    refine wp_run 2 true (23, ([some (vi p0)], ([vi 1], G x m))) rfl rfl ?_
    exact wp_ret rfl h
  · have h := h.2 c1
    refine wp_run 3 true ((bif decide (p0 = 115) then 18 else 12), ([some (vi p0)], ([], G x m))) rfl rfl ?_
    refine wp_if (p0 = 115) (fun c2 => ?_) (fun c2 => ?_)
    · have h := h.1 c2
      refine wp_run 2 true (23, ([some (vi p0)], ([vi 1], G x m))) rfl rfl ?_
      exact wp_ret rfl h
    · have h := h.2 c2
      refine wp_run 3 true ((bif decide (¬ p0 = 103) then 22 else 18), ([some (vi p0)], ([], G x m))) rfl rfl ?_
      refine wp_if (¬ p0 = 103) (fun c3 => ?_) (fun c3 => ?_)
      · have h := h.1 c3
        refine wp_run 1 true (23, ([some (vi p0)], ([vi 0], G x m))) rfl rfl ?_
        exact wp_ret rfl h
      · have h := h.2 c3
        refine wp_run 2 true (23, ([some (vi p0)], ([vi 1], G x m))) rfl rfl ?_
        exact wp_ret rfl h
set_option maxRecDepth 100000 in
set_option maxHeartbeats 4000000 in
theorem vc_X11_measures {X : MX} {d : Nat} {x : Int64 × UInt64} {m : MI} {Q : MRes → Prop} {p0 : Int32} (h : (∀ t1 : Int32, t1 = m 32 0 5 → (∀ m2 : MI, m2 = mup m 32 0 5 p0 → Q (.inl (some (vi t1)), G x m2)))) : Cl X d 179 [vp 31 0, vi p0] (G x m) Q := by
  show Wp X d 179 (0, ([some (vp 31 0), some (vi p0), none], ([], G x m))) Q
  refine wp_run 5 true (7, ([some (vp 31 0), some (vi p0), some (vi (m 32 0 5))], ([], G x m))) rfl rfl ?_
  refine wpg (fun t1 => Wp X d 179 (7, ([some (vp 31 0), some (vi p0), some (vi t1)], ([], G x m))) Q) (m 32 0 5) (fun t1 ht1 => ?_)
  have h := h t1 ht1
  refine wp_run 5 true (14, ([some (vp 31 0), some (vi p0), some (vi t1)], ([], G x (mup m 32 0 5 p0)))) rfl rfl ?_
  refine wpg (fun m2 => Wp X d 179 (14, ([some (vp 31 0), some (vi p0), some (vi t1)], ([], G x m2))) Q) (mup m 32 0 5 p0) (fun m2 hm2 => ?_)
  have h := h m2 hm2
  refine wp_run 1 true (15, ([some (vp 31 0), some (vi p0), some (vi t1)], ([vi t1], G x m2))) rfl rfl ?_
  exact wp_ret rfl h
set_option maxRecDepth 100000 in
set_option maxHeartbeats 4000000 in
theorem vc_X11_setMetric {X : MX} {d : Nat} {x : Int64 × UInt64} {m : MI} {Q : MRes → Prop} {p0 : Int32} (h : Cl X d 150 [vp 31 0] (G x m) (fun r => ∃ (m2 : MI), r = (.inl none, G x m2) ∧ Cl X d 178 [vi p0] (G x m2) (fun r => ∃ (v3 : Int32) (m4 : MI), r = (.inl (some (vi v3)), G x m4) ∧ ((v3 = 0 → (∀ m6 : MI, m6 = mup m4 31 0 5 1 → Q (.inl (some (vi 32)), G x m6))) ∧ (¬ (v3 = 0) → Cl X d 179 [vp 31 0, vi p0] (G x m4) (fun r => ∃ (v7 : Int32) (m8 : MI), r = (.inl (some (vi v7)), G x m8) ∧ Cl X d 151 [vp 31 0, vi v7] (G x m8) (fun r => ∃ (v9 : Int32) (m10 : MI), r = (.inl (some (vi v9)), G x m10) ∧ (okT 3 ((v9.toUInt32 % 65536).toInt32) = true ∧ Q (.inl (some (vi ((v9.toUInt32 % 65536).toInt32))), G x m10))))))))) : Cl X (d + 1) 180 [vp 31 0, vi p0] (G x m) Q := by
  show Wp X (d + 1) 180 (0, ([some (vp 31 0), some (vi p0)], ([], G x m))) Q
  refine wp_run 1 true (1, ([some (vp 31 0), some (vi p0)], ([vp 31 0], G x m))) rfl rfl ?_
  refine wp_call 150 [vp 31 0] (4, ([some (vp 31 0), some (vi p0)], ([], G x m))) rfl rfl (Cl.mono h (Nat.le_refl _) ?_)
  rintro r ⟨m2, rfl, h⟩
  · show Wp X (d + 1) 180 (4, ([some (vp 31 0), some (vi p0)], ([], G x m2))) Q
    refine wp_run 1 true (5, ([some (vp 31 0), some (vi p0)], ([vi p0], G x m2))) rfl rfl ?_
    refine wp_call 178 [vi p0] (8, ([some (vp 31 0), some (vi p0)], ([], G x m2))) rfl rfl (Cl.mono h (Nat.le_refl _) ?_)
    rintro r ⟨v3, m4, rfl, h⟩
    · show Wp X (d + 1) 180 (8, ([some (vp 31 0), some (vi p0)], ([vi v3], G x m4))) Q
      refine wp_run 1 true ((bif decide (v3 = 0) then 22 else 11), ([some (vp 31 0), some (vi p0)], ([], G x m4))) rfl rfl ?_
      refine wp_if (v3 = 0) (fun c5 => ?_) (fun c5 => ?_)
      · have h := h.1 c5
        refine wp_run 3 true (27, ([some (vp 31 0), some (vi p0)], ([], G x (mup m4 31 0 5 1)))) rfl rfl ?_
        refine wpg (fun m6 => Wp X (d + 1) 180 (27, ([some (vp 31 0), some (vi p0)], ([], G x m6))) Q) (mup m4 31 0 5 1) (fun m6 hm6 => ?_)
        have h := h m6 hm6
        refine wp_run 1 true (29, ([some (vp 31 0), some (vi p0)], ([vi 32], G x m6))) rfl rfl ?_
        exact wp_ret rfl h
      · have h := h.2 c5
        refine wp_run 3 true (14, ([some (vp 31 0), some (vi p0)], ([vi p0, vp 31 0, vp 31 0], G x m4))) rfl rfl ?_
        refine wp_call 179 [vp 31 0, vi p0] (17, ([some (vp 31 0), some (vi p0)], ([vp 31 0], G x m4))) rfl rfl (Cl.mono h (Nat.le_refl _) ?_)
        rintro r ⟨v7, m8, rfl, h⟩
        · show Wp X (d + 1) 180 (17, ([some (vp 31 0), some (vi p0)], ([vi v7, vp 31 0], G x m8))) Q
          refine wp_call 151 [vp 31 0, vi v7] (20, ([some (vp 31 0), some (vi p0)], ([], G x m8))) rfl rfl (Cl.mono h (Nat.le_refl _) ?_)
          rintro r ⟨v9, m10, rfl, h⟩
          · show Wp X (d + 1) 180 (20, ([some (vp 31 0), some (vi p0)], ([vi v9], G x m10))) Q
            refine wp_run 1 true (21, ([some (vp 31 0), some (vi p0)], ([vi ((v9.toUInt32 % 65536).toInt32)], G x m10))) rfl rfl ?_
            exact wp_retT (okT 3 ((v9.toUInt32 % 65536).toInt32)) rfl h.1 h.2
set_option maxRecDepth 100000 in
set_option maxHeartbeats 4000000 in
theorem vc_X11_cannotGive {X : MX} {d : Nat} {x : Int64 × UInt64} {m : MI} {Q : MRes → Prop} {p0 : Int32} {p1 : Int32} (h : Cl X d 157 [vp 31 0, vi p0] (G x m) (fun r => ∃ (v1 : Int32) (m2 : MI), r = (.inl (some (vi v1)), G x m2) ∧ ((v1 < 0 → Q (.inl (some (vi 1)), G x m2)) ∧ (¬ (v1 < 0) → Cl X d 156 [vp 31 0, vi p1] (G x m2) (fun r => ∃ (v4 : Int32) (m5 : MI), r = (.inl (some (vi v4)), G x m5) ∧ ((0 ≤ v4 → Cl X d 157 [vp 31 0, vi p0] (G x m5) (fun r => ∃ (v7 : Int32) (m8 : MI), r = (.inl (some (vi v7)), G x m8) ∧ Cl X d 153 [vi v7] (G x m8) (fun r => ∃ (v9 : Int32) (m10 : MI), r = (.inl (some (vi v9)), G x m10) ∧ Cl X d 165 [vp 31 0, vi v9] (G x m10) (fun r => ∃ (v11 : Int32) (m12 : MI), r = (.inl (some (vi v11)), G x m12) ∧ Cl X d 156 [vp 31 0, vi p1] (G x m12) (fun r => ∃ (v13 : Int32) (m14 : MI), r = (.inl (some (vi v13)), G x m14) ∧ ((¬ v11 = v13 → Q (.inl (some (vi 2)), G x m14)) ∧ (¬ (¬ v11 = v13) → Cl X d 156 [vp 31 0, vi p1] (G x m14) (fun r => ∃ (v16 : Int32) (m17 : MI), r = (.inl (some (vi v16)), G x m17) ∧ Cl X d 164 [vp 31 0, vi v7, vi v16] (G x m17) (fun r => ∃ (v18 : Int32) (m19 : MI), r = (.inl (some (vi v18)), G x m19) ∧ ((¬ v18 = 0 → Q (.inl (some (vi 0)), G x m19)) ∧ (¬ (¬ v18 = 0) → Q (.inl (some (vi 2)), G x m19)))))))))))) ∧ (¬ (0 ≤ v4) → Q (.inl (some (vi 1)), G x m5)))))))) : Cl X (d + 1) 181 [vp 31 0, vi p0, vi p1] (G x m) Q := by
  show Wp X (d + 1) 181 (0, ([some (vp 31 0), some (vi p0), some (vi p1), none], ([], G x m))) Q
  refine wp_run 2 true (2, ([some (vp 31 0), some (vi p0), some (vi p1), none], ([vi p0, vp 31 0], G x m))) rfl rfl ?_
  refine wp_call 157 [vp 31 0, vi p0] (5, ([some (vp 31 0), some (vi p0), some (vi p1), none], ([], G x m))) rfl rfl (Cl.mono h (Nat.le_refl _) ?_)
  rintro r ⟨v1, m2, rfl, h⟩
  · show Wp X (d + 1) 181 (5, ([some (vp 31 0), some (vi p0), some (vi p1), none], ([vi v1], G x m2))) Q
    refine wp_run 1 true ((bif decide (v1 < 0) then 16 else 8), ([some (vp 31 0), some (vi p0), some (vi p1), none], ([], G x m2))) rfl rfl ?_
    refine wp_if (v1 < 0) (fun c3 => ?_) (fun c3 => ?_)
    · have h := h.1 c3
      refine wp_run 1 true (17, ([some (vp 31 0), some (vi p0), some (vi p1), none], ([vi 1], G x m2))) rfl rfl ?_
      exact wp_ret rfl h
    · have h := h.2 c3
      refine wp_run 2 true (10, ([some (vp 31 0), some (vi p0), some (vi p1), none], ([vi p1, vp 31 0], G x m2))) rfl rfl ?_
      refine wp_call 156 [vp 31 0, vi p1] (13, ([some (vp 31 0), some (vi p0), some (vi p1), none], ([], G x m2))) rfl rfl (Cl.mono h (Nat.le_refl _) ?_)
      rintro r ⟨v4, m5, rfl, h⟩
      · show Wp X (d + 1) 181 (13, ([some (vp 31 0), some (vi p0), some (vi p1), none], ([vi v4], G x m5))) Q
        refine wp_run 1 true ((bif decide (0 ≤ v4) then 18 else 16), ([some (vp 31 0), some (vi p0), some (vi p1), none], ([], G x m5))) rfl rfl ?_
        refine wp_if (0 ≤ v4) (fun c6 => ?_) (fun c6 => ?_)
        · have h := h.1 c6
          refine wp_run 2 true (20, ([some (vp 31 0), some (vi p0), some (vi p1), none], ([vi p0, vp 31 0], G x m5))) rfl rfl ?_
          refine wp_call 157 [vp 31 0, vi p0] (23, ([some (vp 31 0), some (vi p0), some (vi p1), none], ([], G x m5))) rfl rfl (Cl.mono h (Nat.le_refl _) ?_)
          rintro r ⟨v7, m8, rfl, h⟩
          · show Wp X (d + 1) 181 (23, ([some (vp 31 0), some (vi p0), some (vi p1), none], ([vi v7], G x m8))) Q
            refine wp_run 3 true (26, ([some (vp 31 0), some (vi p0), some (vi p1), some (vi v7)], ([vi v7, vp 31 0], G x m8))) rfl rfl ?_
            refine wp_call 153 [vi v7] (29, ([some (vp 31 0), some (vi p0), some (vi p1), some (vi v7)], ([vp 31 0], G x m8))) rfl rfl (Cl.mono h (Nat.le_refl _) ?_)
            rintro r ⟨v9, m10, rfl, h⟩
            · show Wp X (d + 1) 181 (29, ([some (vp 31 0), some (vi p0), some (vi p1), some (vi v7)], ([vi v9, vp 31 0], G x m10))) Q
              refine wp_call 165 [vp 31 0, vi v9] (32, ([some (vp 31 0), some (vi p0), some (vi p1), some (vi v7)], ([], G x m10))) rfl rfl (Cl.mono h (Nat.le_refl _) ?_)
              rintro r ⟨v11, m12, rfl, h⟩
              · show Wp X (d + 1) 181 (32, ([some (vp 31 0), some (vi p0), some (vi p1), some (vi v7)], ([vi v11], G x m12))) Q
                refine wp_run 2 true (34, ([some (vp 31 0), some (vi p0), some (vi p1), some (vi v7)], ([vi p1, vp 31 0, vi v11], G x m12))) rfl rfl ?_
                refine wp_call 156 [vp 31 0, vi p1] (37, ([some (vp 31 0), some (vi p0), some (vi p1), some (vi v7)], ([vi v11], G x m12))) rfl rfl (Cl.mono h (Nat.le_refl _) ?_)
                rintro r ⟨v13, m14, rfl, h⟩
                · show Wp X (d + 1) 181 (37, ([some (vp 31 0), some (vi p0), some (vi p1), some (vi v7)], ([vi v13, vi v11], G x m14))) Q
                  refine wp_run 1 true ((bif decide (¬ v11 = v13) then 53 else 40), ([some (vp 31 0), some (vi p0), some (vi p1), some (vi v7)], ([], G x m14))) rfl rfl ?_
                  refine wp_if (¬ v11 = v13) (fun c15 => ?_) (fun c15 => ?_)
                  · have h := h.1 c15
                    refine wp_run 2 true (58, ([some (vp 31 0), some (vi p0), some (vi p1), some (vi v7)], ([vi 2], G x m14))) rfl rfl ?_
                    exact wp_ret rfl h
                  · have h := h.2 c15
                    refine wp_run 4 true (44, ([some (vp 31 0), some (vi p0), some (vi p1), some (vi v7)], ([vi p1, vp 31 0, vi v7, vp 31 0], G x m14))) rfl rfl ?_
                    refine wp_call 156 [vp 31 0, vi p1] (47, ([some (vp 31 0), some (vi p0), some (vi p1), some (vi v7)], ([vi v7, vp 31 0], G x m14))) rfl rfl (Cl.mono h (Nat.le_refl _) ?_)
                    rintro r ⟨v16, m17, rfl, h⟩
                    · show Wp X (d + 1) 181 (47, ([some (vp 31 0), some (vi p0), some (vi p1), some (vi v7)], ([vi v16, vi v7, vp 31 0], G x m17))) Q
                      refine wp_call 164 [vp 31 0, vi v7, vi v16] (50, ([some (vp 31 0), some (vi p0), some (vi p1), some (vi v7)], ([], G x m17))) rfl rfl (Cl.mono h (Nat.le_refl _) ?_)
                      rintro r ⟨v18, m19, rfl, h⟩
                      · show Wp X (d + 1) 181 (50, ([some (vp 31 0), some (vi p0), some (vi p1), some (vi v7)], ([vi v18], G x m19))) Q
                        refine wp_run 1 true ((bif decide (¬ v18 = 0) then 57 else 53), ([some (vp 31 0), some (vi p0), some (vi p1), some (vi v7)], ([], G x m19))) rfl rfl ?_
                        refine wp_if (¬ v18 = 0) (fun c20 => ?_) (fun c20 => ?_)
                        · have h := h.1 c20
                          refine wp_run 1 true (58, ([some (vp 31 0), some (vi p0), some (vi p1), some (vi v7)], ([vi 0], G x m19))) rfl rfl ?_
                          exact wp_ret rfl h
                        · have h := h.2 c20
                          refine wp_run 2 true (58, ([some (vp 31 0), some (vi p0), some (vi p1), some (vi v7)], ([vi 2], G x m19))) rfl rfl ?_
                          exact wp_ret rfl h
        · have h := h.2 c6
          refine wp_run 1 true (17, ([some (vp 31 0), some (vi p0), some (vi p1), none], ([vi 1], G x m5))) rfl rfl ?_
          exact wp_ret rfl h
set_option maxRecDepth 100000 in
set_option maxHeartbeats 4000000 in
theorem vc_X11_gives {X : MX} {d : Nat} {x : Int64 × UInt64} {m : MI} {Q : MRes → Prop} {p0 : Int32} {p1 : Int32} (h : Cl X d 157 [vp 31 0, vi p0] (G x m) (fun r => ∃ (v1 : Int32) (m2 : MI), r = (.inl (some (vi v1)), G x m2) ∧ Cl X d 155 [vp 31 0, vi v1, vi 5] (G x m2) (fun r => ∃ (v3 : Int32) (m4 : MI), r = (.inl (some (vi v3)), G x m4) ∧ Cl X d 160 [vp 31 0, vi v1] (G x m4) (fun r => ∃ (m6 : MI), r = (.inl none, G x m6) ∧ Cl X d 156 [vp 31 0, vi p1] (G x m6) (fun r => ∃ (v7 : Int32) (m8 : MI), r = (.inl (some (vi v7)), G x m8) ∧ Cl X d 159 [vp 31 0, vi v7] (G x m8) (fun r => ∃ (m10 : MI), r = (.inl none, G x m10) ∧ (∀ m11 : MI, m11 = mup m10 32 0 6 ((m10 32 0 6) + v3) → (∀ m12 : MI, m12 = mup m11 32 0 7 ((m11 32 0 7) + 1) → Q (.inl (some (vi v3)), G x m12))))))))) : Cl X (d + 1) 182 [vp 31 0, vi p0, vi p1] (G x m) Q := by
  show Wp X (d + 1) 182 (0, ([some (vp 31 0), some (vi p0), some (vi p1), none, none], ([], G x m))) Q
  refine wp_run 2 true (2, ([some (vp 31 0), some (vi p0), some (vi p1), none, none], ([vi p0, vp 31 0], G x m))) rfl rfl ?_
  refine wp_call 157 [vp 31 0, vi p0] (5, ([some (vp 31 0), some (vi p0), some (vi p1), none, none], ([], G x m))) rfl rfl (Cl.mono h (Nat.le_refl _) ?_)
  rintro r ⟨v1, m2, rfl, h⟩
  · show Wp X (d + 1) 182 (5, ([some (vp 31 0), some (vi p0), some (vi p1), none, none], ([vi v1], G x m2))) Q
    refine wp_run 4 true (9, ([some (vp 31 0), some (vi p0), some (vi p1), some (vi v1), none], ([vi 5, vi v1, vp 31 0], G x m2))) rfl rfl ?_
    refine wp_call 155 [vp 31 0, vi v1, vi 5] (12, ([some (vp 31 0), some (vi p0), some (vi p1), some (vi v1), none], ([], G x m2))) rfl rfl (Cl.mono h (Nat.le_refl _) ?_)
    rintro r ⟨v3, m4, rfl, h⟩
    · show Wp X (d + 1) 182 (12, ([some (vp 31 0), some (vi p0), some (vi p1), some (vi v1), none], ([vi v3], G x m4))) Q
      refine wp_run 3 true (16, ([some (vp 31 0), some (vi p0), some (vi p1), some (vi v1), some (vi v3)], ([vi v1, vp 31 0], G x m4))) rfl rfl ?_
      refine wp_call 160 [vp 31 0, vi v1] (19, ([some (vp 31 0), some (vi p0), some (vi p1), some (vi v1), some (vi v3)], ([], G x m4))) rfl rfl (Cl.mono h (Nat.le_refl _) ?_)
      rintro r ⟨m6, rfl, h⟩
      · show Wp X (d + 1) 182 (19, ([some (vp 31 0), some (vi p0), some (vi p1), some (vi v1), some (vi v3)], ([], G x m6))) Q
        refine wp_run 3 true (22, ([some (vp 31 0), some (vi p0), some (vi p1), some (vi v1), some (vi v3)], ([vi p1, vp 31 0, vp 31 0], G x m6))) rfl rfl ?_
        refine wp_call 156 [vp 31 0, vi p1] (25, ([some (vp 31 0), some (vi p0), some (vi p1), some (vi v1), some (vi v3)], ([vp 31 0], G x m6))) rfl rfl (Cl.mono h (Nat.le_refl _) ?_)
        rintro r ⟨v7, m8, rfl, h⟩
        · show Wp X (d + 1) 182 (25, ([some (vp 31 0), some (vi p0), some (vi p1), some (vi v1), some (vi v3)], ([vi v7, vp 31 0], G x m8))) Q
          refine wp_call 159 [vp 31 0, vi v7] (28, ([some (vp 31 0), some (vi p0), some (vi p1), some (vi v1), some (vi v3)], ([], G x m8))) rfl rfl (Cl.mono h (Nat.le_refl _) ?_)
          rintro r ⟨m10, rfl, h⟩
          · show Wp X (d + 1) 182 (28, ([some (vp 31 0), some (vi p0), some (vi p1), some (vi v1), some (vi v3)], ([], G x m10))) Q
            refine wp_run 8 true (40, ([some (vp 31 0), some (vi p0), some (vi p1), some (vi v1), some (vi v3)], ([], G x (mup m10 32 0 6 ((m10 32 0 6) + v3))))) rfl rfl ?_
            refine wpg (fun m11 => Wp X (d + 1) 182 (40, ([some (vp 31 0), some (vi p0), some (vi p1), some (vi v1), some (vi v3)], ([], G x m11))) Q) (mup m10 32 0 6 ((m10 32 0 6) + v3)) (fun m11 hm11 => ?_)
            have h := h m11 hm11
            refine wp_run 8 true (51, ([some (vp 31 0), some (vi p0), some (vi p1), some (vi v1), some (vi v3)], ([], G x (mup m11 32 0 7 ((m11 32 0 7) + 1))))) rfl rfl ?_
            refine wpg (fun m12 => Wp X (d + 1) 182 (51, ([some (vp 31 0), some (vi p0), some (vi p1), some (vi v1), some (vi v3)], ([], G x m12))) Q) (mup m11 32 0 7 ((m11 32 0 7) + 1)) (fun m12 hm12 => ?_)
            have h := h m12 hm12
            refine wp_run 1 true (53, ([some (vp 31 0), some (vi p0), some (vi p1), some (vi v1), some (vi v3)], ([vi v3], G x m12))) rfl rfl ?_
            exact wp_ret rfl h
set_option maxRecDepth 100000 in
set_option maxHeartbeats 4000000 in
theorem vc_X11_giveBack {X : MX} {d : Nat} {x : Int64 × UInt64} {m : MI} {Q : MRes → Prop} {p0 : Int32} {p1 : Int32} (h : Cl X d 150 [vp 31 0] (G x m) (fun r => ∃ (m2 : MI), r = (.inl none, G x m2) ∧ Cl X d 181 [vp 31 0, vi p0, vi p1] (G x m2) (fun r => ∃ (v3 : Int32) (m4 : MI), r = (.inl (some (vi v3)), G x m4) ∧ ((v3 ≤ 0 → Cl X d 182 [vp 31 0, vi p0, vi p1] (G x m4) (fun r => ∃ (v6 : Int32) (m7 : MI), r = (.inl (some (vi v6)), G x m7) ∧ Cl X d 151 [vp 31 0, vi v6] (G x m7) (fun r => ∃ (v8 : Int32) (m9 : MI), r = (.inl (some (vi v8)), G x m9) ∧ Q (.inl (some (vi v8)), G x m9)))) ∧ (¬ (v3 ≤ 0) → Cl X d 149 [vp 31 0, vi v3] (G x m4) (fun r => ∃ (v10 : Int32) (m11 : MI), r = (.inl (some (vi v10)), G x m11) ∧ Q (.inl (some (vi v10)), G x m11))))))) : Cl X (d + 1) 183 [vp 31 0, vi p0, vi p1] (G x m) Q := by
  show Wp X (d + 1) 183 (0, ([some (vp 31 0), some (vi p0), some (vi p1), none], ([], G x m))) Q
  refine wp_run 1 true (1, ([some (vp 31 0), some (vi p0), some (vi p1), none], ([vp 31 0], G x m))) rfl rfl ?_
  refine wp_call 150 [vp 31 0] (4, ([some (vp 31 0), some (vi p0), some (vi p1), none], ([], G x m))) rfl rfl (Cl.mono h (Nat.le_refl _) ?_)
  rintro r ⟨m2, rfl, h⟩
  · show Wp X (d + 1) 183 (4, ([some (vp 31 0), some (vi p0), some (vi p1), none], ([], G x m2))) Q
    refine wp_run 3 true (7, ([some (vp 31 0), some (vi p0), some (vi p1), none], ([vi p1, vi p0, vp 31 0], G x m2))) rfl rfl ?_
    refine wp_call 181 [vp 31 0, vi p0, vi p1] (10, ([some (vp 31 0), some (vi p0), some (vi p1), none], ([], G x m2))) rfl rfl (Cl.mono h (Nat.le_refl _) ?_)
    rintro r ⟨v3, m4, rfl, h⟩
    · show Wp X (d + 1) 183 (10, ([some (vp 31 0), some (vi p0), some (vi p1), none], ([vi v3], G x m4))) Q
      refine wp_run 3 true ((bif decide (v3 ≤ 0) then 23 else 15), ([some (vp 31 0), some (vi p0), some (vi p1), some (vi v3)], ([], G x m4))) rfl rfl ?_
      refine wp_if (v3 ≤ 0) (fun c5 => ?_) (fun c5 => ?_)
      · have h := h.1 c5
        refine wp_run 4 true (27, ([some (vp 31 0), some (vi p0), some (vi p1), some (vi v3)], ([vi p1, vi p0, vp 31 0, vp 31 0], G x m4))) rfl rfl ?_
        refine wp_call 182 [vp 31 0, vi p0, vi p1] (30, ([some (vp 31 0), some (vi p0), some (vi p1), some (vi v3)], ([vp 31 0], G x m4))) rfl rfl (Cl.mono h (Nat.le_refl _) ?_)
        rintro r ⟨v6, m7, rfl, h⟩
        · show Wp X (d + 1) 183 (30, ([some (vp 31 0), some (vi p0), some (vi p1), some (vi v3)], ([vi v6, vp 31 0], G x m7))) Q
          refine wp_call 151 [vp 31 0, vi v6] (33, ([some (vp 31 0), some (vi p0), some (vi p1), some (vi v3)], ([], G x m7))) rfl rfl (Cl.mono h (Nat.le_refl _) ?_)
          rintro r ⟨v8, m9, rfl, h⟩
          · show Wp X (d + 1) 183 (33, ([some (vp 31 0), some (vi p0), some (vi p1), some (vi v3)], ([vi v8], G x m9))) Q
            exact wp_ret rfl h
      · have h := h.2 c5
        refine wp_run 2 true (17, ([some (vp 31 0), some (vi p0), some (vi p1), some (vi v3)], ([vi v3, vp 31 0], G x m4))) rfl rfl ?_
        refine wp_call 149 [vp 31 0, vi v3] (20, ([some (vp 31 0), some (vi p0), some (vi p1), some (vi v3)], ([], G x m4))) rfl rfl (Cl.mono h (Nat.le_refl _) ?_)
        rintro r ⟨v10, m11, rfl, h⟩
        · show Wp X (d + 1) 183 (20, ([some (vp 31 0), some (vi p0), some (vi p1), some (vi v3)], ([vi v10], G x m11))) Q
          refine wp_run 1 true (33, ([some (vp 31 0), some (vi p0), some (vi p1), some (vi v3)], ([vi v10], G x m11))) rfl rfl ?_
          exact wp_ret rfl h
set_option maxRecDepth 100000 in
set_option maxHeartbeats 4000000 in
theorem vc_X11_settle {X : MX} {d : Nat} {x : Int64 × UInt64} {m : MI} {Q : MRes → Prop} (h : Cl X d 150 [vp 31 0] (G x m) (fun r => ∃ (m2 : MI), r = (.inl none, G x m2) ∧ Cl X d 185 [vp 31 0] (G x m2) (fun r => ∃ (v3 : Int32) (m4 : MI), r = (.inl (some (vi v3)), G x m4) ∧ Cl X d 151 [vp 31 0, vi v3] (G x m4) (fun r => ∃ (v5 : Int32) (m6 : MI), r = (.inl (some (vi v5)), G x m6) ∧ Q (.inl (some (vi v5)), G x m6))))) : Cl X (d + 1) 184 [vp 31 0] (G x m) Q := by
  show Wp X (d + 1) 184 (0, ([some (vp 31 0)], ([], G x m))) Q
  refine wp_run 1 true (1, ([some (vp 31 0)], ([vp 31 0], G x m))) rfl rfl ?_
  refine wp_call 150 [vp 31 0] (4, ([some (vp 31 0)], ([], G x m))) rfl rfl (Cl.mono h (Nat.le_refl _) ?_)
  rintro r ⟨m2, rfl, h⟩
  · show Wp X (d + 1) 184 (4, ([some (vp 31 0)], ([], G x m2))) Q
    refine wp_run 2 true (6, ([some (vp 31 0)], ([vp 31 0, vp 31 0], G x m2))) rfl rfl ?_
    refine wp_call 185 [vp 31 0] (9, ([some (vp 31 0)], ([vp 31 0], G x m2))) rfl rfl (Cl.mono h (Nat.le_refl _) ?_)
    rintro r ⟨v3, m4, rfl, h⟩
    · show Wp X (d + 1) 184 (9, ([some (vp 31 0)], ([vi v3, vp 31 0], G x m4))) Q
      refine wp_call 151 [vp 31 0, vi v3] (12, ([some (vp 31 0)], ([], G x m4))) rfl rfl (Cl.mono h (Nat.le_refl _) ?_)
      rintro r ⟨v5, m6, rfl, h⟩
      · show Wp X (d + 1) 184 (12, ([some (vp 31 0)], ([vi v5], G x m6))) Q
        exact wp_ret rfl h
set_option maxRecDepth 100000 in
set_option maxHeartbeats 4000000 in
theorem vc_X11_settleAll {X : MX} {d : Nat} {x : Int64 × UInt64} {m : MI} {Q : MRes → Prop} (h : Cl X d 226 [vp 31 0] (G x m) (fun r => ∃ (v1 : Int32) (m2 : MI), r = (.inl (some (vi v1)), G x m2) ∧ Wp X (d + 1) 185 (9, ([some (vp 31 0), some (vi v1), some (vi 0), some (vi 0)], ([], G x m2))) Q)) : Cl X (d + 1) 185 [vp 31 0] (G x m) Q := by
  show Wp X (d + 1) 185 (0, ([some (vp 31 0), none, none, none], ([], G x m))) Q
  refine wp_run 1 true (1, ([some (vp 31 0), none, none, none], ([vp 31 0], G x m))) rfl rfl ?_
  refine wp_call 226 [vp 31 0] (4, ([some (vp 31 0), none, none, none], ([], G x m))) rfl rfl (Cl.mono h (Nat.le_refl _) ?_)
  rintro r ⟨v1, m2, rfl, h⟩
  · show Wp X (d + 1) 185 (4, ([some (vp 31 0), none, none, none], ([vi v1], G x m2))) Q
    refine wp_run 5 true (9, ([some (vp 31 0), some (vi v1), some (vi 0), some (vi 0)], ([], G x m2))) rfl rfl ?_
    exact h
set_option maxRecDepth 100000 in
set_option maxHeartbeats 4000000 in
theorem vl_X11_settleAll_9 {X : MX} {d : Nat} {x : Int64 × UInt64} {m : MI} {Q : MRes → Prop} {l1 : Int32} {l2 : Int32} {l3 : Int32} (h : (((m 32 0 1) ≤ l3 → Wp X (d + 1) 185 (69, ([some (vp 31 0), some (vi l1), some (vi l2), some (vi 0)], ([], G x m))) Q) ∧ (¬ ((m 32 0 1) ≤ l3) → Cl X d 228 [vp 31 0, vi l3] (G x m) (fun r => ∃ (v2 : Int32) (m3 : MI), r = (.inl (some (vi v2)), G x m3) ∧ ((0 ≤ v2 → Cl X d 155 [vp 31 0, vi l3, vi 0] (G x m3) (fun r => ∃ (v5 : Int32) (m6 : MI), r = (.inl (some (vi v5)), G x m6) ∧ (inb l2 6 = true ∧ (∀ m7 : MI, m7 = mup m6 37 0 (l2.toNatClampNeg) v5 → Cl X d 228 [vp 31 0, vi l3] (G x m7) (fun r => ∃ (v8 : Int32) (m9 : MI), r = (.inl (some (vi v8)), G x m9) ∧ Cl X d 154 [vp 31 0, vi v8, vi 0] (G x m9) (fun r => ∃ (v10 : Int32) (m11 : MI), r = (.inl (some (vi v10)), G x m11) ∧ (inb l2 6 = true ∧ (∀ m12 : MI, m12 = mup m11 38 0 (l2.toNatClampNeg) v10 → (∀ t13 : Int32, t13 = l2 + 1 → (∀ t14 : Int32, t14 = l3 + 1 → Wp X (d + 1) 185 (9, ([some (vp 31 0), some (vi l1), some (vi t13), some (vi t14)], ([], G x m12))) Q)))))))))) ∧ (¬ (0 ≤ v2) → (∀ t15 : Int32, t15 = l3 + 1 → Wp X (d + 1) 185 (9, ([some (vp 31 0), some (vi l1), some (vi l2), some (vi t15)], ([], G x m3))) Q))))))) : Wp X (d + 1) 185 (9, ([some (vp 31 0), some (vi l1), some (vi l2), some (vi l3)], ([], G x m))) Q := by
  refine wp_run 6 true ((bif decide ((m 32 0 1) ≤ l3) then 67 else 19), ([some (vp 31 0), some (vi l1), some (vi l2), some (vi l3)], ([], G x m))) rfl rfl ?_
  refine wp_if ((m 32 0 1) ≤ l3) (fun c1 => ?_) (fun c1 => ?_)
  · have h := h.1 c1
    refine wp_run 2 true (69, ([some (vp 31 0), some (vi l1), some (vi l2), some (vi 0)], ([], G x m))) rfl rfl ?_
    exact h
  · have h := h.2 c1
    refine wp_run 2 true (21, ([some (vp 31 0), some (vi l1), some (vi l2), some (vi l3)], ([vi l3, vp 31 0], G x m))) rfl rfl ?_
    refine wp_call 228 [vp 31 0, vi l3] (24, ([some (vp 31 0), some (vi l1), some (vi l2), some (vi l3)], ([], G x m))) rfl rfl (Cl.mono h (Nat.le_refl _) ?_)
    rintro r ⟨v2, m3, rfl, h⟩
    · show Wp X (d + 1) 185 (24, ([some (vp 31 0), some (vi l1), some (vi l2), some (vi l3)], ([vi v2], G x m3))) Q
      refine wp_run 1 true ((bif decide (0 ≤ v2) then 30 else 27), ([some (vp 31 0), some (vi l1), some (vi l2), some (vi l3)], ([], G x m3))) rfl rfl ?_
      refine wp_if (0 ≤ v2) (fun c4 => ?_) (fun c4 => ?_)
      · have h := h.1 c4
        refine wp_run 6 true (38, ([some (vp 31 0), some (vi l1), some (vi l2), some (vi l3)], ([vi 0, vi l3, vp 31 0, vi l2, vp 37 0], G x m3))) rfl rfl ?_
        refine wp_call 155 [vp 31 0, vi l3, vi 0] (41, ([some (vp 31 0), some (vi l1), some (vi l2), some (vi l3)], ([vi l2, vp 37 0], G x m3))) rfl rfl (Cl.mono h (Nat.le_refl _) ?_)
        rintro r ⟨v5, m6, rfl, h⟩
        · show Wp X (d + 1) 185 (41, ([some (vp 31 0), some (vi l1), some (vi l2), some (vi l3)], ([vi v5, vi l2, vp 37 0], G x m6))) Q
          obtain ⟨hg5_0, h⟩ := h
          refine wp_run 1 (inb l2 6 && true) (42, ([some (vp 31 0), some (vi l1), some (vi l2), some (vi l3)], ([], G x (mup m6 37 0 (l2.toNatClampNeg) v5)))) rfl (and_t hg5_0 rfl) ?_
          refine wpg (fun m7 => Wp X (d + 1) 185 (42, ([some (vp 31 0), some (vi l1), some (vi l2), some (vi l3)], ([], G x m7))) Q) (mup m6 37 0 (l2.toNatClampNeg) v5) (fun m7 hm7 => ?_)
          have h := h m7 hm7
          refine wp_run 6 true (50, ([some (vp 31 0), some (vi l1), some (vi l2), some (vi l3)], ([vi l3, vp 31 0, vp 31 0, vi l2, vp 38 0], G x m7))) rfl rfl ?_
          refine wp_call 228 [vp 31 0, vi l3] (53, ([some (vp 31 0), some (vi l1), some (vi l2), some (vi l3)], ([vp 31 0, vi l2, vp 38 0], G x m7))) rfl rfl (Cl.mono h (Nat.le_refl _) ?_)
          rintro r ⟨v8, m9, rfl, h⟩
          · show Wp X (d + 1) 185 (53, ([some (vp 31 0), some (vi l1), some (vi l2), some (vi l3)], ([vi v8, vp 31 0, vi l2, vp 38 0], G x m9))) Q
            refine wp_run 1 true (54, ([some (vp 31 0), some (vi l1), some (vi l2), some (vi l3)], ([vi 0, vi v8, vp 31 0, vi l2, vp 38 0], G x m9))) rfl rfl ?_
            refine wp_call 154 [vp 31 0, vi v8, vi 0] (57, ([some (vp 31 0), some (vi l1), some (vi l2), some (vi l3)], ([vi l2, vp 38 0], G x m9))) rfl rfl (Cl.mono h (Nat.le_refl _) ?_)
            rintro r ⟨v10, m11, rfl, h⟩
            · show Wp X (d + 1) 185 (57, ([some (vp 31 0), some (vi l1), some (vi l2), some (vi l3)], ([vi v10, vi l2, vp 38 0], G x m11))) Q
              obtain ⟨hg7_0, h⟩ := h
              refine wp_run 1 (inb l2 6 && true) (58, ([some (vp 31 0), some (vi l1), some (vi l2), some (vi l3)], ([], G x (mup m11 38 0 (l2.toNatClampNeg) v10)))) rfl (and_t hg7_0 rfl) ?_
              refine wpg (fun m12 => Wp X (d + 1) 185 (58, ([some (vp 31 0), some (vi l1), some (vi l2), some (vi l3)], ([], G x m12))) Q) (mup m11 38 0 (l2.toNatClampNeg) v10) (fun m12 hm12 => ?_)
              have h := h m12 hm12
              refine wp_run 1 true (61, ([some (vp 31 0), some (vi l1), some (vi (l2 + 1)), some (vi l3)], ([], G x m12))) rfl rfl ?_
              refine wpg (fun t13 => Wp X (d + 1) 185 (61, ([some (vp 31 0), some (vi l1), some (vi t13), some (vi l3)], ([], G x m12))) Q) (l2 + 1) (fun t13 ht13 => ?_)
              have h := h t13 ht13
              refine wp_run 1 true (64, ([some (vp 31 0), some (vi l1), some (vi t13), some (vi (l3 + 1))], ([], G x m12))) rfl rfl ?_
              refine wpg (fun t14 => Wp X (d + 1) 185 (64, ([some (vp 31 0), some (vi l1), some (vi t13), some (vi t14)], ([], G x m12))) Q) (l3 + 1) (fun t14 ht14 => ?_)
              have h := h t14 ht14
              refine wp_run 1 true (9, ([some (vp 31 0), some (vi l1), some (vi t13), some (vi t14)], ([], G x m12))) rfl rfl ?_
              exact h
      · have h := h.2 c4
        refine wp_run 2 true (64, ([some (vp 31 0), some (vi l1), some (vi l2), some (vi (l3 + 1))], ([], G x m3))) rfl rfl ?_
        refine wpg (fun t15 => Wp X (d + 1) 185 (64, ([some (vp 31 0), some (vi l1), some (vi l2), some (vi t15)], ([], G x m3))) Q) (l3 + 1) (fun t15 ht15 => ?_)
        have h := h t15 ht15
        refine wp_run 1 true (9, ([some (vp 31 0), some (vi l1), some (vi l2), some (vi t15)], ([], G x m3))) rfl rfl ?_
        exact h
set_option maxRecDepth 100000 in
set_option maxHeartbeats 4000000 in
theorem vl_X11_settleAll_69 {X : MX} {d : Nat} {x : Int64 × UInt64} {m : MI} {Q : MRes → Prop} {l1 : Int32} {l2 : Int32} {l3 : Int32} (h : ((l2 ≤ l3 → Q (.inl (some (vi l2)), G x m)) ∧ (¬ (l2 ≤ l3) → (inb l3 6 = true ∧ inb l3 6 = true ∧ Cl X d 182 [vp 31 0, vi (m 37 0 l3.toNatClampNeg), vi (m 38 0 l3.toNatClampNeg)] (G x m) (fun r => ∃ (v2 : Int32) (m3 : MI), r = (.inl (some (vi v2)), G x m3) ∧ (∀ t4 : Int32, t4 = l3 + 1 → Wp X (d + 1) 185 (69, ([some (vp 31 0), some (vi v2), some (vi l2), some (vi t4)], ([], G x m3))) Q)))))) : Wp X (d + 1) 185 (69, ([some (vp 31 0), some (vi l1), some (vi l2), some (vi l3)], ([], G x m))) Q := by
  refine wp_run 3 true ((bif decide (l2 ≤ l3) then 97 else 74), ([some (vp 31 0), some (vi l1), some (vi l2), some (vi l3)], ([], G x m))) rfl rfl ?_
  refine wp_if (l2 ≤ l3) (fun c1 => ?_) (fun c1 => ?_)
  · have h := h.1 c1
    refine wp_run 1 true (98, ([some (vp 31 0), some (vi l1), some (vi l2), some (vi l3)], ([vi l2], G x m))) rfl rfl ?_
    exact wp_ret rfl h
  · have h := h.2 c1
    obtain ⟨hg2_0, hg2_1, h⟩ := h
    refine wp_run 9 (inb l3 6 && (inb l3 6 && true)) (87, ([some (vp 31 0), some (vi l1), some (vi l2), some (vi l3)], ([vi (m 38 0 l3.toNatClampNeg), vi (m 37 0 l3.toNatClampNeg), vp 31 0], G x m))) rfl (and_t hg2_1 (and_t hg2_0 rfl)) ?_
    refine wp_call 182 [vp 31 0, vi (m 37 0 l3.toNatClampNeg), vi (m 38 0 l3.toNatClampNeg)] (90, ([some (vp 31 0), some (vi l1), some (vi l2), some (vi l3)], ([], G x m))) rfl rfl (Cl.mono h (Nat.le_refl _) ?_)
    rintro r ⟨v2, m3, rfl, h⟩
    · show Wp X (d + 1) 185 (90, ([some (vp 31 0), some (vi l1), some (vi l2), some (vi l3)], ([vi v2], G x m3))) Q
      refine wp_run 2 true (94, ([some (vp 31 0), some (vi v2), some (vi l2), some (vi (l3 + 1))], ([], G x m3))) rfl rfl ?_
      refine wpg (fun t4 => Wp X (d + 1) 185 (94, ([some (vp 31 0), some (vi v2), some (vi l2), some (vi t4)], ([], G x m3))) Q) (l3 + 1) (fun t4 ht4 => ?_)
      have h := h t4 ht4
      refine wp_run 1 true (69, ([some (vp 31 0), some (vi v2), some (vi l2), some (vi t4)], ([], G x m3))) rfl rfl ?_
      exact h
set_option maxRecDepth 100000 in
set_option maxHeartbeats 4000000 in
theorem vc_X11_cannotMix {X : MX} {d : Nat} {x : Int64 × UInt64} {m : MI} {Q : MRes → Prop} {p0 : Int32} {p1 : Int32} (h : Cl X d 156 [vp 31 0, vi p0] (G x m) (fun r => ∃ (v1 : Int32) (m2 : MI), r = (.inl (some (vi v1)), G x m2) ∧ ((v1 < 0 → Q (.inl (some (vi 1)), G x m2)) ∧ (¬ (v1 < 0) → Cl X d 156 [vp 31 0, vi p1] (G x m2) (fun r => ∃ (v4 : Int32) (m5 : MI), r = (.inl (some (vi v4)), G x m5) ∧ ((0 ≤ v4 → ((¬ p0 = p1 → Q (.inl (some (vi 0)), G x m5)) ∧ (¬ (¬ p0 = p1) → Q (.inl (some (vi 2)), G x m5)))) ∧ (¬ (0 ≤ v4) → Q (.inl (some (vi 1)), G x m5)))))))) : Cl X (d + 1) 186 [vp 31 0, vi p0, vi p1] (G x m) Q := by
  show Wp X (d + 1) 186 (0, ([some (vp 31 0), some (vi p0), some (vi p1)], ([], G x m))) Q
  refine wp_run 2 true (2, ([some (vp 31 0), some (vi p0), some (vi p1)], ([vi p0, vp 31 0], G x m))) rfl rfl ?_
  refine wp_call 156 [vp 31 0, vi p0] (5, ([some (vp 31 0), some (vi p0), some (vi p1)], ([], G x m))) rfl rfl (Cl.mono h (Nat.le_refl _) ?_)
  rintro r ⟨v1, m2, rfl, h⟩
  · show Wp X (d + 1) 186 (5, ([some (vp 31 0), some (vi p0), some (vi p1)], ([vi v1], G x m2))) Q
    refine wp_run 1 true ((bif decide (v1 < 0) then 16 else 8), ([some (vp 31 0), some (vi p0), some (vi p1)], ([], G x m2))) rfl rfl ?_
    refine wp_if (v1 < 0) (fun c3 => ?_) (fun c3 => ?_)
    · have h := h.1 c3
      refine wp_run 2 true (30, ([some (vp 31 0), some (vi p0), some (vi p1)], ([vi 1], G x m2))) rfl rfl ?_
      exact wp_ret rfl h
    · have h := h.2 c3
      refine wp_run 2 true (10, ([some (vp 31 0), some (vi p0), some (vi p1)], ([vi p1, vp 31 0], G x m2))) rfl rfl ?_
      refine wp_call 156 [vp 31 0, vi p1] (13, ([some (vp 31 0), some (vi p0), some (vi p1)], ([], G x m2))) rfl rfl (Cl.mono h (Nat.le_refl _) ?_)
      rintro r ⟨v4, m5, rfl, h⟩
      · show Wp X (d + 1) 186 (13, ([some (vp 31 0), some (vi p0), some (vi p1)], ([vi v4], G x m5))) Q
        refine wp_run 1 true ((bif decide (0 ≤ v4) then 20 else 16), ([some (vp 31 0), some (vi p0), some (vi p1)], ([], G x m5))) rfl rfl ?_
        refine wp_if (0 ≤ v4) (fun c6 => ?_) (fun c6 => ?_)
        · have h := h.1 c6
          refine wp_run 3 true ((bif decide (¬ p0 = p1) then 29 else 25), ([some (vp 31 0), some (vi p0), some (vi p1)], ([], G x m5))) rfl rfl ?_
          refine wp_if (¬ p0 = p1) (fun c7 => ?_) (fun c7 => ?_)
          · have h := h.1 c7
            refine wp_run 1 true (30, ([some (vp 31 0), some (vi p0), some (vi p1)], ([vi 0], G x m5))) rfl rfl ?_
            exact wp_ret rfl h
          · have h := h.2 c7
            refine wp_run 2 true (30, ([some (vp 31 0), some (vi p0), some (vi p1)], ([vi 2], G x m5))) rfl rfl ?_
            exact wp_ret rfl h
        · have h := h.2 c6
          refine wp_run 2 true (30, ([some (vp 31 0), some (vi p0), some (vi p1)], ([vi 1], G x m5))) rfl rfl ?_
          exact wp_ret rfl h
set_option maxRecDepth 100000 in
set_option maxHeartbeats 4000000 in
theorem vc_X11_mixes {X : MX} {d : Nat} {x : Int64 × UInt64} {m : MI} {Q : MRes → Prop} {p0 : Int32} {p1 : Int32} (h : Cl X d 156 [vp 31 0, vi p0] (G x m) (fun r => ∃ (v1 : Int32) (m2 : MI), r = (.inl (some (vi v1)), G x m2) ∧ Cl X d 156 [vp 31 0, vi p1] (G x m2) (fun r => ∃ (v3 : Int32) (m4 : MI), r = (.inl (some (vi v3)), G x m4) ∧ Cl X d 154 [vp 31 0, vi v1, vi 1] (G x m4) (fun r => ∃ (v5 : Int32) (m6 : MI), r = (.inl (some (vi v5)), G x m6) ∧ Cl X d 154 [vp 31 0, vi v3, vi 1] (G x m6) (fun r => ∃ (v7 : Int32) (m8 : MI), r = (.inl (some (vi v7)), G x m8) ∧ (∀ t9 : Int32, t9 = (v5 + v7) / 2 → Cl X d 154 [vp 31 0, vi v1, vi 2] (G x m8) (fun r => ∃ (v10 : Int32) (m11 : MI), r = (.inl (some (vi v10)), G x m11) ∧ Cl X d 154 [vp 31 0, vi v3, vi 2] (G x m11) (fun r => ∃ (v12 : Int32) (m13 : MI), r = (.inl (some (vi v12)), G x m13) ∧ (∀ t14 : Int32, t14 = (v10 + v12) / 2 → Cl X d 154 [vp 31 0, vi v1, vi 3] (G x m13) (fun r => ∃ (v15 : Int32) (m16 : MI), r = (.inl (some (vi v15)), G x m16) ∧ Cl X d 154 [vp 31 0, vi v3, vi 3] (G x m16) (fun r => ∃ (v17 : Int32) (m18 : MI), r = (.inl (some (vi v17)), G x m18) ∧ (∀ t19 : Int32, t19 = (v15 + v17) / 2 → Cl X d 154 [vp 31 0, vi v1, vi 4] (G x m18) (fun r => ∃ (v20 : Int32) (m21 : MI), r = (.inl (some (vi v20)), G x m21) ∧ Cl X d 154 [vp 31 0, vi v3, vi 4] (G x m21) (fun r => ∃ (v22 : Int32) (m23 : MI), r = (.inl (some (vi v22)), G x m23) ∧ ((v22 ≤ v20 → Cl X d 154 [vp 31 0, vi v3, vi 4] (G x m23) (fun r => ∃ (v25 : Int32) (m26 : MI), r = (.inl (some (vi v25)), G x m26) ∧ ((v1 ≤ v3 → Cl X d 159 [vp 31 0, vi v3] (G x m26) (fun r => ∃ (m29 : MI), r = (.inl none, G x m29) ∧ ((v1 ≤ v3 → Cl X d 159 [vp 31 0, vi v1] (G x m29) (fun r => ∃ (m32 : MI), r = (.inl none, G x m32) ∧ Cl X d 169 [vp 31 0, vi t9, vi t14, vi t19, vi v25] (G x m32) (fun r => ∃ (v33 : Int32) (m34 : MI), r = (.inl (some (vi v33)), G x m34) ∧ Q (.inl (some (vi v33)), G x m34)))) ∧ (¬ (v1 ≤ v3) → Cl X d 159 [vp 31 0, vi v3] (G x m29) (fun r => ∃ (m36 : MI), r = (.inl none, G x m36) ∧ Cl X d 169 [vp 31 0, vi t9, vi t14, vi t19, vi v25] (G x m36) (fun r => ∃ (v37 : Int32) (m38 : MI), r = (.inl (some (vi v37)), G x m38) ∧ Q (.inl (some (vi v37)), G x m38))))))) ∧ (¬ (v1 ≤ v3) → Cl X d 159 [vp 31 0, vi v1] (G x m26) (fun r => ∃ (m40 : MI), r = (.inl none, G x m40) ∧ ((v1 ≤ v3 → Cl X d 159 [vp 31 0, vi v1] (G x m40) (fun r => ∃ (m43 : MI), r = (.inl none, G x m43) ∧ Cl X d 169 [vp 31 0, vi t9, vi t14, vi t19, vi v25] (G x m43) (fun r => ∃ (v44 : Int32) (m45 : MI), r = (.inl (some (vi v44)), G x m45) ∧ Q (.inl (some (vi v44)), G x m45)))) ∧ (¬ (v1 ≤ v3) → Cl X d 159 [vp 31 0, vi v3] (G x m40) (fun r => ∃ (m47 : MI), r = (.inl none, G x m47) ∧ Cl X d 169 [vp 31 0, vi t9, vi t14, vi t19, vi v25] (G x m47) (fun r => ∃ (v48 : Int32) (m49 : MI), r = (.inl (some (vi v48)), G x m49) ∧ Q (.inl (some (vi v48)), G x m49)))))))))) ∧ (¬ (v22 ≤ v20) → Cl X d 154 [vp 31 0, vi v1, vi 4] (G x m23) (fun r => ∃ (v50 : Int32) (m51 : MI), r = (.inl (some (vi v50)), G x m51) ∧ ((v1 ≤ v3 → Cl X d 159 [vp 31 0, vi v3] (G x m51) (fun r => ∃ (m54 : MI), r = (.inl none, G x m54) ∧ ((v1 ≤ v3 → Cl X d 159 [vp 31 0, vi v1] (G x m54) (fun r => ∃ (m57 : MI), r = (.inl none, G x m57) ∧ Cl X d 169 [vp 31 0, vi t9, vi t14, vi t19, vi v50] (G x m57) (fun r => ∃ (v58 : Int32) (m59 : MI), r = (.inl (some (vi v58)), G x m59) ∧ Q (.inl (some (vi v58)), G x m59)))) ∧ (¬ (v1 ≤ v3) → Cl X d 159 [vp 31 0, vi v3] (G x m54) (fun r => ∃ (m61 : MI), r = (.inl none, G x m61) ∧ Cl X d 169 [vp 31 0, vi t9, vi t14, vi t19, vi v50] (G x m61) (fun r => ∃ (v62 : Int32) (m63 : MI), r = (.inl (some (vi v62)), G x m63) ∧ Q (.inl (some (vi v62)), G x m63))))))) ∧ (¬ (v1 ≤ v3) → Cl X d 159 [vp 31 0, vi v1] (G x m51) (fun r => ∃ (m65 : MI), r = (.inl none, G x m65) ∧ ((v1 ≤ v3 → Cl X d 159 [vp 31 0, vi v1] (G x m65) (fun r => ∃ (m68 : MI), r = (.inl none, G x m68) ∧ Cl X d 169 [vp 31 0, vi t9, vi t14, vi t19, vi v50] (G x m68) (fun r => ∃ (v69 : Int32) (m70 : MI), r = (.inl (some (vi v69)), G x m70) ∧ Q (.inl (some (vi v69)), G x m70)))) ∧ (¬ (v1 ≤ v3) → Cl X d 159 [vp 31 0, vi v3] (G x m65) (fun r => ∃ (m72 : MI), r = (.inl none, G x m72) ∧ Cl X d 169 [vp 31 0, vi t9, vi t14, vi t19, vi v50] (G x m72) (fun r => ∃ (v73 : Int32) (m74 : MI), r = (.inl (some (vi v73)), G x m74) ∧ Q (.inl (some (vi v73)), G x m74))))))))))))))))))))))))) : Cl X (d + 1) 187 [vp 31 0, vi p0, vi p1] (G x m) Q := by
  show Wp X (d + 1) 187 (0, ([some (vp 31 0), some (vi p0), some (vi p1), none, none, none, none, none, none], ([], G x m))) Q
  refine wp_run 2 true (2, ([some (vp 31 0), some (vi p0), some (vi p1), none, none, none, none, none, none], ([vi p0, vp 31 0], G x m))) rfl rfl ?_
  refine wp_call 156 [vp 31 0, vi p0] (5, ([some (vp 31 0), some (vi p0), some (vi p1), none, none, none, none, none, none], ([], G x m))) rfl rfl (Cl.mono h (Nat.le_refl _) ?_)
  rintro r ⟨v1, m2, rfl, h⟩
  · show Wp X (d + 1) 187 (5, ([some (vp 31 0), some (vi p0), some (vi p1), none, none, none, none, none, none], ([vi v1], G x m2))) Q
    refine wp_run 3 true (8, ([some (vp 31 0), some (vi p0), some (vi p1), some (vi v1), none, none, none, none, none], ([vi p1, vp 31 0], G x m2))) rfl rfl ?_
    refine wp_call 156 [vp 31 0, vi p1] (11, ([some (vp 31 0), some (vi p0), some (vi p1), some (vi v1), none, none, none, none, none], ([], G x m2))) rfl rfl (Cl.mono h (Nat.le_refl _) ?_)
    rintro r ⟨v3, m4, rfl, h⟩
    · show Wp X (d + 1) 187 (11, ([some (vp 31 0), some (vi p0), some (vi p1), some (vi v1), none, none, none, none, none], ([vi v3], G x m4))) Q
      refine wp_run 4 true (16, ([some (vp 31 0), some (vi p0), some (vi p1), some (vi v1), some (vi v3), none, none, none, none], ([vi 1, vi v1, vp 31 0], G x m4))) rfl rfl ?_
      refine wp_call 154 [vp 31 0, vi v1, vi 1] (19, ([some (vp 31 0), some (vi p0), some (vi p1), some (vi v1), some (vi v3), none, none, none, none], ([], G x m4))) rfl rfl (Cl.mono h (Nat.le_refl _) ?_)
      rintro r ⟨v5, m6, rfl, h⟩
      · show Wp X (d + 1) 187 (19, ([some (vp 31 0), some (vi p0), some (vi p1), some (vi v1), some (vi v3), none, none, none, none], ([vi v5], G x m6))) Q
        refine wp_run 3 true (23, ([some (vp 31 0), some (vi p0), some (vi p1), some (vi v1), some (vi v3), none, none, none, none], ([vi 1, vi v3, vp 31 0, vi v5], G x m6))) rfl rfl ?_
        refine wp_call 154 [vp 31 0, vi v3, vi 1] (26, ([some (vp 31 0), some (vi p0), some (vi p1), some (vi v1), some (vi v3), none, none, none, none], ([vi v5], G x m6))) rfl rfl (Cl.mono h (Nat.le_refl _) ?_)
        rintro r ⟨v7, m8, rfl, h⟩
        · show Wp X (d + 1) 187 (26, ([some (vp 31 0), some (vi p0), some (vi p1), some (vi v1), some (vi v3), none, none, none, none], ([vi v7, vi v5], G x m8))) Q
          refine wp_run 4 true (31, ([some (vp 31 0), some (vi p0), some (vi p1), some (vi v1), some (vi v3), some (vi ((v5 + v7) / 2)), none, none, none], ([], G x m8))) rfl rfl ?_
          refine wpg (fun t9 => Wp X (d + 1) 187 (31, ([some (vp 31 0), some (vi p0), some (vi p1), some (vi v1), some (vi v3), some (vi t9), none, none, none], ([], G x m8))) Q) ((v5 + v7) / 2) (fun t9 ht9 => ?_)
          have h := h t9 ht9
          refine wp_run 3 true (34, ([some (vp 31 0), some (vi p0), some (vi p1), some (vi v1), some (vi v3), some (vi t9), none, none, none], ([vi 2, vi v1, vp 31 0], G x m8))) rfl rfl ?_
          refine wp_call 154 [vp 31 0, vi v1, vi 2] (37, ([some (vp 31 0), some (vi p0), some (vi p1), some (vi v1), some (vi v3), some (vi t9), none, none, none], ([], G x m8))) rfl rfl (Cl.mono h (Nat.le_refl _) ?_)
          rintro r ⟨v10, m11, rfl, h⟩
          · show Wp X (d + 1) 187 (37, ([some (vp 31 0), some (vi p0), some (vi p1), some (vi v1), some (vi v3), some (vi t9), none, none, none], ([vi v10], G x m11))) Q
            refine wp_run 3 true (41, ([some (vp 31 0), some (vi p0), some (vi p1), some (vi v1), some (vi v3), some (vi t9), none, none, none], ([vi 2, vi v3, vp 31 0, vi v10], G x m11))) rfl rfl ?_
            refine wp_call 154 [vp 31 0, vi v3, vi 2] (44, ([some (vp 31 0), some (vi p0), some (vi p1), some (vi v1), some (vi v3), some (vi t9), none, none, none], ([vi v10], G x m11))) rfl rfl (Cl.mono h (Nat.le_refl _) ?_)
            rintro r ⟨v12, m13, rfl, h⟩
            · show Wp X (d + 1) 187 (44, ([some (vp 31 0), some (vi p0), some (vi p1), some (vi v1), some (vi v3), some (vi t9), none, none, none], ([vi v12, vi v10], G x m13))) Q
              refine wp_run 4 true (49, ([some (vp 31 0), some (vi p0), some (vi p1), some (vi v1), some (vi v3), some (vi t9), some (vi ((v10 + v12) / 2)), none, none], ([], G x m13))) rfl rfl ?_
              refine wpg (fun t14 => Wp X (d + 1) 187 (49, ([some (vp 31 0), some (vi p0), some (vi p1), some (vi v1), some (vi v3), some (vi t9), some (vi t14), none, none], ([], G x m13))) Q) ((v10 + v12) / 2) (fun t14 ht14 => ?_)
              have h := h t14 ht14
              refine wp_run 3 true (52, ([some (vp 31 0), some (vi p0), some (vi p1), some (vi v1), some (vi v3), some (vi t9), some (vi t14), none, none], ([vi 3, vi v1, vp 31 0], G x m13))) rfl rfl ?_
              refine wp_call 154 [vp 31 0, vi v1, vi 3] (55, ([some (vp 31 0), some (vi p0), some (vi p1), some (vi v1), some (vi v3), some (vi t9), some (vi t14), none, none], ([], G x m13))) rfl rfl (Cl.mono h (Nat.le_refl _) ?_)
              rintro r ⟨v15, m16, rfl, h⟩
              · show Wp X (d + 1) 187 (55, ([some (vp 31 0), some (vi p0), some (vi p1), some (vi v1), some (vi v3), some (vi t9), some (vi t14), none, none], ([vi v15], G x m16))) Q
                refine wp_run 3 true (59, ([some (vp 31 0), some (vi p0), some (vi p1), some (vi v1), some (vi v3), some (vi t9), some (vi t14), none, none], ([vi 3, vi v3, vp 31 0, vi v15], G x m16))) rfl rfl ?_
                refine wp_call 154 [vp 31 0, vi v3, vi 3] (62, ([some (vp 31 0), some (vi p0), some (vi p1), some (vi v1), some (vi v3), some (vi t9), some (vi t14), none, none], ([vi v15], G x m16))) rfl rfl (Cl.mono h (Nat.le_refl _) ?_)
                rintro r ⟨v17, m18, rfl, h⟩
                · show Wp X (d + 1) 187 (62, ([some (vp 31 0), some (vi p0), some (vi p1), some (vi v1), some (vi v3), some (vi t9), some (vi t14), none, none], ([vi v17, vi v15], G x m18))) Q
                  refine wp_run 4 true (67, ([some (vp 31 0), some (vi p0), some (vi p1), some (vi v1), some (vi v3), some (vi t9), some (vi t14), some (vi ((v15 + v17) / 2)), none], ([], G x m18))) rfl rfl ?_
                  refine wpg (fun t19 => Wp X (d + 1) 187 (67, ([some (vp 31 0), some (vi p0), some (vi p1), some (vi v1), some (vi v3), some (vi t9), some (vi t14), some (vi t19), none], ([], G x m18))) Q) ((v15 + v17) / 2) (fun t19 ht19 => ?_)
                  have h := h t19 ht19
                  refine wp_run 3 true (70, ([some (vp 31 0), some (vi p0), some (vi p1), some (vi v1), some (vi v3), some (vi t9), some (vi t14), some (vi t19), none], ([vi 4, vi v1, vp 31 0], G x m18))) rfl rfl ?_
                  refine wp_call 154 [vp 31 0, vi v1, vi 4] (73, ([some (vp 31 0), some (vi p0), some (vi p1), some (vi v1), some (vi v3), some (vi t9), some (vi t14), some (vi t19), none], ([], G x m18))) rfl rfl (Cl.mono h (Nat.le_refl _) ?_)
                  rintro r ⟨v20, m21, rfl, h⟩
                  · show Wp X (d + 1) 187 (73, ([some (vp 31 0), some (vi p0), some (vi p1), some (vi v1), some (vi v3), some (vi t9), some (vi t14), some (vi t19), none], ([vi v20], G x m21))) Q
                    refine wp_run 3 true (77, ([some (vp 31 0), some (vi p0), some (vi p1), some (vi v1), some (vi v3), some (vi t9), some (vi t14), some (vi t19), none], ([vi 4, vi v3, vp 31 0, vi v20], G x m21))) rfl rfl ?_
                    refine wp_call 154 [vp 31 0, vi v3, vi 4] (80, ([some (vp 31 0), some (vi p0), some (vi p1), some (vi v1), some (vi v3), some (vi t9), some (vi t14), some (vi t19), none], ([vi v20], G x m21))) rfl rfl (Cl.mono h (Nat.le_refl _) ?_)
                    rintro r ⟨v22, m23, rfl, h⟩
                    · show Wp X (d + 1) 187 (80, ([some (vp 31 0), some (vi p0), some (vi p1), some (vi v1), some (vi v3), some (vi t9), some (vi t14), some (vi t19), none], ([vi v22, vi v20], G x m23))) Q
                      refine wp_run 1 true ((bif decide (v22 ≤ v20) then 92 else 83), ([some (vp 31 0), some (vi p0), some (vi p1), some (vi v1), some (vi v3), some (vi t9), some (vi t14), some (vi t19), none], ([], G x m23))) rfl rfl ?_
                      refine wp_if (v22 ≤ v20) (fun c24 => ?_) (fun c24 => ?_)
                      · have h := h.1 c24
                        refine wp_run 3 true (96, ([some (vp 31 0), some (vi p0), some (vi p1), some (vi v1), some (vi v3), some (vi t9), some (vi t14), some (vi t19), none], ([vi 4, vi v3, vp 31 0], G x m23))) rfl rfl ?_
                        refine wp_call 154 [vp 31 0, vi v3, vi 4] (99, ([some (vp 31 0), some (vi p0), some (vi p1), some (vi v1), some (vi v3), some (vi t9), some (vi t14), some (vi t19), none], ([], G x m23))) rfl rfl (Cl.mono h (Nat.le_refl _) ?_)
                        rintro r ⟨v25, m26, rfl, h⟩
                        · show Wp X (d + 1) 187 (99, ([some (vp 31 0), some (vi p0), some (vi p1), some (vi v1), some (vi v3), some (vi t9), some (vi t14), some (vi t19), none], ([vi v25], G x m26))) Q
                          refine wp_run 5 true ((bif decide (v1 ≤ v3) then 112 else 108), ([some (vp 31 0), some (vi p0), some (vi p1), some (vi v1), some (vi v3), some (vi t9), some (vi t14), some (vi t19), some (vi v25)], ([vp 31 0], G x m26))) rfl rfl ?_
                          refine wp_if (v1 ≤ v3) (fun c27 => ?_) (fun c27 => ?_)
                          · have h := h.1 c27
                            refine wp_run 1 true (114, ([some (vp 31 0), some (vi p0), some (vi p1), some (vi v1), some (vi v3), some (vi t9), some (vi t14), some (vi t19), some (vi v25)], ([vi v3, vp 31 0], G x m26))) rfl rfl ?_
                            refine wp_call 159 [vp 31 0, vi v3] (117, ([some (vp 31 0), some (vi p0), some (vi p1), some (vi v1), some (vi v3), some (vi t9), some (vi t14), some (vi t19), some (vi v25)], ([], G x m26))) rfl rfl (Cl.mono h (Nat.le_refl _) ?_)
                            rintro r ⟨m29, rfl, h⟩
                            · show Wp X (d + 1) 187 (117, ([some (vp 31 0), some (vi p0), some (vi p1), some (vi v1), some (vi v3), some (vi t9), some (vi t14), some (vi t19), some (vi v25)], ([], G x m29))) Q
                              refine wp_run 4 true ((bif decide (v1 ≤ v3) then 129 else 124), ([some (vp 31 0), some (vi p0), some (vi p1), some (vi v1), some (vi v3), some (vi t9), some (vi t14), some (vi t19), some (vi v25)], ([vp 31 0], G x m29))) rfl rfl ?_
                              refine wp_if (v1 ≤ v3) (fun c30 => ?_) (fun c30 => ?_)
                              · have h := h.1 c30
                                refine wp_run 1 true (130, ([some (vp 31 0), some (vi p0), some (vi p1), some (vi v1), some (vi v3), some (vi t9), some (vi t14), some (vi t19), some (vi v25)], ([vi v1, vp 31 0], G x m29))) rfl rfl ?_
                                refine wp_call 159 [vp 31 0, vi v1] (133, ([some (vp 31 0), some (vi p0), some (vi p1), some (vi v1), some (vi v3), some (vi t9), some (vi t14), some (vi t19), some (vi v25)], ([], G x m29))) rfl rfl (Cl.mono h (Nat.le_refl _) ?_)
                                rintro r ⟨m32, rfl, h⟩
                                · show Wp X (d + 1) 187 (133, ([some (vp 31 0), some (vi p0), some (vi p1), some (vi v1), some (vi v3), some (vi t9), some (vi t14), some (vi t19), some (vi v25)], ([], G x m32))) Q
                                  refine wp_run 5 true (142, ([some (vp 31 0), some (vi p0), some (vi p1), some (vi v1), some (vi v3), some (vi t9), some (vi t14), some (vi t19), some (vi v25)], ([vi v25, vi t19, vi t14, vi t9, vp 31 0], G x m32))) rfl rfl ?_
                                  refine wp_call 169 [vp 31 0, vi t9, vi t14, vi t19, vi v25] (145, ([some (vp 31 0), some (vi p0), some (vi p1), some (vi v1), some (vi v3), some (vi t9), some (vi t14), some (vi t19), some (vi v25)], ([], G x m32))) rfl rfl (Cl.mono h (Nat.le_refl _) ?_)
                                  rintro r ⟨v33, m34, rfl, h⟩
                                  · show Wp X (d + 1) 187 (145, ([some (vp 31 0), some (vi p0), some (vi p1), some (vi v1), some (vi v3), some (vi t9), some (vi t14), some (vi t19), some (vi v25)], ([vi v33], G x m34))) Q
                                    exact wp_ret rfl h
                              · have h := h.2 c30
                                refine wp_run 2 true (130, ([some (vp 31 0), some (vi p0), some (vi p1), some (vi v1), some (vi v3), some (vi t9), some (vi t14), some (vi t19), some (vi v25)], ([vi v3, vp 31 0], G x m29))) rfl rfl ?_
                                refine wp_call 159 [vp 31 0, vi v3] (133, ([some (vp 31 0), some (vi p0), some (vi p1), some (vi v1), some (vi v3), some (vi t9), some (vi t14), some (vi t19), some (vi v25)], ([], G x m29))) rfl rfl (Cl.mono h (Nat.le_refl _) ?_)
                                rintro r ⟨m36, rfl, h⟩
                                · show Wp X (d + 1) 187 (133, ([some (vp 31 0), some (vi p0), some (vi p1), some (vi v1), some (vi v3), some (vi t9), some (vi t14), some (vi t19), some (vi v25)], ([], G x m36))) Q
                                  refine wp_run 5 true (142, ([some (vp 31 0), some (vi p0), some (vi p1), some (vi v1), some (vi v3), some (vi t9), some (vi t14), some (vi t19), some (vi v25)], ([vi v25, vi t19, vi t14, vi t9, vp 31 0], G x m36))) rfl rfl ?_
                                  refine wp_call 169 [vp 31 0, vi t9, vi t14, vi t19, vi v25] (145, ([some (vp 31 0), some (vi p0), some (vi p1), some (vi v1), some (vi v3), some (vi t9), some (vi t14), some (vi t19), some (vi v25)], ([], G x m36))) rfl rfl (Cl.mono h (Nat.le_refl _) ?_)
                                  rintro r ⟨v37, m38, rfl, h⟩
                                  · show Wp X (d + 1) 187 (145, ([some (vp 31 0), some (vi p0), some (vi p1), some (vi v1), some (vi v3), some (vi t9), some (vi t14), some (vi t19), some (vi v25)], ([vi v37], G x m38))) Q
                                    exact wp_ret rfl h
                          · have h := h.2 c27
                            refine wp_run 2 true (114, ([some (vp 31 0), some (vi p0), some (vi p1), some (vi v1), some (vi v3), some (vi t9), some (vi t14), some (vi t19), some (vi v25)], ([vi v1, vp 31 0], G x m26))) rfl rfl ?_
                            refine wp_call 159 [vp 31 0, vi v1] (117, ([some (vp 31 0), some (vi p0), some (vi p1), some (vi v1), some (vi v3), some (vi t9), some (vi t14), some (vi t19), some (vi v25)], ([], G x m26))) rfl rfl (Cl.mono h (Nat.le_refl _) ?_)
                            rintro r ⟨m40, rfl, h⟩
                            · show Wp X (d + 1) 187 (117, ([some (vp 31 0), some (vi p0), some (vi p1), some (vi v1), some (vi v3), some (vi t9), some (vi t14), some (vi t19), some (vi v25)], ([], G x m40))) Q
                              refine wp_run 4 true ((bif decide (v1 ≤ v3) then 129 else 124), ([some (vp 31 0), some (vi p0), some (vi p1), some (vi v1), some (vi v3), some (vi t9), some (vi t14), some (vi t19), some (vi v25)], ([vp 31 0], G x m40))) rfl rfl ?_
                              refine wp_if (v1 ≤ v3) (fun c41 => ?_) (fun c41 => ?_)
                              · have h := h.1 c41
                                refine wp_run 1 true (130, ([some (vp 31 0), some (vi p0), some (vi p1), some (vi v1), some (vi v3), some (vi t9), some (vi t14), some (vi t19), some (vi v25)], ([vi v1, vp 31 0], G x m40))) rfl rfl ?_
                                refine wp_call 159 [vp 31 0, vi v1] (133, ([some (vp 31 0), some (vi p0), some (vi p1), some (vi v1), some (vi v3), some (vi t9), some (vi t14), some (vi t19), some (vi v25)], ([], G x m40))) rfl rfl (Cl.mono h (Nat.le_refl _) ?_)
                                rintro r ⟨m43, rfl, h⟩
                                · show Wp X (d + 1) 187 (133, ([some (vp 31 0), some (vi p0), some (vi p1), some (vi v1), some (vi v3), some (vi t9), some (vi t14), some (vi t19), some (vi v25)], ([], G x m43))) Q
                                  refine wp_run 5 true (142, ([some (vp 31 0), some (vi p0), some (vi p1), some (vi v1), some (vi v3), some (vi t9), some (vi t14), some (vi t19), some (vi v25)], ([vi v25, vi t19, vi t14, vi t9, vp 31 0], G x m43))) rfl rfl ?_
                                  refine wp_call 169 [vp 31 0, vi t9, vi t14, vi t19, vi v25] (145, ([some (vp 31 0), some (vi p0), some (vi p1), some (vi v1), some (vi v3), some (vi t9), some (vi t14), some (vi t19), some (vi v25)], ([], G x m43))) rfl rfl (Cl.mono h (Nat.le_refl _) ?_)
                                  rintro r ⟨v44, m45, rfl, h⟩
                                  · show Wp X (d + 1) 187 (145, ([some (vp 31 0), some (vi p0), some (vi p1), some (vi v1), some (vi v3), some (vi t9), some (vi t14), some (vi t19), some (vi v25)], ([vi v44], G x m45))) Q
                                    exact wp_ret rfl h
                              · have h := h.2 c41
                                refine wp_run 2 true (130, ([some (vp 31 0), some (vi p0), some (vi p1), some (vi v1), some (vi v3), some (vi t9), some (vi t14), some (vi t19), some (vi v25)], ([vi v3, vp 31 0], G x m40))) rfl rfl ?_
                                refine wp_call 159 [vp 31 0, vi v3] (133, ([some (vp 31 0), some (vi p0), some (vi p1), some (vi v1), some (vi v3), some (vi t9), some (vi t14), some (vi t19), some (vi v25)], ([], G x m40))) rfl rfl (Cl.mono h (Nat.le_refl _) ?_)
                                rintro r ⟨m47, rfl, h⟩
                                · show Wp X (d + 1) 187 (133, ([some (vp 31 0), some (vi p0), some (vi p1), some (vi v1), some (vi v3), some (vi t9), some (vi t14), some (vi t19), some (vi v25)], ([], G x m47))) Q
                                  refine wp_run 5 true (142, ([some (vp 31 0), some (vi p0), some (vi p1), some (vi v1), some (vi v3), some (vi t9), some (vi t14), some (vi t19), some (vi v25)], ([vi v25, vi t19, vi t14, vi t9, vp 31 0], G x m47))) rfl rfl ?_
                                  refine wp_call 169 [vp 31 0, vi t9, vi t14, vi t19, vi v25] (145, ([some (vp 31 0), some (vi p0), some (vi p1), some (vi v1), some (vi v3), some (vi t9), some (vi t14), some (vi t19), some (vi v25)], ([], G x m47))) rfl rfl (Cl.mono h (Nat.le_refl _) ?_)
                                  rintro r ⟨v48, m49, rfl, h⟩
                                  · show Wp X (d + 1) 187 (145, ([some (vp 31 0), some (vi p0), some (vi p1), some (vi v1), some (vi v3), some (vi t9), some (vi t14), some (vi t19), some (vi v25)], ([vi v48], G x m49))) Q
                                    exact wp_ret rfl h
                      · have h := h.2 c24
                        refine wp_run 3 true (86, ([some (vp 31 0), some (vi p0), some (vi p1), some (vi v1), some (vi v3), some (vi t9), some (vi t14), some (vi t19), none], ([vi 4, vi v1, vp 31 0], G x m23))) rfl rfl ?_
                        refine wp_call 154 [vp 31 0, vi v1, vi 4] (89, ([some (vp 31 0), some (vi p0), some (vi p1), some (vi v1), some (vi v3), some (vi t9), some (vi t14), some (vi t19), none], ([], G x m23))) rfl rfl (Cl.mono h (Nat.le_refl _) ?_)
                        rintro r ⟨v50, m51, rfl, h⟩
                        · show Wp X (d + 1) 187 (89, ([some (vp 31 0), some (vi p0), some (vi p1), some (vi v1), some (vi v3), some (vi t9), some (vi t14), some (vi t19), none], ([vi v50], G x m51))) Q
                          refine wp_run 6 true ((bif decide (v1 ≤ v3) then 112 else 108), ([some (vp 31 0), some (vi p0), some (vi p1), some (vi v1), some (vi v3), some (vi t9), some (vi t14), some (vi t19), some (vi v50)], ([vp 31 0], G x m51))) rfl rfl ?_
                          refine wp_if (v1 ≤ v3) (fun c52 => ?_) (fun c52 => ?_)
                          · have h := h.1 c52
                            refine wp_run 1 true (114, ([some (vp 31 0), some (vi p0), some (vi p1), some (vi v1), some (vi v3), some (vi t9), some (vi t14), some (vi t19), some (vi v50)], ([vi v3, vp 31 0], G x m51))) rfl rfl ?_
                            refine wp_call 159 [vp 31 0, vi v3] (117, ([some (vp 31 0), some (vi p0), some (vi p1), some (vi v1), some (vi v3), some (vi t9), some (vi t14), some (vi t19), some (vi v50)], ([], G x m51))) rfl rfl (Cl.mono h (Nat.le_refl _) ?_)
                            rintro r ⟨m54, rfl, h⟩
                            · show Wp X (d + 1) 187 (117, ([some (vp 31 0), some (vi p0), some (vi p1), some (vi v1), some (vi v3), some (vi t9), some (vi t14), some (vi t19), some (vi v50)], ([], G x m54))) Q
                              refine wp_run 4 true ((bif decide (v1 ≤ v3) then 129 else 124), ([some (vp 31 0), some (vi p0), some (vi p1), some (vi v1), some (vi v3), some (vi t9), some (vi t14), some (vi t19), some (vi v50)], ([vp 31 0], G x m54))) rfl rfl ?_
                              refine wp_if (v1 ≤ v3) (fun c55 => ?_) (fun c55 => ?_)
                              · have h := h.1 c55
                                refine wp_run 1 true (130, ([some (vp 31 0), some (vi p0), some (vi p1), some (vi v1), some (vi v3), some (vi t9), some (vi t14), some (vi t19), some (vi v50)], ([vi v1, vp 31 0], G x m54))) rfl rfl ?_
                                refine wp_call 159 [vp 31 0, vi v1] (133, ([some (vp 31 0), some (vi p0), some (vi p1), some (vi v1), some (vi v3), some (vi t9), some (vi t14), some (vi t19), some (vi v50)], ([], G x m54))) rfl rfl (Cl.mono h (Nat.le_refl _) ?_)
                                rintro r ⟨m57, rfl, h⟩
                                · show Wp X (d + 1) 187 (133, ([some (vp 31 0), some (vi p0), some (vi p1), some (vi v1), some (vi v3), some (vi t9), some (vi t14), some (vi t19), some (vi v50)], ([], G x m57))) Q
                                  refine wp_run 5 true (142, ([some (vp 31 0), some (vi p0), some (vi p1), some (vi v1), some (vi v3), some (vi t9), some (vi t14), some (vi t19), some (vi v50)], ([vi v50, vi t19, vi t14, vi t9, vp 31 0], G x m57))) rfl rfl ?_
                                  refine wp_call 169 [vp 31 0, vi t9, vi t14, vi t19, vi v50] (145, ([some (vp 31 0), some (vi p0), some (vi p1), some (vi v1), some (vi v3), some (vi t9), some (vi t14), some (vi t19), some (vi v50)], ([], G x m57))) rfl rfl (Cl.mono h (Nat.le_refl _) ?_)
                                  rintro r ⟨v58, m59, rfl, h⟩
                                  · show Wp X (d + 1) 187 (145, ([some (vp 31 0), some (vi p0), some (vi p1), some (vi v1), some (vi v3), some (vi t9), some (vi t14), some (vi t19), some (vi v50)], ([vi v58], G x m59))) Q
                                    exact wp_ret rfl h
                              · have h := h.2 c55
                                refine wp_run 2 true (130, ([some (vp 31 0), some (vi p0), some (vi p1), some (vi v1), some (vi v3), some (vi t9), some (vi t14), some (vi t19), some (vi v50)], ([vi v3, vp 31 0], G x m54))) rfl rfl ?_
                                refine wp_call 159 [vp 31 0, vi v3] (133, ([some (vp 31 0), some (vi p0), some (vi p1), some (vi v1), some (vi v3), some (vi t9), some (vi t14), some (vi t19), some (vi v50)], ([], G x m54))) rfl rfl (Cl.mono h (Nat.le_refl _) ?_)
                                rintro r ⟨m61, rfl, h⟩
                                · show Wp X (d + 1) 187 (133, ([some (vp 31 0), some (vi p0), some (vi p1), some (vi v1), some (vi v3), some (vi t9), some (vi t14), some (vi t19), some (vi v50)], ([], G x m61))) Q
                                  refine wp_run 5 true (142, ([some (vp 31 0), some (vi p0), some (vi p1), some (vi v1), some (vi v3), some (vi t9), some (vi t14), some (vi t19), some (vi v50)], ([vi v50, vi t19, vi t14, vi t9, vp 31 0], G x m61))) rfl rfl ?_
                                  refine wp_call 169 [vp 31 0, vi t9, vi t14, vi t19, vi v50] (145, ([some (vp 31 0), some (vi p0), some (vi p1), some (vi v1), some (vi v3), some (vi t9), some (vi t14), some (vi t19), some (vi v50)], ([], G x m61))) rfl rfl (Cl.mono h (Nat.le_refl _) ?_)
                                  rintro r ⟨v62, m63, rfl, h⟩
                                  · show Wp X (d + 1) 187 (145, ([some (vp 31 0), some (vi p0), some (vi p1), some (vi v1), some (vi v3), some (vi t9), some (vi t14), some (vi t19), some (vi v50)], ([vi v62], G x m63))) Q
                                    exact wp_ret rfl h
                          · have h := h.2 c52
                            refine wp_run 2 true (114, ([some (vp 31 0), some (vi p0), some (vi p1), some (vi v1), some (vi v3), some (vi t9), some (vi t14), some (vi t19), some (vi v50)], ([vi v1, vp 31 0], G x m51))) rfl rfl ?_
                            refine wp_call 159 [vp 31 0, vi v1] (117, ([some (vp 31 0), some (vi p0), some (vi p1), some (vi v1), some (vi v3), some (vi t9), some (vi t14), some (vi t19), some (vi v50)], ([], G x m51))) rfl rfl (Cl.mono h (Nat.le_refl _) ?_)
                            rintro r ⟨m65, rfl, h⟩
                            · show Wp X (d + 1) 187 (117, ([some (vp 31 0), some (vi p0), some (vi p1), some (vi v1), some (vi v3), some (vi t9), some (vi t14), some (vi t19), some (vi v50)], ([], G x m65))) Q
                              refine wp_run 4 true ((bif decide (v1 ≤ v3) then 129 else 124), ([some (vp 31 0), some (vi p0), some (vi p1), some (vi v1), some (vi v3), some (vi t9), some (vi t14), some (vi t19), some (vi v50)], ([vp 31 0], G x m65))) rfl rfl ?_
                              refine wp_if (v1 ≤ v3) (fun c66 => ?_) (fun c66 => ?_)
                              · have h := h.1 c66
                                refine wp_run 1 true (130, ([some (vp 31 0), some (vi p0), some (vi p1), some (vi v1), some (vi v3), some (vi t9), some (vi t14), some (vi t19), some (vi v50)], ([vi v1, vp 31 0], G x m65))) rfl rfl ?_
                                refine wp_call 159 [vp 31 0, vi v1] (133, ([some (vp 31 0), some (vi p0), some (vi p1), some (vi v1), some (vi v3), some (vi t9), some (vi t14), some (vi t19), some (vi v50)], ([], G x m65))) rfl rfl (Cl.mono h (Nat.le_refl _) ?_)
                                rintro r ⟨m68, rfl, h⟩
                                · show Wp X (d + 1) 187 (133, ([some (vp 31 0), some (vi p0), some (vi p1), some (vi v1), some (vi v3), some (vi t9), some (vi t14), some (vi t19), some (vi v50)], ([], G x m68))) Q
                                  refine wp_run 5 true (142, ([some (vp 31 0), some (vi p0), some (vi p1), some (vi v1), some (vi v3), some (vi t9), some (vi t14), some (vi t19), some (vi v50)], ([vi v50, vi t19, vi t14, vi t9, vp 31 0], G x m68))) rfl rfl ?_
                                  refine wp_call 169 [vp 31 0, vi t9, vi t14, vi t19, vi v50] (145, ([some (vp 31 0), some (vi p0), some (vi p1), some (vi v1), some (vi v3), some (vi t9), some (vi t14), some (vi t19), some (vi v50)], ([], G x m68))) rfl rfl (Cl.mono h (Nat.le_refl _) ?_)
                                  rintro r ⟨v69, m70, rfl, h⟩
                                  · show Wp X (d + 1) 187 (145, ([some (vp 31 0), some (vi p0), some (vi p1), some (vi v1), some (vi v3), some (vi t9), some (vi t14), some (vi t19), some (vi v50)], ([vi v69], G x m70))) Q
                                    exact wp_ret rfl h
                              · have h := h.2 c66
                                refine wp_run 2 true (130, ([some (vp 31 0), some (vi p0), some (vi p1), some (vi v1), some (vi v3), some (vi t9), some (vi t14), some (vi t19), some (vi v50)], ([vi v3, vp 31 0], G x m65))) rfl rfl ?_
                                refine wp_call 159 [vp 31 0, vi v3] (133, ([some (vp 31 0), some (vi p0), some (vi p1), some (vi v1), some (vi v3), some (vi t9), some (vi t14), some (vi t19), some (vi v50)], ([], G x m65))) rfl rfl (Cl.mono h (Nat.le_refl _) ?_)
                                rintro r ⟨m72, rfl, h⟩
                                · show Wp X (d + 1) 187 (133, ([some (vp 31 0), some (vi p0), some (vi p1), some (vi v1), some (vi v3), some (vi t9), some (vi t14), some (vi t19), some (vi v50)], ([], G x m72))) Q
                                  refine wp_run 5 true (142, ([some (vp 31 0), some (vi p0), some (vi p1), some (vi v1), some (vi v3), some (vi t9), some (vi t14), some (vi t19), some (vi v50)], ([vi v50, vi t19, vi t14, vi t9, vp 31 0], G x m72))) rfl rfl ?_
                                  refine wp_call 169 [vp 31 0, vi t9, vi t14, vi t19, vi v50] (145, ([some (vp 31 0), some (vi p0), some (vi p1), some (vi v1), some (vi v3), some (vi t9), some (vi t14), some (vi t19), some (vi v50)], ([], G x m72))) rfl rfl (Cl.mono h (Nat.le_refl _) ?_)
                                  rintro r ⟨v73, m74, rfl, h⟩
                                  · show Wp X (d + 1) 187 (145, ([some (vp 31 0), some (vi p0), some (vi p1), some (vi v1), some (vi v3), some (vi t9), some (vi t14), some (vi t19), some (vi v50)], ([vi v73], G x m74))) Q
                                    exact wp_ret rfl h
set_option maxRecDepth 100000 in
set_option maxHeartbeats 4000000 in
theorem vc_X11_mix {X : MX} {d : Nat} {x : Int64 × UInt64} {m : MI} {Q : MRes → Prop} {p0 : Int32} {p1 : Int32} (h : Cl X d 150 [vp 31 0] (G x m) (fun r => ∃ (m2 : MI), r = (.inl none, G x m2) ∧ Cl X d 186 [vp 31 0, vi p0, vi p1] (G x m2) (fun r => ∃ (v3 : Int32) (m4 : MI), r = (.inl (some (vi v3)), G x m4) ∧ ((v3 ≤ 0 → Cl X d 187 [vp 31 0, vi p0, vi p1] (G x m4) (fun r => ∃ (v6 : Int32) (m7 : MI), r = (.inl (some (vi v6)), G x m7) ∧ Cl X d 151 [vp 31 0, vi v6] (G x m7) (fun r => ∃ (v8 : Int32) (m9 : MI), r = (.inl (some (vi v8)), G x m9) ∧ Q (.inl (some (vi v8)), G x m9)))) ∧ (¬ (v3 ≤ 0) → Cl X d 149 [vp 31 0, vi v3] (G x m4) (fun r => ∃ (v10 : Int32) (m11 : MI), r = (.inl (some (vi v10)), G x m11) ∧ Q (.inl (some (vi v10)), G x m11))))))) : Cl X (d + 1) 188 [vp 31 0, vi p0, vi p1] (G x m) Q := by
  show Wp X (d + 1) 188 (0, ([some (vp 31 0), some (vi p0), some (vi p1), none], ([], G x m))) Q
  refine wp_run 1 true (1, ([some (vp 31 0), some (vi p0), some (vi p1), none], ([vp 31 0], G x m))) rfl rfl ?_
  refine wp_call 150 [vp 31 0] (4, ([some (vp 31 0), some (vi p0), some (vi p1), none], ([], G x m))) rfl rfl (Cl.mono h (Nat.le_refl _) ?_)
  rintro r ⟨m2, rfl, h⟩
  · show Wp X (d + 1) 188 (4, ([some (vp 31 0), some (vi p0), some (vi p1), none], ([], G x m2))) Q
    refine wp_run 3 true (7, ([some (vp 31 0), some (vi p0), some (vi p1), none], ([vi p1, vi p0, vp 31 0], G x m2))) rfl rfl ?_
    refine wp_call 186 [vp 31 0, vi p0, vi p1] (10, ([some (vp 31 0), some (vi p0), some (vi p1), none], ([], G x m2))) rfl rfl (Cl.mono h (Nat.le_refl _) ?_)
    rintro r ⟨v3, m4, rfl, h⟩
    · show Wp X (d + 1) 188 (10, ([some (vp 31 0), some (vi p0), some (vi p1), none], ([vi v3], G x m4))) Q
      refine wp_run 3 true ((bif decide (v3 ≤ 0) then 23 else 15), ([some (vp 31 0), some (vi p0), some (vi p1), some (vi v3)], ([], G x m4))) rfl rfl ?_
      refine wp_if (v3 ≤ 0) (fun c5 => ?_) (fun c5 => ?_)
      · have h := h.1 c5
        refine wp_run 4 true (27, ([some (vp 31 0), some (vi p0), some (vi p1), some (vi v3)], ([vi p1, vi p0, vp 31 0, vp 31 0], G x m4))) rfl rfl ?_
        refine wp_call 187 [vp 31 0, vi p0, vi p1] (30, ([some (vp 31 0), some (vi p0), some (vi p1), some (vi v3)], ([vp 31 0], G x m4))) rfl rfl (Cl.mono h (Nat.le_refl _) ?_)
        rintro r ⟨v6, m7, rfl, h⟩
        · show Wp X (d + 1) 188 (30, ([some (vp 31 0), some (vi p0), some (vi p1), some (vi v3)], ([vi v6, vp 31 0], G x m7))) Q
          refine wp_call 151 [vp 31 0, vi v6] (33, ([some (vp 31 0), some (vi p0), some (vi p1), some (vi v3)], ([], G x m7))) rfl rfl (Cl.mono h (Nat.le_refl _) ?_)
          rintro r ⟨v8, m9, rfl, h⟩
          · show Wp X (d + 1) 188 (33, ([some (vp 31 0), some (vi p0), some (vi p1), some (vi v3)], ([vi v8], G x m9))) Q
            exact wp_ret rfl h
      · have h := h.2 c5
        refine wp_run 2 true (17, ([some (vp 31 0), some (vi p0), some (vi p1), some (vi v3)], ([vi v3, vp 31 0], G x m4))) rfl rfl ?_
        refine wp_call 149 [vp 31 0, vi v3] (20, ([some (vp 31 0), some (vi p0), some (vi p1), some (vi v3)], ([], G x m4))) rfl rfl (Cl.mono h (Nat.le_refl _) ?_)
        rintro r ⟨v10, m11, rfl, h⟩
        · show Wp X (d + 1) 188 (20, ([some (vp 31 0), some (vi p0), some (vi p1), some (vi v3)], ([vi v10], G x m11))) Q
          refine wp_run 1 true (33, ([some (vp 31 0), some (vi p0), some (vi p1), some (vi v3)], ([vi v10], G x m11))) rfl rfl ?_
          exact wp_ret rfl h
set_option maxRecDepth 100000 in
set_option maxHeartbeats 4000000 in
theorem vc_X11_faded {X : MX} {d : Nat} {x : Int64 × UInt64} {m : MI} {Q : MRes → Prop} {p0 : Int32} (h : ((p0 ≤ 50 → ((50 ≤ p0 → Q (.inl (some (vi p0)), G x m)) ∧ (¬ (50 ≤ p0) → Q (.inl (some (vi (p0 + 1))), G x m)))) ∧ (¬ (p0 ≤ 50) → Q (.inl (some (vi (p0 - 1))), G x m)))) : Cl X d 189 [vi p0] (G x m) Q := by
  show Wp X d 189 (0, ([some (vi p0)], ([], G x m))) Q
  refine wp_run 3 true ((bif decide (p0 ≤ 50) then 12 else 6), ([some (vi p0)], ([], G x m))) rfl rfl ?_
  refine wp_if (p0 ≤ 50) (fun c1 => ?_) (fun c1 => ?_)
  · have h := h.1 c1
    refine wp_run 3 true ((bif decide (50 ≤ p0) then 24 else 18), ([some (vi p0)], ([], G x m))) rfl rfl ?_
    refine wp_if (50 ≤ p0) (fun c2 => ?_) (fun c2 => ?_)
    · have h := h.1 c2
      refine wp_run 1 true (25, ([some (vi p0)], ([vi p0], G x m))) rfl rfl ?_
      exact wp_ret rfl h
    · have h := h.2 c2
      refine wp_run 4 true (25, ([some (vi p0)], ([vi (p0 + 1)], G x m))) rfl rfl ?_
      exact wp_ret rfl h
  · have h := h.2 c1
    refine wp_run 4 true (25, ([some (vi p0)], ([vi (p0 - 1)], G x m))) rfl rfl ?_
    exact wp_ret rfl h
set_option maxRecDepth 100000 in
set_option maxHeartbeats 4000000 in
theorem vc_X11_ageAt {X : MX} {d : Nat} {x : Int64 × UInt64} {m : MI} {Q : MRes → Prop} {p0 : Int32} (h : Cl X d 154 [vp 31 0, vi p0, vi 5] (G x m) (fun r => ∃ (v1 : Int32) (m2 : MI), r = (.inl (some (vi v1)), G x m2) ∧ Q (.inl (some (vi ((m 32 0 4) - v1))), G x m2))) : Cl X (d + 1) 190 [vp 31 0, vi p0] (G x m) Q := by
  show Wp X (d + 1) 190 (0, ([some (vp 31 0), some (vi p0)], ([], G x m))) Q
  refine wp_run 7 true (9, ([some (vp 31 0), some (vi p0)], ([vi 5, vi p0, vp 31 0, vi (m 32 0 4)], G x m))) rfl rfl ?_
  refine wp_call 154 [vp 31 0, vi p0, vi 5] (12, ([some (vp 31 0), some (vi p0)], ([vi (m 32 0 4)], G x m))) rfl rfl (Cl.mono h (Nat.le_refl _) ?_)
  rintro r ⟨v1, m2, rfl, h⟩
  · show Wp X (d + 1) 190 (12, ([some (vp 31 0), some (vi p0)], ([vi v1, vi (m 32 0 4)], G x m2))) Q
    refine wp_run 1 true (13, ([some (vp 31 0), some (vi p0)], ([vi ((m 32 0 4) - v1)], G x m2))) rfl rfl ?_
    exact wp_ret rfl h
set_option maxRecDepth 100000 in
set_option maxHeartbeats 4000000 in
theorem vc_X11_passes {X : MX} {d : Nat} {x : Int64 × UInt64} {m : MI} {Q : MRes → Prop} {p0 : Int32} (h : Wp X (d + 1) 191 (2, ([some (vp 31 0), some (vi p0), some (vi 0), none, none], ([], G x m))) Q) : Cl X (d + 1) 191 [vp 31 0, vi p0] (G x m) Q := by
  show Wp X (d + 1) 191 (0, ([some (vp 31 0), some (vi p0), none, none, none], ([], G x m))) Q
  refine wp_run 2 true (2, ([some (vp 31 0), some (vi p0), some (vi 0), none, none], ([], G x m))) rfl rfl ?_
  exact h
set_option maxRecDepth 100000 in
set_option maxHeartbeats 4000000 in
theorem vl_X11_passes_2 {X : MX} {d : Nat} {x : Int64 × UInt64} {m : MI} {Q : MRes → Prop} {l1 : Int32} {l2 : Int32} {o3 : Option MV} {o4 : Option MV} (h : ((l1 ≤ l2 → Cl X d 193 [vp 31 0] (G x m) (fun r => ∃ (v2 : Int32) (m3 : MI), r = (.inl (some (vi v2)), G x m3) ∧ Q (.inl (some (vi v2)), G x m3))) ∧ (¬ (l1 ≤ l2) → (∀ m4 : MI, m4 = mup m 32 0 4 ((m 32 0 4) + 1) → Wp X (d + 1) 191 (19, ([some (vp 31 0), some (vi l1), some (vi l2), some (vi 0), o4], ([], G x m4))) Q)))) : Wp X (d + 1) 191 (2, ([some (vp 31 0), some (vi l1), some (vi l2), o3, o4], ([], G x m))) Q := by
  refine wp_run 3 true ((bif decide (l1 ≤ l2) then 96 else 7), ([some (vp 31 0), some (vi l1), some (vi l2), o3, o4], ([], G x m))) rfl rfl ?_
  refine wp_if (l1 ≤ l2) (fun c1 => ?_) (fun c1 => ?_)
  · have h := h.1 c1
    refine wp_run 1 true (97, ([some (vp 31 0), some (vi l1), some (vi l2), o3, o4], ([vp 31 0], G x m))) rfl rfl ?_
    refine wp_call 193 [vp 31 0] (100, ([some (vp 31 0), some (vi l1), some (vi l2), o3, o4], ([], G x m))) rfl rfl (Cl.mono h (Nat.le_refl _) ?_)
    rintro r ⟨v2, m3, rfl, h⟩
    · show Wp X (d + 1) 191 (100, ([some (vp 31 0), some (vi l1), some (vi l2), o3, o4], ([vi v2], G x m3))) Q
      exact wp_ret rfl h
  · have h := h.2 c1
    refine wp_run 8 true (17, ([some (vp 31 0), some (vi l1), some (vi l2), o3, o4], ([], G x (mup m 32 0 4 ((m 32 0 4) + 1))))) rfl rfl ?_
    refine wpg (fun m4 => Wp X (d + 1) 191 (17, ([some (vp 31 0), some (vi l1), some (vi l2), o3, o4], ([], G x m4))) Q) (mup m 32 0 4 ((m 32 0 4) + 1)) (fun m4 hm4 => ?_)
    have h := h m4 hm4
    refine wp_run 2 true (19, ([some (vp 31 0), some (vi l1), some (vi l2), some (vi 0), o4], ([], G x m4))) rfl rfl ?_
    exact h
set_option maxRecDepth 100000 in
set_option maxHeartbeats 4000000 in
theorem vl_X11_passes_19 {X : MX} {d : Nat} {x : Int64 × UInt64} {m : MI} {Q : MRes → Prop} {l1 : Int32} {l2 : Int32} {l3 : Int32} {o4 : Option MV} (h : (((m 32 0 0) ≤ l3 → (∀ t2 : Int32, t2 = l2 + 1 → Wp X (d + 1) 191 (2, ([some (vp 31 0), some (vi l1), some (vi t2), some (vi l3), o4], ([], G x m))) Q)) ∧ (¬ ((m 32 0 0) ≤ l3) → Cl X d 190 [vp 31 0, vi l3] (G x m) (fun r => ∃ (v3 : Int32) (m4 : MI), r = (.inl (some (vi v3)), G x m4) ∧ Cl X d 154 [vp 31 0, vi l3, vi 4] (G x m4) (fun r => ∃ (v5 : Int32) (m6 : MI), r = (.inl (some (vi v5)), G x m6) ∧ (decide (¬ v5 = 0) = true ∧ (((v3 - v3 / v5 * v5) ≤ 0 → Wp X (d + 1) 191 (50, ([some (vp 31 0), some (vi l1), some (vi l2), some (vi l3), some (vi 1)], ([], G x m6))) Q) ∧ (¬ ((v3 - v3 / v5 * v5) ≤ 0) → (∀ t8 : Int32, t8 = l3 + 1 → Wp X (d + 1) 191 (19, ([some (vp 31 0), some (vi l1), some (vi l2), some (vi t8), o4], ([], G x m6))) Q))))))))) : Wp X (d + 1) 191 (19, ([some (vp 31 0), some (vi l1), some (vi l2), some (vi l3), o4], ([], G x m))) Q := by
  refine wp_run 6 true ((bif decide ((m 32 0 0) ≤ l3) then 90 else 29), ([some (vp 31 0), some (vi l1), some (vi l2), some (vi l3), o4], ([], G x m))) rfl rfl ?_
  refine wp_if ((m 32 0 0) ≤ l3) (fun c1 => ?_) (fun c1 => ?_)
  · have h := h.1 c1
    refine wp_run 1 true (93, ([some (vp 31 0), some (vi l1), some (vi (l2 + 1)), some (vi l3), o4], ([], G x m))) rfl rfl ?_
    refine wpg (fun t2 => Wp X (d + 1) 191 (93, ([some (vp 31 0), some (vi l1), some (vi t2), some (vi l3), o4], ([], G x m))) Q) (l2 + 1) (fun t2 ht2 => ?_)
    have h := h t2 ht2
    refine wp_run 1 true (2, ([some (vp 31 0), some (vi l1), some (vi t2), some (vi l3), o4], ([], G x m))) rfl rfl ?_
    exact h
  · have h := h.2 c1
    refine wp_run 2 true (31, ([some (vp 31 0), some (vi l1), some (vi l2), some (vi l3), o4], ([vi l3, vp 31 0], G x m))) rfl rfl ?_
    refine wp_call 190 [vp 31 0, vi l3] (34, ([some (vp 31 0), some (vi l1), some (vi l2), some (vi l3), o4], ([], G x m))) rfl rfl (Cl.mono h (Nat.le_refl _) ?_)
    rintro r ⟨v3, m4, rfl, h⟩
    · show Wp X (d + 1) 191 (34, ([some (vp 31 0), some (vi l1), some (vi l2), some (vi l3), o4], ([vi v3], G x m4))) Q
      refine wp_run 3 true (37, ([some (vp 31 0), some (vi l1), some (vi l2), some (vi l3), o4], ([vi 4, vi l3, vp 31 0, vi v3], G x m4))) rfl rfl ?_
      refine wp_call 154 [vp 31 0, vi l3, vi 4] (40, ([some (vp 31 0), some (vi l1), some (vi l2), some (vi l3), o4], ([vi v3], G x m4))) rfl rfl (Cl.mono h (Nat.le_refl _) ?_)
      rintro r ⟨v5, m6, rfl, h⟩
      · show Wp X (d + 1) 191 (40, ([some (vp 31 0), some (vi l1), some (vi l2), some (vi l3), o4], ([vi v5, vi v3], G x m6))) Q
        obtain ⟨hg4_0, h⟩ := h
        refine wp_run 2 (decide (¬ v5 = 0) && true) ((bif decide ((v3 - v3 / v5 * v5) ≤ 0) then 47 else 44), ([some (vp 31 0), some (vi l1), some (vi l2), some (vi l3), o4], ([], G x m6))) rfl (and_t hg4_0 rfl) ?_
        refine wp_if ((v3 - v3 / v5 * v5) ≤ 0) (fun c7 => ?_) (fun c7 => ?_)
        · have h := h.1 c7
          refine wp_run 2 true (50, ([some (vp 31 0), some (vi l1), some (vi l2), some (vi l3), some (vi 1)], ([], G x m6))) rfl rfl ?_
          exact h
        · have h := h.2 c7
          refine wp_run 2 true (87, ([some (vp 31 0), some (vi l1), some (vi l2), some (vi (l3 + 1)), o4], ([], G x m6))) rfl rfl ?_
          refine wpg (fun t8 => Wp X (d + 1) 191 (87, ([some (vp 31 0), some (vi l1), some (vi l2), some (vi t8), o4], ([], G x m6))) Q) (l3 + 1) (fun t8 ht8 => ?_)
          have h := h t8 ht8
          refine wp_run 1 true (19, ([some (vp 31 0), some (vi l1), some (vi l2), some (vi t8), o4], ([], G x m6))) rfl rfl ?_
          exact h
set_option maxRecDepth 100000 in
set_option maxHeartbeats 4000000 in
theorem vl_X11_passes_50 {X : MX} {d : Nat} {x : Int64 × UInt64} {m : MI} {Q : MRes → Prop} {l1 : Int32} {l2 : Int32} {l3 : Int32} {l4 : Int32} (h : ((3 < l4 → (∀ t2 : Int32, t2 = l3 + 1 → Wp X (d + 1) 191 (19, ([some (vp 31 0), some (vi l1), some (vi l2), some (vi t2), some (vi l4)], ([], G x m))) Q)) ∧ (¬ (3 < l4) → Cl X d 152 [vi l3] (G x m) (fun r => ∃ (v3 : Int32) (m4 : MI), r = (.inl (some (vi v3)), G x m4) ∧ Cl X d 154 [vp 31 0, vi l3, vi l4] (G x m4) (fun r => ∃ (v5 : Int32) (m6 : MI), r = (.inl (some (vi v5)), G x m6) ∧ Cl X d 189 [vi v5] (G x m6) (fun r => ∃ (v7 : Int32) (m8 : MI), r = (.inl (some (vi v7)), G x m8) ∧ (inb (v3 + l4) 136 = true ∧ (∀ m9 : MI, m9 = mup m8 32 0 ((v3 + l4).toNatClampNeg) v7 → (∀ t10 : Int32, t10 = l4 + 1 → Wp X (d + 1) 191 (50, ([some (vp 31 0), some (vi l1), some (vi l2), some (vi l3), some (vi t10)], ([], G x m9))) Q))))))))) : Wp X (d + 1) 191 (50, ([some (vp 31 0), some (vi l1), some (vi l2), some (vi l3), some (vi l4)], ([], G x m))) Q := by
  refine wp_run 3 true ((bif decide (3 < l4) then 84 else 56), ([some (vp 31 0), some (vi l1), some (vi l2), some (vi l3), some (vi l4)], ([], G x m))) rfl rfl ?_
  refine wp_if (3 < l4) (fun c1 => ?_) (fun c1 => ?_)
  · have h := h.1 c1
    refine wp_run 1 true (87, ([some (vp 31 0), some (vi l1), some (vi l2), some (vi (l3 + 1)), some (vi l4)], ([], G x m))) rfl rfl ?_
    refine wpg (fun t2 => Wp X (d + 1) 191 (87, ([some (vp 31 0), some (vi l1), some (vi l2), some (vi t2), some (vi l4)], ([], G x m))) Q) (l3 + 1) (fun t2 ht2 => ?_)
    have h := h t2 ht2
    refine wp_run 1 true (19, ([some (vp 31 0), some (vi l1), some (vi l2), some (vi t2), some (vi l4)], ([], G x m))) rfl rfl ?_
    exact h
  · have h := h.2 c1
    refine wp_run 3 true (61, ([some (vp 31 0), some (vi l1), some (vi l2), some (vi l3), some (vi l4)], ([vi l3, vp 32 0], G x m))) rfl rfl ?_
    refine wp_call 152 [vi l3] (64, ([some (vp 31 0), some (vi l1), some (vi l2), some (vi l3), some (vi l4)], ([vp 32 0], G x m))) rfl rfl (Cl.mono h (Nat.le_refl _) ?_)
    rintro r ⟨v3, m4, rfl, h⟩
    · show Wp X (d + 1) 191 (64, ([some (vp 31 0), some (vi l1), some (vi l2), some (vi l3), some (vi l4)], ([vi v3, vp 32 0], G x m4))) Q
      refine wp_run 5 true (71, ([some (vp 31 0), some (vi l1), some (vi l2), some (vi l3), some (vi l4)], ([vi l4, vi l3, vp 31 0, vi (v3 + l4), vp 32 0], G x m4))) rfl rfl ?_
      refine wp_call 154 [vp 31 0, vi l3, vi l4] (74, ([some (vp 31 0), some (vi l1), some (vi l2), some (vi l3), some (vi l4)], ([vi (v3 + l4), vp 32 0], G x m4))) rfl rfl (Cl.mono h (Nat.le_refl _) ?_)
      rintro r ⟨v5, m6, rfl, h⟩
      · show Wp X (d + 1) 191 (74, ([some (vp 31 0), some (vi l1), some (vi l2), some (vi l3), some (vi l4)], ([vi v5, vi (v3 + l4), vp 32 0], G x m6))) Q
        refine wp_call 189 [vi v5] (77, ([some (vp 31 0), some (vi l1), some (vi l2), some (vi l3), some (vi l4)], ([vi (v3 + l4), vp 32 0], G x m6))) rfl rfl (Cl.mono h (Nat.le_refl _) ?_)
        rintro r ⟨v7, m8, rfl, h⟩
        · show Wp X (d + 1) 191 (77, ([some (vp 31 0), some (vi l1), some (vi l2), some (vi l3), some (vi l4)], ([vi v7, vi (v3 + l4), vp 32 0], G x m8))) Q
          obtain ⟨hg5_0, h⟩ := h
          refine wp_run 1 (inb (v3 + l4) 136 && true) (78, ([some (vp 31 0), some (vi l1), some (vi l2), some (vi l3), some (vi l4)], ([], G x (mup m8 32 0 ((v3 + l4).toNatClampNeg) v7)))) rfl (and_t hg5_0 rfl) ?_
          refine wpg (fun m9 => Wp X (d + 1) 191 (78, ([some (vp 31 0), some (vi l1), some (vi l2), some (vi l3), some (vi l4)], ([], G x m9))) Q) (mup m8 32 0 ((v3 + l4).toNatClampNeg) v7) (fun m9 hm9 => ?_)
          have h := h m9 hm9
          refine wp_run 1 true (81, ([some (vp 31 0), some (vi l1), some (vi l2), some (vi l3), some (vi (l4 + 1))], ([], G x m9))) rfl rfl ?_
          refine wpg (fun t10 => Wp X (d + 1) 191 (81, ([some (vp 31 0), some (vi l1), some (vi l2), some (vi l3), some (vi t10)], ([], G x m9))) Q) (l4 + 1) (fun t10 ht10 => ?_)
          have h := h t10 ht10
          refine wp_run 1 true (50, ([some (vp 31 0), some (vi l1), some (vi l2), some (vi l3), some (vi t10)], ([], G x m9))) rfl rfl ?_
          exact h
set_option maxRecDepth 100000 in
set_option maxHeartbeats 4000000 in
theorem vc_X11_fadesLeft {X : MX} {d : Nat} {x : Int64 × UInt64} {m : MI} {Q : MRes → Prop} {p0 : Int32} (h : Wp X (d + 1) 192 (4, ([some (vp 31 0), some (vi p0), some (vi 0), some (vi 1)], ([], G x m))) Q) : Cl X (d + 1) 192 [vp 31 0, vi p0] (G x m) Q := by
  show Wp X (d + 1) 192 (0, ([some (vp 31 0), some (vi p0), none, none], ([], G x m))) Q
  refine wp_run 4 true (4, ([some (vp 31 0), some (vi p0), some (vi 0), some (vi 1)], ([], G x m))) rfl rfl ?_
  exact h
set_option maxRecDepth 100000 in
set_option maxHeartbeats 4000000 in
theorem vl_X11_fadesLeft_4 {X : MX} {d : Nat} {x : Int64 × UInt64} {m : MI} {Q : MRes → Prop} {l1 : Int32} {l2 : Int32} {l3 : Int32} (h : ((3 < l3 → Q (.inl (some (vi l2)), G x m)) ∧ (¬ (3 < l3) → Cl X d 154 [vp 31 0, vi l1, vi l3] (G x m) (fun r => ∃ (v2 : Int32) (m3 : MI), r = (.inl (some (vi v2)), G x m3) ∧ Cl X d 161 [vi (v2 - 50)] (G x m3) (fun r => ∃ (v4 : Int32) (m5 : MI), r = (.inl (some (vi v4)), G x m5) ∧ ((v4 ≤ l2 → (∀ t7 : Int32, t7 = l3 + 1 → Wp X (d + 1) 192 (4, ([some (vp 31 0), some (vi l1), some (vi l2), some (vi t7)], ([], G x m5))) Q)) ∧ (¬ (v4 ≤ l2) → Cl X d 154 [vp 31 0, vi l1, vi l3] (G x m5) (fun r => ∃ (v8 : Int32) (m9 : MI), r = (.inl (some (vi v8)), G x m9) ∧ Cl X d 161 [vi (v8 - 50)] (G x m9) (fun r => ∃ (v10 : Int32) (m11 : MI), r = (.inl (some (vi v10)), G x m11) ∧ (∀ t12 : Int32, t12 = l3 + 1 → Wp X (d + 1) 192 (4, ([some (vp 31 0), some (vi l1), some (vi v10), some (vi t12)], ([], G x m11))) Q)))))))))) : Wp X (d + 1) 192 (4, ([some (vp 31 0), some (vi l1), some (vi l2), some (vi l3)], ([], G x m))) Q := by
  refine wp_run 3 true ((bif decide (3 < l3) then 48 else 9), ([some (vp 31 0), some (vi l1), some (vi l2), some (vi l3)], ([], G x m))) rfl rfl ?_
  refine wp_if (3 < l3) (fun c1 => ?_) (fun c1 => ?_)
  · have h := h.1 c1
    refine wp_run 1 true (49, ([some (vp 31 0), some (vi l1), some (vi l2), some (vi l3)], ([vi l2], G x m))) rfl rfl ?_
    exact wp_ret rfl h
  · have h := h.2 c1
    refine wp_run 3 true (12, ([some (vp 31 0), some (vi l1), some (vi l2), some (vi l3)], ([vi l3, vi l1, vp 31 0], G x m))) rfl rfl ?_
    refine wp_call 154 [vp 31 0, vi l1, vi l3] (15, ([some (vp 31 0), some (vi l1), some (vi l2), some (vi l3)], ([], G x m))) rfl rfl (Cl.mono h (Nat.le_refl _) ?_)
    rintro r ⟨v2, m3, rfl, h⟩
    · show Wp X (d + 1) 192 (15, ([some (vp 31 0), some (vi l1), some (vi l2), some (vi l3)], ([vi v2], G x m3))) Q
      refine wp_run 2 true (18, ([some (vp 31 0), some (vi l1), some (vi l2), some (vi l3)], ([vi (v2 - 50)], G x m3))) rfl rfl ?_
      refine wp_call 161 [vi (v2 - 50)] (21, ([some (vp 31 0), some (vi l1), some (vi l2), some (vi l3)], ([], G x m3))) rfl rfl (Cl.mono h (Nat.le_refl _) ?_)
      rintro r ⟨v4, m5, rfl, h⟩
      · show Wp X (d + 1) 192 (21, ([some (vp 31 0), some (vi l1), some (vi l2), some (vi l3)], ([vi v4], G x m5))) Q
        refine wp_run 2 true ((bif decide (v4 ≤ l2) then 40 else 25), ([some (vp 31 0), some (vi l1), some (vi l2), some (vi l3)], ([], G x m5))) rfl rfl ?_
        refine wp_if (v4 ≤ l2) (fun c6 => ?_) (fun c6 => ?_)
        · have h := h.1 c6
          refine wp_run 3 true (45, ([some (vp 31 0), some (vi l1), some (vi l2), some (vi (l3 + 1))], ([], G x m5))) rfl rfl ?_
          refine wpg (fun t7 => Wp X (d + 1) 192 (45, ([some (vp 31 0), some (vi l1), some (vi l2), some (vi t7)], ([], G x m5))) Q) (l3 + 1) (fun t7 ht7 => ?_)
          have h := h t7 ht7
          refine wp_run 1 true (4, ([some (vp 31 0), some (vi l1), some (vi l2), some (vi t7)], ([], G x m5))) rfl rfl ?_
          exact h
        · have h := h.2 c6
          refine wp_run 3 true (28, ([some (vp 31 0), some (vi l1), some (vi l2), some (vi l3)], ([vi l3, vi l1, vp 31 0], G x m5))) rfl rfl ?_
          refine wp_call 154 [vp 31 0, vi l1, vi l3] (31, ([some (vp 31 0), some (vi l1), some (vi l2), some (vi l3)], ([], G x m5))) rfl rfl (Cl.mono h (Nat.le_refl _) ?_)
          rintro r ⟨v8, m9, rfl, h⟩
          · show Wp X (d + 1) 192 (31, ([some (vp 31 0), some (vi l1), some (vi l2), some (vi l3)], ([vi v8], G x m9))) Q
            refine wp_run 2 true (34, ([some (vp 31 0), some (vi l1), some (vi l2), some (vi l3)], ([vi (v8 - 50)], G x m9))) rfl rfl ?_
            refine wp_call 161 [vi (v8 - 50)] (37, ([some (vp 31 0), some (vi l1), some (vi l2), some (vi l3)], ([], G x m9))) rfl rfl (Cl.mono h (Nat.le_refl _) ?_)
            rintro r ⟨v10, m11, rfl, h⟩
            · show Wp X (d + 1) 192 (37, ([some (vp 31 0), some (vi l1), some (vi l2), some (vi l3)], ([vi v10], G x m11))) Q
              refine wp_run 3 true (45, ([some (vp 31 0), some (vi l1), some (vi v10), some (vi (l3 + 1))], ([], G x m11))) rfl rfl ?_
              refine wpg (fun t12 => Wp X (d + 1) 192 (45, ([some (vp 31 0), some (vi l1), some (vi v10), some (vi t12)], ([], G x m11))) Q) (l3 + 1) (fun t12 ht12 => ?_)
              have h := h t12 ht12
              refine wp_run 1 true (4, ([some (vp 31 0), some (vi l1), some (vi v10), some (vi t12)], ([], G x m11))) rfl rfl ?_
              exact h
set_option maxRecDepth 100000 in
set_option maxHeartbeats 4000000 in
theorem vc_X11_greys {X : MX} {d : Nat} {x : Int64 × UInt64} {m : MI} {Q : MRes → Prop} (h : Wp X (d + 1) 193 (4, ([some (vp 31 0), some (vi 0), some (vi 0)], ([], G x m))) Q) : Cl X (d + 1) 193 [vp 31 0] (G x m) Q := by
  show Wp X (d + 1) 193 (0, ([some (vp 31 0), none, none], ([], G x m))) Q
  refine wp_run 4 true (4, ([some (vp 31 0), some (vi 0), some (vi 0)], ([], G x m))) rfl rfl ?_
  exact h
set_option maxRecDepth 100000 in
set_option maxHeartbeats 4000000 in
theorem vl_X11_greys_4 {X : MX} {d : Nat} {x : Int64 × UInt64} {m : MI} {Q : MRes → Prop} {l1 : Int32} {l2 : Int32} (h : (((m 32 0 0) ≤ l2 → Q (.inl (some (vi l1)), G x m)) ∧ (¬ ((m 32 0 0) ≤ l2) → Cl X d 192 [vp 31 0, vi l2] (G x m) (fun r => ∃ (v2 : Int32) (m3 : MI), r = (.inl (some (vi v2)), G x m3) ∧ ((¬ v2 = 0 → (∀ t5 : Int32, t5 = l1 + 0 → (∀ t6 : Int32, t6 = l2 + 1 → Wp X (d + 1) 193 (4, ([some (vp 31 0), some (vi t5), some (vi t6)], ([], G x m3))) Q))) ∧ (¬ (¬ v2 = 0) → (∀ t7 : Int32, t7 = l1 + 1 → (∀ t8 : Int32, t8 = l2 + 1 → Wp X (d + 1) 193 (4, ([some (vp 31 0), some (vi t7), some (vi t8)], ([], G x m3))) Q)))))))) : Wp X (d + 1) 193 (4, ([some (vp 31 0), some (vi l1), some (vi l2)], ([], G x m))) Q := by
  refine wp_run 6 true ((bif decide ((m 32 0 0) ≤ l2) then 36 else 14), ([some (vp 31 0), some (vi l1), some (vi l2)], ([], G x m))) rfl rfl ?_
  refine wp_if ((m 32 0 0) ≤ l2) (fun c1 => ?_) (fun c1 => ?_)
  · have h := h.1 c1
    refine wp_run 1 true (37, ([some (vp 31 0), some (vi l1), some (vi l2)], ([vi l1], G x m))) rfl rfl ?_
    exact wp_ret rfl h
  · have h := h.2 c1
    refine wp_run 3 true (17, ([some (vp 31 0), some (vi l1), some (vi l2)], ([vi l2, vp 31 0, vi l1], G x m))) rfl rfl ?_
    refine wp_call 192 [vp 31 0, vi l2] (20, ([some (vp 31 0), some (vi l1), some (vi l2)], ([vi l1], G x m))) rfl rfl (Cl.mono h (Nat.le_refl _) ?_)
    rintro r ⟨v2, m3, rfl, h⟩
    · show Wp X (d + 1) 193 (20, ([some (vp 31 0), some (vi l1), some (vi l2)], ([vi v2, vi l1], G x m3))) Q
      refine wp_run 1 true ((bif decide (¬ v2 = 0) then 27 else 23), ([some (vp 31 0), some (vi l1), some (vi l2)], ([vi l1], G x m3))) rfl rfl ?_
      refine wp_if (¬ v2 = 0) (fun c4 => ?_) (fun c4 => ?_)
      · have h := h.1 c4
        refine wp_run 3 true (30, ([some (vp 31 0), some (vi (l1 + 0)), some (vi l2)], ([], G x m3))) rfl rfl ?_
        refine wpg (fun t5 => Wp X (d + 1) 193 (30, ([some (vp 31 0), some (vi t5), some (vi l2)], ([], G x m3))) Q) (l1 + 0) (fun t5 ht5 => ?_)
        have h := h t5 ht5
        refine wp_run 1 true (33, ([some (vp 31 0), some (vi t5), some (vi (l2 + 1))], ([], G x m3))) rfl rfl ?_
        refine wpg (fun t6 => Wp X (d + 1) 193 (33, ([some (vp 31 0), some (vi t5), some (vi t6)], ([], G x m3))) Q) (l2 + 1) (fun t6 ht6 => ?_)
        have h := h t6 ht6
        refine wp_run 1 true (4, ([some (vp 31 0), some (vi t5), some (vi t6)], ([], G x m3))) rfl rfl ?_
        exact h
      · have h := h.2 c4
        refine wp_run 4 true (30, ([some (vp 31 0), some (vi (l1 + 1)), some (vi l2)], ([], G x m3))) rfl rfl ?_
        refine wpg (fun t7 => Wp X (d + 1) 193 (30, ([some (vp 31 0), some (vi t7), some (vi l2)], ([], G x m3))) Q) (l1 + 1) (fun t7 ht7 => ?_)
        have h := h t7 ht7
        refine wp_run 1 true (33, ([some (vp 31 0), some (vi t7), some (vi (l2 + 1))], ([], G x m3))) rfl rfl ?_
        refine wpg (fun t8 => Wp X (d + 1) 193 (33, ([some (vp 31 0), some (vi t7), some (vi t8)], ([], G x m3))) Q) (l2 + 1) (fun t8 ht8 => ?_)
        have h := h t8 ht8
        refine wp_run 1 true (4, ([some (vp 31 0), some (vi t7), some (vi t8)], ([], G x m3))) rfl rfl ?_
        exact h
set_option maxRecDepth 100000 in
set_option maxHeartbeats 4000000 in
theorem vc_X11_passDays {X : MX} {d : Nat} {x : Int64 × UInt64} {m : MI} {Q : MRes → Prop} {p0 : Int32} (h : Cl X d 150 [vp 31 0] (G x m) (fun r => ∃ (m2 : MI), r = (.inl none, G x m2) ∧ Cl X d 147 [vi p0, vi 1, vi 99] (G x m2) (fun r => ∃ (v3 : Int32) (m4 : MI), r = (.inl (some (vi v3)), G x m4) ∧ ((v3 = 0 → Cl X d 149 [vp 31 0, vi 1] (G x m4) (fun r => ∃ (v6 : Int32) (m7 : MI), r = (.inl (some (vi v6)), G x m7) ∧ Q (.inl (some (vi v6)), G x m7))) ∧ (¬ (v3 = 0) → Cl X d 191 [vp 31 0, vi p0] (G x m4) (fun r => ∃ (v8 : Int32) (m9 : MI), r = (.inl (some (vi v8)), G x m9) ∧ Cl X d 151 [vp 31 0, vi v8] (G x m9) (fun r => ∃ (v10 : Int32) (m11 : MI), r = (.inl (some (vi v10)), G x m11) ∧ Q (.inl (some (vi v10)), G x m11)))))))) : Cl X (d + 1) 194 [vp 31 0, vi p0] (G x m) Q := by
  show Wp X (d + 1) 194 (0, ([some (vp 31 0), some (vi p0)], ([], G x m))) Q
  refine wp_run 1 true (1, ([some (vp 31 0), some (vi p0)], ([vp 31 0], G x m))) rfl rfl ?_
  refine wp_call 150 [vp 31 0] (4, ([some (vp 31 0), some (vi p0)], ([], G x m))) rfl rfl (Cl.mono h (Nat.le_refl _) ?_)
  rintro r ⟨m2, rfl, h⟩
  · show Wp X (d + 1) 194 (4, ([some (vp 31 0), some (vi p0)], ([], G x m2))) Q
    refine wp_run 3 true (8, ([some (vp 31 0), some (vi p0)], ([vi 99, vi 1, vi p0], G x m2))) rfl rfl ?_
    refine wp_call 147 [vi p0, vi 1, vi 99] (11, ([some (vp 31 0), some (vi p0)], ([], G x m2))) rfl rfl (Cl.mono h (Nat.le_refl _) ?_)
    rintro r ⟨v3, m4, rfl, h⟩
    · show Wp X (d + 1) 194 (11, ([some (vp 31 0), some (vi p0)], ([vi v3], G x m4))) Q
      refine wp_run 1 true ((bif decide (v3 = 0) then 26 else 14), ([some (vp 31 0), some (vi p0)], ([], G x m4))) rfl rfl ?_
      refine wp_if (v3 = 0) (fun c5 => ?_) (fun c5 => ?_)
      · have h := h.1 c5
        refine wp_run 2 true (28, ([some (vp 31 0), some (vi p0)], ([vi 1, vp 31 0], G x m4))) rfl rfl ?_
        refine wp_call 149 [vp 31 0, vi 1] (31, ([some (vp 31 0), some (vi p0)], ([], G x m4))) rfl rfl (Cl.mono h (Nat.le_refl _) ?_)
        rintro r ⟨v6, m7, rfl, h⟩
        · show Wp X (d + 1) 194 (31, ([some (vp 31 0), some (vi p0)], ([vi v6], G x m7))) Q
          exact wp_ret rfl h
      · have h := h.2 c5
        refine wp_run 3 true (17, ([some (vp 31 0), some (vi p0)], ([vi p0, vp 31 0, vp 31 0], G x m4))) rfl rfl ?_
        refine wp_call 191 [vp 31 0, vi p0] (20, ([some (vp 31 0), some (vi p0)], ([vp 31 0], G x m4))) rfl rfl (Cl.mono h (Nat.le_refl _) ?_)
        rintro r ⟨v8, m9, rfl, h⟩
        · show Wp X (d + 1) 194 (20, ([some (vp 31 0), some (vi p0)], ([vi v8, vp 31 0], G x m9))) Q
          refine wp_call 151 [vp 31 0, vi v8] (23, ([some (vp 31 0), some (vi p0)], ([], G x m9))) rfl rfl (Cl.mono h (Nat.le_refl _) ?_)
          rintro r ⟨v10, m11, rfl, h⟩
          · show Wp X (d + 1) 194 (23, ([some (vp 31 0), some (vi p0)], ([vi v10], G x m11))) Q
            refine wp_run 1 true (31, ([some (vp 31 0), some (vi p0)], ([vi v10], G x m11))) rfl rfl ?_
            exact wp_ret rfl h
set_option maxRecDepth 100000 in
set_option maxHeartbeats 4000000 in
theorem vc_X11_plain {X : MX} {d : Nat} {x : Int64 × UInt64} {m : MI} {Q : MRes → Prop} {p0 : Int32} (h : (∀ m1 : MI, m1 = mup m 31 0 5 0 → Q (.inl (some (vi p0)), G x m1))) : Cl X d 195 [vp 31 0, vi p0] (G x m) Q := by
  show Wp X d 195 (0, ([some (vp 31 0), some (vi p0)], ([], G x m))) Q
  refine wp_run 3 true (5, ([some (vp 31 0), some (vi p0)], ([], G x (mup m 31 0 5 0)))) rfl rfl ?_
  refine wpg (fun m1 => Wp X d 195 (5, ([some (vp 31 0), some (vi p0)], ([], G x m1))) Q) (mup m 31 0 5 0) (fun m1 hm1 => ?_)
  have h := h m1 hm1
  refine wp_run 1 true (6, ([some (vp 31 0), some (vi p0)], ([vi p0], G x m1))) rfl rfl ?_
  exact wp_ret rfl h
