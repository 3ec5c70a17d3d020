set_option maxRecDepth 100000 in
set_option maxHeartbeats 4000000 in
theorem vc_X11_returnedTotal {X : MX} {d : Nat} {x : Int64 × UInt64} {m : MI} {Q : MRes → Prop} (h : Cl X d 195 [vp 31 0, vi (m 32 0 7)] (G x m) (fun r => ∃ (v1 : Int32) (m2 : MI), r = (.inl (some (vi v1)), G x m2) ∧ Q (.inl (some (vi v1)), G x m2))) : Cl X (d + 1) 246 [vp 31 0] (G x m) Q := by
  show Wp X (d + 1) 246 (0, ([some (vp 31 0)], ([], G x m))) Q
  refine wp_run 5 true (8, ([some (vp 31 0)], ([vi (m 32 0 7), vp 31 0], G x m))) rfl rfl ?_
  refine wp_call 195 [vp 31 0, vi (m 32 0 7)] (11, ([some (vp 31 0)], ([], G x m))) rfl rfl (Cl.mono h (Nat.le_refl _) ?_)
  rintro r ⟨v1, m2, rfl, h⟩
  · show Wp X (d + 1) 246 (11, ([some (vp 31 0)], ([vi v1], G x m2))) Q
    exact wp_ret rfl h
set_option maxRecDepth 100000 in
set_option maxHeartbeats 4000000 in
theorem vc_X11_meanBrightness {X : MX} {d : Nat} {x : Int64 × UInt64} {m : MI} {Q : MRes → Prop} (h : (((m 32 0 0) ≤ 0 → Cl X d 196 [vp 31 0, vi 0] (G x m) (fun r => ∃ (v2 : Int32) (m3 : MI), r = (.inl (some (vi v2)), G x m3) ∧ ((v2 ≤ 0 → Wp X (d + 1) 247 (27, ([some (vp 31 0), some (vi 0), some (vi 0)], ([], G x m3))) Q) ∧ (¬ (v2 ≤ 0) → Q (.inl (some (vx (.double 0))), G x m3))))) ∧ (¬ ((m 32 0 0) ≤ 0) → Cl X d 196 [vp 31 0, vi 1] (G x m) (fun r => ∃ (v5 : Int32) (m6 : MI), r = (.inl (some (vi v5)), G x m6) ∧ ((v5 ≤ 0 → Wp X (d + 1) 247 (27, ([some (vp 31 0), some (vi 0), some (vi 0)], ([], G x m6))) Q) ∧ (¬ (v5 ≤ 0) → Q (.inl (some (vx (.double 0))), G x m6))))))) : Cl X (d + 1) 247 [vp 31 0] (G x m) Q := by
  show Wp X (d + 1) 247 (0, ([some (vp 31 0), none, none], ([], G x m))) Q
  refine wp_run 6 true ((bif decide ((m 32 0 0) ≤ 0) then 14 else 10), ([some (vp 31 0), none, none], ([vp 31 0], G x m))) rfl rfl ?_
  refine wp_if ((m 32 0 0) ≤ 0) (fun c1 => ?_) (fun c1 => ?_)
  · have h := h.1 c1
    refine wp_run 1 true (15, ([some (vp 31 0), none, none], ([vi 0, vp 31 0], G x m))) rfl rfl ?_
    refine wp_call 196 [vp 31 0, vi 0] (18, ([some (vp 31 0), none, none], ([], G x m))) rfl rfl (Cl.mono h (Nat.le_refl _) ?_)
    rintro r ⟨v2, m3, rfl, h⟩
    · show Wp X (d + 1) 247 (18, ([some (vp 31 0), none, none], ([vi v2], G x m3))) Q
      refine wp_run 1 true ((bif decide (v2 ≤ 0) then 23 else 21), ([some (vp 31 0), none, none], ([], G x m3))) rfl rfl ?_
      refine wp_if (v2 ≤ 0) (fun c4 => ?_) (fun c4 => ?_)
      · have h := h.1 c4
        refine wp_run 4 true (27, ([some (vp 31 0), some (vi 0), some (vi 0)], ([], G x m3))) rfl rfl ?_
        exact h
      · have h := h.2 c4
        refine wp_run 1 true (22, ([some (vp 31 0), none, none], ([vx (.double 0)], G x m3))) rfl rfl ?_
        exact wp_ret rfl h
  · have h := h.2 c1
    refine wp_run 2 true (15, ([some (vp 31 0), none, none], ([vi 1, vp 31 0], G x m))) rfl rfl ?_
    refine wp_call 196 [vp 31 0, vi 1] (18, ([some (vp 31 0), none, none], ([], G x m))) rfl rfl (Cl.mono h (Nat.le_refl _) ?_)
    rintro r ⟨v5, m6, rfl, h⟩
    · show Wp X (d + 1) 247 (18, ([some (vp 31 0), none, none], ([vi v5], G x m6))) Q
      refine wp_run 1 true ((bif decide (v5 ≤ 0) then 23 else 21), ([some (vp 31 0), none, none], ([], G x m6))) rfl rfl ?_
      refine wp_if (v5 ≤ 0) (fun c7 => ?_) (fun c7 => ?_)
      · have h := h.1 c7
        refine wp_run 4 true (27, ([some (vp 31 0), some (vi 0), some (vi 0)], ([], G x m6))) rfl rfl ?_
        exact h
      · have h := h.2 c7
        refine wp_run 1 true (22, ([some (vp 31 0), none, none], ([vx (.double 0)], G x m6))) rfl rfl ?_
        exact wp_ret rfl h
set_option maxRecDepth 100000 in
set_option maxHeartbeats 4000000 in
theorem vl_X11_meanBrightness_27 {X : MX} {d : Nat} {x : Int64 × UInt64} {m : MI} {Q : MRes → Prop} {l1 : Int32} {l2 : Int32} (h : (((m 32 0 0) ≤ l2 → (decide (FP.ddiv (FP.i2d l1) (FP.i2d (3 * (m 32 0 0))) &&& 0x7fffffffffffffff ≤ 0x7ff0000000000000) = true ∧ Q (.inl (some (vx (.double (FP.ddiv (FP.i2d l1) (FP.i2d (3 * (m 32 0 0))))))), G x m))) ∧ (¬ ((m 32 0 0) ≤ l2) → Cl X d 206 [vp 31 0, vi l2] (G x m) (fun r => ∃ (v2 : Int32) (m3 : MI), r = (.inl (some (vi v2)), G x m3) ∧ (∀ t4 : Int32, t4 = l1 + v2 → (∀ t5 : Int32, t5 = l2 + 1 → Wp X (d + 1) 247 (27, ([some (vp 31 0), some (vi t4), some (vi t5)], ([], G x m3))) Q)))))) : Wp X (d + 1) 247 (27, ([some (vp 31 0), some (vi l1), some (vi l2)], ([], G x m))) Q := by
  refine wp_run 6 true ((bif decide ((m 32 0 0) ≤ l2) then 51 else 37), ([some (vp 31 0), some (vi l1), some (vi l2)], ([], G x m))) rfl rfl ?_
  refine wp_if ((m 32 0 0) ≤ l2) (fun c1 => ?_) (fun c1 => ?_)
  · have h := h.1 c1
    obtain ⟨hg2_0, h⟩ := h
    refine wp_run 10 (decide (FP.ddiv (FP.i2d l1) (FP.i2d (3 * (m 32 0 0))) &&& 0x7fffffffffffffff ≤ 0x7ff0000000000000) && true) (63, ([some (vp 31 0), some (vi l1), some (vi l2)], ([vx (.double (FP.ddiv (FP.i2d l1) (FP.i2d (3 * (m 32 0 0)))))], G x m))) rfl (and_t hg2_0 rfl) ?_
    exact wp_ret rfl h
  · have h := h.2 c1
    refine wp_run 3 true (40, ([some (vp 31 0), some (vi l1), some (vi l2)], ([vi l2, vp 31 0, vi l1], G x m))) rfl rfl ?_
    refine wp_call 206 [vp 31 0, vi l2] (43, ([some (vp 31 0), some (vi l1), some (vi l2)], ([vi l1], G x m))) rfl rfl (Cl.mono h (Nat.le_refl _) ?_)
    rintro r ⟨v2, m3, rfl, h⟩
    · show Wp X (d + 1) 247 (43, ([some (vp 31 0), some (vi l1), some (vi l2)], ([vi v2, vi l1], G x m3))) Q
      refine wp_run 2 true (45, ([some (vp 31 0), some (vi (l1 + v2)), some (vi l2)], ([], G x m3))) rfl rfl ?_
      refine wpg (fun t4 => Wp X (d + 1) 247 (45, ([some (vp 31 0), some (vi t4), some (vi l2)], ([], G x m3))) Q) (l1 + v2) (fun t4 ht4 => ?_)
      have h := h t4 ht4
      refine wp_run 1 true (48, ([some (vp 31 0), some (vi t4), some (vi (l2 + 1))], ([], G x m3))) rfl rfl ?_
      refine wpg (fun t5 => Wp X (d + 1) 247 (48, ([some (vp 31 0), some (vi t4), some (vi t5)], ([], G x m3))) Q) (l2 + 1) (fun t5 ht5 => ?_)
      have h := h t5 ht5
      refine wp_run 1 true (27, ([some (vp 31 0), some (vi t4), some (vi t5)], ([], G x m3))) rfl rfl ?_
      exact h
set_option maxRecDepth 100000 in
set_option maxHeartbeats 4000000 in
theorem vc_X11_greyShare {X : MX} {d : Nat} {x : Int64 × UInt64} {m : MI} {Q : MRes → Prop} (h : (((m 32 0 0) ≤ 0 → Cl X d 196 [vp 31 0, vi 0] (G x m) (fun r => ∃ (v2 : Int32) (m3 : MI), r = (.inl (some (vi v2)), G x m3) ∧ ((v2 ≤ 0 → Cl X d 193 [vp 31 0] (G x m3) (fun r => ∃ (v5 : Int32) (m6 : MI), r = (.inl (some (vi v5)), G x m6) ∧ (decide (FP.fdiv (FP.i2f v5) (FP.i2f (m6 32 0 0)) &&& 0x7fffffff ≤ 0x7f800000) = true ∧ Q (.inl (some (vx (.float (FP.fdiv (FP.i2f v5) (FP.i2f (m6 32 0 0)))))), G x m6)))) ∧ (¬ (v2 ≤ 0) → Q (.inl (some (vx (.float 0))), G x m3))))) ∧ (¬ ((m 32 0 0) ≤ 0) → Cl X d 196 [vp 31 0, vi 1] (G x m) (fun r => ∃ (v7 : Int32) (m8 : MI), r = (.inl (some (vi v7)), G x m8) ∧ ((v7 ≤ 0 → Cl X d 193 [vp 31 0] (G x m8) (fun r => ∃ (v10 : Int32) (m11 : MI), r = (.inl (some (vi v10)), G x m11) ∧ (decide (FP.fdiv (FP.i2f v10) (FP.i2f (m11 32 0 0)) &&& 0x7fffffff ≤ 0x7f800000) = true ∧ Q (.inl (some (vx (.float (FP.fdiv (FP.i2f v10) (FP.i2f (m11 32 0 0)))))), G x m11)))) ∧ (¬ (v7 ≤ 0) → Q (.inl (some (vx (.float 0))), G x m8))))))) : Cl X (d + 1) 248 [vp 31 0] (G x m) Q := by
  show Wp X (d + 1) 248 (0, ([some (vp 31 0)], ([], G x m))) Q
  refine wp_run 6 true ((bif decide ((m 32 0 0) ≤ 0) then 14 else 10), ([some (vp 31 0)], ([vp 31 0], G x m))) rfl rfl ?_
  refine wp_if ((m 32 0 0) ≤ 0) (fun c1 => ?_) (fun c1 => ?_)
  · have h := h.1 c1
    refine wp_run 1 true (15, ([some (vp 31 0)], ([vi 0, vp 31 0], G x m))) rfl rfl ?_
    refine wp_call 196 [vp 31 0, vi 0] (18, ([some (vp 31 0)], ([], G x m))) rfl rfl (Cl.mono h (Nat.le_refl _) ?_)
    rintro r ⟨v2, m3, rfl, h⟩
    · show Wp X (d + 1) 248 (18, ([some (vp 31 0)], ([vi v2], G x m3))) Q
      refine wp_run 1 true ((bif decide (v2 ≤ 0) then 25 else 21), ([some (vp 31 0)], ([], G x m3))) rfl rfl ?_
      refine wp_if (v2 ≤ 0) (fun c4 => ?_) (fun c4 => ?_)
      · have h := h.1 c4
        refine wp_run 1 true (26, ([some (vp 31 0)], ([vp 31 0], G x m3))) rfl rfl ?_
        refine wp_call 193 [vp 31 0] (29, ([some (vp 31 0)], ([], G x m3))) rfl rfl (Cl.mono h (Nat.le_refl _) ?_)
        rintro r ⟨v5, m6, rfl, h⟩
        · show Wp X (d + 1) 248 (29, ([some (vp 31 0)], ([vi v5], G x m6))) Q
          obtain ⟨hg5_0, h⟩ := h
          refine wp_run 7 (decide (FP.fdiv (FP.i2f v5) (FP.i2f (m6 32 0 0)) &&& 0x7fffffff ≤ 0x7f800000) && true) (38, ([some (vp 31 0)], ([vx (.float (FP.fdiv (FP.i2f v5) (FP.i2f (m6 32 0 0))))], G x m6))) rfl (and_t hg5_0 rfl) ?_
          exact wp_ret rfl h
      · have h := h.2 c4
        refine wp_run 2 true (38, ([some (vp 31 0)], ([vx (.float 0)], G x m3))) rfl rfl ?_
        exact wp_ret rfl h
  · have h := h.2 c1
    refine wp_run 2 true (15, ([some (vp 31 0)], ([vi 1, vp 31 0], G x m))) rfl rfl ?_
    refine wp_call 196 [vp 31 0, vi 1] (18, ([some (vp 31 0)], ([], G x m))) rfl rfl (Cl.mono h (Nat.le_refl _) ?_)
    rintro r ⟨v7, m8, rfl, h⟩
    · show Wp X (d + 1) 248 (18, ([some (vp 31 0)], ([vi v7], G x m8))) Q
      refine wp_run 1 true ((bif decide (v7 ≤ 0) then 25 else 21), ([some (vp 31 0)], ([], G x m8))) rfl rfl ?_
      refine wp_if (v7 ≤ 0) (fun c9 => ?_) (fun c9 => ?_)
      · have h := h.1 c9
        refine wp_run 1 true (26, ([some (vp 31 0)], ([vp 31 0], G x m8))) rfl rfl ?_
        refine wp_call 193 [vp 31 0] (29, ([some (vp 31 0)], ([], G x m8))) rfl rfl (Cl.mono h (Nat.le_refl _) ?_)
        rintro r ⟨v10, m11, rfl, h⟩
        · show Wp X (d + 1) 248 (29, ([some (vp 31 0)], ([vi v10], G x m11))) Q
          obtain ⟨hg5_0, h⟩ := h
          refine wp_run 7 (decide (FP.fdiv (FP.i2f v10) (FP.i2f (m11 32 0 0)) &&& 0x7fffffff ≤ 0x7f800000) && true) (38, ([some (vp 31 0)], ([vx (.float (FP.fdiv (FP.i2f v10) (FP.i2f (m11 32 0 0))))], G x m11))) rfl (and_t hg5_0 rfl) ?_
          exact wp_ret rfl h
      · have h := h.2 c9
        refine wp_run 2 true (38, ([some (vp 31 0)], ([vx (.float 0)], G x m8))) rfl rfl ?_
        exact wp_ret rfl h
set_option maxRecDepth 100000 in
set_option maxHeartbeats 4000000 in
theorem vc_X11_isConsistent {X : MX} {d : Nat} {x : Int64 × UInt64} {m : MI} {Q : MRes → Prop} (h : Cl X d 195 [vp 31 0, vi 1] (G x m) (fun r => ∃ (v1 : Int32) (m2 : MI), r = (.inl (some (vi v1)), G x m2) ∧ ((¬ v1 = 1 → Q (.inl (some (vi 0)), G x m2)) ∧ (¬ (¬ v1 = 1) → Q (.inl (some (vi 1)), G x m2))))) : Cl X (d + 1) 249 [vp 31 0] (G x m) Q := by
  show Wp X (d + 1) 249 (0, ([some (vp 31 0)], ([], G x m))) Q
  refine wp_run 2 true (2, ([some (vp 31 0)], ([vi 1, vp 31 0], G x m))) rfl rfl ?_
  refine wp_call 195 [vp 31 0, vi 1] (5, ([some (vp 31 0)], ([], G x m))) rfl rfl (Cl.mono h (Nat.le_refl _) ?_)
  rintro r ⟨v1, m2, rfl, h⟩
  · show Wp X (d + 1) 249 (5, ([some (vp 31 0)], ([vi v1], G x m2))) Q
    refine wp_run 2 true ((bif decide (¬ v1 = 1) then 13 else 9), ([some (vp 31 0)], ([], G x m2))) rfl rfl ?_
    refine wp_if (¬ v1 = 1) (fun c3 => ?_) (fun c3 => ?_)
    · have h := h.1 c3
      refine wp_run 1 true (14, ([some (vp 31 0)], ([vi 0], G x m2))) rfl rfl ?_
      exact wp_ret rfl h
    · have h := h.2 c3
      refine wp_run 2 true (14, ([some (vp 31 0)], ([vi 1], G x m2))) rfl rfl ?_
      exact wp_ret rfl h
set_option maxRecDepth 100000 in
set_option maxHeartbeats 4000000 in
theorem vc_X11_write {X : MX} {d : Nat} {x : Int64 × UInt64} {m : MI} {Q : MRes → Prop} {p0 : Int32} (h : (inb (m 31 0 14) 80 = true ∧ (∀ m1 : MI, m1 = mup m 39 0 ((m 31 0 14).toNatClampNeg) p0 → (∀ m2 : MI, m2 = mup m1 31 0 14 ((m1 31 0 14) + 1) → Q (.inl none, G x m2))))) : Cl X d 250 [vp 31 0, vi p0] (G x m) Q := by
  show Wp X d 250 (0, ([some (vp 31 0), some (vi p0)], ([], G x m))) Q
  obtain ⟨hg1_0, h⟩ := h
  refine wp_run 6 (inb (m 31 0 14) 80 && true) (10, ([some (vp 31 0), some (vi p0)], ([], G x (mup m 39 0 ((m 31 0 14).toNatClampNeg) p0)))) rfl (and_t hg1_0 rfl) ?_
  refine wpg (fun m1 => Wp X d 250 (10, ([some (vp 31 0), some (vi p0)], ([], G x m1))) Q) (mup m 39 0 ((m 31 0 14).toNatClampNeg) p0) (fun m1 hm1 => ?_)
  have h := h m1 hm1
  refine wp_run 6 true (20, ([some (vp 31 0), some (vi p0)], ([], G x (mup m1 31 0 14 ((m1 31 0 14) + 1))))) rfl rfl ?_
  refine wpg (fun m2 => Wp X d 250 (20, ([some (vp 31 0), some (vi p0)], ([], G x m2))) Q) (mup m1 31 0 14 ((m1 31 0 14) + 1)) (fun m2 hm2 => ?_)
  have h := h m2 hm2
  exact wp_ret rfl h
set_option maxRecDepth 100000 in
set_option maxHeartbeats 4000000 in
theorem vc_X11_writeNumber {X : MX} {d : Nat} {x : Int64 × UInt64} {m : MI} {Q : MRes → Prop} {p0 : Int32} (h : Wp X (d + 1) 251 (2, ([some (vp 31 0), some (vi p0), some (vi 1)], ([], G x m))) Q) : Cl X (d + 1) 251 [vp 31 0, vi p0] (G x m) Q := by
  show Wp X (d + 1) 251 (0, ([some (vp 31 0), some (vi p0), none], ([], G x m))) Q
  refine wp_run 2 true (2, ([some (vp 31 0), some (vi p0), some (vi 1)], ([], G x m))) rfl rfl ?_
  exact h
set_option maxRecDepth 100000 in
set_option maxHeartbeats 4000000 in
theorem vl_X11_writeNumber_2 {X : MX} {d : Nat} {x : Int64 × UInt64} {m : MI} {Q : MRes → Prop} {l1 : Int32} {l2 : Int32} (h : (decide (¬ l2 = 0) = true ∧ (((l1 / l2) ≤ 9 → Wp X (d + 1) 251 (18, ([some (vp 31 0), some (vi l1), some (vi l2)], ([], G x m))) Q) ∧ (¬ ((l1 / l2) ≤ 9) → (∀ t2 : Int32, t2 = l2 * 10 → Wp X (d + 1) 251 (2, ([some (vp 31 0), some (vi l1), some (vi t2)], ([], G x m))) Q))))) : Wp X (d + 1) 251 (2, ([some (vp 31 0), some (vi l1), some (vi l2)], ([], G x m))) Q := by
  obtain ⟨hg1_0, h⟩ := h
  refine wp_run 5 (decide (¬ l2 = 0) && true) ((bif decide ((l1 / l2) ≤ 9) then 18 else 10), ([some (vp 31 0), some (vi l1), some (vi l2)], ([], G x m))) rfl (and_t hg1_0 rfl) ?_
  refine wp_if ((l1 / l2) ≤ 9) (fun c1 => ?_) (fun c1 => ?_)
  · have h := h.1 c1
    exact h
  · have h := h.2 c1
    refine wp_run 4 true (15, ([some (vp 31 0), some (vi l1), some (vi (l2 * 10))], ([], G x m))) rfl rfl ?_
    refine wpg (fun t2 => Wp X (d + 1) 251 (15, ([some (vp 31 0), some (vi l1), some (vi t2)], ([], G x m))) Q) (l2 * 10) (fun t2 ht2 => ?_)
    have h := h t2 ht2
    refine wp_run 1 true (2, ([some (vp 31 0), some (vi l1), some (vi t2)], ([], G x m))) rfl rfl ?_
    exact h
set_option maxRecDepth 100000 in
set_option maxHeartbeats 4000000 in
theorem vl_X11_writeNumber_18 {X : MX} {d : Nat} {x : Int64 × UInt64} {m : MI} {Q : MRes → Prop} {l1 : Int32} {l2 : Int32} (h : ((l2 ≤ 0 → Q (.inl none, G x m)) ∧ (¬ (l2 ≤ 0) → (decide (¬ l2 = 0) = true ∧ Cl X d 250 [vp 31 0, vi (48 + ((l1 / l2) - (l1 / l2) / 10 * 10))] (G x m) (fun r => ∃ (m3 : MI), r = (.inl none, G x m3) ∧ (∀ t4 : Int32, t4 = l2 / 10 → Wp X (d + 1) 251 (18, ([some (vp 31 0), some (vi l1), some (vi t4)], ([], G x m3))) Q)))))) : Wp X (d + 1) 251 (18, ([some (vp 31 0), some (vi l1), some (vi l2)], ([], G x m))) Q := by
  refine wp_run 2 true ((bif decide (l2 ≤ 0) then 43 else 22), ([some (vp 31 0), some (vi l1), some (vi l2)], ([], G x m))) rfl rfl ?_
  refine wp_if (l2 ≤ 0) (fun c1 => ?_) (fun c1 => ?_)
  · have h := h.1 c1
    exact wp_ret rfl h
  · have h := h.2 c1
    obtain ⟨hg2_0, h⟩ := h
    refine wp_run 8 (decide (¬ l2 = 0) && true) (32, ([some (vp 31 0), some (vi l1), some (vi l2)], ([vi (48 + ((l1 / l2) - (l1 / l2) / 10 * 10)), vp 31 0], G x m))) rfl (and_t hg2_0 rfl) ?_
    refine wp_call 250 [vp 31 0, vi (48 + ((l1 / l2) - (l1 / l2) / 10 * 10))] (35, ([some (vp 31 0), some (vi l1), some (vi l2)], ([], G x m))) rfl rfl (Cl.mono h (Nat.le_refl _) ?_)
    rintro r ⟨m3, rfl, h⟩
    · show Wp X (d + 1) 251 (35, ([some (vp 31 0), some (vi l1), some (vi l2)], ([], G x m3))) Q
      refine wp_run 4 true (40, ([some (vp 31 0), some (vi l1), some (vi (l2 / 10))], ([], G x m3))) rfl rfl ?_
      refine wpg (fun t4 => Wp X (d + 1) 251 (40, ([some (vp 31 0), some (vi l1), some (vi t4)], ([], G x m3))) Q) (l2 / 10) (fun t4 ht4 => ?_)
      have h := h t4 ht4
      refine wp_run 1 true (18, ([some (vp 31 0), some (vi l1), some (vi t4)], ([], G x m3))) rfl rfl ?_
      exact h
set_option maxRecDepth 100000 in
set_option maxHeartbeats 4000000 in
theorem vc_X11_writeParts {X : MX} {d : Nat} {x : Int64 × UInt64} {m : MI} {Q : MRes → Prop} {p0 : Int32} (h : Wp X (d + 1) 252 (2, ([some (vp 31 0), some (vi p0), some (vi 1)], ([], G x m))) Q) : Cl X (d + 1) 252 [vp 31 0, vi p0] (G x m) Q := by
  show Wp X (d + 1) 252 (0, ([some (vp 31 0), some (vi p0), none], ([], G x m))) Q
  refine wp_run 2 true (2, ([some (vp 31 0), some (vi p0), some (vi 1)], ([], G x m))) rfl rfl ?_
  exact h
set_option maxRecDepth 100000 in
set_option maxHeartbeats 4000000 in
theorem vl_X11_writeParts_2 {X : MX} {d : Nat} {x : Int64 × UInt64} {m : MI} {Q : MRes → Prop} {l1 : Int32} {l2 : Int32} (h : ((3 < l2 → Q (.inl none, G x m)) ∧ (¬ (3 < l2) → ((l2 ≤ 1 → (inb (l1 + l2) 136 = true ∧ Cl X d 251 [vp 31 0, vi (m 32 0 (l1 + l2).toNatClampNeg)] (G x m) (fun r => ∃ (m4 : MI), r = (.inl none, G x m4) ∧ (∀ t5 : Int32, t5 = l2 + 1 → Wp X (d + 1) 252 (2, ([some (vp 31 0), some (vi l1), some (vi t5)], ([], G x m4))) Q)))) ∧ (¬ (l2 ≤ 1) → Cl X d 250 [vp 31 0, vi 47] (G x m) (fun r => ∃ (m7 : MI), r = (.inl none, G x m7) ∧ (inb (l1 + l2) 136 = true ∧ Cl X d 251 [vp 31 0, vi (m7 32 0 (l1 + l2).toNatClampNeg)] (G x m7) (fun r => ∃ (m9 : MI), r = (.inl none, G x m9) ∧ (∀ t10 : Int32, t10 = l2 + 1 → Wp X (d + 1) 252 (2, ([some (vp 31 0), some (vi l1), some (vi t10)], ([], G x m9))) Q))))))))) : Wp X (d + 1) 252 (2, ([some (vp 31 0), some (vi l1), some (vi l2)], ([], G x m))) Q := by
  refine wp_run 3 true ((bif decide (3 < l2) then 36 else 7), ([some (vp 31 0), some (vi l1), some (vi l2)], ([], G x m))) rfl rfl ?_
  refine wp_if (3 < l2) (fun c1 => ?_) (fun c1 => ?_)
  · have h := h.1 c1
    exact wp_ret rfl h
  · have h := h.2 c1
    refine wp_run 3 true ((bif decide (l2 ≤ 1) then 18 else 12), ([some (vp 31 0), some (vi l1), some (vi l2)], ([], G x m))) rfl rfl ?_
    refine wp_if (l2 ≤ 1) (fun c2 => ?_) (fun c2 => ?_)
    · have h := h.1 c2
      obtain ⟨hg3_0, h⟩ := h
      refine wp_run 7 (inb (l1 + l2) 136 && true) (27, ([some (vp 31 0), some (vi l1), some (vi l2)], ([vi (m 32 0 (l1 + l2).toNatClampNeg), vp 31 0], G x m))) rfl (and_t hg3_0 rfl) ?_
      refine wp_call 251 [vp 31 0, vi (m 32 0 (l1 + l2).toNatClampNeg)] (30, ([some (vp 31 0), some (vi l1), some (vi l2)], ([], G x m))) rfl rfl (Cl.mono h (Nat.le_refl _) ?_)
      rintro r ⟨m4, rfl, h⟩
      · show Wp X (d + 1) 252 (30, ([some (vp 31 0), some (vi l1), some (vi l2)], ([], G x m4))) Q
        refine wp_run 1 true (33, ([some (vp 31 0), some (vi l1), some (vi (l2 + 1))], ([], G x m4))) rfl rfl ?_
        refine wpg (fun t5 => Wp X (d + 1) 252 (33, ([some (vp 31 0), some (vi l1), some (vi t5)], ([], G x m4))) Q) (l2 + 1) (fun t5 ht5 => ?_)
        have h := h t5 ht5
        refine wp_run 1 true (2, ([some (vp 31 0), some (vi l1), some (vi t5)], ([], G x m4))) rfl rfl ?_
        exact h
    · have h := h.2 c2
      refine wp_run 2 true (15, ([some (vp 31 0), some (vi l1), some (vi l2)], ([vi 47, vp 31 0], G x m))) rfl rfl ?_
      refine wp_call 250 [vp 31 0, vi 47] (18, ([some (vp 31 0), some (vi l1), some (vi l2)], ([], G x m))) rfl rfl (Cl.mono h (Nat.le_refl _) ?_)
      rintro r ⟨m7, rfl, h⟩
      · show Wp X (d + 1) 252 (18, ([some (vp 31 0), some (vi l1), some (vi l2)], ([], G x m7))) Q
        obtain ⟨hg4_0, h⟩ := h
        refine wp_run 7 (inb (l1 + l2) 136 && true) (27, ([some (vp 31 0), some (vi l1), some (vi l2)], ([vi (m7 32 0 (l1 + l2).toNatClampNeg), vp 31 0], G x m7))) rfl (and_t hg4_0 rfl) ?_
        refine wp_call 251 [vp 31 0, vi (m7 32 0 (l1 + l2).toNatClampNeg)] (30, ([some (vp 31 0), some (vi l1), some (vi l2)], ([], G x m7))) rfl rfl (Cl.mono h (Nat.le_refl _) ?_)
        rintro r ⟨m9, rfl, h⟩
        · show Wp X (d + 1) 252 (30, ([some (vp 31 0), some (vi l1), some (vi l2)], ([], G x m9))) Q
          refine wp_run 1 true (33, ([some (vp 31 0), some (vi l1), some (vi (l2 + 1))], ([], G x m9))) rfl rfl ?_
          refine wpg (fun t10 => Wp X (d + 1) 252 (33, ([some (vp 31 0), some (vi l1), some (vi t10)], ([], G x m9))) Q) (l2 + 1) (fun t10 ht10 => ?_)
          have h := h t10 ht10
          refine wp_run 1 true (2, ([some (vp 31 0), some (vi l1), some (vi t10)], ([], G x m9))) rfl rfl ?_
          exact h
set_option maxRecDepth 100000 in
set_option maxHeartbeats 4000000 in
theorem vc_X11_renderColour {X : MX} {d : Nat} {x : Int64 × UInt64} {m : MI} {Q : MRes → Prop} {p0 : Int32} (h : Cl X d 156 [vp 31 0, vi p0] (G x m) (fun r => ∃ (v1 : Int32) (m2 : MI), r = (.inl (some (vi v1)), G x m2) ∧ ((v1 < 0 → Cl X d 196 [vp 31 0, vi 0] (G x m2) (fun r => ∃ (v4 : Int32) (m5 : MI), r = (.inl (some (vi v4)), G x m5) ∧ ((v4 ≤ 0 → Cl X d 156 [vp 31 0, vi p0] (G x m5) (fun r => ∃ (v7 : Int32) (m8 : MI), r = (.inl (some (vi v7)), G x m8) ∧ (∀ m9 : MI, m9 = mup m8 31 0 14 0 → Cl X d 251 [vp 31 0, vi p0] (G x m9) (fun r => ∃ (m11 : MI), r = (.inl none, G x m11) ∧ Cl X d 250 [vp 31 0, vi 35] (G x m11) (fun r => ∃ (m13 : MI), r = (.inl none, G x m13) ∧ Cl X d 152 [vi v7] (G x m13) (fun r => ∃ (v14 : Int32) (m15 : MI), r = (.inl (some (vi v14)), G x m15) ∧ Cl X d 252 [vp 31 0, vi v14] (G x m15) (fun r => ∃ (m17 : MI), r = (.inl none, G x m17) ∧ Cl X d 250 [vp 31 0, vi 102] (G x m17) (fun r => ∃ (m19 : MI), r = (.inl none, G x m19) ∧ Cl X d 154 [vp 31 0, vi v7, vi 4] (G x m19) (fun r => ∃ (v20 : Int32) (m21 : MI), r = (.inl (some (vi v20)), G x m21) ∧ Cl X d 251 [vp 31 0, vi v20] (G x m21) (fun r => ∃ (m23 : MI), r = (.inl none, G x m23) ∧ Cl X d 250 [vp 31 0, vi 100] (G x m23) (fun r => ∃ (m25 : MI), r = (.inl none, G x m25) ∧ Cl X d 190 [vp 31 0, vi v7] (G x m25) (fun r => ∃ (v26 : Int32) (m27 : MI), r = (.inl (some (vi v26)), G x m27) ∧ Cl X d 251 [vp 31 0, vi v26] (G x m27) (fun r => ∃ (m29 : MI), r = (.inl none, G x m29) ∧ Cl X d 192 [vp 31 0, vi v7] (G x m29) (fun r => ∃ (v30 : Int32) (m31 : MI), r = (.inl (some (vi v30)), G x m31) ∧ ((¬ v30 = 0 → Q (.inl (some (vi (m31 31 0 14))), G x m31)) ∧ (¬ (¬ v30 = 0) → Cl X d 250 [vp 31 0, vi 103] (G x m31) (fun r => ∃ (m34 : MI), r = (.inl none, G x m34) ∧ Q (.inl (some (vi (m34 31 0 14))), G x m34)))))))))))))))))) ∧ (¬ (v4 ≤ 0) → Q (.inl (some (vi 0)), G x m5))))) ∧ (¬ (v1 < 0) → Cl X d 196 [vp 31 0, vi 1] (G x m2) (fun r => ∃ (v35 : Int32) (m36 : MI), r = (.inl (some (vi v35)), G x m36) ∧ ((v35 ≤ 0 → Cl X d 156 [vp 31 0, vi p0] (G x m36) (fun r => ∃ (v38 : Int32) (m39 : MI), r = (.inl (some (vi v38)), G x m39) ∧ (∀ m40 : MI, m40 = mup m39 31 0 14 0 → Cl X d 251 [vp 31 0, vi p0] (G x m40) (fun r => ∃ (m42 : MI), r = (.inl none, G x m42) ∧ Cl X d 250 [vp 31 0, vi 35] (G x m42) (fun r => ∃ (m44 : MI), r = (.inl none, G x m44) ∧ Cl X d 152 [vi v38] (G x m44) (fun r => ∃ (v45 : Int32) (m46 : MI), r = (.inl (some (vi v45)), G x m46) ∧ Cl X d 252 [vp 31 0, vi v45] (G x m46) (fun r => ∃ (m48 : MI), r = (.inl none, G x m48) ∧ Cl X d 250 [vp 31 0, vi 102] (G x m48) (fun r => ∃ (m50 : MI), r = (.inl none, G x m50) ∧ Cl X d 154 [vp 31 0, vi v38, vi 4] (G x m50) (fun r => ∃ (v51 : Int32) (m52 : MI), r = (.inl (some (vi v51)), G x m52) ∧ Cl X d 251 [vp 31 0, vi v51] (G x m52) (fun r => ∃ (m54 : MI), r = (.inl none, G x m54) ∧ Cl X d 250 [vp 31 0, vi 100] (G x m54) (fun r => ∃ (m56 : MI), r = (.inl none, G x m56) ∧ Cl X d 190 [vp 31 0, vi v38] (G x m56) (fun r => ∃ (v57 : Int32) (m58 : MI), r = (.inl (some (vi v57)), G x m58) ∧ Cl X d 251 [vp 31 0, vi v57] (G x m58) (fun r => ∃ (m60 : MI), r = (.inl none, G x m60) ∧ Cl X d 192 [vp 31 0, vi v38] (G x m60) (fun r => ∃ (v61 : Int32) (m62 : MI), r = (.inl (some (vi v61)), G x m62) ∧ ((¬ v61 = 0 → Q (.inl (some (vi (m62 31 0 14))), G x m62)) ∧ (¬ (¬ v61 = 0) → Cl X d 250 [vp 31 0, vi 103] (G x m62) (fun r => ∃ (m65 : MI), r = (.inl none, G x m65) ∧ Q (.inl (some (vi (m65 31 0 14))), G x m65)))))))))))))))))) ∧ (¬ (v35 ≤ 0) → Q (.inl (some (vi 0)), G x m36)))))))) : Cl X (d + 1) 253 [vp 31 0, vi p0] (G x m) Q := by
  show Wp X (d + 1) 253 (0, ([some (vp 31 0), some (vi p0), none], ([], G x m))) Q
  refine wp_run 3 true (3, ([some (vp 31 0), some (vi p0), none], ([vi p0, vp 31 0, vp 31 0], G x m))) rfl rfl ?_
  refine wp_call 156 [vp 31 0, vi p0] (6, ([some (vp 31 0), some (vi p0), none], ([vp 31 0], G x m))) rfl rfl (Cl.mono h (Nat.le_refl _) ?_)
  rintro r ⟨v1, m2, rfl, h⟩
  · show Wp X (d + 1) 253 (6, ([some (vp 31 0), some (vi p0), none], ([vi v1, vp 31 0], G x m2))) Q
    refine wp_run 1 true ((bif decide (v1 < 0) then 13 else 9), ([some (vp 31 0), some (vi p0), none], ([vp 31 0], G x m2))) rfl rfl ?_
    refine wp_if (v1 < 0) (fun c3 => ?_) (fun c3 => ?_)
    · have h := h.1 c3
      refine wp_run 1 true (14, ([some (vp 31 0), some (vi p0), none], ([vi 0, vp 31 0], G x m2))) rfl rfl ?_
      refine wp_call 196 [vp 31 0, vi 0] (17, ([some (vp 31 0), some (vi p0), none], ([], G x m2))) rfl rfl (Cl.mono h (Nat.le_refl _) ?_)
      rintro r ⟨v4, m5, rfl, h⟩
      · show Wp X (d + 1) 253 (17, ([some (vp 31 0), some (vi p0), none], ([vi v4], G x m5))) Q
        refine wp_run 1 true ((bif decide (v4 ≤ 0) then 22 else 20), ([some (vp 31 0), some (vi p0), none], ([], G x m5))) rfl rfl ?_
        refine wp_if (v4 ≤ 0) (fun c6 => ?_) (fun c6 => ?_)
        · have h := h.1 c6
          refine wp_run 2 true (24, ([some (vp 31 0), some (vi p0), none], ([vi p0, vp 31 0], G x m5))) rfl rfl ?_
          refine wp_call 156 [vp 31 0, vi p0] (27, ([some (vp 31 0), some (vi p0), none], ([], G x m5))) rfl rfl (Cl.mono h (Nat.le_refl _) ?_)
          rintro r ⟨v7, m8, rfl, h⟩
          · show Wp X (d + 1) 253 (27, ([some (vp 31 0), some (vi p0), none], ([vi v7], G x m8))) Q
            refine wp_run 4 true (33, ([some (vp 31 0), some (vi p0), some (vi v7)], ([], G x (mup m8 31 0 14 0)))) rfl rfl ?_
            refine wpg (fun m9 => Wp X (d + 1) 253 (33, ([some (vp 31 0), some (vi p0), some (vi v7)], ([], G x m9))) Q) (mup m8 31 0 14 0) (fun m9 hm9 => ?_)
            have h := h m9 hm9
            refine wp_run 2 true (35, ([some (vp 31 0), some (vi p0), some (vi v7)], ([vi p0, vp 31 0], G x m9))) rfl rfl ?_
            refine wp_call 251 [vp 31 0, vi p0] (38, ([some (vp 31 0), some (vi p0), some (vi v7)], ([], G x m9))) rfl rfl (Cl.mono h (Nat.le_refl _) ?_)
            rintro r ⟨m11, rfl, h⟩
            · show Wp X (d + 1) 253 (38, ([some (vp 31 0), some (vi p0), some (vi v7)], ([], G x m11))) Q
              refine wp_run 2 true (41, ([some (vp 31 0), some (vi p0), some (vi v7)], ([vi 35, vp 31 0], G x m11))) rfl rfl ?_
              refine wp_call 250 [vp 31 0, vi 35] (44, ([some (vp 31 0), some (vi p0), some (vi v7)], ([], G x m11))) rfl rfl (Cl.mono h (Nat.le_refl _) ?_)
              rintro r ⟨m13, rfl, h⟩
              · show Wp X (d + 1) 253 (44, ([some (vp 31 0), some (vi p0), some (vi v7)], ([], G x m13))) Q
                refine wp_run 2 true (46, ([some (vp 31 0), some (vi p0), some (vi v7)], ([vi v7, vp 31 0], G x m13))) rfl rfl ?_
                refine wp_call 152 [vi v7] (49, ([some (vp 31 0), some (vi p0), some (vi v7)], ([vp 31 0], G x m13))) rfl rfl (Cl.mono h (Nat.le_refl _) ?_)
                rintro r ⟨v14, m15, rfl, h⟩
                · show Wp X (d + 1) 253 (49, ([some (vp 31 0), some (vi p0), some (vi v7)], ([vi v14, vp 31 0], G x m15))) Q
                  refine wp_call 252 [vp 31 0, vi v14] (52, ([some (vp 31 0), some (vi p0), some (vi v7)], ([], G x m15))) rfl rfl (Cl.mono h (Nat.le_refl _) ?_)
                  rintro r ⟨m17, rfl, h⟩
                  · show Wp X (d + 1) 253 (52, ([some (vp 31 0), some (vi p0), some (vi v7)], ([], G x m17))) Q
                    refine wp_run 2 true (55, ([some (vp 31 0), some (vi p0), some (vi v7)], ([vi 102, vp 31 0], G x m17))) rfl rfl ?_
                    refine wp_call 250 [vp 31 0, vi 102] (58, ([some (vp 31 0), some (vi p0), some (vi v7)], ([], G x m17))) rfl rfl (Cl.mono h (Nat.le_refl _) ?_)
                    rintro r ⟨m19, rfl, h⟩
                    · show Wp X (d + 1) 253 (58, ([some (vp 31 0), some (vi p0), some (vi v7)], ([], G x m19))) Q
                      refine wp_run 4 true (62, ([some (vp 31 0), some (vi p0), some (vi v7)], ([vi 4, vi v7, vp 31 0, vp 31 0], G x m19))) rfl rfl ?_
                      refine wp_call 154 [vp 31 0, vi v7, vi 4] (65, ([some (vp 31 0), some (vi p0), some (vi v7)], ([vp 31 0], G x m19))) rfl rfl (Cl.mono h (Nat.le_refl _) ?_)
                      rintro r ⟨v20, m21, rfl, h⟩
                      · show Wp X (d + 1) 253 (65, ([some (vp 31 0), some (vi p0), some (vi v7)], ([vi v20, vp 31 0], G x m21))) Q
                        refine wp_call 251 [vp 31 0, vi v20] (68, ([some (vp 31 0), some (vi p0), some (vi v7)], ([], G x m21))) rfl rfl (Cl.mono h (Nat.le_refl _) ?_)
                        rintro r ⟨m23, rfl, h⟩
                        · show Wp X (d + 1) 253 (68, ([some (vp 31 0), some (vi p0), some (vi v7)], ([], G x m23))) Q
                          refine wp_run 2 true (71, ([some (vp 31 0), some (vi p0), some (vi v7)], ([vi 100, vp 31 0], G x m23))) rfl rfl ?_
                          refine wp_call 250 [vp 31 0, vi 100] (74, ([some (vp 31 0), some (vi p0), some (vi v7)], ([], G x m23))) rfl rfl (Cl.mono h (Nat.le_refl _) ?_)
                          rintro r ⟨m25, rfl, h⟩
                          · show Wp X (d + 1) 253 (74, ([some (vp 31 0), some (vi p0), some (vi v7)], ([], G x m25))) Q
                            refine wp_run 3 true (77, ([some (vp 31 0), some (vi p0), some (vi v7)], ([vi v7, vp 31 0, vp 31 0], G x m25))) rfl rfl ?_
                            refine wp_call 190 [vp 31 0, vi v7] (80, ([some (vp 31 0), some (vi p0), some (vi v7)], ([vp 31 0], G x m25))) rfl rfl (Cl.mono h (Nat.le_refl _) ?_)
                            rintro r ⟨v26, m27, rfl, h⟩
                            · show Wp X (d + 1) 253 (80, ([some (vp 31 0), some (vi p0), some (vi v7)], ([vi v26, vp 31 0], G x m27))) Q
                              refine wp_call 251 [vp 31 0, vi v26] (83, ([some (vp 31 0), some (vi p0), some (vi v7)], ([], G x m27))) rfl rfl (Cl.mono h (Nat.le_refl _) ?_)
                              rintro r ⟨m29, rfl, h⟩
                              · show Wp X (d + 1) 253 (83, ([some (vp 31 0), some (vi p0), some (vi v7)], ([], G x m29))) Q
                                refine wp_run 2 true (85, ([some (vp 31 0), some (vi p0), some (vi v7)], ([vi v7, vp 31 0], G x m29))) rfl rfl ?_
                                refine wp_call 192 [vp 31 0, vi v7] (88, ([some (vp 31 0), some (vi p0), some (vi v7)], ([], G x m29))) rfl rfl (Cl.mono h (Nat.le_refl _) ?_)
                                rintro r ⟨v30, m31, rfl, h⟩
                                · show Wp X (d + 1) 253 (88, ([some (vp 31 0), some (vi p0), some (vi v7)], ([vi v30], G x m31))) Q
                                  refine wp_run 1 true ((bif decide (¬ v30 = 0) then 97 else 91), ([some (vp 31 0), some (vi p0), some (vi v7)], ([], G x m31))) rfl rfl ?_
                                  refine wp_if (¬ v30 = 0) (fun c32 => ?_) (fun c32 => ?_)
                                  · have h := h.1 c32
                                    refine wp_run 2 true (101, ([some (vp 31 0), some (vi p0), some (vi v7)], ([vi (m31 31 0 14)], G x m31))) rfl rfl ?_
                                    exact wp_ret rfl h
                                  · have h := h.2 c32
                                    refine wp_run 2 true (94, ([some (vp 31 0), some (vi p0), some (vi v7)], ([vi 103, vp 31 0], G x m31))) rfl rfl ?_
                                    refine wp_call 250 [vp 31 0, vi 103] (97, ([some (vp 31 0), some (vi p0), some (vi v7)], ([], G x m31))) rfl rfl (Cl.mono h (Nat.le_refl _) ?_)
                                    rintro r ⟨m34, rfl, h⟩
                                    · show Wp X (d + 1) 253 (97, ([some (vp 31 0), some (vi p0), some (vi v7)], ([], G x m34))) Q
                                      refine wp_run 2 true (101, ([some (vp 31 0), some (vi p0), some (vi v7)], ([vi (m34 31 0 14)], G x m34))) rfl rfl ?_
                                      exact wp_ret rfl h
        · have h := h.2 c6
          refine wp_run 1 true (21, ([some (vp 31 0), some (vi p0), none], ([vi 0], G x m5))) rfl rfl ?_
          exact wp_ret rfl h
    · have h := h.2 c3
      refine wp_run 2 true (14, ([some (vp 31 0), some (vi p0), none], ([vi 1, vp 31 0], G x m2))) rfl rfl ?_
      refine wp_call 196 [vp 31 0, vi 1] (17, ([some (vp 31 0), some (vi p0), none], ([], G x m2))) rfl rfl (Cl.mono h (Nat.le_refl _) ?_)
      rintro r ⟨v35, m36, rfl, h⟩
      · show Wp X (d + 1) 253 (17, ([some (vp 31 0), some (vi p0), none], ([vi v35], G x m36))) Q
        refine wp_run 1 true ((bif decide (v35 ≤ 0) then 22 else 20), ([some (vp 31 0), some (vi p0), none], ([], G x m36))) rfl rfl ?_
        refine wp_if (v35 ≤ 0) (fun c37 => ?_) (fun c37 => ?_)
        · have h := h.1 c37
          refine wp_run 2 true (24, ([some (vp 31 0), some (vi p0), none], ([vi p0, vp 31 0], G x m36))) rfl rfl ?_
          refine wp_call 156 [vp 31 0, vi p0] (27, ([some (vp 31 0), some (vi p0), none], ([], G x m36))) rfl rfl (Cl.mono h (Nat.le_refl _) ?_)
          rintro r ⟨v38, m39, rfl, h⟩
          · show Wp X (d + 1) 253 (27, ([some (vp 31 0), some (vi p0), none], ([vi v38], G x m39))) Q
            refine wp_run 4 true (33, ([some (vp 31 0), some (vi p0), some (vi v38)], ([], G x (mup m39 31 0 14 0)))) rfl rfl ?_
            refine wpg (fun m40 => Wp X (d + 1) 253 (33, ([some (vp 31 0), some (vi p0), some (vi v38)], ([], G x m40))) Q) (mup m39 31 0 14 0) (fun m40 hm40 => ?_)
            have h := h m40 hm40
            refine wp_run 2 true (35, ([some (vp 31 0), some (vi p0), some (vi v38)], ([vi p0, vp 31 0], G x m40))) rfl rfl ?_
            refine wp_call 251 [vp 31 0, vi p0] (38, ([some (vp 31 0), some (vi p0), some (vi v38)], ([], G x m40))) rfl rfl (Cl.mono h (Nat.le_refl _) ?_)
            rintro r ⟨m42, rfl, h⟩
            · show Wp X (d + 1) 253 (38, ([some (vp 31 0), some (vi p0), some (vi v38)], ([], G x m42))) Q
              refine wp_run 2 true (41, ([some (vp 31 0), some (vi p0), some (vi v38)], ([vi 35, vp 31 0], G x m42))) rfl rfl ?_
              refine wp_call 250 [vp 31 0, vi 35] (44, ([some (vp 31 0), some (vi p0), some (vi v38)], ([], G x m42))) rfl rfl (Cl.mono h (Nat.le_refl _) ?_)
              rintro r ⟨m44, rfl, h⟩
              · show Wp X (d + 1) 253 (44, ([some (vp 31 0), some (vi p0), some (vi v38)], ([], G x m44))) Q
                refine wp_run 2 true (46, ([some (vp 31 0), some (vi p0), some (vi v38)], ([vi v38, vp 31 0], G x m44))) rfl rfl ?_
                refine wp_call 152 [vi v38] (49, ([some (vp 31 0), some (vi p0), some (vi v38)], ([vp 31 0], G x m44))) rfl rfl (Cl.mono h (Nat.le_refl _) ?_)
                rintro r ⟨v45, m46, rfl, h⟩
                · show Wp X (d + 1) 253 (49, ([some (vp 31 0), some (vi p0), some (vi v38)], ([vi v45, vp 31 0], G x m46))) Q
                  refine wp_call 252 [vp 31 0, vi v45] (52, ([some (vp 31 0), some (vi p0), some (vi v38)], ([], G x m46))) rfl rfl (Cl.mono h (Nat.le_refl _) ?_)
                  rintro r ⟨m48, rfl, h⟩
                  · show Wp X (d + 1) 253 (52, ([some (vp 31 0), some (vi p0), some (vi v38)], ([], G x m48))) Q
                    refine wp_run 2 true (55, ([some (vp 31 0), some (vi p0), some (vi v38)], ([vi 102, vp 31 0], G x m48))) rfl rfl ?_
                    refine wp_call 250 [vp 31 0, vi 102] (58, ([some (vp 31 0), some (vi p0), some (vi v38)], ([], G x m48))) rfl rfl (Cl.mono h (Nat.le_refl _) ?_)
                    rintro r ⟨m50, rfl, h⟩
                    · show Wp X (d + 1) 253 (58, ([some (vp 31 0), some (vi p0), some (vi v38)], ([], G x m50))) Q
                      refine wp_run 4 true (62, ([some (vp 31 0), some (vi p0), some (vi v38)], ([vi 4, vi v38, vp 31 0, vp 31 0], G x m50))) rfl rfl ?_
                      refine wp_call 154 [vp 31 0, vi v38, vi 4] (65, ([some (vp 31 0), some (vi p0), some (vi v38)], ([vp 31 0], G x m50))) rfl rfl (Cl.mono h (Nat.le_refl _) ?_)
                      rintro r ⟨v51, m52, rfl, h⟩
                      · show Wp X (d + 1) 253 (65, ([some (vp 31 0), some (vi p0), some (vi v38)], ([vi v51, vp 31 0], G x m52))) Q
                        refine wp_call 251 [vp 31 0, vi v51] (68, ([some (vp 31 0), some (vi p0), some (vi v38)], ([], G x m52))) rfl rfl (Cl.mono h (Nat.le_refl _) ?_)
                        rintro r ⟨m54, rfl, h⟩
                        · show Wp X (d + 1) 253 (68, ([some (vp 31 0), some (vi p0), some (vi v38)], ([], G x m54))) Q
                          refine wp_run 2 true (71, ([some (vp 31 0), some (vi p0), some (vi v38)], ([vi 100, vp 31 0], G x m54))) rfl rfl ?_
                          refine wp_call 250 [vp 31 0, vi 100] (74, ([some (vp 31 0), some (vi p0), some (vi v38)], ([], G x m54))) rfl rfl (Cl.mono h (Nat.le_refl _) ?_)
                          rintro r ⟨m56, rfl, h⟩
                          · show Wp X (d + 1) 253 (74, ([some (vp 31 0), some (vi p0), some (vi v38)], ([], G x m56))) Q
                            refine wp_run 3 true (77, ([some (vp 31 0), some (vi p0), some (vi v38)], ([vi v38, vp 31 0, vp 31 0], G x m56))) rfl rfl ?_
                            refine wp_call 190 [vp 31 0, vi v38] (80, ([some (vp 31 0), some (vi p0), some (vi v38)], ([vp 31 0], G x m56))) rfl rfl (Cl.mono h (Nat.le_refl _) ?_)
                            rintro r ⟨v57, m58, rfl, h⟩
                            · show Wp X (d + 1) 253 (80, ([some (vp 31 0), some (vi p0), some (vi v38)], ([vi v57, vp 31 0], G x m58))) Q
                              refine wp_call 251 [vp 31 0, vi v57] (83, ([some (vp 31 0), some (vi p0), some (vi v38)], ([], G x m58))) rfl rfl (Cl.mono h (Nat.le_refl _) ?_)
                              rintro r ⟨m60, rfl, h⟩
                              · show Wp X (d + 1) 253 (83, ([some (vp 31 0), some (vi p0), some (vi v38)], ([], G x m60))) Q
                                refine wp_run 2 true (85, ([some (vp 31 0), some (vi p0), some (vi v38)], ([vi v38, vp 31 0], G x m60))) rfl rfl ?_
                                refine wp_call 192 [vp 31 0, vi v38] (88, ([some (vp 31 0), some (vi p0), some (vi v38)], ([], G x m60))) rfl rfl (Cl.mono h (Nat.le_refl _) ?_)
                                rintro r ⟨v61, m62, rfl, h⟩
                                · show Wp X (d + 1) 253 (88, ([some (vp 31 0), some (vi p0), some (vi v38)], ([vi v61], G x m62))) Q
                                  refine wp_run 1 true ((bif decide (¬ v61 = 0) then 97 else 91), ([some (vp 31 0), some (vi p0), some (vi v38)], ([], G x m62))) rfl rfl ?_
                                  refine wp_if (¬ v61 = 0) (fun c63 => ?_) (fun c63 => ?_)
                                  · have h := h.1 c63
                                    refine wp_run 2 true (101, ([some (vp 31 0), some (vi p0), some (vi v38)], ([vi (m62 31 0 14)], G x m62))) rfl rfl ?_
                                    exact wp_ret rfl h
                                  · have h := h.2 c63
                                    refine wp_run 2 true (94, ([some (vp 31 0), some (vi p0), some (vi v38)], ([vi 103, vp 31 0], G x m62))) rfl rfl ?_
                                    refine wp_call 250 [vp 31 0, vi 103] (97, ([some (vp 31 0), some (vi p0), some (vi v38)], ([], G x m62))) rfl rfl (Cl.mono h (Nat.le_refl _) ?_)
                                    rintro r ⟨m65, rfl, h⟩
                                    · show Wp X (d + 1) 253 (97, ([some (vp 31 0), some (vi p0), some (vi v38)], ([], G x m65))) Q
                                      refine wp_run 2 true (101, ([some (vp 31 0), some (vi p0), some (vi v38)], ([vi (m65 31 0 14)], G x m65))) rfl rfl ?_
                                      exact wp_ret rfl h
        · have h := h.2 c37
          refine wp_run 1 true (21, ([some (vp 31 0), some (vi p0), none], ([vi 0], G x m36))) rfl rfl ?_
          exact wp_ret rfl h
set_option maxRecDepth 100000 in
set_option maxHeartbeats 4000000 in
theorem vc_X11_renderReport {X : MX} {d : Nat} {x : Int64 × UInt64} {m : MI} {Q : MRes → Prop} {p0 : Int32} (h : Cl X d 157 [vp 31 0, vi p0] (G x m) (fun r => ∃ (v1 : Int32) (m2 : MI), r = (.inl (some (vi v1)), G x m2) ∧ ((v1 < 0 → Cl X d 196 [vp 31 0, vi 0] (G x m2) (fun r => ∃ (v4 : Int32) (m5 : MI), r = (.inl (some (vi v4)), G x m5) ∧ ((v4 ≤ 0 → Cl X d 157 [vp 31 0, vi p0] (G x m5) (fun r => ∃ (v7 : Int32) (m8 : MI), r = (.inl (some (vi v7)), G x m8) ∧ (∀ m9 : MI, m9 = mup m8 31 0 14 0 → Cl X d 251 [vp 31 0, vi p0] (G x m9) (fun r => ∃ (m11 : MI), r = (.inl none, G x m11) ∧ Cl X d 250 [vp 31 0, vi 63] (G x m11) (fun r => ∃ (m13 : MI), r = (.inl none, G x m13) ∧ Cl X d 153 [vi v7] (G x m13) (fun r => ∃ (v14 : Int32) (m15 : MI), r = (.inl (some (vi v14)), G x m15) ∧ Cl X d 252 [vp 31 0, vi v14] (G x m15) (fun r => ∃ (m17 : MI), r = (.inl none, G x m17) ∧ Cl X d 250 [vp 31 0, vi 126] (G x m17) (fun r => ∃ (m19 : MI), r = (.inl none, G x m19) ∧ Cl X d 155 [vp 31 0, vi v7, vi 4] (G x m19) (fun r => ∃ (v20 : Int32) (m21 : MI), r = (.inl (some (vi v20)), G x m21) ∧ Cl X d 251 [vp 31 0, vi v20] (G x m21) (fun r => ∃ (m23 : MI), r = (.inl none, G x m23) ∧ Cl X d 250 [vp 31 0, vi 43] (G x m23) (fun r => ∃ (m25 : MI), r = (.inl none, G x m25) ∧ Cl X d 155 [vp 31 0, vi v7, vi 5] (G x m25) (fun r => ∃ (v26 : Int32) (m27 : MI), r = (.inl (some (vi v26)), G x m27) ∧ Cl X d 251 [vp 31 0, vi v26] (G x m27) (fun r => ∃ (m29 : MI), r = (.inl none, G x m29) ∧ Q (.inl (some (vi (m29 31 0 14))), G x m29)))))))))))))) ∧ (¬ (v4 ≤ 0) → Q (.inl (some (vi 0)), G x m5))))) ∧ (¬ (v1 < 0) → Cl X d 196 [vp 31 0, vi 1] (G x m2) (fun r => ∃ (v30 : Int32) (m31 : MI), r = (.inl (some (vi v30)), G x m31) ∧ ((v30 ≤ 0 → Cl X d 157 [vp 31 0, vi p0] (G x m31) (fun r => ∃ (v33 : Int32) (m34 : MI), r = (.inl (some (vi v33)), G x m34) ∧ (∀ m35 : MI, m35 = mup m34 31 0 14 0 → Cl X d 251 [vp 31 0, vi p0] (G x m35) (fun r => ∃ (m37 : MI), r = (.inl none, G x m37) ∧ Cl X d 250 [vp 31 0, vi 63] (G x m37) (fun r => ∃ (m39 : MI), r = (.inl none, G x m39) ∧ Cl X d 153 [vi v33] (G x m39) (fun r => ∃ (v40 : Int32) (m41 : MI), r = (.inl (some (vi v40)), G x m41) ∧ Cl X d 252 [vp 31 0, vi v40] (G x m41) (fun r => ∃ (m43 : MI), r = (.inl none, G x m43) ∧ Cl X d 250 [vp 31 0, vi 126] (G x m43) (fun r => ∃ (m45 : MI), r = (.inl none, G x m45) ∧ Cl X d 155 [vp 31 0, vi v33, vi 4] (G x m45) (fun r => ∃ (v46 : Int32) (m47 : MI), r = (.inl (some (vi v46)), G x m47) ∧ Cl X d 251 [vp 31 0, vi v46] (G x m47) (fun r => ∃ (m49 : MI), r = (.inl none, G x m49) ∧ Cl X d 250 [vp 31 0, vi 43] (G x m49) (fun r => ∃ (m51 : MI), r = (.inl none, G x m51) ∧ Cl X d 155 [vp 31 0, vi v33, vi 5] (G x m51) (fun r => ∃ (v52 : Int32) (m53 : MI), r = (.inl (some (vi v52)), G x m53) ∧ Cl X d 251 [vp 31 0, vi v52] (G x m53) (fun r => ∃ (m55 : MI), r = (.inl none, G x m55) ∧ Q (.inl (some (vi (m55 31 0 14))), G x m55)))))))))))))) ∧ (¬ (v30 ≤ 0) → Q (.inl (some (vi 0)), G x m31)))))))) : Cl X (d + 1) 254 [vp 31 0, vi p0] (G x m) Q := by
  show Wp X (d + 1) 254 (0, ([some (vp 31 0), some (vi p0), none], ([], G x m))) Q
  refine wp_run 3 true (3, ([some (vp 31 0), some (vi p0), none], ([vi p0, vp 31 0, vp 31 0], G x m))) rfl rfl ?_
  refine wp_call 157 [vp 31 0, vi p0] (6, ([some (vp 31 0), some (vi p0), none], ([vp 31 0], G x m))) rfl rfl (Cl.mono h (Nat.le_refl _) ?_)
  rintro r ⟨v1, m2, rfl, h⟩
  · show Wp X (d + 1) 254 (6, ([some (vp 31 0), some (vi p0), none], ([vi v1, vp 31 0], G x m2))) Q
    refine wp_run 1 true ((bif decide (v1 < 0) then 13 else 9), ([some (vp 31 0), some (vi p0), none], ([vp 31 0], G x m2))) rfl rfl ?_
    refine wp_if (v1 < 0) (fun c3 => ?_) (fun c3 => ?_)
    · have h := h.1 c3
      refine wp_run 1 true (14, ([some (vp 31 0), some (vi p0), none], ([vi 0, vp 31 0], G x m2))) rfl rfl ?_
      refine wp_call 196 [vp 31 0, vi 0] (17, ([some (vp 31 0), some (vi p0), none], ([], G x m2))) rfl rfl (Cl.mono h (Nat.le_refl _) ?_)
      rintro r ⟨v4, m5, rfl, h⟩
      · show Wp X (d + 1) 254 (17, ([some (vp 31 0), some (vi p0), none], ([vi v4], G x m5))) Q
        refine wp_run 1 true ((bif decide (v4 ≤ 0) then 22 else 20), ([some (vp 31 0), some (vi p0), none], ([], G x m5))) rfl rfl ?_
        refine wp_if (v4 ≤ 0) (fun c6 => ?_) (fun c6 => ?_)
        · have h := h.1 c6
          refine wp_run 2 true (24, ([some (vp 31 0), some (vi p0), none], ([vi p0, vp 31 0], G x m5))) rfl rfl ?_
          refine wp_call 157 [vp 31 0, vi p0] (27, ([some (vp 31 0), some (vi p0), none], ([], G x m5))) rfl rfl (Cl.mono h (Nat.le_refl _) ?_)
          rintro r ⟨v7, m8, rfl, h⟩
          · show Wp X (d + 1) 254 (27, ([some (vp 31 0), some (vi p0), none], ([vi v7], G x m8))) Q
            refine wp_run 4 true (33, ([some (vp 31 0), some (vi p0), some (vi v7)], ([], G x (mup m8 31 0 14 0)))) rfl rfl ?_
            refine wpg (fun m9 => Wp X (d + 1) 254 (33, ([some (vp 31 0), some (vi p0), some (vi v7)], ([], G x m9))) Q) (mup m8 31 0 14 0) (fun m9 hm9 => ?_)
            have h := h m9 hm9
            refine wp_run 2 true (35, ([some (vp 31 0), some (vi p0), some (vi v7)], ([vi p0, vp 31 0], G x m9))) rfl rfl ?_
            refine wp_call 251 [vp 31 0, vi p0] (38, ([some (vp 31 0), some (vi p0), some (vi v7)], ([], G x m9))) rfl rfl (Cl.mono h (Nat.le_refl _) ?_)
            rintro r ⟨m11, rfl, h⟩
            · show Wp X (d + 1) 254 (38, ([some (vp 31 0), some (vi p0), some (vi v7)], ([], G x m11))) Q
              refine wp_run 2 true (41, ([some (vp 31 0), some (vi p0), some (vi v7)], ([vi 63, vp 31 0], G x m11))) rfl rfl ?_
              refine wp_call 250 [vp 31 0, vi 63] (44, ([some (vp 31 0), some (vi p0), some (vi v7)], ([], G x m11))) rfl rfl (Cl.mono h (Nat.le_refl _) ?_)
              rintro r ⟨m13, rfl, h⟩
              · show Wp X (d + 1) 254 (44, ([some (vp 31 0), some (vi p0), some (vi v7)], ([], G x m13))) Q
                refine wp_run 2 true (46, ([some (vp 31 0), some (vi p0), some (vi v7)], ([vi v7, vp 31 0], G x m13))) rfl rfl ?_
                refine wp_call 153 [vi v7] (49, ([some (vp 31 0), some (vi p0), some (vi v7)], ([vp 31 0], G x m13))) rfl rfl (Cl.mono h (Nat.le_refl _) ?_)
                rintro r ⟨v14, m15, rfl, h⟩
                · show Wp X (d + 1) 254 (49, ([some (vp 31 0), some (vi p0), some (vi v7)], ([vi v14, vp 31 0], G x m15))) Q
                  refine wp_call 252 [vp 31 0, vi v14] (52, ([some (vp 31 0), some (vi p0), some (vi v7)], ([], G x m15))) rfl rfl (Cl.mono h (Nat.le_refl _) ?_)
                  rintro r ⟨m17, rfl, h⟩
                  · show Wp X (d + 1) 254 (52, ([some (vp 31 0), some (vi p0), some (vi v7)], ([], G x m17))) Q
                    refine wp_run 2 true (55, ([some (vp 31 0), some (vi p0), some (vi v7)], ([vi 126, vp 31 0], G x m17))) rfl rfl ?_
                    refine wp_call 250 [vp 31 0, vi 126] (58, ([some (vp 31 0), some (vi p0), some (vi v7)], ([], G x m17))) rfl rfl (Cl.mono h (Nat.le_refl _) ?_)
                    rintro r ⟨m19, rfl, h⟩
                    · show Wp X (d + 1) 254 (58, ([some (vp 31 0), some (vi p0), some (vi v7)], ([], G x m19))) Q
                      refine wp_run 4 true (62, ([some (vp 31 0), some (vi p0), some (vi v7)], ([vi 4, vi v7, vp 31 0, vp 31 0], G x m19))) rfl rfl ?_
                      refine wp_call 155 [vp 31 0, vi v7, vi 4] (65, ([some (vp 31 0), some (vi p0), some (vi v7)], ([vp 31 0], G x m19))) rfl rfl (Cl.mono h (Nat.le_refl _) ?_)
                      rintro r ⟨v20, m21, rfl, h⟩
                      · show Wp X (d + 1) 254 (65, ([some (vp 31 0), some (vi p0), some (vi v7)], ([vi v20, vp 31 0], G x m21))) Q
                        refine wp_call 251 [vp 31 0, vi v20] (68, ([some (vp 31 0), some (vi p0), some (vi v7)], ([], G x m21))) rfl rfl (Cl.mono h (Nat.le_refl _) ?_)
                        rintro r ⟨m23, rfl, h⟩
                        · show Wp X (d + 1) 254 (68, ([some (vp 31 0), some (vi p0), some (vi v7)], ([], G x m23))) Q
                          refine wp_run 2 true (71, ([some (vp 31 0), some (vi p0), some (vi v7)], ([vi 43, vp 31 0], G x m23))) rfl rfl ?_
                          refine wp_call 250 [vp 31 0, vi 43] (74, ([some (vp 31 0), some (vi p0), some (vi v7)], ([], G x m23))) rfl rfl (Cl.mono h (Nat.le_refl _) ?_)
                          rintro r ⟨m25, rfl, h⟩
                          · show Wp X (d + 1) 254 (74, ([some (vp 31 0), some (vi p0), some (vi v7)], ([], G x m25))) Q
                            refine wp_run 4 true (78, ([some (vp 31 0), some (vi p0), some (vi v7)], ([vi 5, vi v7, vp 31 0, vp 31 0], G x m25))) rfl rfl ?_
                            refine wp_call 155 [vp 31 0, vi v7, vi 5] (81, ([some (vp 31 0), some (vi p0), some (vi v7)], ([vp 31 0], G x m25))) rfl rfl (Cl.mono h (Nat.le_refl _) ?_)
                            rintro r ⟨v26, m27, rfl, h⟩
                            · show Wp X (d + 1) 254 (81, ([some (vp 31 0), some (vi p0), some (vi v7)], ([vi v26, vp 31 0], G x m27))) Q
                              refine wp_call 251 [vp 31 0, vi v26] (84, ([some (vp 31 0), some (vi p0), some (vi v7)], ([], G x m27))) rfl rfl (Cl.mono h (Nat.le_refl _) ?_)
                              rintro r ⟨m29, rfl, h⟩
                              · show Wp X (d + 1) 254 (84, ([some (vp 31 0), some (vi p0), some (vi v7)], ([], G x m29))) Q
                                refine wp_run 2 true (88, ([some (vp 31 0), some (vi p0), some (vi v7)], ([vi (m29 31 0 14)], G x m29))) rfl rfl ?_
                                exact wp_ret rfl h
        · have h := h.2 c6
          refine wp_run 1 true (21, ([some (vp 31 0), some (vi p0), none], ([vi 0], G x m5))) rfl rfl ?_
          exact wp_ret rfl h
    · have h := h.2 c3
      refine wp_run 2 true (14, ([some (vp 31 0), some (vi p0), none], ([vi 1, vp 31 0], G x m2))) rfl rfl ?_
      refine wp_call 196 [vp 31 0, vi 1] (17, ([some (vp 31 0), some (vi p0), none], ([], G x m2))) rfl rfl (Cl.mono h (Nat.le_refl _) ?_)
      rintro r ⟨v30, m31, rfl, h⟩
      · show Wp X (d + 1) 254 (17, ([some (vp 31 0), some (vi p0), none], ([vi v30], G x m31))) Q
        refine wp_run 1 true ((bif decide (v30 ≤ 0) then 22 else 20), ([some (vp 31 0), some (vi p0), none], ([], G x m31))) rfl rfl ?_
        refine wp_if (v30 ≤ 0) (fun c32 => ?_) (fun c32 => ?_)
        · have h := h.1 c32
          refine wp_run 2 true (24, ([some (vp 31 0), some (vi p0), none], ([vi p0, vp 31 0], G x m31))) rfl rfl ?_
          refine wp_call 157 [vp 31 0, vi p0] (27, ([some (vp 31 0), some (vi p0), none], ([], G x m31))) rfl rfl (Cl.mono h (Nat.le_refl _) ?_)
          rintro r ⟨v33, m34, rfl, h⟩
          · show Wp X (d + 1) 254 (27, ([some (vp 31 0), some (vi p0), none], ([vi v33], G x m34))) Q
            refine wp_run 4 true (33, ([some (vp 31 0), some (vi p0), some (vi v33)], ([], G x (mup m34 31 0 14 0)))) rfl rfl ?_
            refine wpg (fun m35 => Wp X (d + 1) 254 (33, ([some (vp 31 0), some (vi p0), some (vi v33)], ([], G x m35))) Q) (mup m34 31 0 14 0) (fun m35 hm35 => ?_)
            have h := h m35 hm35
            refine wp_run 2 true (35, ([some (vp 31 0), some (vi p0), some (vi v33)], ([vi p0, vp 31 0], G x m35))) rfl rfl ?_
            refine wp_call 251 [vp 31 0, vi p0] (38, ([some (vp 31 0), some (vi p0), some (vi v33)], ([], G x m35))) rfl rfl (Cl.mono h (Nat.le_refl _) ?_)
            rintro r ⟨m37, rfl, h⟩
            · show Wp X (d + 1) 254 (38, ([some (vp 31 0), some (vi p0), some (vi v33)], ([], G x m37))) Q
              refine wp_run 2 true (41, ([some (vp 31 0), some (vi p0), some (vi v33)], ([vi 63, vp 31 0], G x m37))) rfl rfl ?_
              refine wp_call 250 [vp 31 0, vi 63] (44, ([some (vp 31 0), some (vi p0), some (vi v33)], ([], G x m37))) rfl rfl (Cl.mono h (Nat.le_refl _) ?_)
              rintro r ⟨m39, rfl, h⟩
              · show Wp X (d + 1) 254 (44, ([some (vp 31 0), some (vi p0), some (vi v33)], ([], G x m39))) Q
                refine wp_run 2 true (46, ([some (vp 31 0), some (vi p0), some (vi v33)], ([vi v33, vp 31 0], G x m39))) rfl rfl ?_
                refine wp_call 153 [vi v33] (49, ([some (vp 31 0), some (vi p0), some (vi v33)], ([vp 31 0], G x m39))) rfl rfl (Cl.mono h (Nat.le_refl _) ?_)
                rintro r ⟨v40, m41, rfl, h⟩
                · show Wp X (d + 1) 254 (49, ([some (vp 31 0), some (vi p0), some (vi v33)], ([vi v40, vp 31 0], G x m41))) Q
                  refine wp_call 252 [vp 31 0, vi v40] (52, ([some (vp 31 0), some (vi p0), some (vi v33)], ([], G x m41))) rfl rfl (Cl.mono h (Nat.le_refl _) ?_)
                  rintro r ⟨m43, rfl, h⟩
                  · show Wp X (d + 1) 254 (52, ([some (vp 31 0), some (vi p0), some (vi v33)], ([], G x m43))) Q
                    refine wp_run 2 true (55, ([some (vp 31 0), some (vi p0), some (vi v33)], ([vi 126, vp 31 0], G x m43))) rfl rfl ?_
                    refine wp_call 250 [vp 31 0, vi 126] (58, ([some (vp 31 0), some (vi p0), some (vi v33)], ([], G x m43))) rfl rfl (Cl.mono h (Nat.le_refl _) ?_)
                    rintro r ⟨m45, rfl, h⟩
                    · show Wp X (d + 1) 254 (58, ([some (vp 31 0), some (vi p0), some (vi v33)], ([], G x m45))) Q
                      refine wp_run 4 true (62, ([some (vp 31 0), some (vi p0), some (vi v33)], ([vi 4, vi v33, vp 31 0, vp 31 0], G x m45))) rfl rfl ?_
                      refine wp_call 155 [vp 31 0, vi v33, vi 4] (65, ([some (vp 31 0), some (vi p0), some (vi v33)], ([vp 31 0], G x m45))) rfl rfl (Cl.mono h (Nat.le_refl _) ?_)
                      rintro r ⟨v46, m47, rfl, h⟩
                      · show Wp X (d + 1) 254 (65, ([some (vp 31 0), some (vi p0), some (vi v33)], ([vi v46, vp 31 0], G x m47))) Q
                        refine wp_call 251 [vp 31 0, vi v46] (68, ([some (vp 31 0), some (vi p0), some (vi v33)], ([], G x m47))) rfl rfl (Cl.mono h (Nat.le_refl _) ?_)
                        rintro r ⟨m49, rfl, h⟩
                        · show Wp X (d + 1) 254 (68, ([some (vp 31 0), some (vi p0), some (vi v33)], ([], G x m49))) Q
                          refine wp_run 2 true (71, ([some (vp 31 0), some (vi p0), some (vi v33)], ([vi 43, vp 31 0], G x m49))) rfl rfl ?_
                          refine wp_call 250 [vp 31 0, vi 43] (74, ([some (vp 31 0), some (vi p0), some (vi v33)], ([], G x m49))) rfl rfl (Cl.mono h (Nat.le_refl _) ?_)
                          rintro r ⟨m51, rfl, h⟩
                          · show Wp X (d + 1) 254 (74, ([some (vp 31 0), some (vi p0), some (vi v33)], ([], G x m51))) Q
                            refine wp_run 4 true (78, ([some (vp 31 0), some (vi p0), some (vi v33)], ([vi 5, vi v33, vp 31 0, vp 31 0], G x m51))) rfl rfl ?_
                            refine wp_call 155 [vp 31 0, vi v33, vi 5] (81, ([some (vp 31 0), some (vi p0), some (vi v33)], ([vp 31 0], G x m51))) rfl rfl (Cl.mono h (Nat.le_refl _) ?_)
                            rintro r ⟨v52, m53, rfl, h⟩
                            · show Wp X (d + 1) 254 (81, ([some (vp 31 0), some (vi p0), some (vi v33)], ([vi v52, vp 31 0], G x m53))) Q
                              refine wp_call 251 [vp 31 0, vi v52] (84, ([some (vp 31 0), some (vi p0), some (vi v33)], ([], G x m53))) rfl rfl (Cl.mono h (Nat.le_refl _) ?_)
                              rintro r ⟨m55, rfl, h⟩
                              · show Wp X (d + 1) 254 (84, ([some (vp 31 0), some (vi p0), some (vi v33)], ([], G x m55))) Q
                                refine wp_run 2 true (88, ([some (vp 31 0), some (vi p0), some (vi v33)], ([vi (m55 31 0 14)], G x m55))) rfl rfl ?_
                                exact wp_ret rfl h
        · have h := h.2 c32
          refine wp_run 1 true (21, ([some (vp 31 0), some (vi p0), none], ([vi 0], G x m31))) rfl rfl ?_
          exact wp_ret rfl h
set_option maxRecDepth 100000 in
set_option maxHeartbeats 4000000 in
theorem vc_X11_outputAt {X : MX} {d : Nat} {x : Int64 × UInt64} {m : MI} {Q : MRes → Prop} {p0 : Int32} (h : Cl X d 147 [vi p0, vi 0, vi ((m 31 0 14) - 1)] (G x m) (fun r => ∃ (v1 : Int32) (m2 : MI), r = (.inl (some (vi v1)), G x m2) ∧ Cl X d 196 [vp 31 0, vi v1] (G x m2) (fun r => ∃ (v3 : Int32) (m4 : MI), r = (.inl (some (vi v3)), G x m4) ∧ ((v3 ≤ 0 → (inb p0 80 = true ∧ (okT 3 (((m4 39 0 p0.toNatClampNeg).toUInt32 % 65536).toInt32) = true ∧ Q (.inl (some (vi (((m4 39 0 p0.toNatClampNeg).toUInt32 % 65536).toInt32))), G x m4)))) ∧ (¬ (v3 ≤ 0) → Q (.inl (some (vi 32)), G x m4)))))) : Cl X (d + 1) 255 [vp 31 0, vi p0] (G x m) Q := by
  show Wp X (d + 1) 255 (0, ([some (vp 31 0), some (vi p0)], ([], G x m))) Q
  refine wp_run 7 true (9, ([some (vp 31 0), some (vi p0)], ([vi ((m 31 0 14) - 1), vi 0, vi p0, vp 31 0], G x m))) rfl rfl ?_
  refine wp_call 147 [vi p0, vi 0, vi ((m 31 0 14) - 1)] (12, ([some (vp 31 0), some (vi p0)], ([vp 31 0], G x m))) rfl rfl (Cl.mono h (Nat.le_refl _) ?_)
  rintro r ⟨v1, m2, rfl, h⟩
  · show Wp X (d + 1) 255 (12, ([some (vp 31 0), some (vi p0)], ([vi v1, vp 31 0], G x m2))) Q
    refine wp_call 196 [vp 31 0, vi v1] (15, ([some (vp 31 0), some (vi p0)], ([], G x m2))) rfl rfl (Cl.mono h (Nat.le_refl _) ?_)
    rintro r ⟨v3, m4, rfl, h⟩
    · show Wp X (d + 1) 255 (15, ([some (vp 31 0), some (vi p0)], ([vi v3], G x m4))) Q
      refine wp_run 1 true ((bif decide (v3 ≤ 0) then 23 else 18), ([some (vp 31 0), some (vi p0)], ([], G x m4))) rfl rfl ?_
      refine wp_if (v3 ≤ 0) (fun c5 => ?_) (fun c5 => ?_)
      · have h := h.1 c5
        obtain ⟨hg4_0, h⟩ := h
        refine wp_run 5 (inb p0 80 && true) (30, ([some (vp 31 0), some (vi p0)], ([vi (((m4 39 0 p0.toNatClampNeg).toUInt32 % 65536).toInt32)], G x m4))) rfl (and_t hg4_0 rfl) ?_
        exact wp_retT (okT 3 (((m4 39 0 p0.toNatClampNeg).toUInt32 % 65536).toInt32)) rfl h.1 h.2
      · have h := h.2 c5
        refine wp_run 2 true (30, ([some (vp 31 0), some (vi p0)], ([vi 32], G x m4))) rfl rfl ?_
        exact wp_ret rfl h
set_option maxRecDepth 100000 in
set_option maxHeartbeats 4000000 in
theorem vc_X11_type {X : MX} {d : Nat} {x : Int64 × UInt64} {m : MI} {Q : MRes → Prop} {p0 : Int32} (h : Cl X d 147 [vi p0, vi 32, vi 126] (G x m) (fun r => ∃ (v1 : Int32) (m2 : MI), r = (.inl (some (vi v1)), G x m2) ∧ ((¬ v1 = 0 → ((¬ (m2 31 0 18) = 60 → (∀ m5 : MI, m5 = mup m2 31 0 5 0 → (((m5 31 0 5) ≤ 0 → (inb (m5 31 0 18) 60 = true ∧ (∀ m7 : MI, m7 = mup m5 40 0 ((m5 31 0 18).toNatClampNeg) p0 → (∀ m8 : MI, m8 = mup m7 31 0 18 ((m7 31 0 18) + 1) → Q (.inl (some (vi (m8 31 0 18))), G x m8))))) ∧ (¬ ((m5 31 0 5) ≤ 0) → Q (.inl (some (vi 0)), G x m5))))) ∧ (¬ (¬ (m2 31 0 18) = 60) → (∀ m9 : MI, m9 = mup m2 31 0 5 2 → (((m9 31 0 5) ≤ 0 → (inb (m9 31 0 18) 60 = true ∧ (∀ m11 : MI, m11 = mup m9 40 0 ((m9 31 0 18).toNatClampNeg) p0 → (∀ m12 : MI, m12 = mup m11 31 0 18 ((m11 31 0 18) + 1) → Q (.inl (some (vi (m12 31 0 18))), G x m12))))) ∧ (¬ ((m9 31 0 5) ≤ 0) → Q (.inl (some (vi 0)), G x m9))))))) ∧ (¬ (¬ v1 = 0) → (∀ m13 : MI, m13 = mup m2 31 0 5 1 → (((m13 31 0 5) ≤ 0 → (inb (m13 31 0 18) 60 = true ∧ (∀ m15 : MI, m15 = mup m13 40 0 ((m13 31 0 18).toNatClampNeg) p0 → (∀ m16 : MI, m16 = mup m15 31 0 18 ((m15 31 0 18) + 1) → Q (.inl (some (vi (m16 31 0 18))), G x m16))))) ∧ (¬ ((m13 31 0 5) ≤ 0) → Q (.inl (some (vi 0)), G x m13)))))))) : Cl X (d + 1) 256 [vp 31 0, vi p0] (G x m) Q := by
  show Wp X (d + 1) 256 (0, ([some (vp 31 0), some (vi p0)], ([], G x m))) Q
  refine wp_run 4 true (6, ([some (vp 31 0), some (vi p0)], ([vi 126, vi 32, vi p0, vp 31 0], G x m))) rfl rfl ?_
  refine wp_call 147 [vi p0, vi 32, vi 126] (9, ([some (vp 31 0), some (vi p0)], ([vp 31 0], G x m))) rfl rfl (Cl.mono h (Nat.le_refl _) ?_)
  rintro r ⟨v1, m2, rfl, h⟩
  · show Wp X (d + 1) 256 (9, ([some (vp 31 0), some (vi p0)], ([vi v1, vp 31 0], G x m2))) Q
    refine wp_run 1 true ((bif decide (¬ v1 = 0) then 16 else 12), ([some (vp 31 0), some (vi p0)], ([vp 31 0], G x m2))) rfl rfl ?_
    refine wp_if (¬ v1 = 0) (fun c3 => ?_) (fun c3 => ?_)
    · have h := h.1 c3
      refine wp_run 4 true ((bif decide (¬ (m2 31 0 18) = 60) then 29 else 25), ([some (vp 31 0), some (vi p0)], ([vp 31 0], G x m2))) rfl rfl ?_
      refine wp_if (¬ (m2 31 0 18) = 60) (fun c4 => ?_) (fun c4 => ?_)
      · have h := h.1 c4
        refine wp_run 2 true (33, ([some (vp 31 0), some (vi p0)], ([], G x (mup m2 31 0 5 0)))) rfl rfl ?_
        refine wpg (fun m5 => Wp X (d + 1) 256 (33, ([some (vp 31 0), some (vi p0)], ([], G x m5))) Q) (mup m2 31 0 5 0) (fun m5 hm5 => ?_)
        have h := h m5 hm5
        refine wp_run 3 true ((bif decide ((m5 31 0 5) ≤ 0) then 42 else 40), ([some (vp 31 0), some (vi p0)], ([], G x m5))) rfl rfl ?_
        refine wp_if ((m5 31 0 5) ≤ 0) (fun c6 => ?_) (fun c6 => ?_)
        · have h := h.1 c6
          obtain ⟨hg5_0, h⟩ := h
          refine wp_run 6 (inb (m5 31 0 18) 60 && true) (52, ([some (vp 31 0), some (vi p0)], ([], G x (mup m5 40 0 ((m5 31 0 18).toNatClampNeg) p0)))) rfl (and_t hg5_0 rfl) ?_
          refine wpg (fun m7 => Wp X (d + 1) 256 (52, ([some (vp 31 0), some (vi p0)], ([], G x m7))) Q) (mup m5 40 0 ((m5 31 0 18).toNatClampNeg) p0) (fun m7 hm7 => ?_)
          have h := h m7 hm7
          refine wp_run 6 true (62, ([some (vp 31 0), some (vi p0)], ([], G x (mup m7 31 0 18 ((m7 31 0 18) + 1))))) rfl rfl ?_
          refine wpg (fun m8 => Wp X (d + 1) 256 (62, ([some (vp 31 0), some (vi p0)], ([], G x m8))) Q) (mup m7 31 0 18 ((m7 31 0 18) + 1)) (fun m8 hm8 => ?_)
          have h := h m8 hm8
          refine wp_run 2 true (66, ([some (vp 31 0), some (vi p0)], ([vi (m8 31 0 18)], G x m8))) rfl rfl ?_
          exact wp_ret rfl h
        · have h := h.2 c6
          refine wp_run 1 true (41, ([some (vp 31 0), some (vi p0)], ([vi 0], G x m5))) rfl rfl ?_
          exact wp_ret rfl h
      · have h := h.2 c4
        refine wp_run 3 true (33, ([some (vp 31 0), some (vi p0)], ([], G x (mup m2 31 0 5 2)))) rfl rfl ?_
        refine wpg (fun m9 => Wp X (d + 1) 256 (33, ([some (vp 31 0), some (vi p0)], ([], G x m9))) Q) (mup m2 31 0 5 2) (fun m9 hm9 => ?_)
        have h := h m9 hm9
        refine wp_run 3 true ((bif decide ((m9 31 0 5) ≤ 0) then 42 else 40), ([some (vp 31 0), some (vi p0)], ([], G x m9))) rfl rfl ?_
        refine wp_if ((m9 31 0 5) ≤ 0) (fun c10 => ?_) (fun c10 => ?_)
        · have h := h.1 c10
          obtain ⟨hg5_0, h⟩ := h
          refine wp_run 6 (inb (m9 31 0 18) 60 && true) (52, ([some (vp 31 0), some (vi p0)], ([], G x (mup m9 40 0 ((m9 31 0 18).toNatClampNeg) p0)))) rfl (and_t hg5_0 rfl) ?_
          refine wpg (fun m11 => Wp X (d + 1) 256 (52, ([some (vp 31 0), some (vi p0)], ([], G x m11))) Q) (mup m9 40 0 ((m9 31 0 18).toNatClampNeg) p0) (fun m11 hm11 => ?_)
          have h := h m11 hm11
          refine wp_run 6 true (62, ([some (vp 31 0), some (vi p0)], ([], G x (mup m11 31 0 18 ((m11 31 0 18) + 1))))) rfl rfl ?_
          refine wpg (fun m12 => Wp X (d + 1) 256 (62, ([some (vp 31 0), some (vi p0)], ([], G x m12))) Q) (mup m11 31 0 18 ((m11 31 0 18) + 1)) (fun m12 hm12 => ?_)
          have h := h m12 hm12
          refine wp_run 2 true (66, ([some (vp 31 0), some (vi p0)], ([vi (m12 31 0 18)], G x m12))) rfl rfl ?_
          exact wp_ret rfl h
        · have h := h.2 c10
          refine wp_run 1 true (41, ([some (vp 31 0), some (vi p0)], ([vi 0], G x m9))) rfl rfl ?_
          exact wp_ret rfl h
    · have h := h.2 c3
      refine wp_run 3 true (33, ([some (vp 31 0), some (vi p0)], ([], G x (mup m2 31 0 5 1)))) rfl rfl ?_
      refine wpg (fun m13 => Wp X (d + 1) 256 (33, ([some (vp 31 0), some (vi p0)], ([], G x m13))) Q) (mup m2 31 0 5 1) (fun m13 hm13 => ?_)
      have h := h m13 hm13
      refine wp_run 3 true ((bif decide ((m13 31 0 5) ≤ 0) then 42 else 40), ([some (vp 31 0), some (vi p0)], ([], G x m13))) rfl rfl ?_
      refine wp_if ((m13 31 0 5) ≤ 0) (fun c14 => ?_) (fun c14 => ?_)
      · have h := h.1 c14
        obtain ⟨hg4_0, h⟩ := h
        refine wp_run 6 (inb (m13 31 0 18) 60 && true) (52, ([some (vp 31 0), some (vi p0)], ([], G x (mup m13 40 0 ((m13 31 0 18).toNatClampNeg) p0)))) rfl (and_t hg4_0 rfl) ?_
        refine wpg (fun m15 => Wp X (d + 1) 256 (52, ([some (vp 31 0), some (vi p0)], ([], G x m15))) Q) (mup m13 40 0 ((m13 31 0 18).toNatClampNeg) p0) (fun m15 hm15 => ?_)
        have h := h m15 hm15
        refine wp_run 6 true (62, ([some (vp 31 0), some (vi p0)], ([], G x (mup m15 31 0 18 ((m15 31 0 18) + 1))))) rfl rfl ?_
        refine wpg (fun m16 => Wp X (d + 1) 256 (62, ([some (vp 31 0), some (vi p0)], ([], G x m16))) Q) (mup m15 31 0 18 ((m15 31 0 18) + 1)) (fun m16 hm16 => ?_)
        have h := h m16 hm16
        refine wp_run 2 true (66, ([some (vp 31 0), some (vi p0)], ([vi (m16 31 0 18)], G x m16))) rfl rfl ?_
        exact wp_ret rfl h
      · have h := h.2 c14
        refine wp_run 1 true (41, ([some (vp 31 0), some (vi p0)], ([vi 0], G x m13))) rfl rfl ?_
        exact wp_ret rfl h
set_option maxRecDepth 100000 in
set_option maxHeartbeats 4000000 in
theorem vc_X11_mark {X : MX} {d : Nat} {x : Int64 × UInt64} {m : MI} {Q : MRes → Prop} (h : ((¬ (m 31 0 22) = 0 → Q (.inl (some (vi (-1))), G x m)) ∧ (¬ (¬ (m 31 0 22) = 0) → (((m 31 0 19) ≤ (m 31 0 20) → Q (.inl (some (vi (-1))), G x m)) ∧ (¬ ((m 31 0 19) ≤ (m 31 0 20)) → (inb (m 31 0 20) 60 = true ∧ Q (.inl (some (vi (m 40 0 (m 31 0 20).toNatClampNeg))), G x m))))))) : Cl X d 257 [vp 31 0] (G x m) Q := by
  show Wp X d 257 (0, ([some (vp 31 0)], ([], G x m))) Q
  refine wp_run 3 true ((bif decide (¬ (m 31 0 22) = 0) then 30 else 7), ([some (vp 31 0)], ([], G x m))) rfl rfl ?_
  refine wp_if (¬ (m 31 0 22) = 0) (fun c1 => ?_) (fun c1 => ?_)
  · have h := h.1 c1
    refine wp_run 1 true (31, ([some (vp 31 0)], ([vi (-1)], G x m))) rfl rfl ?_
    exact wp_ret rfl h
  · have h := h.2 c1
    refine wp_run 5 true ((bif decide ((m 31 0 19) ≤ (m 31 0 20)) then 30 else 18), ([some (vp 31 0)], ([], G x m))) rfl rfl ?_
    refine wp_if ((m 31 0 19) ≤ (m 31 0 20)) (fun c2 => ?_) (fun c2 => ?_)
    · have h := h.1 c2
      refine wp_run 1 true (31, ([some (vp 31 0)], ([vi (-1)], G x m))) rfl rfl ?_
      exact wp_ret rfl h
    · have h := h.2 c2
      obtain ⟨hg3_0, h⟩ := h
      refine wp_run 6 (inb (m 31 0 20) 60 && true) (31, ([some (vp 31 0)], ([vi (m 40 0 (m 31 0 20).toNatClampNeg)], G x m))) rfl (and_t hg3_0 rfl) ?_
      exact wp_ret rfl h
set_option maxRecDepth 100000 in
set_option maxHeartbeats 4000000 in
theorem vc_X11_number {X : MX} {d : Nat} {x : Int64 × UInt64} {m : MI} {Q : MRes → Prop} (h : Cl X d 257 [vp 31 0] (G x m) (fun r => ∃ (v1 : Int32) (m2 : MI), r = (.inl (some (vi v1)), G x m2) ∧ Cl X d 147 [vi v1, vi 48, vi 57] (G x m2) (fun r => ∃ (v3 : Int32) (m4 : MI), r = (.inl (some (vi v3)), G x m4) ∧ ((¬ v3 = 0 → (okT 2 ((m 31 0 22) ||| 0) = true ∧ (∀ m6 : MI, m6 = mup m4 31 0 22 ((m 31 0 22) ||| 0) → Wp X (d + 1) 258 (32, ([some (vp 31 0), some (vi 0), some (vi 0)], ([], G x m6))) Q))) ∧ (¬ (¬ v3 = 0) → (okT 2 ((m 31 0 22) ||| 1) = true ∧ (∀ m7 : MI, m7 = mup m4 31 0 22 ((m 31 0 22) ||| 1) → Wp X (d + 1) 258 (32, ([some (vp 31 0), some (vi 0), some (vi 0)], ([], G x m7))) Q))))))) : Cl X (d + 1) 258 [vp 31 0] (G x m) Q := by
  show Wp X (d + 1) 258 (0, ([some (vp 31 0), none, none], ([], G x m))) Q
  refine wp_run 4 true (6, ([some (vp 31 0), none, none], ([vp 31 0, vi (m 31 0 22), vp 31 0], G x m))) rfl rfl ?_
  refine wp_call 257 [vp 31 0] (9, ([some (vp 31 0), none, none], ([vi (m 31 0 22), vp 31 0], G x m))) rfl rfl (Cl.mono h (Nat.le_refl _) ?_)
  rintro r ⟨v1, m2, rfl, h⟩
  · show Wp X (d + 1) 258 (9, ([some (vp 31 0), none, none], ([vi v1, vi (m 31 0 22), vp 31 0], G x m2))) Q
    refine wp_run 2 true (13, ([some (vp 31 0), none, none], ([vi 57, vi 48, vi v1, vi (m 31 0 22), vp 31 0], G x m2))) rfl rfl ?_
    refine wp_call 147 [vi v1, vi 48, vi 57] (16, ([some (vp 31 0), none, none], ([vi (m 31 0 22), vp 31 0], G x m2))) rfl rfl (Cl.mono h (Nat.le_refl _) ?_)
    rintro r ⟨v3, m4, rfl, h⟩
    · show Wp X (d + 1) 258 (16, ([some (vp 31 0), none, none], ([vi v3, vi (m 31 0 22), vp 31 0], G x m4))) Q
      refine wp_run 1 true ((bif decide (¬ v3 = 0) then 23 else 19), ([some (vp 31 0), none, none], ([vi (m 31 0 22), vp 31 0], G x m4))) rfl rfl ?_
      refine wp_if (¬ v3 = 0) (fun c5 => ?_) (fun c5 => ?_)
      · have h := h.1 c5
        obtain ⟨hg4_0, h⟩ := h
        refine wp_run 3 (okT 2 ((m 31 0 22) ||| 0) && true) (28, ([some (vp 31 0), none, none], ([], G x (mup m4 31 0 22 ((m 31 0 22) ||| 0))))) rfl (and_t hg4_0 rfl) ?_
        refine wpg (fun m6 => Wp X (d + 1) 258 (28, ([some (vp 31 0), none, none], ([], G x m6))) Q) (mup m4 31 0 22 ((m 31 0 22) ||| 0)) (fun m6 hm6 => ?_)
        have h := h m6 hm6
        refine wp_run 4 true (32, ([some (vp 31 0), some (vi 0), some (vi 0)], ([], G x m6))) rfl rfl ?_
        exact h
      · have h := h.2 c5
        obtain ⟨hg4_0, h⟩ := h
        refine wp_run 4 (okT 2 ((m 31 0 22) ||| 1) && true) (28, ([some (vp 31 0), none, none], ([], G x (mup m4 31 0 22 ((m 31 0 22) ||| 1))))) rfl (and_t hg4_0 rfl) ?_
        refine wpg (fun m7 => Wp X (d + 1) 258 (28, ([some (vp 31 0), none, none], ([], G x m7))) Q) (mup m4 31 0 22 ((m 31 0 22) ||| 1)) (fun m7 hm7 => ?_)
        have h := h m7 hm7
        refine wp_run 4 true (32, ([some (vp 31 0), some (vi 0), some (vi 0)], ([], G x m7))) rfl rfl ?_
        exact h
set_option maxRecDepth 100000 in
set_option maxHeartbeats 4000000 in
theorem vl_X11_number_32 {X : MX} {d : Nat} {x : Int64 × UInt64} {m : MI} {Q : MRes → Prop} {l1 : Int32} {l2 : Int32} (h : ((4 ≤ l2 → Q (.inl (some (vi l1)), G x m)) ∧ (¬ (4 ≤ l2) → Cl X d 257 [vp 31 0] (G x m) (fun r => ∃ (v2 : Int32) (m3 : MI), r = (.inl (some (vi v2)), G x m3) ∧ Cl X d 147 [vi v2, vi 48, vi 57] (G x m3) (fun r => ∃ (v4 : Int32) (m5 : MI), r = (.inl (some (vi v4)), G x m5) ∧ ((v4 = 0 → Q (.inl (some (vi l1)), G x m5)) ∧ (¬ (v4 = 0) → (inb (m5 31 0 20) 60 = true ∧ (∀ t7 : Int32, t7 = ((10 * l1) + (m5 40 0 (m5 31 0 20).toNatClampNeg)) - 48 → (∀ m8 : MI, m8 = mup m5 31 0 20 ((m5 31 0 20) + 1) → (∀ t9 : Int32, t9 = l2 + 1 → Wp X (d + 1) 258 (32, ([some (vp 31 0), some (vi t7), some (vi t9)], ([], G x m8))) Q))))))))))) : Wp X (d + 1) 258 (32, ([some (vp 31 0), some (vi l1), some (vi l2)], ([], G x m))) Q := by
  refine wp_run 3 true ((bif decide (4 ≤ l2) then 85 else 37), ([some (vp 31 0), some (vi l1), some (vi l2)], ([], G x m))) rfl rfl ?_
  refine wp_if (4 ≤ l2) (fun c1 => ?_) (fun c1 => ?_)
  · have h := h.1 c1
    refine wp_run 1 true (86, ([some (vp 31 0), some (vi l1), some (vi l2)], ([vi l1], G x m))) rfl rfl ?_
    exact wp_ret rfl h
  · have h := h.2 c1
    refine wp_run 1 true (38, ([some (vp 31 0), some (vi l1), some (vi l2)], ([vp 31 0], G x m))) rfl rfl ?_
    refine wp_call 257 [vp 31 0] (41, ([some (vp 31 0), some (vi l1), some (vi l2)], ([], G x m))) rfl rfl (Cl.mono h (Nat.le_refl _) ?_)
    rintro r ⟨v2, m3, rfl, h⟩
    · show Wp X (d + 1) 258 (41, ([some (vp 31 0), some (vi l1), some (vi l2)], ([vi v2], G x m3))) Q
      refine wp_run 2 true (45, ([some (vp 31 0), some (vi l1), some (vi l2)], ([vi 57, vi 48, vi v2], G x m3))) rfl rfl ?_
      refine wp_call 147 [vi v2, vi 48, vi 57] (48, ([some (vp 31 0), some (vi l1), some (vi l2)], ([], G x m3))) rfl rfl (Cl.mono h (Nat.le_refl _) ?_)
      rintro r ⟨v4, m5, rfl, h⟩
      · show Wp X (d + 1) 258 (48, ([some (vp 31 0), some (vi l1), some (vi l2)], ([vi v4], G x m5))) Q
        refine wp_run 1 true ((bif decide (v4 = 0) then 85 else 51), ([some (vp 31 0), some (vi l1), some (vi l2)], ([], G x m5))) rfl rfl ?_
        refine wp_if (v4 = 0) (fun c6 => ?_) (fun c6 => ?_)
        · have h := h.1 c6
          refine wp_run 1 true (86, ([some (vp 31 0), some (vi l1), some (vi l2)], ([vi l1], G x m5))) rfl rfl ?_
          exact wp_ret rfl h
        · have h := h.2 c6
          obtain ⟨hg5_0, h⟩ := h
          refine wp_run 12 (inb (m5 31 0 20) 60 && true) (69, ([some (vp 31 0), some (vi (((10 * l1) + (m5 40 0 (m5 31 0 20).toNatClampNeg)) - 48)), some (vi l2)], ([], G x m5))) rfl (and_t hg5_0 rfl) ?_
          refine wpg (fun t7 => Wp X (d + 1) 258 (69, ([some (vp 31 0), some (vi t7), some (vi l2)], ([], G x m5))) Q) (((10 * l1) + (m5 40 0 (m5 31 0 20).toNatClampNeg)) - 48) (fun t7 ht7 => ?_)
          have h := h t7 ht7
          refine wp_run 6 true (79, ([some (vp 31 0), some (vi t7), some (vi l2)], ([], G x (mup m5 31 0 20 ((m5 31 0 20) + 1))))) rfl rfl ?_
          refine wpg (fun m8 => Wp X (d + 1) 258 (79, ([some (vp 31 0), some (vi t7), some (vi l2)], ([], G x m8))) Q) (mup m5 31 0 20 ((m5 31 0 20) + 1)) (fun m8 hm8 => ?_)
          have h := h m8 hm8
          refine wp_run 1 true (82, ([some (vp 31 0), some (vi t7), some (vi (l2 + 1))], ([], G x m8))) rfl rfl ?_
          refine wpg (fun t9 => Wp X (d + 1) 258 (82, ([some (vp 31 0), some (vi t7), some (vi t9)], ([], G x m8))) Q) (l2 + 1) (fun t9 ht9 => ?_)
          have h := h t9 ht9
          refine wp_run 1 true (32, ([some (vp 31 0), some (vi t7), some (vi t9)], ([], G x m8))) rfl rfl ?_
          exact h
set_option maxRecDepth 100000 in
set_option maxHeartbeats 4000000 in
theorem vc_X11_reads {X : MX} {d : Nat} {x : Int64 × UInt64} {m : MI} {Q : MRes → Prop} {p0 : Int32} {p1 : Int32} (h : Cl X d 257 [vp 31 0] (G x m) (fun r => ∃ (v1 : Int32) (m2 : MI), r = (.inl (some (vi v1)), G x m2) ∧ ((v1 = p0 → (okT 2 ((m 31 0 22) ||| 0) = true ∧ (∀ m4 : MI, m4 = mup m2 31 0 22 ((m 31 0 22) ||| 0) → (((m4 31 0 22) = 0 → (∀ m6 : MI, m6 = mup m4 31 0 20 ((m4 31 0 20) + 1) → Cl X d 258 [vp 31 0] (G x m6) (fun r => ∃ (v7 : Int32) (m8 : MI), r = (.inl (some (vi v7)), G x m8) ∧ (inb ((8 * (m6 31 0 21)) + p1) 256 = true ∧ (∀ m9 : MI, m9 = mup m8 42 0 (((8 * (m6 31 0 21)) + p1).toNatClampNeg) v7 → Q (.inl none, G x m9)))))) ∧ (¬ ((m4 31 0 22) = 0) → (∀ m10 : MI, m10 = mup m4 31 0 20 ((m4 31 0 20) + 0) → Cl X d 258 [vp 31 0] (G x m10) (fun r => ∃ (v11 : Int32) (m12 : MI), r = (.inl (some (vi v11)), G x m12) ∧ (inb ((8 * (m10 31 0 21)) + p1) 256 = true ∧ (∀ m13 : MI, m13 = mup m12 42 0 (((8 * (m10 31 0 21)) + p1).toNatClampNeg) v11 → Q (.inl none, G x m13)))))))))) ∧ (¬ (v1 = p0) → (okT 2 ((m 31 0 22) ||| 1) = true ∧ (∀ m14 : MI, m14 = mup m2 31 0 22 ((m 31 0 22) ||| 1) → (((m14 31 0 22) = 0 → (∀ m16 : MI, m16 = mup m14 31 0 20 ((m14 31 0 20) + 1) → Cl X d 258 [vp 31 0] (G x m16) (fun r => ∃ (v17 : Int32) (m18 : MI), r = (.inl (some (vi v17)), G x m18) ∧ (inb ((8 * (m16 31 0 21)) + p1) 256 = true ∧ (∀ m19 : MI, m19 = mup m18 42 0 (((8 * (m16 31 0 21)) + p1).toNatClampNeg) v17 → Q (.inl none, G x m19)))))) ∧ (¬ ((m14 31 0 22) = 0) → (∀ m20 : MI, m20 = mup m14 31 0 20 ((m14 31 0 20) + 0) → Cl X d 258 [vp 31 0] (G x m20) (fun r => ∃ (v21 : Int32) (m22 : MI), r = (.inl (some (vi v21)), G x m22) ∧ (inb ((8 * (m20 31 0 21)) + p1) 256 = true ∧ (∀ m23 : MI, m23 = mup m22 42 0 (((8 * (m20 31 0 21)) + p1).toNatClampNeg) v21 → Q (.inl none, G x m23))))))))))))) : Cl X (d + 1) 259 [vp 31 0, vi p0, vi p1] (G x m) Q := by
  show Wp X (d + 1) 259 (0, ([some (vp 31 0), some (vi p0), some (vi p1)], ([], G x m))) Q
  refine wp_run 4 true (6, ([some (vp 31 0), some (vi p0), some (vi p1)], ([vp 31 0, vi (m 31 0 22), vp 31 0], G x m))) rfl rfl ?_
  refine wp_call 257 [vp 31 0] (9, ([some (vp 31 0), some (vi p0), some (vi p1)], ([vi (m 31 0 22), vp 31 0], G x m))) rfl rfl (Cl.mono h (Nat.le_refl _) ?_)
  rintro r ⟨v1, m2, rfl, h⟩
  · show Wp X (d + 1) 259 (9, ([some (vp 31 0), some (vi p0), some (vi p1)], ([vi v1, vi (m 31 0 22), vp 31 0], G x m2))) Q
    refine wp_run 2 true ((bif decide (v1 = p0) then 17 else 13), ([some (vp 31 0), some (vi p0), some (vi p1)], ([vi (m 31 0 22), vp 31 0], G x m2))) rfl rfl ?_
    refine wp_if (v1 = p0) (fun c3 => ?_) (fun c3 => ?_)
    · have h := h.1 c3
      obtain ⟨hg3_0, h⟩ := h
      refine wp_run 3 (okT 2 ((m 31 0 22) ||| 0) && true) (22, ([some (vp 31 0), some (vi p0), some (vi p1)], ([], G x (mup m2 31 0 22 ((m 31 0 22) ||| 0))))) rfl (and_t hg3_0 rfl) ?_
      refine wpg (fun m4 => Wp X (d + 1) 259 (22, ([some (vp 31 0), some (vi p0), some (vi p1)], ([], G x m4))) Q) (mup m2 31 0 22 ((m 31 0 22) ||| 0)) (fun m4 hm4 => ?_)
      have h := h m4 hm4
      refine wp_run 6 true ((bif decide ((m4 31 0 22) = 0) then 38 else 34), ([some (vp 31 0), some (vi p0), some (vi p1)], ([vi (m4 31 0 20), vp 31 0], G x m4))) rfl rfl ?_
      refine wp_if ((m4 31 0 22) = 0) (fun c5 => ?_) (fun c5 => ?_)
      · have h := h.1 c5
        refine wp_run 3 true (43, ([some (vp 31 0), some (vi p0), some (vi p1)], ([], G x (mup m4 31 0 20 ((m4 31 0 20) + 1))))) rfl rfl ?_
        refine wpg (fun m6 => Wp X (d + 1) 259 (43, ([some (vp 31 0), some (vi p0), some (vi p1)], ([], G x m6))) Q) (mup m4 31 0 20 ((m4 31 0 20) + 1)) (fun m6 hm6 => ?_)
        have h := h m6 hm6
        refine wp_run 9 true (57, ([some (vp 31 0), some (vi p0), some (vi p1)], ([vp 31 0, vi ((8 * (m6 31 0 21)) + p1), vp 42 0], G x m6))) rfl rfl ?_
        refine wp_call 258 [vp 31 0] (60, ([some (vp 31 0), some (vi p0), some (vi p1)], ([vi ((8 * (m6 31 0 21)) + p1), vp 42 0], G x m6))) rfl rfl (Cl.mono h (Nat.le_refl _) ?_)
        rintro r ⟨v7, m8, rfl, h⟩
        · show Wp X (d + 1) 259 (60, ([some (vp 31 0), some (vi p0), some (vi p1)], ([vi v7, vi ((8 * (m6 31 0 21)) + p1), vp 42 0], G x m8))) Q
          obtain ⟨hg5_0, h⟩ := h
          refine wp_run 1 (inb ((8 * (m6 31 0 21)) + p1) 256 && true) (61, ([some (vp 31 0), some (vi p0), some (vi p1)], ([], G x (mup m8 42 0 (((8 * (m6 31 0 21)) + p1).toNatClampNeg) v7)))) rfl (and_t hg5_0 rfl) ?_
          refine wpg (fun m9 => Wp X (d + 1) 259 (61, ([some (vp 31 0), some (vi p0), some (vi p1)], ([], G x m9))) Q) (mup m8 42 0 (((8 * (m6 31 0 21)) + p1).toNatClampNeg) v7) (fun m9 hm9 => ?_)
          have h := h m9 hm9
          exact wp_ret rfl h
      · have h := h.2 c5
        refine wp_run 4 true (43, ([some (vp 31 0), some (vi p0), some (vi p1)], ([], G x (mup m4 31 0 20 ((m4 31 0 20) + 0))))) rfl rfl ?_
        refine wpg (fun m10 => Wp X (d + 1) 259 (43, ([some (vp 31 0), some (vi p0), some (vi p1)], ([], G x m10))) Q) (mup m4 31 0 20 ((m4 31 0 20) + 0)) (fun m10 hm10 => ?_)
        have h := h m10 hm10
        refine wp_run 9 true (57, ([some (vp 31 0), some (vi p0), some (vi p1)], ([vp 31 0, vi ((8 * (m10 31 0 21)) + p1), vp 42 0], G x m10))) rfl rfl ?_
        refine wp_call 258 [vp 31 0] (60, ([some (vp 31 0), some (vi p0), some (vi p1)], ([vi ((8 * (m10 31 0 21)) + p1), vp 42 0], G x m10))) rfl rfl (Cl.mono h (Nat.le_refl _) ?_)
        rintro r ⟨v11, m12, rfl, h⟩
        · show Wp X (d + 1) 259 (60, ([some (vp 31 0), some (vi p0), some (vi p1)], ([vi v11, vi ((8 * (m10 31 0 21)) + p1), vp 42 0], G x m12))) Q
          obtain ⟨hg5_0, h⟩ := h
          refine wp_run 1 (inb ((8 * (m10 31 0 21)) + p1) 256 && true) (61, ([some (vp 31 0), some (vi p0), some (vi p1)], ([], G x (mup m12 42 0 (((8 * (m10 31 0 21)) + p1).toNatClampNeg) v11)))) rfl (and_t hg5_0 rfl) ?_
          refine wpg (fun m13 => Wp X (d + 1) 259 (61, ([some (vp 31 0), some (vi p0), some (vi p1)], ([], G x m13))) Q) (mup m12 42 0 (((8 * (m10 31 0 21)) + p1).toNatClampNeg) v11) (fun m13 hm13 => ?_)
          have h := h m13 hm13
          exact wp_ret rfl h
    · have h := h.2 c3
      obtain ⟨hg3_0, h⟩ := h
      refine wp_run 4 (okT 2 ((m 31 0 22) ||| 1) && true) (22, ([some (vp 31 0), some (vi p0), some (vi p1)], ([], G x (mup m2 31 0 22 ((m 31 0 22) ||| 1))))) rfl (and_t hg3_0 rfl) ?_
      refine wpg (fun m14 => Wp X (d + 1) 259 (22, ([some (vp 31 0), some (vi p0), some (vi p1)], ([], G x m14))) Q) (mup m2 31 0 22 ((m 31 0 22) ||| 1)) (fun m14 hm14 => ?_)
      have h := h m14 hm14
      refine wp_run 6 true ((bif decide ((m14 31 0 22) = 0) then 38 else 34), ([some (vp 31 0), some (vi p0), some (vi p1)], ([vi (m14 31 0 20), vp 31 0], G x m14))) rfl rfl ?_
      refine wp_if ((m14 31 0 22) = 0) (fun c15 => ?_) (fun c15 => ?_)
      · have h := h.1 c15
        refine wp_run 3 true (43, ([some (vp 31 0), some (vi p0), some (vi p1)], ([], G x (mup m14 31 0 20 ((m14 31 0 20) + 1))))) rfl rfl ?_
        refine wpg (fun m16 => Wp X (d + 1) 259 (43, ([some (vp 31 0), some (vi p0), some (vi p1)], ([], G x m16))) Q) (mup m14 31 0 20 ((m14 31 0 20) + 1)) (fun m16 hm16 => ?_)
        have h := h m16 hm16
        refine wp_run 9 true (57, ([some (vp 31 0), some (vi p0), some (vi p1)], ([vp 31 0, vi ((8 * (m16 31 0 21)) + p1), vp 42 0], G x m16))) rfl rfl ?_
        refine wp_call 258 [vp 31 0] (60, ([some (vp 31 0), some (vi p0), some (vi p1)], ([vi ((8 * (m16 31 0 21)) + p1), vp 42 0], G x m16))) rfl rfl (Cl.mono h (Nat.le_refl _) ?_)
        rintro r ⟨v17, m18, rfl, h⟩
        · show Wp X (d + 1) 259 (60, ([some (vp 31 0), some (vi p0), some (vi p1)], ([vi v17, vi ((8 * (m16 31 0 21)) + p1), vp 42 0], G x m18))) Q
          obtain ⟨hg5_0, h⟩ := h
          refine wp_run 1 (inb ((8 * (m16 31 0 21)) + p1) 256 && true) (61, ([some (vp 31 0), some (vi p0), some (vi p1)], ([], G x (mup m18 42 0 (((8 * (m16 31 0 21)) + p1).toNatClampNeg) v17)))) rfl (and_t hg5_0 rfl) ?_
          refine wpg (fun m19 => Wp X (d + 1) 259 (61, ([some (vp 31 0), some (vi p0), some (vi p1)], ([], G x m19))) Q) (mup m18 42 0 (((8 * (m16 31 0 21)) + p1).toNatClampNeg) v17) (fun m19 hm19 => ?_)
          have h := h m19 hm19
          exact wp_ret rfl h
      · have h := h.2 c15
        refine wp_run 4 true (43, ([some (vp 31 0), some (vi p0), some (vi p1)], ([], G x (mup m14 31 0 20 ((m14 31 0 20) + 0))))) rfl rfl ?_
        refine wpg (fun m20 => Wp X (d + 1) 259 (43, ([some (vp 31 0), some (vi p0), some (vi p1)], ([], G x m20))) Q) (mup m14 31 0 20 ((m14 31 0 20) + 0)) (fun m20 hm20 => ?_)
        have h := h m20 hm20
        refine wp_run 9 true (57, ([some (vp 31 0), some (vi p0), some (vi p1)], ([vp 31 0, vi ((8 * (m20 31 0 21)) + p1), vp 42 0], G x m20))) rfl rfl ?_
        refine wp_call 258 [vp 31 0] (60, ([some (vp 31 0), some (vi p0), some (vi p1)], ([vi ((8 * (m20 31 0 21)) + p1), vp 42 0], G x m20))) rfl rfl (Cl.mono h (Nat.le_refl _) ?_)
        rintro r ⟨v21, m22, rfl, h⟩
        · show Wp X (d + 1) 259 (60, ([some (vp 31 0), some (vi p0), some (vi p1)], ([vi v21, vi ((8 * (m20 31 0 21)) + p1), vp 42 0], G x m22))) Q
          obtain ⟨hg5_0, h⟩ := h
          refine wp_run 1 (inb ((8 * (m20 31 0 21)) + p1) 256 && true) (61, ([some (vp 31 0), some (vi p0), some (vi p1)], ([], G x (mup m22 42 0 (((8 * (m20 31 0 21)) + p1).toNatClampNeg) v21)))) rfl (and_t hg5_0 rfl) ?_
          refine wpg (fun m23 => Wp X (d + 1) 259 (61, ([some (vp 31 0), some (vi p0), some (vi p1)], ([], G x m23))) Q) (mup m22 42 0 (((8 * (m20 31 0 21)) + p1).toNatClampNeg) v21) (fun m23 hm23 => ?_)
          have h := h m23 hm23
          exact wp_ret rfl h
set_option maxRecDepth 100000 in
set_option maxHeartbeats 4000000 in
theorem vc_X11_readsColour {X : MX} {d : Nat} {x : Int64 × UInt64} {m : MI} {Q : MRes → Prop} (h : Cl X d 259 [vp 31 0, vi 32, vi 0] (G x m) (fun r => ∃ (m2 : MI), r = (.inl none, G x m2) ∧ Cl X d 259 [vp 31 0, vi 47, vi 1] (G x m2) (fun r => ∃ (m4 : MI), r = (.inl none, G x m4) ∧ Cl X d 259 [vp 31 0, vi 47, vi 2] (G x m4) (fun r => ∃ (m6 : MI), r = (.inl none, G x m6) ∧ Cl X d 259 [vp 31 0, vi 32, vi 3] (G x m6) (fun r => ∃ (m8 : MI), r = (.inl none, G x m8) ∧ Q (.inl none, G x m8)))))) : Cl X (d + 1) 260 [vp 31 0] (G x m) Q := by
  show Wp X (d + 1) 260 (0, ([some (vp 31 0)], ([], G x m))) Q
  refine wp_run 3 true (4, ([some (vp 31 0)], ([vi 0, vi 32, vp 31 0], G x m))) rfl rfl ?_
  refine wp_call 259 [vp 31 0, vi 32, vi 0] (7, ([some (vp 31 0)], ([], G x m))) rfl rfl (Cl.mono h (Nat.le_refl _) ?_)
  rintro r ⟨m2, rfl, h⟩
  · show Wp X (d + 1) 260 (7, ([some (vp 31 0)], ([], G x m2))) Q
    refine wp_run 3 true (11, ([some (vp 31 0)], ([vi 1, vi 47, vp 31 0], G x m2))) rfl rfl ?_
    refine wp_call 259 [vp 31 0, vi 47, vi 1] (14, ([some (vp 31 0)], ([], G x m2))) rfl rfl (Cl.mono h (Nat.le_refl _) ?_)
    rintro r ⟨m4, rfl, h⟩
    · show Wp X (d + 1) 260 (14, ([some (vp 31 0)], ([], G x m4))) Q
      refine wp_run 3 true (18, ([some (vp 31 0)], ([vi 2, vi 47, vp 31 0], G x m4))) rfl rfl ?_
      refine wp_call 259 [vp 31 0, vi 47, vi 2] (21, ([some (vp 31 0)], ([], G x m4))) rfl rfl (Cl.mono h (Nat.le_refl _) ?_)
      rintro r ⟨m6, rfl, h⟩
      · show Wp X (d + 1) 260 (21, ([some (vp 31 0)], ([], G x m6))) Q
        refine wp_run 3 true (25, ([some (vp 31 0)], ([vi 3, vi 32, vp 31 0], G x m6))) rfl rfl ?_
        refine wp_call 259 [vp 31 0, vi 32, vi 3] (28, ([some (vp 31 0)], ([], G x m6))) rfl rfl (Cl.mono h (Nat.le_refl _) ?_)
        rintro r ⟨m8, rfl, h⟩
        · show Wp X (d + 1) 260 (28, ([some (vp 31 0)], ([], G x m8))) Q
          exact wp_ret rfl h
set_option maxRecDepth 100000 in
set_option maxHeartbeats 4000000 in
theorem vc_X11_readsMetric {X : MX} {d : Nat} {x : Int64 × UInt64} {m : MI} {Q : MRes → Prop} (h : Cl X d 257 [vp 31 0] (G x m) (fun r => ∃ (v1 : Int32) (m2 : MI), r = (.inl (some (vi v1)), G x m2) ∧ ((v1 = 32 → (okT 2 ((m 31 0 22) ||| 0) = true ∧ (∀ m4 : MI, m4 = mup m2 31 0 22 ((m 31 0 22) ||| 0) → (((m4 31 0 22) = 0 → (∀ m6 : MI, m6 = mup m4 31 0 20 ((m4 31 0 20) + 1) → Cl X d 257 [vp 31 0] (G x m6) (fun r => ∃ (v7 : Int32) (m8 : MI), r = (.inl (some (vi v7)), G x m8) ∧ Cl X d 178 [vi v7] (G x m8) (fun r => ∃ (v9 : Int32) (m10 : MI), r = (.inl (some (vi v9)), G x m10) ∧ ((¬ v9 = 0 → (okT 2 ((m6 31 0 22) ||| 0) = true ∧ (∀ m12 : MI, m12 = mup m10 31 0 22 ((m6 31 0 22) ||| 0) → Cl X d 257 [vp 31 0] (G x m12) (fun r => ∃ (v13 : Int32) (m14 : MI), r = (.inl (some (vi v13)), G x m14) ∧ (inb (8 * (m12 31 0 21)) 256 = true ∧ (∀ m15 : MI, m15 = mup m14 42 0 ((8 * (m12 31 0 21)).toNatClampNeg) v13 → (((m15 31 0 22) = 0 → (∀ m17 : MI, m17 = mup m15 31 0 20 ((m15 31 0 20) + 1) → Q (.inl none, G x m17))) ∧ (¬ ((m15 31 0 22) = 0) → (∀ m18 : MI, m18 = mup m15 31 0 20 ((m15 31 0 20) + 0) → Q (.inl none, G x m18)))))))))) ∧ (¬ (¬ v9 = 0) → (okT 2 ((m6 31 0 22) ||| 1) = true ∧ (∀ m19 : MI, m19 = mup m10 31 0 22 ((m6 31 0 22) ||| 1) → Cl X d 257 [vp 31 0] (G x m19) (fun r => ∃ (v20 : Int32) (m21 : MI), r = (.inl (some (vi v20)), G x m21) ∧ (inb (8 * (m19 31 0 21)) 256 = true ∧ (∀ m22 : MI, m22 = mup m21 42 0 ((8 * (m19 31 0 21)).toNatClampNeg) v20 → (((m22 31 0 22) = 0 → (∀ m24 : MI, m24 = mup m22 31 0 20 ((m22 31 0 20) + 1) → Q (.inl none, G x m24))) ∧ (¬ ((m22 31 0 22) = 0) → (∀ m25 : MI, m25 = mup m22 31 0 20 ((m22 31 0 20) + 0) → Q (.inl none, G x m25))))))))))))))) ∧ (¬ ((m4 31 0 22) = 0) → (∀ m26 : MI, m26 = mup m4 31 0 20 ((m4 31 0 20) + 0) → Cl X d 257 [vp 31 0] (G x m26) (fun r => ∃ (v27 : Int32) (m28 : MI), r = (.inl (some (vi v27)), G x m28) ∧ Cl X d 178 [vi v27] (G x m28) (fun r => ∃ (v29 : Int32) (m30 : MI), r = (.inl (some (vi v29)), G x m30) ∧ ((¬ v29 = 0 → (okT 2 ((m26 31 0 22) ||| 0) = true ∧ (∀ m32 : MI, m32 = mup m30 31 0 22 ((m26 31 0 22) ||| 0) → Cl X d 257 [vp 31 0] (G x m32) (fun r => ∃ (v33 : Int32) (m34 : MI), r = (.inl (some (vi v33)), G x m34) ∧ (inb (8 * (m32 31 0 21)) 256 = true ∧ (∀ m35 : MI, m35 = mup m34 42 0 ((8 * (m32 31 0 21)).toNatClampNeg) v33 → (((m35 31 0 22) = 0 → (∀ m37 : MI, m37 = mup m35 31 0 20 ((m35 31 0 20) + 1) → Q (.inl none, G x m37))) ∧ (¬ ((m35 31 0 22) = 0) → (∀ m38 : MI, m38 = mup m35 31 0 20 ((m35 31 0 20) + 0) → Q (.inl none, G x m38)))))))))) ∧ (¬ (¬ v29 = 0) → (okT 2 ((m26 31 0 22) ||| 1) = true ∧ (∀ m39 : MI, m39 = mup m30 31 0 22 ((m26 31 0 22) ||| 1) → Cl X d 257 [vp 31 0] (G x m39) (fun r => ∃ (v40 : Int32) (m41 : MI), r = (.inl (some (vi v40)), G x m41) ∧ (inb (8 * (m39 31 0 21)) 256 = true ∧ (∀ m42 : MI, m42 = mup m41 42 0 ((8 * (m39 31 0 21)).toNatClampNeg) v40 → (((m42 31 0 22) = 0 → (∀ m44 : MI, m44 = mup m42 31 0 20 ((m42 31 0 20) + 1) → Q (.inl none, G x m44))) ∧ (¬ ((m42 31 0 22) = 0) → (∀ m45 : MI, m45 = mup m42 31 0 20 ((m42 31 0 20) + 0) → Q (.inl none, G x m45))))))))))))))))))) ∧ (¬ (v1 = 32) → (okT 2 ((m 31 0 22) ||| 1) = true ∧ (∀ m46 : MI, m46 = mup m2 31 0 22 ((m 31 0 22) ||| 1) → (((m46 31 0 22) = 0 → (∀ m48 : MI, m48 = mup m46 31 0 20 ((m46 31 0 20) + 1) → Cl X d 257 [vp 31 0] (G x m48) (fun r => ∃ (v49 : Int32) (m50 : MI), r = (.inl (some (vi v49)), G x m50) ∧ Cl X d 178 [vi v49] (G x m50) (fun r => ∃ (v51 : Int32) (m52 : MI), r = (.inl (some (vi v51)), G x m52) ∧ ((¬ v51 = 0 → (okT 2 ((m48 31 0 22) ||| 0) = true ∧ (∀ m54 : MI, m54 = mup m52 31 0 22 ((m48 31 0 22) ||| 0) → Cl X d 257 [vp 31 0] (G x m54) (fun r => ∃ (v55 : Int32) (m56 : MI), r = (.inl (some (vi v55)), G x m56) ∧ (inb (8 * (m54 31 0 21)) 256 = true ∧ (∀ m57 : MI, m57 = mup m56 42 0 ((8 * (m54 31 0 21)).toNatClampNeg) v55 → (((m57 31 0 22) = 0 → (∀ m59 : MI, m59 = mup m57 31 0 20 ((m57 31 0 20) + 1) → Q (.inl none, G x m59))) ∧ (¬ ((m57 31 0 22) = 0) → (∀ m60 : MI, m60 = mup m57 31 0 20 ((m57 31 0 20) + 0) → Q (.inl none, G x m60)))))))))) ∧ (¬ (¬ v51 = 0) → (okT 2 ((m48 31 0 22) ||| 1) = true ∧ (∀ m61 : MI, m61 = mup m52 31 0 22 ((m48 31 0 22) ||| 1) → Cl X d 257 [vp 31 0] (G x m61) (fun r => ∃ (v62 : Int32) (m63 : MI), r = (.inl (some (vi v62)), G x m63) ∧ (inb (8 * (m61 31 0 21)) 256 = true ∧ (∀ m64 : MI, m64 = mup m63 42 0 ((8 * (m61 31 0 21)).toNatClampNeg) v62 → (((m64 31 0 22) = 0 → (∀ m66 : MI, m66 = mup m64 31 0 20 ((m64 31 0 20) + 1) → Q (.inl none, G x m66))) ∧ (¬ ((m64 31 0 22) = 0) → (∀ m67 : MI, m67 = mup m64 31 0 20 ((m64 31 0 20) + 0) → Q (.inl none, G x m67))))))))))))))) ∧ (¬ ((m46 31 0 22) = 0) → (∀ m68 : MI, m68 = mup m46 31 0 20 ((m46 31 0 20) + 0) → Cl X d 257 [vp 31 0] (G x m68) (fun r => ∃ (v69 : Int32) (m70 : MI), r = (.inl (some (vi v69)), G x m70) ∧ Cl X d 178 [vi v69] (G x m70) (fun r => ∃ (v71 : Int32) (m72 : MI), r = (.inl (some (vi v71)), G x m72) ∧ ((¬ v71 = 0 → (okT 2 ((m68 31 0 22) ||| 0) = true ∧ (∀ m74 : MI, m74 = mup m72 31 0 22 ((m68 31 0 22) ||| 0) → Cl X d 257 [vp 31 0] (G x m74) (fun r => ∃ (v75 : Int32) (m76 : MI), r = (.inl (some (vi v75)), G x m76) ∧ (inb (8 * (m74 31 0 21)) 256 = true ∧ (∀ m77 : MI, m77 = mup m76 42 0 ((8 * (m74 31 0 21)).toNatClampNeg) v75 → (((m77 31 0 22) = 0 → (∀ m79 : MI, m79 = mup m77 31 0 20 ((m77 31 0 20) + 1) → Q (.inl none, G x m79))) ∧ (¬ ((m77 31 0 22) = 0) → (∀ m80 : MI, m80 = mup m77 31 0 20 ((m77 31 0 20) + 0) → Q (.inl none, G x m80)))))))))) ∧ (¬ (¬ v71 = 0) → (okT 2 ((m68 31 0 22) ||| 1) = true ∧ (∀ m81 : MI, m81 = mup m72 31 0 22 ((m68 31 0 22) ||| 1) → Cl X d 257 [vp 31 0] (G x m81) (fun r => ∃ (v82 : Int32) (m83 : MI), r = (.inl (some (vi v82)), G x m83) ∧ (inb (8 * (m81 31 0 21)) 256 = true ∧ (∀ m84 : MI, m84 = mup m83 42 0 ((8 * (m81 31 0 21)).toNatClampNeg) v82 → (((m84 31 0 22) = 0 → (∀ m86 : MI, m86 = mup m84 31 0 20 ((m84 31 0 20) + 1) → Q (.inl none, G x m86))) ∧ (¬ ((m84 31 0 22) = 0) → (∀ m87 : MI, m87 = mup m84 31 0 20 ((m84 31 0 20) + 0) → Q (.inl none, G x m87)))))))))))))))))))))) : Cl X (d + 1) 261 [vp 31 0] (G x m) Q := by
  show Wp X (d + 1) 261 (0, ([some (vp 31 0)], ([], G x m))) Q
  refine wp_run 4 true (6, ([some (vp 31 0)], ([vp 31 0, vi (m 31 0 22), vp 31 0], G x m))) rfl rfl ?_
  refine wp_call 257 [vp 31 0] (9, ([some (vp 31 0)], ([vi (m 31 0 22), vp 31 0], G x m))) rfl rfl (Cl.mono h (Nat.le_refl _) ?_)
  rintro r ⟨v1, m2, rfl, h⟩
  · show Wp X (d + 1) 261 (9, ([some (vp 31 0)], ([vi v1, vi (m 31 0 22), vp 31 0], G x m2))) Q
    refine wp_run 2 true ((bif decide (v1 = 32) then 18 else 14), ([some (vp 31 0)], ([vi (m 31 0 22), vp 31 0], G x m2))) rfl rfl ?_
    refine wp_if (v1 = 32) (fun c3 => ?_) (fun c3 => ?_)
    · have h := h.1 c3
      obtain ⟨hg3_0, h⟩ := h
      refine wp_run 3 (okT 2 ((m 31 0 22) ||| 0) && true) (23, ([some (vp 31 0)], ([], G x (mup m2 31 0 22 ((m 31 0 22) ||| 0))))) rfl (and_t hg3_0 rfl) ?_
      refine wpg (fun m4 => Wp X (d + 1) 261 (23, ([some (vp 31 0)], ([], G x m4))) Q) (mup m2 31 0 22 ((m 31 0 22) ||| 0)) (fun m4 hm4 => ?_)
      have h := h m4 hm4
      refine wp_run 6 true ((bif decide ((m4 31 0 22) = 0) then 39 else 35), ([some (vp 31 0)], ([vi (m4 31 0 20), vp 31 0], G x m4))) rfl rfl ?_
      refine wp_if ((m4 31 0 22) = 0) (fun c5 => ?_) (fun c5 => ?_)
      · have h := h.1 c5
        refine wp_run 3 true (44, ([some (vp 31 0)], ([], G x (mup m4 31 0 20 ((m4 31 0 20) + 1))))) rfl rfl ?_
        refine wpg (fun m6 => Wp X (d + 1) 261 (44, ([some (vp 31 0)], ([], G x m6))) Q) (mup m4 31 0 20 ((m4 31 0 20) + 1)) (fun m6 hm6 => ?_)
        have h := h m6 hm6
        refine wp_run 4 true (50, ([some (vp 31 0)], ([vp 31 0, vi (m6 31 0 22), vp 31 0], G x m6))) rfl rfl ?_
        refine wp_call 257 [vp 31 0] (53, ([some (vp 31 0)], ([vi (m6 31 0 22), vp 31 0], G x m6))) rfl rfl (Cl.mono h (Nat.le_refl _) ?_)
        rintro r ⟨v7, m8, rfl, h⟩
        · show Wp X (d + 1) 261 (53, ([some (vp 31 0)], ([vi v7, vi (m6 31 0 22), vp 31 0], G x m8))) Q
          refine wp_call 178 [vi v7] (56, ([some (vp 31 0)], ([vi (m6 31 0 22), vp 31 0], G x m8))) rfl rfl (Cl.mono h (Nat.le_refl _) ?_)
          rintro r ⟨v9, m10, rfl, h⟩
          · show Wp X (d + 1) 261 (56, ([some (vp 31 0)], ([vi v9, vi (m6 31 0 22), vp 31 0], G x m10))) Q
            refine wp_run 1 true ((bif decide (¬ v9 = 0) then 63 else 59), ([some (vp 31 0)], ([vi (m6 31 0 22), vp 31 0], G x m10))) rfl rfl ?_
            refine wp_if (¬ v9 = 0) (fun c11 => ?_) (fun c11 => ?_)
            · have h := h.1 c11
              obtain ⟨hg7_0, h⟩ := h
              refine wp_run 3 (okT 2 ((m6 31 0 22) ||| 0) && true) (68, ([some (vp 31 0)], ([], G x (mup m10 31 0 22 ((m6 31 0 22) ||| 0))))) rfl (and_t hg7_0 rfl) ?_
              refine wpg (fun m12 => Wp X (d + 1) 261 (68, ([some (vp 31 0)], ([], G x m12))) Q) (mup m10 31 0 22 ((m6 31 0 22) ||| 0)) (fun m12 hm12 => ?_)
              have h := h m12 hm12
              refine wp_run 7 true (80, ([some (vp 31 0)], ([vp 31 0, vi (8 * (m12 31 0 21)), vp 42 0], G x m12))) rfl rfl ?_
              refine wp_call 257 [vp 31 0] (83, ([some (vp 31 0)], ([vi (8 * (m12 31 0 21)), vp 42 0], G x m12))) rfl rfl (Cl.mono h (Nat.le_refl _) ?_)
              rintro r ⟨v13, m14, rfl, h⟩
              · show Wp X (d + 1) 261 (83, ([some (vp 31 0)], ([vi v13, vi (8 * (m12 31 0 21)), vp 42 0], G x m14))) Q
                obtain ⟨hg8_0, h⟩ := h
                refine wp_run 1 (inb (8 * (m12 31 0 21)) 256 && true) (84, ([some (vp 31 0)], ([], G x (mup m14 42 0 ((8 * (m12 31 0 21)).toNatClampNeg) v13)))) rfl (and_t hg8_0 rfl) ?_
                refine wpg (fun m15 => Wp X (d + 1) 261 (84, ([some (vp 31 0)], ([], G x m15))) Q) (mup m14 42 0 ((8 * (m12 31 0 21)).toNatClampNeg) v13) (fun m15 hm15 => ?_)
                have h := h m15 hm15
                refine wp_run 6 true ((bif decide ((m15 31 0 22) = 0) then 100 else 96), ([some (vp 31 0)], ([vi (m15 31 0 20), vp 31 0], G x m15))) rfl rfl ?_
                refine wp_if ((m15 31 0 22) = 0) (fun c16 => ?_) (fun c16 => ?_)
                · have h := h.1 c16
                  refine wp_run 3 true (105, ([some (vp 31 0)], ([], G x (mup m15 31 0 20 ((m15 31 0 20) + 1))))) rfl rfl ?_
                  refine wpg (fun m17 => Wp X (d + 1) 261 (105, ([some (vp 31 0)], ([], G x m17))) Q) (mup m15 31 0 20 ((m15 31 0 20) + 1)) (fun m17 hm17 => ?_)
                  have h := h m17 hm17
                  exact wp_ret rfl h
                · have h := h.2 c16
                  refine wp_run 4 true (105, ([some (vp 31 0)], ([], G x (mup m15 31 0 20 ((m15 31 0 20) + 0))))) rfl rfl ?_
                  refine wpg (fun m18 => Wp X (d + 1) 261 (105, ([some (vp 31 0)], ([], G x m18))) Q) (mup m15 31 0 20 ((m15 31 0 20) + 0)) (fun m18 hm18 => ?_)
                  have h := h m18 hm18
                  exact wp_ret rfl h
            · have h := h.2 c11
              obtain ⟨hg7_0, h⟩ := h
              refine wp_run 4 (okT 2 ((m6 31 0 22) ||| 1) && true) (68, ([some (vp 31 0)], ([], G x (mup m10 31 0 22 ((m6 31 0 22) ||| 1))))) rfl (and_t hg7_0 rfl) ?_
              refine wpg (fun m19 => Wp X (d + 1) 261 (68, ([some (vp 31 0)], ([], G x m19))) Q) (mup m10 31 0 22 ((m6 31 0 22) ||| 1)) (fun m19 hm19 => ?_)
              have h := h m19 hm19
              refine wp_run 7 true (80, ([some (vp 31 0)], ([vp 31 0, vi (8 * (m19 31 0 21)), vp 42 0], G x m19))) rfl rfl ?_
              refine wp_call 257 [vp 31 0] (83, ([some (vp 31 0)], ([vi (8 * (m19 31 0 21)), vp 42 0], G x m19))) rfl rfl (Cl.mono h (Nat.le_refl _) ?_)
              rintro r ⟨v20, m21, rfl, h⟩
              · show Wp X (d + 1) 261 (83, ([some (vp 31 0)], ([vi v20, vi (8 * (m19 31 0 21)), vp 42 0], G x m21))) Q
                obtain ⟨hg8_0, h⟩ := h
                refine wp_run 1 (inb (8 * (m19 31 0 21)) 256 && true) (84, ([some (vp 31 0)], ([], G x (mup m21 42 0 ((8 * (m19 31 0 21)).toNatClampNeg) v20)))) rfl (and_t hg8_0 rfl) ?_
                refine wpg (fun m22 => Wp X (d + 1) 261 (84, ([some (vp 31 0)], ([], G x m22))) Q) (mup m21 42 0 ((8 * (m19 31 0 21)).toNatClampNeg) v20) (fun m22 hm22 => ?_)
                have h := h m22 hm22
                refine wp_run 6 true ((bif decide ((m22 31 0 22) = 0) then 100 else 96), ([some (vp 31 0)], ([vi (m22 31 0 20), vp 31 0], G x m22))) rfl rfl ?_
                refine wp_if ((m22 31 0 22) = 0) (fun c23 => ?_) (fun c23 => ?_)
                · have h := h.1 c23
                  refine wp_run 3 true (105, ([some (vp 31 0)], ([], G x (mup m22 31 0 20 ((m22 31 0 20) + 1))))) rfl rfl ?_
                  refine wpg (fun m24 => Wp X (d + 1) 261 (105, ([some (vp 31 0)], ([], G x m24))) Q) (mup m22 31 0 20 ((m22 31 0 20) + 1)) (fun m24 hm24 => ?_)
                  have h := h m24 hm24
                  exact wp_ret rfl h
                · have h := h.2 c23
                  refine wp_run 4 true (105, ([some (vp 31 0)], ([], G x (mup m22 31 0 20 ((m22 31 0 20) + 0))))) rfl rfl ?_
                  refine wpg (fun m25 => Wp X (d + 1) 261 (105, ([some (vp 31 0)], ([], G x m25))) Q) (mup m22 31 0 20 ((m22 31 0 20) + 0)) (fun m25 hm25 => ?_)
                  have h := h m25 hm25
                  exact wp_ret rfl h
      · have h := h.2 c5
        refine wp_run 4 true (44, ([some (vp 31 0)], ([], G x (mup m4 31 0 20 ((m4 31 0 20) + 0))))) rfl rfl ?_
        refine wpg (fun m26 => Wp X (d + 1) 261 (44, ([some (vp 31 0)], ([], G x m26))) Q) (mup m4 31 0 20 ((m4 31 0 20) + 0)) (fun m26 hm26 => ?_)
        have h := h m26 hm26
        refine wp_run 4 true (50, ([some (vp 31 0)], ([vp 31 0, vi (m26 31 0 22), vp 31 0], G x m26))) rfl rfl ?_
        refine wp_call 257 [vp 31 0] (53, ([some (vp 31 0)], ([vi (m26 31 0 22), vp 31 0], G x m26))) rfl rfl (Cl.mono h (Nat.le_refl _) ?_)
        rintro r ⟨v27, m28, rfl, h⟩
        · show Wp X (d + 1) 261 (53, ([some (vp 31 0)], ([vi v27, vi (m26 31 0 22), vp 31 0], G x m28))) Q
          refine wp_call 178 [vi v27] (56, ([some (vp 31 0)], ([vi (m26 31 0 22), vp 31 0], G x m28))) rfl rfl (Cl.mono h (Nat.le_refl _) ?_)
          rintro r ⟨v29, m30, rfl, h⟩
          · show Wp X (d + 1) 261 (56, ([some (vp 31 0)], ([vi v29, vi (m26 31 0 22), vp 31 0], G x m30))) Q
            refine wp_run 1 true ((bif decide (¬ v29 = 0) then 63 else 59), ([some (vp 31 0)], ([vi (m26 31 0 22), vp 31 0], G x m30))) rfl rfl ?_
            refine wp_if (¬ v29 = 0) (fun c31 => ?_) (fun c31 => ?_)
            · have h := h.1 c31
              obtain ⟨hg7_0, h⟩ := h
              refine wp_run 3 (okT 2 ((m26 31 0 22) ||| 0) && true) (68, ([some (vp 31 0)], ([], G x (mup m30 31 0 22 ((m26 31 0 22) ||| 0))))) rfl (and_t hg7_0 rfl) ?_
              refine wpg (fun m32 => Wp X (d + 1) 261 (68, ([some (vp 31 0)], ([], G x m32))) Q) (mup m30 31 0 22 ((m26 31 0 22) ||| 0)) (fun m32 hm32 => ?_)
              have h := h m32 hm32
              refine wp_run 7 true (80, ([some (vp 31 0)], ([vp 31 0, vi (8 * (m32 31 0 21)), vp 42 0], G x m32))) rfl rfl ?_
              refine wp_call 257 [vp 31 0] (83, ([some (vp 31 0)], ([vi (8 * (m32 31 0 21)), vp 42 0], G x m32))) rfl rfl (Cl.mono h (Nat.le_refl _) ?_)
              rintro r ⟨v33, m34, rfl, h⟩
              · show Wp X (d + 1) 261 (83, ([some (vp 31 0)], ([vi v33, vi (8 * (m32 31 0 21)), vp 42 0], G x m34))) Q
                obtain ⟨hg8_0, h⟩ := h
                refine wp_run 1 (inb (8 * (m32 31 0 21)) 256 && true) (84, ([some (vp 31 0)], ([], G x (mup m34 42 0 ((8 * (m32 31 0 21)).toNatClampNeg) v33)))) rfl (and_t hg8_0 rfl) ?_
                refine wpg (fun m35 => Wp X (d + 1) 261 (84, ([some (vp 31 0)], ([], G x m35))) Q) (mup m34 42 0 ((8 * (m32 31 0 21)).toNatClampNeg) v33) (fun m35 hm35 => ?_)
                have h := h m35 hm35
                refine wp_run 6 true ((bif decide ((m35 31 0 22) = 0) then 100 else 96), ([some (vp 31 0)], ([vi (m35 31 0 20), vp 31 0], G x m35))) rfl rfl ?_
                refine wp_if ((m35 31 0 22) = 0) (fun c36 => ?_) (fun c36 => ?_)
                · have h := h.1 c36
                  refine wp_run 3 true (105, ([some (vp 31 0)], ([], G x (mup m35 31 0 20 ((m35 31 0 20) + 1))))) rfl rfl ?_
                  refine wpg (fun m37 => Wp X (d + 1) 261 (105, ([some (vp 31 0)], ([], G x m37))) Q) (mup m35 31 0 20 ((m35 31 0 20) + 1)) (fun m37 hm37 => ?_)
                  have h := h m37 hm37
                  exact wp_ret rfl h
                · have h := h.2 c36
                  refine wp_run 4 true (105, ([some (vp 31 0)], ([], G x (mup m35 31 0 20 ((m35 31 0 20) + 0))))) rfl rfl ?_
                  refine wpg (fun m38 => Wp X (d + 1) 261 (105, ([some (vp 31 0)], ([], G x m38))) Q) (mup m35 31 0 20 ((m35 31 0 20) + 0)) (fun m38 hm38 => ?_)
                  have h := h m38 hm38
                  exact wp_ret rfl h
            · have h := h.2 c31
              obtain ⟨hg7_0, h⟩ := h
              refine wp_run 4 (okT 2 ((m26 31 0 22) ||| 1) && true) (68, ([some (vp 31 0)], ([], G x (mup m30 31 0 22 ((m26 31 0 22) ||| 1))))) rfl (and_t hg7_0 rfl) ?_
              refine wpg (fun m39 => Wp X (d + 1) 261 (68, ([some (vp 31 0)], ([], G x m39))) Q) (mup m30 31 0 22 ((m26 31 0 22) ||| 1)) (fun m39 hm39 => ?_)
              have h := h m39 hm39
              refine wp_run 7 true (80, ([some (vp 31 0)], ([vp 31 0, vi (8 * (m39 31 0 21)), vp 42 0], G x m39))) rfl rfl ?_
              refine wp_call 257 [vp 31 0] (83, ([some (vp 31 0)], ([vi (8 * (m39 31 0 21)), vp 42 0], G x m39))) rfl rfl (Cl.mono h (Nat.le_refl _) ?_)
              rintro r ⟨v40, m41, rfl, h⟩
              · show Wp X (d + 1) 261 (83, ([some (vp 31 0)], ([vi v40, vi (8 * (m39 31 0 21)), vp 42 0], G x m41))) Q
                obtain ⟨hg8_0, h⟩ := h
                refine wp_run 1 (inb (8 * (m39 31 0 21)) 256 && true) (84, ([some (vp 31 0)], ([], G x (mup m41 42 0 ((8 * (m39 31 0 21)).toNatClampNeg) v40)))) rfl (and_t hg8_0 rfl) ?_
                refine wpg (fun m42 => Wp X (d + 1) 261 (84, ([some (vp 31 0)], ([], G x m42))) Q) (mup m41 42 0 ((8 * (m39 31 0 21)).toNatClampNeg) v40) (fun m42 hm42 => ?_)
                have h := h m42 hm42
                refine wp_run 6 true ((bif decide ((m42 31 0 22) = 0) then 100 else 96), ([some (vp 31 0)], ([vi (m42 31 0 20), vp 31 0], G x m42))) rfl rfl ?_
                refine wp_if ((m42 31 0 22) = 0) (fun c43 => ?_) (fun c43 => ?_)
                · have h := h.1 c43
                  refine wp_run 3 true (105, ([some (vp 31 0)], ([], G x (mup m42 31 0 20 ((m42 31 0 20) + 1))))) rfl rfl ?_
                  refine wpg (fun m44 => Wp X (d + 1) 261 (105, ([some (vp 31 0)], ([], G x m44))) Q) (mup m42 31 0 20 ((m42 31 0 20) + 1)) (fun m44 hm44 => ?_)
                  have h := h m44 hm44
                  exact wp_ret rfl h
                · have h := h.2 c43
                  refine wp_run 4 true (105, ([some (vp 31 0)], ([], G x (mup m42 31 0 20 ((m42 31 0 20) + 0))))) rfl rfl ?_
                  refine wpg (fun m45 => Wp X (d + 1) 261 (105, ([some (vp 31 0)], ([], G x m45))) Q) (mup m42 31 0 20 ((m42 31 0 20) + 0)) (fun m45 hm45 => ?_)
                  have h := h m45 hm45
                  exact wp_ret rfl h
    · have h := h.2 c3
      obtain ⟨hg3_0, h⟩ := h
      refine wp_run 4 (okT 2 ((m 31 0 22) ||| 1) && true) (23, ([some (vp 31 0)], ([], G x (mup m2 31 0 22 ((m 31 0 22) ||| 1))))) rfl (and_t hg3_0 rfl) ?_
      refine wpg (fun m46 => Wp X (d + 1) 261 (23, ([some (vp 31 0)], ([], G x m46))) Q) (mup m2 31 0 22 ((m 31 0 22) ||| 1)) (fun m46 hm46 => ?_)
      have h := h m46 hm46
      refine wp_run 6 true ((bif decide ((m46 31 0 22) = 0) then 39 else 35), ([some (vp 31 0)], ([vi (m46 31 0 20), vp 31 0], G x m46))) rfl rfl ?_
      refine wp_if ((m46 31 0 22) = 0) (fun c47 => ?_) (fun c47 => ?_)
      · have h := h.1 c47
        refine wp_run 3 true (44, ([some (vp 31 0)], ([], G x (mup m46 31 0 20 ((m46 31 0 20) + 1))))) rfl rfl ?_
        refine wpg (fun m48 => Wp X (d + 1) 261 (44, ([some (vp 31 0)], ([], G x m48))) Q) (mup m46 31 0 20 ((m46 31 0 20) + 1)) (fun m48 hm48 => ?_)
        have h := h m48 hm48
        refine wp_run 4 true (50, ([some (vp 31 0)], ([vp 31 0, vi (m48 31 0 22), vp 31 0], G x m48))) rfl rfl ?_
        refine wp_call 257 [vp 31 0] (53, ([some (vp 31 0)], ([vi (m48 31 0 22), vp 31 0], G x m48))) rfl rfl (Cl.mono h (Nat.le_refl _) ?_)
        rintro r ⟨v49, m50, rfl, h⟩
        · show Wp X (d + 1) 261 (53, ([some (vp 31 0)], ([vi v49, vi (m48 31 0 22), vp 31 0], G x m50))) Q
          refine wp_call 178 [vi v49] (56, ([some (vp 31 0)], ([vi (m48 31 0 22), vp 31 0], G x m50))) rfl rfl (Cl.mono h (Nat.le_refl _) ?_)
          rintro r ⟨v51, m52, rfl, h⟩
          · show Wp X (d + 1) 261 (56, ([some (vp 31 0)], ([vi v51, vi (m48 31 0 22), vp 31 0], G x m52))) Q
            refine wp_run 1 true ((bif decide (¬ v51 = 0) then 63 else 59), ([some (vp 31 0)], ([vi (m48 31 0 22), vp 31 0], G x m52))) rfl rfl ?_
            refine wp_if (¬ v51 = 0) (fun c53 => ?_) (fun c53 => ?_)
            · have h := h.1 c53
              obtain ⟨hg7_0, h⟩ := h
              refine wp_run 3 (okT 2 ((m48 31 0 22) ||| 0) && true) (68, ([some (vp 31 0)], ([], G x (mup m52 31 0 22 ((m48 31 0 22) ||| 0))))) rfl (and_t hg7_0 rfl) ?_
              refine wpg (fun m54 => Wp X (d + 1) 261 (68, ([some (vp 31 0)], ([], G x m54))) Q) (mup m52 31 0 22 ((m48 31 0 22) ||| 0)) (fun m54 hm54 => ?_)
              have h := h m54 hm54
              refine wp_run 7 true (80, ([some (vp 31 0)], ([vp 31 0, vi (8 * (m54 31 0 21)), vp 42 0], G x m54))) rfl rfl ?_
              refine wp_call 257 [vp 31 0] (83, ([some (vp 31 0)], ([vi (8 * (m54 31 0 21)), vp 42 0], G x m54))) rfl rfl (Cl.mono h (Nat.le_refl _) ?_)
              rintro r ⟨v55, m56, rfl, h⟩
              · show Wp X (d + 1) 261 (83, ([some (vp 31 0)], ([vi v55, vi (8 * (m54 31 0 21)), vp 42 0], G x m56))) Q
                obtain ⟨hg8_0, h⟩ := h
                refine wp_run 1 (inb (8 * (m54 31 0 21)) 256 && true) (84, ([some (vp 31 0)], ([], G x (mup m56 42 0 ((8 * (m54 31 0 21)).toNatClampNeg) v55)))) rfl (and_t hg8_0 rfl) ?_
                refine wpg (fun m57 => Wp X (d + 1) 261 (84, ([some (vp 31 0)], ([], G x m57))) Q) (mup m56 42 0 ((8 * (m54 31 0 21)).toNatClampNeg) v55) (fun m57 hm57 => ?_)
                have h := h m57 hm57
                refine wp_run 6 true ((bif decide ((m57 31 0 22) = 0) then 100 else 96), ([some (vp 31 0)], ([vi (m57 31 0 20), vp 31 0], G x m57))) rfl rfl ?_
                refine wp_if ((m57 31 0 22) = 0) (fun c58 => ?_) (fun c58 => ?_)
                · have h := h.1 c58
                  refine wp_run 3 true (105, ([some (vp 31 0)], ([], G x (mup m57 31 0 20 ((m57 31 0 20) + 1))))) rfl rfl ?_
                  refine wpg (fun m59 => Wp X (d + 1) 261 (105, ([some (vp 31 0)], ([], G x m59))) Q) (mup m57 31 0 20 ((m57 31 0 20) + 1)) (fun m59 hm59 => ?_)
                  have h := h m59 hm59
                  exact wp_ret rfl h
                · have h := h.2 c58
                  refine wp_run 4 true (105, ([some (vp 31 0)], ([], G x (mup m57 31 0 20 ((m57 31 0 20) + 0))))) rfl rfl ?_
                  refine wpg (fun m60 => Wp X (d + 1) 261 (105, ([some (vp 31 0)], ([], G x m60))) Q) (mup m57 31 0 20 ((m57 31 0 20) + 0)) (fun m60 hm60 => ?_)
                  have h := h m60 hm60
                  exact wp_ret rfl h
            · have h := h.2 c53
              obtain ⟨hg7_0, h⟩ := h
              refine wp_run 4 (okT 2 ((m48 31 0 22) ||| 1) && true) (68, ([some (vp 31 0)], ([], G x (mup m52 31 0 22 ((m48 31 0 22) ||| 1))))) rfl (and_t hg7_0 rfl) ?_
              refine wpg (fun m61 => Wp X (d + 1) 261 (68, ([some (vp 31 0)], ([], G x m61))) Q) (mup m52 31 0 22 ((m48 31 0 22) ||| 1)) (fun m61 hm61 => ?_)
              have h := h m61 hm61
              refine wp_run 7 true (80, ([some (vp 31 0)], ([vp 31 0, vi (8 * (m61 31 0 21)), vp 42 0], G x m61))) rfl rfl ?_
              refine wp_call 257 [vp 31 0] (83, ([some (vp 31 0)], ([vi (8 * (m61 31 0 21)), vp 42 0], G x m61))) rfl rfl (Cl.mono h (Nat.le_refl _) ?_)
              rintro r ⟨v62, m63, rfl, h⟩
              · show Wp X (d + 1) 261 (83, ([some (vp 31 0)], ([vi v62, vi (8 * (m61 31 0 21)), vp 42 0], G x m63))) Q
                obtain ⟨hg8_0, h⟩ := h
                refine wp_run 1 (inb (8 * (m61 31 0 21)) 256 && true) (84, ([some (vp 31 0)], ([], G x (mup m63 42 0 ((8 * (m61 31 0 21)).toNatClampNeg) v62)))) rfl (and_t hg8_0 rfl) ?_
                refine wpg (fun m64 => Wp X (d + 1) 261 (84, ([some (vp 31 0)], ([], G x m64))) Q) (mup m63 42 0 ((8 * (m61 31 0 21)).toNatClampNeg) v62) (fun m64 hm64 => ?_)
                have h := h m64 hm64
                refine wp_run 6 true ((bif decide ((m64 31 0 22) = 0) then 100 else 96), ([some (vp 31 0)], ([vi (m64 31 0 20), vp 31 0], G x m64))) rfl rfl ?_
                refine wp_if ((m64 31 0 22) = 0) (fun c65 => ?_) (fun c65 => ?_)
                · have h := h.1 c65
                  refine wp_run 3 true (105, ([some (vp 31 0)], ([], G x (mup m64 31 0 20 ((m64 31 0 20) + 1))))) rfl rfl ?_
                  refine wpg (fun m66 => Wp X (d + 1) 261 (105, ([some (vp 31 0)], ([], G x m66))) Q) (mup m64 31 0 20 ((m64 31 0 20) + 1)) (fun m66 hm66 => ?_)
                  have h := h m66 hm66
                  exact wp_ret rfl h
                · have h := h.2 c65
                  refine wp_run 4 true (105, ([some (vp 31 0)], ([], G x (mup m64 31 0 20 ((m64 31 0 20) + 0))))) rfl rfl ?_
                  refine wpg (fun m67 => Wp X (d + 1) 261 (105, ([some (vp 31 0)], ([], G x m67))) Q) (mup m64 31 0 20 ((m64 31 0 20) + 0)) (fun m67 hm67 => ?_)
                  have h := h m67 hm67
                  exact wp_ret rfl h
      · have h := h.2 c47
        refine wp_run 4 true (44, ([some (vp 31 0)], ([], G x (mup m46 31 0 20 ((m46 31 0 20) + 0))))) rfl rfl ?_
        refine wpg (fun m68 => Wp X (d + 1) 261 (44, ([some (vp 31 0)], ([], G x m68))) Q) (mup m46 31 0 20 ((m46 31 0 20) + 0)) (fun m68 hm68 => ?_)
        have h := h m68 hm68
        refine wp_run 4 true (50, ([some (vp 31 0)], ([vp 31 0, vi (m68 31 0 22), vp 31 0], G x m68))) rfl rfl ?_
        refine wp_call 257 [vp 31 0] (53, ([some (vp 31 0)], ([vi (m68 31 0 22), vp 31 0], G x m68))) rfl rfl (Cl.mono h (Nat.le_refl _) ?_)
        rintro r ⟨v69, m70, rfl, h⟩
        · show Wp X (d + 1) 261 (53, ([some (vp 31 0)], ([vi v69, vi (m68 31 0 22), vp 31 0], G x m70))) Q
          refine wp_call 178 [vi v69] (56, ([some (vp 31 0)], ([vi (m68 31 0 22), vp 31 0], G x m70))) rfl rfl (Cl.mono h (Nat.le_refl _) ?_)
          rintro r ⟨v71, m72, rfl, h⟩
          · show Wp X (d + 1) 261 (56, ([some (vp 31 0)], ([vi v71, vi (m68 31 0 22), vp 31 0], G x m72))) Q
            refine wp_run 1 true ((bif decide (¬ v71 = 0) then 63 else 59), ([some (vp 31 0)], ([vi (m68 31 0 22), vp 31 0], G x m72))) rfl rfl ?_
            refine wp_if (¬ v71 = 0) (fun c73 => ?_) (fun c73 => ?_)
            · have h := h.1 c73
              obtain ⟨hg7_0, h⟩ := h
              refine wp_run 3 (okT 2 ((m68 31 0 22) ||| 0) && true) (68, ([some (vp 31 0)], ([], G x (mup m72 31 0 22 ((m68 31 0 22) ||| 0))))) rfl (and_t hg7_0 rfl) ?_
              refine wpg (fun m74 => Wp X (d + 1) 261 (68, ([some (vp 31 0)], ([], G x m74))) Q) (mup m72 31 0 22 ((m68 31 0 22) ||| 0)) (fun m74 hm74 => ?_)
              have h := h m74 hm74
              refine wp_run 7 true (80, ([some (vp 31 0)], ([vp 31 0, vi (8 * (m74 31 0 21)), vp 42 0], G x m74))) rfl rfl ?_
              refine wp_call 257 [vp 31 0] (83, ([some (vp 31 0)], ([vi (8 * (m74 31 0 21)), vp 42 0], G x m74))) rfl rfl (Cl.mono h (Nat.le_refl _) ?_)
              rintro r ⟨v75, m76, rfl, h⟩
              · show Wp X (d + 1) 261 (83, ([some (vp 31 0)], ([vi v75, vi (8 * (m74 31 0 21)), vp 42 0], G x m76))) Q
                obtain ⟨hg8_0, h⟩ := h
                refine wp_run 1 (inb (8 * (m74 31 0 21)) 256 && true) (84, ([some (vp 31 0)], ([], G x (mup m76 42 0 ((8 * (m74 31 0 21)).toNatClampNeg) v75)))) rfl (and_t hg8_0 rfl) ?_
                refine wpg (fun m77 => Wp X (d + 1) 261 (84, ([some (vp 31 0)], ([], G x m77))) Q) (mup m76 42 0 ((8 * (m74 31 0 21)).toNatClampNeg) v75) (fun m77 hm77 => ?_)
                have h := h m77 hm77
                refine wp_run 6 true ((bif decide ((m77 31 0 22) = 0) then 100 else 96), ([some (vp 31 0)], ([vi (m77 31 0 20), vp 31 0], G x m77))) rfl rfl ?_
                refine wp_if ((m77 31 0 22) = 0) (fun c78 => ?_) (fun c78 => ?_)
                · have h := h.1 c78
                  refine wp_run 3 true (105, ([some (vp 31 0)], ([], G x (mup m77 31 0 20 ((m77 31 0 20) + 1))))) rfl rfl ?_
                  refine wpg (fun m79 => Wp X (d + 1) 261 (105, ([some (vp 31 0)], ([], G x m79))) Q) (mup m77 31 0 20 ((m77 31 0 20) + 1)) (fun m79 hm79 => ?_)
                  have h := h m79 hm79
                  exact wp_ret rfl h
                · have h := h.2 c78
                  refine wp_run 4 true (105, ([some (vp 31 0)], ([], G x (mup m77 31 0 20 ((m77 31 0 20) + 0))))) rfl rfl ?_
                  refine wpg (fun m80 => Wp X (d + 1) 261 (105, ([some (vp 31 0)], ([], G x m80))) Q) (mup m77 31 0 20 ((m77 31 0 20) + 0)) (fun m80 hm80 => ?_)
                  have h := h m80 hm80
                  exact wp_ret rfl h
            · have h := h.2 c73
              obtain ⟨hg7_0, h⟩ := h
              refine wp_run 4 (okT 2 ((m68 31 0 22) ||| 1) && true) (68, ([some (vp 31 0)], ([], G x (mup m72 31 0 22 ((m68 31 0 22) ||| 1))))) rfl (and_t hg7_0 rfl) ?_
              refine wpg (fun m81 => Wp X (d + 1) 261 (68, ([some (vp 31 0)], ([], G x m81))) Q) (mup m72 31 0 22 ((m68 31 0 22) ||| 1)) (fun m81 hm81 => ?_)
              have h := h m81 hm81
              refine wp_run 7 true (80, ([some (vp 31 0)], ([vp 31 0, vi (8 * (m81 31 0 21)), vp 42 0], G x m81))) rfl rfl ?_
              refine wp_call 257 [vp 31 0] (83, ([some (vp 31 0)], ([vi (8 * (m81 31 0 21)), vp 42 0], G x m81))) rfl rfl (Cl.mono h (Nat.le_refl _) ?_)
              rintro r ⟨v82, m83, rfl, h⟩
              · show Wp X (d + 1) 261 (83, ([some (vp 31 0)], ([vi v82, vi (8 * (m81 31 0 21)), vp 42 0], G x m83))) Q
                obtain ⟨hg8_0, h⟩ := h
                refine wp_run 1 (inb (8 * (m81 31 0 21)) 256 && true) (84, ([some (vp 31 0)], ([], G x (mup m83 42 0 ((8 * (m81 31 0 21)).toNatClampNeg) v82)))) rfl (and_t hg8_0 rfl) ?_
                refine wpg (fun m84 => Wp X (d + 1) 261 (84, ([some (vp 31 0)], ([], G x m84))) Q) (mup m83 42 0 ((8 * (m81 31 0 21)).toNatClampNeg) v82) (fun m84 hm84 => ?_)
                have h := h m84 hm84
                refine wp_run 6 true ((bif decide ((m84 31 0 22) = 0) then 100 else 96), ([some (vp 31 0)], ([vi (m84 31 0 20), vp 31 0], G x m84))) rfl rfl ?_
                refine wp_if ((m84 31 0 22) = 0) (fun c85 => ?_) (fun c85 => ?_)
                · have h := h.1 c85
                  refine wp_run 3 true (105, ([some (vp 31 0)], ([], G x (mup m84 31 0 20 ((m84 31 0 20) + 1))))) rfl rfl ?_
                  refine wpg (fun m86 => Wp X (d + 1) 261 (105, ([some (vp 31 0)], ([], G x m86))) Q) (mup m84 31 0 20 ((m84 31 0 20) + 1)) (fun m86 hm86 => ?_)
                  have h := h m86 hm86
                  exact wp_ret rfl h
                · have h := h.2 c85
                  refine wp_run 4 true (105, ([some (vp 31 0)], ([], G x (mup m84 31 0 20 ((m84 31 0 20) + 0))))) rfl rfl ?_
                  refine wpg (fun m87 => Wp X (d + 1) 261 (105, ([some (vp 31 0)], ([], G x m87))) Q) (mup m84 31 0 20 ((m84 31 0 20) + 0)) (fun m87 hm87 => ?_)
                  have h := h m87 hm87
                  exact wp_ret rfl h
set_option maxRecDepth 100000 in
set_option maxHeartbeats 4000000 in
theorem vc_X11_pick {X : MX} {d : Nat} {x : Int64 × UInt64} {m : MI} {Q : MRes → Prop} {p0 : Int32} {p1 : Int32} {p2 : Int32} {p3 : Int32} {p4 : Int32} {p5 : Int32} {p6 : Int32} {p7 : Int32} (h : ((p0 = 0 → Q (.inl (some (vi p1)), G x m)) ∧ (p0 = 1 → Q (.inl (some (vi p2)), G x m)) ∧ (p0 = 2 → Q (.inl (some (vi p3)), G x m)) ∧ (p0 = 3 → Q (.inl (some (vi p4)), G x m)) ∧ (p0 = 4 → Q (.inl (some (vi p5)), G x m)) ∧ (p0 = 5 → Q (.inl (some (vi p6)), G x m)) ∧ (p0 = 6 → Q (.inl (some (vi p7)), G x m)) ∧ ((¬ p0 = 0 ∧ ¬ p0 = 1 ∧ ¬ p0 = 2 ∧ ¬ p0 = 3 ∧ ¬ p0 = 4 ∧ ¬ p0 = 5 ∧ ¬ p0 = 6) → Q (.inl (some (vi 0)), G x m)))) : Cl X d 262 [vi p0, vi p1, vi p2, vi p3, vi p4, vi p5, vi p6, vi p7] (G x m) Q := by
  show Wp X d 262 (0, ([some (vi p0), some (vi p1), some (vi p2), some (vi p3), some (vi p4), some (vi p5), some (vi p6), some (vi p7)], ([], G x m))) Q
  refine wp_run 2 true ((swt 1 61 0 6 #[43, 45, 47, 49, 52, 55, 58] p0), ([some (vi p0), some (vi p1), some (vi p2), some (vi p3), some (vi p4), some (vi p5), some (vi p6), some (vi p7)], ([], G x m))) rfl rfl ?_
  by_cases c1_0 : p0 = 0
  · refine wp_pc (p2 := 44) (by rw [c1_0]; rfl) ?_
    have h := h.1 c1_0
    refine wp_run 1 true (45, ([some (vi p0), some (vi p1), some (vi p2), some (vi p3), some (vi p4), some (vi p5), some (vi p6), some (vi p7)], ([vi p1], G x m))) rfl rfl ?_
    exact wp_ret rfl h
  by_cases c1_1 : p0 = 1
  · refine wp_pc (p2 := 46) (by rw [c1_1]; rfl) ?_
    have h := h.2.1 c1_1
    refine wp_run 1 true (47, ([some (vi p0), some (vi p1), some (vi p2), some (vi p3), some (vi p4), some (vi p5), some (vi p6), some (vi p7)], ([vi p2], G x m))) rfl rfl ?_
    exact wp_ret rfl h
  by_cases c1_2 : p0 = 2
  · refine wp_pc (p2 := 48) (by rw [c1_2]; rfl) ?_
    have h := h.2.2.1 c1_2
    refine wp_run 1 true (49, ([some (vi p0), some (vi p1), some (vi p2), some (vi p3), some (vi p4), some (vi p5), some (vi p6), some (vi p7)], ([vi p3], G x m))) rfl rfl ?_
    exact wp_ret rfl h
  by_cases c1_3 : p0 = 3
  · refine wp_pc (p2 := 50) (by rw [c1_3]; rfl) ?_
    have h := h.2.2.2.1 c1_3
    refine wp_run 1 true (52, ([some (vi p0), some (vi p1), some (vi p2), some (vi p3), some (vi p4), some (vi p5), some (vi p6), some (vi p7)], ([vi p4], G x m))) rfl rfl ?_
    exact wp_ret rfl h
  by_cases c1_4 : p0 = 4
  · refine wp_pc (p2 := 53) (by rw [c1_4]; rfl) ?_
    have h := h.2.2.2.2.1 c1_4
    refine wp_run 1 true (55, ([some (vi p0), some (vi p1), some (vi p2), some (vi p3), some (vi p4), some (vi p5), some (vi p6), some (vi p7)], ([vi p5], G x m))) rfl rfl ?_
    exact wp_ret rfl h
  by_cases c1_5 : p0 = 5
  · refine wp_pc (p2 := 56) (by rw [c1_5]; rfl) ?_
    have h := h.2.2.2.2.2.1 c1_5
    refine wp_run 1 true (58, ([some (vi p0), some (vi p1), some (vi p2), some (vi p3), some (vi p4), some (vi p5), some (vi p6), some (vi p7)], ([vi p6], G x m))) rfl rfl ?_
    exact wp_ret rfl h
  by_cases c1_6 : p0 = 6
  · refine wp_pc (p2 := 59) (by rw [c1_6]; rfl) ?_
    have h := h.2.2.2.2.2.2.1 c1_6
    refine wp_run 1 true (61, ([some (vi p0), some (vi p1), some (vi p2), some (vi p3), some (vi p4), some (vi p5), some (vi p6), some (vi p7)], ([vi p7], G x m))) rfl rfl ?_
    exact wp_ret rfl h
  have h := h.2.2.2.2.2.2.2 ⟨c1_0, c1_1, c1_2, c1_3, c1_4, c1_5, c1_6⟩
  refine wp_pc (p2 := 62) (swt_d0_6 _ _ _ _ c1_0 c1_1 c1_2 c1_3 c1_4 c1_5 c1_6) ?_
  refine wp_run 1 true (63, ([some (vi p0), some (vi p1), some (vi p2), some (vi p3), some (vi p4), some (vi p5), some (vi p6), some (vi p7)], ([vi 0], G x m))) rfl rfl ?_
  exact wp_ret rfl h
set_option maxRecDepth 100000 in
set_option maxHeartbeats 4000000 in
theorem vc_X11_spelled {X : MX} {d : Nat} {x : Int64 × UInt64} {m : MI} {Q : MRes → Prop} {p0 : Int32} {p1 : Int32} (h : ((p0 = 0 → Cl X d 262 [vi p1, vi 102, vi 105, vi 110, vi 100, vi 0, vi 0, vi 0] (G x m) (fun r => ∃ (v2 : Int32) (m3 : MI), r = (.inl (some (vi v2)), G x m3) ∧ Q (.inl (some (vi v2)), G x m3))) ∧ (p0 = 1 → Cl X d 262 [vi p1, vi 114, vi 101, vi 112, vi 111, vi 114, vi 116, vi 0] (G x m) (fun r => ∃ (v4 : Int32) (m5 : MI), r = (.inl (some (vi v4)), G x m5) ∧ Q (.inl (some (vi v4)), G x m5))) ∧ (p0 = 2 → Cl X d 262 [vi p1, vi 100, vi 114, vi 111, vi 112, vi 0, vi 0, vi 0] (G x m) (fun r => ∃ (v6 : Int32) (m7 : MI), r = (.inl (some (vi v6)), G x m7) ∧ Q (.inl (some (vi v6)), G x m7))) ∧ (p0 = 3 → Cl X d 262 [vi p1, vi 100, vi 105, vi 115, vi 99, vi 97, vi 114, vi 100] (G x m) (fun r => ∃ (v8 : Int32) (m9 : MI), r = (.inl (some (vi v8)), G x m9) ∧ Q (.inl (some (vi v8)), G x m9))) ∧ (p0 = 4 → Cl X d 262 [vi p1, vi 109, vi 101, vi 116, vi 114, vi 105, vi 99, vi 0] (G x m) (fun r => ∃ (v10 : Int32) (m11 : MI), r = (.inl (some (vi v10)), G x m11) ∧ Q (.inl (some (vi v10)), G x m11))) ∧ (p0 = 5 → Cl X d 262 [vi p1, vi 114, vi 101, vi 116, vi 117, vi 114, vi 110, vi 0] (G x m) (fun r => ∃ (v12 : Int32) (m13 : MI), r = (.inl (some (vi v12)), G x m13) ∧ Q (.inl (some (vi v12)), G x m13))) ∧ (p0 = 6 → Cl X d 262 [vi p1, vi 115, vi 101, vi 116, vi 116, vi 108, vi 101, vi 0] (G x m) (fun r => ∃ (v14 : Int32) (m15 : MI), r = (.inl (some (vi v14)), G x m15) ∧ Q (.inl (some (vi v14)), G x m15))) ∧ (p0 = 7 → Cl X d 262 [vi p1, vi 109, vi 105, vi 120, vi 0, vi 0, vi 0, vi 0] (G x m) (fun r => ∃ (v16 : Int32) (m17 : MI), r = (.inl (some (vi v16)), G x m17) ∧ Q (.inl (some (vi v16)), G x m17))) ∧ ((¬ p0 = 0 ∧ ¬ p0 = 1 ∧ ¬ p0 = 2 ∧ ¬ p0 = 3 ∧ ¬ p0 = 4 ∧ ¬ p0 = 5 ∧ ¬ p0 = 6 ∧ ¬ p0 = 7) → Cl X d 262 [vi p1, vi 100, vi 97, vi 121, vi 0, vi 0, vi 0, vi 0] (G x m) (fun r => ∃ (v18 : Int32) (m19 : MI), r = (.inl (some (vi v18)), G x m19) ∧ Q (.inl (some (vi v18)), G x m19))))) : Cl X (d + 1) 263 [vi p0, vi p1] (G x m) Q := by
  show Wp X (d + 1) 263 (0, ([some (vi p0), some (vi p1)], ([], G x m))) Q
  refine wp_run 2 true ((swt 1 185 0 7 #[47, 63, 81, 97, 116, 134, 152, 170] p0), ([some (vi p0), some (vi p1)], ([], G x m))) rfl rfl ?_
  by_cases c1_0 : p0 = 0
  · refine wp_pc (p2 := 48) (by rw [c1_0]; rfl) ?_
    have h := h.1 c1_0
    refine wp_run 8 true (60, ([some (vi p0), some (vi p1)], ([vi 0, vi 0, vi 0, vi 100, vi 110, vi 105, vi 102, vi p1], G x m))) rfl rfl ?_
    refine wp_call 262 [vi p1, vi 102, vi 105, vi 110, vi 100, vi 0, vi 0, vi 0] (63, ([some (vi p0), some (vi p1)], ([], G x m))) rfl rfl (Cl.mono h (Nat.le_refl _) ?_)
    rintro r ⟨v2, m3, rfl, h⟩
    · show Wp X (d + 1) 263 (63, ([some (vi p0), some (vi p1)], ([vi v2], G x m3))) Q
      exact wp_ret rfl h
  by_cases c1_1 : p0 = 1
  · refine wp_pc (p2 := 64) (by rw [c1_1]; rfl) ?_
    have h := h.2.1 c1_1
    refine wp_run 8 true (78, ([some (vi p0), some (vi p1)], ([vi 0, vi 116, vi 114, vi 111, vi 112, vi 101, vi 114, vi p1], G x m))) rfl rfl ?_
    refine wp_call 262 [vi p1, vi 114, vi 101, vi 112, vi 111, vi 114, vi 116, vi 0] (81, ([some (vi p0), some (vi p1)], ([], G x m))) rfl rfl (Cl.mono h (Nat.le_refl _) ?_)
    rintro r ⟨v4, m5, rfl, h⟩
    · show Wp X (d + 1) 263 (81, ([some (vi p0), some (vi p1)], ([vi v4], G x m5))) Q
      exact wp_ret rfl h
  by_cases c1_2 : p0 = 2
  · refine wp_pc (p2 := 82) (by rw [c1_2]; rfl) ?_
    have h := h.2.2.1 c1_2
    refine wp_run 8 true (94, ([some (vi p0), some (vi p1)], ([vi 0, vi 0, vi 0, vi 112, vi 111, vi 114, vi 100, vi p1], G x m))) rfl rfl ?_
    refine wp_call 262 [vi p1, vi 100, vi 114, vi 111, vi 112, vi 0, vi 0, vi 0] (97, ([some (vi p0), some (vi p1)], ([], G x m))) rfl rfl (Cl.mono h (Nat.le_refl _) ?_)
    rintro r ⟨v6, m7, rfl, h⟩
    · show Wp X (d + 1) 263 (97, ([some (vi p0), some (vi p1)], ([vi v6], G x m7))) Q
      exact wp_ret rfl h
  by_cases c1_3 : p0 = 3
  · refine wp_pc (p2 := 98) (by rw [c1_3]; rfl) ?_
    have h := h.2.2.2.1 c1_3
    refine wp_run 8 true (113, ([some (vi p0), some (vi p1)], ([vi 100, vi 114, vi 97, vi 99, vi 115, vi 105, vi 100, vi p1], G x m))) rfl rfl ?_
    refine wp_call 262 [vi p1, vi 100, vi 105, vi 115, vi 99, vi 97, vi 114, vi 100] (116, ([some (vi p0), some (vi p1)], ([], G x m))) rfl rfl (Cl.mono h (Nat.le_refl _) ?_)
    rintro r ⟨v8, m9, rfl, h⟩
    · show Wp X (d + 1) 263 (116, ([some (vi p0), some (vi p1)], ([vi v8], G x m9))) Q
      exact wp_ret rfl h
  by_cases c1_4 : p0 = 4
  · refine wp_pc (p2 := 117) (by rw [c1_4]; rfl) ?_
    have h := h.2.2.2.2.1 c1_4
    refine wp_run 8 true (131, ([some (vi p0), some (vi p1)], ([vi 0, vi 99, vi 105, vi 114, vi 116, vi 101, vi 109, vi p1], G x m))) rfl rfl ?_
    refine wp_call 262 [vi p1, vi 109, vi 101, vi 116, vi 114, vi 105, vi 99, vi 0] (134, ([some (vi p0), some (vi p1)], ([], G x m))) rfl rfl (Cl.mono h (Nat.le_refl _) ?_)
    rintro r ⟨v10, m11, rfl, h⟩
    · show Wp X (d + 1) 263 (134, ([some (vi p0), some (vi p1)], ([vi v10], G x m11))) Q
      exact wp_ret rfl h
  by_cases c1_5 : p0 = 5
  · refine wp_pc (p2 := 135) (by rw [c1_5]; rfl) ?_
    have h := h.2.2.2.2.2.1 c1_5
    refine wp_run 8 true (149, ([some (vi p0), some (vi p1)], ([vi 0, vi 110, vi 114, vi 117, vi 116, vi 101, vi 114, vi p1], G x m))) rfl rfl ?_
    refine wp_call 262 [vi p1, vi 114, vi 101, vi 116, vi 117, vi 114, vi 110, vi 0] (152, ([some (vi p0), some (vi p1)], ([], G x m))) rfl rfl (Cl.mono h (Nat.le_refl _) ?_)
    rintro r ⟨v12, m13, rfl, h⟩
    · show Wp X (d + 1) 263 (152, ([some (vi p0), some (vi p1)], ([vi v12], G x m13))) Q
      exact wp_ret rfl h
  by_cases c1_6 : p0 = 6
  · refine wp_pc (p2 := 153) (by rw [c1_6]; rfl) ?_
    have h := h.2.2.2.2.2.2.1 c1_6
    refine wp_run 8 true (167, ([some (vi p0), some (vi p1)], ([vi 0, vi 101, vi 108, vi 116, vi 116, vi 101, vi 115, vi p1], G x m))) rfl rfl ?_
    refine wp_call 262 [vi p1, vi 115, vi 101, vi 116, vi 116, vi 108, vi 101, vi 0] (170, ([some (vi p0), some (vi p1)], ([], G x m))) rfl rfl (Cl.mono h (Nat.le_refl _) ?_)
    rintro r ⟨v14, m15, rfl, h⟩
    · show Wp X (d + 1) 263 (170, ([some (vi p0), some (vi p1)], ([vi v14], G x m15))) Q
      exact wp_ret rfl h
  by_cases c1_7 : p0 = 7
  · refine wp_pc (p2 := 171) (by rw [c1_7]; rfl) ?_
    have h := h.2.2.2.2.2.2.2.1 c1_7
    refine wp_run 8 true (182, ([some (vi p0), some (vi p1)], ([vi 0, vi 0, vi 0, vi 0, vi 120, vi 105, vi 109, vi p1], G x m))) rfl rfl ?_
    refine wp_call 262 [vi p1, vi 109, vi 105, vi 120, vi 0, vi 0, vi 0, vi 0] (185, ([some (vi p0), some (vi p1)], ([], G x m))) rfl rfl (Cl.mono h (Nat.le_refl _) ?_)
    rintro r ⟨v16, m17, rfl, h⟩
    · show Wp X (d + 1) 263 (185, ([some (vi p0), some (vi p1)], ([vi v16], G x m17))) Q
      exact wp_ret rfl h
  have h := h.2.2.2.2.2.2.2.2 ⟨c1_0, c1_1, c1_2, c1_3, c1_4, c1_5, c1_6, c1_7⟩
  refine wp_pc (p2 := 186) (swt_d0_7 _ _ _ _ c1_0 c1_1 c1_2 c1_3 c1_4 c1_5 c1_6 c1_7) ?_
  refine wp_run 8 true (197, ([some (vi p0), some (vi p1)], ([vi 0, vi 0, vi 0, vi 0, vi 121, vi 97, vi 100, vi p1], G x m))) rfl rfl ?_
  refine wp_call 262 [vi p1, vi 100, vi 97, vi 121, vi 0, vi 0, vi 0, vi 0] (200, ([some (vi p0), some (vi p1)], ([], G x m))) rfl rfl (Cl.mono h (Nat.le_refl _) ?_)
  rintro r ⟨v18, m19, rfl, h⟩
  · show Wp X (d + 1) 263 (200, ([some (vi p0), some (vi p1)], ([vi v18], G x m19))) Q
    exact wp_ret rfl h
set_option maxRecDepth 100000 in
set_option maxHeartbeats 4000000 in
theorem vc_X11_word {X : MX} {d : Nat} {x : Int64 × UInt64} {m : MI} {Q : MRes → Prop} (h : Wp X (d + 1) 264 (4, ([some (vp 31 0), some (vi 0), some (vi 0), none], ([], G x m))) Q) : Cl X (d + 1) 264 [vp 31 0] (G x m) Q := by
  show Wp X (d + 1) 264 (0, ([some (vp 31 0), none, none, none], ([], G x m))) Q
  refine wp_run 4 true (4, ([some (vp 31 0), some (vi 0), some (vi 0), none], ([], G x m))) rfl rfl ?_
  exact h
set_option maxRecDepth 100000 in
set_option maxHeartbeats 4000000 in
theorem vl_X11_word_4 {X : MX} {d : Nat} {x : Int64 × UInt64} {m : MI} {Q : MRes → Prop} {l1 : Int32} {l2 : Int32} {o3 : Option MV} (h : ((9 ≤ l2 → (∀ m2 : MI, m2 = mup m 31 0 20 ((m 31 0 20) + l1) → (∀ m3 : MI, m3 = mup m2 31 0 22 1 → Q (.inl (some (vi 0)), G x m3)))) ∧ (¬ (9 ≤ l2) → Wp X (d + 1) 264 (12, ([some (vp 31 0), some (vi l1), some (vi l2), some (vi 0)], ([], G x m))) Q))) : Wp X (d + 1) 264 (4, ([some (vp 31 0), some (vi l1), some (vi l2), o3], ([], G x m))) Q := by
  refine wp_run 3 true ((bif decide (9 ≤ l2) then 95 else 10), ([some (vp 31 0), some (vi l1), some (vi l2), o3], ([], G x m))) rfl rfl ?_
  refine wp_if (9 ≤ l2) (fun c1 => ?_) (fun c1 => ?_)
  · have h := h.1 c1
    refine wp_run 6 true (105, ([some (vp 31 0), some (vi l1), some (vi l2), o3], ([], G x (mup m 31 0 20 ((m 31 0 20) + l1))))) rfl rfl ?_
    refine wpg (fun m2 => Wp X (d + 1) 264 (105, ([some (vp 31 0), some (vi l1), some (vi l2), o3], ([], G x m2))) Q) (mup m 31 0 20 ((m 31 0 20) + l1)) (fun m2 hm2 => ?_)
    have h := h m2 hm2
    refine wp_run 3 true (110, ([some (vp 31 0), some (vi l1), some (vi l2), o3], ([], G x (mup m2 31 0 22 1)))) rfl rfl ?_
    refine wpg (fun m3 => Wp X (d + 1) 264 (110, ([some (vp 31 0), some (vi l1), some (vi l2), o3], ([], G x m3))) Q) (mup m2 31 0 22 1) (fun m3 hm3 => ?_)
    have h := h m3 hm3
    refine wp_run 1 true (111, ([some (vp 31 0), some (vi l1), some (vi l2), o3], ([vi 0], G x m3))) rfl rfl ?_
    exact wp_ret rfl h
  · have h := h.2 c1
    refine wp_run 2 true (12, ([some (vp 31 0), some (vi l1), some (vi l2), some (vi 0)], ([], G x m))) rfl rfl ?_
    exact h
set_option maxRecDepth 100000 in
set_option maxHeartbeats 4000000 in
theorem vl_X11_word_12 {X : MX} {d : Nat} {x : Int64 × UInt64} {m : MI} {Q : MRes → Prop} {l1 : Int32} {l2 : Int32} {l3 : Int32} (h : Cl X d 263 [vi l2, vi l3] (G x m) (fun r => ∃ (v1 : Int32) (m2 : MI), r = (.inl (some (vi v1)), G x m2) ∧ ((v1 ≤ 0 → Cl X d 263 [vi l2, vi l3] (G x m2) (fun r => ∃ (v4 : Int32) (m5 : MI), r = (.inl (some (vi v4)), G x m5) ∧ ((¬ v4 = 0 → ((l3 ≤ l1 → (∀ t8 : Int32, t8 = l2 + 1 → Wp X (d + 1) 264 (4, ([some (vp 31 0), some (vi l1), some (vi t8), some (vi l3)], ([], G x m5))) Q)) ∧ (¬ (l3 ≤ l1) → (∀ t9 : Int32, t9 = l2 + 1 → Wp X (d + 1) 264 (4, ([some (vp 31 0), some (vi l3), some (vi t9), some (vi l3)], ([], G x m5))) Q)))) ∧ (¬ (¬ v4 = 0) → (∀ m10 : MI, m10 = mup m5 31 0 20 ((m5 31 0 20) + l3) → Q (.inl (some (vi l2)), G x m10)))))) ∧ (¬ (v1 ≤ 0) → (((m2 31 0 19) ≤ ((m2 31 0 20) + l3) → Cl X d 263 [vi l2, vi l3] (G x m2) (fun r => ∃ (v12 : Int32) (m13 : MI), r = (.inl (some (vi v12)), G x m13) ∧ ((¬ v12 = 0 → ((l3 ≤ l1 → (∀ t16 : Int32, t16 = l2 + 1 → Wp X (d + 1) 264 (4, ([some (vp 31 0), some (vi l1), some (vi t16), some (vi l3)], ([], G x m13))) Q)) ∧ (¬ (l3 ≤ l1) → (∀ t17 : Int32, t17 = l2 + 1 → Wp X (d + 1) 264 (4, ([some (vp 31 0), some (vi l3), some (vi t17), some (vi l3)], ([], G x m13))) Q)))) ∧ (¬ (¬ v12 = 0) → (∀ m18 : MI, m18 = mup m13 31 0 20 ((m13 31 0 20) + l3) → Q (.inl (some (vi l2)), G x m18)))))) ∧ (¬ ((m2 31 0 19) ≤ ((m2 31 0 20) + l3)) → (inb ((m2 31 0 20) + l3) 60 = true ∧ Cl X d 263 [vi l2, vi l3] (G x m2) (fun r => ∃ (v19 : Int32) (m20 : MI), r = (.inl (some (vi v19)), G x m20) ∧ ((¬ (m2 40 0 ((m2 31 0 20) + l3).toNatClampNeg) = v19 → Cl X d 263 [vi l2, vi l3] (G x m20) (fun r => ∃ (v22 : Int32) (m23 : MI), r = (.inl (some (vi v22)), G x m23) ∧ ((¬ v22 = 0 → ((l3 ≤ l1 → (∀ t26 : Int32, t26 = l2 + 1 → Wp X (d + 1) 264 (4, ([some (vp 31 0), some (vi l1), some (vi t26), some (vi l3)], ([], G x m23))) Q)) ∧ (¬ (l3 ≤ l1) → (∀ t27 : Int32, t27 = l2 + 1 → Wp X (d + 1) 264 (4, ([some (vp 31 0), some (vi l3), some (vi t27), some (vi l3)], ([], G x m23))) Q)))) ∧ (¬ (¬ v22 = 0) → (∀ m28 : MI, m28 = mup m23 31 0 20 ((m23 31 0 20) + l3) → Q (.inl (some (vi l2)), G x m28)))))) ∧ (¬ (¬ (m2 40 0 ((m2 31 0 20) + l3).toNatClampNeg) = v19) → (∀ t29 : Int32, t29 = l3 + 1 → Wp X (d + 1) 264 (12, ([some (vp 31 0), some (vi l1), some (vi l2), some (vi t29)], ([], G x m20))) Q))))))))))) : Wp X (d + 1) 264 (12, ([some (vp 31 0), some (vi l1), some (vi l2), some (vi l3)], ([], G x m))) Q := by
  refine wp_run 2 true (14, ([some (vp 31 0), some (vi l1), some (vi l2), some (vi l3)], ([vi l3, vi l2], G x m))) rfl rfl ?_
  refine wp_call 263 [vi l2, vi l3] (17, ([some (vp 31 0), some (vi l1), some (vi l2), some (vi l3)], ([], G x m))) rfl rfl (Cl.mono h (Nat.le_refl _) ?_)
  rintro r ⟨v1, m2, rfl, h⟩
  · show Wp X (d + 1) 264 (17, ([some (vp 31 0), some (vi l1), some (vi l2), some (vi l3)], ([vi v1], G x m2))) Q
    refine wp_run 1 true ((bif decide (v1 ≤ 0) then 58 else 20), ([some (vp 31 0), some (vi l1), some (vi l2), some (vi l3)], ([], G x m2))) rfl rfl ?_
    refine wp_if (v1 ≤ 0) (fun c3 => ?_) (fun c3 => ?_)
    · have h := h.1 c3
      refine wp_run 2 true (60, ([some (vp 31 0), some (vi l1), some (vi l2), some (vi l3)], ([vi l3, vi l2], G x m2))) rfl rfl ?_
      refine wp_call 263 [vi l2, vi l3] (63, ([some (vp 31 0), some (vi l1), some (vi l2), some (vi l3)], ([], G x m2))) rfl rfl (Cl.mono h (Nat.le_refl _) ?_)
      rintro r ⟨v4, m5, rfl, h⟩
      · show Wp X (d + 1) 264 (63, ([some (vp 31 0), some (vi l1), some (vi l2), some (vi l3)], ([vi v4], G x m5))) Q
        refine wp_run 1 true ((bif decide (¬ v4 = 0) then 78 else 66), ([some (vp 31 0), some (vi l1), some (vi l2), some (vi l3)], ([], G x m5))) rfl rfl ?_
        refine wp_if (¬ v4 = 0) (fun c6 => ?_) (fun c6 => ?_)
        · have h := h.1 c6
          refine wp_run 3 true ((bif decide (l3 ≤ l1) then 87 else 83), ([some (vp 31 0), some (vi l1), some (vi l2), some (vi l3)], ([], G x m5))) rfl rfl ?_
          refine wp_if (l3 ≤ l1) (fun c7 => ?_) (fun c7 => ?_)
          · have h := h.1 c7
            refine wp_run 3 true (92, ([some (vp 31 0), some (vi l1), some (vi (l2 + 1)), some (vi l3)], ([], G x m5))) rfl rfl ?_
            refine wpg (fun t8 => Wp X (d + 1) 264 (92, ([some (vp 31 0), some (vi l1), some (vi t8), some (vi l3)], ([], G x m5))) Q) (l2 + 1) (fun t8 ht8 => ?_)
            have h := h t8 ht8
            refine wp_run 1 true (4, ([some (vp 31 0), some (vi l1), some (vi t8), some (vi l3)], ([], G x m5))) rfl rfl ?_
            exact h
          · have h := h.2 c7
            refine wp_run 4 true (92, ([some (vp 31 0), some (vi l3), some (vi (l2 + 1)), some (vi l3)], ([], G x m5))) rfl rfl ?_
            refine wpg (fun t9 => Wp X (d + 1) 264 (92, ([some (vp 31 0), some (vi l3), some (vi t9), some (vi l3)], ([], G x m5))) Q) (l2 + 1) (fun t9 ht9 => ?_)
            have h := h t9 ht9
            refine wp_run 1 true (4, ([some (vp 31 0), some (vi l3), some (vi t9), some (vi l3)], ([], G x m5))) rfl rfl ?_
            exact h
        · have h := h.2 c6
          refine wp_run 6 true (76, ([some (vp 31 0), some (vi l1), some (vi l2), some (vi l3)], ([], G x (mup m5 31 0 20 ((m5 31 0 20) + l3))))) rfl rfl ?_
          refine wpg (fun m10 => Wp X (d + 1) 264 (76, ([some (vp 31 0), some (vi l1), some (vi l2), some (vi l3)], ([], G x m10))) Q) (mup m5 31 0 20 ((m5 31 0 20) + l3)) (fun m10 hm10 => ?_)
          have h := h m10 hm10
          refine wp_run 1 true (77, ([some (vp 31 0), some (vi l1), some (vi l2), some (vi l3)], ([vi l2], G x m10))) rfl rfl ?_
          exact wp_ret rfl h
    · have h := h.2 c3
      refine wp_run 7 true ((bif decide ((m2 31 0 19) ≤ ((m2 31 0 20) + l3)) then 58 else 33), ([some (vp 31 0), some (vi l1), some (vi l2), some (vi l3)], ([], G x m2))) rfl rfl ?_
      refine wp_if ((m2 31 0 19) ≤ ((m2 31 0 20) + l3)) (fun c11 => ?_) (fun c11 => ?_)
      · have h := h.1 c11
        refine wp_run 2 true (60, ([some (vp 31 0), some (vi l1), some (vi l2), some (vi l3)], ([vi l3, vi l2], G x m2))) rfl rfl ?_
        refine wp_call 263 [vi l2, vi l3] (63, ([some (vp 31 0), some (vi l1), some (vi l2), some (vi l3)], ([], G x m2))) rfl rfl (Cl.mono h (Nat.le_refl _) ?_)
        rintro r ⟨v12, m13, rfl, h⟩
        · show Wp X (d + 1) 264 (63, ([some (vp 31 0), some (vi l1), some (vi l2), some (vi l3)], ([vi v12], G x m13))) Q
          refine wp_run 1 true ((bif decide (¬ v12 = 0) then 78 else 66), ([some (vp 31 0), some (vi l1), some (vi l2), some (vi l3)], ([], G x m13))) rfl rfl ?_
          refine wp_if (¬ v12 = 0) (fun c14 => ?_) (fun c14 => ?_)
          · have h := h.1 c14
            refine wp_run 3 true ((bif decide (l3 ≤ l1) then 87 else 83), ([some (vp 31 0), some (vi l1), some (vi l2), some (vi l3)], ([], G x m13))) rfl rfl ?_
            refine wp_if (l3 ≤ l1) (fun c15 => ?_) (fun c15 => ?_)
            · have h := h.1 c15
              refine wp_run 3 true (92, ([some (vp 31 0), some (vi l1), some (vi (l2 + 1)), some (vi l3)], ([], G x m13))) rfl rfl ?_
              refine wpg (fun t16 => Wp X (d + 1) 264 (92, ([some (vp 31 0), some (vi l1), some (vi t16), some (vi l3)], ([], G x m13))) Q) (l2 + 1) (fun t16 ht16 => ?_)
              have h := h t16 ht16
              refine wp_run 1 true (4, ([some (vp 31 0), some (vi l1), some (vi t16), some (vi l3)], ([], G x m13))) rfl rfl ?_
              exact h
            · have h := h.2 c15
              refine wp_run 4 true (92, ([some (vp 31 0), some (vi l3), some (vi (l2 + 1)), some (vi l3)], ([], G x m13))) rfl rfl ?_
              refine wpg (fun t17 => Wp X (d + 1) 264 (92, ([some (vp 31 0), some (vi l3), some (vi t17), some (vi l3)], ([], G x m13))) Q) (l2 + 1) (fun t17 ht17 => ?_)
              have h := h t17 ht17
              refine wp_run 1 true (4, ([some (vp 31 0), some (vi l3), some (vi t17), some (vi l3)], ([], G x m13))) rfl rfl ?_
              exact h
          · have h := h.2 c14
            refine wp_run 6 true (76, ([some (vp 31 0), some (vi l1), some (vi l2), some (vi l3)], ([], G x (mup m13 31 0 20 ((m13 31 0 20) + l3))))) rfl rfl ?_
            refine wpg (fun m18 => Wp X (d + 1) 264 (76, ([some (vp 31 0), some (vi l1), some (vi l2), some (vi l3)], ([], G x m18))) Q) (mup m13 31 0 20 ((m13 31 0 20) + l3)) (fun m18 hm18 => ?_)
            have h := h m18 hm18
            refine wp_run 1 true (77, ([some (vp 31 0), some (vi l1), some (vi l2), some (vi l3)], ([vi l2], G x m18))) rfl rfl ?_
            exact wp_ret rfl h
      · have h := h.2 c11
        obtain ⟨hg4_0, h⟩ := h
        refine wp_run 9 (inb ((m2 31 0 20) + l3) 60 && true) (46, ([some (vp 31 0), some (vi l1), some (vi l2), some (vi l3)], ([vi l3, vi l2, vi (m2 40 0 ((m2 31 0 20) + l3).toNatClampNeg)], G x m2))) rfl (and_t hg4_0 rfl) ?_
        refine wp_call 263 [vi l2, vi l3] (49, ([some (vp 31 0), some (vi l1), some (vi l2), some (vi l3)], ([vi (m2 40 0 ((m2 31 0 20) + l3).toNatClampNeg)], G x m2))) rfl rfl (Cl.mono h (Nat.le_refl _) ?_)
        rintro r ⟨v19, m20, rfl, h⟩
        · show Wp X (d + 1) 264 (49, ([some (vp 31 0), some (vi l1), some (vi l2), some (vi l3)], ([vi v19, vi (m2 40 0 ((m2 31 0 20) + l3).toNatClampNeg)], G x m20))) Q
          refine wp_run 1 true ((bif decide (¬ (m2 40 0 ((m2 31 0 20) + l3).toNatClampNeg) = v19) then 58 else 52), ([some (vp 31 0), some (vi l1), some (vi l2), some (vi l3)], ([], G x m20))) rfl rfl ?_
          refine wp_if (¬ (m2 40 0 ((m2 31 0 20) + l3).toNatClampNeg) = v19) (fun c21 => ?_) (fun c21 => ?_)
          · have h := h.1 c21
            refine wp_run 2 true (60, ([some (vp 31 0), some (vi l1), some (vi l2), some (vi l3)], ([vi l3, vi l2], G x m20))) rfl rfl ?_
            refine wp_call 263 [vi l2, vi l3] (63, ([some (vp 31 0), some (vi l1), some (vi l2), some (vi l3)], ([], G x m20))) rfl rfl (Cl.mono h (Nat.le_refl _) ?_)
            rintro r ⟨v22, m23, rfl, h⟩
            · show Wp X (d + 1) 264 (63, ([some (vp 31 0), some (vi l1), some (vi l2), some (vi l3)], ([vi v22], G x m23))) Q
              refine wp_run 1 true ((bif decide (¬ v22 = 0) then 78 else 66), ([some (vp 31 0), some (vi l1), some (vi l2), some (vi l3)], ([], G x m23))) rfl rfl ?_
              refine wp_if (¬ v22 = 0) (fun c24 => ?_) (fun c24 => ?_)
              · have h := h.1 c24
                refine wp_run 3 true ((bif decide (l3 ≤ l1) then 87 else 83), ([some (vp 31 0), some (vi l1), some (vi l2), some (vi l3)], ([], G x m23))) rfl rfl ?_
                refine wp_if (l3 ≤ l1) (fun c25 => ?_) (fun c25 => ?_)
                · have h := h.1 c25
                  refine wp_run 3 true (92, ([some (vp 31 0), some (vi l1), some (vi (l2 + 1)), some (vi l3)], ([], G x m23))) rfl rfl ?_
                  refine wpg (fun t26 => Wp X (d + 1) 264 (92, ([some (vp 31 0), some (vi l1), some (vi t26), some (vi l3)], ([], G x m23))) Q) (l2 + 1) (fun t26 ht26 => ?_)
                  have h := h t26 ht26
                  refine wp_run 1 true (4, ([some (vp 31 0), some (vi l1), some (vi t26), some (vi l3)], ([], G x m23))) rfl rfl ?_
                  exact h
                · have h := h.2 c25
                  refine wp_run 4 true (92, ([some (vp 31 0), some (vi l3), some (vi (l2 + 1)), some (vi l3)], ([], G x m23))) rfl rfl ?_
                  refine wpg (fun t27 => Wp X (d + 1) 264 (92, ([some (vp 31 0), some (vi l3), some (vi t27), some (vi l3)], ([], G x m23))) Q) (l2 + 1) (fun t27 ht27 => ?_)
                  have h := h t27 ht27
                  refine wp_run 1 true (4, ([some (vp 31 0), some (vi l3), some (vi t27), some (vi l3)], ([], G x m23))) rfl rfl ?_
                  exact h
              · have h := h.2 c24
                refine wp_run 6 true (76, ([some (vp 31 0), some (vi l1), some (vi l2), some (vi l3)], ([], G x (mup m23 31 0 20 ((m23 31 0 20) + l3))))) rfl rfl ?_
                refine wpg (fun m28 => Wp X (d + 1) 264 (76, ([some (vp 31 0), some (vi l1), some (vi l2), some (vi l3)], ([], G x m28))) Q) (mup m23 31 0 20 ((m23 31 0 20) + l3)) (fun m28 hm28 => ?_)
                have h := h m28 hm28
                refine wp_run 1 true (77, ([some (vp 31 0), some (vi l1), some (vi l2), some (vi l3)], ([vi l2], G x m28))) rfl rfl ?_
                exact wp_ret rfl h
          · have h := h.2 c21
            refine wp_run 1 true (55, ([some (vp 31 0), some (vi l1), some (vi l2), some (vi (l3 + 1))], ([], G x m20))) rfl rfl ?_
            refine wpg (fun t29 => Wp X (d + 1) 264 (55, ([some (vp 31 0), some (vi l1), some (vi l2), some (vi t29)], ([], G x m20))) Q) (l3 + 1) (fun t29 ht29 => ?_)
            have h := h t29 ht29
            refine wp_run 1 true (12, ([some (vp 31 0), some (vi l1), some (vi l2), some (vi t29)], ([], G x m20))) rfl rfl ?_
            exact h
set_option maxRecDepth 100000 in
set_option maxHeartbeats 4000000 in
theorem vc_X11_readsArguments {X : MX} {d : Nat} {x : Int64 × UInt64} {m : MI} {Q : MRes → Prop} {p0 : Int32} (h : ((p0 = 0 → Cl X d 260 [vp 31 0] (G x m) (fun r => ∃ (m3 : MI), r = (.inl none, G x m3) ∧ Q (.inl none, G x m3))) ∧ (p0 = 1 → Cl X d 260 [vp 31 0] (G x m) (fun r => ∃ (m5 : MI), r = (.inl none, G x m5) ∧ Cl X d 259 [vp 31 0, vi 32, vi 4] (G x m5) (fun r => ∃ (m7 : MI), r = (.inl none, G x m7) ∧ Q (.inl none, G x m7)))) ∧ (p0 = 2 → Cl X d 259 [vp 31 0, vi 32, vi 0] (G x m) (fun r => ∃ (m9 : MI), r = (.inl none, G x m9) ∧ Q (.inl none, G x m9))) ∧ (p0 = 3 → Cl X d 259 [vp 31 0, vi 32, vi 0] (G x m) (fun r => ∃ (m11 : MI), r = (.inl none, G x m11) ∧ Q (.inl none, G x m11))) ∧ (p0 = 4 → Cl X d 261 [vp 31 0] (G x m) (fun r => ∃ (m13 : MI), r = (.inl none, G x m13) ∧ Q (.inl none, G x m13))) ∧ (p0 = 5 → Cl X d 259 [vp 31 0, vi 32, vi 0] (G x m) (fun r => ∃ (m15 : MI), r = (.inl none, G x m15) ∧ Cl X d 259 [vp 31 0, vi 32, vi 1] (G x m15) (fun r => ∃ (m17 : MI), r = (.inl none, G x m17) ∧ Q (.inl none, G x m17)))) ∧ (p0 = 6 → Q (.inl none, G x m)) ∧ (p0 = 7 → Cl X d 259 [vp 31 0, vi 32, vi 0] (G x m) (fun r => ∃ (m19 : MI), r = (.inl none, G x m19) ∧ Cl X d 259 [vp 31 0, vi 32, vi 1] (G x m19) (fun r => ∃ (m21 : MI), r = (.inl none, G x m21) ∧ Q (.inl none, G x m21)))) ∧ (p0 = 8 → (inb (8 * (m 31 0 21)) 256 = true ∧ (∀ m22 : MI, m22 = mup m 42 0 ((8 * (m 31 0 21)).toNatClampNeg) 1 → Cl X d 257 [vp 31 0] (G x m22) (fun r => ∃ (v23 : Int32) (m24 : MI), r = (.inl (some (vi v23)), G x m24) ∧ ((¬ v23 = 32 → Q (.inl none, G x m24)) ∧ (¬ (¬ v23 = 32) → Cl X d 259 [vp 31 0, vi 32, vi 0] (G x m24) (fun r => ∃ (m27 : MI), r = (.inl none, G x m27) ∧ Q (.inl none, G x m27)))))))) ∧ ((¬ p0 = 0 ∧ ¬ p0 = 1 ∧ ¬ p0 = 2 ∧ ¬ p0 = 3 ∧ ¬ p0 = 4 ∧ ¬ p0 = 5 ∧ ¬ p0 = 6 ∧ ¬ p0 = 7 ∧ ¬ p0 = 8) → Cl X d 259 [vp 31 0, vi 32, vi 0] (G x m) (fun r => ∃ (m29 : MI), r = (.inl none, G x m29) ∧ Q (.inl none, G x m29))))) : Cl X (d + 1) 265 [vp 31 0, vi p0] (G x m) Q := by
  show Wp X (d + 1) 265 (0, ([some (vp 31 0), some (vi p0)], ([], G x m))) Q
  refine wp_run 2 true ((swt 1 131 0 8 #[51, 58, 131, 131, 72, 79, 96, 79, 99] p0), ([some (vp 31 0), some (vi p0)], ([], G x m))) rfl rfl ?_
  by_cases c1_0 : p0 = 0
  · refine wp_pc (p2 := 52) (by rw [c1_0]; rfl) ?_
    have h := h.1 c1_0
    refine wp_run 1 true (53, ([some (vp 31 0), some (vi p0)], ([vp 31 0], G x m))) rfl rfl ?_
    refine wp_call 260 [vp 31 0] (56, ([some (vp 31 0), some (vi p0)], ([], G x m))) rfl rfl (Cl.mono h (Nat.le_refl _) ?_)
    rintro r ⟨m3, rfl, h⟩
    · show Wp X (d + 1) 265 (56, ([some (vp 31 0), some (vi p0)], ([], G x m3))) Q
      refine wp_run 1 true (139, ([some (vp 31 0), some (vi p0)], ([], G x m3))) rfl rfl ?_
      exact wp_ret rfl h
  by_cases c1_1 : p0 = 1
  · refine wp_pc (p2 := 59) (by rw [c1_1]; rfl) ?_
    have h := h.2.1 c1_1
    refine wp_run 1 true (60, ([some (vp 31 0), some (vi p0)], ([vp 31 0], G x m))) rfl rfl ?_
    refine wp_call 260 [vp 31 0] (63, ([some (vp 31 0), some (vi p0)], ([], G x m))) rfl rfl (Cl.mono h (Nat.le_refl _) ?_)
    rintro r ⟨m5, rfl, h⟩
    · show Wp X (d + 1) 265 (63, ([some (vp 31 0), some (vi p0)], ([], G x m5))) Q
      refine wp_run 3 true (67, ([some (vp 31 0), some (vi p0)], ([vi 4, vi 32, vp 31 0], G x m5))) rfl rfl ?_
      refine wp_call 259 [vp 31 0, vi 32, vi 4] (70, ([some (vp 31 0), some (vi p0)], ([], G x m5))) rfl rfl (Cl.mono h (Nat.le_refl _) ?_)
      rintro r ⟨m7, rfl, h⟩
      · show Wp X (d + 1) 265 (70, ([some (vp 31 0), some (vi p0)], ([], G x m7))) Q
        refine wp_run 1 true (139, ([some (vp 31 0), some (vi p0)], ([], G x m7))) rfl rfl ?_
        exact wp_ret rfl h
  by_cases c1_2 : p0 = 2
  · refine wp_pc (p2 := 132) (by rw [c1_2]; rfl) ?_
    have h := h.2.2.1 c1_2
    refine wp_run 3 true (136, ([some (vp 31 0), some (vi p0)], ([vi 0, vi 32, vp 31 0], G x m))) rfl rfl ?_
    refine wp_call 259 [vp 31 0, vi 32, vi 0] (139, ([some (vp 31 0), some (vi p0)], ([], G x m))) rfl rfl (Cl.mono h (Nat.le_refl _) ?_)
    rintro r ⟨m9, rfl, h⟩
    · show Wp X (d + 1) 265 (139, ([some (vp 31 0), some (vi p0)], ([], G x m9))) Q
      exact wp_ret rfl h
  by_cases c1_3 : p0 = 3
  · refine wp_pc (p2 := 132) (by rw [c1_3]; rfl) ?_
    have h := h.2.2.2.1 c1_3
    refine wp_run 3 true (136, ([some (vp 31 0), some (vi p0)], ([vi 0, vi 32, vp 31 0], G x m))) rfl rfl ?_
    refine wp_call 259 [vp 31 0, vi 32, vi 0] (139, ([some (vp 31 0), some (vi p0)], ([], G x m))) rfl rfl (Cl.mono h (Nat.le_refl _) ?_)
    rintro r ⟨m11, rfl, h⟩
    · show Wp X (d + 1) 265 (139, ([some (vp 31 0), some (vi p0)], ([], G x m11))) Q
      exact wp_ret rfl h
  by_cases c1_4 : p0 = 4
  · refine wp_pc (p2 := 73) (by rw [c1_4]; rfl) ?_
    have h := h.2.2.2.2.1 c1_4
    refine wp_run 1 true (74, ([some (vp 31 0), some (vi p0)], ([vp 31 0], G x m))) rfl rfl ?_
    refine wp_call 261 [vp 31 0] (77, ([some (vp 31 0), some (vi p0)], ([], G x m))) rfl rfl (Cl.mono h (Nat.le_refl _) ?_)
    rintro r ⟨m13, rfl, h⟩
    · show Wp X (d + 1) 265 (77, ([some (vp 31 0), some (vi p0)], ([], G x m13))) Q
      refine wp_run 1 true (139, ([some (vp 31 0), some (vi p0)], ([], G x m13))) rfl rfl ?_
      exact wp_ret rfl h
  by_cases c1_5 : p0 = 5
  · refine wp_pc (p2 := 80) (by rw [c1_5]; rfl) ?_
    have h := h.2.2.2.2.2.1 c1_5
    refine wp_run 3 true (84, ([some (vp 31 0), some (vi p0)], ([vi 0, vi 32, vp 31 0], G x m))) rfl rfl ?_
    refine wp_call 259 [vp 31 0, vi 32, vi 0] (87, ([some (vp 31 0), some (vi p0)], ([], G x m))) rfl rfl (Cl.mono h (Nat.le_refl _) ?_)
    rintro r ⟨m15, rfl, h⟩
    · show Wp X (d + 1) 265 (87, ([some (vp 31 0), some (vi p0)], ([], G x m15))) Q
      refine wp_run 3 true (91, ([some (vp 31 0), some (vi p0)], ([vi 1, vi 32, vp 31 0], G x m15))) rfl rfl ?_
      refine wp_call 259 [vp 31 0, vi 32, vi 1] (94, ([some (vp 31 0), some (vi p0)], ([], G x m15))) rfl rfl (Cl.mono h (Nat.le_refl _) ?_)
      rintro r ⟨m17, rfl, h⟩
      · show Wp X (d + 1) 265 (94, ([some (vp 31 0), some (vi p0)], ([], G x m17))) Q
        refine wp_run 1 true (139, ([some (vp 31 0), some (vi p0)], ([], G x m17))) rfl rfl ?_
        exact wp_ret rfl h
  by_cases c1_6 : p0 = 6
  · refine wp_pc (p2 := 97) (by rw [c1_6]; rfl) ?_
    have h := h.2.2.2.2.2.2.1 c1_6
    refine wp_run 1 true (139, ([some (vp 31 0), some (vi p0)], ([], G x m))) rfl rfl ?_
    exact wp_ret rfl h
  by_cases c1_7 : p0 = 7
  · refine wp_pc (p2 := 80) (by rw [c1_7]; rfl) ?_
    have h := h.2.2.2.2.2.2.2.1 c1_7
    refine wp_run 3 true (84, ([some (vp 31 0), some (vi p0)], ([vi 0, vi 32, vp 31 0], G x m))) rfl rfl ?_
    refine wp_call 259 [vp 31 0, vi 32, vi 0] (87, ([some (vp 31 0), some (vi p0)], ([], G x m))) rfl rfl (Cl.mono h (Nat.le_refl _) ?_)
    rintro r ⟨m19, rfl, h⟩
    · show Wp X (d + 1) 265 (87, ([some (vp 31 0), some (vi p0)], ([], G x m19))) Q
      refine wp_run 3 true (91, ([some (vp 31 0), some (vi p0)], ([vi 1, vi 32, vp 31 0], G x m19))) rfl rfl ?_
      refine wp_call 259 [vp 31 0, vi 32, vi 1] (94, ([some (vp 31 0), some (vi p0)], ([], G x m19))) rfl rfl (Cl.mono h (Nat.le_refl _) ?_)
      rintro r ⟨m21, rfl, h⟩
      · show Wp X (d + 1) 265 (94, ([some (vp 31 0), some (vi p0)], ([], G x m21))) Q
        refine wp_run 1 true (139, ([some (vp 31 0), some (vi p0)], ([], G x m21))) rfl rfl ?_
        exact wp_ret rfl h
  by_cases c1_8 : p0 = 8
  · refine wp_pc (p2 := 100) (by rw [c1_8]; rfl) ?_
    have h := h.2.2.2.2.2.2.2.2.1 c1_8
    obtain ⟨hg2_0, h⟩ := h
    refine wp_run 8 (inb (8 * (m 31 0 21)) 256 && true) (113, ([some (vp 31 0), some (vi p0)], ([], G x (mup m 42 0 ((8 * (m 31 0 21)).toNatClampNeg) 1)))) rfl (and_t hg2_0 rfl) ?_
    refine wpg (fun m22 => Wp X (d + 1) 265 (113, ([some (vp 31 0), some (vi p0)], ([], G x m22))) Q) (mup m 42 0 ((8 * (m 31 0 21)).toNatClampNeg) 1) (fun m22 hm22 => ?_)
    have h := h m22 hm22
    refine wp_run 1 true (114, ([some (vp 31 0), some (vi p0)], ([vp 31 0], G x m22))) rfl rfl ?_
    refine wp_call 257 [vp 31 0] (117, ([some (vp 31 0), some (vi p0)], ([], G x m22))) rfl rfl (Cl.mono h (Nat.le_refl _) ?_)
    rintro r ⟨v23, m24, rfl, h⟩
    · show Wp X (d + 1) 265 (117, ([some (vp 31 0), some (vi p0)], ([vi v23], G x m24))) Q
      refine wp_run 2 true ((bif decide (¬ v23 = 32) then 139 else 122), ([some (vp 31 0), some (vi p0)], ([], G x m24))) rfl rfl ?_
      refine wp_if (¬ v23 = 32) (fun c25 => ?_) (fun c25 => ?_)
      · have h := h.1 c25
        exact wp_ret rfl h
      · have h := h.2 c25
        refine wp_run 3 true (126, ([some (vp 31 0), some (vi p0)], ([vi 0, vi 32, vp 31 0], G x m24))) rfl rfl ?_
        refine wp_call 259 [vp 31 0, vi 32, vi 0] (129, ([some (vp 31 0), some (vi p0)], ([], G x m24))) rfl rfl (Cl.mono h (Nat.le_refl _) ?_)
        rintro r ⟨m27, rfl, h⟩
        · show Wp X (d + 1) 265 (129, ([some (vp 31 0), some (vi p0)], ([], G x m27))) Q
          refine wp_run 1 true (139, ([some (vp 31 0), some (vi p0)], ([], G x m27))) rfl rfl ?_
          exact wp_ret rfl h
  have h := h.2.2.2.2.2.2.2.2.2 ⟨c1_0, c1_1, c1_2, c1_3, c1_4, c1_5, c1_6, c1_7, c1_8⟩
  refine wp_pc (p2 := 132) (swt_d0_8 _ _ _ _ c1_0 c1_1 c1_2 c1_3 c1_4 c1_5 c1_6 c1_7 c1_8) ?_
  refine wp_run 3 true (136, ([some (vp 31 0), some (vi p0)], ([vi 0, vi 32, vp 31 0], G x m))) rfl rfl ?_
  refine wp_call 259 [vp 31 0, vi 32, vi 0] (139, ([some (vp 31 0), some (vi p0)], ([], G x m))) rfl rfl (Cl.mono h (Nat.le_refl _) ?_)
  rintro r ⟨m29, rfl, h⟩
  · show Wp X (d + 1) 265 (139, ([some (vp 31 0), some (vi p0)], ([], G x m29))) Q
    exact wp_ret rfl h
set_option maxRecDepth 100000 in
set_option maxHeartbeats 4000000 in
theorem vc_X11_command {X : MX} {d : Nat} {x : Int64 × UInt64} {m : MI} {Q : MRes → Prop} (h : Cl X d 264 [vp 31 0] (G x m) (fun r => ∃ (v1 : Int32) (m2 : MI), r = (.inl (some (vi v1)), G x m2) ∧ (((m2 31 0 22) = 0 → Cl X d 265 [vp 31 0, vi v1] (G x m2) (fun r => ∃ (m5 : MI), r = (.inl none, G x m5) ∧ (((m5 31 0 22) = 0 → (inb (m5 31 0 21) 32 = true ∧ (∀ m7 : MI, m7 = mup m5 41 0 ((m5 31 0 21).toNatClampNeg) v1 → (∀ m8 : MI, m8 = mup m7 31 0 21 ((m7 31 0 21) + 1) → Q (.inl none, G x m8))))) ∧ (¬ ((m5 31 0 22) = 0) → Q (.inl none, G x m5))))) ∧ (¬ ((m2 31 0 22) = 0) → Q (.inl none, G x m2))))) : Cl X (d + 1) 266 [vp 31 0] (G x m) Q := by
  show Wp X (d + 1) 266 (0, ([some (vp 31 0), none], ([], G x m))) Q
  refine wp_run 1 true (1, ([some (vp 31 0), none], ([vp 31 0], G x m))) rfl rfl ?_
  refine wp_call 264 [vp 31 0] (4, ([some (vp 31 0), none], ([], G x m))) rfl rfl (Cl.mono h (Nat.le_refl _) ?_)
  rintro r ⟨v1, m2, rfl, h⟩
  · show Wp X (d + 1) 266 (4, ([some (vp 31 0), none], ([vi v1], G x m2))) Q
    refine wp_run 4 true ((bif decide ((m2 31 0 22) = 0) then 13 else 12), ([some (vp 31 0), some (vi v1)], ([], G x m2))) rfl rfl ?_
    refine wp_if ((m2 31 0 22) = 0) (fun c3 => ?_) (fun c3 => ?_)
    · have h := h.1 c3
      refine wp_run 2 true (15, ([some (vp 31 0), some (vi v1)], ([vi v1, vp 31 0], G x m2))) rfl rfl ?_
      refine wp_call 265 [vp 31 0, vi v1] (18, ([some (vp 31 0), some (vi v1)], ([], G x m2))) rfl rfl (Cl.mono h (Nat.le_refl _) ?_)
      rintro r ⟨m5, rfl, h⟩
      · show Wp X (d + 1) 266 (18, ([some (vp 31 0), some (vi v1)], ([], G x m5))) Q
        refine wp_run 3 true ((bif decide ((m5 31 0 22) = 0) then 26 else 25), ([some (vp 31 0), some (vi v1)], ([], G x m5))) rfl rfl ?_
        refine wp_if ((m5 31 0 22) = 0) (fun c6 => ?_) (fun c6 => ?_)
        · have h := h.1 c6
          obtain ⟨hg5_0, h⟩ := h
          refine wp_run 6 (inb (m5 31 0 21) 32 && true) (36, ([some (vp 31 0), some (vi v1)], ([], G x (mup m5 41 0 ((m5 31 0 21).toNatClampNeg) v1)))) rfl (and_t hg5_0 rfl) ?_
          refine wpg (fun m7 => Wp X (d + 1) 266 (36, ([some (vp 31 0), some (vi v1)], ([], G x m7))) Q) (mup m5 41 0 ((m5 31 0 21).toNatClampNeg) v1) (fun m7 hm7 => ?_)
          have h := h m7 hm7
          refine wp_run 6 true (46, ([some (vp 31 0), some (vi v1)], ([], G x (mup m7 31 0 21 ((m7 31 0 21) + 1))))) rfl rfl ?_
          refine wpg (fun m8 => Wp X (d + 1) 266 (46, ([some (vp 31 0), some (vi v1)], ([], G x m8))) Q) (mup m7 31 0 21 ((m7 31 0 21) + 1)) (fun m8 hm8 => ?_)
          have h := h m8 hm8
          exact wp_ret rfl h
        · have h := h.2 c6
          exact wp_ret rfl h
    · have h := h.2 c3
      exact wp_ret rfl h
set_option maxRecDepth 100000 in
set_option maxHeartbeats 4000000 in
theorem vc_X11_parse {X : MX} {d : Nat} {x : Int64 × UInt64} {m : MI} {Q : MRes → Prop} (h : (∀ m1 : MI, m1 = mup m 31 0 19 (m 31 0 18) → (∀ m2 : MI, m2 = mup m1 31 0 18 0 → (∀ m3 : MI, m3 = mup m2 31 0 20 0 → (∀ m4 : MI, m4 = mup m3 31 0 21 0 → (∀ m5 : MI, m5 = mup m4 31 0 22 0 → Cl X d 266 [vp 31 0] (G x m5) (fun r => ∃ (m7 : MI), r = (.inl none, G x m7) ∧ Wp X (d + 1) 267 (32, ([some (vp 31 0)], ([], G x m7))) Q))))))) : Cl X (d + 1) 267 [vp 31 0] (G x m) Q := by
  show Wp X (d + 1) 267 (0, ([some (vp 31 0)], ([], G x m))) Q
  refine wp_run 4 true (8, ([some (vp 31 0)], ([], G x (mup m 31 0 19 (m 31 0 18))))) rfl rfl ?_
  refine wpg (fun m1 => Wp X (d + 1) 267 (8, ([some (vp 31 0)], ([], G x m1))) Q) (mup m 31 0 19 (m 31 0 18)) (fun m1 hm1 => ?_)
  have h := h m1 hm1
  refine wp_run 3 true (13, ([some (vp 31 0)], ([], G x (mup m1 31 0 18 0)))) rfl rfl ?_
  refine wpg (fun m2 => Wp X (d + 1) 267 (13, ([some (vp 31 0)], ([], G x m2))) Q) (mup m1 31 0 18 0) (fun m2 hm2 => ?_)
  have h := h m2 hm2
  refine wp_run 3 true (18, ([some (vp 31 0)], ([], G x (mup m2 31 0 20 0)))) rfl rfl ?_
  refine wpg (fun m3 => Wp X (d + 1) 267 (18, ([some (vp 31 0)], ([], G x m3))) Q) (mup m2 31 0 20 0) (fun m3 hm3 => ?_)
  have h := h m3 hm3
  refine wp_run 3 true (23, ([some (vp 31 0)], ([], G x (mup m3 31 0 21 0)))) rfl rfl ?_
  refine wpg (fun m4 => Wp X (d + 1) 267 (23, ([some (vp 31 0)], ([], G x m4))) Q) (mup m3 31 0 21 0) (fun m4 hm4 => ?_)
  have h := h m4 hm4
  refine wp_run 3 true (28, ([some (vp 31 0)], ([], G x (mup m4 31 0 22 0)))) rfl rfl ?_
  refine wpg (fun m5 => Wp X (d + 1) 267 (28, ([some (vp 31 0)], ([], G x m5))) Q) (mup m4 31 0 22 0) (fun m5 hm5 => ?_)
  have h := h m5 hm5
  refine wp_run 1 true (29, ([some (vp 31 0)], ([vp 31 0], G x m5))) rfl rfl ?_
  refine wp_call 266 [vp 31 0] (32, ([some (vp 31 0)], ([], G x m5))) rfl rfl (Cl.mono h (Nat.le_refl _) ?_)
  rintro r ⟨m7, rfl, h⟩
  · show Wp X (d + 1) 267 (32, ([some (vp 31 0)], ([], G x m7))) Q
    exact h
set_option maxRecDepth 100000 in
set_option maxHeartbeats 4000000 in
theorem vl_X11_parse_32 {X : MX} {d : Nat} {x : Int64 × UInt64} {m : MI} {Q : MRes → Prop} (h : Cl X d 257 [vp 31 0] (G x m) (fun r => ∃ (v1 : Int32) (m2 : MI), r = (.inl (some (vi v1)), G x m2) ∧ ((¬ v1 = 59 → (((m2 31 0 19) ≤ (m2 31 0 20) → (okT 2 ((m2 31 0 22) ||| 0) = true ∧ (∀ m5 : MI, m5 = mup m2 31 0 22 ((m2 31 0 22) ||| 0) → Q (.inl none, G x m5)))) ∧ (¬ ((m2 31 0 19) ≤ (m2 31 0 20)) → (okT 2 ((m2 31 0 22) ||| 1) = true ∧ (∀ m6 : MI, m6 = mup m2 31 0 22 ((m2 31 0 22) ||| 1) → Q (.inl none, G x m6)))))) ∧ (¬ (¬ v1 = 59) → (∀ m7 : MI, m7 = mup m2 31 0 20 ((m2 31 0 20) + 1) → Cl X d 266 [vp 31 0] (G x m7) (fun r => ∃ (m9 : MI), r = (.inl none, G x m9) ∧ Wp X (d + 1) 267 (32, ([some (vp 31 0)], ([], G x m9))) Q)))))) : Wp X (d + 1) 267 (32, ([some (vp 31 0)], ([], G x m))) Q := by
  refine wp_run 1 true (33, ([some (vp 31 0)], ([vp 31 0], G x m))) rfl rfl ?_
  refine wp_call 257 [vp 31 0] (36, ([some (vp 31 0)], ([], G x m))) rfl rfl (Cl.mono h (Nat.le_refl _) ?_)
  rintro r ⟨v1, m2, rfl, h⟩
  · show Wp X (d + 1) 267 (36, ([some (vp 31 0)], ([vi v1], G x m2))) Q
    refine wp_run 2 true ((bif decide (¬ v1 = 59) then 58 else 41), ([some (vp 31 0)], ([], G x m2))) rfl rfl ?_
    refine wp_if (¬ v1 = 59) (fun c3 => ?_) (fun c3 => ?_)
    · have h := h.1 c3
      refine wp_run 8 true ((bif decide ((m2 31 0 19) ≤ (m2 31 0 20)) then 78 else 74), ([some (vp 31 0)], ([vi (m2 31 0 22), vp 31 0], G x m2))) rfl rfl ?_
      refine wp_if ((m2 31 0 19) ≤ (m2 31 0 20)) (fun c4 => ?_) (fun c4 => ?_)
      · have h := h.1 c4
        obtain ⟨hg4_0, h⟩ := h
        refine wp_run 3 (okT 2 ((m2 31 0 22) ||| 0) && true) (83, ([some (vp 31 0)], ([], G x (mup m2 31 0 22 ((m2 31 0 22) ||| 0))))) rfl (and_t hg4_0 rfl) ?_
        refine wpg (fun m5 => Wp X (d + 1) 267 (83, ([some (vp 31 0)], ([], G x m5))) Q) (mup m2 31 0 22 ((m2 31 0 22) ||| 0)) (fun m5 hm5 => ?_)
        have h := h m5 hm5
        exact wp_ret rfl h
      · have h := h.2 c4
        obtain ⟨hg4_0, h⟩ := h
        refine wp_run 4 (okT 2 ((m2 31 0 22) ||| 1) && true) (83, ([some (vp 31 0)], ([], G x (mup m2 31 0 22 ((m2 31 0 22) ||| 1))))) rfl (and_t hg4_0 rfl) ?_
        refine wpg (fun m6 => Wp X (d + 1) 267 (83, ([some (vp 31 0)], ([], G x m6))) Q) (mup m2 31 0 22 ((m2 31 0 22) ||| 1)) (fun m6 hm6 => ?_)
        have h := h m6 hm6
        exact wp_ret rfl h
    · have h := h.2 c3
      refine wp_run 6 true (51, ([some (vp 31 0)], ([], G x (mup m2 31 0 20 ((m2 31 0 20) + 1))))) rfl rfl ?_
      refine wpg (fun m7 => Wp X (d + 1) 267 (51, ([some (vp 31 0)], ([], G x m7))) Q) (mup m2 31 0 20 ((m2 31 0 20) + 1)) (fun m7 hm7 => ?_)
      have h := h m7 hm7
      refine wp_run 1 true (52, ([some (vp 31 0)], ([vp 31 0], G x m7))) rfl rfl ?_
      refine wp_call 266 [vp 31 0] (55, ([some (vp 31 0)], ([], G x m7))) rfl rfl (Cl.mono h (Nat.le_refl _) ?_)
      rintro r ⟨m9, rfl, h⟩
      · show Wp X (d + 1) 267 (55, ([some (vp 31 0)], ([], G x m9))) Q
        refine wp_run 1 true (32, ([some (vp 31 0)], ([], G x m9))) rfl rfl ?_
        exact h
set_option maxRecDepth 100000 in
set_option maxHeartbeats 4000000 in
theorem vc_X11_kindOf {X : MX} {d : Nat} {x : Int64 × UInt64} {m : MI} {Q : MRes → Prop} {p0 : Int32} {p1 : Int32} {p2 : Int32} (h : ((¬ p0 = 0 → ((¬ p0 = 1 → Q (.inl (some (vi p2)), G x m)) ∧ (¬ (¬ p0 = 1) → Q (.inl (some (vi p1)), G x m)))) ∧ (¬ (¬ p0 = 0) → Q (.inl (some (vi 0)), G x m)))) : Cl X d 268 [vi p0, vi p1, vi p2] (G x m) Q := by
  show Wp X d 268 (0, ([some (vi p0), some (vi p1), some (vi p2)], ([], G x m))) Q
  refine wp_run 2 true ((bif decide (¬ p0 = 0) then 8 else 4), ([some (vi p0), some (vi p1), some (vi p2)], ([], G x m))) rfl rfl ?_
  refine wp_if (¬ p0 = 0) (fun c1 => ?_) (fun c1 => ?_)
  · have h := h.1 c1
    refine wp_run 3 true ((bif decide (¬ p0 = 1) then 17 else 13), ([some (vi p0), some (vi p1), some (vi p2)], ([], G x m))) rfl rfl ?_
    refine wp_if (¬ p0 = 1) (fun c2 => ?_) (fun c2 => ?_)
    · have h := h.1 c2
      refine wp_run 1 true (18, ([some (vi p0), some (vi p1), some (vi p2)], ([vi p2], G x m))) rfl rfl ?_
      exact wp_ret rfl h
    · have h := h.2 c2
      refine wp_run 2 true (18, ([some (vi p0), some (vi p1), some (vi p2)], ([vi p1], G x m))) rfl rfl ?_
      exact wp_ret rfl h
  · have h := h.2 c1
    refine wp_run 2 true (18, ([some (vi p0), some (vi p1), some (vi p2)], ([vi 0], G x m))) rfl rfl ?_
    exact wp_ret rfl h
set_option maxRecDepth 100000 in
set_option maxHeartbeats 4000000 in
theorem vc_X11_why {X : MX} {d : Nat} {x : Int64 × UInt64} {m : MI} {Q : MRes → Prop} {p0 : Int32} {p1 : Int32} {p2 : Int32} {p3 : Int32} {p4 : Int32} {p5 : Int32} (h : ((p0 = 0 → Cl X d 168 [vp 31 0, vi p1, vi p2, vi p3, vi p4] (G x m) (fun r => ∃ (v2 : Int32) (m3 : MI), r = (.inl (some (vi v2)), G x m3) ∧ Cl X d 268 [vi v2, vi 97, vi 115] (G x m3) (fun r => ∃ (v4 : Int32) (m5 : MI), r = (.inl (some (vi v4)), G x m5) ∧ Q (.inl (some (vi v4)), G x m5)))) ∧ (p0 = 1 → Cl X d 171 [vp 31 0, vi p1, vi p2, vi p3, vi p4, vi p5] (G x m) (fun r => ∃ (v6 : Int32) (m7 : MI), r = (.inl (some (vi v6)), G x m7) ∧ Cl X d 268 [vi v6, vi 97, vi 115] (G x m7) (fun r => ∃ (v8 : Int32) (m9 : MI), r = (.inl (some (vi v8)), G x m9) ∧ Q (.inl (some (vi v8)), G x m9)))) ∧ (p0 = 2 → Cl X d 157 [vp 31 0, vi p1] (G x m) (fun r => ∃ (v10 : Int32) (m11 : MI), r = (.inl (some (vi v10)), G x m11) ∧ ((0 ≤ v10 → Q (.inl (some (vi 0)), G x m11)) ∧ (¬ (0 ≤ v10) → Q (.inl (some (vi 101)), G x m11))))) ∧ (p0 = 3 → Cl X d 156 [vp 31 0, vi p1] (G x m) (fun r => ∃ (v13 : Int32) (m14 : MI), r = (.inl (some (vi v13)), G x m14) ∧ ((0 ≤ v13 → Q (.inl (some (vi 0)), G x m14)) ∧ (¬ (0 ≤ v13) → Q (.inl (some (vi 101)), G x m14))))) ∧ (p0 = 4 → Q (.inl (some (vi 0)), G x m)) ∧ (p0 = 5 → Cl X d 181 [vp 31 0, vi p1, vi p2] (G x m) (fun r => ∃ (v16 : Int32) (m17 : MI), r = (.inl (some (vi v16)), G x m17) ∧ Cl X d 268 [vi v16, vi 101, vi 117] (G x m17) (fun r => ∃ (v18 : Int32) (m19 : MI), r = (.inl (some (vi v18)), G x m19) ∧ Q (.inl (some (vi v18)), G x m19)))) ∧ (p0 = 6 → Q (.inl (some (vi 0)), G x m)) ∧ (p0 = 7 → Cl X d 186 [vp 31 0, vi p1, vi p2] (G x m) (fun r => ∃ (v20 : Int32) (m21 : MI), r = (.inl (some (vi v20)), G x m21) ∧ Cl X d 268 [vi v20, vi 101, vi 97] (G x m21) (fun r => ∃ (v22 : Int32) (m23 : MI), r = (.inl (some (vi v22)), G x m23) ∧ Q (.inl (some (vi v22)), G x m23)))) ∧ (p0 = 8 → Cl X d 147 [vi p1, vi 1, vi 99] (G x m) (fun r => ∃ (v24 : Int32) (m25 : MI), r = (.inl (some (vi v24)), G x m25) ∧ ((v24 = 0 → Q (.inl (some (vi 97)), G x m25)) ∧ (¬ (v24 = 0) → Q (.inl (some (vi 0)), G x m25))))) ∧ ((¬ p0 = 0 ∧ ¬ p0 = 1 ∧ ¬ p0 = 2 ∧ ¬ p0 = 3 ∧ ¬ p0 = 4 ∧ ¬ p0 = 5 ∧ ¬ p0 = 6 ∧ ¬ p0 = 7 ∧ ¬ p0 = 8) → Q (.inl (some (vi 0)), G x m)))) : Cl X (d + 1) 269 [vp 31 0, vi p0, vi p1, vi p2, vi p3, vi p4, vi p5] (G x m) Q := by
  show Wp X (d + 1) 269 (0, ([some (vp 31 0), some (vi p0), some (vi p1), some (vi p2), some (vi p3), some (vi p4), some (vi p5)], ([], G x m))) Q
  refine wp_run 2 true ((swt 1 164 0 8 #[51, 69, 89, 104, 164, 119, 164, 133, 147] p0), ([some (vp 31 0), some (vi p0), some (vi p1), some (vi p2), some (vi p3), some (vi p4), some (vi p5)], ([], G x m))) rfl rfl ?_
  by_cases c1_0 : p0 = 0
  · refine wp_pc (p2 := 52) (by rw [c1_0]; rfl) ?_
    have h := h.1 c1_0
    refine wp_run 5 true (59, ([some (vp 31 0), some (vi p0), some (vi p1), some (vi p2), some (vi p3), some (vi p4), some (vi p5)], ([vi p4, vi p3, vi p2, vi p1, vp 31 0], G x m))) rfl rfl ?_
    refine wp_call 168 [vp 31 0, vi p1, vi p2, vi p3, vi p4] (62, ([some (vp 31 0), some (vi p0), some (vi p1), some (vi p2), some (vi p3), some (vi p4), some (vi p5)], ([], G x m))) rfl rfl (Cl.mono h (Nat.le_refl _) ?_)
    rintro r ⟨v2, m3, rfl, h⟩
    · show Wp X (d + 1) 269 (62, ([some (vp 31 0), some (vi p0), some (vi p1), some (vi p2), some (vi p3), some (vi p4), some (vi p5)], ([vi v2], G x m3))) Q
      refine wp_run 2 true (66, ([some (vp 31 0), some (vi p0), some (vi p1), some (vi p2), some (vi p3), some (vi p4), some (vi p5)], ([vi 115, vi 97, vi v2], G x m3))) rfl rfl ?_
      refine wp_call 268 [vi v2, vi 97, vi 115] (69, ([some (vp 31 0), some (vi p0), some (vi p1), some (vi p2), some (vi p3), some (vi p4), some (vi p5)], ([], G x m3))) rfl rfl (Cl.mono h (Nat.le_refl _) ?_)
      rintro r ⟨v4, m5, rfl, h⟩
      · show Wp X (d + 1) 269 (69, ([some (vp 31 0), some (vi p0), some (vi p1), some (vi p2), some (vi p3), some (vi p4), some (vi p5)], ([vi v4], G x m5))) Q
        exact wp_ret rfl h
  by_cases c1_1 : p0 = 1
  · refine wp_pc (p2 := 70) (by rw [c1_1]; rfl) ?_
    have h := h.2.1 c1_1
    refine wp_run 6 true (79, ([some (vp 31 0), some (vi p0), some (vi p1), some (vi p2), some (vi p3), some (vi p4), some (vi p5)], ([vi p5, vi p4, vi p3, vi p2, vi p1, vp 31 0], G x m))) rfl rfl ?_
    refine wp_call 171 [vp 31 0, vi p1, vi p2, vi p3, vi p4, vi p5] (82, ([some (vp 31 0), some (vi p0), some (vi p1), some (vi p2), some (vi p3), some (vi p4), some (vi p5)], ([], G x m))) rfl rfl (Cl.mono h (Nat.le_refl _) ?_)
    rintro r ⟨v6, m7, rfl, h⟩
    · show Wp X (d + 1) 269 (82, ([some (vp 31 0), some (vi p0), some (vi p1), some (vi p2), some (vi p3), some (vi p4), some (vi p5)], ([vi v6], G x m7))) Q
      refine wp_run 2 true (86, ([some (vp 31 0), some (vi p0), some (vi p1), some (vi p2), some (vi p3), some (vi p4), some (vi p5)], ([vi 115, vi 97, vi v6], G x m7))) rfl rfl ?_
      refine wp_call 268 [vi v6, vi 97, vi 115] (89, ([some (vp 31 0), some (vi p0), some (vi p1), some (vi p2), some (vi p3), some (vi p4), some (vi p5)], ([], G x m7))) rfl rfl (Cl.mono h (Nat.le_refl _) ?_)
      rintro r ⟨v8, m9, rfl, h⟩
      · show Wp X (d + 1) 269 (89, ([some (vp 31 0), some (vi p0), some (vi p1), some (vi p2), some (vi p3), some (vi p4), some (vi p5)], ([vi v8], G x m9))) Q
        exact wp_ret rfl h
  by_cases c1_2 : p0 = 2
  · refine wp_pc (p2 := 90) (by rw [c1_2]; rfl) ?_
    have h := h.2.2.1 c1_2
    refine wp_run 2 true (92, ([some (vp 31 0), some (vi p0), some (vi p1), some (vi p2), some (vi p3), some (vi p4), some (vi p5)], ([vi p1, vp 31 0], G x m))) rfl rfl ?_
    refine wp_call 157 [vp 31 0, vi p1] (95, ([some (vp 31 0), some (vi p0), some (vi p1), some (vi p2), some (vi p3), some (vi p4), some (vi p5)], ([], G x m))) rfl rfl (Cl.mono h (Nat.le_refl _) ?_)
    rintro r ⟨v10, m11, rfl, h⟩
    · show Wp X (d + 1) 269 (95, ([some (vp 31 0), some (vi p0), some (vi p1), some (vi p2), some (vi p3), some (vi p4), some (vi p5)], ([vi v10], G x m11))) Q
      refine wp_run 1 true ((bif decide (0 ≤ v10) then 103 else 98), ([some (vp 31 0), some (vi p0), some (vi p1), some (vi p2), some (vi p3), some (vi p4), some (vi p5)], ([], G x m11))) rfl rfl ?_
      refine wp_if (0 ≤ v10) (fun c12 => ?_) (fun c12 => ?_)
      · have h := h.1 c12
        refine wp_run 1 true (104, ([some (vp 31 0), some (vi p0), some (vi p1), some (vi p2), some (vi p3), some (vi p4), some (vi p5)], ([vi 0], G x m11))) rfl rfl ?_
        exact wp_ret rfl h
      · have h := h.2 c12
        refine wp_run 2 true (104, ([some (vp 31 0), some (vi p0), some (vi p1), some (vi p2), some (vi p3), some (vi p4), some (vi p5)], ([vi 101], G x m11))) rfl rfl ?_
        exact wp_ret rfl h
  by_cases c1_3 : p0 = 3
  · refine wp_pc (p2 := 105) (by rw [c1_3]; rfl) ?_
    have h := h.2.2.2.1 c1_3
    refine wp_run 2 true (107, ([some (vp 31 0), some (vi p0), some (vi p1), some (vi p2), some (vi p3), some (vi p4), some (vi p5)], ([vi p1, vp 31 0], G x m))) rfl rfl ?_
    refine wp_call 156 [vp 31 0, vi p1] (110, ([some (vp 31 0), some (vi p0), some (vi p1), some (vi p2), some (vi p3), some (vi p4), some (vi p5)], ([], G x m))) rfl rfl (Cl.mono h (Nat.le_refl _) ?_)
    rintro r ⟨v13, m14, rfl, h⟩
    · show Wp X (d + 1) 269 (110, ([some (vp 31 0), some (vi p0), some (vi p1), some (vi p2), some (vi p3), some (vi p4), some (vi p5)], ([vi v13], G x m14))) Q
      refine wp_run 1 true ((bif decide (0 ≤ v13) then 118 else 113), ([some (vp 31 0), some (vi p0), some (vi p1), some (vi p2), some (vi p3), some (vi p4), some (vi p5)], ([], G x m14))) rfl rfl ?_
      refine wp_if (0 ≤ v13) (fun c15 => ?_) (fun c15 => ?_)
      · have h := h.1 c15
        refine wp_run 1 true (119, ([some (vp 31 0), some (vi p0), some (vi p1), some (vi p2), some (vi p3), some (vi p4), some (vi p5)], ([vi 0], G x m14))) rfl rfl ?_
        exact wp_ret rfl h
      · have h := h.2 c15
        refine wp_run 2 true (119, ([some (vp 31 0), some (vi p0), some (vi p1), some (vi p2), some (vi p3), some (vi p4), some (vi p5)], ([vi 101], G x m14))) rfl rfl ?_
        exact wp_ret rfl h
  by_cases c1_4 : p0 = 4
  · refine wp_pc (p2 := 165) (by rw [c1_4]; rfl) ?_
    have h := h.2.2.2.2.1 c1_4
    refine wp_run 1 true (166, ([some (vp 31 0), some (vi p0), some (vi p1), some (vi p2), some (vi p3), some (vi p4), some (vi p5)], ([vi 0], G x m))) rfl rfl ?_
    exact wp_ret rfl h
  by_cases c1_5 : p0 = 5
  · refine wp_pc (p2 := 120) (by rw [c1_5]; rfl) ?_
    have h := h.2.2.2.2.2.1 c1_5
    refine wp_run 3 true (123, ([some (vp 31 0), some (vi p0), some (vi p1), some (vi p2), some (vi p3), some (vi p4), some (vi p5)], ([vi p2, vi p1, vp 31 0], G x m))) rfl rfl ?_
    refine wp_call 181 [vp 31 0, vi p1, vi p2] (126, ([some (vp 31 0), some (vi p0), some (vi p1), some (vi p2), some (vi p3), some (vi p4), some (vi p5)], ([], G x m))) rfl rfl (Cl.mono h (Nat.le_refl _) ?_)
    rintro r ⟨v16, m17, rfl, h⟩
    · show Wp X (d + 1) 269 (126, ([some (vp 31 0), some (vi p0), some (vi p1), some (vi p2), some (vi p3), some (vi p4), some (vi p5)], ([vi v16], G x m17))) Q
      refine wp_run 2 true (130, ([some (vp 31 0), some (vi p0), some (vi p1), some (vi p2), some (vi p3), some (vi p4), some (vi p5)], ([vi 117, vi 101, vi v16], G x m17))) rfl rfl ?_
      refine wp_call 268 [vi v16, vi 101, vi 117] (133, ([some (vp 31 0), some (vi p0), some (vi p1), some (vi p2), some (vi p3), some (vi p4), some (vi p5)], ([], G x m17))) rfl rfl (Cl.mono h (Nat.le_refl _) ?_)
      rintro r ⟨v18, m19, rfl, h⟩
      · show Wp X (d + 1) 269 (133, ([some (vp 31 0), some (vi p0), some (vi p1), some (vi p2), some (vi p3), some (vi p4), some (vi p5)], ([vi v18], G x m19))) Q
        exact wp_ret rfl h
  by_cases c1_6 : p0 = 6
  · refine wp_pc (p2 := 165) (by rw [c1_6]; rfl) ?_
    have h := h.2.2.2.2.2.2.1 c1_6
    refine wp_run 1 true (166, ([some (vp 31 0), some (vi p0), some (vi p1), some (vi p2), some (vi p3), some (vi p4), some (vi p5)], ([vi 0], G x m))) rfl rfl ?_
    exact wp_ret rfl h
  by_cases c1_7 : p0 = 7
  · refine wp_pc (p2 := 134) (by rw [c1_7]; rfl) ?_
    have h := h.2.2.2.2.2.2.2.1 c1_7
    refine wp_run 3 true (137, ([some (vp 31 0), some (vi p0), some (vi p1), some (vi p2), some (vi p3), some (vi p4), some (vi p5)], ([vi p2, vi p1, vp 31 0], G x m))) rfl rfl ?_
    refine wp_call 186 [vp 31 0, vi p1, vi p2] (140, ([some (vp 31 0), some (vi p0), some (vi p1), some (vi p2), some (vi p3), some (vi p4), some (vi p5)], ([], G x m))) rfl rfl (Cl.mono h (Nat.le_refl _) ?_)
    rintro r ⟨v20, m21, rfl, h⟩
    · show Wp X (d + 1) 269 (140, ([some (vp 31 0), some (vi p0), some (vi p1), some (vi p2), some (vi p3), some (vi p4), some (vi p5)], ([vi v20], G x m21))) Q
      refine wp_run 2 true (144, ([some (vp 31 0), some (vi p0), some (vi p1), some (vi p2), some (vi p3), some (vi p4), some (vi p5)], ([vi 97, vi 101, vi v20], G x m21))) rfl rfl ?_
      refine wp_call 268 [vi v20, vi 101, vi 97] (147, ([some (vp 31 0), some (vi p0), some (vi p1), some (vi p2), some (vi p3), some (vi p4), some (vi p5)], ([], G x m21))) rfl rfl (Cl.mono h (Nat.le_refl _) ?_)
      rintro r ⟨v22, m23, rfl, h⟩
      · show Wp X (d + 1) 269 (147, ([some (vp 31 0), some (vi p0), some (vi p1), some (vi p2), some (vi p3), some (vi p4), some (vi p5)], ([vi v22], G x m23))) Q
        exact wp_ret rfl h
  by_cases c1_8 : p0 = 8
  · refine wp_pc (p2 := 148) (by rw [c1_8]; rfl) ?_
    have h := h.2.2.2.2.2.2.2.2.1 c1_8
    refine wp_run 3 true (152, ([some (vp 31 0), some (vi p0), some (vi p1), some (vi p2), some (vi p3), some (vi p4), some (vi p5)], ([vi 99, vi 1, vi p1], G x m))) rfl rfl ?_
    refine wp_call 147 [vi p1, vi 1, vi 99] (155, ([some (vp 31 0), some (vi p0), some (vi p1), some (vi p2), some (vi p3), some (vi p4), some (vi p5)], ([], G x m))) rfl rfl (Cl.mono h (Nat.le_refl _) ?_)
    rintro r ⟨v24, m25, rfl, h⟩
    · show Wp X (d + 1) 269 (155, ([some (vp 31 0), some (vi p0), some (vi p1), some (vi p2), some (vi p3), some (vi p4), some (vi p5)], ([vi v24], G x m25))) Q
      refine wp_run 1 true ((bif decide (v24 = 0) then 162 else 158), ([some (vp 31 0), some (vi p0), some (vi p1), some (vi p2), some (vi p3), some (vi p4), some (vi p5)], ([], G x m25))) rfl rfl ?_
      refine wp_if (v24 = 0) (fun c26 => ?_) (fun c26 => ?_)
      · have h := h.1 c26
        refine wp_run 1 true (164, ([some (vp 31 0), some (vi p0), some (vi p1), some (vi p2), some (vi p3), some (vi p4), some (vi p5)], ([vi 97], G x m25))) rfl rfl ?_
        exact wp_ret rfl h
      · have h := h.2 c26
        refine wp_run 2 true (164, ([some (vp 31 0), some (vi p0), some (vi p1), some (vi p2), some (vi p3), some (vi p4), some (vi p5)], ([vi 0], G x m25))) rfl rfl ?_
        exact wp_ret rfl h
  have h := h.2.2.2.2.2.2.2.2.2 ⟨c1_0, c1_1, c1_2, c1_3, c1_4, c1_5, c1_6, c1_7, c1_8⟩
  refine wp_pc (p2 := 165) (swt_d0_8 _ _ _ _ c1_0 c1_1 c1_2 c1_3 c1_4 c1_5 c1_6 c1_7 c1_8) ?_
  refine wp_run 1 true (166, ([some (vp 31 0), some (vi p0), some (vi p1), some (vi p2), some (vi p3), some (vi p4), some (vi p5)], ([vi 0], G x m))) rfl rfl ?_
  exact wp_ret rfl h
set_option maxRecDepth 100000 in
set_option maxHeartbeats 4000000 in
theorem vc_X11_does {X : MX} {d : Nat} {x : Int64 × UInt64} {m : MI} {Q : MRes → Prop} {p0 : Int32} {p1 : Int32} {p2 : Int32} {p3 : Int32} {p4 : Int32} {p5 : Int32} (h : ((p0 = 0 → Cl X d 169 [vp 31 0, vi p1, vi p2, vi p3, vi p4] (G x m) (fun r => ∃ (v2 : Int32) (m3 : MI), r = (.inl (some (vi v2)), G x m3) ∧ Q (.inl (some (vi v2)), G x m3))) ∧ (p0 = 1 → Cl X d 172 [vp 31 0, vi p1, vi p2, vi p3, vi p4, vi p5] (G x m) (fun r => ∃ (v4 : Int32) (m5 : MI), r = (.inl (some (vi v4)), G x m5) ∧ Q (.inl (some (vi v4)), G x m5))) ∧ (p0 = 2 → Cl X d 174 [vp 31 0, vi p1] (G x m) (fun r => ∃ (v6 : Int32) (m7 : MI), r = (.inl (some (vi v6)), G x m7) ∧ Q (.inl (some (vi v6)), G x m7))) ∧ (p0 = 3 → Cl X d 176 [vp 31 0, vi p1] (G x m) (fun r => ∃ (v8 : Int32) (m9 : MI), r = (.inl (some (vi v8)), G x m9) ∧ Q (.inl (some (vi v8)), G x m9))) ∧ (p0 = 4 → Cl X d 179 [vp 31 0, vi p1] (G x m) (fun r => ∃ (v10 : Int32) (m11 : MI), r = (.inl (some (vi v10)), G x m11) ∧ Q (.inl (some (vi v10)), G x m11))) ∧ (p0 = 5 → Cl X d 182 [vp 31 0, vi p1, vi p2] (G x m) (fun r => ∃ (v12 : Int32) (m13 : MI), r = (.inl (some (vi v12)), G x m13) ∧ Q (.inl (some (vi v12)), G x m13))) ∧ (p0 = 6 → Cl X d 185 [vp 31 0] (G x m) (fun r => ∃ (v14 : Int32) (m15 : MI), r = (.inl (some (vi v14)), G x m15) ∧ Q (.inl (some (vi v14)), G x m15))) ∧ (p0 = 7 → Cl X d 187 [vp 31 0, vi p1, vi p2] (G x m) (fun r => ∃ (v16 : Int32) (m17 : MI), r = (.inl (some (vi v16)), G x m17) ∧ Q (.inl (some (vi v16)), G x m17))) ∧ ((¬ p0 = 0 ∧ ¬ p0 = 1 ∧ ¬ p0 = 2 ∧ ¬ p0 = 3 ∧ ¬ p0 = 4 ∧ ¬ p0 = 5 ∧ ¬ p0 = 6 ∧ ¬ p0 = 7) → Cl X d 191 [vp 31 0, vi p1] (G x m) (fun r => ∃ (v18 : Int32) (m19 : MI), r = (.inl (some (vi v18)), G x m19) ∧ Q (.inl (some (vi v18)), G x m19))))) : Cl X (d + 1) 270 [vp 31 0, vi p0, vi p1, vi p2, vi p3, vi p4, vi p5] (G x m) Q := by
  show Wp X (d + 1) 270 (0, ([some (vp 31 0), some (vi p0), some (vi p1), some (vi p2), some (vi p3), some (vi p4), some (vi p5)], ([], G x m))) Q
  refine wp_run 2 true ((swt 1 108 0 7 #[47, 58, 71, 77, 83, 89, 96, 101] p0), ([some (vp 31 0), some (vi p0), some (vi p1), some (vi p2), some (vi p3), some (vi p4), some (vi p5)], ([], G x m))) rfl rfl ?_
  by_cases c1_0 : p0 = 0
  · refine wp_pc (p2 := 48) (by rw [c1_0]; rfl) ?_
    have h := h.1 c1_0
    refine wp_run 5 true (55, ([some (vp 31 0), some (vi p0), some (vi p1), some (vi p2), some (vi p3), some (vi p4), some (vi p5)], ([vi p4, vi p3, vi p2, vi p1, vp 31 0], G x m))) rfl rfl ?_
    refine wp_call 169 [vp 31 0, vi p1, vi p2, vi p3, vi p4] (58, ([some (vp 31 0), some (vi p0), some (vi p1), some (vi p2), some (vi p3), some (vi p4), some (vi p5)], ([], G x m))) rfl rfl (Cl.mono h (Nat.le_refl _) ?_)
    rintro r ⟨v2, m3, rfl, h⟩
    · show Wp X (d + 1) 270 (58, ([some (vp 31 0), some (vi p0), some (vi p1), some (vi p2), some (vi p3), some (vi p4), some (vi p5)], ([vi v2], G x m3))) Q
      exact wp_ret rfl h
  by_cases c1_1 : p0 = 1
  · refine wp_pc (p2 := 59) (by rw [c1_1]; rfl) ?_
    have h := h.2.1 c1_1
    refine wp_run 6 true (68, ([some (vp 31 0), some (vi p0), some (vi p1), some (vi p2), some (vi p3), some (vi p4), some (vi p5)], ([vi p5, vi p4, vi p3, vi p2, vi p1, vp 31 0], G x m))) rfl rfl ?_
    refine wp_call 172 [vp 31 0, vi p1, vi p2, vi p3, vi p4, vi p5] (71, ([some (vp 31 0), some (vi p0), some (vi p1), some (vi p2), some (vi p3), some (vi p4), some (vi p5)], ([], G x m))) rfl rfl (Cl.mono h (Nat.le_refl _) ?_)
    rintro r ⟨v4, m5, rfl, h⟩
    · show Wp X (d + 1) 270 (71, ([some (vp 31 0), some (vi p0), some (vi p1), some (vi p2), some (vi p3), some (vi p4), some (vi p5)], ([vi v4], G x m5))) Q
      exact wp_ret rfl h
  by_cases c1_2 : p0 = 2
  · refine wp_pc (p2 := 72) (by rw [c1_2]; rfl) ?_
    have h := h.2.2.1 c1_2
    refine wp_run 2 true (74, ([some (vp 31 0), some (vi p0), some (vi p1), some (vi p2), some (vi p3), some (vi p4), some (vi p5)], ([vi p1, vp 31 0], G x m))) rfl rfl ?_
    refine wp_call 174 [vp 31 0, vi p1] (77, ([some (vp 31 0), some (vi p0), some (vi p1), some (vi p2), some (vi p3), some (vi p4), some (vi p5)], ([], G x m))) rfl rfl (Cl.mono h (Nat.le_refl _) ?_)
    rintro r ⟨v6, m7, rfl, h⟩
    · show Wp X (d + 1) 270 (77, ([some (vp 31 0), some (vi p0), some (vi p1), some (vi p2), some (vi p3), some (vi p4), some (vi p5)], ([vi v6], G x m7))) Q
      exact wp_ret rfl h
  by_cases c1_3 : p0 = 3
  · refine wp_pc (p2 := 78) (by rw [c1_3]; rfl) ?_
    have h := h.2.2.2.1 c1_3
    refine wp_run 2 true (80, ([some (vp 31 0), some (vi p0), some (vi p1), some (vi p2), some (vi p3), some (vi p4), some (vi p5)], ([vi p1, vp 31 0], G x m))) rfl rfl ?_
    refine wp_call 176 [vp 31 0, vi p1] (83, ([some (vp 31 0), some (vi p0), some (vi p1), some (vi p2), some (vi p3), some (vi p4), some (vi p5)], ([], G x m))) rfl rfl (Cl.mono h (Nat.le_refl _) ?_)
    rintro r ⟨v8, m9, rfl, h⟩
    · show Wp X (d + 1) 270 (83, ([some (vp 31 0), some (vi p0), some (vi p1), some (vi p2), some (vi p3), some (vi p4), some (vi p5)], ([vi v8], G x m9))) Q
      exact wp_ret rfl h
  by_cases c1_4 : p0 = 4
  · refine wp_pc (p2 := 84) (by rw [c1_4]; rfl) ?_
    have h := h.2.2.2.2.1 c1_4
    refine wp_run 2 true (86, ([some (vp 31 0), some (vi p0), some (vi p1), some (vi p2), some (vi p3), some (vi p4), some (vi p5)], ([vi p1, vp 31 0], G x m))) rfl rfl ?_
    refine wp_call 179 [vp 31 0, vi p1] (89, ([some (vp 31 0), some (vi p0), some (vi p1), some (vi p2), some (vi p3), some (vi p4), some (vi p5)], ([], G x m))) rfl rfl (Cl.mono h (Nat.le_refl _) ?_)
    rintro r ⟨v10, m11, rfl, h⟩
    · show Wp X (d + 1) 270 (89, ([some (vp 31 0), some (vi p0), some (vi p1), some (vi p2), some (vi p3), some (vi p4), some (vi p5)], ([vi v10], G x m11))) Q
      exact wp_ret rfl h
  by_cases c1_5 : p0 = 5
  · refine wp_pc (p2 := 90) (by rw [c1_5]; rfl) ?_
    have h := h.2.2.2.2.2.1 c1_5
    refine wp_run 3 true (93, ([some (vp 31 0), some (vi p0), some (vi p1), some (vi p2), some (vi p3), some (vi p4), some (vi p5)], ([vi p2, vi p1, vp 31 0], G x m))) rfl rfl ?_
    refine wp_call 182 [vp 31 0, vi p1, vi p2] (96, ([some (vp 31 0), some (vi p0), some (vi p1), some (vi p2), some (vi p3), some (vi p4), some (vi p5)], ([], G x m))) rfl rfl (Cl.mono h (Nat.le_refl _) ?_)
    rintro r ⟨v12, m13, rfl, h⟩
    · show Wp X (d + 1) 270 (96, ([some (vp 31 0), some (vi p0), some (vi p1), some (vi p2), some (vi p3), some (vi p4), some (vi p5)], ([vi v12], G x m13))) Q
      exact wp_ret rfl h
  by_cases c1_6 : p0 = 6
  · refine wp_pc (p2 := 97) (by rw [c1_6]; rfl) ?_
    have h := h.2.2.2.2.2.2.1 c1_6
    refine wp_run 1 true (98, ([some (vp 31 0), some (vi p0), some (vi p1), some (vi p2), some (vi p3), some (vi p4), some (vi p5)], ([vp 31 0], G x m))) rfl rfl ?_
    refine wp_call 185 [vp 31 0] (101, ([some (vp 31 0), some (vi p0), some (vi p1), some (vi p2), some (vi p3), some (vi p4), some (vi p5)], ([], G x m))) rfl rfl (Cl.mono h (Nat.le_refl _) ?_)
    rintro r ⟨v14, m15, rfl, h⟩
    · show Wp X (d + 1) 270 (101, ([some (vp 31 0), some (vi p0), some (vi p1), some (vi p2), some (vi p3), some (vi p4), some (vi p5)], ([vi v14], G x m15))) Q
      exact wp_ret rfl h
  by_cases c1_7 : p0 = 7
  · refine wp_pc (p2 := 102) (by rw [c1_7]; rfl) ?_
    have h := h.2.2.2.2.2.2.2.1 c1_7
    refine wp_run 3 true (105, ([some (vp 31 0), some (vi p0), some (vi p1), some (vi p2), some (vi p3), some (vi p4), some (vi p5)], ([vi p2, vi p1, vp 31 0], G x m))) rfl rfl ?_
    refine wp_call 187 [vp 31 0, vi p1, vi p2] (108, ([some (vp 31 0), some (vi p0), some (vi p1), some (vi p2), some (vi p3), some (vi p4), some (vi p5)], ([], G x m))) rfl rfl (Cl.mono h (Nat.le_refl _) ?_)
    rintro r ⟨v16, m17, rfl, h⟩
    · show Wp X (d + 1) 270 (108, ([some (vp 31 0), some (vi p0), some (vi p1), some (vi p2), some (vi p3), some (vi p4), some (vi p5)], ([vi v16], G x m17))) Q
      exact wp_ret rfl h
  have h := h.2.2.2.2.2.2.2.2 ⟨c1_0, c1_1, c1_2, c1_3, c1_4, c1_5, c1_6, c1_7⟩
  refine wp_pc (p2 := 109) (swt_d0_7 _ _ _ _ c1_0 c1_1 c1_2 c1_3 c1_4 c1_5 c1_6 c1_7) ?_
  refine wp_run 2 true (111, ([some (vp 31 0), some (vi p0), some (vi p1), some (vi p2), some (vi p3), some (vi p4), some (vi p5)], ([vi p1, vp 31 0], G x m))) rfl rfl ?_
  refine wp_call 191 [vp 31 0, vi p1] (114, ([some (vp 31 0), some (vi p0), some (vi p1), some (vi p2), some (vi p3), some (vi p4), some (vi p5)], ([], G x m))) rfl rfl (Cl.mono h (Nat.le_refl _) ?_)
  rintro r ⟨v18, m19, rfl, h⟩
  · show Wp X (d + 1) 270 (114, ([some (vp 31 0), some (vi p0), some (vi p1), some (vi p2), some (vi p3), some (vi p4), some (vi p5)], ([vi v18], G x m19))) Q
    exact wp_ret rfl h
set_option maxRecDepth 100000 in
set_option maxHeartbeats 4000000 in
theorem vc_X11_runScript {X : MX} {d : Nat} {x : Int64 × UInt64} {m : MI} {Q : MRes → Prop} (h : Cl X d 150 [vp 31 0] (G x m) (fun r => ∃ (m2 : MI), r = (.inl none, G x m2) ∧ Cl X d 267 [vp 31 0] (G x m2) (fun r => ∃ (m4 : MI), r = (.inl none, G x m4) ∧ (((m4 31 0 22) = 0 → Wp X (d + 1) 271 (33, ([some (vp 31 0), some (vi 0), some (vi 0), none, none], ([], G x m4))) Q) ∧ (¬ ((m4 31 0 22) = 0) → (∀ m6 : MI, m6 = mup m4 31 0 7 (m4 31 0 20) → Cl X d 149 [vp 31 0, vi 1] (G x m6) (fun r => ∃ (v7 : Int32) (m8 : MI), r = (.inl (some (vi v7)), G x m8) ∧ Q (.inl (some (vi v7)), G x m8)))))))) : Cl X (d + 1) 271 [vp 31 0] (G x m) Q := by
  show Wp X (d + 1) 271 (0, ([some (vp 31 0), none, none, none, none], ([], G x m))) Q
  refine wp_run 1 true (1, ([some (vp 31 0), none, none, none, none], ([vp 31 0], G x m))) rfl rfl ?_
  refine wp_call 150 [vp 31 0] (4, ([some (vp 31 0), none, none, none, none], ([], G x m))) rfl rfl (Cl.mono h (Nat.le_refl _) ?_)
  rintro r ⟨m2, rfl, h⟩
  · show Wp X (d + 1) 271 (4, ([some (vp 31 0), none, none, none, none], ([], G x m2))) Q
    refine wp_run 1 true (5, ([some (vp 31 0), none, none, none, none], ([vp 31 0], G x m2))) rfl rfl ?_
    refine wp_call 267 [vp 31 0] (8, ([some (vp 31 0), none, none, none, none], ([], G x m2))) rfl rfl (Cl.mono h (Nat.le_refl _) ?_)
    rintro r ⟨m4, rfl, h⟩
    · show Wp X (d + 1) 271 (8, ([some (vp 31 0), none, none, none, none], ([], G x m4))) Q
      refine wp_run 3 true ((bif decide ((m4 31 0 22) = 0) then 29 else 15), ([some (vp 31 0), none, none, none, none], ([], G x m4))) rfl rfl ?_
      refine wp_if ((m4 31 0 22) = 0) (fun c5 => ?_) (fun c5 => ?_)
      · have h := h.1 c5
        refine wp_run 4 true (33, ([some (vp 31 0), some (vi 0), some (vi 0), none, none], ([], G x m4))) rfl rfl ?_
        exact h
      · have h := h.2 c5
        refine wp_run 4 true (23, ([some (vp 31 0), none, none, none, none], ([], G x (mup m4 31 0 7 (m4 31 0 20))))) rfl rfl ?_
        refine wpg (fun m6 => Wp X (d + 1) 271 (23, ([some (vp 31 0), none, none, none, none], ([], G x m6))) Q) (mup m4 31 0 7 (m4 31 0 20)) (fun m6 hm6 => ?_)
        have h := h m6 hm6
        refine wp_run 2 true (25, ([some (vp 31 0), none, none, none, none], ([vi 1, vp 31 0], G x m6))) rfl rfl ?_
        refine wp_call 149 [vp 31 0, vi 1] (28, ([some (vp 31 0), none, none, none, none], ([], G x m6))) rfl rfl (Cl.mono h (Nat.le_refl _) ?_)
        rintro r ⟨v7, m8, rfl, h⟩
        · show Wp X (d + 1) 271 (28, ([some (vp 31 0), none, none, none, none], ([vi v7], G x m8))) Q
          exact wp_ret rfl h
set_option maxRecDepth 100000 in
set_option maxHeartbeats 4000000 in
theorem vl_X11_runScript_33 {X : MX} {d : Nat} {x : Int64 × UInt64} {m : MI} {Q : MRes → Prop} {l1 : Int32} {l2 : Int32} {o3 : Option MV} {o4 : Option MV} (h : (((m 31 0 21) ≤ l2 → Cl X d 151 [vp 31 0, vi (m 31 0 21)] (G x m) (fun r => ∃ (v2 : Int32) (m3 : MI), r = (.inl (some (vi v2)), G x m3) ∧ Q (.inl (some (vi v2)), G x m3))) ∧ (¬ ((m 31 0 21) ≤ l2) → (∀ t4 : Int32, t4 = 8 * l2 → (inb l2 32 = true ∧ inb t4 256 = true ∧ inb (t4 + 1) 256 = true ∧ inb (t4 + 2) 256 = true ∧ inb (t4 + 3) 256 = true ∧ inb (t4 + 4) 256 = true ∧ Cl X d 269 [vp 31 0, vi (m 41 0 l2.toNatClampNeg), vi (m 42 0 t4.toNatClampNeg), vi (m 42 0 (t4 + 1).toNatClampNeg), vi (m 42 0 (t4 + 2).toNatClampNeg), vi (m 42 0 (t4 + 3).toNatClampNeg), vi (m 42 0 (t4 + 4).toNatClampNeg)] (G x m) (fun r => ∃ (v5 : Int32) (m6 : MI), r = (.inl (some (vi v5)), G x m6) ∧ ((¬ v5 = 0 → Cl X d 148 [vp 33 0, vi 0, vp 32 0, vi 0] (G x m6) (fun r => ∃ (m9 : MI), r = (.inl none, G x m9) ∧ (∀ m10 : MI, m10 = mup m9 31 0 8 l2 → (∀ m11 : MI, m11 = mup m10 31 0 9 v5 → Cl X d 149 [vp 31 0, vi 2] (G x m11) (fun r => ∃ (v12 : Int32) (m13 : MI), r = (.inl (some (vi v12)), G x m13) ∧ Q (.inl (some (vi v12)), G x m13)))))) ∧ (¬ (¬ v5 = 0) → (inb l2 32 = true ∧ inb t4 256 = true ∧ inb (t4 + 1) 256 = true ∧ inb (t4 + 2) 256 = true ∧ inb (t4 + 3) 256 = true ∧ inb (t4 + 4) 256 = true ∧ Cl X d 270 [vp 31 0, vi (m6 41 0 l2.toNatClampNeg), vi (m6 42 0 t4.toNatClampNeg), vi (m6 42 0 (t4 + 1).toNatClampNeg), vi (m6 42 0 (t4 + 2).toNatClampNeg), vi (m6 42 0 (t4 + 3).toNatClampNeg), vi (m6 42 0 (t4 + 4).toNatClampNeg)] (G x m6) (fun r => ∃ (v14 : Int32) (m15 : MI), r = (.inl (some (vi v14)), G x m15) ∧ (∀ t16 : Int32, t16 = l2 + 1 → Wp X (d + 1) 271 (33, ([some (vp 31 0), some (vi v14), some (vi t16), some (vi t4), some (vi v5)], ([], G x m15))) Q))))))))))) : Wp X (d + 1) 271 (33, ([some (vp 31 0), some (vi l1), some (vi l2), o3, o4], ([], G x m))) Q := by
  refine wp_run 4 true ((bif decide ((m 31 0 21) ≤ l2) then 189 else 41), ([some (vp 31 0), some (vi l1), some (vi l2), o3, o4], ([], G x m))) rfl rfl ?_
  refine wp_if ((m 31 0 21) ≤ l2) (fun c1 => ?_) (fun c1 => ?_)
  · have h := h.1 c1
    refine wp_run 3 true (194, ([some (vp 31 0), some (vi l1), some (vi l2), o3, o4], ([vi (m 31 0 21), vp 31 0], G x m))) rfl rfl ?_
    refine wp_call 151 [vp 31 0, vi (m 31 0 21)] (197, ([some (vp 31 0), some (vi l1), some (vi l2), o3, o4], ([], G x m))) rfl rfl (Cl.mono h (Nat.le_refl _) ?_)
    rintro r ⟨v2, m3, rfl, h⟩
    · show Wp X (d + 1) 271 (197, ([some (vp 31 0), some (vi l1), some (vi l2), o3, o4], ([vi v2], G x m3))) Q
      exact wp_ret rfl h
  · have h := h.2 c1
    refine wp_run 4 true (46, ([some (vp 31 0), some (vi l1), some (vi l2), some (vi (8 * l2)), o4], ([], G x m))) rfl rfl ?_
    refine wpg (fun t4 => Wp X (d + 1) 271 (46, ([some (vp 31 0), some (vi l1), some (vi l2), some (vi t4), o4], ([], G x m))) Q) (8 * l2) (fun t4 ht4 => ?_)
    have h := h t4 ht4
    obtain ⟨hg2_0, hg2_1, hg2_2, hg2_3, hg2_4, hg2_5, h⟩ := h
    refine wp_run 33 (inb (t4 + 4) 256 && (inb (t4 + 3) 256 && (inb (t4 + 2) 256 && (inb (t4 + 1) 256 && (inb t4 256 && (inb l2 32 && true)))))) (91, ([some (vp 31 0), some (vi l1), some (vi l2), some (vi t4), o4], ([vi (m 42 0 (t4 + 4).toNatClampNeg), vi (m 42 0 (t4 + 3).toNatClampNeg), vi (m 42 0 (t4 + 2).toNatClampNeg), vi (m 42 0 (t4 + 1).toNatClampNeg), vi (m 42 0 t4.toNatClampNeg), vi (m 41 0 l2.toNatClampNeg), vp 31 0], G x m))) rfl (and_t hg2_5 (and_t hg2_4 (and_t hg2_3 (and_t hg2_2 (and_t hg2_1 (and_t hg2_0 rfl)))))) ?_
    refine wp_call 269 [vp 31 0, vi (m 41 0 l2.toNatClampNeg), vi (m 42 0 t4.toNatClampNeg), vi (m 42 0 (t4 + 1).toNatClampNeg), vi (m 42 0 (t4 + 2).toNatClampNeg), vi (m 42 0 (t4 + 3).toNatClampNeg), vi (m 42 0 (t4 + 4).toNatClampNeg)] (94, ([some (vp 31 0), some (vi l1), some (vi l2), some (vi t4), o4], ([], G x m))) rfl rfl (Cl.mono h (Nat.le_refl _) ?_)
    rintro r ⟨v5, m6, rfl, h⟩
    · show Wp X (d + 1) 271 (94, ([some (vp 31 0), some (vi l1), some (vi l2), some (vi t4), o4], ([vi v5], G x m6))) Q
      refine wp_run 3 true ((bif decide (¬ v5 = 0) then 153 else 101), ([some (vp 31 0), some (vi l1), some (vi l2), some (vi t4), some (vi v5)], ([], G x m6))) rfl rfl ?_
      refine wp_if (¬ v5 = 0) (fun c7 => ?_) (fun c7 => ?_)
      · have h := h.1 c7
        refine wp_run 6 true (163, ([some (vp 31 0), some (vi l1), some (vi l2), some (vi t4), some (vi v5)], ([vi 0, vp 32 0, vi 0, vp 33 0], G x m6))) rfl rfl ?_
        refine wp_call 148 [vp 33 0, vi 0, vp 32 0, vi 0] (166, ([some (vp 31 0), some (vi l1), some (vi l2), some (vi t4), some (vi v5)], ([], G x m6))) rfl rfl (Cl.mono h (Nat.le_refl _) ?_)
        rintro r ⟨m9, rfl, h⟩
        · show Wp X (d + 1) 271 (166, ([some (vp 31 0), some (vi l1), some (vi l2), some (vi t4), some (vi v5)], ([], G x m9))) Q
          refine wp_run 3 true (171, ([some (vp 31 0), some (vi l1), some (vi l2), some (vi t4), some (vi v5)], ([], G x (mup m9 31 0 8 l2)))) rfl rfl ?_
          refine wpg (fun m10 => Wp X (d + 1) 271 (171, ([some (vp 31 0), some (vi l1), some (vi l2), some (vi t4), some (vi v5)], ([], G x m10))) Q) (mup m9 31 0 8 l2) (fun m10 hm10 => ?_)
          have h := h m10 hm10
          refine wp_run 3 true (177, ([some (vp 31 0), some (vi l1), some (vi l2), some (vi t4), some (vi v5)], ([], G x (mup m10 31 0 9 v5)))) rfl rfl ?_
          refine wpg (fun m11 => Wp X (d + 1) 271 (177, ([some (vp 31 0), some (vi l1), some (vi l2), some (vi t4), some (vi v5)], ([], G x m11))) Q) (mup m10 31 0 9 v5) (fun m11 hm11 => ?_)
          have h := h m11 hm11
          refine wp_run 2 true (179, ([some (vp 31 0), some (vi l1), some (vi l2), some (vi t4), some (vi v5)], ([vi 2, vp 31 0], G x m11))) rfl rfl ?_
          refine wp_call 149 [vp 31 0, vi 2] (182, ([some (vp 31 0), some (vi l1), some (vi l2), some (vi t4), some (vi v5)], ([], G x m11))) rfl rfl (Cl.mono h (Nat.le_refl _) ?_)
          rintro r ⟨v12, m13, rfl, h⟩
          · show Wp X (d + 1) 271 (182, ([some (vp 31 0), some (vi l1), some (vi l2), some (vi t4), some (vi v5)], ([vi v12], G x m13))) Q
            exact wp_ret rfl h
      · have h := h.2 c7
        obtain ⟨hg4_0, hg4_1, hg4_2, hg4_3, hg4_4, hg4_5, h⟩ := h
        refine wp_run 33 (inb (t4 + 4) 256 && (inb (t4 + 3) 256 && (inb (t4 + 2) 256 && (inb (t4 + 1) 256 && (inb t4 256 && (inb l2 32 && true)))))) (146, ([some (vp 31 0), some (vi l1), some (vi l2), some (vi t4), some (vi v5)], ([vi (m6 42 0 (t4 + 4).toNatClampNeg), vi (m6 42 0 (t4 + 3).toNatClampNeg), vi (m6 42 0 (t4 + 2).toNatClampNeg), vi (m6 42 0 (t4 + 1).toNatClampNeg), vi (m6 42 0 t4.toNatClampNeg), vi (m6 41 0 l2.toNatClampNeg), vp 31 0], G x m6))) rfl (and_t hg4_5 (and_t hg4_4 (and_t hg4_3 (and_t hg4_2 (and_t hg4_1 (and_t hg4_0 rfl)))))) ?_
        refine wp_call 270 [vp 31 0, vi (m6 41 0 l2.toNatClampNeg), vi (m6 42 0 t4.toNatClampNeg), vi (m6 42 0 (t4 + 1).toNatClampNeg), vi (m6 42 0 (t4 + 2).toNatClampNeg), vi (m6 42 0 (t4 + 3).toNatClampNeg), vi (m6 42 0 (t4 + 4).toNatClampNeg)] (149, ([some (vp 31 0), some (vi l1), some (vi l2), some (vi t4), some (vi v5)], ([], G x m6))) rfl rfl (Cl.mono h (Nat.le_refl _) ?_)
        rintro r ⟨v14, m15, rfl, h⟩
        · show Wp X (d + 1) 271 (149, ([some (vp 31 0), some (vi l1), some (vi l2), some (vi t4), some (vi v5)], ([vi v14], G x m15))) Q
          refine wp_run 3 true (186, ([some (vp 31 0), some (vi v14), some (vi (l2 + 1)), some (vi t4), some (vi v5)], ([], G x m15))) rfl rfl ?_
          refine wpg (fun t16 => Wp X (d + 1) 271 (186, ([some (vp 31 0), some (vi v14), some (vi t16), some (vi t4), some (vi v5)], ([], G x m15))) Q) (l2 + 1) (fun t16 ht16 => ?_)
          have h := h t16 ht16
          refine wp_run 1 true (33, ([some (vp 31 0), some (vi v14), some (vi t16), some (vi t4), some (vi v5)], ([], G x m15))) rfl rfl ?_
          exact h
set_option maxRecDepth 100000 in
set_option maxHeartbeats 4000000 in
theorem vc_X11_present {X : MX} {d : Nat} {x : Int64 × UInt64} {m : MI} {Q : MRes → Prop} {p0 : Int32} (h : ((p0 < 0 → Cl X d 196 [vp 31 0, vi 0] (G x m) (fun r => ∃ (v2 : Int32) (m3 : MI), r = (.inl (some (vi v2)), G x m3) ∧ ((v2 ≤ 0 → Q (.inl (some (vi p0)), G x m3)) ∧ (¬ (v2 ≤ 0) → Q (.inl (some (vi 0)), G x m3))))) ∧ (¬ (p0 < 0) → Cl X d 196 [vp 31 0, vi 1] (G x m) (fun r => ∃ (v5 : Int32) (m6 : MI), r = (.inl (some (vi v5)), G x m6) ∧ ((v5 ≤ 0 → Q (.inl (some (vi p0)), G x m6)) ∧ (¬ (v5 ≤ 0) → Q (.inl (some (vi 0)), G x m6))))))) : Cl X (d + 1) 272 [vp 31 0, vi p0] (G x m) Q := by
  show Wp X (d + 1) 272 (0, ([some (vp 31 0), some (vi p0)], ([], G x m))) Q
  refine wp_run 3 true ((bif decide (p0 < 0) then 9 else 5), ([some (vp 31 0), some (vi p0)], ([vp 31 0], G x m))) rfl rfl ?_
  refine wp_if (p0 < 0) (fun c1 => ?_) (fun c1 => ?_)
  · have h := h.1 c1
    refine wp_run 1 true (10, ([some (vp 31 0), some (vi p0)], ([vi 0, vp 31 0], G x m))) rfl rfl ?_
    refine wp_call 196 [vp 31 0, vi 0] (13, ([some (vp 31 0), some (vi p0)], ([], G x m))) rfl rfl (Cl.mono h (Nat.le_refl _) ?_)
    rintro r ⟨v2, m3, rfl, h⟩
    · show Wp X (d + 1) 272 (13, ([some (vp 31 0), some (vi p0)], ([vi v2], G x m3))) Q
      refine wp_run 1 true ((bif decide (v2 ≤ 0) then 20 else 16), ([some (vp 31 0), some (vi p0)], ([], G x m3))) rfl rfl ?_
      refine wp_if (v2 ≤ 0) (fun c4 => ?_) (fun c4 => ?_)
      · have h := h.1 c4
        refine wp_run 1 true (21, ([some (vp 31 0), some (vi p0)], ([vi p0], G x m3))) rfl rfl ?_
        exact wp_ret rfl h
      · have h := h.2 c4
        refine wp_run 2 true (21, ([some (vp 31 0), some (vi p0)], ([vi 0], G x m3))) rfl rfl ?_
        exact wp_ret rfl h
  · have h := h.2 c1
    refine wp_run 2 true (10, ([some (vp 31 0), some (vi p0)], ([vi 1, vp 31 0], G x m))) rfl rfl ?_
    refine wp_call 196 [vp 31 0, vi 1] (13, ([some (vp 31 0), some (vi p0)], ([], G x m))) rfl rfl (Cl.mono h (Nat.le_refl _) ?_)
    rintro r ⟨v5, m6, rfl, h⟩
    · show Wp X (d + 1) 272 (13, ([some (vp 31 0), some (vi p0)], ([vi v5], G x m6))) Q
      refine wp_run 1 true ((bif decide (v5 ≤ 0) then 20 else 16), ([some (vp 31 0), some (vi p0)], ([], G x m6))) rfl rfl ?_
      refine wp_if (v5 ≤ 0) (fun c7 => ?_) (fun c7 => ?_)
      · have h := h.1 c7
        refine wp_run 1 true (21, ([some (vp 31 0), some (vi p0)], ([vi p0], G x m6))) rfl rfl ?_
        exact wp_ret rfl h
      · have h := h.2 c7
        refine wp_run 2 true (21, ([some (vp 31 0), some (vi p0)], ([vi 0], G x m6))) rfl rfl ?_
        exact wp_ret rfl h
set_option maxRecDepth 100000 in
set_option maxHeartbeats 4000000 in
theorem vc_X11_errorPosition {X : MX} {d : Nat} {x : Int64 × UInt64} {m : MI} {Q : MRes → Prop} (h : Cl X d 272 [vp 31 0, vi (m 31 0 7)] (G x m) (fun r => ∃ (v1 : Int32) (m2 : MI), r = (.inl (some (vi v1)), G x m2) ∧ Q (.inl (some (vi v1)), G x m2))) : Cl X (d + 1) 273 [vp 31 0] (G x m) Q := by
  show Wp X (d + 1) 273 (0, ([some (vp 31 0)], ([], G x m))) Q
  refine wp_run 3 true (5, ([some (vp 31 0)], ([vi (m 31 0 7), vp 31 0], G x m))) rfl rfl ?_
  refine wp_call 272 [vp 31 0, vi (m 31 0 7)] (8, ([some (vp 31 0)], ([], G x m))) rfl rfl (Cl.mono h (Nat.le_refl _) ?_)
  rintro r ⟨v1, m2, rfl, h⟩
  · show Wp X (d + 1) 273 (8, ([some (vp 31 0)], ([vi v1], G x m2))) Q
    exact wp_ret rfl h
set_option maxRecDepth 100000 in
set_option maxHeartbeats 4000000 in
theorem vc_X11_failedCommand {X : MX} {d : Nat} {x : Int64 × UInt64} {m : MI} {Q : MRes → Prop} (h : Cl X d 272 [vp 31 0, vi (m 31 0 8)] (G x m) (fun r => ∃ (v1 : Int32) (m2 : MI), r = (.inl (some (vi v1)), G x m2) ∧ Q (.inl (some (vi v1)), G x m2))) : Cl X (d + 1) 274 [vp 31 0] (G x m) Q := by
  show Wp X (d + 1) 274 (0, ([some (vp 31 0)], ([], G x m))) Q
  refine wp_run 3 true (5, ([some (vp 31 0)], ([vi (m 31 0 8), vp 31 0], G x m))) rfl rfl ?_
  refine wp_call 272 [vp 31 0, vi (m 31 0 8)] (8, ([some (vp 31 0)], ([], G x m))) rfl rfl (Cl.mono h (Nat.le_refl _) ?_)
  rintro r ⟨v1, m2, rfl, h⟩
  · show Wp X (d + 1) 274 (8, ([some (vp 31 0)], ([vi v1], G x m2))) Q
    exact wp_ret rfl h
set_option maxRecDepth 100000 in
set_option maxHeartbeats 4000000 in
theorem vc_X11_failureKind {X : MX} {d : Nat} {x : Int64 × UInt64} {m : MI} {Q : MRes → Prop} (h : (((m 31 0 9) ≤ 0 → Cl X d 196 [vp 31 0, vi 0] (G x m) (fun r => ∃ (v2 : Int32) (m3 : MI), r = (.inl (some (vi v2)), G x m3) ∧ ((v2 ≤ 0 → (okT 3 (((m3 31 0 9).toUInt32 % 65536).toInt32) = true ∧ Q (.inl (some (vi (((m3 31 0 9).toUInt32 % 65536).toInt32))), G x m3))) ∧ (¬ (v2 ≤ 0) → Q (.inl (some (vi 32)), G x m3))))) ∧ (¬ ((m 31 0 9) ≤ 0) → Cl X d 196 [vp 31 0, vi 1] (G x m) (fun r => ∃ (v5 : Int32) (m6 : MI), r = (.inl (some (vi v5)), G x m6) ∧ ((v5 ≤ 0 → (okT 3 (((m6 31 0 9).toUInt32 % 65536).toInt32) = true ∧ Q (.inl (some (vi (((m6 31 0 9).toUInt32 % 65536).toInt32))), G x m6))) ∧ (¬ (v5 ≤ 0) → Q (.inl (some (vi 32)), G x m6))))))) : Cl X (d + 1) 275 [vp 31 0] (G x m) Q := by
  show Wp X (d + 1) 275 (0, ([some (vp 31 0)], ([], G x m))) Q
  refine wp_run 4 true ((bif decide ((m 31 0 9) ≤ 0) then 12 else 8), ([some (vp 31 0)], ([vp 31 0], G x m))) rfl rfl ?_
  refine wp_if ((m 31 0 9) ≤ 0) (fun c1 => ?_) (fun c1 => ?_)
  · have h := h.1 c1
    refine wp_run 1 true (13, ([some (vp 31 0)], ([vi 0, vp 31 0], G x m))) rfl rfl ?_
    refine wp_call 196 [vp 31 0, vi 0] (16, ([some (vp 31 0)], ([], G x m))) rfl rfl (Cl.mono h (Nat.le_refl _) ?_)
    rintro r ⟨v2, m3, rfl, h⟩
    · show Wp X (d + 1) 275 (16, ([some (vp 31 0)], ([vi v2], G x m3))) Q
      refine wp_run 1 true ((bif decide (v2 ≤ 0) then 24 else 19), ([some (vp 31 0)], ([], G x m3))) rfl rfl ?_
      refine wp_if (v2 ≤ 0) (fun c4 => ?_) (fun c4 => ?_)
      · have h := h.1 c4
        refine wp_run 3 true (29, ([some (vp 31 0)], ([vi (((m3 31 0 9).toUInt32 % 65536).toInt32)], G x m3))) rfl rfl ?_
        exact wp_retT (okT 3 (((m3 31 0 9).toUInt32 % 65536).toInt32)) rfl h.1 h.2
      · have h := h.2 c4
        refine wp_run 2 true (29, ([some (vp 31 0)], ([vi 32], G x m3))) rfl rfl ?_
        exact wp_ret rfl h
  · have h := h.2 c1
    refine wp_run 2 true (13, ([some (vp 31 0)], ([vi 1, vp 31 0], G x m))) rfl rfl ?_
    refine wp_call 196 [vp 31 0, vi 1] (16, ([some (vp 31 0)], ([], G x m))) rfl rfl (Cl.mono h (Nat.le_refl _) ?_)
    rintro r ⟨v5, m6, rfl, h⟩
    · show Wp X (d + 1) 275 (16, ([some (vp 31 0)], ([vi v5], G x m6))) Q
      refine wp_run 1 true ((bif decide (v5 ≤ 0) then 24 else 19), ([some (vp 31 0)], ([], G x m6))) rfl rfl ?_
      refine wp_if (v5 ≤ 0) (fun c7 => ?_) (fun c7 => ?_)
      · have h := h.1 c7
        refine wp_run 3 true (29, ([some (vp 31 0)], ([vi (((m6 31 0 9).toUInt32 % 65536).toInt32)], G x m6))) rfl rfl ?_
        exact wp_retT (okT 3 (((m6 31 0 9).toUInt32 % 65536).toInt32)) rfl h.1 h.2
      · have h := h.2 c7
        refine wp_run 2 true (29, ([some (vp 31 0)], ([vi 32], G x m6))) rfl rfl ?_
        exact wp_ret rfl h
set_option maxRecDepth 100000 in
set_option maxHeartbeats 4000000 in
theorem vc_X11_undo {X : MX} {d : Nat} {x : Int64 × UInt64} {m : MI} {Q : MRes → Prop} (h : (((m 31 0 6) ≤ 0 → Cl X d 196 [vp 31 0, vi 0] (G x m) (fun r => ∃ (v2 : Int32) (m3 : MI), r = (.inl (some (vi v2)), G x m3) ∧ ((v2 ≤ 0 → (∀ m5 : MI, m5 = mup m3 31 0 6 ((m3 31 0 6) - 1) → Cl X d 148 [vp 35 0, vi (136 * (m5 31 0 6)), vp 32 0, vi 0] (G x m5) (fun r => ∃ (m7 : MI), r = (.inl none, G x m7) ∧ Q (.inl (some (vi (m7 31 0 6))), G x m7)))) ∧ (¬ (v2 ≤ 0) → Q (.inl (some (vi 0)), G x m3))))) ∧ (¬ ((m 31 0 6) ≤ 0) → Cl X d 196 [vp 31 0, vi 1] (G x m) (fun r => ∃ (v8 : Int32) (m9 : MI), r = (.inl (some (vi v8)), G x m9) ∧ ((v8 ≤ 0 → (∀ m11 : MI, m11 = mup m9 31 0 6 ((m9 31 0 6) - 1) → Cl X d 148 [vp 35 0, vi (136 * (m11 31 0 6)), vp 32 0, vi 0] (G x m11) (fun r => ∃ (m13 : MI), r = (.inl none, G x m13) ∧ Q (.inl (some (vi (m13 31 0 6))), G x m13)))) ∧ (¬ (v8 ≤ 0) → Q (.inl (some (vi 0)), G x m9))))))) : Cl X (d + 1) 276 [vp 31 0] (G x m) Q := by
  show Wp X (d + 1) 276 (0, ([some (vp 31 0)], ([], G x m))) Q
  refine wp_run 4 true ((bif decide ((m 31 0 6) ≤ 0) then 12 else 8), ([some (vp 31 0)], ([vp 31 0], G x m))) rfl rfl ?_
  refine wp_if ((m 31 0 6) ≤ 0) (fun c1 => ?_) (fun c1 => ?_)
  · have h := h.1 c1
    refine wp_run 1 true (13, ([some (vp 31 0)], ([vi 0, vp 31 0], G x m))) rfl rfl ?_
    refine wp_call 196 [vp 31 0, vi 0] (16, ([some (vp 31 0)], ([], G x m))) rfl rfl (Cl.mono h (Nat.le_refl _) ?_)
    rintro r ⟨v2, m3, rfl, h⟩
    · show Wp X (d + 1) 276 (16, ([some (vp 31 0)], ([vi v2], G x m3))) Q
      refine wp_run 1 true ((bif decide (v2 ≤ 0) then 21 else 19), ([some (vp 31 0)], ([], G x m3))) rfl rfl ?_
      refine wp_if (v2 ≤ 0) (fun c4 => ?_) (fun c4 => ?_)
      · have h := h.1 c4
        refine wp_run 6 true (31, ([some (vp 31 0)], ([], G x (mup m3 31 0 6 ((m3 31 0 6) - 1))))) rfl rfl ?_
        refine wpg (fun m5 => Wp X (d + 1) 276 (31, ([some (vp 31 0)], ([], G x m5))) Q) (mup m3 31 0 6 ((m3 31 0 6) - 1)) (fun m5 hm5 => ?_)
        have h := h m5 hm5
        refine wp_run 9 true (48, ([some (vp 31 0)], ([vi 0, vp 32 0, vi (136 * (m5 31 0 6)), vp 35 0], G x m5))) rfl rfl ?_
        refine wp_call 148 [vp 35 0, vi (136 * (m5 31 0 6)), vp 32 0, vi 0] (51, ([some (vp 31 0)], ([], G x m5))) rfl rfl (Cl.mono h (Nat.le_refl _) ?_)
        rintro r ⟨m7, rfl, h⟩
        · show Wp X (d + 1) 276 (51, ([some (vp 31 0)], ([], G x m7))) Q
          refine wp_run 2 true (55, ([some (vp 31 0)], ([vi (m7 31 0 6)], G x m7))) rfl rfl ?_
          exact wp_ret rfl h
      · have h := h.2 c4
        refine wp_run 1 true (20, ([some (vp 31 0)], ([vi 0], G x m3))) rfl rfl ?_
        exact wp_ret rfl h
  · have h := h.2 c1
    refine wp_run 2 true (13, ([some (vp 31 0)], ([vi 1, vp 31 0], G x m))) rfl rfl ?_
    refine wp_call 196 [vp 31 0, vi 1] (16, ([some (vp 31 0)], ([], G x m))) rfl rfl (Cl.mono h (Nat.le_refl _) ?_)
    rintro r ⟨v8, m9, rfl, h⟩
    · show Wp X (d + 1) 276 (16, ([some (vp 31 0)], ([vi v8], G x m9))) Q
      refine wp_run 1 true ((bif decide (v8 ≤ 0) then 21 else 19), ([some (vp 31 0)], ([], G x m9))) rfl rfl ?_
      refine wp_if (v8 ≤ 0) (fun c10 => ?_) (fun c10 => ?_)
      · have h := h.1 c10
        refine wp_run 6 true (31, ([some (vp 31 0)], ([], G x (mup m9 31 0 6 ((m9 31 0 6) - 1))))) rfl rfl ?_
        refine wpg (fun m11 => Wp X (d + 1) 276 (31, ([some (vp 31 0)], ([], G x m11))) Q) (mup m9 31 0 6 ((m9 31 0 6) - 1)) (fun m11 hm11 => ?_)
        have h := h m11 hm11
        refine wp_run 9 true (48, ([some (vp 31 0)], ([vi 0, vp 32 0, vi (136 * (m11 31 0 6)), vp 35 0], G x m11))) rfl rfl ?_
        refine wp_call 148 [vp 35 0, vi (136 * (m11 31 0 6)), vp 32 0, vi 0] (51, ([some (vp 31 0)], ([], G x m11))) rfl rfl (Cl.mono h (Nat.le_refl _) ?_)
        rintro r ⟨m13, rfl, h⟩
        · show Wp X (d + 1) 276 (51, ([some (vp 31 0)], ([], G x m13))) Q
          refine wp_run 2 true (55, ([some (vp 31 0)], ([vi (m13 31 0 6)], G x m13))) rfl rfl ?_
          exact wp_ret rfl h
      · have h := h.2 c10
        refine wp_run 1 true (20, ([some (vp 31 0)], ([vi 0], G x m9))) rfl rfl ?_
        exact wp_ret rfl h
set_option maxRecDepth 100000 in
set_option maxHeartbeats 4000000 in
theorem vc_X11_save {X : MX} {d : Nat} {x : Int64 × UInt64} {m : MI} {Q : MRes → Prop} (h : (∀ m1 : MI, m1 = mup m 31 0 5 0 → Cl X d 148 [vp 32 0, vi 0, vp 34 0, vi 0] (G x m1) (fun r => ∃ (m3 : MI), r = (.inl none, G x m3) ∧ (∀ m4 : MI, m4 = mup m3 31 0 10 1 → Q (.inl (some (vi (m4 32 0 0))), G x m4))))) : Cl X (d + 1) 277 [vp 31 0] (G x m) Q := by
  show Wp X (d + 1) 277 (0, ([some (vp 31 0)], ([], G x m))) Q
  refine wp_run 3 true (5, ([some (vp 31 0)], ([], G x (mup m 31 0 5 0)))) rfl rfl ?_
  refine wpg (fun m1 => Wp X (d + 1) 277 (5, ([some (vp 31 0)], ([], G x m1))) Q) (mup m 31 0 5 0) (fun m1 hm1 => ?_)
  have h := h m1 hm1
  refine wp_run 6 true (15, ([some (vp 31 0)], ([vi 0, vp 34 0, vi 0, vp 32 0], G x m1))) rfl rfl ?_
  refine wp_call 148 [vp 32 0, vi 0, vp 34 0, vi 0] (18, ([some (vp 31 0)], ([], G x m1))) rfl rfl (Cl.mono h (Nat.le_refl _) ?_)
  rintro r ⟨m3, rfl, h⟩
  · show Wp X (d + 1) 277 (18, ([some (vp 31 0)], ([], G x m3))) Q
    refine wp_run 3 true (23, ([some (vp 31 0)], ([], G x (mup m3 31 0 10 1)))) rfl rfl ?_
    refine wpg (fun m4 => Wp X (d + 1) 277 (23, ([some (vp 31 0)], ([], G x m4))) Q) (mup m3 31 0 10 1) (fun m4 hm4 => ?_)
    have h := h m4 hm4
    refine wp_run 4 true (29, ([some (vp 31 0)], ([vi (m4 32 0 0)], G x m4))) rfl rfl ?_
    exact wp_ret rfl h
set_option maxRecDepth 100000 in
set_option maxHeartbeats 4000000 in
theorem vc_X11_restore {X : MX} {d : Nat} {x : Int64 × UInt64} {m : MI} {Q : MRes → Prop} (h : Cl X d 196 [vp 31 0, vi (m 31 0 10)] (G x m) (fun r => ∃ (v1 : Int32) (m2 : MI), r = (.inl (some (vi v1)), G x m2) ∧ ((v1 ≤ 0 → Cl X d 148 [vp 34 0, vi 0, vp 32 0, vi 0] (G x m2) (fun r => ∃ (m5 : MI), r = (.inl none, G x m5) ∧ (∀ m6 : MI, m6 = mup m5 31 0 6 0 → Q (.inl (some (vi (m6 32 0 0))), G x m6)))) ∧ (¬ (v1 ≤ 0) → Q (.inl (some (vi 0)), G x m2))))) : Cl X (d + 1) 278 [vp 31 0] (G x m) Q := by
  show Wp X (d + 1) 278 (0, ([some (vp 31 0)], ([], G x m))) Q
  refine wp_run 3 true (5, ([some (vp 31 0)], ([vi (m 31 0 10), vp 31 0], G x m))) rfl rfl ?_
  refine wp_call 196 [vp 31 0, vi (m 31 0 10)] (8, ([some (vp 31 0)], ([], G x m))) rfl rfl (Cl.mono h (Nat.le_refl _) ?_)
  rintro r ⟨v1, m2, rfl, h⟩
  · show Wp X (d + 1) 278 (8, ([some (vp 31 0)], ([vi v1], G x m2))) Q
    refine wp_run 1 true ((bif decide (v1 ≤ 0) then 13 else 11), ([some (vp 31 0)], ([], G x m2))) rfl rfl ?_
    refine wp_if (v1 ≤ 0) (fun c3 => ?_) (fun c3 => ?_)
    · have h := h.1 c3
      refine wp_run 6 true (23, ([some (vp 31 0)], ([vi 0, vp 32 0, vi 0, vp 34 0], G x m2))) rfl rfl ?_
      refine wp_call 148 [vp 34 0, vi 0, vp 32 0, vi 0] (26, ([some (vp 31 0)], ([], G x m2))) rfl rfl (Cl.mono h (Nat.le_refl _) ?_)
      rintro r ⟨m5, rfl, h⟩
      · show Wp X (d + 1) 278 (26, ([some (vp 31 0)], ([], G x m5))) Q
        refine wp_run 3 true (31, ([some (vp 31 0)], ([], G x (mup m5 31 0 6 0)))) rfl rfl ?_
        refine wpg (fun m6 => Wp X (d + 1) 278 (31, ([some (vp 31 0)], ([], G x m6))) Q) (mup m5 31 0 6 0) (fun m6 hm6 => ?_)
        have h := h m6 hm6
        refine wp_run 4 true (37, ([some (vp 31 0)], ([vi (m6 32 0 0)], G x m6))) rfl rfl ?_
        exact wp_ret rfl h
    · have h := h.2 c3
      refine wp_run 1 true (12, ([some (vp 31 0)], ([vi 0], G x m2))) rfl rfl ?_
      exact wp_ret rfl h
