set_option maxRecDepth 100000 in
set_option maxHeartbeats 4000000 in
theorem vc_X10_paletteErrorBySearch {X : MX} {d : Nat} {x : Int64 × UInt64} {m : MI} {Q : MRes → Prop} {p0 : Int32} (h : Cl X d 57 [vi p0, vi 1, vi (m 2 0 1)] (G x m) (fun r => ∃ (v1 : Int32) (m2 : MI), r = (.inl (some (vi v1)), G x m2) ∧ ((¬ v1 = 0 → Cl X d 122 [vp 20 0, vp 1 0] (G x m2) (fun r => ∃ (m5 : MI), r = (.inl none, G x m5) ∧ Cl X d 128 [vp 20 0, vi p0] (G x m5) (fun r => ∃ (v6 : Int32) (m7 : MI), r = (.inl (some (vi v6)), G x m7) ∧ Q (.inl (some (vi v6)), G x m7)))) ∧ (¬ (¬ v1 = 0) → Q (.inr 0, Gu (1 + (0, 0).1, 6 + (0, 0).2) x m2))))) : Cl X (d + 1) 36 [vp 0 0, vi p0] (G x m) Q := by
  show Wp X (d + 1) 36 (0, ([some (vp 0 0), some (vi p0)], ([], G x m))) Q
  refine wp_run 6 true (12, ([some (vp 0 0), some (vi p0)], ([vi (m 2 0 1), vi 1, vi p0], G x m))) rfl rfl ?_
  refine wp_call 57 [vi p0, vi 1, vi (m 2 0 1)] (15, ([some (vp 0 0), some (vi p0)], ([], G x m))) rfl rfl (Cl.mono h (Nat.le_refl _) ?_)
  rintro r ⟨v1, m2, rfl, h⟩
  · show Wp X (d + 1) 36 (15, ([some (vp 0 0), some (vi p0)], ([vi v1], G x m2))) Q
    refine wp_run 1 true ((bif decide (¬ v1 = 0) then 28 else 18), ([some (vp 0 0), some (vi p0)], ([], G x m2))) rfl rfl ?_
    refine wp_if (¬ v1 = 0) (fun c3 => ?_) (fun c3 => ?_)
    · have h := h.1 c3
      refine wp_run 4 true (36, ([some (vp 0 0), some (vi p0)], ([vp 1 0, vp 20 0], G x m2))) rfl rfl ?_
      refine wp_call 122 [vp 20 0, vp 1 0] (39, ([some (vp 0 0), some (vi p0)], ([], G x m2))) rfl rfl (Cl.mono h (Nat.le_refl _) ?_)
      rintro r ⟨m5, rfl, h⟩
      · show Wp X (d + 1) 36 (39, ([some (vp 0 0), some (vi p0)], ([], G x m5))) Q
        refine wp_run 3 true (44, ([some (vp 0 0), some (vi p0)], ([vi p0, vp 20 0], G x m5))) rfl rfl ?_
        refine wp_call 128 [vp 20 0, vi p0] (47, ([some (vp 0 0), some (vi p0)], ([], G x m5))) rfl rfl (Cl.mono h (Nat.le_refl _) ?_)
        rintro r ⟨v6, m7, rfl, h⟩
        · show Wp X (d + 1) 36 (47, ([some (vp 0 0), some (vi p0)], ([vi v6], G x m7))) Q
          exact wp_ret rfl h
    · have h := h.2 c3
      exact wp_thr rfl rfl h
set_option maxRecDepth 100000 in
set_option maxHeartbeats 4000000 in
theorem vc_X10_paletteColour {X : MX} {d : Nat} {x : Int64 × UInt64} {m : MI} {Q : MRes → Prop} {p0 : Int32} {p1 : Int32} (h : Cl X d 57 [vi p0, vi 1, vi (m 2 0 1)] (G x m) (fun r => ∃ (v1 : Int32) (m2 : MI), r = (.inl (some (vi v1)), G x m2) ∧ ((¬ v1 = 0 → ((p1 < 0 → Q (.inr 2, Gu (1 + (0, 0).1, 6 + (0, 0).2) x m2)) ∧ (¬ (p1 < 0) → ((p1 < p0 → Cl X d 122 [vp 20 0, vp 1 0] (G x m2) (fun r => ∃ (m7 : MI), r = (.inl none, G x m7) ∧ Cl X d 125 [vp 20 0, vi p0] (G x m7) (fun r => ∃ (v8 : Int32) (m9 : MI), r = (.inl (some (vi v8)), G x m9) ∧ Cl X d 127 [vp 20 0, vi v8, vi p1] (G x m9) (fun r => ∃ (v10 : Int32) (m11 : MI), r = (.inl (some (vi v10)), G x m11) ∧ (inb v10 10 = true ∧ Q (.inl (some (vi (m11 5 (10 * 0 + v10.toNatClampNeg) 0))), G x m11)))))) ∧ (¬ (p1 < p0) → Q (.inr 2, Gu (1 + (0, 0).1, 6 + (0, 0).2) x m2)))))) ∧ (¬ (¬ v1 = 0) → Q (.inr 0, Gu (1 + (0, 0).1, 6 + (0, 0).2) x m2))))) : Cl X (d + 1) 37 [vp 0 0, vi p0, vi p1] (G x m) Q := by
  show Wp X (d + 1) 37 (0, ([some (vp 0 0), some (vi p0), some (vi p1), none], ([], G x m))) Q
  refine wp_run 6 true (12, ([some (vp 0 0), some (vi p0), some (vi p1), none], ([vi (m 2 0 1), vi 1, vi p0], G x m))) rfl rfl ?_
  refine wp_call 57 [vi p0, vi 1, vi (m 2 0 1)] (15, ([some (vp 0 0), some (vi p0), some (vi p1), none], ([], G x m))) rfl rfl (Cl.mono h (Nat.le_refl _) ?_)
  rintro r ⟨v1, m2, rfl, h⟩
  · show Wp X (d + 1) 37 (15, ([some (vp 0 0), some (vi p0), some (vi p1), none], ([vi v1], G x m2))) Q
    refine wp_run 1 true ((bif decide (¬ v1 = 0) then 28 else 18), ([some (vp 0 0), some (vi p0), some (vi p1), none], ([], G x m2))) rfl rfl ?_
    refine wp_if (¬ v1 = 0) (fun c3 => ?_) (fun c3 => ?_)
    · have h := h.1 c3
      refine wp_run 2 true ((bif decide (p1 < 0) then 37 else 32), ([some (vp 0 0), some (vi p0), some (vi p1), none], ([], G x m2))) rfl rfl ?_
      refine wp_if (p1 < 0) (fun c4 => ?_) (fun c4 => ?_)
      · have h := h.1 c4
        exact wp_thr rfl rfl h
      · have h := h.2 c4
        refine wp_run 3 true ((bif decide (p1 < p0) then 47 else 37), ([some (vp 0 0), some (vi p0), some (vi p1), none], ([], G x m2))) rfl rfl ?_
        refine wp_if (p1 < p0) (fun c5 => ?_) (fun c5 => ?_)
        · have h := h.1 c5
          refine wp_run 4 true (55, ([some (vp 0 0), some (vi p0), some (vi p1), none], ([vp 1 0, vp 20 0], G x m2))) rfl rfl ?_
          refine wp_call 122 [vp 20 0, vp 1 0] (58, ([some (vp 0 0), some (vi p0), some (vi p1), none], ([], G x m2))) rfl rfl (Cl.mono h (Nat.le_refl _) ?_)
          rintro r ⟨m7, rfl, h⟩
          · show Wp X (d + 1) 37 (58, ([some (vp 0 0), some (vi p0), some (vi p1), none], ([], G x m7))) Q
            refine wp_run 5 true (67, ([some (vp 0 0), some (vi p0), some (vi p1), none], ([vi p0, vp 20 0, vp 20 0], G x m7))) rfl rfl ?_
            refine wp_call 125 [vp 20 0, vi p0] (70, ([some (vp 0 0), some (vi p0), some (vi p1), none], ([vp 20 0], G x m7))) rfl rfl (Cl.mono h (Nat.le_refl _) ?_)
            rintro r ⟨v8, m9, rfl, h⟩
            · show Wp X (d + 1) 37 (70, ([some (vp 0 0), some (vi p0), some (vi p1), none], ([vi v8, vp 20 0], G x m9))) Q
              refine wp_run 1 true (71, ([some (vp 0 0), some (vi p0), some (vi p1), none], ([vi p1, vi v8, vp 20 0], G x m9))) rfl rfl ?_
              refine wp_call 127 [vp 20 0, vi v8, vi p1] (74, ([some (vp 0 0), some (vi p0), some (vi p1), none], ([], G x m9))) rfl rfl (Cl.mono h (Nat.le_refl _) ?_)
              rintro r ⟨v10, m11, rfl, h⟩
              · show Wp X (d + 1) 37 (74, ([some (vp 0 0), some (vi p0), some (vi p1), none], ([vi v10], G x m11))) Q
                obtain ⟨hg8_0, h⟩ := h
                refine wp_run 9 (inb v10 10 && true) (89, ([some (vp 0 0), some (vi p0), some (vi p1), some (vi v10)], ([vi (m11 5 (10 * 0 + v10.toNatClampNeg) 0)], G x m11))) rfl (and_t hg8_0 rfl) ?_
                exact wp_ret rfl h
        · have h := h.2 c5
          exact wp_thr rfl rfl h
    · have h := h.2 c3
      exact wp_thr rfl rfl h
set_option maxRecDepth 100000 in
set_option maxHeartbeats 4000000 in
theorem vc_X10_day {X : MX} {d : Nat} {x : Int64 × UInt64} {m : MI} {Q : MRes → Prop} (h : Q (.inl (some (vi (m 1 0 2))), G x m)) : Cl X d 38 [vp 0 0] (G x m) Q := by
  show Wp X d 38 (0, ([some (vp 0 0)], ([], G x m))) Q
  refine wp_run 3 true (7, ([some (vp 0 0)], ([vi (m 1 0 2)], G x m))) rfl rfl ?_
  exact wp_ret rfl h
set_option maxRecDepth 100000 in
set_option maxHeartbeats 4000000 in
theorem vc_X10_metric {X : MX} {d : Nat} {x : Int64 × UInt64} {m : MI} {Q : MRes → Prop} (h : (okT 3 (m 1 0 3) = true ∧ Q (.inl (some (vi (m 1 0 3))), G x m))) : Cl X d 39 [vp 0 0] (G x m) Q := by
  show Wp X d 39 (0, ([some (vp 0 0)], ([], G x m))) Q
  refine wp_run 3 true (7, ([some (vp 0 0)], ([vi (m 1 0 3)], G x m))) rfl rfl ?_
  exact wp_retT (okT 3 (m 1 0 3)) rfl h.1 h.2
set_option maxRecDepth 100000 in
set_option maxHeartbeats 4000000 in
theorem vc_X10_coins {X : MX} {d : Nat} {x : Int64 × UInt64} {m : MI} {Q : MRes → Prop} (h : Q (.inl (some (vi (m 1 0 4))), G x m)) : Cl X d 40 [vp 0 0] (G x m) Q := by
  show Wp X d 40 (0, ([some (vp 0 0)], ([], G x m))) Q
  refine wp_run 3 true (7, ([some (vp 0 0)], ([vi (m 1 0 4)], G x m))) rfl rfl ?_
  exact wp_ret rfl h
set_option maxRecDepth 100000 in
set_option maxHeartbeats 4000000 in
theorem vc_X10_coinsByAccounts {X : MX} {d : Nat} {x : Int64 × UInt64} {m : MI} {Q : MRes → Prop} (h : Q (.inl (some (vi ((m 1 0 5) - (m 1 0 6)))), G x m)) : Cl X d 41 [vp 0 0] (G x m) Q := by
  show Wp X d 41 (0, ([some (vp 0 0)], ([], G x m))) Q
  refine wp_run 7 true (15, ([some (vp 0 0)], ([vi ((m 1 0 5) - (m 1 0 6))], G x m))) rfl rfl ?_
  exact wp_ret rfl h
set_option maxRecDepth 100000 in
set_option maxHeartbeats 4000000 in
theorem vc_X10_returnedTotal {X : MX} {d : Nat} {x : Int64 × UInt64} {m : MI} {Q : MRes → Prop} (h : Q (.inl (some (vi (m 1 0 7))), G x m)) : Cl X d 42 [vp 0 0] (G x m) Q := by
  show Wp X d 42 (0, ([some (vp 0 0)], ([], G x m))) Q
  refine wp_run 3 true (7, ([some (vp 0 0)], ([vi (m 1 0 7)], G x m))) rfl rfl ?_
  exact wp_ret rfl h
set_option maxRecDepth 100000 in
set_option maxHeartbeats 4000000 in
theorem vc_X10_meanBrightness {X : MX} {d : Nat} {x : Int64 × UInt64} {m : MI} {Q : MRes → Prop} (h : ((¬ (m 2 0 1) = 0 → Cl X d 82 [vp 1 0] (G x m) (fun r => ∃ (v2 : Int32) (m3 : MI), r = (.inl (some (vi v2)), G x m3) ∧ (decide (FP.ddiv (FP.i2d v2) (FP.i2d (3 * (m3 2 0 1))) &&& 0x7fffffffffffffff ≤ 0x7ff0000000000000) = true ∧ Q (.inl (some (vx (.double (FP.ddiv (FP.i2d v2) (FP.i2d (3 * (m3 2 0 1))))))), G x m3)))) ∧ (¬ (¬ (m 2 0 1) = 0) → Q (.inr 5, Gu (1 + (0, 0).1, 6 + (0, 0).2) x m)))) : Cl X (d + 1) 43 [vp 0 0] (G x m) Q := by
  show Wp X (d + 1) 43 (0, ([some (vp 0 0)], ([], G x m))) Q
  refine wp_run 5 true ((bif decide (¬ (m 2 0 1) = 0) then 23 else 13), ([some (vp 0 0)], ([], G x m))) rfl rfl ?_
  refine wp_if (¬ (m 2 0 1) = 0) (fun c1 => ?_) (fun c1 => ?_)
  · have h := h.1 c1
    refine wp_run 2 true (27, ([some (vp 0 0)], ([vp 1 0], G x m))) rfl rfl ?_
    refine wp_call 82 [vp 1 0] (30, ([some (vp 0 0)], ([], G x m))) rfl rfl (Cl.mono h (Nat.le_refl _) ?_)
    rintro r ⟨v2, m3, rfl, h⟩
    · show Wp X (d + 1) 43 (30, ([some (vp 0 0)], ([vi v2], G x m3))) Q
      obtain ⟨hg3_0, h⟩ := h
      refine wp_run 9 (decide (FP.ddiv (FP.i2d v2) (FP.i2d (3 * (m3 2 0 1))) &&& 0x7fffffffffffffff ≤ 0x7ff0000000000000) && true) (45, ([some (vp 0 0)], ([vx (.double (FP.ddiv (FP.i2d v2) (FP.i2d (3 * (m3 2 0 1)))))], G x m3))) rfl (and_t hg3_0 rfl) ?_
      exact wp_ret rfl h
  · have h := h.2 c1
    exact wp_thr rfl rfl h
set_option maxRecDepth 100000 in
set_option maxHeartbeats 4000000 in
theorem vc_X10_greyShare {X : MX} {d : Nat} {x : Int64 × UInt64} {m : MI} {Q : MRes → Prop} (h : ((¬ (m 2 0 1) = 0 → Cl X d 79 [vp 1 0] (G x m) (fun r => ∃ (v2 : Int32) (m3 : MI), r = (.inl (some (vi v2)), G x m3) ∧ (decide (FP.fdiv (FP.i2f v2) (FP.i2f (m3 2 0 1)) &&& 0x7fffffff ≤ 0x7f800000) = true ∧ Q (.inl (some (vx (.float (FP.fdiv (FP.i2f v2) (FP.i2f (m3 2 0 1)))))), G x m3)))) ∧ (¬ (¬ (m 2 0 1) = 0) → Q (.inr 5, Gu (1 + (0, 0).1, 6 + (0, 0).2) x m)))) : Cl X (d + 1) 44 [vp 0 0] (G x m) Q := by
  show Wp X (d + 1) 44 (0, ([some (vp 0 0)], ([], G x m))) Q
  refine wp_run 5 true ((bif decide (¬ (m 2 0 1) = 0) then 23 else 13), ([some (vp 0 0)], ([], G x m))) rfl rfl ?_
  refine wp_if (¬ (m 2 0 1) = 0) (fun c1 => ?_) (fun c1 => ?_)
  · have h := h.1 c1
    refine wp_run 2 true (27, ([some (vp 0 0)], ([vp 1 0], G x m))) rfl rfl ?_
    refine wp_call 79 [vp 1 0] (30, ([some (vp 0 0)], ([], G x m))) rfl rfl (Cl.mono h (Nat.le_refl _) ?_)
    rintro r ⟨v2, m3, rfl, h⟩
    · show Wp X (d + 1) 44 (30, ([some (vp 0 0)], ([vi v2], G x m3))) Q
      obtain ⟨hg3_0, h⟩ := h
      refine wp_run 7 (decide (FP.fdiv (FP.i2f v2) (FP.i2f (m3 2 0 1)) &&& 0x7fffffff ≤ 0x7f800000) && true) (43, ([some (vp 0 0)], ([vx (.float (FP.fdiv (FP.i2f v2) (FP.i2f (m3 2 0 1))))], G x m3))) rfl (and_t hg3_0 rfl) ?_
      exact wp_ret rfl h
  · have h := h.2 c1
    exact wp_thr rfl rfl h
set_option maxRecDepth 100000 in
set_option maxHeartbeats 4000000 in
theorem vc_X10_isConsistent {X : MX} {d : Nat} {x : Int64 × UInt64} {m : MI} {Q : MRes → Prop} (h : Cl X d 66 [vp 0 0] (G x m) (fun r => ∃ (v1 : Int32) (m2 : MI), r = (.inl (some (vi v1)), G x m2) ∧ ((v1 = 0 → Q (.inl (some (vi 0)), G x m2)) ∧ (¬ (v1 = 0) → Cl X d 67 [vp 0 0] (G x m2) (fun r => ∃ (v4 : Int32) (m5 : MI), r = (.inl (some (vi v4)), G x m5) ∧ ((v4 = 0 → Q (.inl (some (vi 0)), G x m5)) ∧ (¬ (v4 = 0) → Cl X d 68 [vp 0 0] (G x m5) (fun r => ∃ (v7 : Int32) (m8 : MI), r = (.inl (some (vi v7)), G x m8) ∧ ((v7 = 0 → Q (.inl (some (vi 0)), G x m8)) ∧ (¬ (v7 = 0) → Cl X d 69 [vp 0 0] (G x m8) (fun r => ∃ (v10 : Int32) (m11 : MI), r = (.inl (some (vi v10)), G x m11) ∧ ((v10 = 0 → Q (.inl (some (vi 0)), G x m11)) ∧ (¬ (v10 = 0) → Cl X d 40 [vp 0 0] (G x m11) (fun r => ∃ (v13 : Int32) (m14 : MI), r = (.inl (some (vi v13)), G x m14) ∧ Cl X d 41 [vp 0 0] (G x m14) (fun r => ∃ (v15 : Int32) (m16 : MI), r = (.inl (some (vi v15)), G x m16) ∧ ((¬ v13 = v15 → Q (.inl (some (vi 0)), G x m16)) ∧ (¬ (¬ v13 = v15) → Q (.inl (some (vi 1)), G x m16)))))))))))))))))) : Cl X (d + 1) 45 [vp 0 0] (G x m) Q := by
  show Wp X (d + 1) 45 (0, ([some (vp 0 0)], ([], G x m))) Q
  refine wp_run 1 true (1, ([some (vp 0 0)], ([vp 0 0], G x m))) rfl rfl ?_
  refine wp_call 66 [vp 0 0] (4, ([some (vp 0 0)], ([], G x m))) rfl rfl (Cl.mono h (Nat.le_refl _) ?_)
  rintro r ⟨v1, m2, rfl, h⟩
  · show Wp X (d + 1) 45 (4, ([some (vp 0 0)], ([vi v1], G x m2))) Q
    refine wp_run 1 true ((bif decide (v1 = 0) then 43 else 7), ([some (vp 0 0)], ([], G x m2))) rfl rfl ?_
    refine wp_if (v1 = 0) (fun c3 => ?_) (fun c3 => ?_)
    · have h := h.1 c3
      refine wp_run 1 true (44, ([some (vp 0 0)], ([vi 0], G x m2))) rfl rfl ?_
      exact wp_ret rfl h
    · have h := h.2 c3
      refine wp_run 1 true (8, ([some (vp 0 0)], ([vp 0 0], G x m2))) rfl rfl ?_
      refine wp_call 67 [vp 0 0] (11, ([some (vp 0 0)], ([], G x m2))) rfl rfl (Cl.mono h (Nat.le_refl _) ?_)
      rintro r ⟨v4, m5, rfl, h⟩
      · show Wp X (d + 1) 45 (11, ([some (vp 0 0)], ([vi v4], G x m5))) Q
        refine wp_run 1 true ((bif decide (v4 = 0) then 43 else 14), ([some (vp 0 0)], ([], G x m5))) rfl rfl ?_
        refine wp_if (v4 = 0) (fun c6 => ?_) (fun c6 => ?_)
        · have h := h.1 c6
          refine wp_run 1 true (44, ([some (vp 0 0)], ([vi 0], G x m5))) rfl rfl ?_
          exact wp_ret rfl h
        · have h := h.2 c6
          refine wp_run 1 true (15, ([some (vp 0 0)], ([vp 0 0], G x m5))) rfl rfl ?_
          refine wp_call 68 [vp 0 0] (18, ([some (vp 0 0)], ([], G x m5))) rfl rfl (Cl.mono h (Nat.le_refl _) ?_)
          rintro r ⟨v7, m8, rfl, h⟩
          · show Wp X (d + 1) 45 (18, ([some (vp 0 0)], ([vi v7], G x m8))) Q
            refine wp_run 1 true ((bif decide (v7 = 0) then 43 else 21), ([some (vp 0 0)], ([], G x m8))) rfl rfl ?_
            refine wp_if (v7 = 0) (fun c9 => ?_) (fun c9 => ?_)
            · have h := h.1 c9
              refine wp_run 1 true (44, ([some (vp 0 0)], ([vi 0], G x m8))) rfl rfl ?_
              exact wp_ret rfl h
            · have h := h.2 c9
              refine wp_run 1 true (22, ([some (vp 0 0)], ([vp 0 0], G x m8))) rfl rfl ?_
              refine wp_call 69 [vp 0 0] (25, ([some (vp 0 0)], ([], G x m8))) rfl rfl (Cl.mono h (Nat.le_refl _) ?_)
              rintro r ⟨v10, m11, rfl, h⟩
              · show Wp X (d + 1) 45 (25, ([some (vp 0 0)], ([vi v10], G x m11))) Q
                refine wp_run 1 true ((bif decide (v10 = 0) then 43 else 28), ([some (vp 0 0)], ([], G x m11))) rfl rfl ?_
                refine wp_if (v10 = 0) (fun c12 => ?_) (fun c12 => ?_)
                · have h := h.1 c12
                  refine wp_run 1 true (44, ([some (vp 0 0)], ([vi 0], G x m11))) rfl rfl ?_
                  exact wp_ret rfl h
                · have h := h.2 c12
                  refine wp_run 1 true (29, ([some (vp 0 0)], ([vp 0 0], G x m11))) rfl rfl ?_
                  refine wp_call 40 [vp 0 0] (32, ([some (vp 0 0)], ([], G x m11))) rfl rfl (Cl.mono h (Nat.le_refl _) ?_)
                  rintro r ⟨v13, m14, rfl, h⟩
                  · show Wp X (d + 1) 45 (32, ([some (vp 0 0)], ([vi v13], G x m14))) Q
                    refine wp_run 1 true (33, ([some (vp 0 0)], ([vp 0 0, vi v13], G x m14))) rfl rfl ?_
                    refine wp_call 41 [vp 0 0] (36, ([some (vp 0 0)], ([vi v13], G x m14))) rfl rfl (Cl.mono h (Nat.le_refl _) ?_)
                    rintro r ⟨v15, m16, rfl, h⟩
                    · show Wp X (d + 1) 45 (36, ([some (vp 0 0)], ([vi v15, vi v13], G x m16))) Q
                      refine wp_run 1 true ((bif decide (¬ v13 = v15) then 43 else 39), ([some (vp 0 0)], ([], G x m16))) rfl rfl ?_
                      refine wp_if (¬ v13 = v15) (fun c17 => ?_) (fun c17 => ?_)
                      · have h := h.1 c17
                        refine wp_run 1 true (44, ([some (vp 0 0)], ([vi 0], G x m16))) rfl rfl ?_
                        exact wp_ret rfl h
                      · have h := h.2 c17
                        refine wp_run 2 true (44, ([some (vp 0 0)], ([vi 1], G x m16))) rfl rfl ?_
                        exact wp_ret rfl h
set_option maxRecDepth 100000 in
set_option maxHeartbeats 4000000 in
theorem vc_X10_renderColour {X : MX} {d : Nat} {x : Int64 × UInt64} {m : MI} {Q : MRes → Prop} {p0 : Int32} (h : Cl X d 61 [vp 0 0, vi p0] (G x m) (fun r => (∃ (v1 : Int32) (m2 : MI), r = (.inl (some (vi v1)), G x m2) ∧ (inb v1 10 = true ∧ Cl X d 142 [vp 28 0, vp 5 (10 * 0 + v1.toNatClampNeg), vi 35] (G x m2) (fun r => ∃ (m4 : MI), r = (.inl none, G x m4) ∧ Cl X d 143 [vp 28 0, vi 102] (G x m4) (fun r => ∃ (m6 : MI), r = (.inl none, G x m6) ∧ Cl X d 144 [vp 28 0, vi (m6 5 (10 * 0 + v1.toNatClampNeg) 4)] (G x m6) (fun r => ∃ (m8 : MI), r = (.inl none, G x m8) ∧ Cl X d 143 [vp 28 0, vi 100] (G x m8) (fun r => ∃ (m10 : MI), r = (.inl none, G x m10) ∧ Cl X d 77 [vp 1 0, vi v1] (G x m10) (fun r => ∃ (v11 : Int32) (m12 : MI), r = (.inl (some (vi v11)), G x m12) ∧ Cl X d 144 [vp 28 0, vi v11] (G x m12) (fun r => ∃ (m14 : MI), r = (.inl none, G x m14) ∧ Cl X d 78 [vp 1 0, vi v1] (G x m14) (fun r => ∃ (v15 : Int32) (m16 : MI), r = (.inl (some (vi v15)), G x m16) ∧ ((v15 = 0 → Q (.inl (some (vi (m16 28 0 1))), G x m16)) ∧ (¬ (v15 = 0) → Cl X d 143 [vp 28 0, vi 103] (G x m16) (fun r => ∃ (m19 : MI), r = (.inl none, G x m19) ∧ Q (.inl (some (vi (m19 28 0 1))), G x m19))))))))))))) ∨ (∃ (k20 : Nat) (u21 : Nat × Nat) (m22 : MI), r = (.inr k20, Gu u21 x m22) ∧ Q (.inr k20, Gu ((0, 0).1 + u21.1, (0, 0).2 + u21.2) x m22)))) : Cl X (d + 1) 46 [vp 0 0, vi p0] (G x m) Q := by
  show Wp X (d + 1) 46 (0, ([some (vp 0 0), some (vi p0), none, none], ([], G x m))) Q
  refine wp_run 2 true (2, ([some (vp 0 0), some (vi p0), none, none], ([vi p0, vp 0 0], G x m))) rfl rfl ?_
  refine wp_call 61 [vp 0 0, vi p0] (5, ([some (vp 0 0), some (vi p0), none, none], ([], G x m))) rfl rfl (Cl.mono h (Nat.le_refl _) ?_)
  intro r hr
  rcases hr with ⟨v1, m2, rfl, h⟩ | ⟨k20, u21, m22, rfl, h⟩
  · show Wp X (d + 1) 46 (5, ([some (vp 0 0), some (vi p0), none, none], ([vi v1], G x m2))) Q
    obtain ⟨hg2_0, h⟩ := h
    refine wp_run 12 (inb v1 10 && true) (26, ([some (vp 0 0), some (vi p0), some (vi v1), some (vp 5 (10 * 0 + v1.toNatClampNeg))], ([vi 35, vp 5 (10 * 0 + v1.toNatClampNeg), vp 28 0], G x m2))) rfl (and_t hg2_0 rfl) ?_
    refine wp_call 142 [vp 28 0, vp 5 (10 * 0 + v1.toNatClampNeg), vi 35] (29, ([some (vp 0 0), some (vi p0), some (vi v1), some (vp 5 (10 * 0 + v1.toNatClampNeg))], ([], G x m2))) rfl rfl (Cl.mono h (Nat.le_refl _) ?_)
    rintro r ⟨m4, rfl, h⟩
    · show Wp X (d + 1) 46 (29, ([some (vp 0 0), some (vi p0), some (vi v1), some (vp 5 (10 * 0 + v1.toNatClampNeg))], ([], G x m4))) Q
      refine wp_run 3 true (35, ([some (vp 0 0), some (vi p0), some (vi v1), some (vp 5 (10 * 0 + v1.toNatClampNeg))], ([vi 102, vp 28 0], G x m4))) rfl rfl ?_
      refine wp_call 143 [vp 28 0, vi 102] (38, ([some (vp 0 0), some (vi p0), some (vi v1), some (vp 5 (10 * 0 + v1.toNatClampNeg))], ([], G x m4))) rfl rfl (Cl.mono h (Nat.le_refl _) ?_)
      rintro r ⟨m6, rfl, h⟩
      · show Wp X (d + 1) 46 (38, ([some (vp 0 0), some (vi p0), some (vi v1), some (vp 5 (10 * 0 + v1.toNatClampNeg))], ([], G x m6))) Q
        refine wp_run 5 true (45, ([some (vp 0 0), some (vi p0), some (vi v1), some (vp 5 (10 * 0 + v1.toNatClampNeg))], ([vi (m6 5 (10 * 0 + v1.toNatClampNeg) 4), vp 28 0], G x m6))) rfl rfl ?_
        refine wp_call 144 [vp 28 0, vi (m6 5 (10 * 0 + v1.toNatClampNeg) 4)] (48, ([some (vp 0 0), some (vi p0), some (vi v1), some (vp 5 (10 * 0 + v1.toNatClampNeg))], ([], G x m6))) rfl rfl (Cl.mono h (Nat.le_refl _) ?_)
        rintro r ⟨m8, rfl, h⟩
        · show Wp X (d + 1) 46 (48, ([some (vp 0 0), some (vi p0), some (vi v1), some (vp 5 (10 * 0 + v1.toNatClampNeg))], ([], G x m8))) Q
          refine wp_run 3 true (54, ([some (vp 0 0), some (vi p0), some (vi v1), some (vp 5 (10 * 0 + v1.toNatClampNeg))], ([vi 100, vp 28 0], G x m8))) rfl rfl ?_
          refine wp_call 143 [vp 28 0, vi 100] (57, ([some (vp 0 0), some (vi p0), some (vi v1), some (vp 5 (10 * 0 + v1.toNatClampNeg))], ([], G x m8))) rfl rfl (Cl.mono h (Nat.le_refl _) ?_)
          rintro r ⟨m10, rfl, h⟩
          · show Wp X (d + 1) 46 (57, ([some (vp 0 0), some (vi p0), some (vi v1), some (vp 5 (10 * 0 + v1.toNatClampNeg))], ([], G x m10))) Q
            refine wp_run 5 true (66, ([some (vp 0 0), some (vi p0), some (vi v1), some (vp 5 (10 * 0 + v1.toNatClampNeg))], ([vi v1, vp 1 0, vp 28 0], G x m10))) rfl rfl ?_
            refine wp_call 77 [vp 1 0, vi v1] (69, ([some (vp 0 0), some (vi p0), some (vi v1), some (vp 5 (10 * 0 + v1.toNatClampNeg))], ([vp 28 0], G x m10))) rfl rfl (Cl.mono h (Nat.le_refl _) ?_)
            rintro r ⟨v11, m12, rfl, h⟩
            · show Wp X (d + 1) 46 (69, ([some (vp 0 0), some (vi p0), some (vi v1), some (vp 5 (10 * 0 + v1.toNatClampNeg))], ([vi v11, vp 28 0], G x m12))) Q
              refine wp_call 144 [vp 28 0, vi v11] (72, ([some (vp 0 0), some (vi p0), some (vi v1), some (vp 5 (10 * 0 + v1.toNatClampNeg))], ([], G x m12))) rfl rfl (Cl.mono h (Nat.le_refl _) ?_)
              rintro r ⟨m14, rfl, h⟩
              · show Wp X (d + 1) 46 (72, ([some (vp 0 0), some (vi p0), some (vi v1), some (vp 5 (10 * 0 + v1.toNatClampNeg))], ([], G x m14))) Q
                refine wp_run 3 true (77, ([some (vp 0 0), some (vi p0), some (vi v1), some (vp 5 (10 * 0 + v1.toNatClampNeg))], ([vi v1, vp 1 0], G x m14))) rfl rfl ?_
                refine wp_call 78 [vp 1 0, vi v1] (80, ([some (vp 0 0), some (vi p0), some (vi v1), some (vp 5 (10 * 0 + v1.toNatClampNeg))], ([], G x m14))) rfl rfl (Cl.mono h (Nat.le_refl _) ?_)
                rintro r ⟨v15, m16, rfl, h⟩
                · show Wp X (d + 1) 46 (80, ([some (vp 0 0), some (vi p0), some (vi v1), some (vp 5 (10 * 0 + v1.toNatClampNeg))], ([vi v15], G x m16))) Q
                  refine wp_run 1 true ((bif decide (v15 = 0) then 92 else 83), ([some (vp 0 0), some (vi p0), some (vi v1), some (vp 5 (10 * 0 + v1.toNatClampNeg))], ([], G x m16))) rfl rfl ?_
                  refine wp_if (v15 = 0) (fun c17 => ?_) (fun c17 => ?_)
                  · have h := h.1 c17
                    refine wp_run 3 true (99, ([some (vp 0 0), some (vi p0), some (vi v1), some (vp 5 (10 * 0 + v1.toNatClampNeg))], ([vi (m16 28 0 1)], G x m16))) rfl rfl ?_
                    exact wp_ret rfl h
                  · have h := h.2 c17
                    refine wp_run 3 true (89, ([some (vp 0 0), some (vi p0), some (vi v1), some (vp 5 (10 * 0 + v1.toNatClampNeg))], ([vi 103, vp 28 0], G x m16))) rfl rfl ?_
                    refine wp_call 143 [vp 28 0, vi 103] (92, ([some (vp 0 0), some (vi p0), some (vi v1), some (vp 5 (10 * 0 + v1.toNatClampNeg))], ([], G x m16))) rfl rfl (Cl.mono h (Nat.le_refl _) ?_)
                    rintro r ⟨m19, rfl, h⟩
                    · show Wp X (d + 1) 46 (92, ([some (vp 0 0), some (vi p0), some (vi v1), some (vp 5 (10 * 0 + v1.toNatClampNeg))], ([], G x m19))) Q
                      refine wp_run 3 true (99, ([some (vp 0 0), some (vi p0), some (vi v1), some (vp 5 (10 * 0 + v1.toNatClampNeg))], ([vi (m19 28 0 1)], G x m19))) rfl rfl ?_
                      exact wp_ret rfl h
  · exact h
set_option maxRecDepth 100000 in
set_option maxHeartbeats 4000000 in
theorem vc_X10_renderReport {X : MX} {d : Nat} {x : Int64 × UInt64} {m : MI} {Q : MRes → Prop} {p0 : Int32} (h : Cl X d 62 [vp 0 0, vi p0] (G x m) (fun r => (∃ (v1 : Int32) (m2 : MI), r = (.inl (some (vi v1)), G x m2) ∧ (inb v1 6 = true ∧ Cl X d 142 [vp 28 0, vp 7 (6 * 0 + v1.toNatClampNeg), vi 63] (G x m2) (fun r => ∃ (m4 : MI), r = (.inl none, G x m4) ∧ Cl X d 143 [vp 28 0, vi 126] (G x m4) (fun r => ∃ (m6 : MI), r = (.inl none, G x m6) ∧ Cl X d 144 [vp 28 0, vi (m6 7 (6 * 0 + v1.toNatClampNeg) 4)] (G x m6) (fun r => ∃ (m8 : MI), r = (.inl none, G x m8) ∧ Cl X d 143 [vp 28 0, vi 43] (G x m8) (fun r => ∃ (m10 : MI), r = (.inl none, G x m10) ∧ Cl X d 144 [vp 28 0, vi (m10 7 (6 * 0 + v1.toNatClampNeg) 5)] (G x m10) (fun r => ∃ (m12 : MI), r = (.inl none, G x m12) ∧ Q (.inl (some (vi (m12 28 0 1))), G x m12)))))))) ∨ (∃ (k13 : Nat) (u14 : Nat × Nat) (m15 : MI), r = (.inr k13, Gu u14 x m15) ∧ Q (.inr k13, Gu ((0, 0).1 + u14.1, (0, 0).2 + u14.2) x m15)))) : Cl X (d + 1) 47 [vp 0 0, vi p0] (G x m) Q := by
  show Wp X (d + 1) 47 (0, ([some (vp 0 0), some (vi p0), none, none], ([], G x m))) Q
  refine wp_run 2 true (2, ([some (vp 0 0), some (vi p0), none, none], ([vi p0, vp 0 0], G x m))) rfl rfl ?_
  refine wp_call 62 [vp 0 0, vi p0] (5, ([some (vp 0 0), some (vi p0), none, none], ([], G x m))) rfl rfl (Cl.mono h (Nat.le_refl _) ?_)
  intro r hr
  rcases hr with ⟨v1, m2, rfl, h⟩ | ⟨k13, u14, m15, rfl, h⟩
  · show Wp X (d + 1) 47 (5, ([some (vp 0 0), some (vi p0), none, none], ([vi v1], G x m2))) Q
    obtain ⟨hg2_0, h⟩ := h
    refine wp_run 12 (inb v1 6 && true) (26, ([some (vp 0 0), some (vi p0), some (vi v1), some (vp 7 (6 * 0 + v1.toNatClampNeg))], ([vi 63, vp 7 (6 * 0 + v1.toNatClampNeg), vp 28 0], G x m2))) rfl (and_t hg2_0 rfl) ?_
    refine wp_call 142 [vp 28 0, vp 7 (6 * 0 + v1.toNatClampNeg), vi 63] (29, ([some (vp 0 0), some (vi p0), some (vi v1), some (vp 7 (6 * 0 + v1.toNatClampNeg))], ([], G x m2))) rfl rfl (Cl.mono h (Nat.le_refl _) ?_)
    rintro r ⟨m4, rfl, h⟩
    · show Wp X (d + 1) 47 (29, ([some (vp 0 0), some (vi p0), some (vi v1), some (vp 7 (6 * 0 + v1.toNatClampNeg))], ([], G x m4))) Q
      refine wp_run 3 true (35, ([some (vp 0 0), some (vi p0), some (vi v1), some (vp 7 (6 * 0 + v1.toNatClampNeg))], ([vi 126, vp 28 0], G x m4))) rfl rfl ?_
      refine wp_call 143 [vp 28 0, vi 126] (38, ([some (vp 0 0), some (vi p0), some (vi v1), some (vp 7 (6 * 0 + v1.toNatClampNeg))], ([], G x m4))) rfl rfl (Cl.mono h (Nat.le_refl _) ?_)
      rintro r ⟨m6, rfl, h⟩
      · show Wp X (d + 1) 47 (38, ([some (vp 0 0), some (vi p0), some (vi v1), some (vp 7 (6 * 0 + v1.toNatClampNeg))], ([], G x m6))) Q
        refine wp_run 5 true (45, ([some (vp 0 0), some (vi p0), some (vi v1), some (vp 7 (6 * 0 + v1.toNatClampNeg))], ([vi (m6 7 (6 * 0 + v1.toNatClampNeg) 4), vp 28 0], G x m6))) rfl rfl ?_
        refine wp_call 144 [vp 28 0, vi (m6 7 (6 * 0 + v1.toNatClampNeg) 4)] (48, ([some (vp 0 0), some (vi p0), some (vi v1), some (vp 7 (6 * 0 + v1.toNatClampNeg))], ([], G x m6))) rfl rfl (Cl.mono h (Nat.le_refl _) ?_)
        rintro r ⟨m8, rfl, h⟩
        · show Wp X (d + 1) 47 (48, ([some (vp 0 0), some (vi p0), some (vi v1), some (vp 7 (6 * 0 + v1.toNatClampNeg))], ([], G x m8))) Q
          refine wp_run 3 true (54, ([some (vp 0 0), some (vi p0), some (vi v1), some (vp 7 (6 * 0 + v1.toNatClampNeg))], ([vi 43, vp 28 0], G x m8))) rfl rfl ?_
          refine wp_call 143 [vp 28 0, vi 43] (57, ([some (vp 0 0), some (vi p0), some (vi v1), some (vp 7 (6 * 0 + v1.toNatClampNeg))], ([], G x m8))) rfl rfl (Cl.mono h (Nat.le_refl _) ?_)
          rintro r ⟨m10, rfl, h⟩
          · show Wp X (d + 1) 47 (57, ([some (vp 0 0), some (vi p0), some (vi v1), some (vp 7 (6 * 0 + v1.toNatClampNeg))], ([], G x m10))) Q
            refine wp_run 5 true (64, ([some (vp 0 0), some (vi p0), some (vi v1), some (vp 7 (6 * 0 + v1.toNatClampNeg))], ([vi (m10 7 (6 * 0 + v1.toNatClampNeg) 5), vp 28 0], G x m10))) rfl rfl ?_
            refine wp_call 144 [vp 28 0, vi (m10 7 (6 * 0 + v1.toNatClampNeg) 5)] (67, ([some (vp 0 0), some (vi p0), some (vi v1), some (vp 7 (6 * 0 + v1.toNatClampNeg))], ([], G x m10))) rfl rfl (Cl.mono h (Nat.le_refl _) ?_)
            rintro r ⟨m12, rfl, h⟩
            · show Wp X (d + 1) 47 (67, ([some (vp 0 0), some (vi p0), some (vi v1), some (vp 7 (6 * 0 + v1.toNatClampNeg))], ([], G x m12))) Q
              refine wp_run 3 true (74, ([some (vp 0 0), some (vi p0), some (vi v1), some (vp 7 (6 * 0 + v1.toNatClampNeg))], ([vi (m12 28 0 1)], G x m12))) rfl rfl ?_
              exact wp_ret rfl h
  · exact h
set_option maxRecDepth 100000 in
set_option maxHeartbeats 4000000 in
theorem vc_X10_outputAt {X : MX} {d : Nat} {x : Int64 × UInt64} {m : MI} {Q : MRes → Prop} {p0 : Int32} (h : ((p0 < 0 → Q (.inr 4, Gu (1 + (0, 0).1, 6 + (0, 0).2) x m)) ∧ (¬ (p0 < 0) → ((p0 < (m 28 0 1) → (inb p0 64 = true ∧ (okT 3 (m 29 0 p0.toNatClampNeg) = true ∧ Q (.inl (some (vi (m 29 0 p0.toNatClampNeg))), G x m)))) ∧ (¬ (p0 < (m 28 0 1)) → Q (.inr 4, Gu (1 + (0, 0).1, 6 + (0, 0).2) x m)))))) : Cl X d 48 [vp 0 0, vi p0] (G x m) Q := by
  show Wp X d 48 (0, ([some (vp 0 0), some (vi p0)], ([], G x m))) Q
  refine wp_run 2 true ((bif decide (p0 < 0) then 15 else 4), ([some (vp 0 0), some (vi p0)], ([], G x m))) rfl rfl ?_
  refine wp_if (p0 < 0) (fun c1 => ?_) (fun c1 => ?_)
  · have h := h.1 c1
    exact wp_thr rfl rfl h
  · have h := h.2 c1
    refine wp_run 5 true ((bif decide (p0 < (m 28 0 1)) then 26 else 15), ([some (vp 0 0), some (vi p0)], ([], G x m))) rfl rfl ?_
    refine wp_if (p0 < (m 28 0 1)) (fun c2 => ?_) (fun c2 => ?_)
    · have h := h.1 c2
      obtain ⟨hg3_0, h⟩ := h
      refine wp_run 5 (inb p0 64 && true) (35, ([some (vp 0 0), some (vi p0)], ([vi (m 29 0 p0.toNatClampNeg)], G x m))) rfl (and_t hg3_0 rfl) ?_
      exact wp_retT (okT 3 (m 29 0 p0.toNatClampNeg)) rfl h.1 h.2
    · have h := h.2 c2
      exact wp_thr rfl rfl h
set_option maxRecDepth 100000 in
set_option maxHeartbeats 4000000 in
theorem vc_X10_type {X : MX} {d : Nat} {x : Int64 × UInt64} {m : MI} {Q : MRes → Prop} {p0 : Int32} (h : ((p0 < 32 → Q (.inr 0, Gu (1 + (0, 0).1, 6 + (0, 0).2) x m)) ∧ (¬ (p0 < 32) → ((p0 ≤ 126 → Cl X d 131 [vp 23 0] (G x m) (fun r => ∃ (v3 : Int32) (m4 : MI), r = (.inl (some (vi v3)), G x m4) ∧ ((v3 = 0 → Cl X d 132 [vp 23 0, vi p0] (G x m4) (fun r => ∃ (v6 : Int32) (m7 : MI), r = (.inl (some (vi v6)), G x m7) ∧ Q (.inl (some (vi v6)), G x m7))) ∧ (¬ (v3 = 0) → Q (.inr 1, Gu (1 + (0, 0).1, 6 + (0, 0).2) x m4))))) ∧ (¬ (p0 ≤ 126) → Q (.inr 0, Gu (1 + (0, 0).1, 6 + (0, 0).2) x m)))))) : Cl X (d + 1) 49 [vp 0 0, vi p0] (G x m) Q := by
  show Wp X (d + 1) 49 (0, ([some (vp 0 0), some (vi p0)], ([], G x m))) Q
  refine wp_run 3 true ((bif decide (p0 < 32) then 12 else 6), ([some (vp 0 0), some (vi p0)], ([], G x m))) rfl rfl ?_
  refine wp_if (p0 < 32) (fun c1 => ?_) (fun c1 => ?_)
  · have h := h.1 c1
    exact wp_thr rfl rfl h
  · have h := h.2 c1
    refine wp_run 3 true ((bif decide (p0 ≤ 126) then 23 else 12), ([some (vp 0 0), some (vi p0)], ([], G x m))) rfl rfl ?_
    refine wp_if (p0 ≤ 126) (fun c2 => ?_) (fun c2 => ?_)
    · have h := h.1 c2
      refine wp_run 2 true (27, ([some (vp 0 0), some (vi p0)], ([vp 23 0], G x m))) rfl rfl ?_
      refine wp_call 131 [vp 23 0] (30, ([some (vp 0 0), some (vi p0)], ([], G x m))) rfl rfl (Cl.mono h (Nat.le_refl _) ?_)
      rintro r ⟨v3, m4, rfl, h⟩
      · show Wp X (d + 1) 49 (30, ([some (vp 0 0), some (vi p0)], ([vi v3], G x m4))) Q
        refine wp_run 1 true ((bif decide (v3 = 0) then 44 else 33), ([some (vp 0 0), some (vi p0)], ([], G x m4))) rfl rfl ?_
        refine wp_if (v3 = 0) (fun c5 => ?_) (fun c5 => ?_)
        · have h := h.1 c5
          refine wp_run 3 true (49, ([some (vp 0 0), some (vi p0)], ([vi p0, vp 23 0], G x m4))) rfl rfl ?_
          refine wp_call 132 [vp 23 0, vi p0] (52, ([some (vp 0 0), some (vi p0)], ([], G x m4))) rfl rfl (Cl.mono h (Nat.le_refl _) ?_)
          rintro r ⟨v6, m7, rfl, h⟩
          · show Wp X (d + 1) 49 (52, ([some (vp 0 0), some (vi p0)], ([vi v6], G x m7))) Q
            exact wp_ret rfl h
        · have h := h.2 c5
          exact wp_thr rfl rfl h
    · have h := h.2 c2
      exact wp_thr rfl rfl h
set_option maxRecDepth 100000 in
set_option maxHeartbeats 4000000 in
theorem vc_X10_runScript {X : MX} {d : Nat} {x : Int64 × UInt64} {m : MI} {Q : MRes → Prop} (h : Cl X d 134 [vp 23 0] (G x m) (fun r => ∃ (v1 : Int32) (m2 : MI), r = (.inl (some (vi v1)), G x m2) ∧ Cl X d 133 [vp 23 0] (G x m2) (fun r => ∃ (m4 : MI), r = (.inl none, G x m4) ∧ ((v1 < 0 → Cl X d 71 [vp 1 1, vp 1 0] (G x m4) (fun r => ∃ (m7 : MI), r = (.inl none, G x m7) ∧ (∀ m8 : MI, m8 = mup m7 0 0 11 1 → Wp X (d + 1) 50 (56, ([some (vp 0 0), some (vi v1), some (vi 45), some (vi 0)], ([], G x m8))) Q))) ∧ (¬ (v1 < 0) → (∀ m9 : MI, m9 = mup m4 0 0 12 v1 → Q (.inr 0, Gu (1 + (0, 0).1, 6 + (0, 0).2) x m9))))))) : Cl X (d + 1) 50 [vp 0 0] (G x m) Q := by
  show Wp X (d + 1) 50 (0, ([some (vp 0 0), none, none, none], ([], G x m))) Q
  refine wp_run 2 true (4, ([some (vp 0 0), none, none, none], ([vp 23 0], G x m))) rfl rfl ?_
  refine wp_call 134 [vp 23 0] (7, ([some (vp 0 0), none, none, none], ([], G x m))) rfl rfl (Cl.mono h (Nat.le_refl _) ?_)
  rintro r ⟨v1, m2, rfl, h⟩
  · show Wp X (d + 1) 50 (7, ([some (vp 0 0), none, none, none], ([vi v1], G x m2))) Q
    refine wp_run 3 true (12, ([some (vp 0 0), some (vi v1), none, none], ([vp 23 0], G x m2))) rfl rfl ?_
    refine wp_call 133 [vp 23 0] (15, ([some (vp 0 0), some (vi v1), none, none], ([], G x m2))) rfl rfl (Cl.mono h (Nat.le_refl _) ?_)
    rintro r ⟨m4, rfl, h⟩
    · show Wp X (d + 1) 50 (15, ([some (vp 0 0), some (vi v1), none, none], ([], G x m4))) Q
      refine wp_run 2 true ((bif decide (v1 < 0) then 35 else 19), ([some (vp 0 0), some (vi v1), none, none], ([], G x m4))) rfl rfl ?_
      refine wp_if (v1 < 0) (fun c5 => ?_) (fun c5 => ?_)
      · have h := h.1 c5
        refine wp_run 4 true (43, ([some (vp 0 0), some (vi v1), none, none], ([vp 1 0, vp 1 1], G x m4))) rfl rfl ?_
        refine wp_call 71 [vp 1 1, vp 1 0] (46, ([some (vp 0 0), some (vi v1), none, none], ([], G x m4))) rfl rfl (Cl.mono h (Nat.le_refl _) ?_)
        rintro r ⟨m7, rfl, h⟩
        · show Wp X (d + 1) 50 (46, ([some (vp 0 0), some (vi v1), none, none], ([], G x m7))) Q
          refine wp_run 5 true (54, ([some (vp 0 0), some (vi v1), some (vi 45), none], ([], G x (mup m7 0 0 11 1)))) rfl rfl ?_
          refine wpg (fun m8 => Wp X (d + 1) 50 (54, ([some (vp 0 0), some (vi v1), some (vi 45), none], ([], G x m8))) Q) (mup m7 0 0 11 1) (fun m8 hm8 => ?_)
          have h := h m8 hm8
          refine wp_run 2 true (56, ([some (vp 0 0), some (vi v1), some (vi 45), some (vi 0)], ([], G x m8))) rfl rfl ?_
          exact h
      · have h := h.2 c5
        refine wp_run 3 true (24, ([some (vp 0 0), some (vi v1), none, none], ([], G x (mup m4 0 0 12 v1)))) rfl rfl ?_
        refine wpg (fun m9 => Wp X (d + 1) 50 (24, ([some (vp 0 0), some (vi v1), none, none], ([], G x m9))) Q) (mup m4 0 0 12 v1) (fun m9 hm9 => ?_)
        have h := h m9 hm9
        exact wp_thr rfl rfl h
set_option maxRecDepth 100000 in
set_option maxHeartbeats 4000000 in
theorem vl_X10_runScript_56 {X : MX} {d : Nat} {x : Int64 × UInt64} {m : MI} {Q : MRes → Prop} {l1 : Int32} {l2 : Int32} {l3 : Int32} (h : (((m 23 0 5) ≤ l3 → (∀ m2 : MI, m2 = mup m 0 0 11 0 → ((l2 = 45 → Cl X d 96 [vp 8 0, vp 1 1] (G x m2) (fun r => ∃ (m5 : MI), r = (.inl none, G x m5) ∧ Q (.inl (some (vi (m5 23 0 5))), G x m5))) ∧ (¬ (l2 = 45) → Cl X d 71 [vp 1 0, vp 1 1] (G x m2) (fun r => ∃ (m7 : MI), r = (.inl none, G x m7) ∧ Q (.inr 1, Gu (1 + (0, 0).1, 6 + (0, 0).2) x m7)))))) ∧ (¬ ((m 23 0 5) ≤ l3) → ((¬ l2 = 45 → (∀ m9 : MI, m9 = mup m 0 0 11 0 → ((l2 = 45 → Cl X d 96 [vp 8 0, vp 1 1] (G x m9) (fun r => ∃ (m12 : MI), r = (.inl none, G x m12) ∧ Q (.inl (some (vi (m12 23 0 5))), G x m12))) ∧ (¬ (l2 = 45) → Cl X d 71 [vp 1 0, vp 1 1] (G x m9) (fun r => ∃ (m14 : MI), r = (.inl none, G x m14) ∧ Q (.inr 1, Gu (1 + (0, 0).1, 6 + (0, 0).2) x m14)))))) ∧ (¬ (¬ l2 = 45) → (inb l3 16 = true ∧ inb (m 25 0 l3.toNatClampNeg) 10 = true ∧ inb l3 16 = true ∧ Cl X d 65 [vp 0 0, vs 2 ((m 25 0 l3.toNatClampNeg).toNatClampNeg), vp 27 (l3.toNatClampNeg)] (G x m) (fun r => ∃ (v15 : Int32) (m16 : MI) (u17 : Nat × Nat), r = (.inl (some (vi v15)), Gu u17 x m16) ∧ ((v15 = 45 → (∀ t19 : Int32, t19 = l3 + 1 → Wp X (d + 1) 50 (56, ([some (vp 0 0), some (vi l1), some (vi v15), some (vi t19)], ([], Gu ((0, 0).1 + u17.1, (0, 0).2 + u17.2) x m16))) Q)) ∧ (¬ (v15 = 45) → (∀ m20 : MI, m20 = mup m16 0 0 13 l3 → (okT 3 v15 = true ∧ (∀ m21 : MI, m21 = mup m20 0 0 14 v15 → (∀ t22 : Int32, t22 = l3 + 1 → Wp X (d + 1) 50 (56, ([some (vp 0 0), some (vi l1), some (vi v15), some (vi t22)], ([], Gu ((0, 0).1 + u17.1, (0, 0).2 + u17.2) x m21))) Q))))))))))))) : Wp X (d + 1) 50 (56, ([some (vp 0 0), some (vi l1), some (vi l2), some (vi l3)], ([], G x m))) Q := by
  refine wp_run 5 true ((bif decide ((m 23 0 5) ≤ l3) then 122 else 67), ([some (vp 0 0), some (vi l1), some (vi l2), some (vi l3)], ([], G x m))) rfl rfl ?_
  refine wp_if ((m 23 0 5) ≤ l3) (fun c1 => ?_) (fun c1 => ?_)
  · have h := h.1 c1
    refine wp_run 3 true (127, ([some (vp 0 0), some (vi l1), some (vi l2), some (vi l3)], ([], G x (mup m 0 0 11 0)))) rfl rfl ?_
    refine wpg (fun m2 => Wp X (d + 1) 50 (127, ([some (vp 0 0), some (vi l1), some (vi l2), some (vi l3)], ([], G x m2))) Q) (mup m 0 0 11 0) (fun m2 hm2 => ?_)
    have h := h m2 hm2
    refine wp_run 3 true ((bif decide (l2 = 45) then 155 else 133), ([some (vp 0 0), some (vi l1), some (vi l2), some (vi l3)], ([], G x m2))) rfl rfl ?_
    refine wp_if (l2 = 45) (fun c3 => ?_) (fun c3 => ?_)
    · have h := h.1 c3
      refine wp_run 4 true (163, ([some (vp 0 0), some (vi l1), some (vi l2), some (vi l3)], ([vp 1 1, vp 8 0], G x m2))) rfl rfl ?_
      refine wp_call 96 [vp 8 0, vp 1 1] (166, ([some (vp 0 0), some (vi l1), some (vi l2), some (vi l3)], ([], G x m2))) rfl rfl (Cl.mono h (Nat.le_refl _) ?_)
      rintro r ⟨m5, rfl, h⟩
      · show Wp X (d + 1) 50 (166, ([some (vp 0 0), some (vi l1), some (vi l2), some (vi l3)], ([], G x m5))) Q
        refine wp_run 3 true (173, ([some (vp 0 0), some (vi l1), some (vi l2), some (vi l3)], ([vi (m5 23 0 5)], G x m5))) rfl rfl ?_
        exact wp_ret rfl h
    · have h := h.2 c3
      refine wp_run 4 true (141, ([some (vp 0 0), some (vi l1), some (vi l2), some (vi l3)], ([vp 1 1, vp 1 0], G x m2))) rfl rfl ?_
      refine wp_call 71 [vp 1 0, vp 1 1] (144, ([some (vp 0 0), some (vi l1), some (vi l2), some (vi l3)], ([], G x m2))) rfl rfl (Cl.mono h (Nat.le_refl _) ?_)
      rintro r ⟨m7, rfl, h⟩
      · show Wp X (d + 1) 50 (144, ([some (vp 0 0), some (vi l1), some (vi l2), some (vi l3)], ([], G x m7))) Q
        exact wp_thr rfl rfl h
  · have h := h.2 c1
    refine wp_run 3 true ((bif decide (¬ l2 = 45) then 122 else 73), ([some (vp 0 0), some (vi l1), some (vi l2), some (vi l3)], ([], G x m))) rfl rfl ?_
    refine wp_if (¬ l2 = 45) (fun c8 => ?_) (fun c8 => ?_)
    · have h := h.1 c8
      refine wp_run 3 true (127, ([some (vp 0 0), some (vi l1), some (vi l2), some (vi l3)], ([], G x (mup m 0 0 11 0)))) rfl rfl ?_
      refine wpg (fun m9 => Wp X (d + 1) 50 (127, ([some (vp 0 0), some (vi l1), some (vi l2), some (vi l3)], ([], G x m9))) Q) (mup m 0 0 11 0) (fun m9 hm9 => ?_)
      have h := h m9 hm9
      refine wp_run 3 true ((bif decide (l2 = 45) then 155 else 133), ([some (vp 0 0), some (vi l1), some (vi l2), some (vi l3)], ([], G x m9))) rfl rfl ?_
      refine wp_if (l2 = 45) (fun c10 => ?_) (fun c10 => ?_)
      · have h := h.1 c10
        refine wp_run 4 true (163, ([some (vp 0 0), some (vi l1), some (vi l2), some (vi l3)], ([vp 1 1, vp 8 0], G x m9))) rfl rfl ?_
        refine wp_call 96 [vp 8 0, vp 1 1] (166, ([some (vp 0 0), some (vi l1), some (vi l2), some (vi l3)], ([], G x m9))) rfl rfl (Cl.mono h (Nat.le_refl _) ?_)
        rintro r ⟨m12, rfl, h⟩
        · show Wp X (d + 1) 50 (166, ([some (vp 0 0), some (vi l1), some (vi l2), some (vi l3)], ([], G x m12))) Q
          refine wp_run 3 true (173, ([some (vp 0 0), some (vi l1), some (vi l2), some (vi l3)], ([vi (m12 23 0 5)], G x m12))) rfl rfl ?_
          exact wp_ret rfl h
      · have h := h.2 c10
        refine wp_run 4 true (141, ([some (vp 0 0), some (vi l1), some (vi l2), some (vi l3)], ([vp 1 1, vp 1 0], G x m9))) rfl rfl ?_
        refine wp_call 71 [vp 1 0, vp 1 1] (144, ([some (vp 0 0), some (vi l1), some (vi l2), some (vi l3)], ([], G x m9))) rfl rfl (Cl.mono h (Nat.le_refl _) ?_)
        rintro r ⟨m14, rfl, h⟩
        · show Wp X (d + 1) 50 (144, ([some (vp 0 0), some (vi l1), some (vi l2), some (vi l3)], ([], G x m14))) Q
          exact wp_thr rfl rfl h
    · have h := h.2 c8
      obtain ⟨hg3_0, hg3_1, hg3_2, h⟩ := h
      refine wp_run 13 (inb l3 16 && (inb (m 25 0 l3.toNatClampNeg) 10 && (inb l3 16 && true))) (96, ([some (vp 0 0), some (vi l1), some (vi l2), some (vi l3)], ([vp 27 (l3.toNatClampNeg), vs 2 ((m 25 0 l3.toNatClampNeg).toNatClampNeg), vp 0 0], G x m))) rfl (and_t hg3_2 (and_t hg3_1 (and_t hg3_0 rfl))) ?_
      refine wp_call 65 [vp 0 0, vs 2 ((m 25 0 l3.toNatClampNeg).toNatClampNeg), vp 27 (l3.toNatClampNeg)] (99, ([some (vp 0 0), some (vi l1), some (vi l2), some (vi l3)], ([], G x m))) rfl rfl (Cl.mono h (Nat.le_refl _) ?_)
      rintro r ⟨v15, m16, u17, rfl, h⟩
      · show Wp X (d + 1) 50 (99, ([some (vp 0 0), some (vi l1), some (vi l2), some (vi l3)], ([vi v15], Gu ((0, 0).1 + u17.1, (0, 0).2 + u17.2) x m16))) Q
        refine wp_run 4 true ((bif decide (v15 = 45) then 116 else 106), ([some (vp 0 0), some (vi l1), some (vi v15), some (vi l3)], ([], Gu ((0, 0).1 + u17.1, (0, 0).2 + u17.2) x m16))) rfl rfl ?_
        refine wp_if (v15 = 45) (fun c18 => ?_) (fun c18 => ?_)
        · have h := h.1 c18
          refine wp_run 1 true (119, ([some (vp 0 0), some (vi l1), some (vi v15), some (vi (l3 + 1))], ([], Gu ((0, 0).1 + u17.1, (0, 0).2 + u17.2) x m16))) rfl rfl ?_
          refine wpg (fun t19 => Wp X (d + 1) 50 (119, ([some (vp 0 0), some (vi l1), some (vi v15), some (vi t19)], ([], Gu ((0, 0).1 + u17.1, (0, 0).2 + u17.2) x m16))) Q) (l3 + 1) (fun t19 ht19 => ?_)
          have h := h t19 ht19
          refine wp_run 1 true (56, ([some (vp 0 0), some (vi l1), some (vi v15), some (vi t19)], ([], Gu ((0, 0).1 + u17.1, (0, 0).2 + u17.2) x m16))) rfl rfl ?_
          exact h
        · have h := h.2 c18
          refine wp_run 3 true (111, ([some (vp 0 0), some (vi l1), some (vi v15), some (vi l3)], ([], Gu ((0, 0).1 + u17.1, (0, 0).2 + u17.2) x (mup m16 0 0 13 l3)))) rfl rfl ?_
          refine wpg (fun m20 => Wp X (d + 1) 50 (111, ([some (vp 0 0), some (vi l1), some (vi v15), some (vi l3)], ([], Gu ((0, 0).1 + u17.1, (0, 0).2 + u17.2) x m20))) Q) (mup m16 0 0 13 l3) (fun m20 hm20 => ?_)
          have h := h m20 hm20
          obtain ⟨hg5_0, h⟩ := h
          refine wp_run 3 (okT 3 v15 && true) (116, ([some (vp 0 0), some (vi l1), some (vi v15), some (vi l3)], ([], Gu ((0, 0).1 + u17.1, (0, 0).2 + u17.2) x (mup m20 0 0 14 v15)))) rfl (and_t hg5_0 rfl) ?_
          refine wpg (fun m21 => Wp X (d + 1) 50 (116, ([some (vp 0 0), some (vi l1), some (vi v15), some (vi l3)], ([], Gu ((0, 0).1 + u17.1, (0, 0).2 + u17.2) x m21))) Q) (mup m20 0 0 14 v15) (fun m21 hm21 => ?_)
          have h := h m21 hm21
          refine wp_run 1 true (119, ([some (vp 0 0), some (vi l1), some (vi v15), some (vi (l3 + 1))], ([], Gu ((0, 0).1 + u17.1, (0, 0).2 + u17.2) x m21))) rfl rfl ?_
          refine wpg (fun t22 => Wp X (d + 1) 50 (119, ([some (vp 0 0), some (vi l1), some (vi v15), some (vi t22)], ([], Gu ((0, 0).1 + u17.1, (0, 0).2 + u17.2) x m21))) Q) (l3 + 1) (fun t22 ht22 => ?_)
          have h := h t22 ht22
          refine wp_run 1 true (56, ([some (vp 0 0), some (vi l1), some (vi v15), some (vi t22)], ([], Gu ((0, 0).1 + u17.1, (0, 0).2 + u17.2) x m21))) rfl rfl ?_
          exact h
set_option maxRecDepth 100000 in
set_option maxHeartbeats 4000000 in
theorem vc_X10_errorPosition {X : MX} {d : Nat} {x : Int64 × UInt64} {m : MI} {Q : MRes → Prop} (h : ((0 ≤ (m 0 0 12) → Q (.inl (some (vi (m 0 0 12))), G x m)) ∧ (¬ (0 ≤ (m 0 0 12)) → Q (.inr 2, Gu (1 + (0, 0).1, 6 + (0, 0).2) x m)))) : Cl X d 51 [vp 0 0] (G x m) Q := by
  show Wp X d 51 (0, ([some (vp 0 0)], ([], G x m))) Q
  refine wp_run 3 true ((bif decide (0 ≤ (m 0 0 12)) then 18 else 7), ([some (vp 0 0)], ([], G x m))) rfl rfl ?_
  refine wp_if (0 ≤ (m 0 0 12)) (fun c1 => ?_) (fun c1 => ?_)
  · have h := h.1 c1
    refine wp_run 2 true (22, ([some (vp 0 0)], ([vi (m 0 0 12)], G x m))) rfl rfl ?_
    exact wp_ret rfl h
  · have h := h.2 c1
    exact wp_thr rfl rfl h
set_option maxRecDepth 100000 in
set_option maxHeartbeats 4000000 in
theorem vc_X10_failedCommand {X : MX} {d : Nat} {x : Int64 × UInt64} {m : MI} {Q : MRes → Prop} (h : ((0 ≤ (m 0 0 13) → Q (.inl (some (vi (m 0 0 13))), G x m)) ∧ (¬ (0 ≤ (m 0 0 13)) → Q (.inr 2, Gu (1 + (0, 0).1, 6 + (0, 0).2) x m)))) : Cl X d 52 [vp 0 0] (G x m) Q := by
  show Wp X d 52 (0, ([some (vp 0 0)], ([], G x m))) Q
  refine wp_run 3 true ((bif decide (0 ≤ (m 0 0 13)) then 18 else 7), ([some (vp 0 0)], ([], G x m))) rfl rfl ?_
  refine wp_if (0 ≤ (m 0 0 13)) (fun c1 => ?_) (fun c1 => ?_)
  · have h := h.1 c1
    refine wp_run 2 true (22, ([some (vp 0 0)], ([vi (m 0 0 13)], G x m))) rfl rfl ?_
    exact wp_ret rfl h
  · have h := h.2 c1
    exact wp_thr rfl rfl h
set_option maxRecDepth 100000 in
set_option maxHeartbeats 4000000 in
theorem vc_X10_failureKind {X : MX} {d : Nat} {x : Int64 × UInt64} {m : MI} {Q : MRes → Prop} (h : ((0 ≤ (m 0 0 13) → (okT 3 (m 0 0 14) = true ∧ Q (.inl (some (vi (m 0 0 14))), G x m))) ∧ (¬ (0 ≤ (m 0 0 13)) → Q (.inr 2, Gu (1 + (0, 0).1, 6 + (0, 0).2) x m)))) : Cl X d 53 [vp 0 0] (G x m) Q := by
  show Wp X d 53 (0, ([some (vp 0 0)], ([], G x m))) Q
  refine wp_run 3 true ((bif decide (0 ≤ (m 0 0 13)) then 18 else 7), ([some (vp 0 0)], ([], G x m))) rfl rfl ?_
  refine wp_if (0 ≤ (m 0 0 13)) (fun c1 => ?_) (fun c1 => ?_)
  · have h := h.1 c1
    refine wp_run 2 true (22, ([some (vp 0 0)], ([vi (m 0 0 14)], G x m))) rfl rfl ?_
    exact wp_retT (okT 3 (m 0 0 14)) rfl h.1 h.2
  · have h := h.2 c1
    exact wp_thr rfl rfl h
set_option maxRecDepth 100000 in
set_option maxHeartbeats 4000000 in
theorem vc_X10_undo {X : MX} {d : Nat} {x : Int64 × UInt64} {m : MI} {Q : MRes → Prop} (h : ((¬ (m 8 0 2) = 0 → Cl X d 97 [vp 8 0, vp 1 0] (G x m) (fun r => ∃ (m3 : MI), r = (.inl none, G x m3) ∧ Q (.inl (some (vi (m3 8 0 2))), G x m3))) ∧ (¬ (¬ (m 8 0 2) = 0) → Q (.inr 2, Gu (1 + (0, 0).1, 6 + (0, 0).2) x m)))) : Cl X (d + 1) 54 [vp 0 0] (G x m) Q := by
  show Wp X (d + 1) 54 (0, ([some (vp 0 0)], ([], G x m))) Q
  refine wp_run 4 true ((bif decide (¬ (m 8 0 2) = 0) then 21 else 10), ([some (vp 0 0)], ([], G x m))) rfl rfl ?_
  refine wp_if (¬ (m 8 0 2) = 0) (fun c1 => ?_) (fun c1 => ?_)
  · have h := h.1 c1
    refine wp_run 4 true (29, ([some (vp 0 0)], ([vp 1 0, vp 8 0], G x m))) rfl rfl ?_
    refine wp_call 97 [vp 8 0, vp 1 0] (32, ([some (vp 0 0)], ([], G x m))) rfl rfl (Cl.mono h (Nat.le_refl _) ?_)
    rintro r ⟨m3, rfl, h⟩
    · show Wp X (d + 1) 54 (32, ([some (vp 0 0)], ([], G x m3))) Q
      refine wp_run 3 true (39, ([some (vp 0 0)], ([vi (m3 8 0 2)], G x m3))) rfl rfl ?_
      exact wp_ret rfl h
  · have h := h.2 c1
    exact wp_thr rfl rfl h
set_option maxRecDepth 100000 in
set_option maxHeartbeats 4000000 in
theorem vc_X10_save {X : MX} {d : Nat} {x : Int64 × UInt64} {m : MI} {Q : MRes → Prop} (h : Cl X d 71 [vp 1 2, vp 1 0] (G x m) (fun r => ∃ (m2 : MI), r = (.inl none, G x m2) ∧ (∀ m3 : MI, m3 = mup m2 0 0 10 1 → Q (.inl (some (vi (m3 2 0 1))), G x m3)))) : Cl X (d + 1) 55 [vp 0 0] (G x m) Q := by
  show Wp X (d + 1) 55 (0, ([some (vp 0 0)], ([], G x m))) Q
  refine wp_run 4 true (8, ([some (vp 0 0)], ([vp 1 0, vp 1 2], G x m))) rfl rfl ?_
  refine wp_call 71 [vp 1 2, vp 1 0] (11, ([some (vp 0 0)], ([], G x m))) rfl rfl (Cl.mono h (Nat.le_refl _) ?_)
  rintro r ⟨m2, rfl, h⟩
  · show Wp X (d + 1) 55 (11, ([some (vp 0 0)], ([], G x m2))) Q
    refine wp_run 3 true (16, ([some (vp 0 0)], ([], G x (mup m2 0 0 10 1)))) rfl rfl ?_
    refine wpg (fun m3 => Wp X (d + 1) 55 (16, ([some (vp 0 0)], ([], G x m3))) Q) (mup m2 0 0 10 1) (fun m3 hm3 => ?_)
    have h := h m3 hm3
    refine wp_run 4 true (26, ([some (vp 0 0)], ([vi (m3 2 0 1)], G x m3))) rfl rfl ?_
    exact wp_ret rfl h
set_option maxRecDepth 100000 in
set_option maxHeartbeats 4000000 in
theorem vc_X10_restore {X : MX} {d : Nat} {x : Int64 × UInt64} {m : MI} {Q : MRes → Prop} (h : ((¬ (m 0 0 10) = 0 → Cl X d 71 [vp 1 0, vp 1 2] (G x m) (fun r => ∃ (m3 : MI), r = (.inl none, G x m3) ∧ Cl X d 98 [vp 8 0] (G x m3) (fun r => ∃ (m5 : MI), r = (.inl none, G x m5) ∧ Q (.inl (some (vi (m5 2 0 1))), G x m5)))) ∧ (¬ (¬ (m 0 0 10) = 0) → Q (.inr 1, Gu (1 + (0, 0).1, 6 + (0, 0).2) x m)))) : Cl X (d + 1) 56 [vp 0 0] (G x m) Q := by
  show Wp X (d + 1) 56 (0, ([some (vp 0 0)], ([], G x m))) Q
  refine wp_run 3 true ((bif decide (¬ (m 0 0 10) = 0) then 18 else 7), ([some (vp 0 0)], ([], G x m))) rfl rfl ?_
  refine wp_if (¬ (m 0 0 10) = 0) (fun c1 => ?_) (fun c1 => ?_)
  · have h := h.1 c1
    refine wp_run 4 true (26, ([some (vp 0 0)], ([vp 1 2, vp 1 0], G x m))) rfl rfl ?_
    refine wp_call 71 [vp 1 0, vp 1 2] (29, ([some (vp 0 0)], ([], G x m))) rfl rfl (Cl.mono h (Nat.le_refl _) ?_)
    rintro r ⟨m3, rfl, h⟩
    · show Wp X (d + 1) 56 (29, ([some (vp 0 0)], ([], G x m3))) Q
      refine wp_run 2 true (33, ([some (vp 0 0)], ([vp 8 0], G x m3))) rfl rfl ?_
      refine wp_call 98 [vp 8 0] (36, ([some (vp 0 0)], ([], G x m3))) rfl rfl (Cl.mono h (Nat.le_refl _) ?_)
      rintro r ⟨m5, rfl, h⟩
      · show Wp X (d + 1) 56 (36, ([some (vp 0 0)], ([], G x m5))) Q
        refine wp_run 4 true (46, ([some (vp 0 0)], ([vi (m5 2 0 1)], G x m5))) rfl rfl ?_
        exact wp_ret rfl h
  · have h := h.2 c1
    exact wp_thr rfl rfl h
set_option maxRecDepth 100000 in
set_option maxHeartbeats 4000000 in
theorem vc_X10_isBetween {X : MX} {d : Nat} {x : Int64 × UInt64} {m : MI} {Q : MRes → Prop} {p0 : Int32} {p1 : Int32} {p2 : Int32} (h : ((p0 < p1 → Q (.inl (some (vi 0)), G x m)) ∧ (¬ (p0 < p1) → ((p2 < p0 → Q (.inl (some (vi 0)), G x m)) ∧ (¬ (p2 < p0) → Q (.inl (some (vi 1)), G x m)))))) : Cl X d 57 [vi p0, vi p1, vi p2] (G x m) Q := by
  show Wp X d 57 (0, ([some (vi p0), some (vi p1), some (vi p2)], ([], G x m))) Q
  refine wp_run 3 true ((bif decide (p0 < p1) then 14 else 5), ([some (vi p0), some (vi p1), some (vi p2)], ([], G x m))) rfl rfl ?_
  refine wp_if (p0 < p1) (fun c1 => ?_) (fun c1 => ?_)
  · have h := h.1 c1
    refine wp_run 1 true (15, ([some (vi p0), some (vi p1), some (vi p2)], ([vi 0], G x m))) rfl rfl ?_
    exact wp_ret rfl h
  · have h := h.2 c1
    refine wp_run 3 true ((bif decide (p2 < p0) then 14 else 10), ([some (vi p0), some (vi p1), some (vi p2)], ([], G x m))) rfl rfl ?_
    refine wp_if (p2 < p0) (fun c2 => ?_) (fun c2 => ?_)
    · have h := h.1 c2
      refine wp_run 1 true (15, ([some (vi p0), some (vi p1), some (vi p2)], ([vi 0], G x m))) rfl rfl ?_
      exact wp_ret rfl h
    · have h := h.2 c2
      refine wp_run 2 true (15, ([some (vi p0), some (vi p1), some (vi p2)], ([vi 1], G x m))) rfl rfl ?_
      exact wp_ret rfl h
set_option maxRecDepth 100000 in
set_option maxHeartbeats 4000000 in
theorem vc_X10_isColour {X : MX} {d : Nat} {x : Int64 × UInt64} {m : MI} {Q : MRes → Prop} {p0 : Int32} {p1 : Int32} {p2 : Int32} (h : Cl X d 57 [vi p0, vi 0, vi 99] (G x m) (fun r => ∃ (v1 : Int32) (m2 : MI), r = (.inl (some (vi v1)), G x m2) ∧ ((v1 = 0 → Q (.inl (some (vi 0)), G x m2)) ∧ (¬ (v1 = 0) → Cl X d 57 [vi p1, vi 0, vi 99] (G x m2) (fun r => ∃ (v4 : Int32) (m5 : MI), r = (.inl (some (vi v4)), G x m5) ∧ ((v4 = 0 → Q (.inl (some (vi 0)), G x m5)) ∧ (¬ (v4 = 0) → Cl X d 57 [vi p2, vi 0, vi 99] (G x m5) (fun r => ∃ (v7 : Int32) (m8 : MI), r = (.inl (some (vi v7)), G x m8) ∧ ((v7 = 0 → Q (.inl (some (vi 0)), G x m8)) ∧ (¬ (v7 = 0) → Q (.inl (some (vi 1)), G x m8))))))))))) : Cl X (d + 1) 58 [vi p0, vi p1, vi p2] (G x m) Q := by
  show Wp X (d + 1) 58 (0, ([some (vi p0), some (vi p1), some (vi p2)], ([], G x m))) Q
  refine wp_run 3 true (4, ([some (vi p0), some (vi p1), some (vi p2)], ([vi 99, vi 0, vi p0], G x m))) rfl rfl ?_
  refine wp_call 57 [vi p0, vi 0, vi 99] (7, ([some (vi p0), some (vi p1), some (vi p2)], ([], G x m))) rfl rfl (Cl.mono h (Nat.le_refl _) ?_)
  rintro r ⟨v1, m2, rfl, h⟩
  · show Wp X (d + 1) 58 (7, ([some (vi p0), some (vi p1), some (vi p2)], ([vi v1], G x m2))) Q
    refine wp_run 1 true ((bif decide (v1 = 0) then 34 else 10), ([some (vi p0), some (vi p1), some (vi p2)], ([], G x m2))) rfl rfl ?_
    refine wp_if (v1 = 0) (fun c3 => ?_) (fun c3 => ?_)
    · have h := h.1 c3
      refine wp_run 1 true (35, ([some (vi p0), some (vi p1), some (vi p2)], ([vi 0], G x m2))) rfl rfl ?_
      exact wp_ret rfl h
    · have h := h.2 c3
      refine wp_run 3 true (14, ([some (vi p0), some (vi p1), some (vi p2)], ([vi 99, vi 0, vi p1], G x m2))) rfl rfl ?_
      refine wp_call 57 [vi p1, vi 0, vi 99] (17, ([some (vi p0), some (vi p1), some (vi p2)], ([], G x m2))) rfl rfl (Cl.mono h (Nat.le_refl _) ?_)
      rintro r ⟨v4, m5, rfl, h⟩
      · show Wp X (d + 1) 58 (17, ([some (vi p0), some (vi p1), some (vi p2)], ([vi v4], G x m5))) Q
        refine wp_run 1 true ((bif decide (v4 = 0) then 34 else 20), ([some (vi p0), some (vi p1), some (vi p2)], ([], G x m5))) rfl rfl ?_
        refine wp_if (v4 = 0) (fun c6 => ?_) (fun c6 => ?_)
        · have h := h.1 c6
          refine wp_run 1 true (35, ([some (vi p0), some (vi p1), some (vi p2)], ([vi 0], G x m5))) rfl rfl ?_
          exact wp_ret rfl h
        · have h := h.2 c6
          refine wp_run 3 true (24, ([some (vi p0), some (vi p1), some (vi p2)], ([vi 99, vi 0, vi p2], G x m5))) rfl rfl ?_
          refine wp_call 57 [vi p2, vi 0, vi 99] (27, ([some (vi p0), some (vi p1), some (vi p2)], ([], G x m5))) rfl rfl (Cl.mono h (Nat.le_refl _) ?_)
          rintro r ⟨v7, m8, rfl, h⟩
          · show Wp X (d + 1) 58 (27, ([some (vi p0), some (vi p1), some (vi p2)], ([vi v7], G x m8))) Q
            refine wp_run 1 true ((bif decide (v7 = 0) then 34 else 30), ([some (vi p0), some (vi p1), some (vi p2)], ([], G x m8))) rfl rfl ?_
            refine wp_if (v7 = 0) (fun c9 => ?_) (fun c9 => ?_)
            · have h := h.1 c9
              refine wp_run 1 true (35, ([some (vi p0), some (vi p1), some (vi p2)], ([vi 0], G x m8))) rfl rfl ?_
              exact wp_ret rfl h
            · have h := h.2 c9
              refine wp_run 2 true (35, ([some (vi p0), some (vi p1), some (vi p2)], ([vi 1], G x m8))) rfl rfl ?_
              exact wp_ret rfl h
set_option maxRecDepth 100000 in
set_option maxHeartbeats 4000000 in
theorem vc_X10_isMetric {X : MX} {d : Nat} {x : Int64 × UInt64} {m : MI} {Q : MRes → Prop} {p0 : Int32} (h : ((p0 = 109 → Q (.inl (some (vi 1)), G x m)) ∧ (¬ (p0 = 109) → ((p0 = 115 → Q (.inl (some (vi 1)), G x m)) ∧ (¬ (p0 = 115) → ((¬ p0 = 103 → Q (.inl (some (vi 0)), G x m)) ∧ (¬ (¬ p0 = 103) → Q (.inl (some (vi 1)), G x m)))))))) : Cl X d 59 [vi p0] (G x m) Q := by
  show Wp X d 59 (0, ([some (vi p0)], ([], G x m))) Q
  refine wp_run 3 true ((bif decide (p0 = 109) then 18 else 6), ([some (vi p0)], ([], G x m))) rfl rfl ?_
  refine wp_if (p0 = 109) (fun c1 => ?_) (fun c1 => ?_)
  · have h := h.1 c1
    refine wp_run 2 true (23, ([some (vi p0)], ([vi 1], G x m))) rfl rfl ?_
    exact wp_ret rfl h
  · have h := h.2 c1
    refine wp_run 3 true ((bif decide (p0 = 115) then 18 else 12), ([some (vi p0)], ([], G x m))) rfl rfl ?_
    refine wp_if (p0 = 115) (fun c2 => ?_) (fun c2 => ?_)
    · have h := h.1 c2
      refine wp_run 2 true (23, ([some (vi p0)], ([vi 1], G x m))) rfl rfl ?_
      exact wp_ret rfl h
    · have h := h.2 c2
      refine wp_run 3 true ((bif decide (¬ p0 = 103) then 22 else 18), ([some (vi p0)], ([], G x m))) rfl rfl ?_
      refine wp_if (¬ p0 = 103) (fun c3 => ?_) (fun c3 => ?_)
      · have h := h.1 c3
        refine wp_run 1 true (23, ([some (vi p0)], ([vi 0], G x m))) rfl rfl ?_
        exact wp_ret rfl h
      · have h := h.2 c3
        refine wp_run 2 true (23, ([some (vi p0)], ([vi 1], G x m))) rfl rfl ?_
        exact wp_ret rfl h
set_option maxRecDepth 100000 in
set_option maxHeartbeats 4000000 in
theorem vc_X10_measure {X : MX} {d : Nat} {x : Int64 × UInt64} {m : MI} {Q : MRes → Prop} {p0 : Int32} {p1 : Int32} {p2 : Int32} {p3 : Int32} (h : (∀ t1 : Int32, t1 = (if p1 < 0 then -p1 else p1) → (∀ t2 : Int32, t2 = (if p2 < 0 then -p2 else p2) → (∀ t3 : Int32, t3 = (if p3 < 0 then -p3 else p3) → ((¬ p0 = 115 → ((¬ p0 = 103 → Q (.inl (some (vi ((t1 + t2) + t3))), G x m)) ∧ (¬ (¬ p0 = 103) → Q (.inl (some (vi (if t1 < (if t2 < t3 then t3 else t2) then (if t2 < t3 then t3 else t2) else t1))), G x m)))) ∧ (¬ (¬ p0 = 115) → Q (.inl (some (vi (((t1 * t1) + (t2 * t2)) + (t3 * t3)))), G x m))))))) : Cl X d 60 [vi p0, vi p1, vi p2, vi p3] (G x m) Q := by
  show Wp X d 60 (0, ([some (vi p0), some (vi p1), some (vi p2), some (vi p3), none, none, none], ([], G x m))) Q
  refine wp_run 3 true (6, ([some (vi p0), some (vi p1), some (vi p2), some (vi p3), some (vi (if p1 < 0 then -p1 else p1)), none, none], ([], G x m))) rfl rfl ?_
  refine wpg (fun t1 => Wp X d 60 (6, ([some (vi p0), some (vi p1), some (vi p2), some (vi p3), some (vi t1), none, none], ([], G x m))) Q) (if p1 < 0 then -p1 else p1) (fun t1 ht1 => ?_)
  have h := h t1 ht1
  refine wp_run 3 true (12, ([some (vi p0), some (vi p1), some (vi p2), some (vi p3), some (vi t1), some (vi (if p2 < 0 then -p2 else p2)), none], ([], G x m))) rfl rfl ?_
  refine wpg (fun t2 => Wp X d 60 (12, ([some (vi p0), some (vi p1), some (vi p2), some (vi p3), some (vi t1), some (vi t2), none], ([], G x m))) Q) (if p2 < 0 then -p2 else p2) (fun t2 ht2 => ?_)
  have h := h t2 ht2
  refine wp_run 3 true (18, ([some (vi p0), some (vi p1), some (vi p2), some (vi p3), some (vi t1), some (vi t2), some (vi (if p3 < 0 then -p3 else p3))], ([], G x m))) rfl rfl ?_
  refine wpg (fun t3 => Wp X d 60 (18, ([some (vi p0), some (vi p1), some (vi p2), some (vi p3), some (vi t1), some (vi t2), some (vi t3)], ([], G x m))) Q) (if p3 < 0 then -p3 else p3) (fun t3 ht3 => ?_)
  have h := h t3 ht3
  refine wp_run 3 true ((bif decide (¬ p0 = 115) then 42 else 24), ([some (vi p0), some (vi p1), some (vi p2), some (vi p3), some (vi t1), some (vi t2), some (vi t3)], ([], G x m))) rfl rfl ?_
  refine wp_if (¬ p0 = 115) (fun c4 => ?_) (fun c4 => ?_)
  · have h := h.1 c4
    refine wp_run 3 true ((bif decide (¬ p0 = 103) then 61 else 48), ([some (vi p0), some (vi p1), some (vi p2), some (vi p3), some (vi t1), some (vi t2), some (vi t3)], ([], G x m))) rfl rfl ?_
    refine wp_if (¬ p0 = 103) (fun c5 => ?_) (fun c5 => ?_)
    · have h := h.1 c5
      refine wp_run 5 true (69, ([some (vi p0), some (vi p1), some (vi p2), some (vi p3), some (vi t1), some (vi t2), some (vi t3)], ([vi ((t1 + t2) + t3)], G x m))) rfl rfl ?_
      exact wp_ret rfl h
    · have h := h.2 c5
      refine wp_run 5 true (60, ([some (vi p0), some (vi p1), some (vi p2), some (vi p3), some (vi t1), some (vi t2), some (vi t3)], ([vi (if t1 < (if t2 < t3 then t3 else t2) then (if t2 < t3 then t3 else t2) else t1)], G x m))) rfl rfl ?_
      exact wp_ret rfl h
  · have h := h.2 c4
    refine wp_run 11 true (41, ([some (vi p0), some (vi p1), some (vi p2), some (vi p3), some (vi t1), some (vi t2), some (vi t3)], ([vi (((t1 * t1) + (t2 * t2)) + (t3 * t3))], G x m))) rfl rfl ?_
    exact wp_ret rfl h
set_option maxRecDepth 100000 in
set_option maxHeartbeats 4000000 in
theorem vc_X10_foundAt {X : MX} {d : Nat} {x : Int64 × UInt64} {m : MI} {Q : MRes → Prop} {p0 : Int32} (h : Cl X d 91 [vp 2 0, vi p0] (G x m) (fun r => ∃ (v1 : Int32) (m2 : MI), r = (.inl (some (vi v1)), G x m2) ∧ ((0 ≤ v1 → Q (.inl (some (vi v1)), G x m2)) ∧ (¬ (0 ≤ v1) → Q (.inr 2, Gu (1 + (0, 0).1, 6 + (0, 0).2) x m2))))) : Cl X (d + 1) 61 [vp 0 0, vi p0] (G x m) Q := by
  show Wp X (d + 1) 61 (0, ([some (vp 0 0), some (vi p0), none], ([], G x m))) Q
  refine wp_run 4 true (8, ([some (vp 0 0), some (vi p0), none], ([vi p0, vp 2 0], G x m))) rfl rfl ?_
  refine wp_call 91 [vp 2 0, vi p0] (11, ([some (vp 0 0), some (vi p0), none], ([], G x m))) rfl rfl (Cl.mono h (Nat.le_refl _) ?_)
  rintro r ⟨v1, m2, rfl, h⟩
  · show Wp X (d + 1) 61 (11, ([some (vp 0 0), some (vi p0), none], ([vi v1], G x m2))) Q
    refine wp_run 3 true ((bif decide (0 ≤ v1) then 27 else 16), ([some (vp 0 0), some (vi p0), some (vi v1)], ([], G x m2))) rfl rfl ?_
    refine wp_if (0 ≤ v1) (fun c3 => ?_) (fun c3 => ?_)
    · have h := h.1 c3
      refine wp_run 1 true (28, ([some (vp 0 0), some (vi p0), some (vi v1)], ([vi v1], G x m2))) rfl rfl ?_
      exact wp_ret rfl h
    · have h := h.2 c3
      exact wp_thr rfl rfl h
set_option maxRecDepth 100000 in
set_option maxHeartbeats 4000000 in
theorem vc_X10_openAt {X : MX} {d : Nat} {x : Int64 × UInt64} {m : MI} {Q : MRes → Prop} {p0 : Int32} (h : Cl X d 91 [vp 3 0, vi p0] (G x m) (fun r => ∃ (v1 : Int32) (m2 : MI), r = (.inl (some (vi v1)), G x m2) ∧ ((0 ≤ v1 → Q (.inl (some (vi v1)), G x m2)) ∧ (¬ (0 ≤ v1) → Q (.inr 2, Gu (1 + (0, 0).1, 6 + (0, 0).2) x m2))))) : Cl X (d + 1) 62 [vp 0 0, vi p0] (G x m) Q := by
  show Wp X (d + 1) 62 (0, ([some (vp 0 0), some (vi p0), none], ([], G x m))) Q
  refine wp_run 4 true (8, ([some (vp 0 0), some (vi p0), none], ([vi p0, vp 3 0], G x m))) rfl rfl ?_
  refine wp_call 91 [vp 3 0, vi p0] (11, ([some (vp 0 0), some (vi p0), none], ([], G x m))) rfl rfl (Cl.mono h (Nat.le_refl _) ?_)
  rintro r ⟨v1, m2, rfl, h⟩
  · show Wp X (d + 1) 62 (11, ([some (vp 0 0), some (vi p0), none], ([vi v1], G x m2))) Q
    refine wp_run 3 true ((bif decide (0 ≤ v1) then 27 else 16), ([some (vp 0 0), some (vi p0), some (vi v1)], ([], G x m2))) rfl rfl ?_
    refine wp_if (0 ≤ v1) (fun c3 => ?_) (fun c3 => ?_)
    · have h := h.1 c3
      refine wp_run 1 true (28, ([some (vp 0 0), some (vi p0), some (vi v1)], ([vi v1], G x m2))) rfl rfl ?_
      exact wp_ret rfl h
    · have h := h.2 c3
      exact wp_thr rfl rfl h
set_option maxRecDepth 100000 in
set_option maxHeartbeats 4000000 in
theorem vc_X10_want {X : MX} {d : Nat} {x : Int64 × UInt64} {m : MI} {Q : MRes → Prop} {p0 : Int32} {p1 : Int32} {p2 : Int32} (h : (∀ m1 : MI, m1 = mup m 30 0 1 p0 → (∀ m2 : MI, m2 = mup m1 30 0 2 p1 → (∀ m3 : MI, m3 = mup m2 30 0 3 p2 → Q (.inl none, G x m3))))) : Cl X d 63 [vp 0 0, vi p0, vi p1, vi p2] (G x m) Q := by
  show Wp X d 63 (0, ([some (vp 0 0), some (vi p0), some (vi p1), some (vi p2)], ([], G x m))) Q
  refine wp_run 5 true (7, ([some (vp 0 0), some (vi p0), some (vi p1), some (vi p2)], ([], G x (mup m 30 0 1 p0)))) rfl rfl ?_
  refine wpg (fun m1 => Wp X d 63 (7, ([some (vp 0 0), some (vi p0), some (vi p1), some (vi p2)], ([], G x m1))) Q) (mup m 30 0 1 p0) (fun m1 hm1 => ?_)
  have h := h m1 hm1
  refine wp_run 5 true (14, ([some (vp 0 0), some (vi p0), some (vi p1), some (vi p2)], ([], G x (mup m1 30 0 2 p1)))) rfl rfl ?_
  refine wpg (fun m2 => Wp X d 63 (14, ([some (vp 0 0), some (vi p0), some (vi p1), some (vi p2)], ([], G x m2))) Q) (mup m1 30 0 2 p1) (fun m2 hm2 => ?_)
  have h := h m2 hm2
  refine wp_run 5 true (21, ([some (vp 0 0), some (vi p0), some (vi p1), some (vi p2)], ([], G x (mup m2 30 0 3 p2)))) rfl rfl ?_
  refine wpg (fun m3 => Wp X d 63 (21, ([some (vp 0 0), some (vi p0), some (vi p1), some (vi p2)], ([], G x m3))) Q) (mup m2 30 0 3 p2) (fun m3 hm3 => ?_)
  have h := h m3 hm3
  exact wp_ret rfl h
set_option maxRecDepth 100000 in
set_option maxHeartbeats 4000000 in
theorem vc_X10_remember {X : MX} {d : Nat} {x : Int64 × UInt64} {m : MI} {Q : MRes → Prop} (h : ((¬ (m 0 0 11) = 0 → Q (.inl none, G x m)) ∧ (¬ (¬ (m 0 0 11) = 0) → Cl X d 96 [vp 8 0, vp 1 0] (G x m) (fun r => ∃ (m3 : MI), r = (.inl none, G x m3) ∧ Q (.inl none, G x m3))))) : Cl X (d + 1) 64 [vp 0 0] (G x m) Q := by
  show Wp X (d + 1) 64 (0, ([some (vp 0 0)], ([], G x m))) Q
  refine wp_run 3 true ((bif decide (¬ (m 0 0 11) = 0) then 18 else 7), ([some (vp 0 0)], ([], G x m))) rfl rfl ?_
  refine wp_if (¬ (m 0 0 11) = 0) (fun c1 => ?_) (fun c1 => ?_)
  · have h := h.1 c1
    exact wp_ret rfl h
  · have h := h.2 c1
    refine wp_run 4 true (15, ([some (vp 0 0)], ([vp 1 0, vp 8 0], G x m))) rfl rfl ?_
    refine wp_call 96 [vp 8 0, vp 1 0] (18, ([some (vp 0 0)], ([], G x m))) rfl rfl (Cl.mono h (Nat.le_refl _) ?_)
    rintro r ⟨m3, rfl, h⟩
    · show Wp X (d + 1) 64 (18, ([some (vp 0 0)], ([], G x m3))) Q
      exact wp_ret rfl h
set_option maxRecDepth 100000 in
set_option maxHeartbeats 4000000 in
theorem vc_X10_failureOf {X : MX} {d : Nat} {x : Int64 × UInt64} {m : MI} {Q : MRes → Prop} {n : Nat} {q1 : Nat} (h : Cl X d 330 [vs 2 n] (G x m) (fun r => ∃ (v1 : Int32) (m2 : MI), r = (.inl (some (vi v1)), G x m2) ∧ (inb v1 10 = true ∧ ((Int32.ofNat (swMap.getD v1.toNatClampNeg 0) = 1 → Cl X d 1 [vp 0 0, vi (m2 27 q1 0), vi (m2 27 q1 1), vi (m2 27 q1 2), vi (m2 27 q1 3)] (G x m2) (fun r => (∃ (v4 : Int32) (m5 : MI), r = (.inl (some (vi v4)), G x m5) ∧ Q (.inl (some (vi 45)), G x m5)) ∨ (∃ (k6 : Nat) (u7 : Nat × Nat) (m8 : MI), r = (.inr k6, Gu u7 x m8) ∧ ((k6 = 0 → Q (.inl (some (vi 97)), Gu ((0, 0).1 + u7.1, (0, 0).2 + u7.2) x m8)) ∧ (k6 = 1 → Q (.inl (some (vi 115)), Gu ((0, 0).1 + u7.1, (0, 0).2 + u7.2) x m8)) ∧ (k6 = 2 → Q (.inl (some (vi 101)), Gu ((0, 0).1 + u7.1, (0, 0).2 + u7.2) x m8)) ∧ (k6 = 3 → Q (.inl (some (vi 117)), Gu ((0, 0).1 + u7.1, (0, 0).2 + u7.2) x m8)) ∧ ((¬ k6 = 0 ∧ ¬ k6 = 1 ∧ ¬ k6 = 2 ∧ ¬ k6 = 3) → Q (.inr k6, Gu ((0, 0).1 + u7.1, (0, 0).2 + u7.2) x m8)))))) ∧ (Int32.ofNat (swMap.getD v1.toNatClampNeg 0) = 2 → Cl X d 2 [vp 0 0, vi (m2 27 q1 0), vi (m2 27 q1 1), vi (m2 27 q1 2), vi (m2 27 q1 3), vi (m2 27 q1 4)] (G x m2) (fun r => (∃ (v9 : Int32) (m10 : MI), r = (.inl (some (vi v9)), G x m10) ∧ Q (.inl (some (vi 45)), G x m10)) ∨ (∃ (k11 : Nat) (u12 : Nat × Nat) (m13 : MI), r = (.inr k11, Gu u12 x m13) ∧ ((k11 = 0 → Q (.inl (some (vi 97)), Gu ((0, 0).1 + u12.1, (0, 0).2 + u12.2) x m13)) ∧ (k11 = 1 → Q (.inl (some (vi 115)), Gu ((0, 0).1 + u12.1, (0, 0).2 + u12.2) x m13)) ∧ (k11 = 2 → Q (.inl (some (vi 101)), Gu ((0, 0).1 + u12.1, (0, 0).2 + u12.2) x m13)) ∧ (k11 = 3 → Q (.inl (some (vi 117)), Gu ((0, 0).1 + u12.1, (0, 0).2 + u12.2) x m13)) ∧ ((¬ k11 = 0 ∧ ¬ k11 = 1 ∧ ¬ k11 = 2 ∧ ¬ k11 = 3) → Q (.inr k11, Gu ((0, 0).1 + u12.1, (0, 0).2 + u12.2) x m13)))))) ∧ (Int32.ofNat (swMap.getD v1.toNatClampNeg 0) = 3 → Cl X d 3 [vp 0 0, vi (m2 27 q1 0)] (G x m2) (fun r => (∃ (v14 : Int32) (m15 : MI), r = (.inl (some (vi v14)), G x m15) ∧ Q (.inl (some (vi 45)), G x m15)) ∨ (∃ (k16 : Nat) (u17 : Nat × Nat) (m18 : MI), r = (.inr k16, Gu u17 x m18) ∧ ((k16 = 0 → Q (.inl (some (vi 97)), Gu ((0, 0).1 + u17.1, (0, 0).2 + u17.2) x m18)) ∧ (k16 = 1 → Q (.inl (some (vi 115)), Gu ((0, 0).1 + u17.1, (0, 0).2 + u17.2) x m18)) ∧ (k16 = 2 → Q (.inl (some (vi 101)), Gu ((0, 0).1 + u17.1, (0, 0).2 + u17.2) x m18)) ∧ (k16 = 3 → Q (.inl (some (vi 117)), Gu ((0, 0).1 + u17.1, (0, 0).2 + u17.2) x m18)) ∧ ((¬ k16 = 0 ∧ ¬ k16 = 1 ∧ ¬ k16 = 2 ∧ ¬ k16 = 3) → Q (.inr k16, Gu ((0, 0).1 + u17.1, (0, 0).2 + u17.2) x m18)))))) ∧ (Int32.ofNat (swMap.getD v1.toNatClampNeg 0) = 4 → Cl X d 4 [vp 0 0, vi (m2 27 q1 0)] (G x m2) (fun r => (∃ (v19 : Int32) (m20 : MI), r = (.inl (some (vi v19)), G x m20) ∧ Q (.inl (some (vi 45)), G x m20)) ∨ (∃ (k21 : Nat) (u22 : Nat × Nat) (m23 : MI), r = (.inr k21, Gu u22 x m23) ∧ ((k21 = 0 → Q (.inl (some (vi 97)), Gu ((0, 0).1 + u22.1, (0, 0).2 + u22.2) x m23)) ∧ (k21 = 1 → Q (.inl (some (vi 115)), Gu ((0, 0).1 + u22.1, (0, 0).2 + u22.2) x m23)) ∧ (k21 = 2 → Q (.inl (some (vi 101)), Gu ((0, 0).1 + u22.1, (0, 0).2 + u22.2) x m23)) ∧ (k21 = 3 → Q (.inl (some (vi 117)), Gu ((0, 0).1 + u22.1, (0, 0).2 + u22.2) x m23)) ∧ ((¬ k21 = 0 ∧ ¬ k21 = 1 ∧ ¬ k21 = 2 ∧ ¬ k21 = 3) → Q (.inr k21, Gu ((0, 0).1 + u22.1, (0, 0).2 + u22.2) x m23)))))) ∧ (Int32.ofNat (swMap.getD v1.toNatClampNeg 0) = 5 → Cl X d 5 [vp 0 0, vi (((m2 27 q1 0).toUInt32 % 65536).toInt32)] (G x m2) (fun r => (∃ (v24 : Int32) (m25 : MI), r = (.inl (some (vi v24)), G x m25) ∧ Q (.inl (some (vi 45)), G x m25)) ∨ (∃ (k26 : Nat) (u27 : Nat × Nat) (m28 : MI), r = (.inr k26, Gu u27 x m28) ∧ ((k26 = 0 → Q (.inl (some (vi 97)), Gu ((0, 0).1 + u27.1, (0, 0).2 + u27.2) x m28)) ∧ (k26 = 1 → Q (.inl (some (vi 115)), Gu ((0, 0).1 + u27.1, (0, 0).2 + u27.2) x m28)) ∧ (k26 = 2 → Q (.inl (some (vi 101)), Gu ((0, 0).1 + u27.1, (0, 0).2 + u27.2) x m28)) ∧ (k26 = 3 → Q (.inl (some (vi 117)), Gu ((0, 0).1 + u27.1, (0, 0).2 + u27.2) x m28)) ∧ ((¬ k26 = 0 ∧ ¬ k26 = 1 ∧ ¬ k26 = 2 ∧ ¬ k26 = 3) → Q (.inr k26, Gu ((0, 0).1 + u27.1, (0, 0).2 + u27.2) x m28)))))) ∧ (Int32.ofNat (swMap.getD v1.toNatClampNeg 0) = 6 → Cl X d 6 [vp 0 0, vi (m2 27 q1 0), vi (m2 27 q1 1)] (G x m2) (fun r => (∃ (v29 : Int32) (m30 : MI), r = (.inl (some (vi v29)), G x m30) ∧ Q (.inl (some (vi 45)), G x m30)) ∨ (∃ (k31 : Nat) (u32 : Nat × Nat) (m33 : MI), r = (.inr k31, Gu u32 x m33) ∧ ((k31 = 0 → Q (.inl (some (vi 97)), Gu ((0, 0).1 + u32.1, (0, 0).2 + u32.2) x m33)) ∧ (k31 = 1 → Q (.inl (some (vi 115)), Gu ((0, 0).1 + u32.1, (0, 0).2 + u32.2) x m33)) ∧ (k31 = 2 → Q (.inl (some (vi 101)), Gu ((0, 0).1 + u32.1, (0, 0).2 + u32.2) x m33)) ∧ (k31 = 3 → Q (.inl (some (vi 117)), Gu ((0, 0).1 + u32.1, (0, 0).2 + u32.2) x m33)) ∧ ((¬ k31 = 0 ∧ ¬ k31 = 1 ∧ ¬ k31 = 2 ∧ ¬ k31 = 3) → Q (.inr k31, Gu ((0, 0).1 + u32.1, (0, 0).2 + u32.2) x m33)))))) ∧ (Int32.ofNat (swMap.getD v1.toNatClampNeg 0) = 7 → Cl X d 7 [vp 0 0] (G x m2) (fun r => ∃ (v34 : Int32) (m35 : MI), r = (.inl (some (vi v34)), G x m35) ∧ Q (.inl (some (vi 45)), G x m35))) ∧ (Int32.ofNat (swMap.getD v1.toNatClampNeg 0) = 8 → Cl X d 8 [vp 0 0, vi (m2 27 q1 0), vi (m2 27 q1 1)] (G x m2) (fun r => (∃ (v36 : Int32) (m37 : MI), r = (.inl (some (vi v36)), G x m37) ∧ Q (.inl (some (vi 45)), G x m37)) ∨ (∃ (k38 : Nat) (u39 : Nat × Nat) (m40 : MI), r = (.inr k38, Gu u39 x m40) ∧ ((k38 = 0 → Q (.inl (some (vi 97)), Gu ((0, 0).1 + u39.1, (0, 0).2 + u39.2) x m40)) ∧ (k38 = 1 → Q (.inl (some (vi 115)), Gu ((0, 0).1 + u39.1, (0, 0).2 + u39.2) x m40)) ∧ (k38 = 2 → Q (.inl (some (vi 101)), Gu ((0, 0).1 + u39.1, (0, 0).2 + u39.2) x m40)) ∧ (k38 = 3 → Q (.inl (some (vi 117)), Gu ((0, 0).1 + u39.1, (0, 0).2 + u39.2) x m40)) ∧ ((¬ k38 = 0 ∧ ¬ k38 = 1 ∧ ¬ k38 = 2 ∧ ¬ k38 = 3) → Q (.inr k38, Gu ((0, 0).1 + u39.1, (0, 0).2 + u39.2) x m40)))))) ∧ (Int32.ofNat (swMap.getD v1.toNatClampNeg 0) = 9 → Cl X d 9 [vp 0 0, vi 1] (G x m2) (fun r => (∃ (v41 : Int32) (m42 : MI), r = (.inl (some (vi v41)), G x m42) ∧ Q (.inl (some (vi 45)), G x m42)) ∨ (∃ (k43 : Nat) (u44 : Nat × Nat) (m45 : MI), r = (.inr k43, Gu u44 x m45) ∧ ((k43 = 0 → Q (.inl (some (vi 97)), Gu ((0, 0).1 + u44.1, (0, 0).2 + u44.2) x m45)) ∧ (k43 = 1 → Q (.inl (some (vi 115)), Gu ((0, 0).1 + u44.1, (0, 0).2 + u44.2) x m45)) ∧ (k43 = 2 → Q (.inl (some (vi 101)), Gu ((0, 0).1 + u44.1, (0, 0).2 + u44.2) x m45)) ∧ (k43 = 3 → Q (.inl (some (vi 117)), Gu ((0, 0).1 + u44.1, (0, 0).2 + u44.2) x m45)) ∧ ((¬ k43 = 0 ∧ ¬ k43 = 1 ∧ ¬ k43 = 2 ∧ ¬ k43 = 3) → Q (.inr k43, Gu ((0, 0).1 + u44.1, (0, 0).2 + u44.2) x m45)))))) ∧ (Int32.ofNat (swMap.getD v1.toNatClampNeg 0) = 10 → Cl X d 9 [vp 0 0, vi (m2 27 q1 0)] (G x m2) (fun r => (∃ (v46 : Int32) (m47 : MI), r = (.inl (some (vi v46)), G x m47) ∧ Q (.inl (some (vi 45)), G x m47)) ∨ (∃ (k48 : Nat) (u49 : Nat × Nat) (m50 : MI), r = (.inr k48, Gu u49 x m50) ∧ ((k48 = 0 → Q (.inl (some (vi 97)), Gu ((0, 0).1 + u49.1, (0, 0).2 + u49.2) x m50)) ∧ (k48 = 1 → Q (.inl (some (vi 115)), Gu ((0, 0).1 + u49.1, (0, 0).2 + u49.2) x m50)) ∧ (k48 = 2 → Q (.inl (some (vi 101)), Gu ((0, 0).1 + u49.1, (0, 0).2 + u49.2) x m50)) ∧ (k48 = 3 → Q (.inl (some (vi 117)), Gu ((0, 0).1 + u49.1, (0, 0).2 + u49.2) x m50)) ∧ ((¬ k48 = 0 ∧ ¬ k48 = 1 ∧ ¬ k48 = 2 ∧ ¬ k48 = 3) → Q (.inr k48, Gu ((0, 0).1 + u49.1, (0, 0).2 + u49.2) x m50)))))) ∧ ((¬ Int32.ofNat (swMap.getD v1.toNatClampNeg 0) = 1 ∧ ¬ Int32.ofNat (swMap.getD v1.toNatClampNeg 0) = 2 ∧ ¬ Int32.ofNat (swMap.getD v1.toNatClampNeg 0) = 3 ∧ ¬ Int32.ofNat (swMap.getD v1.toNatClampNeg 0) = 4 ∧ ¬ Int32.ofNat (swMap.getD v1.toNatClampNeg 0) = 5 ∧ ¬ Int32.ofNat (swMap.getD v1.toNatClampNeg 0) = 6 ∧ ¬ Int32.ofNat (swMap.getD v1.toNatClampNeg 0) = 7 ∧ ¬ Int32.ofNat (swMap.getD v1.toNatClampNeg 0) = 8 ∧ ¬ Int32.ofNat (swMap.getD v1.toNatClampNeg 0) = 9 ∧ ¬ Int32.ofNat (swMap.getD v1.toNatClampNeg 0) = 10) → Q (.inl (some (vi 45)), G x m2)))))) : Cl X (d + 1) 65 [vp 0 0, vs 2 n, vp 27 q1] (G x m) Q := by
  show Wp X (d + 1) 65 (0, ([some (vp 0 0), some (vs 2 n), some (vp 27 q1), none], ([], G x m))) Q
  refine wp_run 2 true (4, ([some (vp 0 0), some (vs 2 n), some (vp 27 q1), none], ([vs 2 n, vs 5 0], G x m))) rfl rfl ?_
  refine wp_call 330 [vs 2 n] (7, ([some (vp 0 0), some (vs 2 n), some (vp 27 q1), none], ([vs 5 0], G x m))) rfl rfl (Cl.mono h (Nat.le_refl _) ?_)
  rintro r ⟨v1, m2, rfl, h⟩
  · show Wp X (d + 1) 65 (7, ([some (vp 0 0), some (vs 2 n), some (vp 27 q1), none], ([vi v1, vs 5 0], G x m2))) Q
    obtain ⟨hg2_0, h⟩ := h
    refine wp_run 2 (inb v1 10 && true) ((swt 8 189 1 10 #[56, 76, 99, 110, 121, 133, 147, 155, 169, 178] (Int32.ofNat (swMap.getD v1.toNatClampNeg 0))), ([some (vp 0 0), some (vs 2 n), some (vp 27 q1), none], ([], G x m2))) rfl (and_t hg2_0 rfl) ?_
    by_cases c3_1 : Int32.ofNat (swMap.getD v1.toNatClampNeg 0) = 1
    · refine wp_pc (p2 := 64) (by rw [c3_1]; rfl) ?_
      have h := h.1 c3_1
      refine wp_run 13 true (77, ([some (vp 0 0), some (vs 2 n), some (vp 27 q1), none], ([vi (m2 27 q1 3), vi (m2 27 q1 2), vi (m2 27 q1 1), vi (m2 27 q1 0), vp 0 0], G x m2))) rfl rfl ?_
      refine wp_call 1 [vp 0 0, vi (m2 27 q1 0), vi (m2 27 q1 1), vi (m2 27 q1 2), vi (m2 27 q1 3)] (80, ([some (vp 0 0), some (vs 2 n), some (vp 27 q1), none], ([], G x m2))) rfl rfl (Cl.mono h (Nat.le_refl _) ?_)
      intro r hr
      rcases hr with ⟨v4, m5, rfl, h⟩ | ⟨k6, u7, m8, rfl, h⟩
      · show Wp X (d + 1) 65 (80, ([some (vp 0 0), some (vs 2 n), some (vp 27 q1), none], ([vi v4], G x m5))) Q
        refine wp_run 4 true (218, ([some (vp 0 0), some (vs 2 n), some (vp 27 q1), none], ([vi 45], G x m5))) rfl rfl ?_
        exact wp_ret rfl h
      · have hk := h
        by_cases c_0 : k6 = 0
        · subst c_0
          have h := hk.1 rfl
          show Wp X (d + 1) 65 (201, ([some (vp 0 0), some (vs 2 n), some (vp 27 q1), none], ([], Gu ((0, 0).1 + u7.1, (0, 0).2 + u7.2) x m8))) Q
          refine wp_run 1 true (203, ([some (vp 0 0), some (vs 2 n), some (vp 27 q1), none], ([vi 97], Gu ((0, 0).1 + u7.1, (0, 0).2 + u7.2) x m8))) rfl rfl ?_
          exact wp_ret rfl h
        by_cases c_1 : k6 = 1
        · subst c_1
          have h := hk.2.1 rfl
          show Wp X (d + 1) 65 (205, ([some (vp 0 0), some (vs 2 n), some (vp 27 q1), none], ([], Gu ((0, 0).1 + u7.1, (0, 0).2 + u7.2) x m8))) Q
          refine wp_run 1 true (207, ([some (vp 0 0), some (vs 2 n), some (vp 27 q1), none], ([vi 115], Gu ((0, 0).1 + u7.1, (0, 0).2 + u7.2) x m8))) rfl rfl ?_
          exact wp_ret rfl h
        by_cases c_2 : k6 = 2
        · subst c_2
          have h := hk.2.2.1 rfl
          show Wp X (d + 1) 65 (209, ([some (vp 0 0), some (vs 2 n), some (vp 27 q1), none], ([], Gu ((0, 0).1 + u7.1, (0, 0).2 + u7.2) x m8))) Q
          refine wp_run 1 true (211, ([some (vp 0 0), some (vs 2 n), some (vp 27 q1), none], ([vi 101], Gu ((0, 0).1 + u7.1, (0, 0).2 + u7.2) x m8))) rfl rfl ?_
          exact wp_ret rfl h
        by_cases c_3 : k6 = 3
        · subst c_3
          have h := hk.2.2.2.1 rfl
          show Wp X (d + 1) 65 (213, ([some (vp 0 0), some (vs 2 n), some (vp 27 q1), none], ([], Gu ((0, 0).1 + u7.1, (0, 0).2 + u7.2) x m8))) Q
          refine wp_run 1 true (215, ([some (vp 0 0), some (vs 2 n), some (vp 27 q1), none], ([vi 117], Gu ((0, 0).1 + u7.1, (0, 0).2 + u7.2) x m8))) rfl rfl ?_
          exact wp_ret rfl h
        have h := hk.2.2.2.2 ⟨c_0, c_1, c_2, c_3⟩
        have hn : hfind (mhd 65) 77 k6 = none := by
          simp only [show mhd 65 = [(0, (197, (200, (3, 0)))), (0, (197, (204, (3, 1)))), (0, (197, (208, (3, 2)))), (0, (197, (212, (3, 3))))] from rfl, hfind, cond_eq_ite]
          simp [Ne.symm c_0, c_0, Ne.symm c_1, c_1, Ne.symm c_2, c_2, Ne.symm c_3, c_3]
        show Kal X (d + 1) 65 77 (80, ([some (vp 0 0), some (vs 2 n), some (vp 27 q1), none], ([], G x m2))) Q (.inr k6, Gu u7 x m8)
        unfold Kal
        dsimp only
        rw [hn]
        exact h
    by_cases c3_2 : Int32.ofNat (swMap.getD v1.toNatClampNeg 0) = 2
    · refine wp_pc (p2 := 84) (by rw [c3_2]; rfl) ?_
      have h := h.2.1 c3_2
      refine wp_run 16 true (100, ([some (vp 0 0), some (vs 2 n), some (vp 27 q1), none], ([vi (m2 27 q1 4), vi (m2 27 q1 3), vi (m2 27 q1 2), vi (m2 27 q1 1), vi (m2 27 q1 0), vp 0 0], G x m2))) rfl rfl ?_
      refine wp_call 2 [vp 0 0, vi (m2 27 q1 0), vi (m2 27 q1 1), vi (m2 27 q1 2), vi (m2 27 q1 3), vi (m2 27 q1 4)] (103, ([some (vp 0 0), some (vs 2 n), some (vp 27 q1), none], ([], G x m2))) rfl rfl (Cl.mono h (Nat.le_refl _) ?_)
      intro r hr
      rcases hr with ⟨v9, m10, rfl, h⟩ | ⟨k11, u12, m13, rfl, h⟩
      · show Wp X (d + 1) 65 (103, ([some (vp 0 0), some (vs 2 n), some (vp 27 q1), none], ([vi v9], G x m10))) Q
        refine wp_run 4 true (218, ([some (vp 0 0), some (vs 2 n), some (vp 27 q1), none], ([vi 45], G x m10))) rfl rfl ?_
        exact wp_ret rfl h
      · have hk := h
        by_cases c_0 : k11 = 0
        · subst c_0
          have h := hk.1 rfl
          show Wp X (d + 1) 65 (201, ([some (vp 0 0), some (vs 2 n), some (vp 27 q1), none], ([], Gu ((0, 0).1 + u12.1, (0, 0).2 + u12.2) x m13))) Q
          refine wp_run 1 true (203, ([some (vp 0 0), some (vs 2 n), some (vp 27 q1), none], ([vi 97], Gu ((0, 0).1 + u12.1, (0, 0).2 + u12.2) x m13))) rfl rfl ?_
          exact wp_ret rfl h
        by_cases c_1 : k11 = 1
        · subst c_1
          have h := hk.2.1 rfl
          show Wp X (d + 1) 65 (205, ([some (vp 0 0), some (vs 2 n), some (vp 27 q1), none], ([], Gu ((0, 0).1 + u12.1, (0, 0).2 + u12.2) x m13))) Q
          refine wp_run 1 true (207, ([some (vp 0 0), some (vs 2 n), some (vp 27 q1), none], ([vi 115], Gu ((0, 0).1 + u12.1, (0, 0).2 + u12.2) x m13))) rfl rfl ?_
          exact wp_ret rfl h
        by_cases c_2 : k11 = 2
        · subst c_2
          have h := hk.2.2.1 rfl
          show Wp X (d + 1) 65 (209, ([some (vp 0 0), some (vs 2 n), some (vp 27 q1), none], ([], Gu ((0, 0).1 + u12.1, (0, 0).2 + u12.2) x m13))) Q
          refine wp_run 1 true (211, ([some (vp 0 0), some (vs 2 n), some (vp 27 q1), none], ([vi 101], Gu ((0, 0).1 + u12.1, (0, 0).2 + u12.2) x m13))) rfl rfl ?_
          exact wp_ret rfl h
        by_cases c_3 : k11 = 3
        · subst c_3
          have h := hk.2.2.2.1 rfl
          show Wp X (d + 1) 65 (213, ([some (vp 0 0), some (vs 2 n), some (vp 27 q1), none], ([], Gu ((0, 0).1 + u12.1, (0, 0).2 + u12.2) x m13))) Q
          refine wp_run 1 true (215, ([some (vp 0 0), some (vs 2 n), some (vp 27 q1), none], ([vi 117], Gu ((0, 0).1 + u12.1, (0, 0).2 + u12.2) x m13))) rfl rfl ?_
          exact wp_ret rfl h
        have h := hk.2.2.2.2 ⟨c_0, c_1, c_2, c_3⟩
        have hn : hfind (mhd 65) 100 k11 = none := by
          simp only [show mhd 65 = [(0, (197, (200, (3, 0)))), (0, (197, (204, (3, 1)))), (0, (197, (208, (3, 2)))), (0, (197, (212, (3, 3))))] from rfl, hfind, cond_eq_ite]
          simp [Ne.symm c_0, c_0, Ne.symm c_1, c_1, Ne.symm c_2, c_2, Ne.symm c_3, c_3]
        show Kal X (d + 1) 65 100 (103, ([some (vp 0 0), some (vs 2 n), some (vp 27 q1), none], ([], G x m2))) Q (.inr k11, Gu u12 x m13)
        unfold Kal
        dsimp only
        rw [hn]
        exact h
    by_cases c3_3 : Int32.ofNat (swMap.getD v1.toNatClampNeg 0) = 3
    · refine wp_pc (p2 := 107) (by rw [c3_3]; rfl) ?_
      have h := h.2.2.1 c3_3
      refine wp_run 4 true (111, ([some (vp 0 0), some (vs 2 n), some (vp 27 q1), none], ([vi (m2 27 q1 0), vp 0 0], G x m2))) rfl rfl ?_
      refine wp_call 3 [vp 0 0, vi (m2 27 q1 0)] (114, ([some (vp 0 0), some (vs 2 n), some (vp 27 q1), none], ([], G x m2))) rfl rfl (Cl.mono h (Nat.le_refl _) ?_)
      intro r hr
      rcases hr with ⟨v14, m15, rfl, h⟩ | ⟨k16, u17, m18, rfl, h⟩
      · show Wp X (d + 1) 65 (114, ([some (vp 0 0), some (vs 2 n), some (vp 27 q1), none], ([vi v14], G x m15))) Q
        refine wp_run 4 true (218, ([some (vp 0 0), some (vs 2 n), some (vp 27 q1), none], ([vi 45], G x m15))) rfl rfl ?_
        exact wp_ret rfl h
      · have hk := h
        by_cases c_0 : k16 = 0
        · subst c_0
          have h := hk.1 rfl
          show Wp X (d + 1) 65 (201, ([some (vp 0 0), some (vs 2 n), some (vp 27 q1), none], ([], Gu ((0, 0).1 + u17.1, (0, 0).2 + u17.2) x m18))) Q
          refine wp_run 1 true (203, ([some (vp 0 0), some (vs 2 n), some (vp 27 q1), none], ([vi 97], Gu ((0, 0).1 + u17.1, (0, 0).2 + u17.2) x m18))) rfl rfl ?_
          exact wp_ret rfl h
        by_cases c_1 : k16 = 1
        · subst c_1
          have h := hk.2.1 rfl
          show Wp X (d + 1) 65 (205, ([some (vp 0 0), some (vs 2 n), some (vp 27 q1), none], ([], Gu ((0, 0).1 + u17.1, (0, 0).2 + u17.2) x m18))) Q
          refine wp_run 1 true (207, ([some (vp 0 0), some (vs 2 n), some (vp 27 q1), none], ([vi 115], Gu ((0, 0).1 + u17.1, (0, 0).2 + u17.2) x m18))) rfl rfl ?_
          exact wp_ret rfl h
        by_cases c_2 : k16 = 2
        · subst c_2
          have h := hk.2.2.1 rfl
          show Wp X (d + 1) 65 (209, ([some (vp 0 0), some (vs 2 n), some (vp 27 q1), none], ([], Gu ((0, 0).1 + u17.1, (0, 0).2 + u17.2) x m18))) Q
          refine wp_run 1 true (211, ([some (vp 0 0), some (vs 2 n), some (vp 27 q1), none], ([vi 101], Gu ((0, 0).1 + u17.1, (0, 0).2 + u17.2) x m18))) rfl rfl ?_
          exact wp_ret rfl h
        by_cases c_3 : k16 = 3
        · subst c_3
          have h := hk.2.2.2.1 rfl
          show Wp X (d + 1) 65 (213, ([some (vp 0 0), some (vs 2 n), some (vp 27 q1), none], ([], Gu ((0, 0).1 + u17.1, (0, 0).2 + u17.2) x m18))) Q
          refine wp_run 1 true (215, ([some (vp 0 0), some (vs 2 n), some (vp 27 q1), none], ([vi 117], Gu ((0, 0).1 + u17.1, (0, 0).2 + u17.2) x m18))) rfl rfl ?_
          exact wp_ret rfl h
        have h := hk.2.2.2.2 ⟨c_0, c_1, c_2, c_3⟩
        have hn : hfind (mhd 65) 111 k16 = none := by
          simp only [show mhd 65 = [(0, (197, (200, (3, 0)))), (0, (197, (204, (3, 1)))), (0, (197, (208, (3, 2)))), (0, (197, (212, (3, 3))))] from rfl, hfind, cond_eq_ite]
          simp [Ne.symm c_0, c_0, Ne.symm c_1, c_1, Ne.symm c_2, c_2, Ne.symm c_3, c_3]
        show Kal X (d + 1) 65 111 (114, ([some (vp 0 0), some (vs 2 n), some (vp 27 q1), none], ([], G x m2))) Q (.inr k16, Gu u17 x m18)
        unfold Kal
        dsimp only
        rw [hn]
        exact h
    by_cases c3_4 : Int32.ofNat (swMap.getD v1.toNatClampNeg 0) = 4
    · refine wp_pc (p2 := 118) (by rw [c3_4]; rfl) ?_
      have h := h.2.2.2.1 c3_4
      refine wp_run 4 true (122, ([some (vp 0 0), some (vs 2 n), some (vp 27 q1), none], ([vi (m2 27 q1 0), vp 0 0], G x m2))) rfl rfl ?_
      refine wp_call 4 [vp 0 0, vi (m2 27 q1 0)] (125, ([some (vp 0 0), some (vs 2 n), some (vp 27 q1), none], ([], G x m2))) rfl rfl (Cl.mono h (Nat.le_refl _) ?_)
      intro r hr
      rcases hr with ⟨v19, m20, rfl, h⟩ | ⟨k21, u22, m23, rfl, h⟩
      · show Wp X (d + 1) 65 (125, ([some (vp 0 0), some (vs 2 n), some (vp 27 q1), none], ([vi v19], G x m20))) Q
        refine wp_run 4 true (218, ([some (vp 0 0), some (vs 2 n), some (vp 27 q1), none], ([vi 45], G x m20))) rfl rfl ?_
        exact wp_ret rfl h
      · have hk := h
        by_cases c_0 : k21 = 0
        · subst c_0
          have h := hk.1 rfl
          show Wp X (d + 1) 65 (201, ([some (vp 0 0), some (vs 2 n), some (vp 27 q1), none], ([], Gu ((0, 0).1 + u22.1, (0, 0).2 + u22.2) x m23))) Q
          refine wp_run 1 true (203, ([some (vp 0 0), some (vs 2 n), some (vp 27 q1), none], ([vi 97], Gu ((0, 0).1 + u22.1, (0, 0).2 + u22.2) x m23))) rfl rfl ?_
          exact wp_ret rfl h
        by_cases c_1 : k21 = 1
        · subst c_1
          have h := hk.2.1 rfl
          show Wp X (d + 1) 65 (205, ([some (vp 0 0), some (vs 2 n), some (vp 27 q1), none], ([], Gu ((0, 0).1 + u22.1, (0, 0).2 + u22.2) x m23))) Q
          refine wp_run 1 true (207, ([some (vp 0 0), some (vs 2 n), some (vp 27 q1), none], ([vi 115], Gu ((0, 0).1 + u22.1, (0, 0).2 + u22.2) x m23))) rfl rfl ?_
          exact wp_ret rfl h
        by_cases c_2 : k21 = 2
        · subst c_2
          have h := hk.2.2.1 rfl
          show Wp X (d + 1) 65 (209, ([some (vp 0 0), some (vs 2 n), some (vp 27 q1), none], ([], Gu ((0, 0).1 + u22.1, (0, 0).2 + u22.2) x m23))) Q
          refine wp_run 1 true (211, ([some (vp 0 0), some (vs 2 n), some (vp 27 q1), none], ([vi 101], Gu ((0, 0).1 + u22.1, (0, 0).2 + u22.2) x m23))) rfl rfl ?_
          exact wp_ret rfl h
        by_cases c_3 : k21 = 3
        · subst c_3
          have h := hk.2.2.2.1 rfl
          show Wp X (d + 1) 65 (213, ([some (vp 0 0), some (vs 2 n), some (vp 27 q1), none], ([], Gu ((0, 0).1 + u22.1, (0, 0).2 + u22.2) x m23))) Q
          refine wp_run 1 true (215, ([some (vp 0 0), some (vs 2 n), some (vp 27 q1), none], ([vi 117], Gu ((0, 0).1 + u22.1, (0, 0).2 + u22.2) x m23))) rfl rfl ?_
          exact wp_ret rfl h
        have h := hk.2.2.2.2 ⟨c_0, c_1, c_2, c_3⟩
        have hn : hfind (mhd 65) 122 k21 = none := by
          simp only [show mhd 65 = [(0, (197, (200, (3, 0)))), (0, (197, (204, (3, 1)))), (0, (197, (208, (3, 2)))), (0, (197, (212, (3, 3))))] from rfl, hfind, cond_eq_ite]
          simp [Ne.symm c_0, c_0, Ne.symm c_1, c_1, Ne.symm c_2, c_2, Ne.symm c_3, c_3]
        show Kal X (d + 1) 65 122 (125, ([some (vp 0 0), some (vs 2 n), some (vp 27 q1), none], ([], G x m2))) Q (.inr k21, Gu u22 x m23)
        unfold Kal
        dsimp only
        rw [hn]
        exact h
    by_cases c3_5 : Int32.ofNat (swMap.getD v1.toNatClampNeg 0) = 5
    · refine wp_pc (p2 := 129) (by rw [c3_5]; rfl) ?_
      have h := h.2.2.2.2.1 c3_5
      refine wp_run 5 true (134, ([some (vp 0 0), some (vs 2 n), some (vp 27 q1), none], ([vi (((m2 27 q1 0).toUInt32 % 65536).toInt32), vp 0 0], G x m2))) rfl rfl ?_
      refine wp_call 5 [vp 0 0, vi (((m2 27 q1 0).toUInt32 % 65536).toInt32)] (137, ([some (vp 0 0), some (vs 2 n), some (vp 27 q1), none], ([], G x m2))) rfl rfl (Cl.mono h (Nat.le_refl _) ?_)
      intro r hr
      rcases hr with ⟨v24, m25, rfl, h⟩ | ⟨k26, u27, m28, rfl, h⟩
      · show Wp X (d + 1) 65 (137, ([some (vp 0 0), some (vs 2 n), some (vp 27 q1), none], ([vi v24], G x m25))) Q
        refine wp_run 4 true (218, ([some (vp 0 0), some (vs 2 n), some (vp 27 q1), none], ([vi 45], G x m25))) rfl rfl ?_
        exact wp_ret rfl h
      · have hk := h
        by_cases c_0 : k26 = 0
        · subst c_0
          have h := hk.1 rfl
          show Wp X (d + 1) 65 (201, ([some (vp 0 0), some (vs 2 n), some (vp 27 q1), none], ([], Gu ((0, 0).1 + u27.1, (0, 0).2 + u27.2) x m28))) Q
          refine wp_run 1 true (203, ([some (vp 0 0), some (vs 2 n), some (vp 27 q1), none], ([vi 97], Gu ((0, 0).1 + u27.1, (0, 0).2 + u27.2) x m28))) rfl rfl ?_
          exact wp_ret rfl h
        by_cases c_1 : k26 = 1
        · subst c_1
          have h := hk.2.1 rfl
          show Wp X (d + 1) 65 (205, ([some (vp 0 0), some (vs 2 n), some (vp 27 q1), none], ([], Gu ((0, 0).1 + u27.1, (0, 0).2 + u27.2) x m28))) Q
          refine wp_run 1 true (207, ([some (vp 0 0), some (vs 2 n), some (vp 27 q1), none], ([vi 115], Gu ((0, 0).1 + u27.1, (0, 0).2 + u27.2) x m28))) rfl rfl ?_
          exact wp_ret rfl h
        by_cases c_2 : k26 = 2
        · subst c_2
          have h := hk.2.2.1 rfl
          show Wp X (d + 1) 65 (209, ([some (vp 0 0), some (vs 2 n), some (vp 27 q1), none], ([], Gu ((0, 0).1 + u27.1, (0, 0).2 + u27.2) x m28))) Q
          refine wp_run 1 true (211, ([some (vp 0 0), some (vs 2 n), some (vp 27 q1), none], ([vi 101], Gu ((0, 0).1 + u27.1, (0, 0).2 + u27.2) x m28))) rfl rfl ?_
          exact wp_ret rfl h
        by_cases c_3 : k26 = 3
        · subst c_3
          have h := hk.2.2.2.1 rfl
          show Wp X (d + 1) 65 (213, ([some (vp 0 0), some (vs 2 n), some (vp 27 q1), none], ([], Gu ((0, 0).1 + u27.1, (0, 0).2 + u27.2) x m28))) Q
          refine wp_run 1 true (215, ([some (vp 0 0), some (vs 2 n), some (vp 27 q1), none], ([vi 117], Gu ((0, 0).1 + u27.1, (0, 0).2 + u27.2) x m28))) rfl rfl ?_
          exact wp_ret rfl h
        have h := hk.2.2.2.2 ⟨c_0, c_1, c_2, c_3⟩
        have hn : hfind (mhd 65) 134 k26 = none := by
          simp only [show mhd 65 = [(0, (197, (200, (3, 0)))), (0, (197, (204, (3, 1)))), (0, (197, (208, (3, 2)))), (0, (197, (212, (3, 3))))] from rfl, hfind, cond_eq_ite]
          simp [Ne.symm c_0, c_0, Ne.symm c_1, c_1, Ne.symm c_2, c_2, Ne.symm c_3, c_3]
        show Kal X (d + 1) 65 134 (137, ([some (vp 0 0), some (vs 2 n), some (vp 27 q1), none], ([], G x m2))) Q (.inr k26, Gu u27 x m28)
        unfold Kal
        dsimp only
        rw [hn]
        exact h
    by_cases c3_6 : Int32.ofNat (swMap.getD v1.toNatClampNeg 0) = 6
    · refine wp_pc (p2 := 141) (by rw [c3_6]; rfl) ?_
      have h := h.2.2.2.2.2.1 c3_6
      refine wp_run 7 true (148, ([some (vp 0 0), some (vs 2 n), some (vp 27 q1), none], ([vi (m2 27 q1 1), vi (m2 27 q1 0), vp 0 0], G x m2))) rfl rfl ?_
      refine wp_call 6 [vp 0 0, vi (m2 27 q1 0), vi (m2 27 q1 1)] (151, ([some (vp 0 0), some (vs 2 n), some (vp 27 q1), none], ([], G x m2))) rfl rfl (Cl.mono h (Nat.le_refl _) ?_)
      intro r hr
      rcases hr with ⟨v29, m30, rfl, h⟩ | ⟨k31, u32, m33, rfl, h⟩
      · show Wp X (d + 1) 65 (151, ([some (vp 0 0), some (vs 2 n), some (vp 27 q1), none], ([vi v29], G x m30))) Q
        refine wp_run 4 true (218, ([some (vp 0 0), some (vs 2 n), some (vp 27 q1), none], ([vi 45], G x m30))) rfl rfl ?_
        exact wp_ret rfl h
      · have hk := h
        by_cases c_0 : k31 = 0
        · subst c_0
          have h := hk.1 rfl
          show Wp X (d + 1) 65 (201, ([some (vp 0 0), some (vs 2 n), some (vp 27 q1), none], ([], Gu ((0, 0).1 + u32.1, (0, 0).2 + u32.2) x m33))) Q
          refine wp_run 1 true (203, ([some (vp 0 0), some (vs 2 n), some (vp 27 q1), none], ([vi 97], Gu ((0, 0).1 + u32.1, (0, 0).2 + u32.2) x m33))) rfl rfl ?_
          exact wp_ret rfl h
        by_cases c_1 : k31 = 1
        · subst c_1
          have h := hk.2.1 rfl
          show Wp X (d + 1) 65 (205, ([some (vp 0 0), some (vs 2 n), some (vp 27 q1), none], ([], Gu ((0, 0).1 + u32.1, (0, 0).2 + u32.2) x m33))) Q
          refine wp_run 1 true (207, ([some (vp 0 0), some (vs 2 n), some (vp 27 q1), none], ([vi 115], Gu ((0, 0).1 + u32.1, (0, 0).2 + u32.2) x m33))) rfl rfl ?_
          exact wp_ret rfl h
        by_cases c_2 : k31 = 2
        · subst c_2
          have h := hk.2.2.1 rfl
          show Wp X (d + 1) 65 (209, ([some (vp 0 0), some (vs 2 n), some (vp 27 q1), none], ([], Gu ((0, 0).1 + u32.1, (0, 0).2 + u32.2) x m33))) Q
          refine wp_run 1 true (211, ([some (vp 0 0), some (vs 2 n), some (vp 27 q1), none], ([vi 101], Gu ((0, 0).1 + u32.1, (0, 0).2 + u32.2) x m33))) rfl rfl ?_
          exact wp_ret rfl h
        by_cases c_3 : k31 = 3
        · subst c_3
          have h := hk.2.2.2.1 rfl
          show Wp X (d + 1) 65 (213, ([some (vp 0 0), some (vs 2 n), some (vp 27 q1), none], ([], Gu ((0, 0).1 + u32.1, (0, 0).2 + u32.2) x m33))) Q
          refine wp_run 1 true (215, ([some (vp 0 0), some (vs 2 n), some (vp 27 q1), none], ([vi 117], Gu ((0, 0).1 + u32.1, (0, 0).2 + u32.2) x m33))) rfl rfl ?_
          exact wp_ret rfl h
        have h := hk.2.2.2.2 ⟨c_0, c_1, c_2, c_3⟩
        have hn : hfind (mhd 65) 148 k31 = none := by
          simp only [show mhd 65 = [(0, (197, (200, (3, 0)))), (0, (197, (204, (3, 1)))), (0, (197, (208, (3, 2)))), (0, (197, (212, (3, 3))))] from rfl, hfind, cond_eq_ite]
          simp [Ne.symm c_0, c_0, Ne.symm c_1, c_1, Ne.symm c_2, c_2, Ne.symm c_3, c_3]
        show Kal X (d + 1) 65 148 (151, ([some (vp 0 0), some (vs 2 n), some (vp 27 q1), none], ([], G x m2))) Q (.inr k31, Gu u32 x m33)
        unfold Kal
        dsimp only
        rw [hn]
        exact h
    by_cases c3_7 : Int32.ofNat (swMap.getD v1.toNatClampNeg 0) = 7
    · refine wp_pc (p2 := 155) (by rw [c3_7]; rfl) ?_
      have h := h.2.2.2.2.2.2.1 c3_7
      refine wp_run 1 true (156, ([some (vp 0 0), some (vs 2 n), some (vp 27 q1), none], ([vp 0 0], G x m2))) rfl rfl ?_
      refine wp_call 7 [vp 0 0] (159, ([some (vp 0 0), some (vs 2 n), some (vp 27 q1), none], ([], G x m2))) rfl rfl (Cl.mono h (Nat.le_refl _) ?_)
      rintro r ⟨v34, m35, rfl, h⟩
      · show Wp X (d + 1) 65 (159, ([some (vp 0 0), some (vs 2 n), some (vp 27 q1), none], ([vi v34], G x m35))) Q
        refine wp_run 4 true (218, ([some (vp 0 0), some (vs 2 n), some (vp 27 q1), none], ([vi 45], G x m35))) rfl rfl ?_
        exact wp_ret rfl h
    by_cases c3_8 : Int32.ofNat (swMap.getD v1.toNatClampNeg 0) = 8
    · refine wp_pc (p2 := 163) (by rw [c3_8]; rfl) ?_
      have h := h.2.2.2.2.2.2.2.1 c3_8
      refine wp_run 7 true (170, ([some (vp 0 0), some (vs 2 n), some (vp 27 q1), none], ([vi (m2 27 q1 1), vi (m2 27 q1 0), vp 0 0], G x m2))) rfl rfl ?_
      refine wp_call 8 [vp 0 0, vi (m2 27 q1 0), vi (m2 27 q1 1)] (173, ([some (vp 0 0), some (vs 2 n), some (vp 27 q1), none], ([], G x m2))) rfl rfl (Cl.mono h (Nat.le_refl _) ?_)
      intro r hr
      rcases hr with ⟨v36, m37, rfl, h⟩ | ⟨k38, u39, m40, rfl, h⟩
      · show Wp X (d + 1) 65 (173, ([some (vp 0 0), some (vs 2 n), some (vp 27 q1), none], ([vi v36], G x m37))) Q
        refine wp_run 4 true (218, ([some (vp 0 0), some (vs 2 n), some (vp 27 q1), none], ([vi 45], G x m37))) rfl rfl ?_
        exact wp_ret rfl h
      · have hk := h
        by_cases c_0 : k38 = 0
        · subst c_0
          have h := hk.1 rfl
          show Wp X (d + 1) 65 (201, ([some (vp 0 0), some (vs 2 n), some (vp 27 q1), none], ([], Gu ((0, 0).1 + u39.1, (0, 0).2 + u39.2) x m40))) Q
          refine wp_run 1 true (203, ([some (vp 0 0), some (vs 2 n), some (vp 27 q1), none], ([vi 97], Gu ((0, 0).1 + u39.1, (0, 0).2 + u39.2) x m40))) rfl rfl ?_
          exact wp_ret rfl h
        by_cases c_1 : k38 = 1
        · subst c_1
          have h := hk.2.1 rfl
          show Wp X (d + 1) 65 (205, ([some (vp 0 0), some (vs 2 n), some (vp 27 q1), none], ([], Gu ((0, 0).1 + u39.1, (0, 0).2 + u39.2) x m40))) Q
          refine wp_run 1 true (207, ([some (vp 0 0), some (vs 2 n), some (vp 27 q1), none], ([vi 115], Gu ((0, 0).1 + u39.1, (0, 0).2 + u39.2) x m40))) rfl rfl ?_
          exact wp_ret rfl h
        by_cases c_2 : k38 = 2
        · subst c_2
          have h := hk.2.2.1 rfl
          show Wp X (d + 1) 65 (209, ([some (vp 0 0), some (vs 2 n), some (vp 27 q1), none], ([], Gu ((0, 0).1 + u39.1, (0, 0).2 + u39.2) x m40))) Q
          refine wp_run 1 true (211, ([some (vp 0 0), some (vs 2 n), some (vp 27 q1), none], ([vi 101], Gu ((0, 0).1 + u39.1, (0, 0).2 + u39.2) x m40))) rfl rfl ?_
          exact wp_ret rfl h
        by_cases c_3 : k38 = 3
        · subst c_3
          have h := hk.2.2.2.1 rfl
          show Wp X (d + 1) 65 (213, ([some (vp 0 0), some (vs 2 n), some (vp 27 q1), none], ([], Gu ((0, 0).1 + u39.1, (0, 0).2 + u39.2) x m40))) Q
          refine wp_run 1 true (215, ([some (vp 0 0), some (vs 2 n), some (vp 27 q1), none], ([vi 117], Gu ((0, 0).1 + u39.1, (0, 0).2 + u39.2) x m40))) rfl rfl ?_
          exact wp_ret rfl h
        have h := hk.2.2.2.2 ⟨c_0, c_1, c_2, c_3⟩
        have hn : hfind (mhd 65) 170 k38 = none := by
          simp only [show mhd 65 = [(0, (197, (200, (3, 0)))), (0, (197, (204, (3, 1)))), (0, (197, (208, (3, 2)))), (0, (197, (212, (3, 3))))] from rfl, hfind, cond_eq_ite]
          simp [Ne.symm c_0, c_0, Ne.symm c_1, c_1, Ne.symm c_2, c_2, Ne.symm c_3, c_3]
        show Kal X (d + 1) 65 170 (173, ([some (vp 0 0), some (vs 2 n), some (vp 27 q1), none], ([], G x m2))) Q (.inr k38, Gu u39 x m40)
        unfold Kal
        dsimp only
        rw [hn]
        exact h
    by_cases c3_9 : Int32.ofNat (swMap.getD v1.toNatClampNeg 0) = 9
    · refine wp_pc (p2 := 177) (by rw [c3_9]; rfl) ?_
      have h := h.2.2.2.2.2.2.2.2.1 c3_9
      refine wp_run 2 true (179, ([some (vp 0 0), some (vs 2 n), some (vp 27 q1), none], ([vi 1, vp 0 0], G x m2))) rfl rfl ?_
      refine wp_call 9 [vp 0 0, vi 1] (182, ([some (vp 0 0), some (vs 2 n), some (vp 27 q1), none], ([], G x m2))) rfl rfl (Cl.mono h (Nat.le_refl _) ?_)
      intro r hr
      rcases hr with ⟨v41, m42, rfl, h⟩ | ⟨k43, u44, m45, rfl, h⟩
      · show Wp X (d + 1) 65 (182, ([some (vp 0 0), some (vs 2 n), some (vp 27 q1), none], ([vi v41], G x m42))) Q
        refine wp_run 4 true (218, ([some (vp 0 0), some (vs 2 n), some (vp 27 q1), none], ([vi 45], G x m42))) rfl rfl ?_
        exact wp_ret rfl h
      · have hk := h
        by_cases c_0 : k43 = 0
        · subst c_0
          have h := hk.1 rfl
          show Wp X (d + 1) 65 (201, ([some (vp 0 0), some (vs 2 n), some (vp 27 q1), none], ([], Gu ((0, 0).1 + u44.1, (0, 0).2 + u44.2) x m45))) Q
          refine wp_run 1 true (203, ([some (vp 0 0), some (vs 2 n), some (vp 27 q1), none], ([vi 97], Gu ((0, 0).1 + u44.1, (0, 0).2 + u44.2) x m45))) rfl rfl ?_
          exact wp_ret rfl h
        by_cases c_1 : k43 = 1
        · subst c_1
          have h := hk.2.1 rfl
          show Wp X (d + 1) 65 (205, ([some (vp 0 0), some (vs 2 n), some (vp 27 q1), none], ([], Gu ((0, 0).1 + u44.1, (0, 0).2 + u44.2) x m45))) Q
          refine wp_run 1 true (207, ([some (vp 0 0), some (vs 2 n), some (vp 27 q1), none], ([vi 115], Gu ((0, 0).1 + u44.1, (0, 0).2 + u44.2) x m45))) rfl rfl ?_
          exact wp_ret rfl h
        by_cases c_2 : k43 = 2
        · subst c_2
          have h := hk.2.2.1 rfl
          show Wp X (d + 1) 65 (209, ([some (vp 0 0), some (vs 2 n), some (vp 27 q1), none], ([], Gu ((0, 0).1 + u44.1, (0, 0).2 + u44.2) x m45))) Q
          refine wp_run 1 true (211, ([some (vp 0 0), some (vs 2 n), some (vp 27 q1), none], ([vi 101], Gu ((0, 0).1 + u44.1, (0, 0).2 + u44.2) x m45))) rfl rfl ?_
          exact wp_ret rfl h
        by_cases c_3 : k43 = 3
        · subst c_3
          have h := hk.2.2.2.1 rfl
          show Wp X (d + 1) 65 (213, ([some (vp 0 0), some (vs 2 n), some (vp 27 q1), none], ([], Gu ((0, 0).1 + u44.1, (0, 0).2 + u44.2) x m45))) Q
          refine wp_run 1 true (215, ([some (vp 0 0), some (vs 2 n), some (vp 27 q1), none], ([vi 117], Gu ((0, 0).1 + u44.1, (0, 0).2 + u44.2) x m45))) rfl rfl ?_
          exact wp_ret rfl h
        have h := hk.2.2.2.2 ⟨c_0, c_1, c_2, c_3⟩
        have hn : hfind (mhd 65) 179 k43 = none := by
          simp only [show mhd 65 = [(0, (197, (200, (3, 0)))), (0, (197, (204, (3, 1)))), (0, (197, (208, (3, 2)))), (0, (197, (212, (3, 3))))] from rfl, hfind, cond_eq_ite]
          simp [Ne.symm c_0, c_0, Ne.symm c_1, c_1, Ne.symm c_2, c_2, Ne.symm c_3, c_3]
        show Kal X (d + 1) 65 179 (182, ([some (vp 0 0), some (vs 2 n), some (vp 27 q1), none], ([], G x m2))) Q (.inr k43, Gu u44 x m45)
        unfold Kal
        dsimp only
        rw [hn]
        exact h
    by_cases c3_10 : Int32.ofNat (swMap.getD v1.toNatClampNeg 0) = 10
    · refine wp_pc (p2 := 186) (by rw [c3_10]; rfl) ?_
      have h := h.2.2.2.2.2.2.2.2.2.1 c3_10
      refine wp_run 4 true (190, ([some (vp 0 0), some (vs 2 n), some (vp 27 q1), none], ([vi (m2 27 q1 0), vp 0 0], G x m2))) rfl rfl ?_
      refine wp_call 9 [vp 0 0, vi (m2 27 q1 0)] (193, ([some (vp 0 0), some (vs 2 n), some (vp 27 q1), none], ([], G x m2))) rfl rfl (Cl.mono h (Nat.le_refl _) ?_)
      intro r hr
      rcases hr with ⟨v46, m47, rfl, h⟩ | ⟨k48, u49, m50, rfl, h⟩
      · show Wp X (d + 1) 65 (193, ([some (vp 0 0), some (vs 2 n), some (vp 27 q1), none], ([vi v46], G x m47))) Q
        refine wp_run 4 true (218, ([some (vp 0 0), some (vs 2 n), some (vp 27 q1), none], ([vi 45], G x m47))) rfl rfl ?_
        exact wp_ret rfl h
      · have hk := h
        by_cases c_0 : k48 = 0
        · subst c_0
          have h := hk.1 rfl
          show Wp X (d + 1) 65 (201, ([some (vp 0 0), some (vs 2 n), some (vp 27 q1), none], ([], Gu ((0, 0).1 + u49.1, (0, 0).2 + u49.2) x m50))) Q
          refine wp_run 1 true (203, ([some (vp 0 0), some (vs 2 n), some (vp 27 q1), none], ([vi 97], Gu ((0, 0).1 + u49.1, (0, 0).2 + u49.2) x m50))) rfl rfl ?_
          exact wp_ret rfl h
        by_cases c_1 : k48 = 1
        · subst c_1
          have h := hk.2.1 rfl
          show Wp X (d + 1) 65 (205, ([some (vp 0 0), some (vs 2 n), some (vp 27 q1), none], ([], Gu ((0, 0).1 + u49.1, (0, 0).2 + u49.2) x m50))) Q
          refine wp_run 1 true (207, ([some (vp 0 0), some (vs 2 n), some (vp 27 q1), none], ([vi 115], Gu ((0, 0).1 + u49.1, (0, 0).2 + u49.2) x m50))) rfl rfl ?_
          exact wp_ret rfl h
        by_cases c_2 : k48 = 2
        · subst c_2
          have h := hk.2.2.1 rfl
          show Wp X (d + 1) 65 (209, ([some (vp 0 0), some (vs 2 n), some (vp 27 q1), none], ([], Gu ((0, 0).1 + u49.1, (0, 0).2 + u49.2) x m50))) Q
          refine wp_run 1 true (211, ([some (vp 0 0), some (vs 2 n), some (vp 27 q1), none], ([vi 101], Gu ((0, 0).1 + u49.1, (0, 0).2 + u49.2) x m50))) rfl rfl ?_
          exact wp_ret rfl h
        by_cases c_3 : k48 = 3
        · subst c_3
          have h := hk.2.2.2.1 rfl
          show Wp X (d + 1) 65 (213, ([some (vp 0 0), some (vs 2 n), some (vp 27 q1), none], ([], Gu ((0, 0).1 + u49.1, (0, 0).2 + u49.2) x m50))) Q
          refine wp_run 1 true (215, ([some (vp 0 0), some (vs 2 n), some (vp 27 q1), none], ([vi 117], Gu ((0, 0).1 + u49.1, (0, 0).2 + u49.2) x m50))) rfl rfl ?_
          exact wp_ret rfl h
        have h := hk.2.2.2.2 ⟨c_0, c_1, c_2, c_3⟩
        have hn : hfind (mhd 65) 190 k48 = none := by
          simp only [show mhd 65 = [(0, (197, (200, (3, 0)))), (0, (197, (204, (3, 1)))), (0, (197, (208, (3, 2)))), (0, (197, (212, (3, 3))))] from rfl, hfind, cond_eq_ite]
          simp [Ne.symm c_0, c_0, Ne.symm c_1, c_1, Ne.symm c_2, c_2, Ne.symm c_3, c_3]
        show Kal X (d + 1) 65 190 (193, ([some (vp 0 0), some (vs 2 n), some (vp 27 q1), none], ([], G x m2))) Q (.inr k48, Gu u49 x m50)
        unfold Kal
        dsimp only
        rw [hn]
        exact h
    have h := h.2.2.2.2.2.2.2.2.2.2 ⟨c3_1, c3_2, c3_3, c3_4, c3_5, c3_6, c3_7, c3_8, c3_9, c3_10⟩
    refine wp_pc (p2 := 197) (swt_d1_10 _ _ _ _ c3_1 c3_2 c3_3 c3_4 c3_5 c3_6 c3_7 c3_8 c3_9 c3_10) ?_
    refine wp_run 2 true (218, ([some (vp 0 0), some (vs 2 n), some (vp 27 q1), none], ([vi 45], G x m2))) rfl rfl ?_
    exact wp_ret rfl h
set_option maxRecDepth 100000 in
set_option maxHeartbeats 4000000 in
theorem vc_X10_nearestAgree {X : MX} {d : Nat} {x : Int64 × UInt64} {m : MI} {Q : MRes → Prop} (h : ((¬ (m 2 0 1) = 0 → Wp X (d + 1) 66 (17, ([some (vp 0 0), some (vi 0), none], ([], G x m))) Q) ∧ (¬ (¬ (m 2 0 1) = 0) → Q (.inl (some (vi 1)), G x m)))) : Cl X (d + 1) 66 [vp 0 0] (G x m) Q := by
  show Wp X (d + 1) 66 (0, ([some (vp 0 0), none, none], ([], G x m))) Q
  refine wp_run 5 true ((bif decide (¬ (m 2 0 1) = 0) then 15 else 13), ([some (vp 0 0), none, none], ([], G x m))) rfl rfl ?_
  refine wp_if (¬ (m 2 0 1) = 0) (fun c1 => ?_) (fun c1 => ?_)
  · have h := h.1 c1
    refine wp_run 2 true (17, ([some (vp 0 0), some (vi 0), none], ([], G x m))) rfl rfl ?_
    exact h
  · have h := h.2 c1
    refine wp_run 1 true (14, ([some (vp 0 0), none, none], ([vi 1], G x m))) rfl rfl ?_
    exact wp_ret rfl h
set_option maxRecDepth 100000 in
set_option maxHeartbeats 4000000 in
theorem vl_X10_nearestAgree_17 {X : MX} {d : Nat} {x : Int64 × UInt64} {m : MI} {Q : MRes → Prop} {l1 : Int32} {o2 : Option MV} (h : (((m 3 0 1) ≤ l1 → Q (.inl (some (vi 1)), G x m)) ∧ (¬ ((m 3 0 1) ≤ l1) → (inb l1 6 = true ∧ Cl X d 100 [vp 10 0, vp 1 0, vp 7 (6 * 0 + l1.toNatClampNeg)] (G x m) (fun r => ∃ (v2 : Int32) (m3 : MI), r = (.inl (some (vi v2)), G x m3) ∧ Cl X d 87 [vp 1 0, vp 7 (6 * 0 + l1.toNatClampNeg)] (G x m3) (fun r => ∃ (v4 : Int32) (m5 : MI), r = (.inl (some (vi v4)), G x m5) ∧ ((v2 = v4 → (∀ t7 : Int32, t7 = l1 + 1 → Wp X (d + 1) 66 (17, ([some (vp 0 0), some (vi t7), some (vp 7 (6 * 0 + l1.toNatClampNeg))], ([], G x m5))) Q)) ∧ (¬ (v2 = v4) → Q (.inl (some (vi 0)), G x m5))))))))) : Wp X (d + 1) 66 (17, ([some (vp 0 0), some (vi l1), o2], ([], G x m))) Q := by
  refine wp_run 6 true ((bif decide ((m 3 0 1) ≤ l1) then 75 else 31), ([some (vp 0 0), some (vi l1), o2], ([], G x m))) rfl rfl ?_
  refine wp_if ((m 3 0 1) ≤ l1) (fun c1 => ?_) (fun c1 => ?_)
  · have h := h.1 c1
    refine wp_run 1 true (76, ([some (vp 0 0), some (vi l1), o2], ([vi 1], G x m))) rfl rfl ?_
    exact wp_ret rfl h
  · have h := h.2 c1
    obtain ⟨hg2_0, h⟩ := h
    refine wp_run 12 (inb l1 6 && true) (53, ([some (vp 0 0), some (vi l1), some (vp 7 (6 * 0 + l1.toNatClampNeg))], ([vp 7 (6 * 0 + l1.toNatClampNeg), vp 1 0, vp 10 0], G x m))) rfl (and_t hg2_0 rfl) ?_
    refine wp_call 100 [vp 10 0, vp 1 0, vp 7 (6 * 0 + l1.toNatClampNeg)] (56, ([some (vp 0 0), some (vi l1), some (vp 7 (6 * 0 + l1.toNatClampNeg))], ([], G x m))) rfl rfl (Cl.mono h (Nat.le_refl _) ?_)
    rintro r ⟨v2, m3, rfl, h⟩
    · show Wp X (d + 1) 66 (56, ([some (vp 0 0), some (vi l1), some (vp 7 (6 * 0 + l1.toNatClampNeg))], ([vi v2], G x m3))) Q
      refine wp_run 3 true (61, ([some (vp 0 0), some (vi l1), some (vp 7 (6 * 0 + l1.toNatClampNeg))], ([vp 7 (6 * 0 + l1.toNatClampNeg), vp 1 0, vi v2], G x m3))) rfl rfl ?_
      refine wp_call 87 [vp 1 0, vp 7 (6 * 0 + l1.toNatClampNeg)] (64, ([some (vp 0 0), some (vi l1), some (vp 7 (6 * 0 + l1.toNatClampNeg))], ([vi v2], G x m3))) rfl rfl (Cl.mono h (Nat.le_refl _) ?_)
      rintro r ⟨v4, m5, rfl, h⟩
      · show Wp X (d + 1) 66 (64, ([some (vp 0 0), some (vi l1), some (vp 7 (6 * 0 + l1.toNatClampNeg))], ([vi v4, vi v2], G x m5))) Q
        refine wp_run 1 true ((bif decide (v2 = v4) then 69 else 67), ([some (vp 0 0), some (vi l1), some (vp 7 (6 * 0 + l1.toNatClampNeg))], ([], G x m5))) rfl rfl ?_
        refine wp_if (v2 = v4) (fun c6 => ?_) (fun c6 => ?_)
        · have h := h.1 c6
          refine wp_run 1 true (72, ([some (vp 0 0), some (vi (l1 + 1)), some (vp 7 (6 * 0 + l1.toNatClampNeg))], ([], G x m5))) rfl rfl ?_
          refine wpg (fun t7 => Wp X (d + 1) 66 (72, ([some (vp 0 0), some (vi t7), some (vp 7 (6 * 0 + l1.toNatClampNeg))], ([], G x m5))) Q) (l1 + 1) (fun t7 ht7 => ?_)
          have h := h t7 ht7
          refine wp_run 1 true (17, ([some (vp 0 0), some (vi t7), some (vp 7 (6 * 0 + l1.toNatClampNeg))], ([], G x m5))) rfl rfl ?_
          exact h
        · have h := h.2 c6
          refine wp_run 1 true (68, ([some (vp 0 0), some (vi l1), some (vp 7 (6 * 0 + l1.toNatClampNeg))], ([vi 0], G x m5))) rfl rfl ?_
          exact wp_ret rfl h
set_option maxRecDepth 100000 in
set_option maxHeartbeats 4000000 in
theorem vc_X10_closestAgree {X : MX} {d : Nat} {x : Int64 × UInt64} {m : MI} {Q : MRes → Prop} (h : (((m 2 0 1) < 2 → Q (.inl (some (vi 1)), G x m)) ∧ (¬ ((m 2 0 1) < 2) → Cl X d 88 [vp 1 0] (G x m) (fun r => ∃ (v2 : Int32) (m3 : MI), r = (.inl (some (vi v2)), G x m3) ∧ Cl X d 106 [vp 10 0, vp 1 0] (G x m3) (fun r => ∃ (v4 : Int32) (m5 : MI), r = (.inl (some (vi v4)), G x m5) ∧ ((¬ v2 = v4 → Q (.inl (some (vi 0)), G x m5)) ∧ (¬ (¬ v2 = v4) → Q (.inl (some (vi 1)), G x m5)))))))) : Cl X (d + 1) 67 [vp 0 0] (G x m) Q := by
  show Wp X (d + 1) 67 (0, ([some (vp 0 0)], ([], G x m))) Q
  refine wp_run 6 true ((bif decide ((m 2 0 1) < 2) then 35 else 14), ([some (vp 0 0)], ([], G x m))) rfl rfl ?_
  refine wp_if ((m 2 0 1) < 2) (fun c1 => ?_) (fun c1 => ?_)
  · have h := h.1 c1
    refine wp_run 2 true (40, ([some (vp 0 0)], ([vi 1], G x m))) rfl rfl ?_
    exact wp_ret rfl h
  · have h := h.2 c1
    refine wp_run 2 true (18, ([some (vp 0 0)], ([vp 1 0], G x m))) rfl rfl ?_
    refine wp_call 88 [vp 1 0] (21, ([some (vp 0 0)], ([], G x m))) rfl rfl (Cl.mono h (Nat.le_refl _) ?_)
    rintro r ⟨v2, m3, rfl, h⟩
    · show Wp X (d + 1) 67 (21, ([some (vp 0 0)], ([vi v2], G x m3))) Q
      refine wp_run 4 true (29, ([some (vp 0 0)], ([vp 1 0, vp 10 0, vi v2], G x m3))) rfl rfl ?_
      refine wp_call 106 [vp 10 0, vp 1 0] (32, ([some (vp 0 0)], ([vi v2], G x m3))) rfl rfl (Cl.mono h (Nat.le_refl _) ?_)
      rintro r ⟨v4, m5, rfl, h⟩
      · show Wp X (d + 1) 67 (32, ([some (vp 0 0)], ([vi v4, vi v2], G x m5))) Q
        refine wp_run 1 true ((bif decide (¬ v2 = v4) then 39 else 35), ([some (vp 0 0)], ([], G x m5))) rfl rfl ?_
        refine wp_if (¬ v2 = v4) (fun c6 => ?_) (fun c6 => ?_)
        · have h := h.1 c6
          refine wp_run 1 true (40, ([some (vp 0 0)], ([vi 0], G x m5))) rfl rfl ?_
          exact wp_ret rfl h
        · have h := h.2 c6
          refine wp_run 2 true (40, ([some (vp 0 0)], ([vi 1], G x m5))) rfl rfl ?_
          exact wp_ret rfl h
set_option maxRecDepth 100000 in
set_option maxHeartbeats 4000000 in
theorem vc_X10_settlementsAgree {X : MX} {d : Nat} {x : Int64 × UInt64} {m : MI} {Q : MRes → Prop} (h : Cl X d 108 [vp 12 0, vp 1 0] (G x m) (fun r => ∃ (m2 : MI), r = (.inl none, G x m2) ∧ Cl X d 116 [vp 12 0] (G x m2) (fun r => ∃ (v3 : Int32) (m4 : MI), r = (.inl (some (vi v3)), G x m4) ∧ Cl X d 119 [vp 12 0, vp 1 0] (G x m4) (fun r => ∃ (v5 : Int32) (m6 : MI), r = (.inl (some (vi v5)), G x m6) ∧ ((¬ v3 = v5 → Q (.inl (some (vi 0)), G x m6)) ∧ (¬ (¬ v3 = v5) → Q (.inl (some (vi 1)), G x m6))))))) : Cl X (d + 1) 68 [vp 0 0] (G x m) Q := by
  show Wp X (d + 1) 68 (0, ([some (vp 0 0)], ([], G x m))) Q
  refine wp_run 4 true (8, ([some (vp 0 0)], ([vp 1 0, vp 12 0], G x m))) rfl rfl ?_
  refine wp_call 108 [vp 12 0, vp 1 0] (11, ([some (vp 0 0)], ([], G x m))) rfl rfl (Cl.mono h (Nat.le_refl _) ?_)
  rintro r ⟨m2, rfl, h⟩
  · show Wp X (d + 1) 68 (11, ([some (vp 0 0)], ([], G x m2))) Q
    refine wp_run 2 true (15, ([some (vp 0 0)], ([vp 12 0], G x m2))) rfl rfl ?_
    refine wp_call 116 [vp 12 0] (18, ([some (vp 0 0)], ([], G x m2))) rfl rfl (Cl.mono h (Nat.le_refl _) ?_)
    rintro r ⟨v3, m4, rfl, h⟩
    · show Wp X (d + 1) 68 (18, ([some (vp 0 0)], ([vi v3], G x m4))) Q
      refine wp_run 4 true (26, ([some (vp 0 0)], ([vp 1 0, vp 12 0, vi v3], G x m4))) rfl rfl ?_
      refine wp_call 119 [vp 12 0, vp 1 0] (29, ([some (vp 0 0)], ([vi v3], G x m4))) rfl rfl (Cl.mono h (Nat.le_refl _) ?_)
      rintro r ⟨v5, m6, rfl, h⟩
      · show Wp X (d + 1) 68 (29, ([some (vp 0 0)], ([vi v5, vi v3], G x m6))) Q
        refine wp_run 1 true ((bif decide (¬ v3 = v5) then 36 else 32), ([some (vp 0 0)], ([], G x m6))) rfl rfl ?_
        refine wp_if (¬ v3 = v5) (fun c7 => ?_) (fun c7 => ?_)
        · have h := h.1 c7
          refine wp_run 1 true (37, ([some (vp 0 0)], ([vi 0], G x m6))) rfl rfl ?_
          exact wp_ret rfl h
        · have h := h.2 c7
          refine wp_run 2 true (37, ([some (vp 0 0)], ([vi 1], G x m6))) rfl rfl ?_
          exact wp_ret rfl h
set_option maxRecDepth 100000 in
set_option maxHeartbeats 4000000 in
theorem vc_X10_palettesAgree {X : MX} {d : Nat} {x : Int64 × UInt64} {m : MI} {Q : MRes → Prop} (h : Cl X d 122 [vp 20 0, vp 1 0] (G x m) (fun r => ∃ (m2 : MI), r = (.inl none, G x m2) ∧ Wp X (d + 1) 69 (13, ([some (vp 0 0), some (vi 1)], ([], G x m2))) Q)) : Cl X (d + 1) 69 [vp 0 0] (G x m) Q := by
  show Wp X (d + 1) 69 (0, ([some (vp 0 0), none], ([], G x m))) Q
  refine wp_run 4 true (8, ([some (vp 0 0), none], ([vp 1 0, vp 20 0], G x m))) rfl rfl ?_
  refine wp_call 122 [vp 20 0, vp 1 0] (11, ([some (vp 0 0), none], ([], G x m))) rfl rfl (Cl.mono h (Nat.le_refl _) ?_)
  rintro r ⟨m2, rfl, h⟩
  · show Wp X (d + 1) 69 (11, ([some (vp 0 0), none], ([], G x m2))) Q
    refine wp_run 2 true (13, ([some (vp 0 0), some (vi 1)], ([], G x m2))) rfl rfl ?_
    exact h
set_option maxRecDepth 100000 in
set_option maxHeartbeats 4000000 in
theorem vl_X10_palettesAgree_13 {X : MX} {d : Nat} {x : Int64 × UInt64} {m : MI} {Q : MRes → Prop} {l1 : Int32} (h : ((3 < l1 → Q (.inl (some (vi 1)), G x m)) ∧ (¬ (3 < l1) → (((m 2 0 1) < l1 → Q (.inl (some (vi 1)), G x m)) ∧ (¬ ((m 2 0 1) < l1) → Cl X d 125 [vp 20 0, vi l1] (G x m) (fun r => ∃ (v3 : Int32) (m4 : MI), r = (.inl (some (vi v3)), G x m4) ∧ Cl X d 123 [vp 20 0, vi v3] (G x m4) (fun r => ∃ (v5 : Int32) (m6 : MI), r = (.inl (some (vi v5)), G x m6) ∧ Cl X d 128 [vp 20 0, vi l1] (G x m6) (fun r => ∃ (v7 : Int32) (m8 : MI), r = (.inl (some (vi v7)), G x m8) ∧ ((v5 = v7 → (∀ t10 : Int32, t10 = l1 + 1 → Wp X (d + 1) 69 (13, ([some (vp 0 0), some (vi t10)], ([], G x m8))) Q)) ∧ (¬ (v5 = v7) → Q (.inl (some (vi 0)), G x m8))))))))))) : Wp X (d + 1) 69 (13, ([some (vp 0 0), some (vi l1)], ([], G x m))) Q := by
  refine wp_run 3 true ((bif decide (3 < l1) then 66 else 18), ([some (vp 0 0), some (vi l1)], ([], G x m))) rfl rfl ?_
  refine wp_if (3 < l1) (fun c1 => ?_) (fun c1 => ?_)
  · have h := h.1 c1
    refine wp_run 1 true (67, ([some (vp 0 0), some (vi l1)], ([vi 1], G x m))) rfl rfl ?_
    exact wp_ret rfl h
  · have h := h.2 c1
    refine wp_run 6 true ((bif decide ((m 2 0 1) < l1) then 66 else 32), ([some (vp 0 0), some (vi l1)], ([], G x m))) rfl rfl ?_
    refine wp_if ((m 2 0 1) < l1) (fun c2 => ?_) (fun c2 => ?_)
    · have h := h.1 c2
      refine wp_run 1 true (67, ([some (vp 0 0), some (vi l1)], ([vi 1], G x m))) rfl rfl ?_
      exact wp_ret rfl h
    · have h := h.2 c2
      refine wp_run 5 true (41, ([some (vp 0 0), some (vi l1)], ([vi l1, vp 20 0, vp 20 0], G x m))) rfl rfl ?_
      refine wp_call 125 [vp 20 0, vi l1] (44, ([some (vp 0 0), some (vi l1)], ([vp 20 0], G x m))) rfl rfl (Cl.mono h (Nat.le_refl _) ?_)
      rintro r ⟨v3, m4, rfl, h⟩
      · show Wp X (d + 1) 69 (44, ([some (vp 0 0), some (vi l1)], ([vi v3, vp 20 0], G x m4))) Q
        refine wp_call 123 [vp 20 0, vi v3] (47, ([some (vp 0 0), some (vi l1)], ([], G x m4))) rfl rfl (Cl.mono h (Nat.le_refl _) ?_)
        rintro r ⟨v5, m6, rfl, h⟩
        · show Wp X (d + 1) 69 (47, ([some (vp 0 0), some (vi l1)], ([vi v5], G x m6))) Q
          refine wp_run 3 true (52, ([some (vp 0 0), some (vi l1)], ([vi l1, vp 20 0, vi v5], G x m6))) rfl rfl ?_
          refine wp_call 128 [vp 20 0, vi l1] (55, ([some (vp 0 0), some (vi l1)], ([vi v5], G x m6))) rfl rfl (Cl.mono h (Nat.le_refl _) ?_)
          rintro r ⟨v7, m8, rfl, h⟩
          · show Wp X (d + 1) 69 (55, ([some (vp 0 0), some (vi l1)], ([vi v7, vi v5], G x m8))) Q
            refine wp_run 1 true ((bif decide (v5 = v7) then 60 else 58), ([some (vp 0 0), some (vi l1)], ([], G x m8))) rfl rfl ?_
            refine wp_if (v5 = v7) (fun c9 => ?_) (fun c9 => ?_)
            · have h := h.1 c9
              refine wp_run 1 true (63, ([some (vp 0 0), some (vi (l1 + 1))], ([], G x m8))) rfl rfl ?_
              refine wpg (fun t10 => Wp X (d + 1) 69 (63, ([some (vp 0 0), some (vi t10)], ([], G x m8))) Q) (l1 + 1) (fun t10 ht10 => ?_)
              have h := h t10 ht10
              refine wp_run 1 true (13, ([some (vp 0 0), some (vi t10)], ([], G x m8))) rfl rfl ?_
              exact h
            · have h := h.2 c9
              refine wp_run 1 true (59, ([some (vp 0 0), some (vi l1)], ([vi 0], G x m8))) rfl rfl ?_
              exact wp_ret rfl h
