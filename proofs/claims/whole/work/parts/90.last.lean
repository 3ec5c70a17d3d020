set_option maxRecDepth 100000 in
set_option maxHeartbeats 4000000 in
theorem vc_X11_size {X : MX} {d : Nat} {x : Int64 × UInt64} {m : MI} {Q : MRes → Prop} {p0 : Int32} (h : ((0 ≤ p0 → Q (.inl (some (vi p0)), G x m)) ∧ (¬ (0 ≤ p0) → Q (.inl (some (vi (-p0))), G x m)))) : Cl X d 161 [vi p0] (G x m) Q := by
  show Wp X d 161 (0, ([some (vi p0)], ([], G x m))) Q
  refine wp_run 2 true ((bif decide (0 ≤ p0) then 9 else 4), ([some (vi p0)], ([], G x m))) rfl rfl ?_
  refine wp_if (0 ≤ p0) (fun c1 => ?_) (fun c1 => ?_)
  · have h := h.1 c1
    refine wp_run 1 true (10, ([some (vi p0)], ([vi p0], G x m))) rfl rfl ?_
    exact wp_ret rfl h
  · have h := h.2 c1
    refine wp_run 3 true (10, ([some (vi p0)], ([vi (-p0)], G x m))) rfl rfl ?_
    exact wp_ret rfl h
set_option maxRecDepth 100000 in
set_option maxHeartbeats 4000000 in
theorem vc_X11_spelled {X : MX} {d : Nat} {x : Int64 × UInt64} {m : MI} {Q : MRes → Prop} {p0 : Int32} {p1 : Int32} (h : ((p0 = 0 → Cl X d 262 [vi p1, vi 102, vi 105, vi 110, vi 100, vi 0, vi 0, vi 0] (G x m) (fun r => ∃ (v2 : Int32) (m3 : MI), r = (.inl (some (vi v2)), G x m3) ∧ Q (.inl (some (vi v2)), G x m3))) ∧ (p0 = 1 → Cl X d 262 [vi p1, vi 114, vi 101, vi 112, vi 111, vi 114, vi 116, vi 0] (G x m) (fun r => ∃ (v4 : Int32) (m5 : MI), r = (.inl (some (vi v4)), G x m5) ∧ Q (.inl (some (vi v4)), G x m5))) ∧ (p0 = 2 → Cl X d 262 [vi p1, vi 100, vi 114, vi 111, vi 112, vi 0, vi 0, vi 0] (G x m) (fun r => ∃ (v6 : Int32) (m7 : MI), r = (.inl (some (vi v6)), G x m7) ∧ Q (.inl (some (vi v6)), G x m7))) ∧ (p0 = 3 → Cl X d 262 [vi p1, vi 100, vi 105, vi 115, vi 99, vi 97, vi 114, vi 100] (G x m) (fun r => ∃ (v8 : Int32) (m9 : MI), r = (.inl (some (vi v8)), G x m9) ∧ Q (.inl (some (vi v8)), G x m9))) ∧ (p0 = 4 → Cl X d 262 [vi p1, vi 109, vi 101, vi 116, vi 114, vi 105, vi 99, vi 0] (G x m) (fun r => ∃ (v10 : Int32) (m11 : MI), r = (.inl (some (vi v10)), G x m11) ∧ Q (.inl (some (vi v10)), G x m11))) ∧ (p0 = 5 → Cl X d 262 [vi p1, vi 114, vi 101, vi 116, vi 117, vi 114, vi 110, vi 0] (G x m) (fun r => ∃ (v12 : Int32) (m13 : MI), r = (.inl (some (vi v12)), G x m13) ∧ Q (.inl (some (vi v12)), G x m13))) ∧ (p0 = 6 → Cl X d 262 [vi p1, vi 115, vi 101, vi 116, vi 116, vi 108, vi 101, vi 0] (G x m) (fun r => ∃ (v14 : Int32) (m15 : MI), r = (.inl (some (vi v14)), G x m15) ∧ Q (.inl (some (vi v14)), G x m15))) ∧ (p0 = 7 → Cl X d 262 [vi p1, vi 109, vi 105, vi 120, vi 0, vi 0, vi 0, vi 0] (G x m) (fun r => ∃ (v16 : Int32) (m17 : MI), r = (.inl (some (vi v16)), G x m17) ∧ Q (.inl (some (vi v16)), G x m17))) ∧ ((¬ p0 = 0 ∧ ¬ p0 = 1 ∧ ¬ p0 = 2 ∧ ¬ p0 = 3 ∧ ¬ p0 = 4 ∧ ¬ p0 = 5 ∧ ¬ p0 = 6 ∧ ¬ p0 = 7) → Cl X d 262 [vi p1, vi 100, vi 97, vi 121, vi 0, vi 0, vi 0, vi 0] (G x m) (fun r => ∃ (v18 : Int32) (m19 : MI), r = (.inl (some (vi v18)), G x m19) ∧ Q (.inl (some (vi v18)), G x m19))))) : Cl X (d + 1) 263 [vi p0, vi p1] (G x m) Q := by
  show Wp X (d + 1) 263 (0, ([some (vi p0), some (vi p1)], ([], G x m))) Q
  refine wp_run 2 true ((swt 1 185 0 7 #[47, 63, 81, 97, 116, 134, 152, 170] p0), ([some (vi p0), some (vi p1)], ([], G x m))) rfl rfl ?_
  by_cases c1_0 : p0 = 0
  · refine wp_pc (p2 := 48) (by rw [c1_0]; rfl) ?_
    have h := h.1 c1_0
    refine wp_run 8 true (60, ([some (vi p0), some (vi p1)], ([vi 0, vi 0, vi 0, vi 100, vi 110, vi 105, vi 102, vi p1], G x m))) rfl rfl ?_
    refine wp_call 262 [vi p1, vi 102, vi 105, vi 110, vi 100, vi 0, vi 0, vi 0] (63, ([some (vi p0), some (vi p1)], ([], G x m))) rfl rfl (Cl.mono h (Nat.le_refl _) ?_)
    rintro r ⟨v2, m3, rfl, h⟩
    · show Wp X (d + 1) 263 (63, ([some (vi p0), some (vi p1)], ([vi v2], G x m3))) Q
      exact wp_ret rfl h
  by_cases c1_1 : p0 = 1
  · refine wp_pc (p2 := 64) (by rw [c1_1]; rfl) ?_
    have h := h.2.1 c1_1
    refine wp_run 8 true (78, ([some (vi p0), some (vi p1)], ([vi 0, vi 116, vi 114, vi 111, vi 112, vi 101, vi 114, vi p1], G x m))) rfl rfl ?_
    refine wp_call 262 [vi p1, vi 114, vi 101, vi 112, vi 111, vi 114, vi 116, vi 0] (81, ([some (vi p0), some (vi p1)], ([], G x m))) rfl rfl (Cl.mono h (Nat.le_refl _) ?_)
    rintro r ⟨v4, m5, rfl, h⟩
    · show Wp X (d + 1) 263 (81, ([some (vi p0), some (vi p1)], ([vi v4], G x m5))) Q
      exact wp_ret rfl h
  by_cases c1_2 : p0 = 2
  · refine wp_pc (p2 := 82) (by rw [c1_2]; rfl) ?_
    have h := h.2.2.1 c1_2
    refine wp_run 8 true (94, ([some (vi p0), some (vi p1)], ([vi 0, vi 0, vi 0, vi 112, vi 111, vi 114, vi 100, vi p1], G x m))) rfl rfl ?_
    refine wp_call 262 [vi p1, vi 100, vi 114, vi 111, vi 112, vi 0, vi 0, vi 0] (97, ([some (vi p0), some (vi p1)], ([], G x m))) rfl rfl (Cl.mono h (Nat.le_refl _) ?_)
    rintro r ⟨v6, m7, rfl, h⟩
    · show Wp X (d + 1) 263 (97, ([some (vi p0), some (vi p1)], ([vi v6], G x m7))) Q
      exact wp_ret rfl h
  by_cases c1_3 : p0 = 3
  · refine wp_pc (p2 := 98) (by rw [c1_3]; rfl) ?_
    have h := h.2.2.2.1 c1_3
    refine wp_run 8 true (113, ([some (vi p0), some (vi p1)], ([vi 100, vi 114, vi 97, vi 99, vi 115, vi 105, vi 100, vi p1], G x m))) rfl rfl ?_
    refine wp_call 262 [vi p1, vi 100, vi 105, vi 115, vi 99, vi 97, vi 114, vi 100] (116, ([some (vi p0), some (vi p1)], ([], G x m))) rfl rfl (Cl.mono h (Nat.le_refl _) ?_)
    rintro r ⟨v8, m9, rfl, h⟩
    · show Wp X (d + 1) 263 (116, ([some (vi p0), some (vi p1)], ([vi v8], G x m9))) Q
      exact wp_ret rfl h
  by_cases c1_4 : p0 = 4
  · refine wp_pc (p2 := 117) (by rw [c1_4]; rfl) ?_
    have h := h.2.2.2.2.1 c1_4
    refine wp_run 8 true (131, ([some (vi p0), some (vi p1)], ([vi 0, vi 99, vi 105, vi 114, vi 116, vi 101, vi 109, vi p1], G x m))) rfl rfl ?_
    refine wp_call 262 [vi p1, vi 109, vi 101, vi 116, vi 114, vi 105, vi 99, vi 0] (134, ([some (vi p0), some (vi p1)], ([], G x m))) rfl rfl (Cl.mono h (Nat.le_refl _) ?_)
    rintro r ⟨v10, m11, rfl, h⟩
    · show Wp X (d + 1) 263 (134, ([some (vi p0), some (vi p1)], ([vi v10], G x m11))) Q
      exact wp_ret rfl h
  by_cases c1_5 : p0 = 5
  · refine wp_pc (p2 := 135) (by rw [c1_5]; rfl) ?_
    have h := h.2.2.2.2.2.1 c1_5
    refine wp_run 8 true (149, ([some (vi p0), some (vi p1)], ([vi 0, vi 110, vi 114, vi 117, vi 116, vi 101, vi 114, vi p1], G x m))) rfl rfl ?_
    refine wp_call 262 [vi p1, vi 114, vi 101, vi 116, vi 117, vi 114, vi 110, vi 0] (152, ([some (vi p0), some (vi p1)], ([], G x m))) rfl rfl (Cl.mono h (Nat.le_refl _) ?_)
    rintro r ⟨v12, m13, rfl, h⟩
    · show Wp X (d + 1) 263 (152, ([some (vi p0), some (vi p1)], ([vi v12], G x m13))) Q
      exact wp_ret rfl h
  by_cases c1_6 : p0 = 6
  · refine wp_pc (p2 := 153) (by rw [c1_6]; rfl) ?_
    have h := h.2.2.2.2.2.2.1 c1_6
    refine wp_run 8 true (167, ([some (vi p0), some (vi p1)], ([vi 0, vi 101, vi 108, vi 116, vi 116, vi 101, vi 115, vi p1], G x m))) rfl rfl ?_
    refine wp_call 262 [vi p1, vi 115, vi 101, vi 116, vi 116, vi 108, vi 101, vi 0] (170, ([some (vi p0), some (vi p1)], ([], G x m))) rfl rfl (Cl.mono h (Nat.le_refl _) ?_)
    rintro r ⟨v14, m15, rfl, h⟩
    · show Wp X (d + 1) 263 (170, ([some (vi p0), some (vi p1)], ([vi v14], G x m15))) Q
      exact wp_ret rfl h
  by_cases c1_7 : p0 = 7
  · refine wp_pc (p2 := 171) (by rw [c1_7]; rfl) ?_
    have h := h.2.2.2.2.2.2.2.1 c1_7
    refine wp_run 8 true (182, ([some (vi p0), some (vi p1)], ([vi 0, vi 0, vi 0, vi 0, vi 120, vi 105, vi 109, vi p1], G x m))) rfl rfl ?_
    refine wp_call 262 [vi p1, vi 109, vi 105, vi 120, vi 0, vi 0, vi 0, vi 0] (185, ([some (vi p0), some (vi p1)], ([], G x m))) rfl rfl (Cl.mono h (Nat.le_refl _) ?_)
    rintro r ⟨v16, m17, rfl, h⟩
    · show Wp X (d + 1) 263 (185, ([some (vi p0), some (vi p1)], ([vi v16], G x m17))) Q
      exact wp_ret rfl h
  have h := h.2.2.2.2.2.2.2.2 ⟨c1_0, c1_1, c1_2, c1_3, c1_4, c1_5, c1_6, c1_7⟩
  refine wp_pc (p2 := 186) (swt_d0_7 _ _ _ _ c1_0 c1_1 c1_2 c1_3 c1_4 c1_5 c1_6 c1_7) ?_
  refine wp_run 8 true (197, ([some (vi p0), some (vi p1)], ([vi 0, vi 0, vi 0, vi 0, vi 121, vi 97, vi 100, vi p1], G x m))) rfl rfl ?_
  refine wp_call 262 [vi p1, vi 100, vi 97, vi 121, vi 0, vi 0, vi 0, vi 0] (200, ([some (vi p0), some (vi p1)], ([], G x m))) rfl rfl (Cl.mono h (Nat.le_refl _) ?_)
  rintro r ⟨v18, m19, rfl, h⟩
  · show Wp X (d + 1) 263 (200, ([some (vi p0), some (vi p1)], ([vi v18], G x m19))) Q
    exact wp_ret rfl h
set_option maxRecDepth 100000 in
set_option maxHeartbeats 4000000 in
theorem vc_X10_foundAt {X : MX} {d : Nat} {x : Int64 × UInt64} {m : MI} {Q : MRes → Prop} {p0 : Int32} (h : Cl X d 91 [vp 2 0, vi p0] (G x m) (fun r => ∃ (v1 : Int32) (m2 : MI), r = (.inl (some (vi v1)), G x m2) ∧ ((0 ≤ v1 → Q (.inl (some (vi v1)), G x m2)) ∧ (¬ (0 ≤ v1) → Q (.inr 2, Gu (1 + (0, 0).1, 6 + (0, 0).2) x m2))))) : Cl X (d + 1) 61 [vp 0 0, vi p0] (G x m) Q := by
  show Wp X (d + 1) 61 (0, ([some (vp 0 0), some (vi p0), none], ([], G x m))) Q
  refine wp_run 4 true (8, ([some (vp 0 0), some (vi p0), none], ([vi p0, vp 2 0], G x m))) rfl rfl ?_
  refine wp_call 91 [vp 2 0, vi p0] (11, ([some (vp 0 0), some (vi p0), none], ([], G x m))) rfl rfl (Cl.mono h (Nat.le_refl _) ?_)
  rintro r ⟨v1, m2, rfl, h⟩
  · show Wp X (d + 1) 61 (11, ([some (vp 0 0), some (vi p0), none], ([vi v1], G x m2))) Q
    refine wp_run 3 true ((bif decide (0 ≤ v1) then 27 else 16), ([some (vp 0 0), some (vi p0), some (vi v1)], ([], G x m2))) rfl rfl ?_
    refine wp_if (0 ≤ v1) (fun c3 => ?_) (fun c3 => ?_)
    · have h := h.1 c3
      refine wp_run 1 true (28, ([some (vp 0 0), some (vi p0), some (vi v1)], ([vi v1], G x m2))) rfl rfl ?_
      exact wp_ret rfl h
    · have h := h.2 c3
      exact wp_thr rfl rfl h
set_option maxRecDepth 100000 in
set_option maxHeartbeats 4000000 in
theorem vc_X10_red {X : MX} {d : Nat} {x : Int64 × UInt64} {m : MI} {Q : MRes → Prop} {p0 : Int32} (h : Cl X d 61 [vp 0 0, vi p0] (G x m) (fun r => (∃ (v1 : Int32) (m2 : MI), r = (.inl (some (vi v1)), G x m2) ∧ (inb v1 10 = true ∧ Q (.inl (some (vi (m2 5 (10 * 0 + v1.toNatClampNeg) 1))), G x m2))) ∨ (∃ (k3 : Nat) (u4 : Nat × Nat) (m5 : MI), r = (.inr k3, Gu u4 x m5) ∧ Q (.inr k3, Gu ((0, 0).1 + u4.1, (0, 0).2 + u4.2) x m5)))) : Cl X (d + 1) 12 [vp 0 0, vi p0] (G x m) Q := by
  show Wp X (d + 1) 12 (0, ([some (vp 0 0), some (vi p0)], ([], G x m))) Q
  refine wp_run 6 true (12, ([some (vp 0 0), some (vi p0)], ([vi p0, vp 0 0, vp 4 0], G x m))) rfl rfl ?_
  refine wp_call 61 [vp 0 0, vi p0] (15, ([some (vp 0 0), some (vi p0)], ([vp 4 0], G x m))) rfl rfl (Cl.mono h (Nat.le_refl _) ?_)
  intro r hr
  rcases hr with ⟨v1, m2, rfl, h⟩ | ⟨k3, u4, m5, rfl, h⟩
  · show Wp X (d + 1) 12 (15, ([some (vp 0 0), some (vi p0)], ([vi v1, vp 4 0], G x m2))) Q
    obtain ⟨hg2_0, h⟩ := h
    refine wp_run 3 (inb v1 10 && true) (18, ([some (vp 0 0), some (vi p0)], ([vi (m2 5 (10 * 0 + v1.toNatClampNeg) 1)], G x m2))) rfl (and_t hg2_0 rfl) ?_
    exact wp_ret rfl h
  · exact h
set_option maxRecDepth 100000 in
set_option maxHeartbeats 4000000 in
theorem vc_X10_addColour {X : MX} {d : Nat} {x : Int64 × UInt64} {m : MI} {Q : MRes → Prop} {p0 : Int32} {p1 : Int32} {p2 : Int32} {p3 : Int32} (h : Cl X d 58 [vi p0, vi p1, vi p2] (G x m) (fun r => ∃ (v1 : Int32) (m2 : MI), r = (.inl (some (vi v1)), G x m2) ∧ ((v1 = 0 → Q (.inr 0, Gu (1 + (0, 0).1, 6 + (0, 0).2) x m2)) ∧ (¬ (v1 = 0) → Cl X d 57 [vi p3, vi 1, vi 9] (G x m2) (fun r => ∃ (v4 : Int32) (m5 : MI), r = (.inl (some (vi v4)), G x m5) ∧ ((¬ v4 = 0 → Cl X d 90 [vp 2 0] (G x m5) (fun r => ∃ (v7 : Int32) (m8 : MI), r = (.inl (some (vi v7)), G x m8) ∧ ((v7 = 0 → Cl X d 64 [vp 0 0] (G x m8) (fun r => ∃ (m11 : MI), r = (.inl none, G x m11) ∧ Cl X d 92 [vp 2 0, vi p0, vi p1, vi p2, vi p3, vi (m11 1 0 2)] (G x m11) (fun r => ∃ (v12 : Int32) (m13 : MI), r = (.inl (some (vi v12)), G x m13) ∧ Q (.inl (some (vi v12)), G x m13)))) ∧ (¬ (v7 = 0) → Q (.inr 1, Gu (1 + (0, 0).1, 6 + (0, 0).2) x m8))))) ∧ (¬ (¬ v4 = 0) → Q (.inr 0, Gu (1 + (0, 0).1, 6 + (0, 0).2) x m5)))))))) : Cl X (d + 1) 1 [vp 0 0, vi p0, vi p1, vi p2, vi p3] (G x m) Q := by
  show Wp X (d + 1) 1 (0, ([some (vp 0 0), some (vi p0), some (vi p1), some (vi p2), some (vi p3)], ([], G x m))) Q
  refine wp_run 3 true (3, ([some (vp 0 0), some (vi p0), some (vi p1), some (vi p2), some (vi p3)], ([vi p2, vi p1, vi p0], G x m))) rfl rfl ?_
  refine wp_call 58 [vi p0, vi p1, vi p2] (6, ([some (vp 0 0), some (vi p0), some (vi p1), some (vi p2), some (vi p3)], ([], G x m))) rfl rfl (Cl.mono h (Nat.le_refl _) ?_)
  rintro r ⟨v1, m2, rfl, h⟩
  · show Wp X (d + 1) 1 (6, ([some (vp 0 0), some (vi p0), some (vi p1), some (vi p2), some (vi p3)], ([vi v1], G x m2))) Q
    refine wp_run 1 true ((bif decide (v1 = 0) then 20 else 9), ([some (vp 0 0), some (vi p0), some (vi p1), some (vi p2), some (vi p3)], ([], G x m2))) rfl rfl ?_
    refine wp_if (v1 = 0) (fun c3 => ?_) (fun c3 => ?_)
    · have h := h.1 c3
      exact wp_thr rfl rfl h
    · have h := h.2 c3
      refine wp_run 3 true (14, ([some (vp 0 0), some (vi p0), some (vi p1), some (vi p2), some (vi p3)], ([vi 9, vi 1, vi p3], G x m2))) rfl rfl ?_
      refine wp_call 57 [vi p3, vi 1, vi 9] (17, ([some (vp 0 0), some (vi p0), some (vi p1), some (vi p2), some (vi p3)], ([], G x m2))) rfl rfl (Cl.mono h (Nat.le_refl _) ?_)
      rintro r ⟨v4, m5, rfl, h⟩
      · show Wp X (d + 1) 1 (17, ([some (vp 0 0), some (vi p0), some (vi p1), some (vi p2), some (vi p3)], ([vi v4], G x m5))) Q
        refine wp_run 1 true ((bif decide (¬ v4 = 0) then 30 else 20), ([some (vp 0 0), some (vi p0), some (vi p1), some (vi p2), some (vi p3)], ([], G x m5))) rfl rfl ?_
        refine wp_if (¬ v4 = 0) (fun c6 => ?_) (fun c6 => ?_)
        · have h := h.1 c6
          refine wp_run 3 true (37, ([some (vp 0 0), some (vi p0), some (vi p1), some (vi p2), some (vi p3)], ([vp 2 0], G x m5))) rfl rfl ?_
          refine wp_call 90 [vp 2 0] (40, ([some (vp 0 0), some (vi p0), some (vi p1), some (vi p2), some (vi p3)], ([], G x m5))) rfl rfl (Cl.mono h (Nat.le_refl _) ?_)
          rintro r ⟨v7, m8, rfl, h⟩
          · show Wp X (d + 1) 1 (40, ([some (vp 0 0), some (vi p0), some (vi p1), some (vi p2), some (vi p3)], ([vi v7], G x m8))) Q
            refine wp_run 1 true ((bif decide (v7 = 0) then 53 else 43), ([some (vp 0 0), some (vi p0), some (vi p1), some (vi p2), some (vi p3)], ([], G x m8))) rfl rfl ?_
            refine wp_if (v7 = 0) (fun c9 => ?_) (fun c9 => ?_)
            · have h := h.1 c9
              refine wp_run 1 true (54, ([some (vp 0 0), some (vi p0), some (vi p1), some (vi p2), some (vi p3)], ([vp 0 0], G x m8))) rfl rfl ?_
              refine wp_call 64 [vp 0 0] (57, ([some (vp 0 0), some (vi p0), some (vi p1), some (vi p2), some (vi p3)], ([], G x m8))) rfl rfl (Cl.mono h (Nat.le_refl _) ?_)
              rintro r ⟨m11, rfl, h⟩
              · show Wp X (d + 1) 1 (57, ([some (vp 0 0), some (vi p0), some (vi p1), some (vi p2), some (vi p3)], ([], G x m11))) Q
                refine wp_run 10 true (76, ([some (vp 0 0), some (vi p0), some (vi p1), some (vi p2), some (vi p3)], ([vi (m11 1 0 2), vi p3, vi p2, vi p1, vi p0, vp 2 0], G x m11))) rfl rfl ?_
                refine wp_call 92 [vp 2 0, vi p0, vi p1, vi p2, vi p3, vi (m11 1 0 2)] (79, ([some (vp 0 0), some (vi p0), some (vi p1), some (vi p2), some (vi p3)], ([], G x m11))) rfl rfl (Cl.mono h (Nat.le_refl _) ?_)
                rintro r ⟨v12, m13, rfl, h⟩
                · show Wp X (d + 1) 1 (79, ([some (vp 0 0), some (vi p0), some (vi p1), some (vi p2), some (vi p3)], ([vi v12], G x m13))) Q
                  exact wp_ret rfl h
            · have h := h.2 c9
              exact wp_thr rfl rfl h
        · have h := h.2 c6
          exact wp_thr rfl rfl h
set_option maxRecDepth 100000 in
set_option maxHeartbeats 4000000 in
theorem vc_X10_failureOf {X : MX} {d : Nat} {x : Int64 × UInt64} {m : MI} {Q : MRes → Prop} {n : Nat} {q1 : Nat} (h : Cl X d 330 [vs 2 n] (G x m) (fun r => ∃ (v1 : Int32) (m2 : MI), r = (.inl (some (vi v1)), G x m2) ∧ (inb v1 10 = true ∧ ((Int32.ofNat (swMap.getD v1.toNatClampNeg 0) = 1 → Cl X d 1 [vp 0 0, vi (m2 27 q1 0), vi (m2 27 q1 1), vi (m2 27 q1 2), vi (m2 27 q1 3)] (G x m2) (fun r => (∃ (v4 : Int32) (m5 : MI), r = (.inl (some (vi v4)), G x m5) ∧ Q (.inl (some (vi 45)), G x m5)) ∨ (∃ (k6 : Nat) (u7 : Nat × Nat) (m8 : MI), r = (.inr k6, Gu u7 x m8) ∧ ((k6 = 0 → Q (.inl (some (vi 97)), Gu ((0, 0).1 + u7.1, (0, 0).2 + u7.2) x m8)) ∧ (k6 = 1 → Q (.inl (some (vi 115)), Gu ((0, 0).1 + u7.1, (0, 0).2 + u7.2) x m8)) ∧ (k6 = 2 → Q (.inl (some (vi 101)), Gu ((0, 0).1 + u7.1, (0, 0).2 + u7.2) x m8)) ∧ (k6 = 3 → Q (.inl (some (vi 117)), Gu ((0, 0).1 + u7.1, (0, 0).2 + u7.2) x m8)) ∧ ((¬ k6 = 0 ∧ ¬ k6 = 1 ∧ ¬ k6 = 2 ∧ ¬ k6 = 3) → Q (.inr k6, Gu ((0, 0).1 + u7.1, (0, 0).2 + u7.2) x m8)))))) ∧ (Int32.ofNat (swMap.getD v1.toNatClampNeg 0) = 2 → Cl X d 2 [vp 0 0, vi (m2 27 q1 0), vi (m2 27 q1 1), vi (m2 27 q1 2), vi (m2 27 q1 3), vi (m2 27 q1 4)] (G x m2) (fun r => (∃ (v9 : Int32) (m10 : MI), r = (.inl (some (vi v9)), G x m10) ∧ Q (.inl (some (vi 45)), G x m10)) ∨ (∃ (k11 : Nat) (u12 : Nat × Nat) (m13 : MI), r = (.inr k11, Gu u12 x m13) ∧ ((k11 = 0 → Q (.inl (some (vi 97)), Gu ((0, 0).1 + u12.1, (0, 0).2 + u12.2) x m13)) ∧ (k11 = 1 → Q (.inl (some (vi 115)), Gu ((0, 0).1 + u12.1, (0, 0).2 + u12.2) x m13)) ∧ (k11 = 2 → Q (.inl (some (vi 101)), Gu ((0, 0).1 + u12.1, (0, 0).2 + u12.2) x m13)) ∧ (k11 = 3 → Q (.inl (some (vi 117)), Gu ((0, 0).1 + u12.1, (0, 0).2 + u12.2) x m13)) ∧ ((¬ k11 = 0 ∧ ¬ k11 = 1 ∧ ¬ k11 = 2 ∧ ¬ k11 = 3) → Q (.inr k11, Gu ((0, 0).1 + u12.1, (0, 0).2 + u12.2) x m13)))))) ∧ (Int32.ofNat (swMap.getD v1.toNatClampNeg 0) = 3 → Cl X d 3 [vp 0 0, vi (m2 27 q1 0)] (G x m2) (fun r => (∃ (v14 : Int32) (m15 : MI), r = (.inl (some (vi v14)), G x m15) ∧ Q (.inl (some (vi 45)), G x m15)) ∨ (∃ (k16 : Nat) (u17 : Nat × Nat) (m18 : MI), r = (.inr k16, Gu u17 x m18) ∧ ((k16 = 0 → Q (.inl (some (vi 97)), Gu ((0, 0).1 + u17.1, (0, 0).2 + u17.2) x m18)) ∧ (k16 = 1 → Q (.inl (some (vi 115)), Gu ((0, 0).1 + u17.1, (0, 0).2 + u17.2) x m18)) ∧ (k16 = 2 → Q (.inl (some (vi 101)), Gu ((0, 0).1 + u17.1, (0, 0).2 + u17.2) x m18)) ∧ (k16 = 3 → Q (.inl (some (vi 117)), Gu ((0, 0).1 + u17.1, (0, 0).2 + u17.2) x m18)) ∧ ((¬ k16 = 0 ∧ ¬ k16 = 1 ∧ ¬ k16 = 2 ∧ ¬ k16 = 3) → Q (.inr k16, Gu ((0, 0).1 + u17.1, (0, 0).2 + u17.2) x m18)))))) ∧ (Int32.ofNat (swMap.getD v1.toNatClampNeg 0) = 4 → Cl X d 4 [vp 0 0, vi (m2 27 q1 0)] (G x m2) (fun r => (∃ (v19 : Int32) (m20 : MI), r = (.inl (some (vi v19)), G x m20) ∧ Q (.inl (some (vi 45)), G x m20)) ∨ (∃ (k21 : Nat) (u22 : Nat × Nat) (m23 : MI), r = (.inr k21, Gu u22 x m23) ∧ ((k21 = 0 → Q (.inl (some (vi 97)), Gu ((0, 0).1 + u22.1, (0, 0).2 + u22.2) x m23)) ∧ (k21 = 1 → Q (.inl (some (vi 115)), Gu ((0, 0).1 + u22.1, (0, 0).2 + u22.2) x m23)) ∧ (k21 = 2 → Q (.inl (some (vi 101)), Gu ((0, 0).1 + u22.1, (0, 0).2 + u22.2) x m23)) ∧ (k21 = 3 → Q (.inl (some (vi 117)), Gu ((0, 0).1 + u22.1, (0, 0).2 + u22.2) x m23)) ∧ ((¬ k21 = 0 ∧ ¬ k21 = 1 ∧ ¬ k21 = 2 ∧ ¬ k21 = 3) → Q (.inr k21, Gu ((0, 0).1 + u22.1, (0, 0).2 + u22.2) x m23)))))) ∧ (Int32.ofNat (swMap.getD v1.toNatClampNeg 0) = 5 → Cl X d 5 [vp 0 0, vi (((m2 27 q1 0).toUInt32 % 65536).toInt32)] (G x m2) (fun r => (∃ (v24 : Int32) (m25 : MI), r = (.inl (some (vi v24)), G x m25) ∧ Q (.inl (some (vi 45)), G x m25)) ∨ (∃ (k26 : Nat) (u27 : Nat × Nat) (m28 : MI), r = (.inr k26, Gu u27 x m28) ∧ ((k26 = 0 → Q (.inl (some (vi 97)), Gu ((0, 0).1 + u27.1, (0, 0).2 + u27.2) x m28)) ∧ (k26 = 1 → Q (.inl (some (vi 115)), Gu ((0, 0).1 + u27.1, (0, 0).2 + u27.2) x m28)) ∧ (k26 = 2 → Q (.inl (some (vi 101)), Gu ((0, 0).1 + u27.1, (0, 0).2 + u27.2) x m28)) ∧ (k26 = 3 → Q (.inl (some (vi 117)), Gu ((0, 0).1 + u27.1, (0, 0).2 + u27.2) x m28)) ∧ ((¬ k26 = 0 ∧ ¬ k26 = 1 ∧ ¬ k26 = 2 ∧ ¬ k26 = 3) → Q (.inr k26, Gu ((0, 0).1 + u27.1, (0, 0).2 + u27.2) x m28)))))) ∧ (Int32.ofNat (swMap.getD v1.toNatClampNeg 0) = 6 → Cl X d 6 [vp 0 0, vi (m2 27 q1 0), vi (m2 27 q1 1)] (G x m2) (fun r => (∃ (v29 : Int32) (m30 : MI), r = (.inl (some (vi v29)), G x m30) ∧ Q (.inl (some (vi 45)), G x m30)) ∨ (∃ (k31 : Nat) (u32 : Nat × Nat) (m33 : MI), r = (.inr k31, Gu u32 x m33) ∧ ((k31 = 0 → Q (.inl (some (vi 97)), Gu ((0, 0).1 + u32.1, (0, 0).2 + u32.2) x m33)) ∧ (k31 = 1 → Q (.inl (some (vi 115)), Gu ((0, 0).1 + u32.1, (0, 0).2 + u32.2) x m33)) ∧ (k31 = 2 → Q (.inl (some (vi 101)), Gu ((0, 0).1 + u32.1, (0, 0).2 + u32.2) x m33)) ∧ (k31 = 3 → Q (.inl (some (vi 117)), Gu ((0, 0).1 + u32.1, (0, 0).2 + u32.2) x m33)) ∧ ((¬ k31 = 0 ∧ ¬ k31 = 1 ∧ ¬ k31 = 2 ∧ ¬ k31 = 3) → Q (.inr k31, Gu ((0, 0).1 + u32.1, (0, 0).2 + u32.2) x m33)))))) ∧ (Int32.ofNat (swMap.getD v1.toNatClampNeg 0) = 7 → Cl X d 7 [vp 0 0] (G x m2) (fun r => ∃ (v34 : Int32) (m35 : MI), r = (.inl (some (vi v34)), G x m35) ∧ Q (.inl (some (vi 45)), G x m35))) ∧ (Int32.ofNat (swMap.getD v1.toNatClampNeg 0) = 8 → Cl X d 8 [vp 0 0, vi (m2 27 q1 0), vi (m2 27 q1 1)] (G x m2) (fun r => (∃ (v36 : Int32) (m37 : MI), r = (.inl (some (vi v36)), G x m37) ∧ Q (.inl (some (vi 45)), G x m37)) ∨ (∃ (k38 : Nat) (u39 : Nat × Nat) (m40 : MI), r = (.inr k38, Gu u39 x m40) ∧ ((k38 = 0 → Q (.inl (some (vi 97)), Gu ((0, 0).1 + u39.1, (0, 0).2 + u39.2) x m40)) ∧ (k38 = 1 → Q (.inl (some (vi 115)), Gu ((0, 0).1 + u39.1, (0, 0).2 + u39.2) x m40)) ∧ (k38 = 2 → Q (.inl (some (vi 101)), Gu ((0, 0).1 + u39.1, (0, 0).2 + u39.2) x m40)) ∧ (k38 = 3 → Q (.inl (some (vi 117)), Gu ((0, 0).1 + u39.1, (0, 0).2 + u39.2) x m40)) ∧ ((¬ k38 = 0 ∧ ¬ k38 = 1 ∧ ¬ k38 = 2 ∧ ¬ k38 = 3) → Q (.inr k38, Gu ((0, 0).1 + u39.1, (0, 0).2 + u39.2) x m40)))))) ∧ (Int32.ofNat (swMap.getD v1.toNatClampNeg 0) = 9 → Cl X d 9 [vp 0 0, vi 1] (G x m2) (fun r => (∃ (v41 : Int32) (m42 : MI), r = (.inl (some (vi v41)), G x m42) ∧ Q (.inl (some (vi 45)), G x m42)) ∨ (∃ (k43 : Nat) (u44 : Nat × Nat) (m45 : MI), r = (.inr k43, Gu u44 x m45) ∧ ((k43 = 0 → Q (.inl (some (vi 97)), Gu ((0, 0).1 + u44.1, (0, 0).2 + u44.2) x m45)) ∧ (k43 = 1 → Q (.inl (some (vi 115)), Gu ((0, 0).1 + u44.1, (0, 0).2 + u44.2) x m45)) ∧ (k43 = 2 → Q (.inl (some (vi 101)), Gu ((0, 0).1 + u44.1, (0, 0).2 + u44.2) x m45)) ∧ (k43 = 3 → Q (.inl (some (vi 117)), Gu ((0, 0).1 + u44.1, (0, 0).2 + u44.2) x m45)) ∧ ((¬ k43 = 0 ∧ ¬ k43 = 1 ∧ ¬ k43 = 2 ∧ ¬ k43 = 3) → Q (.inr k43, Gu ((0, 0).1 + u44.1, (0, 0).2 + u44.2) x m45)))))) ∧ (Int32.ofNat (swMap.getD v1.toNatClampNeg 0) = 10 → Cl X d 9 [vp 0 0, vi (m2 27 q1 0)] (G x m2) (fun r => (∃ (v46 : Int32) (m47 : MI), r = (.inl (some (vi v46)), G x m47) ∧ Q (.inl (some (vi 45)), G x m47)) ∨ (∃ (k48 : Nat) (u49 : Nat × Nat) (m50 : MI), r = (.inr k48, Gu u49 x m50) ∧ ((k48 = 0 → Q (.inl (some (vi 97)), Gu ((0, 0).1 + u49.1, (0, 0).2 + u49.2) x m50)) ∧ (k48 = 1 → Q (.inl (some (vi 115)), Gu ((0, 0).1 + u49.1, (0, 0).2 + u49.2) x m50)) ∧ (k48 = 2 → Q (.inl (some (vi 101)), Gu ((0, 0).1 + u49.1, (0, 0).2 + u49.2) x m50)) ∧ (k48 = 3 → Q (.inl (some (vi 117)), Gu ((0, 0).1 + u49.1, (0, 0).2 + u49.2) x m50)) ∧ ((¬ k48 = 0 ∧ ¬ k48 = 1 ∧ ¬ k48 = 2 ∧ ¬ k48 = 3) → Q (.inr k48, Gu ((0, 0).1 + u49.1, (0, 0).2 + u49.2) x m50)))))) ∧ ((¬ Int32.ofNat (swMap.getD v1.toNatClampNeg 0) = 1 ∧ ¬ Int32.ofNat (swMap.getD v1.toNatClampNeg 0) = 2 ∧ ¬ Int32.ofNat (swMap.getD v1.toNatClampNeg 0) = 3 ∧ ¬ Int32.ofNat (swMap.getD v1.toNatClampNeg 0) = 4 ∧ ¬ Int32.ofNat (swMap.getD v1.toNatClampNeg 0) = 5 ∧ ¬ Int32.ofNat (swMap.getD v1.toNatClampNeg 0) = 6 ∧ ¬ Int32.ofNat (swMap.getD v1.toNatClampNeg 0) = 7 ∧ ¬ Int32.ofNat (swMap.getD v1.toNatClampNeg 0) = 8 ∧ ¬ Int32.ofNat (swMap.getD v1.toNatClampNeg 0) = 9 ∧ ¬ Int32.ofNat (swMap.getD v1.toNatClampNeg 0) = 10) → Q (.inl (some (vi 45)), G x m2)))))) : Cl X (d + 1) 65 [vp 0 0, vs 2 n, vp 27 q1] (G x m) Q := by
  show Wp X (d + 1) 65 (0, ([some (vp 0 0), some (vs 2 n), some (vp 27 q1), none], ([], G x m))) Q
  refine wp_run 2 true (4, ([some (vp 0 0), some (vs 2 n), some (vp 27 q1), none], ([vs 2 n, vs 5 0], G x m))) rfl rfl ?_
  refine wp_call 330 [vs 2 n] (7, ([some (vp 0 0), some (vs 2 n), some (vp 27 q1), none], ([vs 5 0], G x m))) rfl rfl (Cl.mono h (Nat.le_refl _) ?_)
  rintro r ⟨v1, m2, rfl, h⟩
  · show Wp X (d + 1) 65 (7, ([some (vp 0 0), some (vs 2 n), some (vp 27 q1), none], ([vi v1, vs 5 0], G x m2))) Q
    obtain ⟨hg2_0, h⟩ := h
    refine wp_run 2 (inb v1 10 && true) ((swt 8 189 1 10 #[56, 76, 99, 110, 121, 133, 147, 155, 169, 178] (Int32.ofNat (swMap.getD v1.toNatClampNeg 0))), ([some (vp 0 0), some (vs 2 n), some (vp 27 q1), none], ([], G x m2))) rfl (and_t hg2_0 rfl) ?_
    by_cases c3_1 : Int32.ofNat (swMap.getD v1.toNatClampNeg 0) = 1
    · refine wp_pc (p2 := 64) (by rw [c3_1]; rfl) ?_
      have h := h.1 c3_1
      refine wp_run 13 true (77, ([some (vp 0 0), some (vs 2 n), some (vp 27 q1), none], ([vi (m2 27 q1 3), vi (m2 27 q1 2), vi (m2 27 q1 1), vi (m2 27 q1 0), vp 0 0], G x m2))) rfl rfl ?_
      refine wp_call 1 [vp 0 0, vi (m2 27 q1 0), vi (m2 27 q1 1), vi (m2 27 q1 2), vi (m2 27 q1 3)] (80, ([some (vp 0 0), some (vs 2 n), some (vp 27 q1), none], ([], G x m2))) rfl rfl (Cl.mono h (Nat.le_refl _) ?_)
      intro r hr
      rcases hr with ⟨v4, m5, rfl, h⟩ | ⟨k6, u7, m8, rfl, h⟩
      · show Wp X (d + 1) 65 (80, ([some (vp 0 0), some (vs 2 n), some (vp 27 q1), none], ([vi v4], G x m5))) Q
        refine wp_run 4 true (218, ([some (vp 0 0), some (vs 2 n), some (vp 27 q1), none], ([vi 45], G x m5))) rfl rfl ?_
        exact wp_ret rfl h
      · have hk := h
        by_cases c_0 : k6 = 0
        · subst c_0
          have h := hk.1 rfl
          show Wp X (d + 1) 65 (201, ([some (vp 0 0), some (vs 2 n), some (vp 27 q1), none], ([], Gu ((0, 0).1 + u7.1, (0, 0).2 + u7.2) x m8))) Q
          refine wp_run 1 true (203, ([some (vp 0 0), some (vs 2 n), some (vp 27 q1), none], ([vi 97], Gu ((0, 0).1 + u7.1, (0, 0).2 + u7.2) x m8))) rfl rfl ?_
          exact wp_ret rfl h
        by_cases c_1 : k6 = 1
        · subst c_1
          have h := hk.2.1 rfl
          show Wp X (d + 1) 65 (205, ([some (vp 0 0), some (vs 2 n), some (vp 27 q1), none], ([], Gu ((0, 0).1 + u7.1, (0, 0).2 + u7.2) x m8))) Q
          refine wp_run 1 true (207, ([some (vp 0 0), some (vs 2 n), some (vp 27 q1), none], ([vi 115], Gu ((0, 0).1 + u7.1, (0, 0).2 + u7.2) x m8))) rfl rfl ?_
          exact wp_ret rfl h
        by_cases c_2 : k6 = 2
        · subst c_2
          have h := hk.2.2.1 rfl
          show Wp X (d + 1) 65 (209, ([some (vp 0 0), some (vs 2 n), some (vp 27 q1), none], ([], Gu ((0, 0).1 + u7.1, (0, 0).2 + u7.2) x m8))) Q
          refine wp_run 1 true (211, ([some (vp 0 0), some (vs 2 n), some (vp 27 q1), none], ([vi 101], Gu ((0, 0).1 + u7.1, (0, 0).2 + u7.2) x m8))) rfl rfl ?_
          exact wp_ret rfl h
        by_cases c_3 : k6 = 3
        · subst c_3
          have h := hk.2.2.2.1 rfl
          show Wp X (d + 1) 65 (213, ([some (vp 0 0), some (vs 2 n), some (vp 27 q1), none], ([], Gu ((0, 0).1 + u7.1, (0, 0).2 + u7.2) x m8))) Q
          refine wp_run 1 true (215, ([some (vp 0 0), some (vs 2 n), some (vp 27 q1), none], ([vi 117], Gu ((0, 0).1 + u7.1, (0, 0).2 + u7.2) x m8))) rfl rfl ?_
          exact wp_ret rfl h
        have h := hk.2.2.2.2 ⟨c_0, c_1, c_2, c_3⟩
        have hn : hfind (mhd 65) 77 k6 = none := by
          simp only [show mhd 65 = [(0, (197, (200, (3, 0)))), (0, (197, (204, (3, 1)))), (0, (197, (208, (3, 2)))), (0, (197, (212, (3, 3))))] from rfl, hfind, cond_eq_ite]
          simp [Ne.symm c_0, c_0, Ne.symm c_1, c_1, Ne.symm c_2, c_2, Ne.symm c_3, c_3]
        show Kal X (d + 1) 65 77 (80, ([some (vp 0 0), some (vs 2 n), some (vp 27 q1), none], ([], G x m2))) Q (.inr k6, Gu u7 x m8)
        unfold Kal
        dsimp only
        rw [hn]
        exact h
    by_cases c3_2 : Int32.ofNat (swMap.getD v1.toNatClampNeg 0) = 2
    · refine wp_pc (p2 := 84) (by rw [c3_2]; rfl) ?_
      have h := h.2.1 c3_2
      refine wp_run 16 true (100, ([some (vp 0 0), some (vs 2 n), some (vp 27 q1), none], ([vi (m2 27 q1 4), vi (m2 27 q1 3), vi (m2 27 q1 2), vi (m2 27 q1 1), vi (m2 27 q1 0), vp 0 0], G x m2))) rfl rfl ?_
      refine wp_call 2 [vp 0 0, vi (m2 27 q1 0), vi (m2 27 q1 1), vi (m2 27 q1 2), vi (m2 27 q1 3), vi (m2 27 q1 4)] (103, ([some (vp 0 0), some (vs 2 n), some (vp 27 q1), none], ([], G x m2))) rfl rfl (Cl.mono h (Nat.le_refl _) ?_)
      intro r hr
      rcases hr with ⟨v9, m10, rfl, h⟩ | ⟨k11, u12, m13, rfl, h⟩
      · show Wp X (d + 1) 65 (103, ([some (vp 0 0), some (vs 2 n), some (vp 27 q1), none], ([vi v9], G x m10))) Q
        refine wp_run 4 true (218, ([some (vp 0 0), some (vs 2 n), some (vp 27 q1), none], ([vi 45], G x m10))) rfl rfl ?_
        exact wp_ret rfl h
      · have hk := h
        by_cases c_0 : k11 = 0
        · subst c_0
          have h := hk.1 rfl
          show Wp X (d + 1) 65 (201, ([some (vp 0 0), some (vs 2 n), some (vp 27 q1), none], ([], Gu ((0, 0).1 + u12.1, (0, 0).2 + u12.2) x m13))) Q
          refine wp_run 1 true (203, ([some (vp 0 0), some (vs 2 n), some (vp 27 q1), none], ([vi 97], Gu ((0, 0).1 + u12.1, (0, 0).2 + u12.2) x m13))) rfl rfl ?_
          exact wp_ret rfl h
        by_cases c_1 : k11 = 1
        · subst c_1
          have h := hk.2.1 rfl
          show Wp X (d + 1) 65 (205, ([some (vp 0 0), some (vs 2 n), some (vp 27 q1), none], ([], Gu ((0, 0).1 + u12.1, (0, 0).2 + u12.2) x m13))) Q
          refine wp_run 1 true (207, ([some (vp 0 0), some (vs 2 n), some (vp 27 q1), none], ([vi 115], Gu ((0, 0).1 + u12.1, (0, 0).2 + u12.2) x m13))) rfl rfl ?_
          exact wp_ret rfl h
        by_cases c_2 : k11 = 2
        · subst c_2
          have h := hk.2.2.1 rfl
          show Wp X (d + 1) 65 (209, ([some (vp 0 0), some (vs 2 n), some (vp 27 q1), none], ([], Gu ((0, 0).1 + u12.1, (0, 0).2 + u12.2) x m13))) Q
          refine wp_run 1 true (211, ([some (vp 0 0), some (vs 2 n), some (vp 27 q1), none], ([vi 101], Gu ((0, 0).1 + u12.1, (0, 0).2 + u12.2) x m13))) rfl rfl ?_
          exact wp_ret rfl h
        by_cases c_3 : k11 = 3
        · subst c_3
          have h := hk.2.2.2.1 rfl
          show Wp X (d + 1) 65 (213, ([some (vp 0 0), some (vs 2 n), some (vp 27 q1), none], ([], Gu ((0, 0).1 + u12.1, (0, 0).2 + u12.2) x m13))) Q
          refine wp_run 1 true (215, ([some (vp 0 0), some (vs 2 n), some (vp 27 q1), none], ([vi 117], Gu ((0, 0).1 + u12.1, (0, 0).2 + u12.2) x m13))) rfl rfl ?_
          exact wp_ret rfl h
        have h := hk.2.2.2.2 ⟨c_0, c_1, c_2, c_3⟩
        have hn : hfind (mhd 65) 100 k11 = none := by
          simp only [show mhd 65 = [(0, (197, (200, (3, 0)))), (0, (197, (204, (3, 1)))), (0, (197, (208, (3, 2)))), (0, (197, (212, (3, 3))))] from rfl, hfind, cond_eq_ite]
          simp [Ne.symm c_0, c_0, Ne.symm c_1, c_1, Ne.symm c_2, c_2, Ne.symm c_3, c_3]
        show Kal X (d + 1) 65 100 (103, ([some (vp 0 0), some (vs 2 n), some (vp 27 q1), none], ([], G x m2))) Q (.inr k11, Gu u12 x m13)
        unfold Kal
        dsimp only
        rw [hn]
        exact h
    by_cases c3_3 : Int32.ofNat (swMap.getD v1.toNatClampNeg 0) = 3
    · refine wp_pc (p2 := 107) (by rw [c3_3]; rfl) ?_
      have h := h.2.2.1 c3_3
      refine wp_run 4 true (111, ([some (vp 0 0), some (vs 2 n), some (vp 27 q1), none], ([vi (m2 27 q1 0), vp 0 0], G x m2))) rfl rfl ?_
      refine wp_call 3 [vp 0 0, vi (m2 27 q1 0)] (114, ([some (vp 0 0), some (vs 2 n), some (vp 27 q1), none], ([], G x m2))) rfl rfl (Cl.mono h (Nat.le_refl _) ?_)
      intro r hr
      rcases hr with ⟨v14, m15, rfl, h⟩ | ⟨k16, u17, m18, rfl, h⟩
      · show Wp X (d + 1) 65 (114, ([some (vp 0 0), some (vs 2 n), some (vp 27 q1), none], ([vi v14], G x m15))) Q
        refine wp_run 4 true (218, ([some (vp 0 0), some (vs 2 n), some (vp 27 q1), none], ([vi 45], G x m15))) rfl rfl ?_
        exact wp_ret rfl h
      · have hk := h
        by_cases c_0 : k16 = 0
        · subst c_0
          have h := hk.1 rfl
          show Wp X (d + 1) 65 (201, ([some (vp 0 0), some (vs 2 n), some (vp 27 q1), none], ([], Gu ((0, 0).1 + u17.1, (0, 0).2 + u17.2) x m18))) Q
          refine wp_run 1 true (203, ([some (vp 0 0), some (vs 2 n), some (vp 27 q1), none], ([vi 97], Gu ((0, 0).1 + u17.1, (0, 0).2 + u17.2) x m18))) rfl rfl ?_
          exact wp_ret rfl h
        by_cases c_1 : k16 = 1
        · subst c_1
          have h := hk.2.1 rfl
          show Wp X (d + 1) 65 (205, ([some (vp 0 0), some (vs 2 n), some (vp 27 q1), none], ([], Gu ((0, 0).1 + u17.1, (0, 0).2 + u17.2) x m18))) Q
          refine wp_run 1 true (207, ([some (vp 0 0), some (vs 2 n), some (vp 27 q1), none], ([vi 115], Gu ((0, 0).1 + u17.1, (0, 0).2 + u17.2) x m18))) rfl rfl ?_
          exact wp_ret rfl h
        by_cases c_2 : k16 = 2
        · subst c_2
          have h := hk.2.2.1 rfl
          show Wp X (d + 1) 65 (209, ([some (vp 0 0), some (vs 2 n), some (vp 27 q1), none], ([], Gu ((0, 0).1 + u17.1, (0, 0).2 + u17.2) x m18))) Q
          refine wp_run 1 true (211, ([some (vp 0 0), some (vs 2 n), some (vp 27 q1), none], ([vi 101], Gu ((0, 0).1 + u17.1, (0, 0).2 + u17.2) x m18))) rfl rfl ?_
          exact wp_ret rfl h
        by_cases c_3 : k16 = 3
        · subst c_3
          have h := hk.2.2.2.1 rfl
          show Wp X (d + 1) 65 (213, ([some (vp 0 0), some (vs 2 n), some (vp 27 q1), none], ([], Gu ((0, 0).1 + u17.1, (0, 0).2 + u17.2) x m18))) Q
          refine wp_run 1 true (215, ([some (vp 0 0), some (vs 2 n), some (vp 27 q1), none], ([vi 117], Gu ((0, 0).1 + u17.1, (0, 0).2 + u17.2) x m18))) rfl rfl ?_
          exact wp_ret rfl h
        have h := hk.2.2.2.2 ⟨c_0, c_1, c_2, c_3⟩
        have hn : hfind (mhd 65) 111 k16 = none := by
          simp only [show mhd 65 = [(0, (197, (200, (3, 0)))), (0, (197, (204, (3, 1)))), (0, (197, (208, (3, 2)))), (0, (197, (212, (3, 3))))] from rfl, hfind, cond_eq_ite]
          simp [Ne.symm c_0, c_0, Ne.symm c_1, c_1, Ne.symm c_2, c_2, Ne.symm c_3, c_3]
        show Kal X (d + 1) 65 111 (114, ([some (vp 0 0), some (vs 2 n), some (vp 27 q1), none], ([], G x m2))) Q (.inr k16, Gu u17 x m18)
        unfold Kal
        dsimp only
        rw [hn]
        exact h
    by_cases c3_4 : Int32.ofNat (swMap.getD v1.toNatClampNeg 0) = 4
    · refine wp_pc (p2 := 118) (by rw [c3_4]; rfl) ?_
      have h := h.2.2.2.1 c3_4
      refine wp_run 4 true (122, ([some (vp 0 0), some (vs 2 n), some (vp 27 q1), none], ([vi (m2 27 q1 0), vp 0 0], G x m2))) rfl rfl ?_
      refine wp_call 4 [vp 0 0, vi (m2 27 q1 0)] (125, ([some (vp 0 0), some (vs 2 n), some (vp 27 q1), none], ([], G x m2))) rfl rfl (Cl.mono h (Nat.le_refl _) ?_)
      intro r hr
      rcases hr with ⟨v19, m20, rfl, h⟩ | ⟨k21, u22, m23, rfl, h⟩
      · show Wp X (d + 1) 65 (125, ([some (vp 0 0), some (vs 2 n), some (vp 27 q1), none], ([vi v19], G x m20))) Q
        refine wp_run 4 true (218, ([some (vp 0 0), some (vs 2 n), some (vp 27 q1), none], ([vi 45], G x m20))) rfl rfl ?_
        exact wp_ret rfl h
      · have hk := h
        by_cases c_0 : k21 = 0
        · subst c_0
          have h := hk.1 rfl
          show Wp X (d + 1) 65 (201, ([some (vp 0 0), some (vs 2 n), some (vp 27 q1), none], ([], Gu ((0, 0).1 + u22.1, (0, 0).2 + u22.2) x m23))) Q
          refine wp_run 1 true (203, ([some (vp 0 0), some (vs 2 n), some (vp 27 q1), none], ([vi 97], Gu ((0, 0).1 + u22.1, (0, 0).2 + u22.2) x m23))) rfl rfl ?_
          exact wp_ret rfl h
        by_cases c_1 : k21 = 1
        · subst c_1
          have h := hk.2.1 rfl
          show Wp X (d + 1) 65 (205, ([some (vp 0 0), some (vs 2 n), some (vp 27 q1), none], ([], Gu ((0, 0).1 + u22.1, (0, 0).2 + u22.2) x m23))) Q
          refine wp_run 1 true (207, ([some (vp 0 0), some (vs 2 n), some (vp 27 q1), none], ([vi 115], Gu ((0, 0).1 + u22.1, (0, 0).2 + u22.2) x m23))) rfl rfl ?_
          exact wp_ret rfl h
        by_cases c_2 : k21 = 2
        · subst c_2
          have h := hk.2.2.1 rfl
          show Wp X (d + 1) 65 (209, ([some (vp 0 0), some (vs 2 n), some (vp 27 q1), none], ([], Gu ((0, 0).1 + u22.1, (0, 0).2 + u22.2) x m23))) Q
          refine wp_run 1 true (211, ([some (vp 0 0), some (vs 2 n), some (vp 27 q1), none], ([vi 101], Gu ((0, 0).1 + u22.1, (0, 0).2 + u22.2) x m23))) rfl rfl ?_
          exact wp_ret rfl h
        by_cases c_3 : k21 = 3
        · subst c_3
          have h := hk.2.2.2.1 rfl
          show Wp X (d + 1) 65 (213, ([some (vp 0 0), some (vs 2 n), some (vp 27 q1), none], ([], Gu ((0, 0).1 + u22.1, (0, 0).2 + u22.2) x m23))) Q
          refine wp_run 1 true (215, ([some (vp 0 0), some (vs 2 n), some (vp 27 q1), none], ([vi 117], Gu ((0, 0).1 + u22.1, (0, 0).2 + u22.2) x m23))) rfl rfl ?_
          exact wp_ret rfl h
        have h := hk.2.2.2.2 ⟨c_0, c_1, c_2, c_3⟩
        have hn : hfind (mhd 65) 122 k21 = none := by
          simp only [show mhd 65 = [(0, (197, (200, (3, 0)))), (0, (197, (204, (3, 1)))), (0, (197, (208, (3, 2)))), (0, (197, (212, (3, 3))))] from rfl, hfind, cond_eq_ite]
          simp [Ne.symm c_0, c_0, Ne.symm c_1, c_1, Ne.symm c_2, c_2, Ne.symm c_3, c_3]
        show Kal X (d + 1) 65 122 (125, ([some (vp 0 0), some (vs 2 n), some (vp 27 q1), none], ([], G x m2))) Q (.inr k21, Gu u22 x m23)
        unfold Kal
        dsimp only
        rw [hn]
        exact h
    by_cases c3_5 : Int32.ofNat (swMap.getD v1.toNatClampNeg 0) = 5
    · refine wp_pc (p2 := 129) (by rw [c3_5]; rfl) ?_
      have h := h.2.2.2.2.1 c3_5
      refine wp_run 5 true (134, ([some (vp 0 0), some (vs 2 n), some (vp 27 q1), none], ([vi (((m2 27 q1 0).toUInt32 % 65536).toInt32), vp 0 0], G x m2))) rfl rfl ?_
      refine wp_call 5 [vp 0 0, vi (((m2 27 q1 0).toUInt32 % 65536).toInt32)] (137, ([some (vp 0 0), some (vs 2 n), some (vp 27 q1), none], ([], G x m2))) rfl rfl (Cl.mono h (Nat.le_refl _) ?_)
      intro r hr
      rcases hr with ⟨v24, m25, rfl, h⟩ | ⟨k26, u27, m28, rfl, h⟩
      · show Wp X (d + 1) 65 (137, ([some (vp 0 0), some (vs 2 n), some (vp 27 q1), none], ([vi v24], G x m25))) Q
        refine wp_run 4 true (218, ([some (vp 0 0), some (vs 2 n), some (vp 27 q1), none], ([vi 45], G x m25))) rfl rfl ?_
        exact wp_ret rfl h
      · have hk := h
        by_cases c_0 : k26 = 0
        · subst c_0
          have h := hk.1 rfl
          show Wp X (d + 1) 65 (201, ([some (vp 0 0), some (vs 2 n), some (vp 27 q1), none], ([], Gu ((0, 0).1 + u27.1, (0, 0).2 + u27.2) x m28))) Q
          refine wp_run 1 true (203, ([some (vp 0 0), some (vs 2 n), some (vp 27 q1), none], ([vi 97], Gu ((0, 0).1 + u27.1, (0, 0).2 + u27.2) x m28))) rfl rfl ?_
          exact wp_ret rfl h
        by_cases c_1 : k26 = 1
        · subst c_1
          have h := hk.2.1 rfl
          show Wp X (d + 1) 65 (205, ([some (vp 0 0), some (vs 2 n), some (vp 27 q1), none], ([], Gu ((0, 0).1 + u27.1, (0, 0).2 + u27.2) x m28))) Q
          refine wp_run 1 true (207, ([some (vp 0 0), some (vs 2 n), some (vp 27 q1), none], ([vi 115], Gu ((0, 0).1 + u27.1, (0, 0).2 + u27.2) x m28))) rfl rfl ?_
          exact wp_ret rfl h
        by_cases c_2 : k26 = 2
        · subst c_2
          have h := hk.2.2.1 rfl
          show Wp X (d + 1) 65 (209, ([some (vp 0 0), some (vs 2 n), some (vp 27 q1), none], ([], Gu ((0, 0).1 + u27.1, (0, 0).2 + u27.2) x m28))) Q
          refine wp_run 1 true (211, ([some (vp 0 0), some (vs 2 n), some (vp 27 q1), none], ([vi 101], Gu ((0, 0).1 + u27.1, (0, 0).2 + u27.2) x m28))) rfl rfl ?_
          exact wp_ret rfl h
        by_cases c_3 : k26 = 3
        · subst c_3
          have h := hk.2.2.2.1 rfl
          show Wp X (d + 1) 65 (213, ([some (vp 0 0), some (vs 2 n), some (vp 27 q1), none], ([], Gu ((0, 0).1 + u27.1, (0, 0).2 + u27.2) x m28))) Q
          refine wp_run 1 true (215, ([some (vp 0 0), some (vs 2 n), some (vp 27 q1), none], ([vi 117], Gu ((0, 0).1 + u27.1, (0, 0).2 + u27.2) x m28))) rfl rfl ?_
          exact wp_ret rfl h
        have h := hk.2.2.2.2 ⟨c_0, c_1, c_2, c_3⟩
        have hn : hfind (mhd 65) 134 k26 = none := by
          simp only [show mhd 65 = [(0, (197, (200, (3, 0)))), (0, (197, (204, (3, 1)))), (0, (197, (208, (3, 2)))), (0, (197, (212, (3, 3))))] from rfl, hfind, cond_eq_ite]
          simp [Ne.symm c_0, c_0, Ne.symm c_1, c_1, Ne.symm c_2, c_2, Ne.symm c_3, c_3]
        show Kal X (d + 1) 65 134 (137, ([some (vp 0 0), some (vs 2 n), some (vp 27 q1), none], ([], G x m2))) Q (.inr k26, Gu u27 x m28)
        unfold Kal
        dsimp only
        rw [hn]
        exact h
    by_cases c3_6 : Int32.ofNat (swMap.getD v1.toNatClampNeg 0) = 6
    · refine wp_pc (p2 := 141) (by rw [c3_6]; rfl) ?_
      have h := h.2.2.2.2.2.1 c3_6
      refine wp_run 7 true (148, ([some (vp 0 0), some (vs 2 n), some (vp 27 q1), none], ([vi (m2 27 q1 1), vi (m2 27 q1 0), vp 0 0], G x m2))) rfl rfl ?_
      refine wp_call 6 [vp 0 0, vi (m2 27 q1 0), vi (m2 27 q1 1)] (151, ([some (vp 0 0), some (vs 2 n), some (vp 27 q1), none], ([], G x m2))) rfl rfl (Cl.mono h (Nat.le_refl _) ?_)
      intro r hr
      rcases hr with ⟨v29, m30, rfl, h⟩ | ⟨k31, u32, m33, rfl, h⟩
      · show Wp X (d + 1) 65 (151, ([some (vp 0 0), some (vs 2 n), some (vp 27 q1), none], ([vi v29], G x m30))) Q
        refine wp_run 4 true (218, ([some (vp 0 0), some (vs 2 n), some (vp 27 q1), none], ([vi 45], G x m30))) rfl rfl ?_
        exact wp_ret rfl h
      · have hk := h
        by_cases c_0 : k31 = 0
        · subst c_0
          have h := hk.1 rfl
          show Wp X (d + 1) 65 (201, ([some (vp 0 0), some (vs 2 n), some (vp 27 q1), none], ([], Gu ((0, 0).1 + u32.1, (0, 0).2 + u32.2) x m33))) Q
          refine wp_run 1 true (203, ([some (vp 0 0), some (vs 2 n), some (vp 27 q1), none], ([vi 97], Gu ((0, 0).1 + u32.1, (0, 0).2 + u32.2) x m33))) rfl rfl ?_
          exact wp_ret rfl h
        by_cases c_1 : k31 = 1
        · subst c_1
          have h := hk.2.1 rfl
          show Wp X (d + 1) 65 (205, ([some (vp 0 0), some (vs 2 n), some (vp 27 q1), none], ([], Gu ((0, 0).1 + u32.1, (0, 0).2 + u32.2) x m33))) Q
          refine wp_run 1 true (207, ([some (vp 0 0), some (vs 2 n), some (vp 27 q1), none], ([vi 115], Gu ((0, 0).1 + u32.1, (0, 0).2 + u32.2) x m33))) rfl rfl ?_
          exact wp_ret rfl h
        by_cases c_2 : k31 = 2
        · subst c_2
          have h := hk.2.2.1 rfl
          show Wp X (d + 1) 65 (209, ([some (vp 0 0), some (vs 2 n), some (vp 27 q1), none], ([], Gu ((0, 0).1 + u32.1, (0, 0).2 + u32.2) x m33))) Q
          refine wp_run 1 true (211, ([some (vp 0 0), some (vs 2 n), some (vp 27 q1), none], ([vi 101], Gu ((0, 0).1 + u32.1, (0, 0).2 + u32.2) x m33))) rfl rfl ?_
          exact wp_ret rfl h
        by_cases c_3 : k31 = 3
        · subst c_3
          have h := hk.2.2.2.1 rfl
          show Wp X (d + 1) 65 (213, ([some (vp 0 0), some (vs 2 n), some (vp 27 q1), none], ([], Gu ((0, 0).1 + u32.1, (0, 0).2 + u32.2) x m33))) Q
          refine wp_run 1 true (215, ([some (vp 0 0), some (vs 2 n), some (vp 27 q1), none], ([vi 117], Gu ((0, 0).1 + u32.1, (0, 0).2 + u32.2) x m33))) rfl rfl ?_
          exact wp_ret rfl h
        have h := hk.2.2.2.2 ⟨c_0, c_1, c_2, c_3⟩
        have hn : hfind (mhd 65) 148 k31 = none := by
          simp only [show mhd 65 = [(0, (197, (200, (3, 0)))), (0, (197, (204, (3, 1)))), (0, (197, (208, (3, 2)))), (0, (197, (212, (3, 3))))] from rfl, hfind, cond_eq_ite]
          simp [Ne.symm c_0, c_0, Ne.symm c_1, c_1, Ne.symm c_2, c_2, Ne.symm c_3, c_3]
        show Kal X (d + 1) 65 148 (151, ([some (vp 0 0), some (vs 2 n), some (vp 27 q1), none], ([], G x m2))) Q (.inr k31, Gu u32 x m33)
        unfold Kal
        dsimp only
        rw [hn]
        exact h
    by_cases c3_7 : Int32.ofNat (swMap.getD v1.toNatClampNeg 0) = 7
    · refine wp_pc (p2 := 155) (by rw [c3_7]; rfl) ?_
      have h := h.2.2.2.2.2.2.1 c3_7
      refine wp_run 1 true (156, ([some (vp 0 0), some (vs 2 n), some (vp 27 q1), none], ([vp 0 0], G x m2))) rfl rfl ?_
      refine wp_call 7 [vp 0 0] (159, ([some (vp 0 0), some (vs 2 n), some (vp 27 q1), none], ([], G x m2))) rfl rfl (Cl.mono h (Nat.le_refl _) ?_)
      rintro r ⟨v34, m35, rfl, h⟩
      · show Wp X (d + 1) 65 (159, ([some (vp 0 0), some (vs 2 n), some (vp 27 q1), none], ([vi v34], G x m35))) Q
        refine wp_run 4 true (218, ([some (vp 0 0), some (vs 2 n), some (vp 27 q1), none], ([vi 45], G x m35))) rfl rfl ?_
        exact wp_ret rfl h
    by_cases c3_8 : Int32.ofNat (swMap.getD v1.toNatClampNeg 0) = 8
    · refine wp_pc (p2 := 163) (by rw [c3_8]; rfl) ?_
      have h := h.2.2.2.2.2.2.2.1 c3_8
      refine wp_run 7 true (170, ([some (vp 0 0), some (vs 2 n), some (vp 27 q1), none], ([vi (m2 27 q1 1), vi (m2 27 q1 0), vp 0 0], G x m2))) rfl rfl ?_
      refine wp_call 8 [vp 0 0, vi (m2 27 q1 0), vi (m2 27 q1 1)] (173, ([some (vp 0 0), some (vs 2 n), some (vp 27 q1), none], ([], G x m2))) rfl rfl (Cl.mono h (Nat.le_refl _) ?_)
      intro r hr
      rcases hr with ⟨v36, m37, rfl, h⟩ | ⟨k38, u39, m40, rfl, h⟩
      · show Wp X (d + 1) 65 (173, ([some (vp 0 0), some (vs 2 n), some (vp 27 q1), none], ([vi v36], G x m37))) Q
        refine wp_run 4 true (218, ([some (vp 0 0), some (vs 2 n), some (vp 27 q1), none], ([vi 45], G x m37))) rfl rfl ?_
        exact wp_ret rfl h
      · have hk := h
        by_cases c_0 : k38 = 0
        · subst c_0
          have h := hk.1 rfl
          show Wp X (d + 1) 65 (201, ([some (vp 0 0), some (vs 2 n), some (vp 27 q1), none], ([], Gu ((0, 0).1 + u39.1, (0, 0).2 + u39.2) x m40))) Q
          refine wp_run 1 true (203, ([some (vp 0 0), some (vs 2 n), some (vp 27 q1), none], ([vi 97], Gu ((0, 0).1 + u39.1, (0, 0).2 + u39.2) x m40))) rfl rfl ?_
          exact wp_ret rfl h
        by_cases c_1 : k38 = 1
        · subst c_1
          have h := hk.2.1 rfl
          show Wp X (d + 1) 65 (205, ([some (vp 0 0), some (vs 2 n), some (vp 27 q1), none], ([], Gu ((0, 0).1 + u39.1, (0, 0).2 + u39.2) x m40))) Q
          refine wp_run 1 true (207, ([some (vp 0 0), some (vs 2 n), some (vp 27 q1), none], ([vi 115], Gu ((0, 0).1 + u39.1, (0, 0).2 + u39.2) x m40))) rfl rfl ?_
          exact wp_ret rfl h
        by_cases c_2 : k38 = 2
        · subst c_2
          have h := hk.2.2.1 rfl
          show Wp X (d + 1) 65 (209, ([some (vp 0 0), some (vs 2 n), some (vp 27 q1), none], ([], Gu ((0, 0).1 + u39.1, (0, 0).2 + u39.2) x m40))) Q
          refine wp_run 1 true (211, ([some (vp 0 0), some (vs 2 n), some (vp 27 q1), none], ([vi 101], Gu ((0, 0).1 + u39.1, (0, 0).2 + u39.2) x m40))) rfl rfl ?_
          exact wp_ret rfl h
        by_cases c_3 : k38 = 3
        · subst c_3
          have h := hk.2.2.2.1 rfl
          show Wp X (d + 1) 65 (213, ([some (vp 0 0), some (vs 2 n), some (vp 27 q1), none], ([], Gu ((0, 0).1 + u39.1, (0, 0).2 + u39.2) x m40))) Q
          refine wp_run 1 true (215, ([some (vp 0 0), some (vs 2 n), some (vp 27 q1), none], ([vi 117], Gu ((0, 0).1 + u39.1, (0, 0).2 + u39.2) x m40))) rfl rfl ?_
          exact wp_ret rfl h
        have h := hk.2.2.2.2 ⟨c_0, c_1, c_2, c_3⟩
        have hn : hfind (mhd 65) 170 k38 = none := by
          simp only [show mhd 65 = [(0, (197, (200, (3, 0)))), (0, (197, (204, (3, 1)))), (0, (197, (208, (3, 2)))), (0, (197, (212, (3, 3))))] from rfl, hfind, cond_eq_ite]
          simp [Ne.symm c_0, c_0, Ne.symm c_1, c_1, Ne.symm c_2, c_2, Ne.symm c_3, c_3]
        show Kal X (d + 1) 65 170 (173, ([some (vp 0 0), some (vs 2 n), some (vp 27 q1), none], ([], G x m2))) Q (.inr k38, Gu u39 x m40)
        unfold Kal
        dsimp only
        rw [hn]
        exact h
    by_cases c3_9 : Int32.ofNat (swMap.getD v1.toNatClampNeg 0) = 9
    · refine wp_pc (p2 := 177) (by rw [c3_9]; rfl) ?_
      have h := h.2.2.2.2.2.2.2.2.1 c3_9
      refine wp_run 2 true (179, ([some (vp 0 0), some (vs 2 n), some (vp 27 q1), none], ([vi 1, vp 0 0], G x m2))) rfl rfl ?_
      refine wp_call 9 [vp 0 0, vi 1] (182, ([some (vp 0 0), some (vs 2 n), some (vp 27 q1), none], ([], G x m2))) rfl rfl (Cl.mono h (Nat.le_refl _) ?_)
      intro r hr
      rcases hr with ⟨v41, m42, rfl, h⟩ | ⟨k43, u44, m45, rfl, h⟩
      · show Wp X (d + 1) 65 (182, ([some (vp 0 0), some (vs 2 n), some (vp 27 q1), none], ([vi v41], G x m42))) Q
        refine wp_run 4 true (218, ([some (vp 0 0), some (vs 2 n), some (vp 27 q1), none], ([vi 45], G x m42))) rfl rfl ?_
        exact wp_ret rfl h
      · have hk := h
        by_cases c_0 : k43 = 0
        · subst c_0
          have h := hk.1 rfl
          show Wp X (d + 1) 65 (201, ([some (vp 0 0), some (vs 2 n), some (vp 27 q1), none], ([], Gu ((0, 0).1 + u44.1, (0, 0).2 + u44.2) x m45))) Q
          refine wp_run 1 true (203, ([some (vp 0 0), some (vs 2 n), some (vp 27 q1), none], ([vi 97], Gu ((0, 0).1 + u44.1, (0, 0).2 + u44.2) x m45))) rfl rfl ?_
          exact wp_ret rfl h
        by_cases c_1 : k43 = 1
        · subst c_1
          have h := hk.2.1 rfl
          show Wp X (d + 1) 65 (205, ([some (vp 0 0), some (vs 2 n), some (vp 27 q1), none], ([], Gu ((0, 0).1 + u44.1, (0, 0).2 + u44.2) x m45))) Q
          refine wp_run 1 true (207, ([some (vp 0 0), some (vs 2 n), some (vp 27 q1), none], ([vi 115], Gu ((0, 0).1 + u44.1, (0, 0).2 + u44.2) x m45))) rfl rfl ?_
          exact wp_ret rfl h
        by_cases c_2 : k43 = 2
        · subst c_2
          have h := hk.2.2.1 rfl
          show Wp X (d + 1) 65 (209, ([some (vp 0 0), some (vs 2 n), some (vp 27 q1), none], ([], Gu ((0, 0).1 + u44.1, (0, 0).2 + u44.2) x m45))) Q
          refine wp_run 1 true (211, ([some (vp 0 0), some (vs 2 n), some (vp 27 q1), none], ([vi 101], Gu ((0, 0).1 + u44.1, (0, 0).2 + u44.2) x m45))) rfl rfl ?_
          exact wp_ret rfl h
        by_cases c_3 : k43 = 3
        · subst c_3
          have h := hk.2.2.2.1 rfl
          show Wp X (d + 1) 65 (213, ([some (vp 0 0), some (vs 2 n), some (vp 27 q1), none], ([], Gu ((0, 0).1 + u44.1, (0, 0).2 + u44.2) x m45))) Q
          refine wp_run 1 true (215, ([some (vp 0 0), some (vs 2 n), some (vp 27 q1), none], ([vi 117], Gu ((0, 0).1 + u44.1, (0, 0).2 + u44.2) x m45))) rfl rfl ?_
          exact wp_ret rfl h
        have h := hk.2.2.2.2 ⟨c_0, c_1, c_2, c_3⟩
        have hn : hfind (mhd 65) 179 k43 = none := by
          simp only [show mhd 65 = [(0, (197, (200, (3, 0)))), (0, (197, (204, (3, 1)))), (0, (197, (208, (3, 2)))), (0, (197, (212, (3, 3))))] from rfl, hfind, cond_eq_ite]
          simp [Ne.symm c_0, c_0, Ne.symm c_1, c_1, Ne.symm c_2, c_2, Ne.symm c_3, c_3]
        show Kal X (d + 1) 65 179 (182, ([some (vp 0 0), some (vs 2 n), some (vp 27 q1), none], ([], G x m2))) Q (.inr k43, Gu u44 x m45)
        unfold Kal
        dsimp only
        rw [hn]
        exact h
    by_cases c3_10 : Int32.ofNat (swMap.getD v1.toNatClampNeg 0) = 10
    · refine wp_pc (p2 := 186) (by rw [c3_10]; rfl) ?_
      have h := h.2.2.2.2.2.2.2.2.2.1 c3_10
      refine wp_run 4 true (190, ([some (vp 0 0), some (vs 2 n), some (vp 27 q1), none], ([vi (m2 27 q1 0), vp 0 0], G x m2))) rfl rfl ?_
      refine wp_call 9 [vp 0 0, vi (m2 27 q1 0)] (193, ([some (vp 0 0), some (vs 2 n), some (vp 27 q1), none], ([], G x m2))) rfl rfl (Cl.mono h (Nat.le_refl _) ?_)
      intro r hr
      rcases hr with ⟨v46, m47, rfl, h⟩ | ⟨k48, u49, m50, rfl, h⟩
      · show Wp X (d + 1) 65 (193, ([some (vp 0 0), some (vs 2 n), some (vp 27 q1), none], ([vi v46], G x m47))) Q
        refine wp_run 4 true (218, ([some (vp 0 0), some (vs 2 n), some (vp 27 q1), none], ([vi 45], G x m47))) rfl rfl ?_
        exact wp_ret rfl h
      · have hk := h
        by_cases c_0 : k48 = 0
        · subst c_0
          have h := hk.1 rfl
          show Wp X (d + 1) 65 (201, ([some (vp 0 0), some (vs 2 n), some (vp 27 q1), none], ([], Gu ((0, 0).1 + u49.1, (0, 0).2 + u49.2) x m50))) Q
          refine wp_run 1 true (203, ([some (vp 0 0), some (vs 2 n), some (vp 27 q1), none], ([vi 97], Gu ((0, 0).1 + u49.1, (0, 0).2 + u49.2) x m50))) rfl rfl ?_
          exact wp_ret rfl h
        by_cases c_1 : k48 = 1
        · subst c_1
          have h := hk.2.1 rfl
          show Wp X (d + 1) 65 (205, ([some (vp 0 0), some (vs 2 n), some (vp 27 q1), none], ([], Gu ((0, 0).1 + u49.1, (0, 0).2 + u49.2) x m50))) Q
          refine wp_run 1 true (207, ([some (vp 0 0), some (vs 2 n), some (vp 27 q1), none], ([vi 115], Gu ((0, 0).1 + u49.1, (0, 0).2 + u49.2) x m50))) rfl rfl ?_
          exact wp_ret rfl h
        by_cases c_2 : k48 = 2
        · subst c_2
          have h := hk.2.2.1 rfl
          show Wp X (d + 1) 65 (209, ([some (vp 0 0), some (vs 2 n), some (vp 27 q1), none], ([], Gu ((0, 0).1 + u49.1, (0, 0).2 + u49.2) x m50))) Q
          refine wp_run 1 true (211, ([some (vp 0 0), some (vs 2 n), some (vp 27 q1), none], ([vi 101], Gu ((0, 0).1 + u49.1, (0, 0).2 + u49.2) x m50))) rfl rfl ?_
          exact wp_ret rfl h
        by_cases c_3 : k48 = 3
        · subst c_3
          have h := hk.2.2.2.1 rfl
          show Wp X (d + 1) 65 (213, ([some (vp 0 0), some (vs 2 n), some (vp 27 q1), none], ([], Gu ((0, 0).1 + u49.1, (0, 0).2 + u49.2) x m50))) Q
          refine wp_run 1 true (215, ([some (vp 0 0), some (vs 2 n), some (vp 27 q1), none], ([vi 117], Gu ((0, 0).1 + u49.1, (0, 0).2 + u49.2) x m50))) rfl rfl ?_
          exact wp_ret rfl h
        have h := hk.2.2.2.2 ⟨c_0, c_1, c_2, c_3⟩
        have hn : hfind (mhd 65) 190 k48 = none := by
          simp only [show mhd 65 = [(0, (197, (200, (3, 0)))), (0, (197, (204, (3, 1)))), (0, (197, (208, (3, 2)))), (0, (197, (212, (3, 3))))] from rfl, hfind, cond_eq_ite]
          simp [Ne.symm c_0, c_0, Ne.symm c_1, c_1, Ne.symm c_2, c_2, Ne.symm c_3, c_3]
        show Kal X (d + 1) 65 190 (193, ([some (vp 0 0), some (vs 2 n), some (vp 27 q1), none], ([], G x m2))) Q (.inr k48, Gu u49 x m50)
        unfold Kal
        dsimp only
        rw [hn]
        exact h
    have h := h.2.2.2.2.2.2.2.2.2.2 ⟨c3_1, c3_2, c3_3, c3_4, c3_5, c3_6, c3_7, c3_8, c3_9, c3_10⟩
    refine wp_pc (p2 := 197) (swt_d1_10 _ _ _ _ c3_1 c3_2 c3_3 c3_4 c3_5 c3_6 c3_7 c3_8 c3_9 c3_10) ?_
    refine wp_run 2 true (218, ([some (vp 0 0), some (vs 2 n), some (vp 27 q1), none], ([vi 45], G x m2))) rfl rfl ?_
    exact wp_ret rfl h
set_option maxRecDepth 100000 in
set_option maxHeartbeats 4000000 in
theorem vc_L_addColour {X : MX} {d : Nat} {x : Int64 × UInt64} {m : MI} {Q : MRes → Prop} {p1 : Int32} {p2 : Int32} {p3 : Int32} {p4 : Int32} (h : Cl X d 1 [vp 0 0, vi p1, vi p2, vi p3, vi p4] (G x m) (fun r => (∃ (v1 : Int32) (m2 : MI), r = (.inl (some (vi v1)), G x m2) ∧ Q (.inl (some (vi 0)), G (v1.toInt64, x.2) m2)) ∨ (∃ (k3 : Nat) (u4 : Nat × Nat) (m5 : MI), r = (.inr k3, Gu u4 x m5) ∧ ((k3 = 0 → Q (.inl (some (vi 1)), Gu ((0, 0).1 + u4.1, (0, 0).2 + u4.2) x m5)) ∧ (k3 = 1 → Q (.inl (some (vi 2)), Gu ((0, 0).1 + u4.1, (0, 0).2 + u4.2) x m5)) ∧ ((¬ k3 = 0 ∧ ¬ k3 = 1) → Q (.inr k3, Gu ((0, 0).1 + u4.1, (0, 0).2 + u4.2) x m5)))))) : Cl X (d + 1) 279 [vp 0 0, vi p1, vi p2, vi p3, vi p4, vp 43 0] (G x m) Q := by
  show Wp X (d + 1) 279 (0, ([some (vp 0 0), some (vi p1), some (vi p2), some (vi p3), some (vi p4), some (vp 43 0), none], ([], G x m))) Q
  refine wp_run 7 true (9, ([some (vp 0 0), some (vi p1), some (vi p2), some (vi p3), some (vi p4), some (vp 43 0), none], ([vi p4, vi p3, vi p2, vi p1, vp 0 0, vi 0, vp 43 0], G x m))) rfl rfl ?_
  refine wp_call 1 [vp 0 0, vi p1, vi p2, vi p3, vi p4] (12, ([some (vp 0 0), some (vi p1), some (vi p2), some (vi p3), some (vi p4), some (vp 43 0), none], ([vi 0, vp 43 0], G x m))) rfl rfl (Cl.mono h (Nat.le_refl _) ?_)
  intro r hr
  rcases hr with ⟨v1, m2, rfl, h⟩ | ⟨k3, u4, m5, rfl, h⟩
  · show Wp X (d + 1) 279 (12, ([some (vp 0 0), some (vi p1), some (vi p2), some (vi p3), some (vi p4), some (vp 43 0), none], ([vi v1, vi 0, vp 43 0], G x m2))) Q
    refine wp_run 4 true (26, ([some (vp 0 0), some (vi p1), some (vi p2), some (vi p3), some (vi p4), some (vp 43 0), none], ([vi 0], G (v1.toInt64, x.2) m2))) rfl rfl ?_
    exact wp_ret rfl h
  · have hk := h
    by_cases c_0 : k3 = 0
    · subst c_0
      have h := hk.1 rfl
      show Wp X (d + 1) 279 (19, ([some (vp 0 0), some (vi p1), some (vi p2), some (vi p3), some (vi p4), some (vp 43 0), none], ([], Gu ((0, 0).1 + u4.1, (0, 0).2 + u4.2) x m5))) Q
      refine wp_run 1 true (20, ([some (vp 0 0), some (vi p1), some (vi p2), some (vi p3), some (vi p4), some (vp 43 0), none], ([vi 1], Gu ((0, 0).1 + u4.1, (0, 0).2 + u4.2) x m5))) rfl rfl ?_
      exact wp_ret rfl h
    by_cases c_1 : k3 = 1
    · subst c_1
      have h := hk.2.1 rfl
      show Wp X (d + 1) 279 (23, ([some (vp 0 0), some (vi p1), some (vi p2), some (vi p3), some (vi p4), some (vp 43 0), none], ([], Gu ((0, 0).1 + u4.1, (0, 0).2 + u4.2) x m5))) Q
      refine wp_run 1 true (24, ([some (vp 0 0), some (vi p1), some (vi p2), some (vi p3), some (vi p4), some (vp 43 0), none], ([vi 2], Gu ((0, 0).1 + u4.1, (0, 0).2 + u4.2) x m5))) rfl rfl ?_
      exact wp_ret rfl h
    have h := hk.2.2 ⟨c_0, c_1⟩
    have hn : hfind (mhd 279) 9 k3 = none := by
      simp only [show mhd 279 = [(0, (14, (17, (6, 0)))), (0, (14, (21, (6, 1))))] from rfl, hfind, cond_eq_ite]
      simp [Ne.symm c_0, c_0, Ne.symm c_1, c_1]
    show Kal X (d + 1) 279 9 (12, ([some (vp 0 0), some (vi p1), some (vi p2), some (vi p3), some (vi p4), some (vp 43 0), none], ([vi 0, vp 43 0], G x m))) Q (.inr k3, Gu u4 x m5)
    unfold Kal
    dsimp only
    rw [hn]
    exact h
set_option maxRecDepth 100000 in
set_option maxHeartbeats 4000000 in
theorem vc_X5_matches {X : MX} {d : Nat} {x : Int64 × UInt64} {m : MI} {Q : MRes → Prop} {n : Nat} {p1 : Int32} (h : (∀ m1 : MI, m1 = mup m 23 0 2 p1 → Wp X (d + 1) 136 (10, ([some (vp 23 0), some (vs 3 n), some (vi p1), some (vi 0), some (vi 0), none, none], ([], G x m1))) Q)) : Cl X (d + 1) 136 [vp 23 0, vs 3 n, vi p1] (G x m) Q := by
  show Wp X (d + 1) 136 (0, ([some (vp 23 0), some (vs 3 n), some (vi p1), none, none, none, none], ([], G x m))) Q
  refine wp_run 3 true (5, ([some (vp 23 0), some (vs 3 n), some (vi p1), none, none, none, none], ([], G x (mup m 23 0 2 p1)))) rfl rfl ?_
  refine wpg (fun m1 => Wp X (d + 1) 136 (5, ([some (vp 23 0), some (vs 3 n), some (vi p1), none, none, none, none], ([], G x m1))) Q) (mup m 23 0 2 p1) (fun m1 hm1 => ?_)
  have h := h m1 hm1
  refine wp_run 4 true (10, ([some (vp 23 0), some (vs 3 n), some (vi p1), some (vi 0), some (vi 0), none, none], ([], G x m1))) rfl rfl ?_
  exact h
set_option maxRecDepth 100000 in
set_option maxHeartbeats 4000000 in
theorem vl_X5_matches_10 {X : MX} {d : Nat} {x : Int64 × UInt64} {m : MI} {Q : MRes → Prop} {n : Nat} {l2 : Int32} {l3 : Int32} {l4 : Int32} {o5 : Option MV} {o6 : Option MV} (h : Cl X d 323 [vs 3 n] (G x m) (fun r => ∃ (v1 : Int32) (m2 : MI), r = (.inl (some (vi v1)), G x m2) ∧ ((v1 ≤ l4 → (((m2 23 0 1) ≤ (m2 23 0 2) → Q (.inl (some (vi 1)), G x m2)) ∧ (¬ ((m2 23 0 1) ≤ (m2 23 0 2)) → (inb (m2 23 0 2) 60 = true ∧ ((¬ (m2 24 0 (m2 23 0 2).toNatClampNeg) = 59 → Q (.inl (some (vi 0)), G x m2)) ∧ (¬ (¬ (m2 24 0 (m2 23 0 2).toNatClampNeg) = 59) → Q (.inl (some (vi 1)), G x m2))))))) ∧ (¬ (v1 ≤ l4) → Cl X d 324 [vs 3 n, vi l4] (G x m2) (fun r => ∃ (v6 : Int32) (m7 : MI), r = (.inl (some (vi v6)), G x m7) ∧ ((v6 = 35 → ((¬ v6 = 35 → Cl X d 138 [vp 23 0] (G x m7) (fun r => ∃ (v10 : Int32) (m11 : MI), r = (.inl (some (vi v10)), G x m11) ∧ ((v10 < 0 → Q (.inl (some (vi 0)), G x m11)) ∧ (¬ (v10 < 0) → ((l3 < 5 → (inb (m11 23 0 5) 16 = true ∧ inb l3 5 = true ∧ (∀ m14 : MI, m14 = mup m11 27 ((m11 23 0 5).toNatClampNeg) (l3.toNatClampNeg) v10 → (∀ t15 : Int32, t15 = l3 + 1 → (∀ t16 : Int32, t16 = l4 + 1 → Wp X (d + 1) 136 (10, ([some (vp 23 0), some (vs 3 n), some (vi l2), some (vi t15), some (vi t16), some (vi v6), some (vi v10)], ([], G x m14))) Q))))) ∧ (¬ (l3 < 5) → Q (.inl (some (vi 0)), G x m11))))))) ∧ (¬ (¬ v6 = 35) → Cl X d 139 [vp 23 0] (G x m7) (fun r => ∃ (v17 : Int32) (m18 : MI), r = (.inl (some (vi v17)), G x m18) ∧ ((v17 < 0 → Q (.inl (some (vi 0)), G x m18)) ∧ (¬ (v17 < 0) → ((l3 < 5 → (inb (m18 23 0 5) 16 = true ∧ inb l3 5 = true ∧ (∀ m21 : MI, m21 = mup m18 27 ((m18 23 0 5).toNatClampNeg) (l3.toNatClampNeg) v17 → (∀ t22 : Int32, t22 = l3 + 1 → (∀ t23 : Int32, t23 = l4 + 1 → Wp X (d + 1) 136 (10, ([some (vp 23 0), some (vs 3 n), some (vi l2), some (vi t22), some (vi t23), some (vi v6), some (vi v17)], ([], G x m21))) Q))))) ∧ (¬ (l3 < 5) → Q (.inl (some (vi 0)), G x m18))))))))) ∧ (¬ (v6 = 35) → ((¬ v6 = 64 → Cl X d 137 [vp 23 0, vi v6] (G x m7) (fun r => ∃ (v25 : Int32) (m26 : MI), r = (.inl (some (vi v25)), G x m26) ∧ ((¬ v25 = 0 → (∀ t28 : Int32, t28 = l4 + 1 → Wp X (d + 1) 136 (10, ([some (vp 23 0), some (vs 3 n), some (vi l2), some (vi l3), some (vi t28), some (vi v6), o6], ([], G x m26))) Q)) ∧ (¬ (¬ v25 = 0) → Q (.inl (some (vi 0)), G x m26))))) ∧ (¬ (¬ v6 = 64) → ((¬ v6 = 35 → Cl X d 138 [vp 23 0] (G x m7) (fun r => ∃ (v30 : Int32) (m31 : MI), r = (.inl (some (vi v30)), G x m31) ∧ ((v30 < 0 → Q (.inl (some (vi 0)), G x m31)) ∧ (¬ (v30 < 0) → ((l3 < 5 → (inb (m31 23 0 5) 16 = true ∧ inb l3 5 = true ∧ (∀ m34 : MI, m34 = mup m31 27 ((m31 23 0 5).toNatClampNeg) (l3.toNatClampNeg) v30 → (∀ t35 : Int32, t35 = l3 + 1 → (∀ t36 : Int32, t36 = l4 + 1 → Wp X (d + 1) 136 (10, ([some (vp 23 0), some (vs 3 n), some (vi l2), some (vi t35), some (vi t36), some (vi v6), some (vi v30)], ([], G x m34))) Q))))) ∧ (¬ (l3 < 5) → Q (.inl (some (vi 0)), G x m31))))))) ∧ (¬ (¬ v6 = 35) → Cl X d 139 [vp 23 0] (G x m7) (fun r => ∃ (v37 : Int32) (m38 : MI), r = (.inl (some (vi v37)), G x m38) ∧ ((v37 < 0 → Q (.inl (some (vi 0)), G x m38)) ∧ (¬ (v37 < 0) → ((l3 < 5 → (inb (m38 23 0 5) 16 = true ∧ inb l3 5 = true ∧ (∀ m41 : MI, m41 = mup m38 27 ((m38 23 0 5).toNatClampNeg) (l3.toNatClampNeg) v37 → (∀ t42 : Int32, t42 = l3 + 1 → (∀ t43 : Int32, t43 = l4 + 1 → Wp X (d + 1) 136 (10, ([some (vp 23 0), some (vs 3 n), some (vi l2), some (vi t42), some (vi t43), some (vi v6), some (vi v37)], ([], G x m41))) Q))))) ∧ (¬ (l3 < 5) → Q (.inl (some (vi 0)), G x m38))))))))))))))))) : Wp X (d + 1) 136 (10, ([some (vp 23 0), some (vs 3 n), some (vi l2), some (vi l3), some (vi l4), o5, o6], ([], G x m))) Q := by
  refine wp_run 2 true (13, ([some (vp 23 0), some (vs 3 n), some (vi l2), some (vi l3), some (vi l4), o5, o6], ([vs 3 n, vi l4], G x m))) rfl rfl ?_
  refine wp_call 323 [vs 3 n] (16, ([some (vp 23 0), some (vs 3 n), some (vi l2), some (vi l3), some (vi l4), o5, o6], ([vi l4], G x m))) rfl rfl (Cl.mono h (Nat.le_refl _) ?_)
  rintro r ⟨v1, m2, rfl, h⟩
  · show Wp X (d + 1) 136 (16, ([some (vp 23 0), some (vs 3 n), some (vi l2), some (vi l3), some (vi l4), o5, o6], ([vi v1, vi l4], G x m2))) Q
    refine wp_run 1 true ((bif decide (v1 ≤ l4) then 109 else 19), ([some (vp 23 0), some (vs 3 n), some (vi l2), some (vi l3), some (vi l4), o5, o6], ([], G x m2))) rfl rfl ?_
    refine wp_if (v1 ≤ l4) (fun c3 => ?_) (fun c3 => ?_)
    · have h := h.1 c3
      refine wp_run 5 true ((bif decide ((m2 23 0 1) ≤ (m2 23 0 2)) then 134 else 120), ([some (vp 23 0), some (vs 3 n), some (vi l2), some (vi l3), some (vi l4), o5, o6], ([], G x m2))) rfl rfl ?_
      refine wp_if ((m2 23 0 1) ≤ (m2 23 0 2)) (fun c4 => ?_) (fun c4 => ?_)
      · have h := h.1 c4
        refine wp_run 2 true (139, ([some (vp 23 0), some (vs 3 n), some (vi l2), some (vi l3), some (vi l4), o5, o6], ([vi 1], G x m2))) rfl rfl ?_
        exact wp_ret rfl h
      · have h := h.2 c4
        obtain ⟨hg4_0, h⟩ := h
        refine wp_run 7 (inb (m2 23 0 2) 60 && true) ((bif decide (¬ (m2 24 0 (m2 23 0 2).toNatClampNeg) = 59) then 138 else 134), ([some (vp 23 0), some (vs 3 n), some (vi l2), some (vi l3), some (vi l4), o5, o6], ([], G x m2))) rfl (and_t hg4_0 rfl) ?_
        refine wp_if (¬ (m2 24 0 (m2 23 0 2).toNatClampNeg) = 59) (fun c5 => ?_) (fun c5 => ?_)
        · have h := h.1 c5
          refine wp_run 1 true (139, ([some (vp 23 0), some (vs 3 n), some (vi l2), some (vi l3), some (vi l4), o5, o6], ([vi 0], G x m2))) rfl rfl ?_
          exact wp_ret rfl h
        · have h := h.2 c5
          refine wp_run 2 true (139, ([some (vp 23 0), some (vs 3 n), some (vi l2), some (vi l3), some (vi l4), o5, o6], ([vi 1], G x m2))) rfl rfl ?_
          exact wp_ret rfl h
    · have h := h.2 c3
      refine wp_run 2 true (22, ([some (vp 23 0), some (vs 3 n), some (vi l2), some (vi l3), some (vi l4), o5, o6], ([vi l4, vs 3 n], G x m2))) rfl rfl ?_
      refine wp_call 324 [vs 3 n, vi l4] (25, ([some (vp 23 0), some (vs 3 n), some (vi l2), some (vi l3), some (vi l4), o5, o6], ([], G x m2))) rfl rfl (Cl.mono h (Nat.le_refl _) ?_)
      rintro r ⟨v6, m7, rfl, h⟩
      · show Wp X (d + 1) 136 (25, ([some (vp 23 0), some (vs 3 n), some (vi l2), some (vi l3), some (vi l4), o5, o6], ([vi v6], G x m7))) Q
        refine wp_run 4 true ((bif decide (v6 = 35) then 41 else 34), ([some (vp 23 0), some (vs 3 n), some (vi l2), some (vi l3), some (vi l4), some (vi v6), o6], ([], G x m7))) rfl rfl ?_
        refine wp_if (v6 = 35) (fun c8 => ?_) (fun c8 => ?_)
        · have h := h.1 c8
          refine wp_run 3 true ((bif decide (¬ v6 = 35) then 55 else 48), ([some (vp 23 0), some (vs 3 n), some (vi l2), some (vi l3), some (vi l4), some (vi v6), o6], ([], G x m7))) rfl rfl ?_
          refine wp_if (¬ v6 = 35) (fun c9 => ?_) (fun c9 => ?_)
          · have h := h.1 c9
            refine wp_run 1 true (56, ([some (vp 23 0), some (vs 3 n), some (vi l2), some (vi l3), some (vi l4), some (vi v6), o6], ([vp 23 0], G x m7))) rfl rfl ?_
            refine wp_call 138 [vp 23 0] (59, ([some (vp 23 0), some (vs 3 n), some (vi l2), some (vi l3), some (vi l4), some (vi v6), o6], ([], G x m7))) rfl rfl (Cl.mono h (Nat.le_refl _) ?_)
            rintro r ⟨v10, m11, rfl, h⟩
            · show Wp X (d + 1) 136 (59, ([some (vp 23 0), some (vs 3 n), some (vi l2), some (vi l3), some (vi l4), some (vi v6), o6], ([vi v10], G x m11))) Q
              refine wp_run 3 true ((bif decide (v10 < 0) then 71 else 66), ([some (vp 23 0), some (vs 3 n), some (vi l2), some (vi l3), some (vi l4), some (vi v6), some (vi v10)], ([], G x m11))) rfl rfl ?_
              refine wp_if (v10 < 0) (fun c12 => ?_) (fun c12 => ?_)
              · have h := h.1 c12
                refine wp_run 1 true (72, ([some (vp 23 0), some (vs 3 n), some (vi l2), some (vi l3), some (vi l4), some (vi v6), some (vi v10)], ([vi 0], G x m11))) rfl rfl ?_
                exact wp_ret rfl h
              · have h := h.2 c12
                refine wp_run 3 true ((bif decide (l3 < 5) then 73 else 71), ([some (vp 23 0), some (vs 3 n), some (vi l2), some (vi l3), some (vi l4), some (vi v6), some (vi v10)], ([], G x m11))) rfl rfl ?_
                refine wp_if (l3 < 5) (fun c13 => ?_) (fun c13 => ?_)
                · have h := h.1 c13
                  obtain ⟨hg9_0, hg9_1, h⟩ := h
                  refine wp_run 8 (inb l3 5 && (inb (m11 23 0 5) 16 && true)) (86, ([some (vp 23 0), some (vs 3 n), some (vi l2), some (vi l3), some (vi l4), some (vi v6), some (vi v10)], ([], G x (mup m11 27 ((m11 23 0 5).toNatClampNeg) (l3.toNatClampNeg) v10)))) rfl (and_t hg9_1 (and_t hg9_0 rfl)) ?_
                  refine wpg (fun m14 => Wp X (d + 1) 136 (86, ([some (vp 23 0), some (vs 3 n), some (vi l2), some (vi l3), some (vi l4), some (vi v6), some (vi v10)], ([], G x m14))) Q) (mup m11 27 ((m11 23 0 5).toNatClampNeg) (l3.toNatClampNeg) v10) (fun m14 hm14 => ?_)
                  have h := h m14 hm14
                  refine wp_run 1 true (89, ([some (vp 23 0), some (vs 3 n), some (vi l2), some (vi (l3 + 1)), some (vi l4), some (vi v6), some (vi v10)], ([], G x m14))) rfl rfl ?_
                  refine wpg (fun t15 => Wp X (d + 1) 136 (89, ([some (vp 23 0), some (vs 3 n), some (vi l2), some (vi t15), some (vi l4), some (vi v6), some (vi v10)], ([], G x m14))) Q) (l3 + 1) (fun t15 ht15 => ?_)
                  have h := h t15 ht15
                  refine wp_run 2 true (106, ([some (vp 23 0), some (vs 3 n), some (vi l2), some (vi t15), some (vi (l4 + 1)), some (vi v6), some (vi v10)], ([], G x m14))) rfl rfl ?_
                  refine wpg (fun t16 => Wp X (d + 1) 136 (106, ([some (vp 23 0), some (vs 3 n), some (vi l2), some (vi t15), some (vi t16), some (vi v6), some (vi v10)], ([], G x m14))) Q) (l4 + 1) (fun t16 ht16 => ?_)
                  have h := h t16 ht16
                  refine wp_run 1 true (10, ([some (vp 23 0), some (vs 3 n), some (vi l2), some (vi t15), some (vi t16), some (vi v6), some (vi v10)], ([], G x m14))) rfl rfl ?_
                  exact h
                · have h := h.2 c13
                  refine wp_run 1 true (72, ([some (vp 23 0), some (vs 3 n), some (vi l2), some (vi l3), some (vi l4), some (vi v6), some (vi v10)], ([vi 0], G x m11))) rfl rfl ?_
                  exact wp_ret rfl h
          · have h := h.2 c9
            refine wp_run 1 true (49, ([some (vp 23 0), some (vs 3 n), some (vi l2), some (vi l3), some (vi l4), some (vi v6), o6], ([vp 23 0], G x m7))) rfl rfl ?_
            refine wp_call 139 [vp 23 0] (52, ([some (vp 23 0), some (vs 3 n), some (vi l2), some (vi l3), some (vi l4), some (vi v6), o6], ([], G x m7))) rfl rfl (Cl.mono h (Nat.le_refl _) ?_)
            rintro r ⟨v17, m18, rfl, h⟩
            · show Wp X (d + 1) 136 (52, ([some (vp 23 0), some (vs 3 n), some (vi l2), some (vi l3), some (vi l4), some (vi v6), o6], ([vi v17], G x m18))) Q
              refine wp_run 4 true ((bif decide (v17 < 0) then 71 else 66), ([some (vp 23 0), some (vs 3 n), some (vi l2), some (vi l3), some (vi l4), some (vi v6), some (vi v17)], ([], G x m18))) rfl rfl ?_
              refine wp_if (v17 < 0) (fun c19 => ?_) (fun c19 => ?_)
              · have h := h.1 c19
                refine wp_run 1 true (72, ([some (vp 23 0), some (vs 3 n), some (vi l2), some (vi l3), some (vi l4), some (vi v6), some (vi v17)], ([vi 0], G x m18))) rfl rfl ?_
                exact wp_ret rfl h
              · have h := h.2 c19
                refine wp_run 3 true ((bif decide (l3 < 5) then 73 else 71), ([some (vp 23 0), some (vs 3 n), some (vi l2), some (vi l3), some (vi l4), some (vi v6), some (vi v17)], ([], G x m18))) rfl rfl ?_
                refine wp_if (l3 < 5) (fun c20 => ?_) (fun c20 => ?_)
                · have h := h.1 c20
                  obtain ⟨hg9_0, hg9_1, h⟩ := h
                  refine wp_run 8 (inb l3 5 && (inb (m18 23 0 5) 16 && true)) (86, ([some (vp 23 0), some (vs 3 n), some (vi l2), some (vi l3), some (vi l4), some (vi v6), some (vi v17)], ([], G x (mup m18 27 ((m18 23 0 5).toNatClampNeg) (l3.toNatClampNeg) v17)))) rfl (and_t hg9_1 (and_t hg9_0 rfl)) ?_
                  refine wpg (fun m21 => Wp X (d + 1) 136 (86, ([some (vp 23 0), some (vs 3 n), some (vi l2), some (vi l3), some (vi l4), some (vi v6), some (vi v17)], ([], G x m21))) Q) (mup m18 27 ((m18 23 0 5).toNatClampNeg) (l3.toNatClampNeg) v17) (fun m21 hm21 => ?_)
                  have h := h m21 hm21
                  refine wp_run 1 true (89, ([some (vp 23 0), some (vs 3 n), some (vi l2), some (vi (l3 + 1)), some (vi l4), some (vi v6), some (vi v17)], ([], G x m21))) rfl rfl ?_
                  refine wpg (fun t22 => Wp X (d + 1) 136 (89, ([some (vp 23 0), some (vs 3 n), some (vi l2), some (vi t22), some (vi l4), some (vi v6), some (vi v17)], ([], G x m21))) Q) (l3 + 1) (fun t22 ht22 => ?_)
                  have h := h t22 ht22
                  refine wp_run 2 true (106, ([some (vp 23 0), some (vs 3 n), some (vi l2), some (vi t22), some (vi (l4 + 1)), some (vi v6), some (vi v17)], ([], G x m21))) rfl rfl ?_
                  refine wpg (fun t23 => Wp X (d + 1) 136 (106, ([some (vp 23 0), some (vs 3 n), some (vi l2), some (vi t22), some (vi t23), some (vi v6), some (vi v17)], ([], G x m21))) Q) (l4 + 1) (fun t23 ht23 => ?_)
                  have h := h t23 ht23
                  refine wp_run 1 true (10, ([some (vp 23 0), some (vs 3 n), some (vi l2), some (vi t22), some (vi t23), some (vi v6), some (vi v17)], ([], G x m21))) rfl rfl ?_
                  exact h
                · have h := h.2 c20
                  refine wp_run 1 true (72, ([some (vp 23 0), some (vs 3 n), some (vi l2), some (vi l3), some (vi l4), some (vi v6), some (vi v17)], ([vi 0], G x m18))) rfl rfl ?_
                  exact wp_ret rfl h
        · have h := h.2 c8
          refine wp_run 3 true ((bif decide (¬ v6 = 64) then 92 else 41), ([some (vp 23 0), some (vs 3 n), some (vi l2), some (vi l3), some (vi l4), some (vi v6), o6], ([], G x m7))) rfl rfl ?_
          refine wp_if (¬ v6 = 64) (fun c24 => ?_) (fun c24 => ?_)
          · have h := h.1 c24
            refine wp_run 2 true (95, ([some (vp 23 0), some (vs 3 n), some (vi l2), some (vi l3), some (vi l4), some (vi v6), o6], ([vi v6, vp 23 0], G x m7))) rfl rfl ?_
            refine wp_call 137 [vp 23 0, vi v6] (98, ([some (vp 23 0), some (vs 3 n), some (vi l2), some (vi l3), some (vi l4), some (vi v6), o6], ([], G x m7))) rfl rfl (Cl.mono h (Nat.le_refl _) ?_)
            rintro r ⟨v25, m26, rfl, h⟩
            · show Wp X (d + 1) 136 (98, ([some (vp 23 0), some (vs 3 n), some (vi l2), some (vi l3), some (vi l4), some (vi v6), o6], ([vi v25], G x m26))) Q
              refine wp_run 1 true ((bif decide (¬ v25 = 0) then 103 else 101), ([some (vp 23 0), some (vs 3 n), some (vi l2), some (vi l3), some (vi l4), some (vi v6), o6], ([], G x m26))) rfl rfl ?_
              refine wp_if (¬ v25 = 0) (fun c27 => ?_) (fun c27 => ?_)
              · have h := h.1 c27
                refine wp_run 1 true (106, ([some (vp 23 0), some (vs 3 n), some (vi l2), some (vi l3), some (vi (l4 + 1)), some (vi v6), o6], ([], G x m26))) rfl rfl ?_
                refine wpg (fun t28 => Wp X (d + 1) 136 (106, ([some (vp 23 0), some (vs 3 n), some (vi l2), some (vi l3), some (vi t28), some (vi v6), o6], ([], G x m26))) Q) (l4 + 1) (fun t28 ht28 => ?_)
                have h := h t28 ht28
                refine wp_run 1 true (10, ([some (vp 23 0), some (vs 3 n), some (vi l2), some (vi l3), some (vi t28), some (vi v6), o6], ([], G x m26))) rfl rfl ?_
                exact h
              · have h := h.2 c27
                refine wp_run 1 true (102, ([some (vp 23 0), some (vs 3 n), some (vi l2), some (vi l3), some (vi l4), some (vi v6), o6], ([vi 0], G x m26))) rfl rfl ?_
                exact wp_ret rfl h
          · have h := h.2 c24
            refine wp_run 3 true ((bif decide (¬ v6 = 35) then 55 else 48), ([some (vp 23 0), some (vs 3 n), some (vi l2), some (vi l3), some (vi l4), some (vi v6), o6], ([], G x m7))) rfl rfl ?_
            refine wp_if (¬ v6 = 35) (fun c29 => ?_) (fun c29 => ?_)
            · have h := h.1 c29
              refine wp_run 1 true (56, ([some (vp 23 0), some (vs 3 n), some (vi l2), some (vi l3), some (vi l4), some (vi v6), o6], ([vp 23 0], G x m7))) rfl rfl ?_
              refine wp_call 138 [vp 23 0] (59, ([some (vp 23 0), some (vs 3 n), some (vi l2), some (vi l3), some (vi l4), some (vi v6), o6], ([], G x m7))) rfl rfl (Cl.mono h (Nat.le_refl _) ?_)
              rintro r ⟨v30, m31, rfl, h⟩
              · show Wp X (d + 1) 136 (59, ([some (vp 23 0), some (vs 3 n), some (vi l2), some (vi l3), some (vi l4), some (vi v6), o6], ([vi v30], G x m31))) Q
                refine wp_run 3 true ((bif decide (v30 < 0) then 71 else 66), ([some (vp 23 0), some (vs 3 n), some (vi l2), some (vi l3), some (vi l4), some (vi v6), some (vi v30)], ([], G x m31))) rfl rfl ?_
                refine wp_if (v30 < 0) (fun c32 => ?_) (fun c32 => ?_)
                · have h := h.1 c32
                  refine wp_run 1 true (72, ([some (vp 23 0), some (vs 3 n), some (vi l2), some (vi l3), some (vi l4), some (vi v6), some (vi v30)], ([vi 0], G x m31))) rfl rfl ?_
                  exact wp_ret rfl h
                · have h := h.2 c32
                  refine wp_run 3 true ((bif decide (l3 < 5) then 73 else 71), ([some (vp 23 0), some (vs 3 n), some (vi l2), some (vi l3), some (vi l4), some (vi v6), some (vi v30)], ([], G x m31))) rfl rfl ?_
                  refine wp_if (l3 < 5) (fun c33 => ?_) (fun c33 => ?_)
                  · have h := h.1 c33
                    obtain ⟨hg10_0, hg10_1, h⟩ := h
                    refine wp_run 8 (inb l3 5 && (inb (m31 23 0 5) 16 && true)) (86, ([some (vp 23 0), some (vs 3 n), some (vi l2), some (vi l3), some (vi l4), some (vi v6), some (vi v30)], ([], G x (mup m31 27 ((m31 23 0 5).toNatClampNeg) (l3.toNatClampNeg) v30)))) rfl (and_t hg10_1 (and_t hg10_0 rfl)) ?_
                    refine wpg (fun m34 => Wp X (d + 1) 136 (86, ([some (vp 23 0), some (vs 3 n), some (vi l2), some (vi l3), some (vi l4), some (vi v6), some (vi v30)], ([], G x m34))) Q) (mup m31 27 ((m31 23 0 5).toNatClampNeg) (l3.toNatClampNeg) v30) (fun m34 hm34 => ?_)
                    have h := h m34 hm34
                    refine wp_run 1 true (89, ([some (vp 23 0), some (vs 3 n), some (vi l2), some (vi (l3 + 1)), some (vi l4), some (vi v6), some (vi v30)], ([], G x m34))) rfl rfl ?_
                    refine wpg (fun t35 => Wp X (d + 1) 136 (89, ([some (vp 23 0), some (vs 3 n), some (vi l2), some (vi t35), some (vi l4), some (vi v6), some (vi v30)], ([], G x m34))) Q) (l3 + 1) (fun t35 ht35 => ?_)
                    have h := h t35 ht35
                    refine wp_run 2 true (106, ([some (vp 23 0), some (vs 3 n), some (vi l2), some (vi t35), some (vi (l4 + 1)), some (vi v6), some (vi v30)], ([], G x m34))) rfl rfl ?_
                    refine wpg (fun t36 => Wp X (d + 1) 136 (106, ([some (vp 23 0), some (vs 3 n), some (vi l2), some (vi t35), some (vi t36), some (vi v6), some (vi v30)], ([], G x m34))) Q) (l4 + 1) (fun t36 ht36 => ?_)
                    have h := h t36 ht36
                    refine wp_run 1 true (10, ([some (vp 23 0), some (vs 3 n), some (vi l2), some (vi t35), some (vi t36), some (vi v6), some (vi v30)], ([], G x m34))) rfl rfl ?_
                    exact h
                  · have h := h.2 c33
                    refine wp_run 1 true (72, ([some (vp 23 0), some (vs 3 n), some (vi l2), some (vi l3), some (vi l4), some (vi v6), some (vi v30)], ([vi 0], G x m31))) rfl rfl ?_
                    exact wp_ret rfl h
            · have h := h.2 c29
              refine wp_run 1 true (49, ([some (vp 23 0), some (vs 3 n), some (vi l2), some (vi l3), some (vi l4), some (vi v6), o6], ([vp 23 0], G x m7))) rfl rfl ?_
              refine wp_call 139 [vp 23 0] (52, ([some (vp 23 0), some (vs 3 n), some (vi l2), some (vi l3), some (vi l4), some (vi v6), o6], ([], G x m7))) rfl rfl (Cl.mono h (Nat.le_refl _) ?_)
              rintro r ⟨v37, m38, rfl, h⟩
              · show Wp X (d + 1) 136 (52, ([some (vp 23 0), some (vs 3 n), some (vi l2), some (vi l3), some (vi l4), some (vi v6), o6], ([vi v37], G x m38))) Q
                refine wp_run 4 true ((bif decide (v37 < 0) then 71 else 66), ([some (vp 23 0), some (vs 3 n), some (vi l2), some (vi l3), some (vi l4), some (vi v6), some (vi v37)], ([], G x m38))) rfl rfl ?_
                refine wp_if (v37 < 0) (fun c39 => ?_) (fun c39 => ?_)
                · have h := h.1 c39
                  refine wp_run 1 true (72, ([some (vp 23 0), some (vs 3 n), some (vi l2), some (vi l3), some (vi l4), some (vi v6), some (vi v37)], ([vi 0], G x m38))) rfl rfl ?_
                  exact wp_ret rfl h
                · have h := h.2 c39
                  refine wp_run 3 true ((bif decide (l3 < 5) then 73 else 71), ([some (vp 23 0), some (vs 3 n), some (vi l2), some (vi l3), some (vi l4), some (vi v6), some (vi v37)], ([], G x m38))) rfl rfl ?_
                  refine wp_if (l3 < 5) (fun c40 => ?_) (fun c40 => ?_)
                  · have h := h.1 c40
                    obtain ⟨hg10_0, hg10_1, h⟩ := h
                    refine wp_run 8 (inb l3 5 && (inb (m38 23 0 5) 16 && true)) (86, ([some (vp 23 0), some (vs 3 n), some (vi l2), some (vi l3), some (vi l4), some (vi v6), some (vi v37)], ([], G x (mup m38 27 ((m38 23 0 5).toNatClampNeg) (l3.toNatClampNeg) v37)))) rfl (and_t hg10_1 (and_t hg10_0 rfl)) ?_
                    refine wpg (fun m41 => Wp X (d + 1) 136 (86, ([some (vp 23 0), some (vs 3 n), some (vi l2), some (vi l3), some (vi l4), some (vi v6), some (vi v37)], ([], G x m41))) Q) (mup m38 27 ((m38 23 0 5).toNatClampNeg) (l3.toNatClampNeg) v37) (fun m41 hm41 => ?_)
                    have h := h m41 hm41
                    refine wp_run 1 true (89, ([some (vp 23 0), some (vs 3 n), some (vi l2), some (vi (l3 + 1)), some (vi l4), some (vi v6), some (vi v37)], ([], G x m41))) rfl rfl ?_
                    refine wpg (fun t42 => Wp X (d + 1) 136 (89, ([some (vp 23 0), some (vs 3 n), some (vi l2), some (vi t42), some (vi l4), some (vi v6), some (vi v37)], ([], G x m41))) Q) (l3 + 1) (fun t42 ht42 => ?_)
                    have h := h t42 ht42
                    refine wp_run 2 true (106, ([some (vp 23 0), some (vs 3 n), some (vi l2), some (vi t42), some (vi (l4 + 1)), some (vi v6), some (vi v37)], ([], G x m41))) rfl rfl ?_
                    refine wpg (fun t43 => Wp X (d + 1) 136 (106, ([some (vp 23 0), some (vs 3 n), some (vi l2), some (vi t42), some (vi t43), some (vi v6), some (vi v37)], ([], G x m41))) Q) (l4 + 1) (fun t43 ht43 => ?_)
                    have h := h t43 ht43
                    refine wp_run 1 true (10, ([some (vp 23 0), some (vs 3 n), some (vi l2), some (vi t42), some (vi t43), some (vi v6), some (vi v37)], ([], G x m41))) rfl rfl ?_
                    exact h
                  · have h := h.2 c40
                    refine wp_run 1 true (72, ([some (vp 23 0), some (vs 3 n), some (vi l2), some (vi l3), some (vi l4), some (vi v6), some (vi v37)], ([vi 0], G x m38))) rfl rfl ?_
                    exact wp_ret rfl h
set_option maxRecDepth 100000 in
set_option maxHeartbeats 4000000 in
theorem vc_X8_append_2 {X : MX} {d : Nat} {x : Int64 × UInt64} {m : MI} {Q : MRes → Prop} {s : Nat} {p0 : Int32} {p1 : Int32} {p2 : Int32} {p3 : Int32} {p4 : Int32} (h : (inb (m 2 s 1) 10 = true ∧ (∀ m1 : MI, m1 = mup m 5 (10 * s + (m 2 s 1).toNatClampNeg) 0 (m 2 s 2) → (∀ m2 : MI, m2 = mup m1 5 (10 * s + (m 2 s 1).toNatClampNeg) 1 p0 → (∀ m3 : MI, m3 = mup m2 5 (10 * s + (m 2 s 1).toNatClampNeg) 2 p1 → (∀ m4 : MI, m4 = mup m3 5 (10 * s + (m 2 s 1).toNatClampNeg) 3 p2 → (∀ m5 : MI, m5 = mup m4 5 (10 * s + (m 2 s 1).toNatClampNeg) 4 p3 → (∀ m6 : MI, m6 = mup m5 5 (10 * s + (m 2 s 1).toNatClampNeg) 5 p4 → (∀ m7 : MI, m7 = mup m6 2 s 1 ((m6 2 s 1) + 1) → (∀ m8 : MI, m8 = mup m7 2 s 2 ((m7 2 s 2) + 1) → Q (.inl (some (vi (m8 5 (10 * s + (m 2 s 1).toNatClampNeg) 0))), G x m8))))))))))) : Cl X d 92 [vp 2 s, vi p0, vi p1, vi p2, vi p3, vi p4] (G x m) Q := by
  show Wp X d 92 (0, ([some (vp 2 s), some (vi p0), some (vi p1), some (vi p2), some (vi p3), some (vi p4), none], ([], G x m))) Q
  obtain ⟨hg1_0, h⟩ := h
  refine wp_run 11 (inb (m 2 s 1) 10 && true) (19, ([some (vp 2 s), some (vi p0), some (vi p1), some (vi p2), some (vi p3), some (vi p4), some (vp 5 (10 * s + (m 2 s 1).toNatClampNeg))], ([], G x (mup m 5 (10 * s + (m 2 s 1).toNatClampNeg) 0 (m 2 s 2))))) rfl (and_t hg1_0 rfl) ?_
  refine wpg (fun m1 => Wp X d 92 (19, ([some (vp 2 s), some (vi p0), some (vi p1), some (vi p2), some (vi p3), some (vi p4), some (vp 5 (10 * s + (m 2 s 1).toNatClampNeg))], ([], G x m1))) Q) (mup m 5 (10 * s + (m 2 s 1).toNatClampNeg) 0 (m 2 s 2)) (fun m1 hm1 => ?_)
  have h := h m1 hm1
  refine wp_run 4 true (24, ([some (vp 2 s), some (vi p0), some (vi p1), some (vi p2), some (vi p3), some (vi p4), some (vp 5 (10 * s + (m 2 s 1).toNatClampNeg))], ([], G x (mup m1 5 (10 * s + (m 2 s 1).toNatClampNeg) 1 p0)))) rfl rfl ?_
  refine wpg (fun m2 => Wp X d 92 (24, ([some (vp 2 s), some (vi p0), some (vi p1), some (vi p2), some (vi p3), some (vi p4), some (vp 5 (10 * s + (m 2 s 1).toNatClampNeg))], ([], G x m2))) Q) (mup m1 5 (10 * s + (m 2 s 1).toNatClampNeg) 1 p0) (fun m2 hm2 => ?_)
  have h := h m2 hm2
  refine wp_run 4 true (29, ([some (vp 2 s), some (vi p0), some (vi p1), some (vi p2), some (vi p3), some (vi p4), some (vp 5 (10 * s + (m 2 s 1).toNatClampNeg))], ([], G x (mup m2 5 (10 * s + (m 2 s 1).toNatClampNeg) 2 p1)))) rfl rfl ?_
  refine wpg (fun m3 => Wp X d 92 (29, ([some (vp 2 s), some (vi p0), some (vi p1), some (vi p2), some (vi p3), some (vi p4), some (vp 5 (10 * s + (m 2 s 1).toNatClampNeg))], ([], G x m3))) Q) (mup m2 5 (10 * s + (m 2 s 1).toNatClampNeg) 2 p1) (fun m3 hm3 => ?_)
  have h := h m3 hm3
  refine wp_run 4 true (34, ([some (vp 2 s), some (vi p0), some (vi p1), some (vi p2), some (vi p3), some (vi p4), some (vp 5 (10 * s + (m 2 s 1).toNatClampNeg))], ([], G x (mup m3 5 (10 * s + (m 2 s 1).toNatClampNeg) 3 p2)))) rfl rfl ?_
  refine wpg (fun m4 => Wp X d 92 (34, ([some (vp 2 s), some (vi p0), some (vi p1), some (vi p2), some (vi p3), some (vi p4), some (vp 5 (10 * s + (m 2 s 1).toNatClampNeg))], ([], G x m4))) Q) (mup m3 5 (10 * s + (m 2 s 1).toNatClampNeg) 3 p2) (fun m4 hm4 => ?_)
  have h := h m4 hm4
  refine wp_run 4 true (40, ([some (vp 2 s), some (vi p0), some (vi p1), some (vi p2), some (vi p3), some (vi p4), some (vp 5 (10 * s + (m 2 s 1).toNatClampNeg))], ([], G x (mup m4 5 (10 * s + (m 2 s 1).toNatClampNeg) 4 p3)))) rfl rfl ?_
  refine wpg (fun m5 => Wp X d 92 (40, ([some (vp 2 s), some (vi p0), some (vi p1), some (vi p2), some (vi p3), some (vi p4), some (vp 5 (10 * s + (m 2 s 1).toNatClampNeg))], ([], G x m5))) Q) (mup m4 5 (10 * s + (m 2 s 1).toNatClampNeg) 4 p3) (fun m5 hm5 => ?_)
  have h := h m5 hm5
  refine wp_run 4 true (46, ([some (vp 2 s), some (vi p0), some (vi p1), some (vi p2), some (vi p3), some (vi p4), some (vp 5 (10 * s + (m 2 s 1).toNatClampNeg))], ([], G x (mup m5 5 (10 * s + (m 2 s 1).toNatClampNeg) 5 p4)))) rfl rfl ?_
  refine wpg (fun m6 => Wp X d 92 (46, ([some (vp 2 s), some (vi p0), some (vi p1), some (vi p2), some (vi p3), some (vi p4), some (vp 5 (10 * s + (m 2 s 1).toNatClampNeg))], ([], G x m6))) Q) (mup m5 5 (10 * s + (m 2 s 1).toNatClampNeg) 5 p4) (fun m6 hm6 => ?_)
  have h := h m6 hm6
  refine wp_run 6 true (56, ([some (vp 2 s), some (vi p0), some (vi p1), some (vi p2), some (vi p3), some (vi p4), some (vp 5 (10 * s + (m 2 s 1).toNatClampNeg))], ([], G x (mup m6 2 s 1 ((m6 2 s 1) + 1))))) rfl rfl ?_
  refine wpg (fun m7 => Wp X d 92 (56, ([some (vp 2 s), some (vi p0), some (vi p1), some (vi p2), some (vi p3), some (vi p4), some (vp 5 (10 * s + (m 2 s 1).toNatClampNeg))], ([], G x m7))) Q) (mup m6 2 s 1 ((m6 2 s 1) + 1)) (fun m7 hm7 => ?_)
  have h := h m7 hm7
  refine wp_run 6 true (66, ([some (vp 2 s), some (vi p0), some (vi p1), some (vi p2), some (vi p3), some (vi p4), some (vp 5 (10 * s + (m 2 s 1).toNatClampNeg))], ([], G x (mup m7 2 s 2 ((m7 2 s 2) + 1))))) rfl rfl ?_
  refine wpg (fun m8 => Wp X d 92 (66, ([some (vp 2 s), some (vi p0), some (vi p1), some (vi p2), some (vi p3), some (vi p4), some (vp 5 (10 * s + (m 2 s 1).toNatClampNeg))], ([], G x m8))) Q) (mup m7 2 s 2 ((m7 2 s 2) + 1)) (fun m8 hm8 => ?_)
  have h := h m8 hm8
  refine wp_run 3 true (70, ([some (vp 2 s), some (vi p0), some (vi p1), some (vi p2), some (vi p3), some (vi p4), some (vp 5 (10 * s + (m 2 s 1).toNatClampNeg))], ([vi (m8 5 (10 * s + (m 2 s 1).toNatClampNeg) 0)], G x m8))) rfl rfl ?_
  exact wp_ret rfl h
set_option maxRecDepth 100000 in
set_option maxHeartbeats 4000000 in
theorem vc_X8_append_3 {X : MX} {d : Nat} {x : Int64 × UInt64} {m : MI} {Q : MRes → Prop} {s : Nat} {p0 : Int32} {p1 : Int32} {p2 : Int32} {p3 : Int32} {p4 : Int32} (h : (inb (m 3 s 1) 6 = true ∧ (∀ m1 : MI, m1 = mup m 7 (6 * s + (m 3 s 1).toNatClampNeg) 0 (m 3 s 2) → (∀ m2 : MI, m2 = mup m1 7 (6 * s + (m 3 s 1).toNatClampNeg) 1 p0 → (∀ m3 : MI, m3 = mup m2 7 (6 * s + (m 3 s 1).toNatClampNeg) 2 p1 → (∀ m4 : MI, m4 = mup m3 7 (6 * s + (m 3 s 1).toNatClampNeg) 3 p2 → (∀ m5 : MI, m5 = mup m4 7 (6 * s + (m 3 s 1).toNatClampNeg) 4 p3 → (∀ m6 : MI, m6 = mup m5 7 (6 * s + (m 3 s 1).toNatClampNeg) 5 p4 → (∀ m7 : MI, m7 = mup m6 3 s 1 ((m6 3 s 1) + 1) → (∀ m8 : MI, m8 = mup m7 3 s 2 ((m7 3 s 2) + 1) → Q (.inl (some (vi (m8 7 (6 * s + (m 3 s 1).toNatClampNeg) 0))), G x m8))))))))))) : Cl X d 92 [vp 3 s, vi p0, vi p1, vi p2, vi p3, vi p4] (G x m) Q := by
  show Wp X d 92 (0, ([some (vp 3 s), some (vi p0), some (vi p1), some (vi p2), some (vi p3), some (vi p4), none], ([], G x m))) Q
  obtain ⟨hg1_0, h⟩ := h
  refine wp_run 11 (inb (m 3 s 1) 6 && true) (19, ([some (vp 3 s), some (vi p0), some (vi p1), some (vi p2), some (vi p3), some (vi p4), some (vp 7 (6 * s + (m 3 s 1).toNatClampNeg))], ([], G x (mup m 7 (6 * s + (m 3 s 1).toNatClampNeg) 0 (m 3 s 2))))) rfl (and_t hg1_0 rfl) ?_
  refine wpg (fun m1 => Wp X d 92 (19, ([some (vp 3 s), some (vi p0), some (vi p1), some (vi p2), some (vi p3), some (vi p4), some (vp 7 (6 * s + (m 3 s 1).toNatClampNeg))], ([], G x m1))) Q) (mup m 7 (6 * s + (m 3 s 1).toNatClampNeg) 0 (m 3 s 2)) (fun m1 hm1 => ?_)
  have h := h m1 hm1
  refine wp_run 4 true (24, ([some (vp 3 s), some (vi p0), some (vi p1), some (vi p2), some (vi p3), some (vi p4), some (vp 7 (6 * s + (m 3 s 1).toNatClampNeg))], ([], G x (mup m1 7 (6 * s + (m 3 s 1).toNatClampNeg) 1 p0)))) rfl rfl ?_
  refine wpg (fun m2 => Wp X d 92 (24, ([some (vp 3 s), some (vi p0), some (vi p1), some (vi p2), some (vi p3), some (vi p4), some (vp 7 (6 * s + (m 3 s 1).toNatClampNeg))], ([], G x m2))) Q) (mup m1 7 (6 * s + (m 3 s 1).toNatClampNeg) 1 p0) (fun m2 hm2 => ?_)
  have h := h m2 hm2
  refine wp_run 4 true (29, ([some (vp 3 s), some (vi p0), some (vi p1), some (vi p2), some (vi p3), some (vi p4), some (vp 7 (6 * s + (m 3 s 1).toNatClampNeg))], ([], G x (mup m2 7 (6 * s + (m 3 s 1).toNatClampNeg) 2 p1)))) rfl rfl ?_
  refine wpg (fun m3 => Wp X d 92 (29, ([some (vp 3 s), some (vi p0), some (vi p1), some (vi p2), some (vi p3), some (vi p4), some (vp 7 (6 * s + (m 3 s 1).toNatClampNeg))], ([], G x m3))) Q) (mup m2 7 (6 * s + (m 3 s 1).toNatClampNeg) 2 p1) (fun m3 hm3 => ?_)
  have h := h m3 hm3
  refine wp_run 4 true (34, ([some (vp 3 s), some (vi p0), some (vi p1), some (vi p2), some (vi p3), some (vi p4), some (vp 7 (6 * s + (m 3 s 1).toNatClampNeg))], ([], G x (mup m3 7 (6 * s + (m 3 s 1).toNatClampNeg) 3 p2)))) rfl rfl ?_
  refine wpg (fun m4 => Wp X d 92 (34, ([some (vp 3 s), some (vi p0), some (vi p1), some (vi p2), some (vi p3), some (vi p4), some (vp 7 (6 * s + (m 3 s 1).toNatClampNeg))], ([], G x m4))) Q) (mup m3 7 (6 * s + (m 3 s 1).toNatClampNeg) 3 p2) (fun m4 hm4 => ?_)
  have h := h m4 hm4
  refine wp_run 4 true (40, ([some (vp 3 s), some (vi p0), some (vi p1), some (vi p2), some (vi p3), some (vi p4), some (vp 7 (6 * s + (m 3 s 1).toNatClampNeg))], ([], G x (mup m4 7 (6 * s + (m 3 s 1).toNatClampNeg) 4 p3)))) rfl rfl ?_
  refine wpg (fun m5 => Wp X d 92 (40, ([some (vp 3 s), some (vi p0), some (vi p1), some (vi p2), some (vi p3), some (vi p4), some (vp 7 (6 * s + (m 3 s 1).toNatClampNeg))], ([], G x m5))) Q) (mup m4 7 (6 * s + (m 3 s 1).toNatClampNeg) 4 p3) (fun m5 hm5 => ?_)
  have h := h m5 hm5
  refine wp_run 4 true (46, ([some (vp 3 s), some (vi p0), some (vi p1), some (vi p2), some (vi p3), some (vi p4), some (vp 7 (6 * s + (m 3 s 1).toNatClampNeg))], ([], G x (mup m5 7 (6 * s + (m 3 s 1).toNatClampNeg) 5 p4)))) rfl rfl ?_
  refine wpg (fun m6 => Wp X d 92 (46, ([some (vp 3 s), some (vi p0), some (vi p1), some (vi p2), some (vi p3), some (vi p4), some (vp 7 (6 * s + (m 3 s 1).toNatClampNeg))], ([], G x m6))) Q) (mup m5 7 (6 * s + (m 3 s 1).toNatClampNeg) 5 p4) (fun m6 hm6 => ?_)
  have h := h m6 hm6
  refine wp_run 6 true (56, ([some (vp 3 s), some (vi p0), some (vi p1), some (vi p2), some (vi p3), some (vi p4), some (vp 7 (6 * s + (m 3 s 1).toNatClampNeg))], ([], G x (mup m6 3 s 1 ((m6 3 s 1) + 1))))) rfl rfl ?_
  refine wpg (fun m7 => Wp X d 92 (56, ([some (vp 3 s), some (vi p0), some (vi p1), some (vi p2), some (vi p3), some (vi p4), some (vp 7 (6 * s + (m 3 s 1).toNatClampNeg))], ([], G x m7))) Q) (mup m6 3 s 1 ((m6 3 s 1) + 1)) (fun m7 hm7 => ?_)
  have h := h m7 hm7
  refine wp_run 6 true (66, ([some (vp 3 s), some (vi p0), some (vi p1), some (vi p2), some (vi p3), some (vi p4), some (vp 7 (6 * s + (m 3 s 1).toNatClampNeg))], ([], G x (mup m7 3 s 2 ((m7 3 s 2) + 1))))) rfl rfl ?_
  refine wpg (fun m8 => Wp X d 92 (66, ([some (vp 3 s), some (vi p0), some (vi p1), some (vi p2), some (vi p3), some (vi p4), some (vp 7 (6 * s + (m 3 s 1).toNatClampNeg))], ([], G x m8))) Q) (mup m7 3 s 2 ((m7 3 s 2) + 1)) (fun m8 hm8 => ?_)
  have h := h m8 hm8
  refine wp_run 3 true (70, ([some (vp 3 s), some (vi p0), some (vi p1), some (vi p2), some (vi p3), some (vi p4), some (vp 7 (6 * s + (m 3 s 1).toNatClampNeg))], ([vi (m8 7 (6 * s + (m 3 s 1).toNatClampNeg) 0)], G x m8))) rfl rfl ?_
  exact wp_ret rfl h
