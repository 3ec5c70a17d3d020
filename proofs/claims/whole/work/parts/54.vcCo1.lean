set_option maxRecDepth 100000 in
set_option maxHeartbeats 4000000 in
theorem vc_X10_addColour {X : MX} {d : Nat} {x : Int64 × UInt64} {m : MI} {Q : MRes → Prop} {p0 : Int32} {p1 : Int32} {p2 : Int32} {p3 : Int32} (h : Cl X d 58 [vi p0, vi p1, vi p2] (G x m) (fun r => ∃ (v1 : Int32) (m2 : MI), r = (.inl (some (vi v1)), G x m2) ∧ ((v1 = 0 → Q (.inr 0, Gu (1 + (0, 0).1, 6 + (0, 0).2) x m2)) ∧ (¬ (v1 = 0) → Cl X d 57 [vi p3, vi 1, vi 9] (G x m2) (fun r => ∃ (v4 : Int32) (m5 : MI), r = (.inl (some (vi v4)), G x m5) ∧ ((¬ v4 = 0 → Cl X d 90 [vp 2 0] (G x m5) (fun r => ∃ (v7 : Int32) (m8 : MI), r = (.inl (some (vi v7)), G x m8) ∧ ((v7 = 0 → Cl X d 64 [vp 0 0] (G x m8) (fun r => ∃ (m11 : MI), r = (.inl none, G x m11) ∧ Cl X d 92 [vp 2 0, vi p0, vi p1, vi p2, vi p3, vi (m11 1 0 2)] (G x m11) (fun r => ∃ (v12 : Int32) (m13 : MI), r = (.inl (some (vi v12)), G x m13) ∧ Q (.inl (some (vi v12)), G x m13)))) ∧ (¬ (v7 = 0) → Q (.inr 1, Gu (1 + (0, 0).1, 6 + (0, 0).2) x m8))))) ∧ (¬ (¬ v4 = 0) → Q (.inr 0, Gu (1 + (0, 0).1, 6 + (0, 0).2) x m5)))))))) : Cl X (d + 1) 1 [vp 0 0, vi p0, vi p1, vi p2, vi p3] (G x m) Q := by
  show Wp X (d + 1) 1 (0, ([some (vp 0 0), some (vi p0), some (vi p1), some (vi p2), some (vi p3)], ([], G x m))) Q
  refine wp_run 3 true (3, ([some (vp 0 0), some (vi p0), some (vi p1), some (vi p2), some (vi p3)], ([vi p2, vi p1, vi p0], G x m))) rfl rfl ?_
  refine wp_call 58 [vi p0, vi p1, vi p2] (6, ([some (vp 0 0), some (vi p0), some (vi p1), some (vi p2), some (vi p3)], ([], G x m))) rfl rfl (Cl.mono h (Nat.le_refl _) ?_)
  rintro r ⟨v1, m2, rfl, h⟩
  · show Wp X (d + 1) 1 (6, ([some (vp 0 0), some (vi p0), some (vi p1), some (vi p2), some (vi p3)], ([vi v1], G x m2))) Q
    refine wp_run 1 true ((bif decide (v1 = 0) then 20 else 9), ([some (vp 0 0), some (vi p0), some (vi p1), some (vi p2), some (vi p3)], ([], G x m2))) rfl rfl ?_
    refine wp_if (v1 = 0) (fun c3 => ?_) (fun c3 => ?_)
    · have h := h.1 c3
      exact wp_thr rfl rfl h
    · have h := h.2 c3
      refine wp_run 3 true (14, ([some (vp 0 0), some (vi p0), some (vi p1), some (vi p2), some (vi p3)], ([vi 9, vi 1, vi p3], G x m2))) rfl rfl ?_
      refine wp_call 57 [vi p3, vi 1, vi 9] (17, ([some (vp 0 0), some (vi p0), some (vi p1), some (vi p2), some (vi p3)], ([], G x m2))) rfl rfl (Cl.mono h (Nat.le_refl _) ?_)
      rintro r ⟨v4, m5, rfl, h⟩
      · show Wp X (d + 1) 1 (17, ([some (vp 0 0), some (vi p0), some (vi p1), some (vi p2), some (vi p3)], ([vi v4], G x m5))) Q
        refine wp_run 1 true ((bif decide (¬ v4 = 0) then 30 else 20), ([some (vp 0 0), some (vi p0), some (vi p1), some (vi p2), some (vi p3)], ([], G x m5))) rfl rfl ?_
        refine wp_if (¬ v4 = 0) (fun c6 => ?_) (fun c6 => ?_)
        · have h := h.1 c6
          refine wp_run 3 true (37, ([some (vp 0 0), some (vi p0), some (vi p1), some (vi p2), some (vi p3)], ([vp 2 0], G x m5))) rfl rfl ?_
          refine wp_call 90 [vp 2 0] (40, ([some (vp 0 0), some (vi p0), some (vi p1), some (vi p2), some (vi p3)], ([], G x m5))) rfl rfl (Cl.mono h (Nat.le_refl _) ?_)
          rintro r ⟨v7, m8, rfl, h⟩
          · show Wp X (d + 1) 1 (40, ([some (vp 0 0), some (vi p0), some (vi p1), some (vi p2), some (vi p3)], ([vi v7], G x m8))) Q
            refine wp_run 1 true ((bif decide (v7 = 0) then 53 else 43), ([some (vp 0 0), some (vi p0), some (vi p1), some (vi p2), some (vi p3)], ([], G x m8))) rfl rfl ?_
            refine wp_if (v7 = 0) (fun c9 => ?_) (fun c9 => ?_)
            · have h := h.1 c9
              refine wp_run 1 true (54, ([some (vp 0 0), some (vi p0), some (vi p1), some (vi p2), some (vi p3)], ([vp 0 0], G x m8))) rfl rfl ?_
              refine wp_call 64 [vp 0 0] (57, ([some (vp 0 0), some (vi p0), some (vi p1), some (vi p2), some (vi p3)], ([], G x m8))) rfl rfl (Cl.mono h (Nat.le_refl _) ?_)
              rintro r ⟨m11, rfl, h⟩
              · show Wp X (d + 1) 1 (57, ([some (vp 0 0), some (vi p0), some (vi p1), some (vi p2), some (vi p3)], ([], G x m11))) Q
                refine wp_run 10 true (76, ([some (vp 0 0), some (vi p0), some (vi p1), some (vi p2), some (vi p3)], ([vi (m11 1 0 2), vi p3, vi p2, vi p1, vi p0, vp 2 0], G x m11))) rfl rfl ?_
                refine wp_call 92 [vp 2 0, vi p0, vi p1, vi p2, vi p3, vi (m11 1 0 2)] (79, ([some (vp 0 0), some (vi p0), some (vi p1), some (vi p2), some (vi p3)], ([], G x m11))) rfl rfl (Cl.mono h (Nat.le_refl _) ?_)
                rintro r ⟨v12, m13, rfl, h⟩
                · show Wp X (d + 1) 1 (79, ([some (vp 0 0), some (vi p0), some (vi p1), some (vi p2), some (vi p3)], ([vi v12], G x m13))) Q
                  exact wp_ret rfl h
            · have h := h.2 c9
              exact wp_thr rfl rfl h
        · have h := h.2 c6
          exact wp_thr rfl rfl h
set_option maxRecDepth 100000 in
set_option maxHeartbeats 4000000 in
theorem vc_X10_report {X : MX} {d : Nat} {x : Int64 × UInt64} {m : MI} {Q : MRes → Prop} {p0 : Int32} {p1 : Int32} {p2 : Int32} {p3 : Int32} {p4 : Int32} (h : Cl X d 58 [vi p0, vi p1, vi p2] (G x m) (fun r => ∃ (v1 : Int32) (m2 : MI), r = (.inl (some (vi v1)), G x m2) ∧ ((v1 = 0 → Q (.inr 0, Gu (1 + (0, 0).1, 6 + (0, 0).2) x m2)) ∧ (¬ (v1 = 0) → Cl X d 57 [vi p3, vi 0, vi 9999] (G x m2) (fun r => ∃ (v4 : Int32) (m5 : MI), r = (.inl (some (vi v4)), G x m5) ∧ ((v4 = 0 → Q (.inr 0, Gu (1 + (0, 0).1, 6 + (0, 0).2) x m5)) ∧ (¬ (v4 = 0) → Cl X d 57 [vi p4, vi 1, vi 99] (G x m5) (fun r => ∃ (v7 : Int32) (m8 : MI), r = (.inl (some (vi v7)), G x m8) ∧ ((¬ v7 = 0 → Cl X d 90 [vp 3 0] (G x m8) (fun r => ∃ (v10 : Int32) (m11 : MI), r = (.inl (some (vi v10)), G x m11) ∧ ((v10 = 0 → Cl X d 64 [vp 0 0] (G x m11) (fun r => ∃ (m14 : MI), r = (.inl none, G x m14) ∧ Cl X d 92 [vp 3 0, vi p0, vi p1, vi p2, vi p3, vi p4] (G x m14) (fun r => ∃ (v15 : Int32) (m16 : MI), r = (.inl (some (vi v15)), G x m16) ∧ Q (.inl (some (vi v15)), G x m16)))) ∧ (¬ (v10 = 0) → Q (.inr 1, Gu (1 + (0, 0).1, 6 + (0, 0).2) x m11))))) ∧ (¬ (¬ v7 = 0) → Q (.inr 0, Gu (1 + (0, 0).1, 6 + (0, 0).2) x m8))))))))))) : Cl X (d + 1) 2 [vp 0 0, vi p0, vi p1, vi p2, vi p3, vi p4] (G x m) Q := by
  show Wp X (d + 1) 2 (0, ([some (vp 0 0), some (vi p0), some (vi p1), some (vi p2), some (vi p3), some (vi p4)], ([], G x m))) Q
  refine wp_run 3 true (3, ([some (vp 0 0), some (vi p0), some (vi p1), some (vi p2), some (vi p3), some (vi p4)], ([vi p2, vi p1, vi p0], G x m))) rfl rfl ?_
  refine wp_call 58 [vi p0, vi p1, vi p2] (6, ([some (vp 0 0), some (vi p0), some (vi p1), some (vi p2), some (vi p3), some (vi p4)], ([], G x m))) rfl rfl (Cl.mono h (Nat.le_refl _) ?_)
  rintro r ⟨v1, m2, rfl, h⟩
  · show Wp X (d + 1) 2 (6, ([some (vp 0 0), some (vi p0), some (vi p1), some (vi p2), some (vi p3), some (vi p4)], ([vi v1], G x m2))) Q
    refine wp_run 1 true ((bif decide (v1 = 0) then 32 else 9), ([some (vp 0 0), some (vi p0), some (vi p1), some (vi p2), some (vi p3), some (vi p4)], ([], G x m2))) rfl rfl ?_
    refine wp_if (v1 = 0) (fun c3 => ?_) (fun c3 => ?_)
    · have h := h.1 c3
      exact wp_thr rfl rfl h
    · have h := h.2 c3
      refine wp_run 3 true (15, ([some (vp 0 0), some (vi p0), some (vi p1), some (vi p2), some (vi p3), some (vi p4)], ([vi 9999, vi 0, vi p3], G x m2))) rfl rfl ?_
      refine wp_call 57 [vi p3, vi 0, vi 9999] (18, ([some (vp 0 0), some (vi p0), some (vi p1), some (vi p2), some (vi p3), some (vi p4)], ([], G x m2))) rfl rfl (Cl.mono h (Nat.le_refl _) ?_)
      rintro r ⟨v4, m5, rfl, h⟩
      · show Wp X (d + 1) 2 (18, ([some (vp 0 0), some (vi p0), some (vi p1), some (vi p2), some (vi p3), some (vi p4)], ([vi v4], G x m5))) Q
        refine wp_run 1 true ((bif decide (v4 = 0) then 32 else 21), ([some (vp 0 0), some (vi p0), some (vi p1), some (vi p2), some (vi p3), some (vi p4)], ([], G x m5))) rfl rfl ?_
        refine wp_if (v4 = 0) (fun c6 => ?_) (fun c6 => ?_)
        · have h := h.1 c6
          exact wp_thr rfl rfl h
        · have h := h.2 c6
          refine wp_run 3 true (26, ([some (vp 0 0), some (vi p0), some (vi p1), some (vi p2), some (vi p3), some (vi p4)], ([vi 99, vi 1, vi p4], G x m5))) rfl rfl ?_
          refine wp_call 57 [vi p4, vi 1, vi 99] (29, ([some (vp 0 0), some (vi p0), some (vi p1), some (vi p2), some (vi p3), some (vi p4)], ([], G x m5))) rfl rfl (Cl.mono h (Nat.le_refl _) ?_)
          rintro r ⟨v7, m8, rfl, h⟩
          · show Wp X (d + 1) 2 (29, ([some (vp 0 0), some (vi p0), some (vi p1), some (vi p2), some (vi p3), some (vi p4)], ([vi v7], G x m8))) Q
            refine wp_run 1 true ((bif decide (¬ v7 = 0) then 42 else 32), ([some (vp 0 0), some (vi p0), some (vi p1), some (vi p2), some (vi p3), some (vi p4)], ([], G x m8))) rfl rfl ?_
            refine wp_if (¬ v7 = 0) (fun c9 => ?_) (fun c9 => ?_)
            · have h := h.1 c9
              refine wp_run 3 true (49, ([some (vp 0 0), some (vi p0), some (vi p1), some (vi p2), some (vi p3), some (vi p4)], ([vp 3 0], G x m8))) rfl rfl ?_
              refine wp_call 90 [vp 3 0] (52, ([some (vp 0 0), some (vi p0), some (vi p1), some (vi p2), some (vi p3), some (vi p4)], ([], G x m8))) rfl rfl (Cl.mono h (Nat.le_refl _) ?_)
              rintro r ⟨v10, m11, rfl, h⟩
              · show Wp X (d + 1) 2 (52, ([some (vp 0 0), some (vi p0), some (vi p1), some (vi p2), some (vi p3), some (vi p4)], ([vi v10], G x m11))) Q
                refine wp_run 1 true ((bif decide (v10 = 0) then 65 else 55), ([some (vp 0 0), some (vi p0), some (vi p1), some (vi p2), some (vi p3), some (vi p4)], ([], G x m11))) rfl rfl ?_
                refine wp_if (v10 = 0) (fun c12 => ?_) (fun c12 => ?_)
                · have h := h.1 c12
                  refine wp_run 1 true (66, ([some (vp 0 0), some (vi p0), some (vi p1), some (vi p2), some (vi p3), some (vi p4)], ([vp 0 0], G x m11))) rfl rfl ?_
                  refine wp_call 64 [vp 0 0] (69, ([some (vp 0 0), some (vi p0), some (vi p1), some (vi p2), some (vi p3), some (vi p4)], ([], G x m11))) rfl rfl (Cl.mono h (Nat.le_refl _) ?_)
                  rintro r ⟨m14, rfl, h⟩
                  · show Wp X (d + 1) 2 (69, ([some (vp 0 0), some (vi p0), some (vi p1), some (vi p2), some (vi p3), some (vi p4)], ([], G x m14))) Q
                    refine wp_run 8 true (83, ([some (vp 0 0), some (vi p0), some (vi p1), some (vi p2), some (vi p3), some (vi p4)], ([vi p4, vi p3, vi p2, vi p1, vi p0, vp 3 0], G x m14))) rfl rfl ?_
                    refine wp_call 92 [vp 3 0, vi p0, vi p1, vi p2, vi p3, vi p4] (86, ([some (vp 0 0), some (vi p0), some (vi p1), some (vi p2), some (vi p3), some (vi p4)], ([], G x m14))) rfl rfl (Cl.mono h (Nat.le_refl _) ?_)
                    rintro r ⟨v15, m16, rfl, h⟩
                    · show Wp X (d + 1) 2 (86, ([some (vp 0 0), some (vi p0), some (vi p1), some (vi p2), some (vi p3), some (vi p4)], ([vi v15], G x m16))) Q
                      exact wp_ret rfl h
                · have h := h.2 c12
                  exact wp_thr rfl rfl h
            · have h := h.2 c9
              exact wp_thr rfl rfl h
set_option maxRecDepth 100000 in
set_option maxHeartbeats 4000000 in
theorem vc_X10_withdraw {X : MX} {d : Nat} {x : Int64 × UInt64} {m : MI} {Q : MRes → Prop} {p0 : Int32} (h : Cl X d 62 [vp 0 0, vi p0] (G x m) (fun r => (∃ (v1 : Int32) (m2 : MI), r = (.inl (some (vi v1)), G x m2) ∧ Cl X d 64 [vp 0 0] (G x m2) (fun r => ∃ (m4 : MI), r = (.inl none, G x m4) ∧ Cl X d 93 [vp 3 0, vi v1] (G x m4) (fun r => ∃ (m6 : MI), r = (.inl none, G x m6) ∧ Q (.inl (some (vi (m6 3 0 1))), G x m6)))) ∨ (∃ (k7 : Nat) (u8 : Nat × Nat) (m9 : MI), r = (.inr k7, Gu u8 x m9) ∧ Q (.inr k7, Gu ((0, 0).1 + u8.1, (0, 0).2 + u8.2) x m9)))) : Cl X (d + 1) 3 [vp 0 0, vi p0] (G x m) Q := by
  show Wp X (d + 1) 3 (0, ([some (vp 0 0), some (vi p0), none], ([], G x m))) Q
  refine wp_run 2 true (2, ([some (vp 0 0), some (vi p0), none], ([vi p0, vp 0 0], G x m))) rfl rfl ?_
  refine wp_call 62 [vp 0 0, vi p0] (5, ([some (vp 0 0), some (vi p0), none], ([], G x m))) rfl rfl (Cl.mono h (Nat.le_refl _) ?_)
  intro r hr
  rcases hr with ⟨v1, m2, rfl, h⟩ | ⟨k7, u8, m9, rfl, h⟩
  · show Wp X (d + 1) 3 (5, ([some (vp 0 0), some (vi p0), none], ([vi v1], G x m2))) Q
    refine wp_run 2 true (7, ([some (vp 0 0), some (vi p0), some (vi v1)], ([vp 0 0], G x m2))) rfl rfl ?_
    refine wp_call 64 [vp 0 0] (10, ([some (vp 0 0), some (vi p0), some (vi v1)], ([], G x m2))) rfl rfl (Cl.mono h (Nat.le_refl _) ?_)
    rintro r ⟨m4, rfl, h⟩
    · show Wp X (d + 1) 3 (10, ([some (vp 0 0), some (vi p0), some (vi v1)], ([], G x m4))) Q
      refine wp_run 4 true (18, ([some (vp 0 0), some (vi p0), some (vi v1)], ([vi v1, vp 3 0], G x m4))) rfl rfl ?_
      refine wp_call 93 [vp 3 0, vi v1] (21, ([some (vp 0 0), some (vi p0), some (vi v1)], ([], G x m4))) rfl rfl (Cl.mono h (Nat.le_refl _) ?_)
      rintro r ⟨m6, rfl, h⟩
      · show Wp X (d + 1) 3 (21, ([some (vp 0 0), some (vi p0), some (vi v1)], ([], G x m6))) Q
        refine wp_run 4 true (31, ([some (vp 0 0), some (vi p0), some (vi v1)], ([vi (m6 3 0 1)], G x m6))) rfl rfl ?_
        exact wp_ret rfl h
  · exact h
set_option maxRecDepth 100000 in
set_option maxHeartbeats 4000000 in
theorem vc_X10_discard {X : MX} {d : Nat} {x : Int64 × UInt64} {m : MI} {Q : MRes → Prop} {p0 : Int32} (h : Cl X d 61 [vp 0 0, vi p0] (G x m) (fun r => (∃ (v1 : Int32) (m2 : MI), r = (.inl (some (vi v1)), G x m2) ∧ Cl X d 64 [vp 0 0] (G x m2) (fun r => ∃ (m4 : MI), r = (.inl none, G x m4) ∧ Cl X d 93 [vp 2 0, vi v1] (G x m4) (fun r => ∃ (m6 : MI), r = (.inl none, G x m6) ∧ Cl X d 72 [vp 1 0] (G x m6) (fun r => ∃ (m8 : MI), r = (.inl none, G x m8) ∧ Q (.inl (some (vi (m8 2 0 1))), G x m8))))) ∨ (∃ (k9 : Nat) (u10 : Nat × Nat) (m11 : MI), r = (.inr k9, Gu u10 x m11) ∧ Q (.inr k9, Gu ((0, 0).1 + u10.1, (0, 0).2 + u10.2) x m11)))) : Cl X (d + 1) 4 [vp 0 0, vi p0] (G x m) Q := by
  show Wp X (d + 1) 4 (0, ([some (vp 0 0), some (vi p0), none], ([], G x m))) Q
  refine wp_run 2 true (2, ([some (vp 0 0), some (vi p0), none], ([vi p0, vp 0 0], G x m))) rfl rfl ?_
  refine wp_call 61 [vp 0 0, vi p0] (5, ([some (vp 0 0), some (vi p0), none], ([], G x m))) rfl rfl (Cl.mono h (Nat.le_refl _) ?_)
  intro r hr
  rcases hr with ⟨v1, m2, rfl, h⟩ | ⟨k9, u10, m11, rfl, h⟩
  · show Wp X (d + 1) 4 (5, ([some (vp 0 0), some (vi p0), none], ([vi v1], G x m2))) Q
    refine wp_run 2 true (7, ([some (vp 0 0), some (vi p0), some (vi v1)], ([vp 0 0], G x m2))) rfl rfl ?_
    refine wp_call 64 [vp 0 0] (10, ([some (vp 0 0), some (vi p0), some (vi v1)], ([], G x m2))) rfl rfl (Cl.mono h (Nat.le_refl _) ?_)
    rintro r ⟨m4, rfl, h⟩
    · show Wp X (d + 1) 4 (10, ([some (vp 0 0), some (vi p0), some (vi v1)], ([], G x m4))) Q
      refine wp_run 4 true (18, ([some (vp 0 0), some (vi p0), some (vi v1)], ([vi v1, vp 2 0], G x m4))) rfl rfl ?_
      refine wp_call 93 [vp 2 0, vi v1] (21, ([some (vp 0 0), some (vi p0), some (vi v1)], ([], G x m4))) rfl rfl (Cl.mono h (Nat.le_refl _) ?_)
      rintro r ⟨m6, rfl, h⟩
      · show Wp X (d + 1) 4 (21, ([some (vp 0 0), some (vi p0), some (vi v1)], ([], G x m6))) Q
        refine wp_run 2 true (25, ([some (vp 0 0), some (vi p0), some (vi v1)], ([vp 1 0], G x m6))) rfl rfl ?_
        refine wp_call 72 [vp 1 0] (28, ([some (vp 0 0), some (vi p0), some (vi v1)], ([], G x m6))) rfl rfl (Cl.mono h (Nat.le_refl _) ?_)
        rintro r ⟨m8, rfl, h⟩
        · show Wp X (d + 1) 4 (28, ([some (vp 0 0), some (vi p0), some (vi v1)], ([], G x m8))) Q
          refine wp_run 4 true (38, ([some (vp 0 0), some (vi p0), some (vi v1)], ([vi (m8 2 0 1)], G x m8))) rfl rfl ?_
          exact wp_ret rfl h
  · exact h
set_option maxRecDepth 100000 in
set_option maxHeartbeats 4000000 in
theorem vc_X10_setMetric {X : MX} {d : Nat} {x : Int64 × UInt64} {m : MI} {Q : MRes → Prop} {p0 : Int32} (h : Cl X d 59 [vi p0] (G x m) (fun r => ∃ (v1 : Int32) (m2 : MI), r = (.inl (some (vi v1)), G x m2) ∧ ((¬ v1 = 0 → Cl X d 64 [vp 0 0] (G x m2) (fun r => ∃ (m5 : MI), r = (.inl none, G x m5) ∧ (∀ t6 : Int32, t6 = m5 1 0 3 → (okT 3 p0 = true ∧ (∀ m7 : MI, m7 = mup m5 1 0 3 p0 → (okT 3 t6 = true ∧ Q (.inl (some (vi t6)), G x m7))))))) ∧ (¬ (¬ v1 = 0) → Q (.inr 0, Gu (1 + (0, 0).1, 6 + (0, 0).2) x m2))))) : Cl X (d + 1) 5 [vp 0 0, vi p0] (G x m) Q := by
  show Wp X (d + 1) 5 (0, ([some (vp 0 0), some (vi p0), none], ([], G x m))) Q
  refine wp_run 1 true (1, ([some (vp 0 0), some (vi p0), none], ([vi p0], G x m))) rfl rfl ?_
  refine wp_call 59 [vi p0] (4, ([some (vp 0 0), some (vi p0), none], ([], G x m))) rfl rfl (Cl.mono h (Nat.le_refl _) ?_)
  rintro r ⟨v1, m2, rfl, h⟩
  · show Wp X (d + 1) 5 (4, ([some (vp 0 0), some (vi p0), none], ([vi v1], G x m2))) Q
    refine wp_run 1 true ((bif decide (¬ v1 = 0) then 17 else 7), ([some (vp 0 0), some (vi p0), none], ([], G x m2))) rfl rfl ?_
    refine wp_if (¬ v1 = 0) (fun c3 => ?_) (fun c3 => ?_)
    · have h := h.1 c3
      refine wp_run 1 true (18, ([some (vp 0 0), some (vi p0), none], ([vp 0 0], G x m2))) rfl rfl ?_
      refine wp_call 64 [vp 0 0] (21, ([some (vp 0 0), some (vi p0), none], ([], G x m2))) rfl rfl (Cl.mono h (Nat.le_refl _) ?_)
      rintro r ⟨m5, rfl, h⟩
      · show Wp X (d + 1) 5 (21, ([some (vp 0 0), some (vi p0), none], ([], G x m5))) Q
        refine wp_run 4 true (29, ([some (vp 0 0), some (vi p0), some (vi (m5 1 0 3))], ([], G x m5))) rfl rfl ?_
        refine wpg (fun t6 => Wp X (d + 1) 5 (29, ([some (vp 0 0), some (vi p0), some (vi t6)], ([], G x m5))) Q) (m5 1 0 3) (fun t6 ht6 => ?_)
        have h := h t6 ht6
        obtain ⟨hg4_0, h⟩ := h
        refine wp_run 4 (okT 3 p0 && true) (37, ([some (vp 0 0), some (vi p0), some (vi t6)], ([], G x (mup m5 1 0 3 p0)))) rfl (and_t hg4_0 rfl) ?_
        refine wpg (fun m7 => Wp X (d + 1) 5 (37, ([some (vp 0 0), some (vi p0), some (vi t6)], ([], G x m7))) Q) (mup m5 1 0 3 p0) (fun m7 hm7 => ?_)
        have h := h m7 hm7
        refine wp_run 1 true (38, ([some (vp 0 0), some (vi p0), some (vi t6)], ([vi t6], G x m7))) rfl rfl ?_
        exact wp_retT (okT 3 t6) rfl h.1 h.2
    · have h := h.2 c3
      exact wp_thr rfl rfl h
set_option maxRecDepth 100000 in
set_option maxHeartbeats 4000000 in
theorem vc_X10_giveBack {X : MX} {d : Nat} {x : Int64 × UInt64} {m : MI} {Q : MRes → Prop} {p0 : Int32} {p1 : Int32} (h : Cl X d 62 [vp 0 0, vi p0] (G x m) (fun r => (∃ (v1 : Int32) (m2 : MI), r = (.inl (some (vi v1)), G x m2) ∧ Cl X d 61 [vp 0 0, vi p1] (G x m2) (fun r => (∃ (v3 : Int32) (m4 : MI), r = (.inl (some (vi v3)), G x m4) ∧ (inb v1 6 = true ∧ Cl X d 87 [vp 1 0, vp 7 (6 * 0 + v1.toNatClampNeg)] (G x m4) (fun r => ∃ (v5 : Int32) (m6 : MI), r = (.inl (some (vi v5)), G x m6) ∧ ((¬ v5 = v3 → Q (.inr 3, Gu (1 + (0, 0).1, 6 + (0, 0).2) x m6)) ∧ (¬ (¬ v5 = v3) → Cl X d 86 [vp 1 0, vi v1, vi v3] (G x m6) (fun r => ∃ (v8 : Int32) (m9 : MI), r = (.inl (some (vi v8)), G x m9) ∧ ((¬ v8 = 0 → Cl X d 64 [vp 0 0] (G x m9) (fun r => ∃ (m12 : MI), r = (.inl none, G x m12) ∧ (inb v1 6 = true ∧ (∀ t13 : Int32, t13 = m12 7 (6 * 0 + v1.toNatClampNeg) 5 → Cl X d 73 [vp 1 0, vi t13] (G x m12) (fun r => ∃ (m15 : MI), r = (.inl none, G x m15) ∧ Cl X d 93 [vp 3 0, vi v1] (G x m15) (fun r => ∃ (m17 : MI), r = (.inl none, G x m17) ∧ Cl X d 93 [vp 2 0, vi v3] (G x m17) (fun r => ∃ (m19 : MI), r = (.inl none, G x m19) ∧ Q (.inl (some (vi t13)), G x m19)))))))) ∧ (¬ (¬ v8 = 0) → Q (.inr 3, Gu (1 + (0, 0).1, 6 + (0, 0).2) x m9))))))))) ∨ (∃ (k20 : Nat) (u21 : Nat × Nat) (m22 : MI), r = (.inr k20, Gu u21 x m22) ∧ Q (.inr k20, Gu ((0, 0).1 + u21.1, (0, 0).2 + u21.2) x m22)))) ∨ (∃ (k23 : Nat) (u24 : Nat × Nat) (m25 : MI), r = (.inr k23, Gu u24 x m25) ∧ Q (.inr k23, Gu ((0, 0).1 + u24.1, (0, 0).2 + u24.2) x m25)))) : Cl X (d + 1) 6 [vp 0 0, vi p0, vi p1] (G x m) Q := by
  show Wp X (d + 1) 6 (0, ([some (vp 0 0), some (vi p0), some (vi p1), none, none, none], ([], G x m))) Q
  refine wp_run 2 true (2, ([some (vp 0 0), some (vi p0), some (vi p1), none, none, none], ([vi p0, vp 0 0], G x m))) rfl rfl ?_
  refine wp_call 62 [vp 0 0, vi p0] (5, ([some (vp 0 0), some (vi p0), some (vi p1), none, none, none], ([], G x m))) rfl rfl (Cl.mono h (Nat.le_refl _) ?_)
  intro r hr
  rcases hr with ⟨v1, m2, rfl, h⟩ | ⟨k23, u24, m25, rfl, h⟩
  · show Wp X (d + 1) 6 (5, ([some (vp 0 0), some (vi p0), some (vi p1), none, none, none], ([vi v1], G x m2))) Q
    refine wp_run 3 true (8, ([some (vp 0 0), some (vi p0), some (vi p1), some (vi v1), none, none], ([vi p1, vp 0 0], G x m2))) rfl rfl ?_
    refine wp_call 61 [vp 0 0, vi p1] (11, ([some (vp 0 0), some (vi p0), some (vi p1), some (vi v1), none, none], ([], G x m2))) rfl rfl (Cl.mono h (Nat.le_refl _) ?_)
    intro r hr
    rcases hr with ⟨v3, m4, rfl, h⟩ | ⟨k20, u21, m22, rfl, h⟩
    · show Wp X (d + 1) 6 (11, ([some (vp 0 0), some (vi p0), some (vi p1), some (vi v1), none, none], ([vi v3], G x m4))) Q
      obtain ⟨hg3_0, h⟩ := h
      refine wp_run 9 (inb v1 6 && true) (29, ([some (vp 0 0), some (vi p0), some (vi p1), some (vi v1), some (vi v3), none], ([vp 7 (6 * 0 + v1.toNatClampNeg), vp 1 0], G x m4))) rfl (and_t hg3_0 rfl) ?_
      refine wp_call 87 [vp 1 0, vp 7 (6 * 0 + v1.toNatClampNeg)] (32, ([some (vp 0 0), some (vi p0), some (vi p1), some (vi v1), some (vi v3), none], ([], G x m4))) rfl rfl (Cl.mono h (Nat.le_refl _) ?_)
      rintro r ⟨v5, m6, rfl, h⟩
      · show Wp X (d + 1) 6 (32, ([some (vp 0 0), some (vi p0), some (vi p1), some (vi v1), some (vi v3), none], ([vi v5], G x m6))) Q
        refine wp_run 2 true ((bif decide (¬ v5 = v3) then 50 else 37), ([some (vp 0 0), some (vi p0), some (vi p1), some (vi v1), some (vi v3), none], ([], G x m6))) rfl rfl ?_
        refine wp_if (¬ v5 = v3) (fun c7 => ?_) (fun c7 => ?_)
        · have h := h.1 c7
          exact wp_thr rfl rfl h
        · have h := h.2 c7
          refine wp_run 4 true (44, ([some (vp 0 0), some (vi p0), some (vi p1), some (vi v1), some (vi v3), none], ([vi v3, vi v1, vp 1 0], G x m6))) rfl rfl ?_
          refine wp_call 86 [vp 1 0, vi v1, vi v3] (47, ([some (vp 0 0), some (vi p0), some (vi p1), some (vi v1), some (vi v3), none], ([], G x m6))) rfl rfl (Cl.mono h (Nat.le_refl _) ?_)
          rintro r ⟨v8, m9, rfl, h⟩
          · show Wp X (d + 1) 6 (47, ([some (vp 0 0), some (vi p0), some (vi p1), some (vi v1), some (vi v3), none], ([vi v8], G x m9))) Q
            refine wp_run 1 true ((bif decide (¬ v8 = 0) then 60 else 50), ([some (vp 0 0), some (vi p0), some (vi p1), some (vi v1), some (vi v3), none], ([], G x m9))) rfl rfl ?_
            refine wp_if (¬ v8 = 0) (fun c10 => ?_) (fun c10 => ?_)
            · have h := h.1 c10
              refine wp_run 1 true (61, ([some (vp 0 0), some (vi p0), some (vi p1), some (vi v1), some (vi v3), none], ([vp 0 0], G x m9))) rfl rfl ?_
              refine wp_call 64 [vp 0 0] (64, ([some (vp 0 0), some (vi p0), some (vi p1), some (vi v1), some (vi v3), none], ([], G x m9))) rfl rfl (Cl.mono h (Nat.le_refl _) ?_)
              rintro r ⟨m12, rfl, h⟩
              · show Wp X (d + 1) 6 (64, ([some (vp 0 0), some (vi p0), some (vi p1), some (vi v1), some (vi v3), none], ([], G x m12))) Q
                obtain ⟨hg8_0, h⟩ := h
                refine wp_run 9 (inb v1 6 && true) (80, ([some (vp 0 0), some (vi p0), some (vi p1), some (vi v1), some (vi v3), some (vi (m12 7 (6 * 0 + v1.toNatClampNeg) 5))], ([], G x m12))) rfl (and_t hg8_0 rfl) ?_
                refine wpg (fun t13 => Wp X (d + 1) 6 (80, ([some (vp 0 0), some (vi p0), some (vi p1), some (vi v1), some (vi v3), some (vi t13)], ([], G x m12))) Q) (m12 7 (6 * 0 + v1.toNatClampNeg) 5) (fun t13 ht13 => ?_)
                have h := h t13 ht13
                refine wp_run 3 true (86, ([some (vp 0 0), some (vi p0), some (vi p1), some (vi v1), some (vi v3), some (vi t13)], ([vi t13, vp 1 0], G x m12))) rfl rfl ?_
                refine wp_call 73 [vp 1 0, vi t13] (89, ([some (vp 0 0), some (vi p0), some (vi p1), some (vi v1), some (vi v3), some (vi t13)], ([], G x m12))) rfl rfl (Cl.mono h (Nat.le_refl _) ?_)
                rintro r ⟨m15, rfl, h⟩
                · show Wp X (d + 1) 6 (89, ([some (vp 0 0), some (vi p0), some (vi p1), some (vi v1), some (vi v3), some (vi t13)], ([], G x m15))) Q
                  refine wp_run 4 true (97, ([some (vp 0 0), some (vi p0), some (vi p1), some (vi v1), some (vi v3), some (vi t13)], ([vi v1, vp 3 0], G x m15))) rfl rfl ?_
                  refine wp_call 93 [vp 3 0, vi v1] (100, ([some (vp 0 0), some (vi p0), some (vi p1), some (vi v1), some (vi v3), some (vi t13)], ([], G x m15))) rfl rfl (Cl.mono h (Nat.le_refl _) ?_)
                  rintro r ⟨m17, rfl, h⟩
                  · show Wp X (d + 1) 6 (100, ([some (vp 0 0), some (vi p0), some (vi p1), some (vi v1), some (vi v3), some (vi t13)], ([], G x m17))) Q
                    refine wp_run 4 true (109, ([some (vp 0 0), some (vi p0), some (vi p1), some (vi v1), some (vi v3), some (vi t13)], ([vi v3, vp 2 0], G x m17))) rfl rfl ?_
                    refine wp_call 93 [vp 2 0, vi v3] (112, ([some (vp 0 0), some (vi p0), some (vi p1), some (vi v1), some (vi v3), some (vi t13)], ([], G x m17))) rfl rfl (Cl.mono h (Nat.le_refl _) ?_)
                    rintro r ⟨m19, rfl, h⟩
                    · show Wp X (d + 1) 6 (112, ([some (vp 0 0), some (vi p0), some (vi p1), some (vi v1), some (vi v3), some (vi t13)], ([], G x m19))) Q
                      refine wp_run 1 true (114, ([some (vp 0 0), some (vi p0), some (vi p1), some (vi v1), some (vi v3), some (vi t13)], ([vi t13], G x m19))) rfl rfl ?_
                      exact wp_ret rfl h
            · have h := h.2 c10
              exact wp_thr rfl rfl h
    · exact h
  · exact h
set_option maxRecDepth 100000 in
set_option maxHeartbeats 4000000 in
theorem vc_X10_settle {X : MX} {d : Nat} {x : Int64 × UInt64} {m : MI} {Q : MRes → Prop} (h : Cl X d 108 [vp 12 0, vp 1 0] (G x m) (fun r => ∃ (m2 : MI), r = (.inl none, G x m2) ∧ Cl X d 64 [vp 0 0] (G x m2) (fun r => ∃ (m4 : MI), r = (.inl none, G x m4) ∧ Cl X d 118 [vp 12 0, vp 1 0] (G x m4) (fun r => ∃ (v5 : Int32) (m6 : MI), r = (.inl (some (vi v5)), G x m6) ∧ Q (.inl (some (vi v5)), G x m6))))) : Cl X (d + 1) 7 [vp 0 0] (G x m) Q := by
  show Wp X (d + 1) 7 (0, ([some (vp 0 0)], ([], G x m))) Q
  refine wp_run 4 true (8, ([some (vp 0 0)], ([vp 1 0, vp 12 0], G x m))) rfl rfl ?_
  refine wp_call 108 [vp 12 0, vp 1 0] (11, ([some (vp 0 0)], ([], G x m))) rfl rfl (Cl.mono h (Nat.le_refl _) ?_)
  rintro r ⟨m2, rfl, h⟩
  · show Wp X (d + 1) 7 (11, ([some (vp 0 0)], ([], G x m2))) Q
    refine wp_run 1 true (12, ([some (vp 0 0)], ([vp 0 0], G x m2))) rfl rfl ?_
    refine wp_call 64 [vp 0 0] (15, ([some (vp 0 0)], ([], G x m2))) rfl rfl (Cl.mono h (Nat.le_refl _) ?_)
    rintro r ⟨m4, rfl, h⟩
    · show Wp X (d + 1) 7 (15, ([some (vp 0 0)], ([], G x m4))) Q
      refine wp_run 4 true (23, ([some (vp 0 0)], ([vp 1 0, vp 12 0], G x m4))) rfl rfl ?_
      refine wp_call 118 [vp 12 0, vp 1 0] (26, ([some (vp 0 0)], ([], G x m4))) rfl rfl (Cl.mono h (Nat.le_refl _) ?_)
      rintro r ⟨v5, m6, rfl, h⟩
      · show Wp X (d + 1) 7 (26, ([some (vp 0 0)], ([vi v5], G x m6))) Q
        exact wp_ret rfl h
set_option maxRecDepth 100000 in
set_option maxHeartbeats 4000000 in
theorem vc_X10_mix {X : MX} {d : Nat} {x : Int64 × UInt64} {m : MI} {Q : MRes → Prop} {p0 : Int32} {p1 : Int32} (h : Cl X d 61 [vp 0 0, vi p0] (G x m) (fun r => (∃ (v1 : Int32) (m2 : MI), r = (.inl (some (vi v1)), G x m2) ∧ Cl X d 61 [vp 0 0, vi p1] (G x m2) (fun r => (∃ (v3 : Int32) (m4 : MI), r = (.inl (some (vi v3)), G x m4) ∧ ((¬ v1 = v3 → Cl X d 64 [vp 0 0] (G x m4) (fun r => ∃ (m7 : MI), r = (.inl none, G x m7) ∧ Cl X d 74 [vp 1 0, vi v1, vi v3] (G x m7) (fun r => ∃ (v8 : Int32) (m9 : MI), r = (.inl (some (vi v8)), G x m9) ∧ Q (.inl (some (vi v8)), G x m9)))) ∧ (¬ (¬ v1 = v3) → Q (.inr 0, Gu (1 + (0, 0).1, 6 + (0, 0).2) x m4)))) ∨ (∃ (k10 : Nat) (u11 : Nat × Nat) (m12 : MI), r = (.inr k10, Gu u11 x m12) ∧ Q (.inr k10, Gu ((0, 0).1 + u11.1, (0, 0).2 + u11.2) x m12)))) ∨ (∃ (k13 : Nat) (u14 : Nat × Nat) (m15 : MI), r = (.inr k13, Gu u14 x m15) ∧ Q (.inr k13, Gu ((0, 0).1 + u14.1, (0, 0).2 + u14.2) x m15)))) : Cl X (d + 1) 8 [vp 0 0, vi p0, vi p1] (G x m) Q := by
  show Wp X (d + 1) 8 (0, ([some (vp 0 0), some (vi p0), some (vi p1), none, none], ([], G x m))) Q
  refine wp_run 2 true (2, ([some (vp 0 0), some (vi p0), some (vi p1), none, none], ([vi p0, vp 0 0], G x m))) rfl rfl ?_
  refine wp_call 61 [vp 0 0, vi p0] (5, ([some (vp 0 0), some (vi p0), some (vi p1), none, none], ([], G x m))) rfl rfl (Cl.mono h (Nat.le_refl _) ?_)
  intro r hr
  rcases hr with ⟨v1, m2, rfl, h⟩ | ⟨k13, u14, m15, rfl, h⟩
  · show Wp X (d + 1) 8 (5, ([some (vp 0 0), some (vi p0), some (vi p1), none, none], ([vi v1], G x m2))) Q
    refine wp_run 3 true (8, ([some (vp 0 0), some (vi p0), some (vi p1), some (vi v1), none], ([vi p1, vp 0 0], G x m2))) rfl rfl ?_
    refine wp_call 61 [vp 0 0, vi p1] (11, ([some (vp 0 0), some (vi p0), some (vi p1), some (vi v1), none], ([], G x m2))) rfl rfl (Cl.mono h (Nat.le_refl _) ?_)
    intro r hr
    rcases hr with ⟨v3, m4, rfl, h⟩ | ⟨k10, u11, m12, rfl, h⟩
    · show Wp X (d + 1) 8 (11, ([some (vp 0 0), some (vi p0), some (vi p1), some (vi v1), none], ([vi v3], G x m4))) Q
      refine wp_run 4 true ((bif decide (¬ v1 = v3) then 29 else 19), ([some (vp 0 0), some (vi p0), some (vi p1), some (vi v1), some (vi v3)], ([], G x m4))) rfl rfl ?_
      refine wp_if (¬ v1 = v3) (fun c5 => ?_) (fun c5 => ?_)
      · have h := h.1 c5
        refine wp_run 1 true (30, ([some (vp 0 0), some (vi p0), some (vi p1), some (vi v1), some (vi v3)], ([vp 0 0], G x m4))) rfl rfl ?_
        refine wp_call 64 [vp 0 0] (33, ([some (vp 0 0), some (vi p0), some (vi p1), some (vi v1), some (vi v3)], ([], G x m4))) rfl rfl (Cl.mono h (Nat.le_refl _) ?_)
        rintro r ⟨m7, rfl, h⟩
        · show Wp X (d + 1) 8 (33, ([some (vp 0 0), some (vi p0), some (vi p1), some (vi v1), some (vi v3)], ([], G x m7))) Q
          refine wp_run 4 true (40, ([some (vp 0 0), some (vi p0), some (vi p1), some (vi v1), some (vi v3)], ([vi v3, vi v1, vp 1 0], G x m7))) rfl rfl ?_
          refine wp_call 74 [vp 1 0, vi v1, vi v3] (43, ([some (vp 0 0), some (vi p0), some (vi p1), some (vi v1), some (vi v3)], ([], G x m7))) rfl rfl (Cl.mono h (Nat.le_refl _) ?_)
          rintro r ⟨v8, m9, rfl, h⟩
          · show Wp X (d + 1) 8 (43, ([some (vp 0 0), some (vi p0), some (vi p1), some (vi v1), some (vi v3)], ([vi v8], G x m9))) Q
            exact wp_ret rfl h
      · have h := h.2 c5
        exact wp_thr rfl rfl h
    · exact h
  · exact h
set_option maxRecDepth 100000 in
set_option maxHeartbeats 4000000 in
theorem vc_X10_passDays {X : MX} {d : Nat} {x : Int64 × UInt64} {m : MI} {Q : MRes → Prop} {p0 : Int32} (h : Cl X d 57 [vi p0, vi 1, vi 99] (G x m) (fun r => ∃ (v1 : Int32) (m2 : MI), r = (.inl (some (vi v1)), G x m2) ∧ ((¬ v1 = 0 → Cl X d 64 [vp 0 0] (G x m2) (fun r => ∃ (m5 : MI), r = (.inl none, G x m5) ∧ Wp X (d + 1) 9 (26, ([some (vp 0 0), some (vi p0), some (vi 0)], ([], G x m5))) Q)) ∧ (¬ (¬ v1 = 0) → Q (.inr 0, Gu (1 + (0, 0).1, 6 + (0, 0).2) x m2))))) : Cl X (d + 1) 9 [vp 0 0, vi p0] (G x m) Q := by
  show Wp X (d + 1) 9 (0, ([some (vp 0 0), some (vi p0), none], ([], G x m))) Q
  refine wp_run 3 true (4, ([some (vp 0 0), some (vi p0), none], ([vi 99, vi 1, vi p0], G x m))) rfl rfl ?_
  refine wp_call 57 [vi p0, vi 1, vi 99] (7, ([some (vp 0 0), some (vi p0), none], ([], G x m))) rfl rfl (Cl.mono h (Nat.le_refl _) ?_)
  rintro r ⟨v1, m2, rfl, h⟩
  · show Wp X (d + 1) 9 (7, ([some (vp 0 0), some (vi p0), none], ([vi v1], G x m2))) Q
    refine wp_run 1 true ((bif decide (¬ v1 = 0) then 20 else 10), ([some (vp 0 0), some (vi p0), none], ([], G x m2))) rfl rfl ?_
    refine wp_if (¬ v1 = 0) (fun c3 => ?_) (fun c3 => ?_)
    · have h := h.1 c3
      refine wp_run 1 true (21, ([some (vp 0 0), some (vi p0), none], ([vp 0 0], G x m2))) rfl rfl ?_
      refine wp_call 64 [vp 0 0] (24, ([some (vp 0 0), some (vi p0), none], ([], G x m2))) rfl rfl (Cl.mono h (Nat.le_refl _) ?_)
      rintro r ⟨m5, rfl, h⟩
      · show Wp X (d + 1) 9 (24, ([some (vp 0 0), some (vi p0), none], ([], G x m5))) Q
        refine wp_run 2 true (26, ([some (vp 0 0), some (vi p0), some (vi 0)], ([], G x m5))) rfl rfl ?_
        exact h
    · have h := h.2 c3
      exact wp_thr rfl rfl h
set_option maxRecDepth 100000 in
set_option maxHeartbeats 4000000 in
theorem vl_X10_passDays_26 {X : MX} {d : Nat} {x : Int64 × UInt64} {m : MI} {Q : MRes → Prop} {l1 : Int32} {l2 : Int32} (h : ((l1 ≤ l2 → Cl X d 79 [vp 1 0] (G x m) (fun r => ∃ (v2 : Int32) (m3 : MI), r = (.inl (some (vi v2)), G x m3) ∧ Q (.inl (some (vi v2)), G x m3))) ∧ (¬ (l1 ≤ l2) → Cl X d 75 [vp 1 0] (G x m) (fun r => ∃ (m5 : MI), r = (.inl none, G x m5) ∧ (∀ t6 : Int32, t6 = l2 + 1 → Wp X (d + 1) 9 (26, ([some (vp 0 0), some (vi l1), some (vi t6)], ([], G x m5))) Q))))) : Wp X (d + 1) 9 (26, ([some (vp 0 0), some (vi l1), some (vi l2)], ([], G x m))) Q := by
  refine wp_run 3 true ((bif decide (l1 ≤ l2) then 44 else 31), ([some (vp 0 0), some (vi l1), some (vi l2)], ([], G x m))) rfl rfl ?_
  refine wp_if (l1 ≤ l2) (fun c1 => ?_) (fun c1 => ?_)
  · have h := h.1 c1
    refine wp_run 2 true (48, ([some (vp 0 0), some (vi l1), some (vi l2)], ([vp 1 0], G x m))) rfl rfl ?_
    refine wp_call 79 [vp 1 0] (51, ([some (vp 0 0), some (vi l1), some (vi l2)], ([], G x m))) rfl rfl (Cl.mono h (Nat.le_refl _) ?_)
    rintro r ⟨v2, m3, rfl, h⟩
    · show Wp X (d + 1) 9 (51, ([some (vp 0 0), some (vi l1), some (vi l2)], ([vi v2], G x m3))) Q
      exact wp_ret rfl h
  · have h := h.2 c1
    refine wp_run 2 true (35, ([some (vp 0 0), some (vi l1), some (vi l2)], ([vp 1 0], G x m))) rfl rfl ?_
    refine wp_call 75 [vp 1 0] (38, ([some (vp 0 0), some (vi l1), some (vi l2)], ([], G x m))) rfl rfl (Cl.mono h (Nat.le_refl _) ?_)
    rintro r ⟨m5, rfl, h⟩
    · show Wp X (d + 1) 9 (38, ([some (vp 0 0), some (vi l1), some (vi l2)], ([], G x m5))) Q
      refine wp_run 1 true (41, ([some (vp 0 0), some (vi l1), some (vi (l2 + 1))], ([], G x m5))) rfl rfl ?_
      refine wpg (fun t6 => Wp X (d + 1) 9 (41, ([some (vp 0 0), some (vi l1), some (vi t6)], ([], G x m5))) Q) (l2 + 1) (fun t6 ht6 => ?_)
      have h := h t6 ht6
      refine wp_run 1 true (26, ([some (vp 0 0), some (vi l1), some (vi t6)], ([], G x m5))) rfl rfl ?_
      exact h
set_option maxRecDepth 100000 in
set_option maxHeartbeats 4000000 in
theorem vc_X10_colourCount {X : MX} {d : Nat} {x : Int64 × UInt64} {m : MI} {Q : MRes → Prop} (h : Q (.inl (some (vi (m 2 0 1))), G x m)) : Cl X d 10 [vp 0 0] (G x m) Q := by
  show Wp X d 10 (0, ([some (vp 0 0)], ([], G x m))) Q
  refine wp_run 4 true (10, ([some (vp 0 0)], ([vi (m 2 0 1)], G x m))) rfl rfl ?_
  exact wp_ret rfl h
set_option maxRecDepth 100000 in
set_option maxHeartbeats 4000000 in
theorem vc_X10_colourAt {X : MX} {d : Nat} {x : Int64 × UInt64} {m : MI} {Q : MRes → Prop} {p0 : Int32} (h : ((p0 < 0 → Q (.inr 2, Gu (1 + (0, 0).1, 6 + (0, 0).2) x m)) ∧ (¬ (p0 < 0) → ((p0 < (m 2 0 1) → (inb p0 10 = true ∧ Q (.inl (some (vi (m 5 (10 * 0 + p0.toNatClampNeg) 0))), G x m))) ∧ (¬ (p0 < (m 2 0 1)) → Q (.inr 2, Gu (1 + (0, 0).1, 6 + (0, 0).2) x m)))))) : Cl X d 11 [vp 0 0, vi p0] (G x m) Q := by
  show Wp X d 11 (0, ([some (vp 0 0), some (vi p0)], ([], G x m))) Q
  refine wp_run 2 true ((bif decide (p0 < 0) then 18 else 4), ([some (vp 0 0), some (vi p0)], ([], G x m))) rfl rfl ?_
  refine wp_if (p0 < 0) (fun c1 => ?_) (fun c1 => ?_)
  · have h := h.1 c1
    exact wp_thr rfl rfl h
  · have h := h.2 c1
    refine wp_run 6 true ((bif decide (p0 < (m 2 0 1)) then 28 else 18), ([some (vp 0 0), some (vi p0)], ([], G x m))) rfl rfl ?_
    refine wp_if (p0 < (m 2 0 1)) (fun c2 => ?_) (fun c2 => ?_)
    · have h := h.1 c2
      obtain ⟨hg3_0, h⟩ := h
      refine wp_run 8 (inb p0 10 && true) (42, ([some (vp 0 0), some (vi p0)], ([vi (m 5 (10 * 0 + p0.toNatClampNeg) 0)], G x m))) rfl (and_t hg3_0 rfl) ?_
      exact wp_ret rfl h
    · have h := h.2 c2
      exact wp_thr rfl rfl h
set_option maxRecDepth 100000 in
set_option maxHeartbeats 4000000 in
theorem vc_X10_red {X : MX} {d : Nat} {x : Int64 × UInt64} {m : MI} {Q : MRes → Prop} {p0 : Int32} (h : Cl X d 61 [vp 0 0, vi p0] (G x m) (fun r => (∃ (v1 : Int32) (m2 : MI), r = (.inl (some (vi v1)), G x m2) ∧ (inb v1 10 = true ∧ Q (.inl (some (vi (m2 5 (10 * 0 + v1.toNatClampNeg) 1))), G x m2))) ∨ (∃ (k3 : Nat) (u4 : Nat × Nat) (m5 : MI), r = (.inr k3, Gu u4 x m5) ∧ Q (.inr k3, Gu ((0, 0).1 + u4.1, (0, 0).2 + u4.2) x m5)))) : Cl X (d + 1) 12 [vp 0 0, vi p0] (G x m) Q := by
  show Wp X (d + 1) 12 (0, ([some (vp 0 0), some (vi p0)], ([], G x m))) Q
  refine wp_run 6 true (12, ([some (vp 0 0), some (vi p0)], ([vi p0, vp 0 0, vp 4 0], G x m))) rfl rfl ?_
  refine wp_call 61 [vp 0 0, vi p0] (15, ([some (vp 0 0), some (vi p0)], ([vp 4 0], G x m))) rfl rfl (Cl.mono h (Nat.le_refl _) ?_)
  intro r hr
  rcases hr with ⟨v1, m2, rfl, h⟩ | ⟨k3, u4, m5, rfl, h⟩
  · show Wp X (d + 1) 12 (15, ([some (vp 0 0), some (vi p0)], ([vi v1, vp 4 0], G x m2))) Q
    obtain ⟨hg2_0, h⟩ := h
    refine wp_run 3 (inb v1 10 && true) (18, ([some (vp 0 0), some (vi p0)], ([vi (m2 5 (10 * 0 + v1.toNatClampNeg) 1)], G x m2))) rfl (and_t hg2_0 rfl) ?_
    exact wp_ret rfl h
  · exact h
set_option maxRecDepth 100000 in
set_option maxHeartbeats 4000000 in
theorem vc_X10_green {X : MX} {d : Nat} {x : Int64 × UInt64} {m : MI} {Q : MRes → Prop} {p0 : Int32} (h : Cl X d 61 [vp 0 0, vi p0] (G x m) (fun r => (∃ (v1 : Int32) (m2 : MI), r = (.inl (some (vi v1)), G x m2) ∧ (inb v1 10 = true ∧ Q (.inl (some (vi (m2 5 (10 * 0 + v1.toNatClampNeg) 2))), G x m2))) ∨ (∃ (k3 : Nat) (u4 : Nat × Nat) (m5 : MI), r = (.inr k3, Gu u4 x m5) ∧ Q (.inr k3, Gu ((0, 0).1 + u4.1, (0, 0).2 + u4.2) x m5)))) : Cl X (d + 1) 13 [vp 0 0, vi p0] (G x m) Q := by
  show Wp X (d + 1) 13 (0, ([some (vp 0 0), some (vi p0)], ([], G x m))) Q
  refine wp_run 6 true (12, ([some (vp 0 0), some (vi p0)], ([vi p0, vp 0 0, vp 4 0], G x m))) rfl rfl ?_
  refine wp_call 61 [vp 0 0, vi p0] (15, ([some (vp 0 0), some (vi p0)], ([vp 4 0], G x m))) rfl rfl (Cl.mono h (Nat.le_refl _) ?_)
  intro r hr
  rcases hr with ⟨v1, m2, rfl, h⟩ | ⟨k3, u4, m5, rfl, h⟩
  · show Wp X (d + 1) 13 (15, ([some (vp 0 0), some (vi p0)], ([vi v1, vp 4 0], G x m2))) Q
    obtain ⟨hg2_0, h⟩ := h
    refine wp_run 3 (inb v1 10 && true) (18, ([some (vp 0 0), some (vi p0)], ([vi (m2 5 (10 * 0 + v1.toNatClampNeg) 2)], G x m2))) rfl (and_t hg2_0 rfl) ?_
    exact wp_ret rfl h
  · exact h
set_option maxRecDepth 100000 in
set_option maxHeartbeats 4000000 in
theorem vc_X10_blue {X : MX} {d : Nat} {x : Int64 × UInt64} {m : MI} {Q : MRes → Prop} {p0 : Int32} (h : Cl X d 61 [vp 0 0, vi p0] (G x m) (fun r => (∃ (v1 : Int32) (m2 : MI), r = (.inl (some (vi v1)), G x m2) ∧ (inb v1 10 = true ∧ Q (.inl (some (vi (m2 5 (10 * 0 + v1.toNatClampNeg) 3))), G x m2))) ∨ (∃ (k3 : Nat) (u4 : Nat × Nat) (m5 : MI), r = (.inr k3, Gu u4 x m5) ∧ Q (.inr k3, Gu ((0, 0).1 + u4.1, (0, 0).2 + u4.2) x m5)))) : Cl X (d + 1) 14 [vp 0 0, vi p0] (G x m) Q := by
  show Wp X (d + 1) 14 (0, ([some (vp 0 0), some (vi p0)], ([], G x m))) Q
  refine wp_run 6 true (12, ([some (vp 0 0), some (vi p0)], ([vi p0, vp 0 0, vp 4 0], G x m))) rfl rfl ?_
  refine wp_call 61 [vp 0 0, vi p0] (15, ([some (vp 0 0), some (vi p0)], ([vp 4 0], G x m))) rfl rfl (Cl.mono h (Nat.le_refl _) ?_)
  intro r hr
  rcases hr with ⟨v1, m2, rfl, h⟩ | ⟨k3, u4, m5, rfl, h⟩
  · show Wp X (d + 1) 14 (15, ([some (vp 0 0), some (vi p0)], ([vi v1, vp 4 0], G x m2))) Q
    obtain ⟨hg2_0, h⟩ := h
    refine wp_run 3 (inb v1 10 && true) (18, ([some (vp 0 0), some (vi p0)], ([vi (m2 5 (10 * 0 + v1.toNatClampNeg) 3)], G x m2))) rfl (and_t hg2_0 rfl) ?_
    exact wp_ret rfl h
  · exact h
set_option maxRecDepth 100000 in
set_option maxHeartbeats 4000000 in
theorem vc_X10_fastness {X : MX} {d : Nat} {x : Int64 × UInt64} {m : MI} {Q : MRes → Prop} {p0 : Int32} (h : Cl X d 61 [vp 0 0, vi p0] (G x m) (fun r => (∃ (v1 : Int32) (m2 : MI), r = (.inl (some (vi v1)), G x m2) ∧ (inb v1 10 = true ∧ Q (.inl (some (vi (m2 5 (10 * 0 + v1.toNatClampNeg) 4))), G x m2))) ∨ (∃ (k3 : Nat) (u4 : Nat × Nat) (m5 : MI), r = (.inr k3, Gu u4 x m5) ∧ Q (.inr k3, Gu ((0, 0).1 + u4.1, (0, 0).2 + u4.2) x m5)))) : Cl X (d + 1) 15 [vp 0 0, vi p0] (G x m) Q := by
  show Wp X (d + 1) 15 (0, ([some (vp 0 0), some (vi p0)], ([], G x m))) Q
  refine wp_run 6 true (12, ([some (vp 0 0), some (vi p0)], ([vi p0, vp 0 0, vp 4 0], G x m))) rfl rfl ?_
  refine wp_call 61 [vp 0 0, vi p0] (15, ([some (vp 0 0), some (vi p0)], ([vp 4 0], G x m))) rfl rfl (Cl.mono h (Nat.le_refl _) ?_)
  intro r hr
  rcases hr with ⟨v1, m2, rfl, h⟩ | ⟨k3, u4, m5, rfl, h⟩
  · show Wp X (d + 1) 15 (15, ([some (vp 0 0), some (vi p0)], ([vi v1, vp 4 0], G x m2))) Q
    obtain ⟨hg2_0, h⟩ := h
    refine wp_run 3 (inb v1 10 && true) (18, ([some (vp 0 0), some (vi p0)], ([vi (m2 5 (10 * 0 + v1.toNatClampNeg) 4)], G x m2))) rfl (and_t hg2_0 rfl) ?_
    exact wp_ret rfl h
  · exact h
set_option maxRecDepth 100000 in
set_option maxHeartbeats 4000000 in
theorem vc_X10_age {X : MX} {d : Nat} {x : Int64 × UInt64} {m : MI} {Q : MRes → Prop} {p0 : Int32} (h : Cl X d 61 [vp 0 0, vi p0] (G x m) (fun r => (∃ (v1 : Int32) (m2 : MI), r = (.inl (some (vi v1)), G x m2) ∧ Cl X d 77 [vp 1 0, vi v1] (G x m2) (fun r => ∃ (v3 : Int32) (m4 : MI), r = (.inl (some (vi v3)), G x m4) ∧ Q (.inl (some (vi v3)), G x m4))) ∨ (∃ (k5 : Nat) (u6 : Nat × Nat) (m7 : MI), r = (.inr k5, Gu u6 x m7) ∧ Q (.inr k5, Gu ((0, 0).1 + u6.1, (0, 0).2 + u6.2) x m7)))) : Cl X (d + 1) 16 [vp 0 0, vi p0] (G x m) Q := by
  show Wp X (d + 1) 16 (0, ([some (vp 0 0), some (vi p0)], ([], G x m))) Q
  refine wp_run 4 true (6, ([some (vp 0 0), some (vi p0)], ([vi p0, vp 0 0, vp 1 0], G x m))) rfl rfl ?_
  refine wp_call 61 [vp 0 0, vi p0] (9, ([some (vp 0 0), some (vi p0)], ([vp 1 0], G x m))) rfl rfl (Cl.mono h (Nat.le_refl _) ?_)
  intro r hr
  rcases hr with ⟨v1, m2, rfl, h⟩ | ⟨k5, u6, m7, rfl, h⟩
  · show Wp X (d + 1) 16 (9, ([some (vp 0 0), some (vi p0)], ([vi v1, vp 1 0], G x m2))) Q
    refine wp_call 77 [vp 1 0, vi v1] (12, ([some (vp 0 0), some (vi p0)], ([], G x m2))) rfl rfl (Cl.mono h (Nat.le_refl _) ?_)
    rintro r ⟨v3, m4, rfl, h⟩
    · show Wp X (d + 1) 16 (12, ([some (vp 0 0), some (vi p0)], ([vi v3], G x m4))) Q
      exact wp_ret rfl h
  · exact h
set_option maxRecDepth 100000 in
set_option maxHeartbeats 4000000 in
theorem vc_X10_daysUntilGrey {X : MX} {d : Nat} {x : Int64 × UInt64} {m : MI} {Q : MRes → Prop} {p0 : Int32} (h : Cl X d 61 [vp 0 0, vi p0] (G x m) (fun r => (∃ (v1 : Int32) (m2 : MI), r = (.inl (some (vi v1)), G x m2) ∧ Cl X d 80 [vp 1 0, vi v1] (G x m2) (fun r => ∃ (v3 : Int32) (m4 : MI), r = (.inl (some (vi v3)), G x m4) ∧ Q (.inl (some (vi v3)), G x m4))) ∨ (∃ (k5 : Nat) (u6 : Nat × Nat) (m7 : MI), r = (.inr k5, Gu u6 x m7) ∧ Q (.inr k5, Gu ((0, 0).1 + u6.1, (0, 0).2 + u6.2) x m7)))) : Cl X (d + 1) 17 [vp 0 0, vi p0] (G x m) Q := by
  show Wp X (d + 1) 17 (0, ([some (vp 0 0), some (vi p0)], ([], G x m))) Q
  refine wp_run 4 true (6, ([some (vp 0 0), some (vi p0)], ([vi p0, vp 0 0, vp 1 0], G x m))) rfl rfl ?_
  refine wp_call 61 [vp 0 0, vi p0] (9, ([some (vp 0 0), some (vi p0)], ([vp 1 0], G x m))) rfl rfl (Cl.mono h (Nat.le_refl _) ?_)
  intro r hr
  rcases hr with ⟨v1, m2, rfl, h⟩ | ⟨k5, u6, m7, rfl, h⟩
  · show Wp X (d + 1) 17 (9, ([some (vp 0 0), some (vi p0)], ([vi v1, vp 1 0], G x m2))) Q
    refine wp_call 80 [vp 1 0, vi v1] (12, ([some (vp 0 0), some (vi p0)], ([], G x m2))) rfl rfl (Cl.mono h (Nat.le_refl _) ?_)
    rintro r ⟨v3, m4, rfl, h⟩
    · show Wp X (d + 1) 17 (12, ([some (vp 0 0), some (vi p0)], ([vi v3], G x m4))) Q
      exact wp_ret rfl h
  · exact h
set_option maxRecDepth 100000 in
set_option maxHeartbeats 4000000 in
theorem vc_X10_colourByBrightness {X : MX} {d : Nat} {x : Int64 × UInt64} {m : MI} {Q : MRes → Prop} {p0 : Int32} (h : Cl X d 83 [vp 1 0, vi p0] (G x m) (fun r => ∃ (v1 : Int32) (m2 : MI), r = (.inl (some (vi v1)), G x m2) ∧ ((0 ≤ v1 → (inb v1 10 = true ∧ Q (.inl (some (vi (m2 5 (10 * 0 + v1.toNatClampNeg) 0))), G x m2))) ∧ (¬ (0 ≤ v1) → Q (.inr 2, Gu (1 + (0, 0).1, 6 + (0, 0).2) x m2))))) : Cl X (d + 1) 18 [vp 0 0, vi p0] (G x m) Q := by
  show Wp X (d + 1) 18 (0, ([some (vp 0 0), some (vi p0), none], ([], G x m))) Q
  refine wp_run 3 true (5, ([some (vp 0 0), some (vi p0), none], ([vi p0, vp 1 0], G x m))) rfl rfl ?_
  refine wp_call 83 [vp 1 0, vi p0] (8, ([some (vp 0 0), some (vi p0), none], ([], G x m))) rfl rfl (Cl.mono h (Nat.le_refl _) ?_)
  rintro r ⟨v1, m2, rfl, h⟩
  · show Wp X (d + 1) 18 (8, ([some (vp 0 0), some (vi p0), none], ([vi v1], G x m2))) Q
    refine wp_run 3 true ((bif decide (0 ≤ v1) then 23 else 13), ([some (vp 0 0), some (vi p0), some (vi v1)], ([], G x m2))) rfl rfl ?_
    refine wp_if (0 ≤ v1) (fun c3 => ?_) (fun c3 => ?_)
    · have h := h.1 c3
      obtain ⟨hg3_0, h⟩ := h
      refine wp_run 8 (inb v1 10 && true) (37, ([some (vp 0 0), some (vi p0), some (vi v1)], ([vi (m2 5 (10 * 0 + v1.toNatClampNeg) 0)], G x m2))) rfl (and_t hg3_0 rfl) ?_
      exact wp_ret rfl h
    · have h := h.2 c3
      exact wp_thr rfl rfl h
set_option maxRecDepth 100000 in
set_option maxHeartbeats 4000000 in
theorem vc_X10_reportCount {X : MX} {d : Nat} {x : Int64 × UInt64} {m : MI} {Q : MRes → Prop} (h : Q (.inl (some (vi (m 3 0 1))), G x m)) : Cl X d 19 [vp 0 0] (G x m) Q := by
  show Wp X d 19 (0, ([some (vp 0 0)], ([], G x m))) Q
  refine wp_run 4 true (10, ([some (vp 0 0)], ([vi (m 3 0 1)], G x m))) rfl rfl ?_
  exact wp_ret rfl h
set_option maxRecDepth 100000 in
set_option maxHeartbeats 4000000 in
theorem vc_X10_reportAt {X : MX} {d : Nat} {x : Int64 × UInt64} {m : MI} {Q : MRes → Prop} {p0 : Int32} (h : ((p0 < 0 → Q (.inr 2, Gu (1 + (0, 0).1, 6 + (0, 0).2) x m)) ∧ (¬ (p0 < 0) → ((p0 < (m 3 0 1) → (inb p0 6 = true ∧ Q (.inl (some (vi (m 7 (6 * 0 + p0.toNatClampNeg) 0))), G x m))) ∧ (¬ (p0 < (m 3 0 1)) → Q (.inr 2, Gu (1 + (0, 0).1, 6 + (0, 0).2) x m)))))) : Cl X d 20 [vp 0 0, vi p0] (G x m) Q := by
  show Wp X d 20 (0, ([some (vp 0 0), some (vi p0)], ([], G x m))) Q
  refine wp_run 2 true ((bif decide (p0 < 0) then 18 else 4), ([some (vp 0 0), some (vi p0)], ([], G x m))) rfl rfl ?_
  refine wp_if (p0 < 0) (fun c1 => ?_) (fun c1 => ?_)
  · have h := h.1 c1
    exact wp_thr rfl rfl h
  · have h := h.2 c1
    refine wp_run 6 true ((bif decide (p0 < (m 3 0 1)) then 28 else 18), ([some (vp 0 0), some (vi p0)], ([], G x m))) rfl rfl ?_
    refine wp_if (p0 < (m 3 0 1)) (fun c2 => ?_) (fun c2 => ?_)
    · have h := h.1 c2
      obtain ⟨hg3_0, h⟩ := h
      refine wp_run 8 (inb p0 6 && true) (42, ([some (vp 0 0), some (vi p0)], ([vi (m 7 (6 * 0 + p0.toNatClampNeg) 0)], G x m))) rfl (and_t hg3_0 rfl) ?_
      exact wp_ret rfl h
    · have h := h.2 c2
      exact wp_thr rfl rfl h
set_option maxRecDepth 100000 in
set_option maxHeartbeats 4000000 in
theorem vc_X10_toleranceOf {X : MX} {d : Nat} {x : Int64 × UInt64} {m : MI} {Q : MRes → Prop} {p0 : Int32} (h : Cl X d 62 [vp 0 0, vi p0] (G x m) (fun r => (∃ (v1 : Int32) (m2 : MI), r = (.inl (some (vi v1)), G x m2) ∧ (inb v1 6 = true ∧ Q (.inl (some (vi (m2 7 (6 * 0 + v1.toNatClampNeg) 4))), G x m2))) ∨ (∃ (k3 : Nat) (u4 : Nat × Nat) (m5 : MI), r = (.inr k3, Gu u4 x m5) ∧ Q (.inr k3, Gu ((0, 0).1 + u4.1, (0, 0).2 + u4.2) x m5)))) : Cl X (d + 1) 21 [vp 0 0, vi p0] (G x m) Q := by
  show Wp X (d + 1) 21 (0, ([some (vp 0 0), some (vi p0)], ([], G x m))) Q
  refine wp_run 6 true (12, ([some (vp 0 0), some (vi p0)], ([vi p0, vp 0 0, vp 6 0], G x m))) rfl rfl ?_
  refine wp_call 62 [vp 0 0, vi p0] (15, ([some (vp 0 0), some (vi p0)], ([vp 6 0], G x m))) rfl rfl (Cl.mono h (Nat.le_refl _) ?_)
  intro r hr
  rcases hr with ⟨v1, m2, rfl, h⟩ | ⟨k3, u4, m5, rfl, h⟩
  · show Wp X (d + 1) 21 (15, ([some (vp 0 0), some (vi p0)], ([vi v1, vp 6 0], G x m2))) Q
    obtain ⟨hg2_0, h⟩ := h
    refine wp_run 3 (inb v1 6 && true) (18, ([some (vp 0 0), some (vi p0)], ([vi (m2 7 (6 * 0 + v1.toNatClampNeg) 4)], G x m2))) rfl (and_t hg2_0 rfl) ?_
    exact wp_ret rfl h
  · exact h
set_option maxRecDepth 100000 in
set_option maxHeartbeats 4000000 in
theorem vc_X10_rewardOf {X : MX} {d : Nat} {x : Int64 × UInt64} {m : MI} {Q : MRes → Prop} {p0 : Int32} (h : Cl X d 62 [vp 0 0, vi p0] (G x m) (fun r => (∃ (v1 : Int32) (m2 : MI), r = (.inl (some (vi v1)), G x m2) ∧ (inb v1 6 = true ∧ Q (.inl (some (vi (m2 7 (6 * 0 + v1.toNatClampNeg) 5))), G x m2))) ∨ (∃ (k3 : Nat) (u4 : Nat × Nat) (m5 : MI), r = (.inr k3, Gu u4 x m5) ∧ Q (.inr k3, Gu ((0, 0).1 + u4.1, (0, 0).2 + u4.2) x m5)))) : Cl X (d + 1) 22 [vp 0 0, vi p0] (G x m) Q := by
  show Wp X (d + 1) 22 (0, ([some (vp 0 0), some (vi p0)], ([], G x m))) Q
  refine wp_run 6 true (12, ([some (vp 0 0), some (vi p0)], ([vi p0, vp 0 0, vp 6 0], G x m))) rfl rfl ?_
  refine wp_call 62 [vp 0 0, vi p0] (15, ([some (vp 0 0), some (vi p0)], ([vp 6 0], G x m))) rfl rfl (Cl.mono h (Nat.le_refl _) ?_)
  intro r hr
  rcases hr with ⟨v1, m2, rfl, h⟩ | ⟨k3, u4, m5, rfl, h⟩
  · show Wp X (d + 1) 22 (15, ([some (vp 0 0), some (vi p0)], ([vi v1, vp 6 0], G x m2))) Q
    obtain ⟨hg2_0, h⟩ := h
    refine wp_run 3 (inb v1 6 && true) (18, ([some (vp 0 0), some (vi p0)], ([vi (m2 7 (6 * 0 + v1.toNatClampNeg) 5)], G x m2))) rfl (and_t hg2_0 rfl) ?_
    exact wp_ret rfl h
  · exact h
set_option maxRecDepth 100000 in
set_option maxHeartbeats 4000000 in
theorem vc_X10_distanceFor {X : MX} {d : Nat} {x : Int64 × UInt64} {m : MI} {Q : MRes → Prop} {p0 : Int32} {p1 : Int32} (h : Cl X d 62 [vp 0 0, vi p0] (G x m) (fun r => (∃ (v1 : Int32) (m2 : MI), r = (.inl (some (vi v1)), G x m2) ∧ Cl X d 61 [vp 0 0, vi p1] (G x m2) (fun r => (∃ (v3 : Int32) (m4 : MI), r = (.inl (some (vi v3)), G x m4) ∧ (inb v1 6 = true ∧ inb v3 10 = true ∧ Cl X d 85 [vp 1 0, vp 7 (6 * 0 + v1.toNatClampNeg), vp 5 (10 * 0 + v3.toNatClampNeg)] (G x m4) (fun r => ∃ (v5 : Int32) (m6 : MI), r = (.inl (some (vi v5)), G x m6) ∧ Q (.inl (some (vi v5)), G x m6)))) ∨ (∃ (k7 : Nat) (u8 : Nat × Nat) (m9 : MI), r = (.inr k7, Gu u8 x m9) ∧ Q (.inr k7, Gu ((0, 0).1 + u8.1, (0, 0).2 + u8.2) x m9)))) ∨ (∃ (k10 : Nat) (u11 : Nat × Nat) (m12 : MI), r = (.inr k10, Gu u11 x m12) ∧ Q (.inr k10, Gu ((0, 0).1 + u11.1, (0, 0).2 + u11.2) x m12)))) : Cl X (d + 1) 23 [vp 0 0, vi p0, vi p1] (G x m) Q := by
  show Wp X (d + 1) 23 (0, ([some (vp 0 0), some (vi p0), some (vi p1), none, none], ([], G x m))) Q
  refine wp_run 2 true (2, ([some (vp 0 0), some (vi p0), some (vi p1), none, none], ([vi p0, vp 0 0], G x m))) rfl rfl ?_
  refine wp_call 62 [vp 0 0, vi p0] (5, ([some (vp 0 0), some (vi p0), some (vi p1), none, none], ([], G x m))) rfl rfl (Cl.mono h (Nat.le_refl _) ?_)
  intro r hr
  rcases hr with ⟨v1, m2, rfl, h⟩ | ⟨k10, u11, m12, rfl, h⟩
  · show Wp X (d + 1) 23 (5, ([some (vp 0 0), some (vi p0), some (vi p1), none, none], ([vi v1], G x m2))) Q
    refine wp_run 3 true (8, ([some (vp 0 0), some (vi p0), some (vi p1), some (vi v1), none], ([vi p1, vp 0 0], G x m2))) rfl rfl ?_
    refine wp_call 61 [vp 0 0, vi p1] (11, ([some (vp 0 0), some (vi p0), some (vi p1), some (vi v1), none], ([], G x m2))) rfl rfl (Cl.mono h (Nat.le_refl _) ?_)
    intro r hr
    rcases hr with ⟨v3, m4, rfl, h⟩ | ⟨k7, u8, m9, rfl, h⟩
    · show Wp X (d + 1) 23 (11, ([some (vp 0 0), some (vi p0), some (vi p1), some (vi v1), none], ([vi v3], G x m4))) Q
      obtain ⟨hg3_0, hg3_1, h⟩ := h
      refine wp_run 15 (inb v3 10 && (inb v1 6 && true)) (42, ([some (vp 0 0), some (vi p0), some (vi p1), some (vi v1), some (vi v3)], ([vp 5 (10 * 0 + v3.toNatClampNeg), vp 7 (6 * 0 + v1.toNatClampNeg), vp 1 0], G x m4))) rfl (and_t hg3_1 (and_t hg3_0 rfl)) ?_
      refine wp_call 85 [vp 1 0, vp 7 (6 * 0 + v1.toNatClampNeg), vp 5 (10 * 0 + v3.toNatClampNeg)] (45, ([some (vp 0 0), some (vi p0), some (vi p1), some (vi v1), some (vi v3)], ([], G x m4))) rfl rfl (Cl.mono h (Nat.le_refl _) ?_)
      rintro r ⟨v5, m6, rfl, h⟩
      · show Wp X (d + 1) 23 (45, ([some (vp 0 0), some (vi p0), some (vi p1), some (vi v1), some (vi v3)], ([vi v5], G x m6))) Q
        exact wp_ret rfl h
    · exact h
  · exact h
set_option maxRecDepth 100000 in
set_option maxHeartbeats 4000000 in
theorem vc_X10_fits {X : MX} {d : Nat} {x : Int64 × UInt64} {m : MI} {Q : MRes → Prop} {p0 : Int32} {p1 : Int32} (h : Cl X d 62 [vp 0 0, vi p0] (G x m) (fun r => (∃ (v1 : Int32) (m2 : MI), r = (.inl (some (vi v1)), G x m2) ∧ Cl X d 61 [vp 0 0, vi p1] (G x m2) (fun r => (∃ (v3 : Int32) (m4 : MI), r = (.inl (some (vi v3)), G x m4) ∧ Cl X d 86 [vp 1 0, vi v1, vi v3] (G x m4) (fun r => ∃ (v5 : Int32) (m6 : MI), r = (.inl (some (vi v5)), G x m6) ∧ (okT 2 v5 = true ∧ Q (.inl (some (vi v5)), G x m6)))) ∨ (∃ (k7 : Nat) (u8 : Nat × Nat) (m9 : MI), r = (.inr k7, Gu u8 x m9) ∧ Q (.inr k7, Gu ((0, 0).1 + u8.1, (0, 0).2 + u8.2) x m9)))) ∨ (∃ (k10 : Nat) (u11 : Nat × Nat) (m12 : MI), r = (.inr k10, Gu u11 x m12) ∧ Q (.inr k10, Gu ((0, 0).1 + u11.1, (0, 0).2 + u11.2) x m12)))) : Cl X (d + 1) 24 [vp 0 0, vi p0, vi p1] (G x m) Q := by
  show Wp X (d + 1) 24 (0, ([some (vp 0 0), some (vi p0), some (vi p1), none, none], ([], G x m))) Q
  refine wp_run 2 true (2, ([some (vp 0 0), some (vi p0), some (vi p1), none, none], ([vi p0, vp 0 0], G x m))) rfl rfl ?_
  refine wp_call 62 [vp 0 0, vi p0] (5, ([some (vp 0 0), some (vi p0), some (vi p1), none, none], ([], G x m))) rfl rfl (Cl.mono h (Nat.le_refl _) ?_)
  intro r hr
  rcases hr with ⟨v1, m2, rfl, h⟩ | ⟨k10, u11, m12, rfl, h⟩
  · show Wp X (d + 1) 24 (5, ([some (vp 0 0), some (vi p0), some (vi p1), none, none], ([vi v1], G x m2))) Q
    refine wp_run 3 true (8, ([some (vp 0 0), some (vi p0), some (vi p1), some (vi v1), none], ([vi p1, vp 0 0], G x m2))) rfl rfl ?_
    refine wp_call 61 [vp 0 0, vi p1] (11, ([some (vp 0 0), some (vi p0), some (vi p1), some (vi v1), none], ([], G x m2))) rfl rfl (Cl.mono h (Nat.le_refl _) ?_)
    intro r hr
    rcases hr with ⟨v3, m4, rfl, h⟩ | ⟨k7, u8, m9, rfl, h⟩
    · show Wp X (d + 1) 24 (11, ([some (vp 0 0), some (vi p0), some (vi p1), some (vi v1), none], ([vi v3], G x m4))) Q
      refine wp_run 5 true (20, ([some (vp 0 0), some (vi p0), some (vi p1), some (vi v1), some (vi v3)], ([vi v3, vi v1, vp 1 0], G x m4))) rfl rfl ?_
      refine wp_call 86 [vp 1 0, vi v1, vi v3] (23, ([some (vp 0 0), some (vi p0), some (vi p1), some (vi v1), some (vi v3)], ([], G x m4))) rfl rfl (Cl.mono h (Nat.le_refl _) ?_)
      rintro r ⟨v5, m6, rfl, h⟩
      · show Wp X (d + 1) 24 (23, ([some (vp 0 0), some (vi p0), some (vi p1), some (vi v1), some (vi v3)], ([vi v5], G x m6))) Q
        exact wp_retT (okT 2 v5) rfl h.1 h.2
    · exact h
  · exact h
set_option maxRecDepth 100000 in
set_option maxHeartbeats 4000000 in
theorem vc_X10_nearestFor {X : MX} {d : Nat} {x : Int64 × UInt64} {m : MI} {Q : MRes → Prop} {p0 : Int32} (h : Cl X d 62 [vp 0 0, vi p0] (G x m) (fun r => (∃ (v1 : Int32) (m2 : MI), r = (.inl (some (vi v1)), G x m2) ∧ (inb v1 6 = true ∧ Cl X d 87 [vp 1 0, vp 7 (6 * 0 + v1.toNatClampNeg)] (G x m2) (fun r => ∃ (v3 : Int32) (m4 : MI), r = (.inl (some (vi v3)), G x m4) ∧ ((0 ≤ v3 → (inb v3 10 = true ∧ Q (.inl (some (vi (m4 5 (10 * 0 + v3.toNatClampNeg) 0))), G x m4))) ∧ (¬ (0 ≤ v3) → Q (.inr 2, Gu (1 + (0, 0).1, 6 + (0, 0).2) x m4)))))) ∨ (∃ (k6 : Nat) (u7 : Nat × Nat) (m8 : MI), r = (.inr k6, Gu u7 x m8) ∧ Q (.inr k6, Gu ((0, 0).1 + u7.1, (0, 0).2 + u7.2) x m8)))) : Cl X (d + 1) 25 [vp 0 0, vi p0] (G x m) Q := by
  show Wp X (d + 1) 25 (0, ([some (vp 0 0), some (vi p0), none], ([], G x m))) Q
  refine wp_run 8 true (16, ([some (vp 0 0), some (vi p0), none], ([vi p0, vp 0 0, vp 6 0, vp 1 0], G x m))) rfl rfl ?_
  refine wp_call 62 [vp 0 0, vi p0] (19, ([some (vp 0 0), some (vi p0), none], ([vp 6 0, vp 1 0], G x m))) rfl rfl (Cl.mono h (Nat.le_refl _) ?_)
  intro r hr
  rcases hr with ⟨v1, m2, rfl, h⟩ | ⟨k6, u7, m8, rfl, h⟩
  · show Wp X (d + 1) 25 (19, ([some (vp 0 0), some (vi p0), none], ([vi v1, vp 6 0, vp 1 0], G x m2))) Q
    obtain ⟨hg2_0, h⟩ := h
    refine wp_run 1 (inb v1 6 && true) (20, ([some (vp 0 0), some (vi p0), none], ([vp 7 (6 * 0 + v1.toNatClampNeg), vp 1 0], G x m2))) rfl (and_t hg2_0 rfl) ?_
    refine wp_call 87 [vp 1 0, vp 7 (6 * 0 + v1.toNatClampNeg)] (23, ([some (vp 0 0), some (vi p0), none], ([], G x m2))) rfl rfl (Cl.mono h (Nat.le_refl _) ?_)
    rintro r ⟨v3, m4, rfl, h⟩
    · show Wp X (d + 1) 25 (23, ([some (vp 0 0), some (vi p0), none], ([vi v3], G x m4))) Q
      refine wp_run 3 true ((bif decide (0 ≤ v3) then 38 else 28), ([some (vp 0 0), some (vi p0), some (vi v3)], ([], G x m4))) rfl rfl ?_
      refine wp_if (0 ≤ v3) (fun c5 => ?_) (fun c5 => ?_)
      · have h := h.1 c5
        obtain ⟨hg4_0, h⟩ := h
        refine wp_run 8 (inb v3 10 && true) (52, ([some (vp 0 0), some (vi p0), some (vi v3)], ([vi (m4 5 (10 * 0 + v3.toNatClampNeg) 0)], G x m4))) rfl (and_t hg4_0 rfl) ?_
        exact wp_ret rfl h
      · have h := h.2 c5
        exact wp_thr rfl rfl h
  · exact h
set_option maxRecDepth 100000 in
set_option maxHeartbeats 4000000 in
theorem vc_X10_distance {X : MX} {d : Nat} {x : Int64 × UInt64} {m : MI} {Q : MRes → Prop} {p0 : Int32} {p1 : Int32} (h : Cl X d 61 [vp 0 0, vi p0] (G x m) (fun r => (∃ (v1 : Int32) (m2 : MI), r = (.inl (some (vi v1)), G x m2) ∧ Cl X d 61 [vp 0 0, vi p1] (G x m2) (fun r => (∃ (v3 : Int32) (m4 : MI), r = (.inl (some (vi v3)), G x m4) ∧ (inb v1 10 = true ∧ inb v3 10 = true ∧ Cl X d 85 [vp 1 0, vp 5 (10 * 0 + v1.toNatClampNeg), vp 5 (10 * 0 + v3.toNatClampNeg)] (G x m4) (fun r => ∃ (v5 : Int32) (m6 : MI), r = (.inl (some (vi v5)), G x m6) ∧ Q (.inl (some (vi v5)), G x m6)))) ∨ (∃ (k7 : Nat) (u8 : Nat × Nat) (m9 : MI), r = (.inr k7, Gu u8 x m9) ∧ Q (.inr k7, Gu ((0, 0).1 + u8.1, (0, 0).2 + u8.2) x m9)))) ∨ (∃ (k10 : Nat) (u11 : Nat × Nat) (m12 : MI), r = (.inr k10, Gu u11 x m12) ∧ Q (.inr k10, Gu ((0, 0).1 + u11.1, (0, 0).2 + u11.2) x m12)))) : Cl X (d + 1) 26 [vp 0 0, vi p0, vi p1] (G x m) Q := by
  show Wp X (d + 1) 26 (0, ([some (vp 0 0), some (vi p0), some (vi p1), none, none], ([], G x m))) Q
  refine wp_run 2 true (2, ([some (vp 0 0), some (vi p0), some (vi p1), none, none], ([vi p0, vp 0 0], G x m))) rfl rfl ?_
  refine wp_call 61 [vp 0 0, vi p0] (5, ([some (vp 0 0), some (vi p0), some (vi p1), none, none], ([], G x m))) rfl rfl (Cl.mono h (Nat.le_refl _) ?_)
  intro r hr
  rcases hr with ⟨v1, m2, rfl, h⟩ | ⟨k10, u11, m12, rfl, h⟩
  · show Wp X (d + 1) 26 (5, ([some (vp 0 0), some (vi p0), some (vi p1), none, none], ([vi v1], G x m2))) Q
    refine wp_run 3 true (8, ([some (vp 0 0), some (vi p0), some (vi p1), some (vi v1), none], ([vi p1, vp 0 0], G x m2))) rfl rfl ?_
    refine wp_call 61 [vp 0 0, vi p1] (11, ([some (vp 0 0), some (vi p0), some (vi p1), some (vi v1), none], ([], G x m2))) rfl rfl (Cl.mono h (Nat.le_refl _) ?_)
    intro r hr
    rcases hr with ⟨v3, m4, rfl, h⟩ | ⟨k7, u8, m9, rfl, h⟩
    · show Wp X (d + 1) 26 (11, ([some (vp 0 0), some (vi p0), some (vi p1), some (vi v1), none], ([vi v3], G x m4))) Q
      obtain ⟨hg3_0, hg3_1, h⟩ := h
      refine wp_run 15 (inb v3 10 && (inb v1 10 && true)) (42, ([some (vp 0 0), some (vi p0), some (vi p1), some (vi v1), some (vi v3)], ([vp 5 (10 * 0 + v3.toNatClampNeg), vp 5 (10 * 0 + v1.toNatClampNeg), vp 1 0], G x m4))) rfl (and_t hg3_1 (and_t hg3_0 rfl)) ?_
      refine wp_call 85 [vp 1 0, vp 5 (10 * 0 + v1.toNatClampNeg), vp 5 (10 * 0 + v3.toNatClampNeg)] (45, ([some (vp 0 0), some (vi p0), some (vi p1), some (vi v1), some (vi v3)], ([], G x m4))) rfl rfl (Cl.mono h (Nat.le_refl _) ?_)
      rintro r ⟨v5, m6, rfl, h⟩
      · show Wp X (d + 1) 26 (45, ([some (vp 0 0), some (vi p0), some (vi p1), some (vi v1), some (vi v3)], ([vi v5], G x m6))) Q
        exact wp_ret rfl h
    · exact h
  · exact h
set_option maxRecDepth 100000 in
set_option maxHeartbeats 4000000 in
theorem vc_X10_nearest {X : MX} {d : Nat} {x : Int64 × UInt64} {m : MI} {Q : MRes → Prop} {p0 : Int32} {p1 : Int32} {p2 : Int32} (h : Cl X d 58 [vi p0, vi p1, vi p2] (G x m) (fun r => ∃ (v1 : Int32) (m2 : MI), r = (.inl (some (vi v1)), G x m2) ∧ ((¬ v1 = 0 → Cl X d 63 [vp 0 0, vi p0, vi p1, vi p2] (G x m2) (fun r => ∃ (m5 : MI), r = (.inl none, G x m5) ∧ Cl X d 100 [vp 10 0, vp 1 0, vp 30 0] (G x m5) (fun r => ∃ (v6 : Int32) (m7 : MI), r = (.inl (some (vi v6)), G x m7) ∧ ((0 ≤ v6 → (inb v6 10 = true ∧ Q (.inl (some (vi (m7 5 (10 * 0 + v6.toNatClampNeg) 0))), G x m7))) ∧ (¬ (0 ≤ v6) → Q (.inr 2, Gu (1 + (0, 0).1, 6 + (0, 0).2) x m7)))))) ∧ (¬ (¬ v1 = 0) → Q (.inr 0, Gu (1 + (0, 0).1, 6 + (0, 0).2) x m2))))) : Cl X (d + 1) 27 [vp 0 0, vi p0, vi p1, vi p2] (G x m) Q := by
  show Wp X (d + 1) 27 (0, ([some (vp 0 0), some (vi p0), some (vi p1), some (vi p2), none], ([], G x m))) Q
  refine wp_run 3 true (3, ([some (vp 0 0), some (vi p0), some (vi p1), some (vi p2), none], ([vi p2, vi p1, vi p0], G x m))) rfl rfl ?_
  refine wp_call 58 [vi p0, vi p1, vi p2] (6, ([some (vp 0 0), some (vi p0), some (vi p1), some (vi p2), none], ([], G x m))) rfl rfl (Cl.mono h (Nat.le_refl _) ?_)
  rintro r ⟨v1, m2, rfl, h⟩
  · show Wp X (d + 1) 27 (6, ([some (vp 0 0), some (vi p0), some (vi p1), some (vi p2), none], ([vi v1], G x m2))) Q
    refine wp_run 1 true ((bif decide (¬ v1 = 0) then 19 else 9), ([some (vp 0 0), some (vi p0), some (vi p1), some (vi p2), none], ([], G x m2))) rfl rfl ?_
    refine wp_if (¬ v1 = 0) (fun c3 => ?_) (fun c3 => ?_)
    · have h := h.1 c3
      refine wp_run 4 true (23, ([some (vp 0 0), some (vi p0), some (vi p1), some (vi p2), none], ([vi p2, vi p1, vi p0, vp 0 0], G x m2))) rfl rfl ?_
      refine wp_call 63 [vp 0 0, vi p0, vi p1, vi p2] (26, ([some (vp 0 0), some (vi p0), some (vi p1), some (vi p2), none], ([], G x m2))) rfl rfl (Cl.mono h (Nat.le_refl _) ?_)
      rintro r ⟨m5, rfl, h⟩
      · show Wp X (d + 1) 27 (26, ([some (vp 0 0), some (vi p0), some (vi p1), some (vi p2), none], ([], G x m5))) Q
        refine wp_run 6 true (38, ([some (vp 0 0), some (vi p0), some (vi p1), some (vi p2), none], ([vp 30 0, vp 1 0, vp 10 0], G x m5))) rfl rfl ?_
        refine wp_call 100 [vp 10 0, vp 1 0, vp 30 0] (41, ([some (vp 0 0), some (vi p0), some (vi p1), some (vi p2), none], ([], G x m5))) rfl rfl (Cl.mono h (Nat.le_refl _) ?_)
        rintro r ⟨v6, m7, rfl, h⟩
        · show Wp X (d + 1) 27 (41, ([some (vp 0 0), some (vi p0), some (vi p1), some (vi p2), none], ([vi v6], G x m7))) Q
          refine wp_run 3 true ((bif decide (0 ≤ v6) then 58 else 48), ([some (vp 0 0), some (vi p0), some (vi p1), some (vi p2), some (vi v6)], ([], G x m7))) rfl rfl ?_
          refine wp_if (0 ≤ v6) (fun c8 => ?_) (fun c8 => ?_)
          · have h := h.1 c8
            obtain ⟨hg6_0, h⟩ := h
            refine wp_run 8 (inb v6 10 && true) (73, ([some (vp 0 0), some (vi p0), some (vi p1), some (vi p2), some (vi v6)], ([vi (m7 5 (10 * 0 + v6.toNatClampNeg) 0)], G x m7))) rfl (and_t hg6_0 rfl) ?_
            exact wp_ret rfl h
          · have h := h.2 c8
            exact wp_thr rfl rfl h
    · have h := h.2 c3
      exact wp_thr rfl rfl h
set_option maxRecDepth 100000 in
set_option maxHeartbeats 4000000 in
theorem vc_X10_nearestByLooking {X : MX} {d : Nat} {x : Int64 × UInt64} {m : MI} {Q : MRes → Prop} {p0 : Int32} {p1 : Int32} {p2 : Int32} (h : Cl X d 58 [vi p0, vi p1, vi p2] (G x m) (fun r => ∃ (v1 : Int32) (m2 : MI), r = (.inl (some (vi v1)), G x m2) ∧ ((¬ v1 = 0 → Cl X d 63 [vp 0 0, vi p0, vi p1, vi p2] (G x m2) (fun r => ∃ (m5 : MI), r = (.inl none, G x m5) ∧ Cl X d 87 [vp 1 0, vp 30 0] (G x m5) (fun r => ∃ (v6 : Int32) (m7 : MI), r = (.inl (some (vi v6)), G x m7) ∧ ((0 ≤ v6 → (inb v6 10 = true ∧ Q (.inl (some (vi (m7 5 (10 * 0 + v6.toNatClampNeg) 0))), G x m7))) ∧ (¬ (0 ≤ v6) → Q (.inr 2, Gu (1 + (0, 0).1, 6 + (0, 0).2) x m7)))))) ∧ (¬ (¬ v1 = 0) → Q (.inr 0, Gu (1 + (0, 0).1, 6 + (0, 0).2) x m2))))) : Cl X (d + 1) 28 [vp 0 0, vi p0, vi p1, vi p2] (G x m) Q := by
  show Wp X (d + 1) 28 (0, ([some (vp 0 0), some (vi p0), some (vi p1), some (vi p2), none], ([], G x m))) Q
  refine wp_run 3 true (3, ([some (vp 0 0), some (vi p0), some (vi p1), some (vi p2), none], ([vi p2, vi p1, vi p0], G x m))) rfl rfl ?_
  refine wp_call 58 [vi p0, vi p1, vi p2] (6, ([some (vp 0 0), some (vi p0), some (vi p1), some (vi p2), none], ([], G x m))) rfl rfl (Cl.mono h (Nat.le_refl _) ?_)
  rintro r ⟨v1, m2, rfl, h⟩
  · show Wp X (d + 1) 28 (6, ([some (vp 0 0), some (vi p0), some (vi p1), some (vi p2), none], ([vi v1], G x m2))) Q
    refine wp_run 1 true ((bif decide (¬ v1 = 0) then 19 else 9), ([some (vp 0 0), some (vi p0), some (vi p1), some (vi p2), none], ([], G x m2))) rfl rfl ?_
    refine wp_if (¬ v1 = 0) (fun c3 => ?_) (fun c3 => ?_)
    · have h := h.1 c3
      refine wp_run 4 true (23, ([some (vp 0 0), some (vi p0), some (vi p1), some (vi p2), none], ([vi p2, vi p1, vi p0, vp 0 0], G x m2))) rfl rfl ?_
      refine wp_call 63 [vp 0 0, vi p0, vi p1, vi p2] (26, ([some (vp 0 0), some (vi p0), some (vi p1), some (vi p2), none], ([], G x m2))) rfl rfl (Cl.mono h (Nat.le_refl _) ?_)
      rintro r ⟨m5, rfl, h⟩
      · show Wp X (d + 1) 28 (26, ([some (vp 0 0), some (vi p0), some (vi p1), some (vi p2), none], ([], G x m5))) Q
        refine wp_run 4 true (34, ([some (vp 0 0), some (vi p0), some (vi p1), some (vi p2), none], ([vp 30 0, vp 1 0], G x m5))) rfl rfl ?_
        refine wp_call 87 [vp 1 0, vp 30 0] (37, ([some (vp 0 0), some (vi p0), some (vi p1), some (vi p2), none], ([], G x m5))) rfl rfl (Cl.mono h (Nat.le_refl _) ?_)
        rintro r ⟨v6, m7, rfl, h⟩
        · show Wp X (d + 1) 28 (37, ([some (vp 0 0), some (vi p0), some (vi p1), some (vi p2), none], ([vi v6], G x m7))) Q
          refine wp_run 3 true ((bif decide (0 ≤ v6) then 54 else 44), ([some (vp 0 0), some (vi p0), some (vi p1), some (vi p2), some (vi v6)], ([], G x m7))) rfl rfl ?_
          refine wp_if (0 ≤ v6) (fun c8 => ?_) (fun c8 => ?_)
          · have h := h.1 c8
            obtain ⟨hg6_0, h⟩ := h
            refine wp_run 8 (inb v6 10 && true) (69, ([some (vp 0 0), some (vi p0), some (vi p1), some (vi p2), some (vi v6)], ([vi (m7 5 (10 * 0 + v6.toNatClampNeg) 0)], G x m7))) rfl (and_t hg6_0 rfl) ?_
            exact wp_ret rfl h
          · have h := h.2 c8
            exact wp_thr rfl rfl h
    · have h := h.2 c3
      exact wp_thr rfl rfl h
set_option maxRecDepth 100000 in
set_option maxHeartbeats 4000000 in
theorem vc_X10_closestDistance {X : MX} {d : Nat} {x : Int64 × UInt64} {m : MI} {Q : MRes → Prop} (h : ((2 ≤ (m 2 0 1) → Cl X d 88 [vp 1 0] (G x m) (fun r => ∃ (v2 : Int32) (m3 : MI), r = (.inl (some (vi v2)), G x m3) ∧ Q (.inl (some (vi v2)), G x m3))) ∧ (¬ (2 ≤ (m 2 0 1)) → Q (.inr 2, Gu (1 + (0, 0).1, 6 + (0, 0).2) x m)))) : Cl X (d + 1) 29 [vp 0 0] (G x m) Q := by
  show Wp X (d + 1) 29 (0, ([some (vp 0 0)], ([], G x m))) Q
  refine wp_run 6 true ((bif decide (2 ≤ (m 2 0 1)) then 24 else 14), ([some (vp 0 0)], ([], G x m))) rfl rfl ?_
  refine wp_if (2 ≤ (m 2 0 1)) (fun c1 => ?_) (fun c1 => ?_)
  · have h := h.1 c1
    refine wp_run 2 true (28, ([some (vp 0 0)], ([vp 1 0], G x m))) rfl rfl ?_
    refine wp_call 88 [vp 1 0] (31, ([some (vp 0 0)], ([], G x m))) rfl rfl (Cl.mono h (Nat.le_refl _) ?_)
    rintro r ⟨v2, m3, rfl, h⟩
    · show Wp X (d + 1) 29 (31, ([some (vp 0 0)], ([vi v2], G x m3))) Q
      exact wp_ret rfl h
  · have h := h.2 c1
    exact wp_thr rfl rfl h
set_option maxRecDepth 100000 in
set_option maxHeartbeats 4000000 in
theorem vc_X10_closestDistanceBySorting {X : MX} {d : Nat} {x : Int64 × UInt64} {m : MI} {Q : MRes → Prop} (h : ((2 ≤ (m 2 0 1) → Cl X d 106 [vp 10 0, vp 1 0] (G x m) (fun r => ∃ (v2 : Int32) (m3 : MI), r = (.inl (some (vi v2)), G x m3) ∧ Q (.inl (some (vi v2)), G x m3))) ∧ (¬ (2 ≤ (m 2 0 1)) → Q (.inr 2, Gu (1 + (0, 0).1, 6 + (0, 0).2) x m)))) : Cl X (d + 1) 30 [vp 0 0] (G x m) Q := by
  show Wp X (d + 1) 30 (0, ([some (vp 0 0)], ([], G x m))) Q
  refine wp_run 6 true ((bif decide (2 ≤ (m 2 0 1)) then 24 else 14), ([some (vp 0 0)], ([], G x m))) rfl rfl ?_
  refine wp_if (2 ≤ (m 2 0 1)) (fun c1 => ?_) (fun c1 => ?_)
  · have h := h.1 c1
    refine wp_run 4 true (32, ([some (vp 0 0)], ([vp 1 0, vp 10 0], G x m))) rfl rfl ?_
    refine wp_call 106 [vp 10 0, vp 1 0] (35, ([some (vp 0 0)], ([], G x m))) rfl rfl (Cl.mono h (Nat.le_refl _) ?_)
    rintro r ⟨v2, m3, rfl, h⟩
    · show Wp X (d + 1) 30 (35, ([some (vp 0 0)], ([vi v2], G x m3))) Q
      exact wp_ret rfl h
  · have h := h.2 c1
    exact wp_thr rfl rfl h
set_option maxRecDepth 100000 in
set_option maxHeartbeats 4000000 in
theorem vc_X10_bestReward {X : MX} {d : Nat} {x : Int64 × UInt64} {m : MI} {Q : MRes → Prop} (h : Cl X d 108 [vp 12 0, vp 1 0] (G x m) (fun r => ∃ (m2 : MI), r = (.inl none, G x m2) ∧ Cl X d 116 [vp 12 0] (G x m2) (fun r => ∃ (v3 : Int32) (m4 : MI), r = (.inl (some (vi v3)), G x m4) ∧ Q (.inl (some (vi v3)), G x m4)))) : Cl X (d + 1) 31 [vp 0 0] (G x m) Q := by
  show Wp X (d + 1) 31 (0, ([some (vp 0 0)], ([], G x m))) Q
  refine wp_run 4 true (8, ([some (vp 0 0)], ([vp 1 0, vp 12 0], G x m))) rfl rfl ?_
  refine wp_call 108 [vp 12 0, vp 1 0] (11, ([some (vp 0 0)], ([], G x m))) rfl rfl (Cl.mono h (Nat.le_refl _) ?_)
  rintro r ⟨m2, rfl, h⟩
  · show Wp X (d + 1) 31 (11, ([some (vp 0 0)], ([], G x m2))) Q
    refine wp_run 2 true (15, ([some (vp 0 0)], ([vp 12 0], G x m2))) rfl rfl ?_
    refine wp_call 116 [vp 12 0] (18, ([some (vp 0 0)], ([], G x m2))) rfl rfl (Cl.mono h (Nat.le_refl _) ?_)
    rintro r ⟨v3, m4, rfl, h⟩
    · show Wp X (d + 1) 31 (18, ([some (vp 0 0)], ([vi v3], G x m4))) Q
      exact wp_ret rfl h
set_option maxRecDepth 100000 in
set_option maxHeartbeats 4000000 in
theorem vc_X10_bestRewardByTrying {X : MX} {d : Nat} {x : Int64 × UInt64} {m : MI} {Q : MRes → Prop} (h : Cl X d 119 [vp 12 0, vp 1 0] (G x m) (fun r => ∃ (v1 : Int32) (m2 : MI), r = (.inl (some (vi v1)), G x m2) ∧ Q (.inl (some (vi v1)), G x m2))) : Cl X (d + 1) 32 [vp 0 0] (G x m) Q := by
  show Wp X (d + 1) 32 (0, ([some (vp 0 0)], ([], G x m))) Q
  refine wp_run 4 true (8, ([some (vp 0 0)], ([vp 1 0, vp 12 0], G x m))) rfl rfl ?_
  refine wp_call 119 [vp 12 0, vp 1 0] (11, ([some (vp 0 0)], ([], G x m))) rfl rfl (Cl.mono h (Nat.le_refl _) ?_)
  rintro r ⟨v1, m2, rfl, h⟩
  · show Wp X (d + 1) 32 (11, ([some (vp 0 0)], ([vi v1], G x m2))) Q
    exact wp_ret rfl h
set_option maxRecDepth 100000 in
set_option maxHeartbeats 4000000 in
theorem vc_X10_bestDifference {X : MX} {d : Nat} {x : Int64 × UInt64} {m : MI} {Q : MRes → Prop} (h : Cl X d 108 [vp 12 0, vp 1 0] (G x m) (fun r => ∃ (m2 : MI), r = (.inl none, G x m2) ∧ Cl X d 117 [vp 12 0] (G x m2) (fun r => ∃ (v3 : Int32) (m4 : MI), r = (.inl (some (vi v3)), G x m4) ∧ Q (.inl (some (vi v3)), G x m4)))) : Cl X (d + 1) 33 [vp 0 0] (G x m) Q := by
  show Wp X (d + 1) 33 (0, ([some (vp 0 0)], ([], G x m))) Q
  refine wp_run 4 true (8, ([some (vp 0 0)], ([vp 1 0, vp 12 0], G x m))) rfl rfl ?_
  refine wp_call 108 [vp 12 0, vp 1 0] (11, ([some (vp 0 0)], ([], G x m))) rfl rfl (Cl.mono h (Nat.le_refl _) ?_)
  rintro r ⟨m2, rfl, h⟩
  · show Wp X (d + 1) 33 (11, ([some (vp 0 0)], ([], G x m2))) Q
    refine wp_run 2 true (15, ([some (vp 0 0)], ([vp 12 0], G x m2))) rfl rfl ?_
    refine wp_call 117 [vp 12 0] (18, ([some (vp 0 0)], ([], G x m2))) rfl rfl (Cl.mono h (Nat.le_refl _) ?_)
    rintro r ⟨v3, m4, rfl, h⟩
    · show Wp X (d + 1) 33 (18, ([some (vp 0 0)], ([vi v3], G x m4))) Q
      exact wp_ret rfl h
set_option maxRecDepth 100000 in
set_option maxHeartbeats 4000000 in
theorem vc_X10_settlementFor {X : MX} {d : Nat} {x : Int64 × UInt64} {m : MI} {Q : MRes → Prop} {p0 : Int32} (h : Cl X d 62 [vp 0 0, vi p0] (G x m) (fun r => (∃ (v1 : Int32) (m2 : MI), r = (.inl (some (vi v1)), G x m2) ∧ Cl X d 108 [vp 12 0, vp 1 0] (G x m2) (fun r => ∃ (m4 : MI), r = (.inl none, G x m4) ∧ (inb v1 6 = true ∧ (∀ t5 : Int32, t5 = m4 19 0 v1.toNatClampNeg → ((0 ≤ t5 → (inb t5 10 = true ∧ Q (.inl (some (vi (m4 5 (10 * 0 + t5.toNatClampNeg) 0))), G x m4))) ∧ (¬ (0 ≤ t5) → Q (.inr 2, Gu (1 + (0, 0).1, 6 + (0, 0).2) x m4))))))) ∨ (∃ (k7 : Nat) (u8 : Nat × Nat) (m9 : MI), r = (.inr k7, Gu u8 x m9) ∧ Q (.inr k7, Gu ((0, 0).1 + u8.1, (0, 0).2 + u8.2) x m9)))) : Cl X (d + 1) 34 [vp 0 0, vi p0] (G x m) Q := by
  show Wp X (d + 1) 34 (0, ([some (vp 0 0), some (vi p0), none, none], ([], G x m))) Q
  refine wp_run 2 true (2, ([some (vp 0 0), some (vi p0), none, none], ([vi p0, vp 0 0], G x m))) rfl rfl ?_
  refine wp_call 62 [vp 0 0, vi p0] (5, ([some (vp 0 0), some (vi p0), none, none], ([], G x m))) rfl rfl (Cl.mono h (Nat.le_refl _) ?_)
  intro r hr
  rcases hr with ⟨v1, m2, rfl, h⟩ | ⟨k7, u8, m9, rfl, h⟩
  · show Wp X (d + 1) 34 (5, ([some (vp 0 0), some (vi p0), none, none], ([vi v1], G x m2))) Q
    refine wp_run 5 true (14, ([some (vp 0 0), some (vi p0), some (vi v1), none], ([vp 1 0, vp 12 0], G x m2))) rfl rfl ?_
    refine wp_call 108 [vp 12 0, vp 1 0] (17, ([some (vp 0 0), some (vi p0), some (vi v1), none], ([], G x m2))) rfl rfl (Cl.mono h (Nat.le_refl _) ?_)
    rintro r ⟨m4, rfl, h⟩
    · show Wp X (d + 1) 34 (17, ([some (vp 0 0), some (vi p0), some (vi v1), none], ([], G x m4))) Q
      obtain ⟨hg3_0, h⟩ := h
      refine wp_run 6 (inb v1 6 && true) (27, ([some (vp 0 0), some (vi p0), some (vi v1), some (vi (m4 19 0 v1.toNatClampNeg))], ([], G x m4))) rfl (and_t hg3_0 rfl) ?_
      refine wpg (fun t5 => Wp X (d + 1) 34 (27, ([some (vp 0 0), some (vi p0), some (vi v1), some (vi t5)], ([], G x m4))) Q) (m4 19 0 v1.toNatClampNeg) (fun t5 ht5 => ?_)
      have h := h t5 ht5
      refine wp_run 2 true ((bif decide (0 ≤ t5) then 41 else 31), ([some (vp 0 0), some (vi p0), some (vi v1), some (vi t5)], ([], G x m4))) rfl rfl ?_
      refine wp_if (0 ≤ t5) (fun c6 => ?_) (fun c6 => ?_)
      · have h := h.1 c6
        obtain ⟨hg4_0, h⟩ := h
        refine wp_run 8 (inb t5 10 && true) (55, ([some (vp 0 0), some (vi p0), some (vi v1), some (vi t5)], ([vi (m4 5 (10 * 0 + t5.toNatClampNeg) 0)], G x m4))) rfl (and_t hg4_0 rfl) ?_
        exact wp_ret rfl h
      · have h := h.2 c6
        exact wp_thr rfl rfl h
  · exact h
set_option maxRecDepth 100000 in
set_option maxHeartbeats 4000000 in
theorem vc_X10_paletteError {X : MX} {d : Nat} {x : Int64 × UInt64} {m : MI} {Q : MRes → Prop} {p0 : Int32} (h : Cl X d 57 [vi p0, vi 1, vi (m 2 0 1)] (G x m) (fun r => ∃ (v1 : Int32) (m2 : MI), r = (.inl (some (vi v1)), G x m2) ∧ ((¬ v1 = 0 → Cl X d 122 [vp 20 0, vp 1 0] (G x m2) (fun r => ∃ (m5 : MI), r = (.inl none, G x m5) ∧ Cl X d 125 [vp 20 0, vi p0] (G x m5) (fun r => ∃ (v6 : Int32) (m7 : MI), r = (.inl (some (vi v6)), G x m7) ∧ Cl X d 123 [vp 20 0, vi v6] (G x m7) (fun r => ∃ (v8 : Int32) (m9 : MI), r = (.inl (some (vi v8)), G x m9) ∧ Q (.inl (some (vi v8)), G x m9))))) ∧ (¬ (¬ v1 = 0) → Q (.inr 0, Gu (1 + (0, 0).1, 6 + (0, 0).2) x m2))))) : Cl X (d + 1) 35 [vp 0 0, vi p0] (G x m) Q := by
  show Wp X (d + 1) 35 (0, ([some (vp 0 0), some (vi p0)], ([], G x m))) Q
  refine wp_run 6 true (12, ([some (vp 0 0), some (vi p0)], ([vi (m 2 0 1), vi 1, vi p0], G x m))) rfl rfl ?_
  refine wp_call 57 [vi p0, vi 1, vi (m 2 0 1)] (15, ([some (vp 0 0), some (vi p0)], ([], G x m))) rfl rfl (Cl.mono h (Nat.le_refl _) ?_)
  rintro r ⟨v1, m2, rfl, h⟩
  · show Wp X (d + 1) 35 (15, ([some (vp 0 0), some (vi p0)], ([vi v1], G x m2))) Q
    refine wp_run 1 true ((bif decide (¬ v1 = 0) then 28 else 18), ([some (vp 0 0), some (vi p0)], ([], G x m2))) rfl rfl ?_
    refine wp_if (¬ v1 = 0) (fun c3 => ?_) (fun c3 => ?_)
    · have h := h.1 c3
      refine wp_run 4 true (36, ([some (vp 0 0), some (vi p0)], ([vp 1 0, vp 20 0], G x m2))) rfl rfl ?_
      refine wp_call 122 [vp 20 0, vp 1 0] (39, ([some (vp 0 0), some (vi p0)], ([], G x m2))) rfl rfl (Cl.mono h (Nat.le_refl _) ?_)
      rintro r ⟨m5, rfl, h⟩
      · show Wp X (d + 1) 35 (39, ([some (vp 0 0), some (vi p0)], ([], G x m5))) Q
        refine wp_run 5 true (48, ([some (vp 0 0), some (vi p0)], ([vi p0, vp 20 0, vp 20 0], G x m5))) rfl rfl ?_
        refine wp_call 125 [vp 20 0, vi p0] (51, ([some (vp 0 0), some (vi p0)], ([vp 20 0], G x m5))) rfl rfl (Cl.mono h (Nat.le_refl _) ?_)
        rintro r ⟨v6, m7, rfl, h⟩
        · show Wp X (d + 1) 35 (51, ([some (vp 0 0), some (vi p0)], ([vi v6, vp 20 0], G x m7))) Q
          refine wp_call 123 [vp 20 0, vi v6] (54, ([some (vp 0 0), some (vi p0)], ([], G x m7))) rfl rfl (Cl.mono h (Nat.le_refl _) ?_)
          rintro r ⟨v8, m9, rfl, h⟩
          · show Wp X (d + 1) 35 (54, ([some (vp 0 0), some (vi p0)], ([vi v8], G x m9))) Q
            exact wp_ret rfl h
    · have h := h.2 c3
      exact wp_thr rfl rfl h
