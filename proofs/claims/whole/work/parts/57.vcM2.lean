set_option maxRecDepth 100000 in
set_option maxHeartbeats 4000000 in
theorem vc_X11_checked {X : MX} {d : Nat} {x : Int64 × UInt64} {m : MI} {Q : MRes → Prop} {p0 : Int32} (h : ((p0 = 0 → (∀ m2 : MI, m2 = mup m 31 0 5 1 → Q (.inl (some (vi (m2 31 0 5))), G x m2))) ∧ (¬ (p0 = 0) → (∀ m3 : MI, m3 = mup m 31 0 5 0 → Q (.inl (some (vi (m3 31 0 5))), G x m3))))) : Cl X d 196 [vp 31 0, vi p0] (G x m) Q := by
  show Wp X d 196 (0, ([some (vp 31 0), some (vi p0)], ([], G x m))) Q
  refine wp_run 3 true ((bif decide (p0 = 0) then 9 else 5), ([some (vp 31 0), some (vi p0)], ([vp 31 0], G x m))) rfl rfl ?_
  refine wp_if (p0 = 0) (fun c1 => ?_) (fun c1 => ?_)
  · have h := h.1 c1
    refine wp_run 2 true (13, ([some (vp 31 0), some (vi p0)], ([], G x (mup m 31 0 5 1)))) rfl rfl ?_
    refine wpg (fun m2 => Wp X d 196 (13, ([some (vp 31 0), some (vi p0)], ([], G x m2))) Q) (mup m 31 0 5 1) (fun m2 hm2 => ?_)
    have h := h m2 hm2
    refine wp_run 2 true (17, ([some (vp 31 0), some (vi p0)], ([vi (m2 31 0 5)], G x m2))) rfl rfl ?_
    exact wp_ret rfl h
  · have h := h.2 c1
    refine wp_run 3 true (13, ([some (vp 31 0), some (vi p0)], ([], G x (mup m 31 0 5 0)))) rfl rfl ?_
    refine wpg (fun m3 => Wp X d 196 (13, ([some (vp 31 0), some (vi p0)], ([], G x m3))) Q) (mup m 31 0 5 0) (fun m3 hm3 => ?_)
    have h := h m3 hm3
    refine wp_run 2 true (17, ([some (vp 31 0), some (vi p0)], ([vi (m3 31 0 5)], G x m3))) rfl rfl ?_
    exact wp_ret rfl h
set_option maxRecDepth 100000 in
set_option maxHeartbeats 4000000 in
theorem vc_X11_colourCount {X : MX} {d : Nat} {x : Int64 × UInt64} {m : MI} {Q : MRes → Prop} (h : Cl X d 195 [vp 31 0, vi (m 32 0 0)] (G x m) (fun r => ∃ (v1 : Int32) (m2 : MI), r = (.inl (some (vi v1)), G x m2) ∧ Q (.inl (some (vi v1)), G x m2))) : Cl X (d + 1) 197 [vp 31 0] (G x m) Q := by
  show Wp X (d + 1) 197 (0, ([some (vp 31 0)], ([], G x m))) Q
  refine wp_run 5 true (7, ([some (vp 31 0)], ([vi (m 32 0 0), vp 31 0], G x m))) rfl rfl ?_
  refine wp_call 195 [vp 31 0, vi (m 32 0 0)] (10, ([some (vp 31 0)], ([], G x m))) rfl rfl (Cl.mono h (Nat.le_refl _) ?_)
  rintro r ⟨v1, m2, rfl, h⟩
  · show Wp X (d + 1) 197 (10, ([some (vp 31 0)], ([vi v1], G x m2))) Q
    exact wp_ret rfl h
set_option maxRecDepth 100000 in
set_option maxHeartbeats 4000000 in
theorem vc_X11_colourAt {X : MX} {d : Nat} {x : Int64 × UInt64} {m : MI} {Q : MRes → Prop} {p0 : Int32} (h : Cl X d 147 [vi p0, vi 0, vi ((m 32 0 0) - 1)] (G x m) (fun r => ∃ (v1 : Int32) (m2 : MI), r = (.inl (some (vi v1)), G x m2) ∧ Cl X d 196 [vp 31 0, vi v1] (G x m2) (fun r => ∃ (v3 : Int32) (m4 : MI), r = (.inl (some (vi v3)), G x m4) ∧ ((v3 ≤ 0 → Cl X d 154 [vp 31 0, vi p0, vi 0] (G x m4) (fun r => ∃ (v6 : Int32) (m7 : MI), r = (.inl (some (vi v6)), G x m7) ∧ Q (.inl (some (vi v6)), G x m7))) ∧ (¬ (v3 ≤ 0) → Q (.inl (some (vi 0)), G x m4)))))) : Cl X (d + 1) 198 [vp 31 0, vi p0] (G x m) Q := by
  show Wp X (d + 1) 198 (0, ([some (vp 31 0), some (vi p0)], ([], G x m))) Q
  refine wp_run 9 true (11, ([some (vp 31 0), some (vi p0)], ([vi ((m 32 0 0) - 1), vi 0, vi p0, vp 31 0], G x m))) rfl rfl ?_
  refine wp_call 147 [vi p0, vi 0, vi ((m 32 0 0) - 1)] (14, ([some (vp 31 0), some (vi p0)], ([vp 31 0], G x m))) rfl rfl (Cl.mono h (Nat.le_refl _) ?_)
  rintro r ⟨v1, m2, rfl, h⟩
  · show Wp X (d + 1) 198 (14, ([some (vp 31 0), some (vi p0)], ([vi v1, vp 31 0], G x m2))) Q
    refine wp_call 196 [vp 31 0, vi v1] (17, ([some (vp 31 0), some (vi p0)], ([], G x m2))) rfl rfl (Cl.mono h (Nat.le_refl _) ?_)
    rintro r ⟨v3, m4, rfl, h⟩
    · show Wp X (d + 1) 198 (17, ([some (vp 31 0), some (vi p0)], ([vi v3], G x m4))) Q
      refine wp_run 1 true ((bif decide (v3 ≤ 0) then 24 else 20), ([some (vp 31 0), some (vi p0)], ([], G x m4))) rfl rfl ?_
      refine wp_if (v3 ≤ 0) (fun c5 => ?_) (fun c5 => ?_)
      · have h := h.1 c5
        refine wp_run 3 true (27, ([some (vp 31 0), some (vi p0)], ([vi 0, vi p0, vp 31 0], G x m4))) rfl rfl ?_
        refine wp_call 154 [vp 31 0, vi p0, vi 0] (30, ([some (vp 31 0), some (vi p0)], ([], G x m4))) rfl rfl (Cl.mono h (Nat.le_refl _) ?_)
        rintro r ⟨v6, m7, rfl, h⟩
        · show Wp X (d + 1) 198 (30, ([some (vp 31 0), some (vi p0)], ([vi v6], G x m7))) Q
          exact wp_ret rfl h
      · have h := h.2 c5
        refine wp_run 2 true (30, ([some (vp 31 0), some (vi p0)], ([vi 0], G x m4))) rfl rfl ?_
        exact wp_ret rfl h
set_option maxRecDepth 100000 in
set_option maxHeartbeats 4000000 in
theorem vc_X11_ofColour {X : MX} {d : Nat} {x : Int64 × UInt64} {m : MI} {Q : MRes → Prop} {p0 : Int32} {p1 : Int32} (h : Cl X d 156 [vp 31 0, vi p0] (G x m) (fun r => ∃ (v1 : Int32) (m2 : MI), r = (.inl (some (vi v1)), G x m2) ∧ ((v1 < 0 → Cl X d 196 [vp 31 0, vi 0] (G x m2) (fun r => ∃ (v4 : Int32) (m5 : MI), r = (.inl (some (vi v4)), G x m5) ∧ ((v4 ≤ 0 → Cl X d 156 [vp 31 0, vi p0] (G x m5) (fun r => ∃ (v7 : Int32) (m8 : MI), r = (.inl (some (vi v7)), G x m8) ∧ Cl X d 154 [vp 31 0, vi v7, vi p1] (G x m8) (fun r => ∃ (v9 : Int32) (m10 : MI), r = (.inl (some (vi v9)), G x m10) ∧ Q (.inl (some (vi v9)), G x m10)))) ∧ (¬ (v4 ≤ 0) → Q (.inl (some (vi 0)), G x m5))))) ∧ (¬ (v1 < 0) → Cl X d 196 [vp 31 0, vi 1] (G x m2) (fun r => ∃ (v11 : Int32) (m12 : MI), r = (.inl (some (vi v11)), G x m12) ∧ ((v11 ≤ 0 → Cl X d 156 [vp 31 0, vi p0] (G x m12) (fun r => ∃ (v14 : Int32) (m15 : MI), r = (.inl (some (vi v14)), G x m15) ∧ Cl X d 154 [vp 31 0, vi v14, vi p1] (G x m15) (fun r => ∃ (v16 : Int32) (m17 : MI), r = (.inl (some (vi v16)), G x m17) ∧ Q (.inl (some (vi v16)), G x m17)))) ∧ (¬ (v11 ≤ 0) → Q (.inl (some (vi 0)), G x m12)))))))) : Cl X (d + 1) 199 [vp 31 0, vi p0, vi p1] (G x m) Q := by
  show Wp X (d + 1) 199 (0, ([some (vp 31 0), some (vi p0), some (vi p1)], ([], G x m))) Q
  refine wp_run 3 true (3, ([some (vp 31 0), some (vi p0), some (vi p1)], ([vi p0, vp 31 0, vp 31 0], G x m))) rfl rfl ?_
  refine wp_call 156 [vp 31 0, vi p0] (6, ([some (vp 31 0), some (vi p0), some (vi p1)], ([vp 31 0], G x m))) rfl rfl (Cl.mono h (Nat.le_refl _) ?_)
  rintro r ⟨v1, m2, rfl, h⟩
  · show Wp X (d + 1) 199 (6, ([some (vp 31 0), some (vi p0), some (vi p1)], ([vi v1, vp 31 0], G x m2))) Q
    refine wp_run 1 true ((bif decide (v1 < 0) then 13 else 9), ([some (vp 31 0), some (vi p0), some (vi p1)], ([vp 31 0], G x m2))) rfl rfl ?_
    refine wp_if (v1 < 0) (fun c3 => ?_) (fun c3 => ?_)
    · have h := h.1 c3
      refine wp_run 1 true (14, ([some (vp 31 0), some (vi p0), some (vi p1)], ([vi 0, vp 31 0], G x m2))) rfl rfl ?_
      refine wp_call 196 [vp 31 0, vi 0] (17, ([some (vp 31 0), some (vi p0), some (vi p1)], ([], G x m2))) rfl rfl (Cl.mono h (Nat.le_refl _) ?_)
      rintro r ⟨v4, m5, rfl, h⟩
      · show Wp X (d + 1) 199 (17, ([some (vp 31 0), some (vi p0), some (vi p1)], ([vi v4], G x m5))) Q
        refine wp_run 1 true ((bif decide (v4 ≤ 0) then 24 else 20), ([some (vp 31 0), some (vi p0), some (vi p1)], ([], G x m5))) rfl rfl ?_
        refine wp_if (v4 ≤ 0) (fun c6 => ?_) (fun c6 => ?_)
        · have h := h.1 c6
          refine wp_run 3 true (27, ([some (vp 31 0), some (vi p0), some (vi p1)], ([vi p0, vp 31 0, vp 31 0], G x m5))) rfl rfl ?_
          refine wp_call 156 [vp 31 0, vi p0] (30, ([some (vp 31 0), some (vi p0), some (vi p1)], ([vp 31 0], G x m5))) rfl rfl (Cl.mono h (Nat.le_refl _) ?_)
          rintro r ⟨v7, m8, rfl, h⟩
          · show Wp X (d + 1) 199 (30, ([some (vp 31 0), some (vi p0), some (vi p1)], ([vi v7, vp 31 0], G x m8))) Q
            refine wp_run 1 true (31, ([some (vp 31 0), some (vi p0), some (vi p1)], ([vi p1, vi v7, vp 31 0], G x m8))) rfl rfl ?_
            refine wp_call 154 [vp 31 0, vi v7, vi p1] (34, ([some (vp 31 0), some (vi p0), some (vi p1)], ([], G x m8))) rfl rfl (Cl.mono h (Nat.le_refl _) ?_)
            rintro r ⟨v9, m10, rfl, h⟩
            · show Wp X (d + 1) 199 (34, ([some (vp 31 0), some (vi p0), some (vi p1)], ([vi v9], G x m10))) Q
              exact wp_ret rfl h
        · have h := h.2 c6
          refine wp_run 2 true (34, ([some (vp 31 0), some (vi p0), some (vi p1)], ([vi 0], G x m5))) rfl rfl ?_
          exact wp_ret rfl h
    · have h := h.2 c3
      refine wp_run 2 true (14, ([some (vp 31 0), some (vi p0), some (vi p1)], ([vi 1, vp 31 0], G x m2))) rfl rfl ?_
      refine wp_call 196 [vp 31 0, vi 1] (17, ([some (vp 31 0), some (vi p0), some (vi p1)], ([], G x m2))) rfl rfl (Cl.mono h (Nat.le_refl _) ?_)
      rintro r ⟨v11, m12, rfl, h⟩
      · show Wp X (d + 1) 199 (17, ([some (vp 31 0), some (vi p0), some (vi p1)], ([vi v11], G x m12))) Q
        refine wp_run 1 true ((bif decide (v11 ≤ 0) then 24 else 20), ([some (vp 31 0), some (vi p0), some (vi p1)], ([], G x m12))) rfl rfl ?_
        refine wp_if (v11 ≤ 0) (fun c13 => ?_) (fun c13 => ?_)
        · have h := h.1 c13
          refine wp_run 3 true (27, ([some (vp 31 0), some (vi p0), some (vi p1)], ([vi p0, vp 31 0, vp 31 0], G x m12))) rfl rfl ?_
          refine wp_call 156 [vp 31 0, vi p0] (30, ([some (vp 31 0), some (vi p0), some (vi p1)], ([vp 31 0], G x m12))) rfl rfl (Cl.mono h (Nat.le_refl _) ?_)
          rintro r ⟨v14, m15, rfl, h⟩
          · show Wp X (d + 1) 199 (30, ([some (vp 31 0), some (vi p0), some (vi p1)], ([vi v14, vp 31 0], G x m15))) Q
            refine wp_run 1 true (31, ([some (vp 31 0), some (vi p0), some (vi p1)], ([vi p1, vi v14, vp 31 0], G x m15))) rfl rfl ?_
            refine wp_call 154 [vp 31 0, vi v14, vi p1] (34, ([some (vp 31 0), some (vi p0), some (vi p1)], ([], G x m15))) rfl rfl (Cl.mono h (Nat.le_refl _) ?_)
            rintro r ⟨v16, m17, rfl, h⟩
            · show Wp X (d + 1) 199 (34, ([some (vp 31 0), some (vi p0), some (vi p1)], ([vi v16], G x m17))) Q
              exact wp_ret rfl h
        · have h := h.2 c13
          refine wp_run 2 true (34, ([some (vp 31 0), some (vi p0), some (vi p1)], ([vi 0], G x m12))) rfl rfl ?_
          exact wp_ret rfl h
set_option maxRecDepth 100000 in
set_option maxHeartbeats 4000000 in
theorem vc_X11_red {X : MX} {d : Nat} {x : Int64 × UInt64} {m : MI} {Q : MRes → Prop} {p0 : Int32} (h : Cl X d 199 [vp 31 0, vi p0, vi 1] (G x m) (fun r => ∃ (v1 : Int32) (m2 : MI), r = (.inl (some (vi v1)), G x m2) ∧ Q (.inl (some (vi v1)), G x m2))) : Cl X (d + 1) 200 [vp 31 0, vi p0] (G x m) Q := by
  show Wp X (d + 1) 200 (0, ([some (vp 31 0), some (vi p0)], ([], G x m))) Q
  refine wp_run 3 true (3, ([some (vp 31 0), some (vi p0)], ([vi 1, vi p0, vp 31 0], G x m))) rfl rfl ?_
  refine wp_call 199 [vp 31 0, vi p0, vi 1] (6, ([some (vp 31 0), some (vi p0)], ([], G x m))) rfl rfl (Cl.mono h (Nat.le_refl _) ?_)
  rintro r ⟨v1, m2, rfl, h⟩
  · show Wp X (d + 1) 200 (6, ([some (vp 31 0), some (vi p0)], ([vi v1], G x m2))) Q
    exact wp_ret rfl h
set_option maxRecDepth 100000 in
set_option maxHeartbeats 4000000 in
theorem vc_X11_green {X : MX} {d : Nat} {x : Int64 × UInt64} {m : MI} {Q : MRes → Prop} {p0 : Int32} (h : Cl X d 199 [vp 31 0, vi p0, vi 2] (G x m) (fun r => ∃ (v1 : Int32) (m2 : MI), r = (.inl (some (vi v1)), G x m2) ∧ Q (.inl (some (vi v1)), G x m2))) : Cl X (d + 1) 201 [vp 31 0, vi p0] (G x m) Q := by
  show Wp X (d + 1) 201 (0, ([some (vp 31 0), some (vi p0)], ([], G x m))) Q
  refine wp_run 3 true (3, ([some (vp 31 0), some (vi p0)], ([vi 2, vi p0, vp 31 0], G x m))) rfl rfl ?_
  refine wp_call 199 [vp 31 0, vi p0, vi 2] (6, ([some (vp 31 0), some (vi p0)], ([], G x m))) rfl rfl (Cl.mono h (Nat.le_refl _) ?_)
  rintro r ⟨v1, m2, rfl, h⟩
  · show Wp X (d + 1) 201 (6, ([some (vp 31 0), some (vi p0)], ([vi v1], G x m2))) Q
    exact wp_ret rfl h
set_option maxRecDepth 100000 in
set_option maxHeartbeats 4000000 in
theorem vc_X11_blue {X : MX} {d : Nat} {x : Int64 × UInt64} {m : MI} {Q : MRes → Prop} {p0 : Int32} (h : Cl X d 199 [vp 31 0, vi p0, vi 3] (G x m) (fun r => ∃ (v1 : Int32) (m2 : MI), r = (.inl (some (vi v1)), G x m2) ∧ Q (.inl (some (vi v1)), G x m2))) : Cl X (d + 1) 202 [vp 31 0, vi p0] (G x m) Q := by
  show Wp X (d + 1) 202 (0, ([some (vp 31 0), some (vi p0)], ([], G x m))) Q
  refine wp_run 3 true (3, ([some (vp 31 0), some (vi p0)], ([vi 3, vi p0, vp 31 0], G x m))) rfl rfl ?_
  refine wp_call 199 [vp 31 0, vi p0, vi 3] (6, ([some (vp 31 0), some (vi p0)], ([], G x m))) rfl rfl (Cl.mono h (Nat.le_refl _) ?_)
  rintro r ⟨v1, m2, rfl, h⟩
  · show Wp X (d + 1) 202 (6, ([some (vp 31 0), some (vi p0)], ([vi v1], G x m2))) Q
    exact wp_ret rfl h
set_option maxRecDepth 100000 in
set_option maxHeartbeats 4000000 in
theorem vc_X11_fastness {X : MX} {d : Nat} {x : Int64 × UInt64} {m : MI} {Q : MRes → Prop} {p0 : Int32} (h : Cl X d 199 [vp 31 0, vi p0, vi 4] (G x m) (fun r => ∃ (v1 : Int32) (m2 : MI), r = (.inl (some (vi v1)), G x m2) ∧ Q (.inl (some (vi v1)), G x m2))) : Cl X (d + 1) 203 [vp 31 0, vi p0] (G x m) Q := by
  show Wp X (d + 1) 203 (0, ([some (vp 31 0), some (vi p0)], ([], G x m))) Q
  refine wp_run 3 true (3, ([some (vp 31 0), some (vi p0)], ([vi 4, vi p0, vp 31 0], G x m))) rfl rfl ?_
  refine wp_call 199 [vp 31 0, vi p0, vi 4] (6, ([some (vp 31 0), some (vi p0)], ([], G x m))) rfl rfl (Cl.mono h (Nat.le_refl _) ?_)
  rintro r ⟨v1, m2, rfl, h⟩
  · show Wp X (d + 1) 203 (6, ([some (vp 31 0), some (vi p0)], ([vi v1], G x m2))) Q
    exact wp_ret rfl h
set_option maxRecDepth 100000 in
set_option maxHeartbeats 4000000 in
theorem vc_X11_age {X : MX} {d : Nat} {x : Int64 × UInt64} {m : MI} {Q : MRes → Prop} {p0 : Int32} (h : Cl X d 156 [vp 31 0, vi p0] (G x m) (fun r => ∃ (v1 : Int32) (m2 : MI), r = (.inl (some (vi v1)), G x m2) ∧ ((v1 < 0 → Cl X d 196 [vp 31 0, vi 0] (G x m2) (fun r => ∃ (v4 : Int32) (m5 : MI), r = (.inl (some (vi v4)), G x m5) ∧ ((v4 ≤ 0 → Cl X d 156 [vp 31 0, vi p0] (G x m5) (fun r => ∃ (v7 : Int32) (m8 : MI), r = (.inl (some (vi v7)), G x m8) ∧ Cl X d 190 [vp 31 0, vi v7] (G x m8) (fun r => ∃ (v9 : Int32) (m10 : MI), r = (.inl (some (vi v9)), G x m10) ∧ Q (.inl (some (vi v9)), G x m10)))) ∧ (¬ (v4 ≤ 0) → Q (.inl (some (vi 0)), G x m5))))) ∧ (¬ (v1 < 0) → Cl X d 196 [vp 31 0, vi 1] (G x m2) (fun r => ∃ (v11 : Int32) (m12 : MI), r = (.inl (some (vi v11)), G x m12) ∧ ((v11 ≤ 0 → Cl X d 156 [vp 31 0, vi p0] (G x m12) (fun r => ∃ (v14 : Int32) (m15 : MI), r = (.inl (some (vi v14)), G x m15) ∧ Cl X d 190 [vp 31 0, vi v14] (G x m15) (fun r => ∃ (v16 : Int32) (m17 : MI), r = (.inl (some (vi v16)), G x m17) ∧ Q (.inl (some (vi v16)), G x m17)))) ∧ (¬ (v11 ≤ 0) → Q (.inl (some (vi 0)), G x m12)))))))) : Cl X (d + 1) 204 [vp 31 0, vi p0] (G x m) Q := by
  show Wp X (d + 1) 204 (0, ([some (vp 31 0), some (vi p0)], ([], G x m))) Q
  refine wp_run 3 true (3, ([some (vp 31 0), some (vi p0)], ([vi p0, vp 31 0, vp 31 0], G x m))) rfl rfl ?_
  refine wp_call 156 [vp 31 0, vi p0] (6, ([some (vp 31 0), some (vi p0)], ([vp 31 0], G x m))) rfl rfl (Cl.mono h (Nat.le_refl _) ?_)
  rintro r ⟨v1, m2, rfl, h⟩
  · show Wp X (d + 1) 204 (6, ([some (vp 31 0), some (vi p0)], ([vi v1, vp 31 0], G x m2))) Q
    refine wp_run 1 true ((bif decide (v1 < 0) then 13 else 9), ([some (vp 31 0), some (vi p0)], ([vp 31 0], G x m2))) rfl rfl ?_
    refine wp_if (v1 < 0) (fun c3 => ?_) (fun c3 => ?_)
    · have h := h.1 c3
      refine wp_run 1 true (14, ([some (vp 31 0), some (vi p0)], ([vi 0, vp 31 0], G x m2))) rfl rfl ?_
      refine wp_call 196 [vp 31 0, vi 0] (17, ([some (vp 31 0), some (vi p0)], ([], G x m2))) rfl rfl (Cl.mono h (Nat.le_refl _) ?_)
      rintro r ⟨v4, m5, rfl, h⟩
      · show Wp X (d + 1) 204 (17, ([some (vp 31 0), some (vi p0)], ([vi v4], G x m5))) Q
        refine wp_run 1 true ((bif decide (v4 ≤ 0) then 24 else 20), ([some (vp 31 0), some (vi p0)], ([], G x m5))) rfl rfl ?_
        refine wp_if (v4 ≤ 0) (fun c6 => ?_) (fun c6 => ?_)
        · have h := h.1 c6
          refine wp_run 3 true (27, ([some (vp 31 0), some (vi p0)], ([vi p0, vp 31 0, vp 31 0], G x m5))) rfl rfl ?_
          refine wp_call 156 [vp 31 0, vi p0] (30, ([some (vp 31 0), some (vi p0)], ([vp 31 0], G x m5))) rfl rfl (Cl.mono h (Nat.le_refl _) ?_)
          rintro r ⟨v7, m8, rfl, h⟩
          · show Wp X (d + 1) 204 (30, ([some (vp 31 0), some (vi p0)], ([vi v7, vp 31 0], G x m8))) Q
            refine wp_call 190 [vp 31 0, vi v7] (33, ([some (vp 31 0), some (vi p0)], ([], G x m8))) rfl rfl (Cl.mono h (Nat.le_refl _) ?_)
            rintro r ⟨v9, m10, rfl, h⟩
            · show Wp X (d + 1) 204 (33, ([some (vp 31 0), some (vi p0)], ([vi v9], G x m10))) Q
              exact wp_ret rfl h
        · have h := h.2 c6
          refine wp_run 2 true (33, ([some (vp 31 0), some (vi p0)], ([vi 0], G x m5))) rfl rfl ?_
          exact wp_ret rfl h
    · have h := h.2 c3
      refine wp_run 2 true (14, ([some (vp 31 0), some (vi p0)], ([vi 1, vp 31 0], G x m2))) rfl rfl ?_
      refine wp_call 196 [vp 31 0, vi 1] (17, ([some (vp 31 0), some (vi p0)], ([], G x m2))) rfl rfl (Cl.mono h (Nat.le_refl _) ?_)
      rintro r ⟨v11, m12, rfl, h⟩
      · show Wp X (d + 1) 204 (17, ([some (vp 31 0), some (vi p0)], ([vi v11], G x m12))) Q
        refine wp_run 1 true ((bif decide (v11 ≤ 0) then 24 else 20), ([some (vp 31 0), some (vi p0)], ([], G x m12))) rfl rfl ?_
        refine wp_if (v11 ≤ 0) (fun c13 => ?_) (fun c13 => ?_)
        · have h := h.1 c13
          refine wp_run 3 true (27, ([some (vp 31 0), some (vi p0)], ([vi p0, vp 31 0, vp 31 0], G x m12))) rfl rfl ?_
          refine wp_call 156 [vp 31 0, vi p0] (30, ([some (vp 31 0), some (vi p0)], ([vp 31 0], G x m12))) rfl rfl (Cl.mono h (Nat.le_refl _) ?_)
          rintro r ⟨v14, m15, rfl, h⟩
          · show Wp X (d + 1) 204 (30, ([some (vp 31 0), some (vi p0)], ([vi v14, vp 31 0], G x m15))) Q
            refine wp_call 190 [vp 31 0, vi v14] (33, ([some (vp 31 0), some (vi p0)], ([], G x m15))) rfl rfl (Cl.mono h (Nat.le_refl _) ?_)
            rintro r ⟨v16, m17, rfl, h⟩
            · show Wp X (d + 1) 204 (33, ([some (vp 31 0), some (vi p0)], ([vi v16], G x m17))) Q
              exact wp_ret rfl h
        · have h := h.2 c13
          refine wp_run 2 true (33, ([some (vp 31 0), some (vi p0)], ([vi 0], G x m12))) rfl rfl ?_
          exact wp_ret rfl h
set_option maxRecDepth 100000 in
set_option maxHeartbeats 4000000 in
theorem vc_X11_daysUntilGrey {X : MX} {d : Nat} {x : Int64 × UInt64} {m : MI} {Q : MRes → Prop} {p0 : Int32} (h : Cl X d 156 [vp 31 0, vi p0] (G x m) (fun r => ∃ (v1 : Int32) (m2 : MI), r = (.inl (some (vi v1)), G x m2) ∧ ((v1 < 0 → Cl X d 196 [vp 31 0, vi 0] (G x m2) (fun r => ∃ (v4 : Int32) (m5 : MI), r = (.inl (some (vi v4)), G x m5) ∧ ((v4 ≤ 0 → Cl X d 156 [vp 31 0, vi p0] (G x m5) (fun r => ∃ (v7 : Int32) (m8 : MI), r = (.inl (some (vi v7)), G x m8) ∧ Cl X d 192 [vp 31 0, vi v7] (G x m8) (fun r => ∃ (v9 : Int32) (m10 : MI), r = (.inl (some (vi v9)), G x m10) ∧ ((¬ v9 = 0 → Cl X d 154 [vp 31 0, vi v7, vi 4] (G x m10) (fun r => ∃ (v12 : Int32) (m13 : MI), r = (.inl (some (vi v12)), G x m13) ∧ Cl X d 190 [vp 31 0, vi v7] (G x m13) (fun r => ∃ (v14 : Int32) (m15 : MI), r = (.inl (some (vi v14)), G x m15) ∧ Cl X d 154 [vp 31 0, vi v7, vi 4] (G x m15) (fun r => ∃ (v16 : Int32) (m17 : MI), r = (.inl (some (vi v16)), G x m17) ∧ (decide (¬ v16 = 0) = true ∧ Q (.inl (some (vi ((v12 * v9) - (v14 - v14 / v16 * v16)))), G x m17)))))) ∧ (¬ (¬ v9 = 0) → Q (.inl (some (vi 0)), G x m10)))))) ∧ (¬ (v4 ≤ 0) → Q (.inl (some (vi 0)), G x m5))))) ∧ (¬ (v1 < 0) → Cl X d 196 [vp 31 0, vi 1] (G x m2) (fun r => ∃ (v18 : Int32) (m19 : MI), r = (.inl (some (vi v18)), G x m19) ∧ ((v18 ≤ 0 → Cl X d 156 [vp 31 0, vi p0] (G x m19) (fun r => ∃ (v21 : Int32) (m22 : MI), r = (.inl (some (vi v21)), G x m22) ∧ Cl X d 192 [vp 31 0, vi v21] (G x m22) (fun r => ∃ (v23 : Int32) (m24 : MI), r = (.inl (some (vi v23)), G x m24) ∧ ((¬ v23 = 0 → Cl X d 154 [vp 31 0, vi v21, vi 4] (G x m24) (fun r => ∃ (v26 : Int32) (m27 : MI), r = (.inl (some (vi v26)), G x m27) ∧ Cl X d 190 [vp 31 0, vi v21] (G x m27) (fun r => ∃ (v28 : Int32) (m29 : MI), r = (.inl (some (vi v28)), G x m29) ∧ Cl X d 154 [vp 31 0, vi v21, vi 4] (G x m29) (fun r => ∃ (v30 : Int32) (m31 : MI), r = (.inl (some (vi v30)), G x m31) ∧ (decide (¬ v30 = 0) = true ∧ Q (.inl (some (vi ((v26 * v23) - (v28 - v28 / v30 * v30)))), G x m31)))))) ∧ (¬ (¬ v23 = 0) → Q (.inl (some (vi 0)), G x m24)))))) ∧ (¬ (v18 ≤ 0) → Q (.inl (some (vi 0)), G x m19)))))))) : Cl X (d + 1) 205 [vp 31 0, vi p0] (G x m) Q := by
  show Wp X (d + 1) 205 (0, ([some (vp 31 0), some (vi p0), none, none], ([], G x m))) Q
  refine wp_run 3 true (3, ([some (vp 31 0), some (vi p0), none, none], ([vi p0, vp 31 0, vp 31 0], G x m))) rfl rfl ?_
  refine wp_call 156 [vp 31 0, vi p0] (6, ([some (vp 31 0), some (vi p0), none, none], ([vp 31 0], G x m))) rfl rfl (Cl.mono h (Nat.le_refl _) ?_)
  rintro r ⟨v1, m2, rfl, h⟩
  · show Wp X (d + 1) 205 (6, ([some (vp 31 0), some (vi p0), none, none], ([vi v1, vp 31 0], G x m2))) Q
    refine wp_run 1 true ((bif decide (v1 < 0) then 13 else 9), ([some (vp 31 0), some (vi p0), none, none], ([vp 31 0], G x m2))) rfl rfl ?_
    refine wp_if (v1 < 0) (fun c3 => ?_) (fun c3 => ?_)
    · have h := h.1 c3
      refine wp_run 1 true (14, ([some (vp 31 0), some (vi p0), none, none], ([vi 0, vp 31 0], G x m2))) rfl rfl ?_
      refine wp_call 196 [vp 31 0, vi 0] (17, ([some (vp 31 0), some (vi p0), none, none], ([], G x m2))) rfl rfl (Cl.mono h (Nat.le_refl _) ?_)
      rintro r ⟨v4, m5, rfl, h⟩
      · show Wp X (d + 1) 205 (17, ([some (vp 31 0), some (vi p0), none, none], ([vi v4], G x m5))) Q
        refine wp_run 1 true ((bif decide (v4 ≤ 0) then 22 else 20), ([some (vp 31 0), some (vi p0), none, none], ([], G x m5))) rfl rfl ?_
        refine wp_if (v4 ≤ 0) (fun c6 => ?_) (fun c6 => ?_)
        · have h := h.1 c6
          refine wp_run 2 true (24, ([some (vp 31 0), some (vi p0), none, none], ([vi p0, vp 31 0], G x m5))) rfl rfl ?_
          refine wp_call 156 [vp 31 0, vi p0] (27, ([some (vp 31 0), some (vi p0), none, none], ([], G x m5))) rfl rfl (Cl.mono h (Nat.le_refl _) ?_)
          rintro r ⟨v7, m8, rfl, h⟩
          · show Wp X (d + 1) 205 (27, ([some (vp 31 0), some (vi p0), none, none], ([vi v7], G x m8))) Q
            refine wp_run 3 true (30, ([some (vp 31 0), some (vi p0), some (vi v7), none], ([vi v7, vp 31 0], G x m8))) rfl rfl ?_
            refine wp_call 192 [vp 31 0, vi v7] (33, ([some (vp 31 0), some (vi p0), some (vi v7), none], ([], G x m8))) rfl rfl (Cl.mono h (Nat.le_refl _) ?_)
            rintro r ⟨v9, m10, rfl, h⟩
            · show Wp X (d + 1) 205 (33, ([some (vp 31 0), some (vi p0), some (vi v7), none], ([vi v9], G x m10))) Q
              refine wp_run 3 true ((bif decide (¬ v9 = 0) then 42 else 38), ([some (vp 31 0), some (vi p0), some (vi v7), some (vi v9)], ([], G x m10))) rfl rfl ?_
              refine wp_if (¬ v9 = 0) (fun c11 => ?_) (fun c11 => ?_)
              · have h := h.1 c11
                refine wp_run 3 true (45, ([some (vp 31 0), some (vi p0), some (vi v7), some (vi v9)], ([vi 4, vi v7, vp 31 0], G x m10))) rfl rfl ?_
                refine wp_call 154 [vp 31 0, vi v7, vi 4] (48, ([some (vp 31 0), some (vi p0), some (vi v7), some (vi v9)], ([], G x m10))) rfl rfl (Cl.mono h (Nat.le_refl _) ?_)
                rintro r ⟨v12, m13, rfl, h⟩
                · show Wp X (d + 1) 205 (48, ([some (vp 31 0), some (vi p0), some (vi v7), some (vi v9)], ([vi v12], G x m13))) Q
                  refine wp_run 4 true (52, ([some (vp 31 0), some (vi p0), some (vi v7), some (vi v9)], ([vi v7, vp 31 0, vi (v12 * v9)], G x m13))) rfl rfl ?_
                  refine wp_call 190 [vp 31 0, vi v7] (55, ([some (vp 31 0), some (vi p0), some (vi v7), some (vi v9)], ([vi (v12 * v9)], G x m13))) rfl rfl (Cl.mono h (Nat.le_refl _) ?_)
                  rintro r ⟨v14, m15, rfl, h⟩
                  · show Wp X (d + 1) 205 (55, ([some (vp 31 0), some (vi p0), some (vi v7), some (vi v9)], ([vi v14, vi (v12 * v9)], G x m15))) Q
                    refine wp_run 3 true (58, ([some (vp 31 0), some (vi p0), some (vi v7), some (vi v9)], ([vi 4, vi v7, vp 31 0, vi v14, vi (v12 * v9)], G x m15))) rfl rfl ?_
                    refine wp_call 154 [vp 31 0, vi v7, vi 4] (61, ([some (vp 31 0), some (vi p0), some (vi v7), some (vi v9)], ([vi v14, vi (v12 * v9)], G x m15))) rfl rfl (Cl.mono h (Nat.le_refl _) ?_)
                    rintro r ⟨v16, m17, rfl, h⟩
                    · show Wp X (d + 1) 205 (61, ([some (vp 31 0), some (vi p0), some (vi v7), some (vi v9)], ([vi v16, vi v14, vi (v12 * v9)], G x m17))) Q
                      obtain ⟨hg11_0, h⟩ := h
                      refine wp_run 2 (decide (¬ v16 = 0) && true) (63, ([some (vp 31 0), some (vi p0), some (vi v7), some (vi v9)], ([vi ((v12 * v9) - (v14 - v14 / v16 * v16))], G x m17))) rfl (and_t hg11_0 rfl) ?_
                      exact wp_ret rfl h
              · have h := h.2 c11
                refine wp_run 2 true (63, ([some (vp 31 0), some (vi p0), some (vi v7), some (vi v9)], ([vi 0], G x m10))) rfl rfl ?_
                exact wp_ret rfl h
        · have h := h.2 c6
          refine wp_run 1 true (21, ([some (vp 31 0), some (vi p0), none, none], ([vi 0], G x m5))) rfl rfl ?_
          exact wp_ret rfl h
    · have h := h.2 c3
      refine wp_run 2 true (14, ([some (vp 31 0), some (vi p0), none, none], ([vi 1, vp 31 0], G x m2))) rfl rfl ?_
      refine wp_call 196 [vp 31 0, vi 1] (17, ([some (vp 31 0), some (vi p0), none, none], ([], G x m2))) rfl rfl (Cl.mono h (Nat.le_refl _) ?_)
      rintro r ⟨v18, m19, rfl, h⟩
      · show Wp X (d + 1) 205 (17, ([some (vp 31 0), some (vi p0), none, none], ([vi v18], G x m19))) Q
        refine wp_run 1 true ((bif decide (v18 ≤ 0) then 22 else 20), ([some (vp 31 0), some (vi p0), none, none], ([], G x m19))) rfl rfl ?_
        refine wp_if (v18 ≤ 0) (fun c20 => ?_) (fun c20 => ?_)
        · have h := h.1 c20
          refine wp_run 2 true (24, ([some (vp 31 0), some (vi p0), none, none], ([vi p0, vp 31 0], G x m19))) rfl rfl ?_
          refine wp_call 156 [vp 31 0, vi p0] (27, ([some (vp 31 0), some (vi p0), none, none], ([], G x m19))) rfl rfl (Cl.mono h (Nat.le_refl _) ?_)
          rintro r ⟨v21, m22, rfl, h⟩
          · show Wp X (d + 1) 205 (27, ([some (vp 31 0), some (vi p0), none, none], ([vi v21], G x m22))) Q
            refine wp_run 3 true (30, ([some (vp 31 0), some (vi p0), some (vi v21), none], ([vi v21, vp 31 0], G x m22))) rfl rfl ?_
            refine wp_call 192 [vp 31 0, vi v21] (33, ([some (vp 31 0), some (vi p0), some (vi v21), none], ([], G x m22))) rfl rfl (Cl.mono h (Nat.le_refl _) ?_)
            rintro r ⟨v23, m24, rfl, h⟩
            · show Wp X (d + 1) 205 (33, ([some (vp 31 0), some (vi p0), some (vi v21), none], ([vi v23], G x m24))) Q
              refine wp_run 3 true ((bif decide (¬ v23 = 0) then 42 else 38), ([some (vp 31 0), some (vi p0), some (vi v21), some (vi v23)], ([], G x m24))) rfl rfl ?_
              refine wp_if (¬ v23 = 0) (fun c25 => ?_) (fun c25 => ?_)
              · have h := h.1 c25
                refine wp_run 3 true (45, ([some (vp 31 0), some (vi p0), some (vi v21), some (vi v23)], ([vi 4, vi v21, vp 31 0], G x m24))) rfl rfl ?_
                refine wp_call 154 [vp 31 0, vi v21, vi 4] (48, ([some (vp 31 0), some (vi p0), some (vi v21), some (vi v23)], ([], G x m24))) rfl rfl (Cl.mono h (Nat.le_refl _) ?_)
                rintro r ⟨v26, m27, rfl, h⟩
                · show Wp X (d + 1) 205 (48, ([some (vp 31 0), some (vi p0), some (vi v21), some (vi v23)], ([vi v26], G x m27))) Q
                  refine wp_run 4 true (52, ([some (vp 31 0), some (vi p0), some (vi v21), some (vi v23)], ([vi v21, vp 31 0, vi (v26 * v23)], G x m27))) rfl rfl ?_
                  refine wp_call 190 [vp 31 0, vi v21] (55, ([some (vp 31 0), some (vi p0), some (vi v21), some (vi v23)], ([vi (v26 * v23)], G x m27))) rfl rfl (Cl.mono h (Nat.le_refl _) ?_)
                  rintro r ⟨v28, m29, rfl, h⟩
                  · show Wp X (d + 1) 205 (55, ([some (vp 31 0), some (vi p0), some (vi v21), some (vi v23)], ([vi v28, vi (v26 * v23)], G x m29))) Q
                    refine wp_run 3 true (58, ([some (vp 31 0), some (vi p0), some (vi v21), some (vi v23)], ([vi 4, vi v21, vp 31 0, vi v28, vi (v26 * v23)], G x m29))) rfl rfl ?_
                    refine wp_call 154 [vp 31 0, vi v21, vi 4] (61, ([some (vp 31 0), some (vi p0), some (vi v21), some (vi v23)], ([vi v28, vi (v26 * v23)], G x m29))) rfl rfl (Cl.mono h (Nat.le_refl _) ?_)
                    rintro r ⟨v30, m31, rfl, h⟩
                    · show Wp X (d + 1) 205 (61, ([some (vp 31 0), some (vi p0), some (vi v21), some (vi v23)], ([vi v30, vi v28, vi (v26 * v23)], G x m31))) Q
                      obtain ⟨hg11_0, h⟩ := h
                      refine wp_run 2 (decide (¬ v30 = 0) && true) (63, ([some (vp 31 0), some (vi p0), some (vi v21), some (vi v23)], ([vi ((v26 * v23) - (v28 - v28 / v30 * v30))], G x m31))) rfl (and_t hg11_0 rfl) ?_
                      exact wp_ret rfl h
              · have h := h.2 c25
                refine wp_run 2 true (63, ([some (vp 31 0), some (vi p0), some (vi v21), some (vi v23)], ([vi 0], G x m24))) rfl rfl ?_
                exact wp_ret rfl h
        · have h := h.2 c20
          refine wp_run 1 true (21, ([some (vp 31 0), some (vi p0), none, none], ([vi 0], G x m19))) rfl rfl ?_
          exact wp_ret rfl h
set_option maxRecDepth 100000 in
set_option maxHeartbeats 4000000 in
theorem vc_X11_brightness {X : MX} {d : Nat} {x : Int64 × UInt64} {m : MI} {Q : MRes → Prop} {p0 : Int32} (h : Cl X d 154 [vp 31 0, vi p0, vi 1] (G x m) (fun r => ∃ (v1 : Int32) (m2 : MI), r = (.inl (some (vi v1)), G x m2) ∧ Cl X d 154 [vp 31 0, vi p0, vi 2] (G x m2) (fun r => ∃ (v3 : Int32) (m4 : MI), r = (.inl (some (vi v3)), G x m4) ∧ Cl X d 154 [vp 31 0, vi p0, vi 3] (G x m4) (fun r => ∃ (v5 : Int32) (m6 : MI), r = (.inl (some (vi v5)), G x m6) ∧ Q (.inl (some (vi ((v1 + v3) + v5))), G x m6))))) : Cl X (d + 1) 206 [vp 31 0, vi p0] (G x m) Q := by
  show Wp X (d + 1) 206 (0, ([some (vp 31 0), some (vi p0)], ([], G x m))) Q
  refine wp_run 3 true (3, ([some (vp 31 0), some (vi p0)], ([vi 1, vi p0, vp 31 0], G x m))) rfl rfl ?_
  refine wp_call 154 [vp 31 0, vi p0, vi 1] (6, ([some (vp 31 0), some (vi p0)], ([], G x m))) rfl rfl (Cl.mono h (Nat.le_refl _) ?_)
  rintro r ⟨v1, m2, rfl, h⟩
  · show Wp X (d + 1) 206 (6, ([some (vp 31 0), some (vi p0)], ([vi v1], G x m2))) Q
    refine wp_run 3 true (9, ([some (vp 31 0), some (vi p0)], ([vi 2, vi p0, vp 31 0, vi v1], G x m2))) rfl rfl ?_
    refine wp_call 154 [vp 31 0, vi p0, vi 2] (12, ([some (vp 31 0), some (vi p0)], ([vi v1], G x m2))) rfl rfl (Cl.mono h (Nat.le_refl _) ?_)
    rintro r ⟨v3, m4, rfl, h⟩
    · show Wp X (d + 1) 206 (12, ([some (vp 31 0), some (vi p0)], ([vi v3, vi v1], G x m4))) Q
      refine wp_run 4 true (16, ([some (vp 31 0), some (vi p0)], ([vi 3, vi p0, vp 31 0, vi (v1 + v3)], G x m4))) rfl rfl ?_
      refine wp_call 154 [vp 31 0, vi p0, vi 3] (19, ([some (vp 31 0), some (vi p0)], ([vi (v1 + v3)], G x m4))) rfl rfl (Cl.mono h (Nat.le_refl _) ?_)
      rintro r ⟨v5, m6, rfl, h⟩
      · show Wp X (d + 1) 206 (19, ([some (vp 31 0), some (vi p0)], ([vi v5, vi (v1 + v3)], G x m6))) Q
        refine wp_run 1 true (20, ([some (vp 31 0), some (vi p0)], ([vi ((v1 + v3) + v5)], G x m6))) rfl rfl ?_
        exact wp_ret rfl h
set_option maxRecDepth 100000 in
set_option maxHeartbeats 4000000 in
theorem vc_X11_colourByBrightness {X : MX} {d : Nat} {x : Int64 × UInt64} {m : MI} {Q : MRes → Prop} {p0 : Int32} (h : (∀ m1 : MI, m1 = mup m 31 0 5 0 → Wp X (d + 1) 207 (7, ([some (vp 31 0), some (vi p0), some (vi 0), none, none], ([], G x m1))) Q)) : Cl X (d + 1) 207 [vp 31 0, vi p0] (G x m) Q := by
  show Wp X (d + 1) 207 (0, ([some (vp 31 0), some (vi p0), none, none, none], ([], G x m))) Q
  refine wp_run 3 true (5, ([some (vp 31 0), some (vi p0), none, none, none], ([], G x (mup m 31 0 5 0)))) rfl rfl ?_
  refine wpg (fun m1 => Wp X (d + 1) 207 (5, ([some (vp 31 0), some (vi p0), none, none, none], ([], G x m1))) Q) (mup m 31 0 5 0) (fun m1 hm1 => ?_)
  have h := h m1 hm1
  refine wp_run 2 true (7, ([some (vp 31 0), some (vi p0), some (vi 0), none, none], ([], G x m1))) rfl rfl ?_
  exact h
set_option maxRecDepth 100000 in
set_option maxHeartbeats 4000000 in
theorem vl_X11_colourByBrightness_7 {X : MX} {d : Nat} {x : Int64 × UInt64} {m : MI} {Q : MRes → Prop} {l1 : Int32} {l2 : Int32} {o3 : Option MV} {o4 : Option MV} (h : (((m 32 0 0) ≤ l2 → Cl X d 149 [vp 31 0, vi 1] (G x m) (fun r => ∃ (v2 : Int32) (m3 : MI), r = (.inl (some (vi v2)), G x m3) ∧ Q (.inl (some (vi v2)), G x m3))) ∧ (¬ ((m 32 0 0) ≤ l2) → Wp X (d + 1) 207 (22, ([some (vp 31 0), some (vi l1), some (vi l2), some (vi 0), some (vi 0)], ([], G x m))) Q))) : Wp X (d + 1) 207 (7, ([some (vp 31 0), some (vi l1), some (vi l2), o3, o4], ([], G x m))) Q := by
  refine wp_run 6 true ((bif decide ((m 32 0 0) ≤ l2) then 99 else 17), ([some (vp 31 0), some (vi l1), some (vi l2), o3, o4], ([], G x m))) rfl rfl ?_
  refine wp_if ((m 32 0 0) ≤ l2) (fun c1 => ?_) (fun c1 => ?_)
  · have h := h.1 c1
    refine wp_run 2 true (101, ([some (vp 31 0), some (vi l1), some (vi l2), o3, o4], ([vi 1, vp 31 0], G x m))) rfl rfl ?_
    refine wp_call 149 [vp 31 0, vi 1] (104, ([some (vp 31 0), some (vi l1), some (vi l2), o3, o4], ([], G x m))) rfl rfl (Cl.mono h (Nat.le_refl _) ?_)
    rintro r ⟨v2, m3, rfl, h⟩
    · show Wp X (d + 1) 207 (104, ([some (vp 31 0), some (vi l1), some (vi l2), o3, o4], ([vi v2], G x m3))) Q
      exact wp_ret rfl h
  · have h := h.2 c1
    refine wp_run 4 true (22, ([some (vp 31 0), some (vi l1), some (vi l2), some (vi 0), some (vi 0)], ([], G x m))) rfl rfl ?_
    exact h
set_option maxRecDepth 100000 in
set_option maxHeartbeats 4000000 in
theorem vl_X11_colourByBrightness_22 {X : MX} {d : Nat} {x : Int64 × UInt64} {m : MI} {Q : MRes → Prop} {l1 : Int32} {l2 : Int32} {l3 : Int32} {l4 : Int32} (h : (((m 32 0 0) ≤ l4 → ((¬ l3 = l1 → (∀ t3 : Int32, t3 = l2 + 1 → Wp X (d + 1) 207 (7, ([some (vp 31 0), some (vi l1), some (vi t3), some (vi l3), some (vi l4)], ([], G x m))) Q)) ∧ (¬ (¬ l3 = l1) → Cl X d 154 [vp 31 0, vi l2, vi 0] (G x m) (fun r => ∃ (v4 : Int32) (m5 : MI), r = (.inl (some (vi v4)), G x m5) ∧ Q (.inl (some (vi v4)), G x m5))))) ∧ (¬ ((m 32 0 0) ≤ l4) → Cl X d 206 [vp 31 0, vi l4] (G x m) (fun r => ∃ (v6 : Int32) (m7 : MI), r = (.inl (some (vi v6)), G x m7) ∧ Cl X d 206 [vp 31 0, vi l2] (G x m7) (fun r => ∃ (v8 : Int32) (m9 : MI), r = (.inl (some (vi v8)), G x m9) ∧ ((v8 < v6 → (∀ t11 : Int32, t11 = l3 + 1 → (∀ t12 : Int32, t12 = l4 + 1 → Wp X (d + 1) 207 (22, ([some (vp 31 0), some (vi l1), some (vi l2), some (vi t11), some (vi t12)], ([], G x m9))) Q))) ∧ (¬ (v8 < v6) → Cl X d 206 [vp 31 0, vi l4] (G x m9) (fun r => ∃ (v13 : Int32) (m14 : MI), r = (.inl (some (vi v13)), G x m14) ∧ Cl X d 206 [vp 31 0, vi l2] (G x m14) (fun r => ∃ (v15 : Int32) (m16 : MI), r = (.inl (some (vi v15)), G x m16) ∧ ((¬ v13 = v15 → (∀ t18 : Int32, t18 = l3 + 0 → (∀ t19 : Int32, t19 = l4 + 1 → Wp X (d + 1) 207 (22, ([some (vp 31 0), some (vi l1), some (vi l2), some (vi t18), some (vi t19)], ([], G x m16))) Q))) ∧ (¬ (¬ v13 = v15) → ((l2 ≤ l4 → (∀ t21 : Int32, t21 = l3 + 0 → (∀ t22 : Int32, t22 = l4 + 1 → Wp X (d + 1) 207 (22, ([some (vp 31 0), some (vi l1), some (vi l2), some (vi t21), some (vi t22)], ([], G x m16))) Q))) ∧ (¬ (l2 ≤ l4) → (∀ t23 : Int32, t23 = l3 + 1 → (∀ t24 : Int32, t24 = l4 + 1 → Wp X (d + 1) 207 (22, ([some (vp 31 0), some (vi l1), some (vi l2), some (vi t23), some (vi t24)], ([], G x m16))) Q))))))))))))))) : Wp X (d + 1) 207 (22, ([some (vp 31 0), some (vi l1), some (vi l2), some (vi l3), some (vi l4)], ([], G x m))) Q := by
  refine wp_run 6 true ((bif decide ((m 32 0 0) ≤ l4) then 81 else 33), ([some (vp 31 0), some (vi l1), some (vi l2), some (vi l3), some (vi l4)], ([], G x m))) rfl rfl ?_
  refine wp_if ((m 32 0 0) ≤ l4) (fun c1 => ?_) (fun c1 => ?_)
  · have h := h.1 c1
    refine wp_run 3 true ((bif decide (¬ l3 = l1) then 93 else 86), ([some (vp 31 0), some (vi l1), some (vi l2), some (vi l3), some (vi l4)], ([], G x m))) rfl rfl ?_
    refine wp_if (¬ l3 = l1) (fun c2 => ?_) (fun c2 => ?_)
    · have h := h.1 c2
      refine wp_run 1 true (96, ([some (vp 31 0), some (vi l1), some (vi (l2 + 1)), some (vi l3), some (vi l4)], ([], G x m))) rfl rfl ?_
      refine wpg (fun t3 => Wp X (d + 1) 207 (96, ([some (vp 31 0), some (vi l1), some (vi t3), some (vi l3), some (vi l4)], ([], G x m))) Q) (l2 + 1) (fun t3 ht3 => ?_)
      have h := h t3 ht3
      refine wp_run 1 true (7, ([some (vp 31 0), some (vi l1), some (vi t3), some (vi l3), some (vi l4)], ([], G x m))) rfl rfl ?_
      exact h
    · have h := h.2 c2
      refine wp_run 3 true (89, ([some (vp 31 0), some (vi l1), some (vi l2), some (vi l3), some (vi l4)], ([vi 0, vi l2, vp 31 0], G x m))) rfl rfl ?_
      refine wp_call 154 [vp 31 0, vi l2, vi 0] (92, ([some (vp 31 0), some (vi l1), some (vi l2), some (vi l3), some (vi l4)], ([], G x m))) rfl rfl (Cl.mono h (Nat.le_refl _) ?_)
      rintro r ⟨v4, m5, rfl, h⟩
      · show Wp X (d + 1) 207 (92, ([some (vp 31 0), some (vi l1), some (vi l2), some (vi l3), some (vi l4)], ([vi v4], G x m5))) Q
        exact wp_ret rfl h
  · have h := h.2 c1
    refine wp_run 3 true (37, ([some (vp 31 0), some (vi l1), some (vi l2), some (vi l3), some (vi l4)], ([vi l4, vp 31 0, vi l3], G x m))) rfl rfl ?_
    refine wp_call 206 [vp 31 0, vi l4] (40, ([some (vp 31 0), some (vi l1), some (vi l2), some (vi l3), some (vi l4)], ([vi l3], G x m))) rfl rfl (Cl.mono h (Nat.le_refl _) ?_)
    rintro r ⟨v6, m7, rfl, h⟩
    · show Wp X (d + 1) 207 (40, ([some (vp 31 0), some (vi l1), some (vi l2), some (vi l3), some (vi l4)], ([vi v6, vi l3], G x m7))) Q
      refine wp_run 2 true (42, ([some (vp 31 0), some (vi l1), some (vi l2), some (vi l3), some (vi l4)], ([vi l2, vp 31 0, vi v6, vi l3], G x m7))) rfl rfl ?_
      refine wp_call 206 [vp 31 0, vi l2] (45, ([some (vp 31 0), some (vi l1), some (vi l2), some (vi l3), some (vi l4)], ([vi v6, vi l3], G x m7))) rfl rfl (Cl.mono h (Nat.le_refl _) ?_)
      rintro r ⟨v8, m9, rfl, h⟩
      · show Wp X (d + 1) 207 (45, ([some (vp 31 0), some (vi l1), some (vi l2), some (vi l3), some (vi l4)], ([vi v8, vi v6, vi l3], G x m9))) Q
        refine wp_run 1 true ((bif decide (v8 < v6) then 68 else 48), ([some (vp 31 0), some (vi l1), some (vi l2), some (vi l3), some (vi l4)], ([vi l3], G x m9))) rfl rfl ?_
        refine wp_if (v8 < v6) (fun c10 => ?_) (fun c10 => ?_)
        · have h := h.1 c10
          refine wp_run 4 true (75, ([some (vp 31 0), some (vi l1), some (vi l2), some (vi (l3 + 1)), some (vi l4)], ([], G x m9))) rfl rfl ?_
          refine wpg (fun t11 => Wp X (d + 1) 207 (75, ([some (vp 31 0), some (vi l1), some (vi l2), some (vi t11), some (vi l4)], ([], G x m9))) Q) (l3 + 1) (fun t11 ht11 => ?_)
          have h := h t11 ht11
          refine wp_run 1 true (78, ([some (vp 31 0), some (vi l1), some (vi l2), some (vi t11), some (vi (l4 + 1))], ([], G x m9))) rfl rfl ?_
          refine wpg (fun t12 => Wp X (d + 1) 207 (78, ([some (vp 31 0), some (vi l1), some (vi l2), some (vi t11), some (vi t12)], ([], G x m9))) Q) (l4 + 1) (fun t12 ht12 => ?_)
          have h := h t12 ht12
          refine wp_run 1 true (22, ([some (vp 31 0), some (vi l1), some (vi l2), some (vi t11), some (vi t12)], ([], G x m9))) rfl rfl ?_
          exact h
        · have h := h.2 c10
          refine wp_run 2 true (51, ([some (vp 31 0), some (vi l1), some (vi l2), some (vi l3), some (vi l4)], ([vi l4, vp 31 0, vi l3], G x m9))) rfl rfl ?_
          refine wp_call 206 [vp 31 0, vi l4] (54, ([some (vp 31 0), some (vi l1), some (vi l2), some (vi l3), some (vi l4)], ([vi l3], G x m9))) rfl rfl (Cl.mono h (Nat.le_refl _) ?_)
          rintro r ⟨v13, m14, rfl, h⟩
          · show Wp X (d + 1) 207 (54, ([some (vp 31 0), some (vi l1), some (vi l2), some (vi l3), some (vi l4)], ([vi v13, vi l3], G x m14))) Q
            refine wp_run 2 true (56, ([some (vp 31 0), some (vi l1), some (vi l2), some (vi l3), some (vi l4)], ([vi l2, vp 31 0, vi v13, vi l3], G x m14))) rfl rfl ?_
            refine wp_call 206 [vp 31 0, vi l2] (59, ([some (vp 31 0), some (vi l1), some (vi l2), some (vi l3), some (vi l4)], ([vi v13, vi l3], G x m14))) rfl rfl (Cl.mono h (Nat.le_refl _) ?_)
            rintro r ⟨v15, m16, rfl, h⟩
            · show Wp X (d + 1) 207 (59, ([some (vp 31 0), some (vi l1), some (vi l2), some (vi l3), some (vi l4)], ([vi v15, vi v13, vi l3], G x m16))) Q
              refine wp_run 1 true ((bif decide (¬ v13 = v15) then 72 else 62), ([some (vp 31 0), some (vi l1), some (vi l2), some (vi l3), some (vi l4)], ([vi l3], G x m16))) rfl rfl ?_
              refine wp_if (¬ v13 = v15) (fun c17 => ?_) (fun c17 => ?_)
              · have h := h.1 c17
                refine wp_run 3 true (75, ([some (vp 31 0), some (vi l1), some (vi l2), some (vi (l3 + 0)), some (vi l4)], ([], G x m16))) rfl rfl ?_
                refine wpg (fun t18 => Wp X (d + 1) 207 (75, ([some (vp 31 0), some (vi l1), some (vi l2), some (vi t18), some (vi l4)], ([], G x m16))) Q) (l3 + 0) (fun t18 ht18 => ?_)
                have h := h t18 ht18
                refine wp_run 1 true (78, ([some (vp 31 0), some (vi l1), some (vi l2), some (vi t18), some (vi (l4 + 1))], ([], G x m16))) rfl rfl ?_
                refine wpg (fun t19 => Wp X (d + 1) 207 (78, ([some (vp 31 0), some (vi l1), some (vi l2), some (vi t18), some (vi t19)], ([], G x m16))) Q) (l4 + 1) (fun t19 ht19 => ?_)
                have h := h t19 ht19
                refine wp_run 1 true (22, ([some (vp 31 0), some (vi l1), some (vi l2), some (vi t18), some (vi t19)], ([], G x m16))) rfl rfl ?_
                exact h
              · have h := h.2 c17
                refine wp_run 3 true ((bif decide (l2 ≤ l4) then 72 else 68), ([some (vp 31 0), some (vi l1), some (vi l2), some (vi l3), some (vi l4)], ([vi l3], G x m16))) rfl rfl ?_
                refine wp_if (l2 ≤ l4) (fun c20 => ?_) (fun c20 => ?_)
                · have h := h.1 c20
                  refine wp_run 3 true (75, ([some (vp 31 0), some (vi l1), some (vi l2), some (vi (l3 + 0)), some (vi l4)], ([], G x m16))) rfl rfl ?_
                  refine wpg (fun t21 => Wp X (d + 1) 207 (75, ([some (vp 31 0), some (vi l1), some (vi l2), some (vi t21), some (vi l4)], ([], G x m16))) Q) (l3 + 0) (fun t21 ht21 => ?_)
                  have h := h t21 ht21
                  refine wp_run 1 true (78, ([some (vp 31 0), some (vi l1), some (vi l2), some (vi t21), some (vi (l4 + 1))], ([], G x m16))) rfl rfl ?_
                  refine wpg (fun t22 => Wp X (d + 1) 207 (78, ([some (vp 31 0), some (vi l1), some (vi l2), some (vi t21), some (vi t22)], ([], G x m16))) Q) (l4 + 1) (fun t22 ht22 => ?_)
                  have h := h t22 ht22
                  refine wp_run 1 true (22, ([some (vp 31 0), some (vi l1), some (vi l2), some (vi t21), some (vi t22)], ([], G x m16))) rfl rfl ?_
                  exact h
                · have h := h.2 c20
                  refine wp_run 4 true (75, ([some (vp 31 0), some (vi l1), some (vi l2), some (vi (l3 + 1)), some (vi l4)], ([], G x m16))) rfl rfl ?_
                  refine wpg (fun t23 => Wp X (d + 1) 207 (75, ([some (vp 31 0), some (vi l1), some (vi l2), some (vi t23), some (vi l4)], ([], G x m16))) Q) (l3 + 1) (fun t23 ht23 => ?_)
                  have h := h t23 ht23
                  refine wp_run 1 true (78, ([some (vp 31 0), some (vi l1), some (vi l2), some (vi t23), some (vi (l4 + 1))], ([], G x m16))) rfl rfl ?_
                  refine wpg (fun t24 => Wp X (d + 1) 207 (78, ([some (vp 31 0), some (vi l1), some (vi l2), some (vi t23), some (vi t24)], ([], G x m16))) Q) (l4 + 1) (fun t24 ht24 => ?_)
                  have h := h t24 ht24
                  refine wp_run 1 true (22, ([some (vp 31 0), some (vi l1), some (vi l2), some (vi t23), some (vi t24)], ([], G x m16))) rfl rfl ?_
                  exact h
set_option maxRecDepth 100000 in
set_option maxHeartbeats 4000000 in
theorem vc_X11_reportCount {X : MX} {d : Nat} {x : Int64 × UInt64} {m : MI} {Q : MRes → Prop} (h : Cl X d 195 [vp 31 0, vi (m 32 0 1)] (G x m) (fun r => ∃ (v1 : Int32) (m2 : MI), r = (.inl (some (vi v1)), G x m2) ∧ Q (.inl (some (vi v1)), G x m2))) : Cl X (d + 1) 208 [vp 31 0] (G x m) Q := by
  show Wp X (d + 1) 208 (0, ([some (vp 31 0)], ([], G x m))) Q
  refine wp_run 5 true (7, ([some (vp 31 0)], ([vi (m 32 0 1), vp 31 0], G x m))) rfl rfl ?_
  refine wp_call 195 [vp 31 0, vi (m 32 0 1)] (10, ([some (vp 31 0)], ([], G x m))) rfl rfl (Cl.mono h (Nat.le_refl _) ?_)
  rintro r ⟨v1, m2, rfl, h⟩
  · show Wp X (d + 1) 208 (10, ([some (vp 31 0)], ([vi v1], G x m2))) Q
    exact wp_ret rfl h
set_option maxRecDepth 100000 in
set_option maxHeartbeats 4000000 in
theorem vc_X11_reportAt {X : MX} {d : Nat} {x : Int64 × UInt64} {m : MI} {Q : MRes → Prop} {p0 : Int32} (h : Cl X d 147 [vi p0, vi 0, vi ((m 32 0 1) - 1)] (G x m) (fun r => ∃ (v1 : Int32) (m2 : MI), r = (.inl (some (vi v1)), G x m2) ∧ Cl X d 196 [vp 31 0, vi v1] (G x m2) (fun r => ∃ (v3 : Int32) (m4 : MI), r = (.inl (some (vi v3)), G x m4) ∧ ((v3 ≤ 0 → Cl X d 155 [vp 31 0, vi p0, vi 0] (G x m4) (fun r => ∃ (v6 : Int32) (m7 : MI), r = (.inl (some (vi v6)), G x m7) ∧ Q (.inl (some (vi v6)), G x m7))) ∧ (¬ (v3 ≤ 0) → Q (.inl (some (vi 0)), G x m4)))))) : Cl X (d + 1) 209 [vp 31 0, vi p0] (G x m) Q := by
  show Wp X (d + 1) 209 (0, ([some (vp 31 0), some (vi p0)], ([], G x m))) Q
  refine wp_run 9 true (11, ([some (vp 31 0), some (vi p0)], ([vi ((m 32 0 1) - 1), vi 0, vi p0, vp 31 0], G x m))) rfl rfl ?_
  refine wp_call 147 [vi p0, vi 0, vi ((m 32 0 1) - 1)] (14, ([some (vp 31 0), some (vi p0)], ([vp 31 0], G x m))) rfl rfl (Cl.mono h (Nat.le_refl _) ?_)
  rintro r ⟨v1, m2, rfl, h⟩
  · show Wp X (d + 1) 209 (14, ([some (vp 31 0), some (vi p0)], ([vi v1, vp 31 0], G x m2))) Q
    refine wp_call 196 [vp 31 0, vi v1] (17, ([some (vp 31 0), some (vi p0)], ([], G x m2))) rfl rfl (Cl.mono h (Nat.le_refl _) ?_)
    rintro r ⟨v3, m4, rfl, h⟩
    · show Wp X (d + 1) 209 (17, ([some (vp 31 0), some (vi p0)], ([vi v3], G x m4))) Q
      refine wp_run 1 true ((bif decide (v3 ≤ 0) then 24 else 20), ([some (vp 31 0), some (vi p0)], ([], G x m4))) rfl rfl ?_
      refine wp_if (v3 ≤ 0) (fun c5 => ?_) (fun c5 => ?_)
      · have h := h.1 c5
        refine wp_run 3 true (27, ([some (vp 31 0), some (vi p0)], ([vi 0, vi p0, vp 31 0], G x m4))) rfl rfl ?_
        refine wp_call 155 [vp 31 0, vi p0, vi 0] (30, ([some (vp 31 0), some (vi p0)], ([], G x m4))) rfl rfl (Cl.mono h (Nat.le_refl _) ?_)
        rintro r ⟨v6, m7, rfl, h⟩
        · show Wp X (d + 1) 209 (30, ([some (vp 31 0), some (vi p0)], ([vi v6], G x m7))) Q
          exact wp_ret rfl h
      · have h := h.2 c5
        refine wp_run 2 true (30, ([some (vp 31 0), some (vi p0)], ([vi 0], G x m4))) rfl rfl ?_
        exact wp_ret rfl h
set_option maxRecDepth 100000 in
set_option maxHeartbeats 4000000 in
theorem vc_X11_ofReport {X : MX} {d : Nat} {x : Int64 × UInt64} {m : MI} {Q : MRes → Prop} {p0 : Int32} {p1 : Int32} (h : Cl X d 157 [vp 31 0, vi p0] (G x m) (fun r => ∃ (v1 : Int32) (m2 : MI), r = (.inl (some (vi v1)), G x m2) ∧ ((v1 < 0 → Cl X d 196 [vp 31 0, vi 0] (G x m2) (fun r => ∃ (v4 : Int32) (m5 : MI), r = (.inl (some (vi v4)), G x m5) ∧ ((v4 ≤ 0 → Cl X d 157 [vp 31 0, vi p0] (G x m5) (fun r => ∃ (v7 : Int32) (m8 : MI), r = (.inl (some (vi v7)), G x m8) ∧ Cl X d 155 [vp 31 0, vi v7, vi p1] (G x m8) (fun r => ∃ (v9 : Int32) (m10 : MI), r = (.inl (some (vi v9)), G x m10) ∧ Q (.inl (some (vi v9)), G x m10)))) ∧ (¬ (v4 ≤ 0) → Q (.inl (some (vi 0)), G x m5))))) ∧ (¬ (v1 < 0) → Cl X d 196 [vp 31 0, vi 1] (G x m2) (fun r => ∃ (v11 : Int32) (m12 : MI), r = (.inl (some (vi v11)), G x m12) ∧ ((v11 ≤ 0 → Cl X d 157 [vp 31 0, vi p0] (G x m12) (fun r => ∃ (v14 : Int32) (m15 : MI), r = (.inl (some (vi v14)), G x m15) ∧ Cl X d 155 [vp 31 0, vi v14, vi p1] (G x m15) (fun r => ∃ (v16 : Int32) (m17 : MI), r = (.inl (some (vi v16)), G x m17) ∧ Q (.inl (some (vi v16)), G x m17)))) ∧ (¬ (v11 ≤ 0) → Q (.inl (some (vi 0)), G x m12)))))))) : Cl X (d + 1) 210 [vp 31 0, vi p0, vi p1] (G x m) Q := by
  show Wp X (d + 1) 210 (0, ([some (vp 31 0), some (vi p0), some (vi p1)], ([], G x m))) Q
  refine wp_run 3 true (3, ([some (vp 31 0), some (vi p0), some (vi p1)], ([vi p0, vp 31 0, vp 31 0], G x m))) rfl rfl ?_
  refine wp_call 157 [vp 31 0, vi p0] (6, ([some (vp 31 0), some (vi p0), some (vi p1)], ([vp 31 0], G x m))) rfl rfl (Cl.mono h (Nat.le_refl _) ?_)
  rintro r ⟨v1, m2, rfl, h⟩
  · show Wp X (d + 1) 210 (6, ([some (vp 31 0), some (vi p0), some (vi p1)], ([vi v1, vp 31 0], G x m2))) Q
    refine wp_run 1 true ((bif decide (v1 < 0) then 13 else 9), ([some (vp 31 0), some (vi p0), some (vi p1)], ([vp 31 0], G x m2))) rfl rfl ?_
    refine wp_if (v1 < 0) (fun c3 => ?_) (fun c3 => ?_)
    · have h := h.1 c3
      refine wp_run 1 true (14, ([some (vp 31 0), some (vi p0), some (vi p1)], ([vi 0, vp 31 0], G x m2))) rfl rfl ?_
      refine wp_call 196 [vp 31 0, vi 0] (17, ([some (vp 31 0), some (vi p0), some (vi p1)], ([], G x m2))) rfl rfl (Cl.mono h (Nat.le_refl _) ?_)
      rintro r ⟨v4, m5, rfl, h⟩
      · show Wp X (d + 1) 210 (17, ([some (vp 31 0), some (vi p0), some (vi p1)], ([vi v4], G x m5))) Q
        refine wp_run 1 true ((bif decide (v4 ≤ 0) then 24 else 20), ([some (vp 31 0), some (vi p0), some (vi p1)], ([], G x m5))) rfl rfl ?_
        refine wp_if (v4 ≤ 0) (fun c6 => ?_) (fun c6 => ?_)
        · have h := h.1 c6
          refine wp_run 3 true (27, ([some (vp 31 0), some (vi p0), some (vi p1)], ([vi p0, vp 31 0, vp 31 0], G x m5))) rfl rfl ?_
          refine wp_call 157 [vp 31 0, vi p0] (30, ([some (vp 31 0), some (vi p0), some (vi p1)], ([vp 31 0], G x m5))) rfl rfl (Cl.mono h (Nat.le_refl _) ?_)
          rintro r ⟨v7, m8, rfl, h⟩
          · show Wp X (d + 1) 210 (30, ([some (vp 31 0), some (vi p0), some (vi p1)], ([vi v7, vp 31 0], G x m8))) Q
            refine wp_run 1 true (31, ([some (vp 31 0), some (vi p0), some (vi p1)], ([vi p1, vi v7, vp 31 0], G x m8))) rfl rfl ?_
            refine wp_call 155 [vp 31 0, vi v7, vi p1] (34, ([some (vp 31 0), some (vi p0), some (vi p1)], ([], G x m8))) rfl rfl (Cl.mono h (Nat.le_refl _) ?_)
            rintro r ⟨v9, m10, rfl, h⟩
            · show Wp X (d + 1) 210 (34, ([some (vp 31 0), some (vi p0), some (vi p1)], ([vi v9], G x m10))) Q
              exact wp_ret rfl h
        · have h := h.2 c6
          refine wp_run 2 true (34, ([some (vp 31 0), some (vi p0), some (vi p1)], ([vi 0], G x m5))) rfl rfl ?_
          exact wp_ret rfl h
    · have h := h.2 c3
      refine wp_run 2 true (14, ([some (vp 31 0), some (vi p0), some (vi p1)], ([vi 1, vp 31 0], G x m2))) rfl rfl ?_
      refine wp_call 196 [vp 31 0, vi 1] (17, ([some (vp 31 0), some (vi p0), some (vi p1)], ([], G x m2))) rfl rfl (Cl.mono h (Nat.le_refl _) ?_)
      rintro r ⟨v11, m12, rfl, h⟩
      · show Wp X (d + 1) 210 (17, ([some (vp 31 0), some (vi p0), some (vi p1)], ([vi v11], G x m12))) Q
        refine wp_run 1 true ((bif decide (v11 ≤ 0) then 24 else 20), ([some (vp 31 0), some (vi p0), some (vi p1)], ([], G x m12))) rfl rfl ?_
        refine wp_if (v11 ≤ 0) (fun c13 => ?_) (fun c13 => ?_)
        · have h := h.1 c13
          refine wp_run 3 true (27, ([some (vp 31 0), some (vi p0), some (vi p1)], ([vi p0, vp 31 0, vp 31 0], G x m12))) rfl rfl ?_
          refine wp_call 157 [vp 31 0, vi p0] (30, ([some (vp 31 0), some (vi p0), some (vi p1)], ([vp 31 0], G x m12))) rfl rfl (Cl.mono h (Nat.le_refl _) ?_)
          rintro r ⟨v14, m15, rfl, h⟩
          · show Wp X (d + 1) 210 (30, ([some (vp 31 0), some (vi p0), some (vi p1)], ([vi v14, vp 31 0], G x m15))) Q
            refine wp_run 1 true (31, ([some (vp 31 0), some (vi p0), some (vi p1)], ([vi p1, vi v14, vp 31 0], G x m15))) rfl rfl ?_
            refine wp_call 155 [vp 31 0, vi v14, vi p1] (34, ([some (vp 31 0), some (vi p0), some (vi p1)], ([], G x m15))) rfl rfl (Cl.mono h (Nat.le_refl _) ?_)
            rintro r ⟨v16, m17, rfl, h⟩
            · show Wp X (d + 1) 210 (34, ([some (vp 31 0), some (vi p0), some (vi p1)], ([vi v16], G x m17))) Q
              exact wp_ret rfl h
        · have h := h.2 c13
          refine wp_run 2 true (34, ([some (vp 31 0), some (vi p0), some (vi p1)], ([vi 0], G x m12))) rfl rfl ?_
          exact wp_ret rfl h
set_option maxRecDepth 100000 in
set_option maxHeartbeats 4000000 in
theorem vc_X11_toleranceOf {X : MX} {d : Nat} {x : Int64 × UInt64} {m : MI} {Q : MRes → Prop} {p0 : Int32} (h : Cl X d 210 [vp 31 0, vi p0, vi 4] (G x m) (fun r => ∃ (v1 : Int32) (m2 : MI), r = (.inl (some (vi v1)), G x m2) ∧ Q (.inl (some (vi v1)), G x m2))) : Cl X (d + 1) 211 [vp 31 0, vi p0] (G x m) Q := by
  show Wp X (d + 1) 211 (0, ([some (vp 31 0), some (vi p0)], ([], G x m))) Q
  refine wp_run 3 true (3, ([some (vp 31 0), some (vi p0)], ([vi 4, vi p0, vp 31 0], G x m))) rfl rfl ?_
  refine wp_call 210 [vp 31 0, vi p0, vi 4] (6, ([some (vp 31 0), some (vi p0)], ([], G x m))) rfl rfl (Cl.mono h (Nat.le_refl _) ?_)
  rintro r ⟨v1, m2, rfl, h⟩
  · show Wp X (d + 1) 211 (6, ([some (vp 31 0), some (vi p0)], ([vi v1], G x m2))) Q
    exact wp_ret rfl h
set_option maxRecDepth 100000 in
set_option maxHeartbeats 4000000 in
theorem vc_X11_rewardOf {X : MX} {d : Nat} {x : Int64 × UInt64} {m : MI} {Q : MRes → Prop} {p0 : Int32} (h : Cl X d 210 [vp 31 0, vi p0, vi 5] (G x m) (fun r => ∃ (v1 : Int32) (m2 : MI), r = (.inl (some (vi v1)), G x m2) ∧ Q (.inl (some (vi v1)), G x m2))) : Cl X (d + 1) 212 [vp 31 0, vi p0] (G x m) Q := by
  show Wp X (d + 1) 212 (0, ([some (vp 31 0), some (vi p0)], ([], G x m))) Q
  refine wp_run 3 true (3, ([some (vp 31 0), some (vi p0)], ([vi 5, vi p0, vp 31 0], G x m))) rfl rfl ?_
  refine wp_call 210 [vp 31 0, vi p0, vi 5] (6, ([some (vp 31 0), some (vi p0)], ([], G x m))) rfl rfl (Cl.mono h (Nat.le_refl _) ?_)
  rintro r ⟨v1, m2, rfl, h⟩
  · show Wp X (d + 1) 212 (6, ([some (vp 31 0), some (vi p0)], ([vi v1], G x m2))) Q
    exact wp_ret rfl h
set_option maxRecDepth 100000 in
set_option maxHeartbeats 4000000 in
theorem vc_X11_areBoth {X : MX} {d : Nat} {x : Int64 × UInt64} {m : MI} {Q : MRes → Prop} {p0 : Int32} {p1 : Int32} (h : Cl X d 157 [vp 31 0, vi p0] (G x m) (fun r => ∃ (v1 : Int32) (m2 : MI), r = (.inl (some (vi v1)), G x m2) ∧ ((v1 < 0 → Cl X d 196 [vp 31 0, vi 0] (G x m2) (fun r => ∃ (v4 : Int32) (m5 : MI), r = (.inl (some (vi v4)), G x m5) ∧ ((¬ v4 = 0 → Q (.inl (some (vi 0)), G x m5)) ∧ (¬ (¬ v4 = 0) → Q (.inl (some (vi 1)), G x m5))))) ∧ (¬ (v1 < 0) → Cl X d 156 [vp 31 0, vi p1] (G x m2) (fun r => ∃ (v7 : Int32) (m8 : MI), r = (.inl (some (vi v7)), G x m8) ∧ ((v7 < 0 → Cl X d 196 [vp 31 0, vi 0] (G x m8) (fun r => ∃ (v10 : Int32) (m11 : MI), r = (.inl (some (vi v10)), G x m11) ∧ ((¬ v10 = 0 → Q (.inl (some (vi 0)), G x m11)) ∧ (¬ (¬ v10 = 0) → Q (.inl (some (vi 1)), G x m11))))) ∧ (¬ (v7 < 0) → Cl X d 196 [vp 31 0, vi 1] (G x m8) (fun r => ∃ (v13 : Int32) (m14 : MI), r = (.inl (some (vi v13)), G x m14) ∧ ((¬ v13 = 0 → Q (.inl (some (vi 0)), G x m14)) ∧ (¬ (¬ v13 = 0) → Q (.inl (some (vi 1)), G x m14))))))))))) : Cl X (d + 1) 213 [vp 31 0, vi p0, vi p1] (G x m) Q := by
  show Wp X (d + 1) 213 (0, ([some (vp 31 0), some (vi p0), some (vi p1)], ([], G x m))) Q
  refine wp_run 3 true (3, ([some (vp 31 0), some (vi p0), some (vi p1)], ([vi p0, vp 31 0, vp 31 0], G x m))) rfl rfl ?_
  refine wp_call 157 [vp 31 0, vi p0] (6, ([some (vp 31 0), some (vi p0), some (vi p1)], ([vp 31 0], G x m))) rfl rfl (Cl.mono h (Nat.le_refl _) ?_)
  rintro r ⟨v1, m2, rfl, h⟩
  · show Wp X (d + 1) 213 (6, ([some (vp 31 0), some (vi p0), some (vi p1)], ([vi v1, vp 31 0], G x m2))) Q
    refine wp_run 1 true ((bif decide (v1 < 0) then 21 else 9), ([some (vp 31 0), some (vi p0), some (vi p1)], ([vp 31 0], G x m2))) rfl rfl ?_
    refine wp_if (v1 < 0) (fun c3 => ?_) (fun c3 => ?_)
    · have h := h.1 c3
      refine wp_run 1 true (22, ([some (vp 31 0), some (vi p0), some (vi p1)], ([vi 0, vp 31 0], G x m2))) rfl rfl ?_
      refine wp_call 196 [vp 31 0, vi 0] (25, ([some (vp 31 0), some (vi p0), some (vi p1)], ([], G x m2))) rfl rfl (Cl.mono h (Nat.le_refl _) ?_)
      rintro r ⟨v4, m5, rfl, h⟩
      · show Wp X (d + 1) 213 (25, ([some (vp 31 0), some (vi p0), some (vi p1)], ([vi v4], G x m5))) Q
        refine wp_run 1 true ((bif decide (¬ v4 = 0) then 32 else 28), ([some (vp 31 0), some (vi p0), some (vi p1)], ([], G x m5))) rfl rfl ?_
        refine wp_if (¬ v4 = 0) (fun c6 => ?_) (fun c6 => ?_)
        · have h := h.1 c6
          refine wp_run 1 true (33, ([some (vp 31 0), some (vi p0), some (vi p1)], ([vi 0], G x m5))) rfl rfl ?_
          exact wp_ret rfl h
        · have h := h.2 c6
          refine wp_run 2 true (33, ([some (vp 31 0), some (vi p0), some (vi p1)], ([vi 1], G x m5))) rfl rfl ?_
          exact wp_ret rfl h
    · have h := h.2 c3
      refine wp_run 2 true (11, ([some (vp 31 0), some (vi p0), some (vi p1)], ([vi p1, vp 31 0, vp 31 0], G x m2))) rfl rfl ?_
      refine wp_call 156 [vp 31 0, vi p1] (14, ([some (vp 31 0), some (vi p0), some (vi p1)], ([vp 31 0], G x m2))) rfl rfl (Cl.mono h (Nat.le_refl _) ?_)
      rintro r ⟨v7, m8, rfl, h⟩
      · show Wp X (d + 1) 213 (14, ([some (vp 31 0), some (vi p0), some (vi p1)], ([vi v7, vp 31 0], G x m8))) Q
        refine wp_run 1 true ((bif decide (v7 < 0) then 21 else 17), ([some (vp 31 0), some (vi p0), some (vi p1)], ([vp 31 0], G x m8))) rfl rfl ?_
        refine wp_if (v7 < 0) (fun c9 => ?_) (fun c9 => ?_)
        · have h := h.1 c9
          refine wp_run 1 true (22, ([some (vp 31 0), some (vi p0), some (vi p1)], ([vi 0, vp 31 0], G x m8))) rfl rfl ?_
          refine wp_call 196 [vp 31 0, vi 0] (25, ([some (vp 31 0), some (vi p0), some (vi p1)], ([], G x m8))) rfl rfl (Cl.mono h (Nat.le_refl _) ?_)
          rintro r ⟨v10, m11, rfl, h⟩
          · show Wp X (d + 1) 213 (25, ([some (vp 31 0), some (vi p0), some (vi p1)], ([vi v10], G x m11))) Q
            refine wp_run 1 true ((bif decide (¬ v10 = 0) then 32 else 28), ([some (vp 31 0), some (vi p0), some (vi p1)], ([], G x m11))) rfl rfl ?_
            refine wp_if (¬ v10 = 0) (fun c12 => ?_) (fun c12 => ?_)
            · have h := h.1 c12
              refine wp_run 1 true (33, ([some (vp 31 0), some (vi p0), some (vi p1)], ([vi 0], G x m11))) rfl rfl ?_
              exact wp_ret rfl h
            · have h := h.2 c12
              refine wp_run 2 true (33, ([some (vp 31 0), some (vi p0), some (vi p1)], ([vi 1], G x m11))) rfl rfl ?_
              exact wp_ret rfl h
        · have h := h.2 c9
          refine wp_run 2 true (22, ([some (vp 31 0), some (vi p0), some (vi p1)], ([vi 1, vp 31 0], G x m8))) rfl rfl ?_
          refine wp_call 196 [vp 31 0, vi 1] (25, ([some (vp 31 0), some (vi p0), some (vi p1)], ([], G x m8))) rfl rfl (Cl.mono h (Nat.le_refl _) ?_)
          rintro r ⟨v13, m14, rfl, h⟩
          · show Wp X (d + 1) 213 (25, ([some (vp 31 0), some (vi p0), some (vi p1)], ([vi v13], G x m14))) Q
            refine wp_run 1 true ((bif decide (¬ v13 = 0) then 32 else 28), ([some (vp 31 0), some (vi p0), some (vi p1)], ([], G x m14))) rfl rfl ?_
            refine wp_if (¬ v13 = 0) (fun c15 => ?_) (fun c15 => ?_)
            · have h := h.1 c15
              refine wp_run 1 true (33, ([some (vp 31 0), some (vi p0), some (vi p1)], ([vi 0], G x m14))) rfl rfl ?_
              exact wp_ret rfl h
            · have h := h.2 c15
              refine wp_run 2 true (33, ([some (vp 31 0), some (vi p0), some (vi p1)], ([vi 1], G x m14))) rfl rfl ?_
              exact wp_ret rfl h
set_option maxRecDepth 100000 in
set_option maxHeartbeats 4000000 in
theorem vc_X11_distanceFor {X : MX} {d : Nat} {x : Int64 × UInt64} {m : MI} {Q : MRes → Prop} {p0 : Int32} {p1 : Int32} (h : Cl X d 213 [vp 31 0, vi p0, vi p1] (G x m) (fun r => ∃ (v1 : Int32) (m2 : MI), r = (.inl (some (vi v1)), G x m2) ∧ ((v1 = 0 → Q (.inl (some (vi 0)), G x m2)) ∧ (¬ (v1 = 0) → Cl X d 157 [vp 31 0, vi p0] (G x m2) (fun r => ∃ (v4 : Int32) (m5 : MI), r = (.inl (some (vi v4)), G x m5) ∧ Cl X d 156 [vp 31 0, vi p1] (G x m5) (fun r => ∃ (v6 : Int32) (m7 : MI), r = (.inl (some (vi v6)), G x m7) ∧ Cl X d 163 [vp 31 0, vi v4, vi v6] (G x m7) (fun r => ∃ (v8 : Int32) (m9 : MI), r = (.inl (some (vi v8)), G x m9) ∧ Q (.inl (some (vi v8)), G x m9)))))))) : Cl X (d + 1) 214 [vp 31 0, vi p0, vi p1] (G x m) Q := by
  show Wp X (d + 1) 214 (0, ([some (vp 31 0), some (vi p0), some (vi p1)], ([], G x m))) Q
  refine wp_run 3 true (3, ([some (vp 31 0), some (vi p0), some (vi p1)], ([vi p1, vi p0, vp 31 0], G x m))) rfl rfl ?_
  refine wp_call 213 [vp 31 0, vi p0, vi p1] (6, ([some (vp 31 0), some (vi p0), some (vi p1)], ([], G x m))) rfl rfl (Cl.mono h (Nat.le_refl _) ?_)
  rintro r ⟨v1, m2, rfl, h⟩
  · show Wp X (d + 1) 214 (6, ([some (vp 31 0), some (vi p0), some (vi p1)], ([vi v1], G x m2))) Q
    refine wp_run 1 true ((bif decide (v1 = 0) then 26 else 9), ([some (vp 31 0), some (vi p0), some (vi p1)], ([], G x m2))) rfl rfl ?_
    refine wp_if (v1 = 0) (fun c3 => ?_) (fun c3 => ?_)
    · have h := h.1 c3
      refine wp_run 1 true (27, ([some (vp 31 0), some (vi p0), some (vi p1)], ([vi 0], G x m2))) rfl rfl ?_
      exact wp_ret rfl h
    · have h := h.2 c3
      refine wp_run 3 true (12, ([some (vp 31 0), some (vi p0), some (vi p1)], ([vi p0, vp 31 0, vp 31 0], G x m2))) rfl rfl ?_
      refine wp_call 157 [vp 31 0, vi p0] (15, ([some (vp 31 0), some (vi p0), some (vi p1)], ([vp 31 0], G x m2))) rfl rfl (Cl.mono h (Nat.le_refl _) ?_)
      rintro r ⟨v4, m5, rfl, h⟩
      · show Wp X (d + 1) 214 (15, ([some (vp 31 0), some (vi p0), some (vi p1)], ([vi v4, vp 31 0], G x m5))) Q
        refine wp_run 2 true (17, ([some (vp 31 0), some (vi p0), some (vi p1)], ([vi p1, vp 31 0, vi v4, vp 31 0], G x m5))) rfl rfl ?_
        refine wp_call 156 [vp 31 0, vi p1] (20, ([some (vp 31 0), some (vi p0), some (vi p1)], ([vi v4, vp 31 0], G x m5))) rfl rfl (Cl.mono h (Nat.le_refl _) ?_)
        rintro r ⟨v6, m7, rfl, h⟩
        · show Wp X (d + 1) 214 (20, ([some (vp 31 0), some (vi p0), some (vi p1)], ([vi v6, vi v4, vp 31 0], G x m7))) Q
          refine wp_call 163 [vp 31 0, vi v4, vi v6] (23, ([some (vp 31 0), some (vi p0), some (vi p1)], ([], G x m7))) rfl rfl (Cl.mono h (Nat.le_refl _) ?_)
          rintro r ⟨v8, m9, rfl, h⟩
          · show Wp X (d + 1) 214 (23, ([some (vp 31 0), some (vi p0), some (vi p1)], ([vi v8], G x m9))) Q
            refine wp_run 1 true (27, ([some (vp 31 0), some (vi p0), some (vi p1)], ([vi v8], G x m9))) rfl rfl ?_
            exact wp_ret rfl h
set_option maxRecDepth 100000 in
set_option maxHeartbeats 4000000 in
theorem vc_X11_fits {X : MX} {d : Nat} {x : Int64 × UInt64} {m : MI} {Q : MRes → Prop} {p0 : Int32} {p1 : Int32} (h : Cl X d 213 [vp 31 0, vi p0, vi p1] (G x m) (fun r => ∃ (v1 : Int32) (m2 : MI), r = (.inl (some (vi v1)), G x m2) ∧ ((v1 = 0 → Q (.inl (some (vi 0)), G x m2)) ∧ (¬ (v1 = 0) → Cl X d 157 [vp 31 0, vi p0] (G x m2) (fun r => ∃ (v4 : Int32) (m5 : MI), r = (.inl (some (vi v4)), G x m5) ∧ Cl X d 156 [vp 31 0, vi p1] (G x m5) (fun r => ∃ (v6 : Int32) (m7 : MI), r = (.inl (some (vi v6)), G x m7) ∧ Cl X d 164 [vp 31 0, vi v4, vi v6] (G x m7) (fun r => ∃ (v8 : Int32) (m9 : MI), r = (.inl (some (vi v8)), G x m9) ∧ ((v8 = 0 → Q (.inl (some (vi 0)), G x m9)) ∧ (¬ (v8 = 0) → Q (.inl (some (vi 1)), G x m9)))))))))) : Cl X (d + 1) 215 [vp 31 0, vi p0, vi p1] (G x m) Q := by
  show Wp X (d + 1) 215 (0, ([some (vp 31 0), some (vi p0), some (vi p1)], ([], G x m))) Q
  refine wp_run 3 true (3, ([some (vp 31 0), some (vi p0), some (vi p1)], ([vi p1, vi p0, vp 31 0], G x m))) rfl rfl ?_
  refine wp_call 213 [vp 31 0, vi p0, vi p1] (6, ([some (vp 31 0), some (vi p0), some (vi p1)], ([], G x m))) rfl rfl (Cl.mono h (Nat.le_refl _) ?_)
  rintro r ⟨v1, m2, rfl, h⟩
  · show Wp X (d + 1) 215 (6, ([some (vp 31 0), some (vi p0), some (vi p1)], ([vi v1], G x m2))) Q
    refine wp_run 1 true ((bif decide (v1 = 0) then 30 else 9), ([some (vp 31 0), some (vi p0), some (vi p1)], ([], G x m2))) rfl rfl ?_
    refine wp_if (v1 = 0) (fun c3 => ?_) (fun c3 => ?_)
    · have h := h.1 c3
      refine wp_run 1 true (31, ([some (vp 31 0), some (vi p0), some (vi p1)], ([vi 0], G x m2))) rfl rfl ?_
      exact wp_ret rfl h
    · have h := h.2 c3
      refine wp_run 3 true (12, ([some (vp 31 0), some (vi p0), some (vi p1)], ([vi p0, vp 31 0, vp 31 0], G x m2))) rfl rfl ?_
      refine wp_call 157 [vp 31 0, vi p0] (15, ([some (vp 31 0), some (vi p0), some (vi p1)], ([vp 31 0], G x m2))) rfl rfl (Cl.mono h (Nat.le_refl _) ?_)
      rintro r ⟨v4, m5, rfl, h⟩
      · show Wp X (d + 1) 215 (15, ([some (vp 31 0), some (vi p0), some (vi p1)], ([vi v4, vp 31 0], G x m5))) Q
        refine wp_run 2 true (17, ([some (vp 31 0), some (vi p0), some (vi p1)], ([vi p1, vp 31 0, vi v4, vp 31 0], G x m5))) rfl rfl ?_
        refine wp_call 156 [vp 31 0, vi p1] (20, ([some (vp 31 0), some (vi p0), some (vi p1)], ([vi v4, vp 31 0], G x m5))) rfl rfl (Cl.mono h (Nat.le_refl _) ?_)
        rintro r ⟨v6, m7, rfl, h⟩
        · show Wp X (d + 1) 215 (20, ([some (vp 31 0), some (vi p0), some (vi p1)], ([vi v6, vi v4, vp 31 0], G x m7))) Q
          refine wp_call 164 [vp 31 0, vi v4, vi v6] (23, ([some (vp 31 0), some (vi p0), some (vi p1)], ([], G x m7))) rfl rfl (Cl.mono h (Nat.le_refl _) ?_)
          rintro r ⟨v8, m9, rfl, h⟩
          · show Wp X (d + 1) 215 (23, ([some (vp 31 0), some (vi p0), some (vi p1)], ([vi v8], G x m9))) Q
            refine wp_run 1 true ((bif decide (v8 = 0) then 30 else 26), ([some (vp 31 0), some (vi p0), some (vi p1)], ([], G x m9))) rfl rfl ?_
            refine wp_if (v8 = 0) (fun c10 => ?_) (fun c10 => ?_)
            · have h := h.1 c10
              refine wp_run 1 true (31, ([some (vp 31 0), some (vi p0), some (vi p1)], ([vi 0], G x m9))) rfl rfl ?_
              exact wp_ret rfl h
            · have h := h.2 c10
              refine wp_run 2 true (31, ([some (vp 31 0), some (vi p0), some (vi p1)], ([vi 1], G x m9))) rfl rfl ?_
              exact wp_ret rfl h
set_option maxRecDepth 100000 in
set_option maxHeartbeats 4000000 in
theorem vc_X11_nearestFor {X : MX} {d : Nat} {x : Int64 × UInt64} {m : MI} {Q : MRes → Prop} {p0 : Int32} (h : Cl X d 157 [vp 31 0, vi p0] (G x m) (fun r => ∃ (v1 : Int32) (m2 : MI), r = (.inl (some (vi v1)), G x m2) ∧ ((v1 < 0 → Cl X d 196 [vp 31 0, vi 0] (G x m2) (fun r => ∃ (v4 : Int32) (m5 : MI), r = (.inl (some (vi v4)), G x m5) ∧ ((v4 ≤ 0 → Cl X d 157 [vp 31 0, vi p0] (G x m5) (fun r => ∃ (v7 : Int32) (m8 : MI), r = (.inl (some (vi v7)), G x m8) ∧ Cl X d 153 [vi v7] (G x m8) (fun r => ∃ (v9 : Int32) (m10 : MI), r = (.inl (some (vi v9)), G x m10) ∧ Cl X d 165 [vp 31 0, vi v9] (G x m10) (fun r => ∃ (v11 : Int32) (m12 : MI), r = (.inl (some (vi v11)), G x m12) ∧ Cl X d 154 [vp 31 0, vi v11, vi 0] (G x m12) (fun r => ∃ (v13 : Int32) (m14 : MI), r = (.inl (some (vi v13)), G x m14) ∧ Q (.inl (some (vi v13)), G x m14)))))) ∧ (¬ (v4 ≤ 0) → Q (.inl (some (vi 0)), G x m5))))) ∧ (¬ (v1 < 0) → (((m2 32 0 0) ≤ 0 → Cl X d 196 [vp 31 0, vi 0] (G x m2) (fun r => ∃ (v16 : Int32) (m17 : MI), r = (.inl (some (vi v16)), G x m17) ∧ ((v16 ≤ 0 → Cl X d 157 [vp 31 0, vi p0] (G x m17) (fun r => ∃ (v19 : Int32) (m20 : MI), r = (.inl (some (vi v19)), G x m20) ∧ Cl X d 153 [vi v19] (G x m20) (fun r => ∃ (v21 : Int32) (m22 : MI), r = (.inl (some (vi v21)), G x m22) ∧ Cl X d 165 [vp 31 0, vi v21] (G x m22) (fun r => ∃ (v23 : Int32) (m24 : MI), r = (.inl (some (vi v23)), G x m24) ∧ Cl X d 154 [vp 31 0, vi v23, vi 0] (G x m24) (fun r => ∃ (v25 : Int32) (m26 : MI), r = (.inl (some (vi v25)), G x m26) ∧ Q (.inl (some (vi v25)), G x m26)))))) ∧ (¬ (v16 ≤ 0) → Q (.inl (some (vi 0)), G x m17))))) ∧ (¬ ((m2 32 0 0) ≤ 0) → Cl X d 196 [vp 31 0, vi 1] (G x m2) (fun r => ∃ (v27 : Int32) (m28 : MI), r = (.inl (some (vi v27)), G x m28) ∧ ((v27 ≤ 0 → Cl X d 157 [vp 31 0, vi p0] (G x m28) (fun r => ∃ (v30 : Int32) (m31 : MI), r = (.inl (some (vi v30)), G x m31) ∧ Cl X d 153 [vi v30] (G x m31) (fun r => ∃ (v32 : Int32) (m33 : MI), r = (.inl (some (vi v32)), G x m33) ∧ Cl X d 165 [vp 31 0, vi v32] (G x m33) (fun r => ∃ (v34 : Int32) (m35 : MI), r = (.inl (some (vi v34)), G x m35) ∧ Cl X d 154 [vp 31 0, vi v34, vi 0] (G x m35) (fun r => ∃ (v36 : Int32) (m37 : MI), r = (.inl (some (vi v36)), G x m37) ∧ Q (.inl (some (vi v36)), G x m37)))))) ∧ (¬ (v27 ≤ 0) → Q (.inl (some (vi 0)), G x m28)))))))))) : Cl X (d + 1) 216 [vp 31 0, vi p0] (G x m) Q := by
  show Wp X (d + 1) 216 (0, ([some (vp 31 0), some (vi p0)], ([], G x m))) Q
  refine wp_run 3 true (3, ([some (vp 31 0), some (vi p0)], ([vi p0, vp 31 0, vp 31 0], G x m))) rfl rfl ?_
  refine wp_call 157 [vp 31 0, vi p0] (6, ([some (vp 31 0), some (vi p0)], ([vp 31 0], G x m))) rfl rfl (Cl.mono h (Nat.le_refl _) ?_)
  rintro r ⟨v1, m2, rfl, h⟩
  · show Wp X (d + 1) 216 (6, ([some (vp 31 0), some (vi p0)], ([vi v1, vp 31 0], G x m2))) Q
    refine wp_run 1 true ((bif decide (v1 < 0) then 22 else 9), ([some (vp 31 0), some (vi p0)], ([vp 31 0], G x m2))) rfl rfl ?_
    refine wp_if (v1 < 0) (fun c3 => ?_) (fun c3 => ?_)
    · have h := h.1 c3
      refine wp_run 1 true (23, ([some (vp 31 0), some (vi p0)], ([vi 0, vp 31 0], G x m2))) rfl rfl ?_
      refine wp_call 196 [vp 31 0, vi 0] (26, ([some (vp 31 0), some (vi p0)], ([], G x m2))) rfl rfl (Cl.mono h (Nat.le_refl _) ?_)
      rintro r ⟨v4, m5, rfl, h⟩
      · show Wp X (d + 1) 216 (26, ([some (vp 31 0), some (vi p0)], ([vi v4], G x m5))) Q
        refine wp_run 1 true ((bif decide (v4 ≤ 0) then 31 else 29), ([some (vp 31 0), some (vi p0)], ([], G x m5))) rfl rfl ?_
        refine wp_if (v4 ≤ 0) (fun c6 => ?_) (fun c6 => ?_)
        · have h := h.1 c6
          refine wp_run 4 true (35, ([some (vp 31 0), some (vi p0)], ([vi p0, vp 31 0, vp 31 0, vp 31 0], G x m5))) rfl rfl ?_
          refine wp_call 157 [vp 31 0, vi p0] (38, ([some (vp 31 0), some (vi p0)], ([vp 31 0, vp 31 0], G x m5))) rfl rfl (Cl.mono h (Nat.le_refl _) ?_)
          rintro r ⟨v7, m8, rfl, h⟩
          · show Wp X (d + 1) 216 (38, ([some (vp 31 0), some (vi p0)], ([vi v7, vp 31 0, vp 31 0], G x m8))) Q
            refine wp_call 153 [vi v7] (41, ([some (vp 31 0), some (vi p0)], ([vp 31 0, vp 31 0], G x m8))) rfl rfl (Cl.mono h (Nat.le_refl _) ?_)
            rintro r ⟨v9, m10, rfl, h⟩
            · show Wp X (d + 1) 216 (41, ([some (vp 31 0), some (vi p0)], ([vi v9, vp 31 0, vp 31 0], G x m10))) Q
              refine wp_call 165 [vp 31 0, vi v9] (44, ([some (vp 31 0), some (vi p0)], ([vp 31 0], G x m10))) rfl rfl (Cl.mono h (Nat.le_refl _) ?_)
              rintro r ⟨v11, m12, rfl, h⟩
              · show Wp X (d + 1) 216 (44, ([some (vp 31 0), some (vi p0)], ([vi v11, vp 31 0], G x m12))) Q
                refine wp_run 1 true (45, ([some (vp 31 0), some (vi p0)], ([vi 0, vi v11, vp 31 0], G x m12))) rfl rfl ?_
                refine wp_call 154 [vp 31 0, vi v11, vi 0] (48, ([some (vp 31 0), some (vi p0)], ([], G x m12))) rfl rfl (Cl.mono h (Nat.le_refl _) ?_)
                rintro r ⟨v13, m14, rfl, h⟩
                · show Wp X (d + 1) 216 (48, ([some (vp 31 0), some (vi p0)], ([vi v13], G x m14))) Q
                  exact wp_ret rfl h
        · have h := h.2 c6
          refine wp_run 1 true (30, ([some (vp 31 0), some (vi p0)], ([vi 0], G x m5))) rfl rfl ?_
          exact wp_ret rfl h
    · have h := h.2 c3
      refine wp_run 5 true ((bif decide ((m2 32 0 0) ≤ 0) then 22 else 18), ([some (vp 31 0), some (vi p0)], ([vp 31 0], G x m2))) rfl rfl ?_
      refine wp_if ((m2 32 0 0) ≤ 0) (fun c15 => ?_) (fun c15 => ?_)
      · have h := h.1 c15
        refine wp_run 1 true (23, ([some (vp 31 0), some (vi p0)], ([vi 0, vp 31 0], G x m2))) rfl rfl ?_
        refine wp_call 196 [vp 31 0, vi 0] (26, ([some (vp 31 0), some (vi p0)], ([], G x m2))) rfl rfl (Cl.mono h (Nat.le_refl _) ?_)
        rintro r ⟨v16, m17, rfl, h⟩
        · show Wp X (d + 1) 216 (26, ([some (vp 31 0), some (vi p0)], ([vi v16], G x m17))) Q
          refine wp_run 1 true ((bif decide (v16 ≤ 0) then 31 else 29), ([some (vp 31 0), some (vi p0)], ([], G x m17))) rfl rfl ?_
          refine wp_if (v16 ≤ 0) (fun c18 => ?_) (fun c18 => ?_)
          · have h := h.1 c18
            refine wp_run 4 true (35, ([some (vp 31 0), some (vi p0)], ([vi p0, vp 31 0, vp 31 0, vp 31 0], G x m17))) rfl rfl ?_
            refine wp_call 157 [vp 31 0, vi p0] (38, ([some (vp 31 0), some (vi p0)], ([vp 31 0, vp 31 0], G x m17))) rfl rfl (Cl.mono h (Nat.le_refl _) ?_)
            rintro r ⟨v19, m20, rfl, h⟩
            · show Wp X (d + 1) 216 (38, ([some (vp 31 0), some (vi p0)], ([vi v19, vp 31 0, vp 31 0], G x m20))) Q
              refine wp_call 153 [vi v19] (41, ([some (vp 31 0), some (vi p0)], ([vp 31 0, vp 31 0], G x m20))) rfl rfl (Cl.mono h (Nat.le_refl _) ?_)
              rintro r ⟨v21, m22, rfl, h⟩
              · show Wp X (d + 1) 216 (41, ([some (vp 31 0), some (vi p0)], ([vi v21, vp 31 0, vp 31 0], G x m22))) Q
                refine wp_call 165 [vp 31 0, vi v21] (44, ([some (vp 31 0), some (vi p0)], ([vp 31 0], G x m22))) rfl rfl (Cl.mono h (Nat.le_refl _) ?_)
                rintro r ⟨v23, m24, rfl, h⟩
                · show Wp X (d + 1) 216 (44, ([some (vp 31 0), some (vi p0)], ([vi v23, vp 31 0], G x m24))) Q
                  refine wp_run 1 true (45, ([some (vp 31 0), some (vi p0)], ([vi 0, vi v23, vp 31 0], G x m24))) rfl rfl ?_
                  refine wp_call 154 [vp 31 0, vi v23, vi 0] (48, ([some (vp 31 0), some (vi p0)], ([], G x m24))) rfl rfl (Cl.mono h (Nat.le_refl _) ?_)
                  rintro r ⟨v25, m26, rfl, h⟩
                  · show Wp X (d + 1) 216 (48, ([some (vp 31 0), some (vi p0)], ([vi v25], G x m26))) Q
                    exact wp_ret rfl h
          · have h := h.2 c18
            refine wp_run 1 true (30, ([some (vp 31 0), some (vi p0)], ([vi 0], G x m17))) rfl rfl ?_
            exact wp_ret rfl h
      · have h := h.2 c15
        refine wp_run 2 true (23, ([some (vp 31 0), some (vi p0)], ([vi 1, vp 31 0], G x m2))) rfl rfl ?_
        refine wp_call 196 [vp 31 0, vi 1] (26, ([some (vp 31 0), some (vi p0)], ([], G x m2))) rfl rfl (Cl.mono h (Nat.le_refl _) ?_)
        rintro r ⟨v27, m28, rfl, h⟩
        · show Wp X (d + 1) 216 (26, ([some (vp 31 0), some (vi p0)], ([vi v27], G x m28))) Q
          refine wp_run 1 true ((bif decide (v27 ≤ 0) then 31 else 29), ([some (vp 31 0), some (vi p0)], ([], G x m28))) rfl rfl ?_
          refine wp_if (v27 ≤ 0) (fun c29 => ?_) (fun c29 => ?_)
          · have h := h.1 c29
            refine wp_run 4 true (35, ([some (vp 31 0), some (vi p0)], ([vi p0, vp 31 0, vp 31 0, vp 31 0], G x m28))) rfl rfl ?_
            refine wp_call 157 [vp 31 0, vi p0] (38, ([some (vp 31 0), some (vi p0)], ([vp 31 0, vp 31 0], G x m28))) rfl rfl (Cl.mono h (Nat.le_refl _) ?_)
            rintro r ⟨v30, m31, rfl, h⟩
            · show Wp X (d + 1) 216 (38, ([some (vp 31 0), some (vi p0)], ([vi v30, vp 31 0, vp 31 0], G x m31))) Q
              refine wp_call 153 [vi v30] (41, ([some (vp 31 0), some (vi p0)], ([vp 31 0, vp 31 0], G x m31))) rfl rfl (Cl.mono h (Nat.le_refl _) ?_)
              rintro r ⟨v32, m33, rfl, h⟩
              · show Wp X (d + 1) 216 (41, ([some (vp 31 0), some (vi p0)], ([vi v32, vp 31 0, vp 31 0], G x m33))) Q
                refine wp_call 165 [vp 31 0, vi v32] (44, ([some (vp 31 0), some (vi p0)], ([vp 31 0], G x m33))) rfl rfl (Cl.mono h (Nat.le_refl _) ?_)
                rintro r ⟨v34, m35, rfl, h⟩
                · show Wp X (d + 1) 216 (44, ([some (vp 31 0), some (vi p0)], ([vi v34, vp 31 0], G x m35))) Q
                  refine wp_run 1 true (45, ([some (vp 31 0), some (vi p0)], ([vi 0, vi v34, vp 31 0], G x m35))) rfl rfl ?_
                  refine wp_call 154 [vp 31 0, vi v34, vi 0] (48, ([some (vp 31 0), some (vi p0)], ([], G x m35))) rfl rfl (Cl.mono h (Nat.le_refl _) ?_)
                  rintro r ⟨v36, m37, rfl, h⟩
                  · show Wp X (d + 1) 216 (48, ([some (vp 31 0), some (vi p0)], ([vi v36], G x m37))) Q
                    exact wp_ret rfl h
          · have h := h.2 c29
            refine wp_run 1 true (30, ([some (vp 31 0), some (vi p0)], ([vi 0], G x m28))) rfl rfl ?_
            exact wp_ret rfl h
set_option maxRecDepth 100000 in
set_option maxHeartbeats 4000000 in
theorem vc_X11_distance {X : MX} {d : Nat} {x : Int64 × UInt64} {m : MI} {Q : MRes → Prop} {p0 : Int32} {p1 : Int32} (h : Cl X d 156 [vp 31 0, vi p0] (G x m) (fun r => ∃ (v1 : Int32) (m2 : MI), r = (.inl (some (vi v1)), G x m2) ∧ ((v1 < 0 → Cl X d 196 [vp 31 0, vi 0] (G x m2) (fun r => ∃ (v4 : Int32) (m5 : MI), r = (.inl (some (vi v4)), G x m5) ∧ ((v4 ≤ 0 → Cl X d 156 [vp 31 0, vi p0] (G x m5) (fun r => ∃ (v7 : Int32) (m8 : MI), r = (.inl (some (vi v7)), G x m8) ∧ Cl X d 152 [vi v7] (G x m8) (fun r => ∃ (v9 : Int32) (m10 : MI), r = (.inl (some (vi v9)), G x m10) ∧ Cl X d 156 [vp 31 0, vi p1] (G x m10) (fun r => ∃ (v11 : Int32) (m12 : MI), r = (.inl (some (vi v11)), G x m12) ∧ Cl X d 152 [vi v11] (G x m12) (fun r => ∃ (v13 : Int32) (m14 : MI), r = (.inl (some (vi v13)), G x m14) ∧ Cl X d 162 [vp 31 0, vi v9, vi v13] (G x m14) (fun r => ∃ (v15 : Int32) (m16 : MI), r = (.inl (some (vi v15)), G x m16) ∧ Q (.inl (some (vi v15)), G x m16))))))) ∧ (¬ (v4 ≤ 0) → Q (.inl (some (vi 0)), G x m5))))) ∧ (¬ (v1 < 0) → Cl X d 156 [vp 31 0, vi p1] (G x m2) (fun r => ∃ (v17 : Int32) (m18 : MI), r = (.inl (some (vi v17)), G x m18) ∧ ((v17 < 0 → Cl X d 196 [vp 31 0, vi 0] (G x m18) (fun r => ∃ (v20 : Int32) (m21 : MI), r = (.inl (some (vi v20)), G x m21) ∧ ((v20 ≤ 0 → Cl X d 156 [vp 31 0, vi p0] (G x m21) (fun r => ∃ (v23 : Int32) (m24 : MI), r = (.inl (some (vi v23)), G x m24) ∧ Cl X d 152 [vi v23] (G x m24) (fun r => ∃ (v25 : Int32) (m26 : MI), r = (.inl (some (vi v25)), G x m26) ∧ Cl X d 156 [vp 31 0, vi p1] (G x m26) (fun r => ∃ (v27 : Int32) (m28 : MI), r = (.inl (some (vi v27)), G x m28) ∧ Cl X d 152 [vi v27] (G x m28) (fun r => ∃ (v29 : Int32) (m30 : MI), r = (.inl (some (vi v29)), G x m30) ∧ Cl X d 162 [vp 31 0, vi v25, vi v29] (G x m30) (fun r => ∃ (v31 : Int32) (m32 : MI), r = (.inl (some (vi v31)), G x m32) ∧ Q (.inl (some (vi v31)), G x m32))))))) ∧ (¬ (v20 ≤ 0) → Q (.inl (some (vi 0)), G x m21))))) ∧ (¬ (v17 < 0) → Cl X d 196 [vp 31 0, vi 1] (G x m18) (fun r => ∃ (v33 : Int32) (m34 : MI), r = (.inl (some (vi v33)), G x m34) ∧ ((v33 ≤ 0 → Cl X d 156 [vp 31 0, vi p0] (G x m34) (fun r => ∃ (v36 : Int32) (m37 : MI), r = (.inl (some (vi v36)), G x m37) ∧ Cl X d 152 [vi v36] (G x m37) (fun r => ∃ (v38 : Int32) (m39 : MI), r = (.inl (some (vi v38)), G x m39) ∧ Cl X d 156 [vp 31 0, vi p1] (G x m39) (fun r => ∃ (v40 : Int32) (m41 : MI), r = (.inl (some (vi v40)), G x m41) ∧ Cl X d 152 [vi v40] (G x m41) (fun r => ∃ (v42 : Int32) (m43 : MI), r = (.inl (some (vi v42)), G x m43) ∧ Cl X d 162 [vp 31 0, vi v38, vi v42] (G x m43) (fun r => ∃ (v44 : Int32) (m45 : MI), r = (.inl (some (vi v44)), G x m45) ∧ Q (.inl (some (vi v44)), G x m45))))))) ∧ (¬ (v33 ≤ 0) → Q (.inl (some (vi 0)), G x m34))))))))))) : Cl X (d + 1) 217 [vp 31 0, vi p0, vi p1] (G x m) Q := by
  show Wp X (d + 1) 217 (0, ([some (vp 31 0), some (vi p0), some (vi p1)], ([], G x m))) Q
  refine wp_run 3 true (3, ([some (vp 31 0), some (vi p0), some (vi p1)], ([vi p0, vp 31 0, vp 31 0], G x m))) rfl rfl ?_
  refine wp_call 156 [vp 31 0, vi p0] (6, ([some (vp 31 0), some (vi p0), some (vi p1)], ([vp 31 0], G x m))) rfl rfl (Cl.mono h (Nat.le_refl _) ?_)
  rintro r ⟨v1, m2, rfl, h⟩
  · show Wp X (d + 1) 217 (6, ([some (vp 31 0), some (vi p0), some (vi p1)], ([vi v1, vp 31 0], G x m2))) Q
    refine wp_run 1 true ((bif decide (v1 < 0) then 21 else 9), ([some (vp 31 0), some (vi p0), some (vi p1)], ([vp 31 0], G x m2))) rfl rfl ?_
    refine wp_if (v1 < 0) (fun c3 => ?_) (fun c3 => ?_)
    · have h := h.1 c3
      refine wp_run 1 true (22, ([some (vp 31 0), some (vi p0), some (vi p1)], ([vi 0, vp 31 0], G x m2))) rfl rfl ?_
      refine wp_call 196 [vp 31 0, vi 0] (25, ([some (vp 31 0), some (vi p0), some (vi p1)], ([], G x m2))) rfl rfl (Cl.mono h (Nat.le_refl _) ?_)
      rintro r ⟨v4, m5, rfl, h⟩
      · show Wp X (d + 1) 217 (25, ([some (vp 31 0), some (vi p0), some (vi p1)], ([vi v4], G x m5))) Q
        refine wp_run 1 true ((bif decide (v4 ≤ 0) then 30 else 28), ([some (vp 31 0), some (vi p0), some (vi p1)], ([], G x m5))) rfl rfl ?_
        refine wp_if (v4 ≤ 0) (fun c6 => ?_) (fun c6 => ?_)
        · have h := h.1 c6
          refine wp_run 3 true (33, ([some (vp 31 0), some (vi p0), some (vi p1)], ([vi p0, vp 31 0, vp 31 0], G x m5))) rfl rfl ?_
          refine wp_call 156 [vp 31 0, vi p0] (36, ([some (vp 31 0), some (vi p0), some (vi p1)], ([vp 31 0], G x m5))) rfl rfl (Cl.mono h (Nat.le_refl _) ?_)
          rintro r ⟨v7, m8, rfl, h⟩
          · show Wp X (d + 1) 217 (36, ([some (vp 31 0), some (vi p0), some (vi p1)], ([vi v7, vp 31 0], G x m8))) Q
            refine wp_call 152 [vi v7] (39, ([some (vp 31 0), some (vi p0), some (vi p1)], ([vp 31 0], G x m8))) rfl rfl (Cl.mono h (Nat.le_refl _) ?_)
            rintro r ⟨v9, m10, rfl, h⟩
            · show Wp X (d + 1) 217 (39, ([some (vp 31 0), some (vi p0), some (vi p1)], ([vi v9, vp 31 0], G x m10))) Q
              refine wp_run 2 true (41, ([some (vp 31 0), some (vi p0), some (vi p1)], ([vi p1, vp 31 0, vi v9, vp 31 0], G x m10))) rfl rfl ?_
              refine wp_call 156 [vp 31 0, vi p1] (44, ([some (vp 31 0), some (vi p0), some (vi p1)], ([vi v9, vp 31 0], G x m10))) rfl rfl (Cl.mono h (Nat.le_refl _) ?_)
              rintro r ⟨v11, m12, rfl, h⟩
              · show Wp X (d + 1) 217 (44, ([some (vp 31 0), some (vi p0), some (vi p1)], ([vi v11, vi v9, vp 31 0], G x m12))) Q
                refine wp_call 152 [vi v11] (47, ([some (vp 31 0), some (vi p0), some (vi p1)], ([vi v9, vp 31 0], G x m12))) rfl rfl (Cl.mono h (Nat.le_refl _) ?_)
                rintro r ⟨v13, m14, rfl, h⟩
                · show Wp X (d + 1) 217 (47, ([some (vp 31 0), some (vi p0), some (vi p1)], ([vi v13, vi v9, vp 31 0], G x m14))) Q
                  refine wp_call 162 [vp 31 0, vi v9, vi v13] (50, ([some (vp 31 0), some (vi p0), some (vi p1)], ([], G x m14))) rfl rfl (Cl.mono h (Nat.le_refl _) ?_)
                  rintro r ⟨v15, m16, rfl, h⟩
                  · show Wp X (d + 1) 217 (50, ([some (vp 31 0), some (vi p0), some (vi p1)], ([vi v15], G x m16))) Q
                    exact wp_ret rfl h
        · have h := h.2 c6
          refine wp_run 1 true (29, ([some (vp 31 0), some (vi p0), some (vi p1)], ([vi 0], G x m5))) rfl rfl ?_
          exact wp_ret rfl h
    · have h := h.2 c3
      refine wp_run 2 true (11, ([some (vp 31 0), some (vi p0), some (vi p1)], ([vi p1, vp 31 0, vp 31 0], G x m2))) rfl rfl ?_
      refine wp_call 156 [vp 31 0, vi p1] (14, ([some (vp 31 0), some (vi p0), some (vi p1)], ([vp 31 0], G x m2))) rfl rfl (Cl.mono h (Nat.le_refl _) ?_)
      rintro r ⟨v17, m18, rfl, h⟩
      · show Wp X (d + 1) 217 (14, ([some (vp 31 0), some (vi p0), some (vi p1)], ([vi v17, vp 31 0], G x m18))) Q
        refine wp_run 1 true ((bif decide (v17 < 0) then 21 else 17), ([some (vp 31 0), some (vi p0), some (vi p1)], ([vp 31 0], G x m18))) rfl rfl ?_
        refine wp_if (v17 < 0) (fun c19 => ?_) (fun c19 => ?_)
        · have h := h.1 c19
          refine wp_run 1 true (22, ([some (vp 31 0), some (vi p0), some (vi p1)], ([vi 0, vp 31 0], G x m18))) rfl rfl ?_
          refine wp_call 196 [vp 31 0, vi 0] (25, ([some (vp 31 0), some (vi p0), some (vi p1)], ([], G x m18))) rfl rfl (Cl.mono h (Nat.le_refl _) ?_)
          rintro r ⟨v20, m21, rfl, h⟩
          · show Wp X (d + 1) 217 (25, ([some (vp 31 0), some (vi p0), some (vi p1)], ([vi v20], G x m21))) Q
            refine wp_run 1 true ((bif decide (v20 ≤ 0) then 30 else 28), ([some (vp 31 0), some (vi p0), some (vi p1)], ([], G x m21))) rfl rfl ?_
            refine wp_if (v20 ≤ 0) (fun c22 => ?_) (fun c22 => ?_)
            · have h := h.1 c22
              refine wp_run 3 true (33, ([some (vp 31 0), some (vi p0), some (vi p1)], ([vi p0, vp 31 0, vp 31 0], G x m21))) rfl rfl ?_
              refine wp_call 156 [vp 31 0, vi p0] (36, ([some (vp 31 0), some (vi p0), some (vi p1)], ([vp 31 0], G x m21))) rfl rfl (Cl.mono h (Nat.le_refl _) ?_)
              rintro r ⟨v23, m24, rfl, h⟩
              · show Wp X (d + 1) 217 (36, ([some (vp 31 0), some (vi p0), some (vi p1)], ([vi v23, vp 31 0], G x m24))) Q
                refine wp_call 152 [vi v23] (39, ([some (vp 31 0), some (vi p0), some (vi p1)], ([vp 31 0], G x m24))) rfl rfl (Cl.mono h (Nat.le_refl _) ?_)
                rintro r ⟨v25, m26, rfl, h⟩
                · show Wp X (d + 1) 217 (39, ([some (vp 31 0), some (vi p0), some (vi p1)], ([vi v25, vp 31 0], G x m26))) Q
                  refine wp_run 2 true (41, ([some (vp 31 0), some (vi p0), some (vi p1)], ([vi p1, vp 31 0, vi v25, vp 31 0], G x m26))) rfl rfl ?_
                  refine wp_call 156 [vp 31 0, vi p1] (44, ([some (vp 31 0), some (vi p0), some (vi p1)], ([vi v25, vp 31 0], G x m26))) rfl rfl (Cl.mono h (Nat.le_refl _) ?_)
                  rintro r ⟨v27, m28, rfl, h⟩
                  · show Wp X (d + 1) 217 (44, ([some (vp 31 0), some (vi p0), some (vi p1)], ([vi v27, vi v25, vp 31 0], G x m28))) Q
                    refine wp_call 152 [vi v27] (47, ([some (vp 31 0), some (vi p0), some (vi p1)], ([vi v25, vp 31 0], G x m28))) rfl rfl (Cl.mono h (Nat.le_refl _) ?_)
                    rintro r ⟨v29, m30, rfl, h⟩
                    · show Wp X (d + 1) 217 (47, ([some (vp 31 0), some (vi p0), some (vi p1)], ([vi v29, vi v25, vp 31 0], G x m30))) Q
                      refine wp_call 162 [vp 31 0, vi v25, vi v29] (50, ([some (vp 31 0), some (vi p0), some (vi p1)], ([], G x m30))) rfl rfl (Cl.mono h (Nat.le_refl _) ?_)
                      rintro r ⟨v31, m32, rfl, h⟩
                      · show Wp X (d + 1) 217 (50, ([some (vp 31 0), some (vi p0), some (vi p1)], ([vi v31], G x m32))) Q
                        exact wp_ret rfl h
            · have h := h.2 c22
              refine wp_run 1 true (29, ([some (vp 31 0), some (vi p0), some (vi p1)], ([vi 0], G x m21))) rfl rfl ?_
              exact wp_ret rfl h
        · have h := h.2 c19
          refine wp_run 2 true (22, ([some (vp 31 0), some (vi p0), some (vi p1)], ([vi 1, vp 31 0], G x m18))) rfl rfl ?_
          refine wp_call 196 [vp 31 0, vi 1] (25, ([some (vp 31 0), some (vi p0), some (vi p1)], ([], G x m18))) rfl rfl (Cl.mono h (Nat.le_refl _) ?_)
          rintro r ⟨v33, m34, rfl, h⟩
          · show Wp X (d + 1) 217 (25, ([some (vp 31 0), some (vi p0), some (vi p1)], ([vi v33], G x m34))) Q
            refine wp_run 1 true ((bif decide (v33 ≤ 0) then 30 else 28), ([some (vp 31 0), some (vi p0), some (vi p1)], ([], G x m34))) rfl rfl ?_
            refine wp_if (v33 ≤ 0) (fun c35 => ?_) (fun c35 => ?_)
            · have h := h.1 c35
              refine wp_run 3 true (33, ([some (vp 31 0), some (vi p0), some (vi p1)], ([vi p0, vp 31 0, vp 31 0], G x m34))) rfl rfl ?_
              refine wp_call 156 [vp 31 0, vi p0] (36, ([some (vp 31 0), some (vi p0), some (vi p1)], ([vp 31 0], G x m34))) rfl rfl (Cl.mono h (Nat.le_refl _) ?_)
              rintro r ⟨v36, m37, rfl, h⟩
              · show Wp X (d + 1) 217 (36, ([some (vp 31 0), some (vi p0), some (vi p1)], ([vi v36, vp 31 0], G x m37))) Q
                refine wp_call 152 [vi v36] (39, ([some (vp 31 0), some (vi p0), some (vi p1)], ([vp 31 0], G x m37))) rfl rfl (Cl.mono h (Nat.le_refl _) ?_)
                rintro r ⟨v38, m39, rfl, h⟩
                · show Wp X (d + 1) 217 (39, ([some (vp 31 0), some (vi p0), some (vi p1)], ([vi v38, vp 31 0], G x m39))) Q
                  refine wp_run 2 true (41, ([some (vp 31 0), some (vi p0), some (vi p1)], ([vi p1, vp 31 0, vi v38, vp 31 0], G x m39))) rfl rfl ?_
                  refine wp_call 156 [vp 31 0, vi p1] (44, ([some (vp 31 0), some (vi p0), some (vi p1)], ([vi v38, vp 31 0], G x m39))) rfl rfl (Cl.mono h (Nat.le_refl _) ?_)
                  rintro r ⟨v40, m41, rfl, h⟩
                  · show Wp X (d + 1) 217 (44, ([some (vp 31 0), some (vi p0), some (vi p1)], ([vi v40, vi v38, vp 31 0], G x m41))) Q
                    refine wp_call 152 [vi v40] (47, ([some (vp 31 0), some (vi p0), some (vi p1)], ([vi v38, vp 31 0], G x m41))) rfl rfl (Cl.mono h (Nat.le_refl _) ?_)
                    rintro r ⟨v42, m43, rfl, h⟩
                    · show Wp X (d + 1) 217 (47, ([some (vp 31 0), some (vi p0), some (vi p1)], ([vi v42, vi v38, vp 31 0], G x m43))) Q
                      refine wp_call 162 [vp 31 0, vi v38, vi v42] (50, ([some (vp 31 0), some (vi p0), some (vi p1)], ([], G x m43))) rfl rfl (Cl.mono h (Nat.le_refl _) ?_)
                      rintro r ⟨v44, m45, rfl, h⟩
                      · show Wp X (d + 1) 217 (50, ([some (vp 31 0), some (vi p0), some (vi p1)], ([vi v44], G x m45))) Q
                        exact wp_ret rfl h
            · have h := h.2 c35
              refine wp_run 1 true (29, ([some (vp 31 0), some (vi p0), some (vi p1)], ([vi 0], G x m34))) rfl rfl ?_
              exact wp_ret rfl h
set_option maxRecDepth 100000 in
set_option maxHeartbeats 4000000 in
theorem vc_X11_near {X : MX} {d : Nat} {x : Int64 × UInt64} {m : MI} {Q : MRes → Prop} {p0 : Int32} {p1 : Int32} {p2 : Int32} (h : Cl X d 166 [vi p0, vi p1, vi p2] (G x m) (fun r => ∃ (v1 : Int32) (m2 : MI), r = (.inl (some (vi v1)), G x m2) ∧ ((¬ v1 = 0 → ((¬ (m2 32 0 0) = 0 → (∀ m5 : MI, m5 = mup m2 31 0 5 0 → (((m5 31 0 5) ≤ 0 → Wp X (d + 1) 218 (50, ([some (vp 31 0), some (vi p0), some (vi p1), some (vi p2), some (vi (-1)), some (vi 1000000000), some (vi 0), none], ([], G x m5))) Q) ∧ (¬ ((m5 31 0 5) ≤ 0) → Q (.inl (some (vi 0)), G x m5))))) ∧ (¬ (¬ (m2 32 0 0) = 0) → (∀ m7 : MI, m7 = mup m2 31 0 5 2 → (((m7 31 0 5) ≤ 0 → Wp X (d + 1) 218 (50, ([some (vp 31 0), some (vi p0), some (vi p1), some (vi p2), some (vi (-1)), some (vi 1000000000), some (vi 0), none], ([], G x m7))) Q) ∧ (¬ ((m7 31 0 5) ≤ 0) → Q (.inl (some (vi 0)), G x m7))))))) ∧ (¬ (¬ v1 = 0) → (∀ m9 : MI, m9 = mup m2 31 0 5 1 → (((m9 31 0 5) ≤ 0 → Wp X (d + 1) 218 (50, ([some (vp 31 0), some (vi p0), some (vi p1), some (vi p2), some (vi (-1)), some (vi 1000000000), some (vi 0), none], ([], G x m9))) Q) ∧ (¬ ((m9 31 0 5) ≤ 0) → Q (.inl (some (vi 0)), G x m9)))))))) : Cl X (d + 1) 218 [vp 31 0, vi p0, vi p1, vi p2] (G x m) Q := by
  show Wp X (d + 1) 218 (0, ([some (vp 31 0), some (vi p0), some (vi p1), some (vi p2), none, none, none, none], ([], G x m))) Q
  refine wp_run 4 true (4, ([some (vp 31 0), some (vi p0), some (vi p1), some (vi p2), none, none, none, none], ([vi p2, vi p1, vi p0, vp 31 0], G x m))) rfl rfl ?_
  refine wp_call 166 [vi p0, vi p1, vi p2] (7, ([some (vp 31 0), some (vi p0), some (vi p1), some (vi p2), none, none, none, none], ([vp 31 0], G x m))) rfl rfl (Cl.mono h (Nat.le_refl _) ?_)
  rintro r ⟨v1, m2, rfl, h⟩
  · show Wp X (d + 1) 218 (7, ([some (vp 31 0), some (vi p0), some (vi p1), some (vi p2), none, none, none, none], ([vi v1, vp 31 0], G x m2))) Q
    refine wp_run 1 true ((bif decide (¬ v1 = 0) then 14 else 10), ([some (vp 31 0), some (vi p0), some (vi p1), some (vi p2), none, none, none, none], ([vp 31 0], G x m2))) rfl rfl ?_
    refine wp_if (¬ v1 = 0) (fun c3 => ?_) (fun c3 => ?_)
    · have h := h.1 c3
      refine wp_run 5 true ((bif decide (¬ (m2 32 0 0) = 0) then 27 else 23), ([some (vp 31 0), some (vi p0), some (vi p1), some (vi p2), none, none, none, none], ([vp 31 0], G x m2))) rfl rfl ?_
      refine wp_if (¬ (m2 32 0 0) = 0) (fun c4 => ?_) (fun c4 => ?_)
      · have h := h.1 c4
        refine wp_run 2 true (31, ([some (vp 31 0), some (vi p0), some (vi p1), some (vi p2), none, none, none, none], ([], G x (mup m2 31 0 5 0)))) rfl rfl ?_
        refine wpg (fun m5 => Wp X (d + 1) 218 (31, ([some (vp 31 0), some (vi p0), some (vi p1), some (vi p2), none, none, none, none], ([], G x m5))) Q) (mup m2 31 0 5 0) (fun m5 hm5 => ?_)
        have h := h m5 hm5
        refine wp_run 3 true ((bif decide ((m5 31 0 5) ≤ 0) then 40 else 38), ([some (vp 31 0), some (vi p0), some (vi p1), some (vi p2), none, none, none, none], ([], G x m5))) rfl rfl ?_
        refine wp_if ((m5 31 0 5) ≤ 0) (fun c6 => ?_) (fun c6 => ?_)
        · have h := h.1 c6
          refine wp_run 6 true (50, ([some (vp 31 0), some (vi p0), some (vi p1), some (vi p2), some (vi (-1)), some (vi 1000000000), some (vi 0), none], ([], G x m5))) rfl rfl ?_
          exact h
        · have h := h.2 c6
          refine wp_run 1 true (39, ([some (vp 31 0), some (vi p0), some (vi p1), some (vi p2), none, none, none, none], ([vi 0], G x m5))) rfl rfl ?_
          exact wp_ret rfl h
      · have h := h.2 c4
        refine wp_run 3 true (31, ([some (vp 31 0), some (vi p0), some (vi p1), some (vi p2), none, none, none, none], ([], G x (mup m2 31 0 5 2)))) rfl rfl ?_
        refine wpg (fun m7 => Wp X (d + 1) 218 (31, ([some (vp 31 0), some (vi p0), some (vi p1), some (vi p2), none, none, none, none], ([], G x m7))) Q) (mup m2 31 0 5 2) (fun m7 hm7 => ?_)
        have h := h m7 hm7
        refine wp_run 3 true ((bif decide ((m7 31 0 5) ≤ 0) then 40 else 38), ([some (vp 31 0), some (vi p0), some (vi p1), some (vi p2), none, none, none, none], ([], G x m7))) rfl rfl ?_
        refine wp_if ((m7 31 0 5) ≤ 0) (fun c8 => ?_) (fun c8 => ?_)
        · have h := h.1 c8
          refine wp_run 6 true (50, ([some (vp 31 0), some (vi p0), some (vi p1), some (vi p2), some (vi (-1)), some (vi 1000000000), some (vi 0), none], ([], G x m7))) rfl rfl ?_
          exact h
        · have h := h.2 c8
          refine wp_run 1 true (39, ([some (vp 31 0), some (vi p0), some (vi p1), some (vi p2), none, none, none, none], ([vi 0], G x m7))) rfl rfl ?_
          exact wp_ret rfl h
    · have h := h.2 c3
      refine wp_run 3 true (31, ([some (vp 31 0), some (vi p0), some (vi p1), some (vi p2), none, none, none, none], ([], G x (mup m2 31 0 5 1)))) rfl rfl ?_
      refine wpg (fun m9 => Wp X (d + 1) 218 (31, ([some (vp 31 0), some (vi p0), some (vi p1), some (vi p2), none, none, none, none], ([], G x m9))) Q) (mup m2 31 0 5 1) (fun m9 hm9 => ?_)
      have h := h m9 hm9
      refine wp_run 3 true ((bif decide ((m9 31 0 5) ≤ 0) then 40 else 38), ([some (vp 31 0), some (vi p0), some (vi p1), some (vi p2), none, none, none, none], ([], G x m9))) rfl rfl ?_
      refine wp_if ((m9 31 0 5) ≤ 0) (fun c10 => ?_) (fun c10 => ?_)
      · have h := h.1 c10
        refine wp_run 6 true (50, ([some (vp 31 0), some (vi p0), some (vi p1), some (vi p2), some (vi (-1)), some (vi 1000000000), some (vi 0), none], ([], G x m9))) rfl rfl ?_
        exact h
      · have h := h.2 c10
        refine wp_run 1 true (39, ([some (vp 31 0), some (vi p0), some (vi p1), some (vi p2), none, none, none, none], ([vi 0], G x m9))) rfl rfl ?_
        exact wp_ret rfl h
set_option maxRecDepth 100000 in
set_option maxHeartbeats 4000000 in
theorem vl_X11_near_50 {X : MX} {d : Nat} {x : Int64 × UInt64} {m : MI} {Q : MRes → Prop} {l1 : Int32} {l2 : Int32} {l3 : Int32} {l4 : Int32} {l5 : Int32} {l6 : Int32} {o7 : Option MV} (h : (((m 32 0 0) ≤ l6 → Cl X d 154 [vp 31 0, vi l4, vi 0] (G x m) (fun r => ∃ (v2 : Int32) (m3 : MI), r = (.inl (some (vi v2)), G x m3) ∧ Q (.inl (some (vi v2)), G x m3))) ∧ (¬ ((m 32 0 0) ≤ l6) → Cl X d 219 [vp 31 0, vi l6, vi l1, vi l2, vi l3] (G x m) (fun r => ∃ (v4 : Int32) (m5 : MI), r = (.inl (some (vi v4)), G x m5) ∧ ((v4 < l5 → (∀ t7 : Int32, t7 = l6 + 1 → Wp X (d + 1) 218 (50, ([some (vp 31 0), some (vi l1), some (vi l2), some (vi l3), some (vi l6), some (vi v4), some (vi t7), some (vi v4)], ([], G x m5))) Q)) ∧ (¬ (v4 < l5) → (∀ t8 : Int32, t8 = l6 + 1 → Wp X (d + 1) 218 (50, ([some (vp 31 0), some (vi l1), some (vi l2), some (vi l3), some (vi l4), some (vi l5), some (vi t8), some (vi v4)], ([], G x m5))) Q))))))) : Wp X (d + 1) 218 (50, ([some (vp 31 0), some (vi l1), some (vi l2), some (vi l3), some (vi l4), some (vi l5), some (vi l6), o7], ([], G x m))) Q := by
  refine wp_run 6 true ((bif decide ((m 32 0 0) ≤ l6) then 96 else 61), ([some (vp 31 0), some (vi l1), some (vi l2), some (vi l3), some (vi l4), some (vi l5), some (vi l6), o7], ([], G x m))) rfl rfl ?_
  refine wp_if ((m 32 0 0) ≤ l6) (fun c1 => ?_) (fun c1 => ?_)
  · have h := h.1 c1
    refine wp_run 3 true (100, ([some (vp 31 0), some (vi l1), some (vi l2), some (vi l3), some (vi l4), some (vi l5), some (vi l6), o7], ([vi 0, vi l4, vp 31 0], G x m))) rfl rfl ?_
    refine wp_call 154 [vp 31 0, vi l4, vi 0] (103, ([some (vp 31 0), some (vi l1), some (vi l2), some (vi l3), some (vi l4), some (vi l5), some (vi l6), o7], ([], G x m))) rfl rfl (Cl.mono h (Nat.le_refl _) ?_)
    rintro r ⟨v2, m3, rfl, h⟩
    · show Wp X (d + 1) 218 (103, ([some (vp 31 0), some (vi l1), some (vi l2), some (vi l3), some (vi l4), some (vi l5), some (vi l6), o7], ([vi v2], G x m3))) Q
      exact wp_ret rfl h
  · have h := h.2 c1
    refine wp_run 5 true (67, ([some (vp 31 0), some (vi l1), some (vi l2), some (vi l3), some (vi l4), some (vi l5), some (vi l6), o7], ([vi l3, vi l2, vi l1, vi l6, vp 31 0], G x m))) rfl rfl ?_
    refine wp_call 219 [vp 31 0, vi l6, vi l1, vi l2, vi l3] (70, ([some (vp 31 0), some (vi l1), some (vi l2), some (vi l3), some (vi l4), some (vi l5), some (vi l6), o7], ([], G x m))) rfl rfl (Cl.mono h (Nat.le_refl _) ?_)
    rintro r ⟨v4, m5, rfl, h⟩
    · show Wp X (d + 1) 218 (70, ([some (vp 31 0), some (vi l1), some (vi l2), some (vi l3), some (vi l4), some (vi l5), some (vi l6), o7], ([vi v4], G x m5))) Q
      refine wp_run 4 true ((bif decide (v4 < l5) then 82 else 79), ([some (vp 31 0), some (vi l1), some (vi l2), some (vi l3), some (vi l4), some (vi l5), some (vi l6), some (vi v4)], ([], G x m5))) rfl rfl ?_
      refine wp_if (v4 < l5) (fun c6 => ?_) (fun c6 => ?_)
      · have h := h.1 c6
        refine wp_run 5 true (93, ([some (vp 31 0), some (vi l1), some (vi l2), some (vi l3), some (vi l6), some (vi v4), some (vi (l6 + 1)), some (vi v4)], ([], G x m5))) rfl rfl ?_
        refine wpg (fun t7 => Wp X (d + 1) 218 (93, ([some (vp 31 0), some (vi l1), some (vi l2), some (vi l3), some (vi l6), some (vi v4), some (vi t7), some (vi v4)], ([], G x m5))) Q) (l6 + 1) (fun t7 ht7 => ?_)
        have h := h t7 ht7
        refine wp_run 1 true (50, ([some (vp 31 0), some (vi l1), some (vi l2), some (vi l3), some (vi l6), some (vi v4), some (vi t7), some (vi v4)], ([], G x m5))) rfl rfl ?_
        exact h
      · have h := h.2 c6
        refine wp_run 2 true (93, ([some (vp 31 0), some (vi l1), some (vi l2), some (vi l3), some (vi l4), some (vi l5), some (vi (l6 + 1)), some (vi v4)], ([], G x m5))) rfl rfl ?_
        refine wpg (fun t8 => Wp X (d + 1) 218 (93, ([some (vp 31 0), some (vi l1), some (vi l2), some (vi l3), some (vi l4), some (vi l5), some (vi t8), some (vi v4)], ([], G x m5))) Q) (l6 + 1) (fun t8 ht8 => ?_)
        have h := h t8 ht8
        refine wp_run 1 true (50, ([some (vp 31 0), some (vi l1), some (vi l2), some (vi l3), some (vi l4), some (vi l5), some (vi t8), some (vi v4)], ([], G x m5))) rfl rfl ?_
        exact h
set_option maxRecDepth 100000 in
set_option maxHeartbeats 4000000 in
theorem vc_X11_farFrom {X : MX} {d : Nat} {x : Int64 × UInt64} {m : MI} {Q : MRes → Prop} {p0 : Int32} {p1 : Int32} {p2 : Int32} {p3 : Int32} (h : Cl X d 154 [vp 31 0, vi p0, vi 1] (G x m) (fun r => ∃ (v1 : Int32) (m2 : MI), r = (.inl (some (vi v1)), G x m2) ∧ Cl X d 161 [vi (v1 - p1)] (G x m2) (fun r => ∃ (v3 : Int32) (m4 : MI), r = (.inl (some (vi v3)), G x m4) ∧ Cl X d 154 [vp 31 0, vi p0, vi 2] (G x m4) (fun r => ∃ (v5 : Int32) (m6 : MI), r = (.inl (some (vi v5)), G x m6) ∧ Cl X d 161 [vi (v5 - p2)] (G x m6) (fun r => ∃ (v7 : Int32) (m8 : MI), r = (.inl (some (vi v7)), G x m8) ∧ Cl X d 154 [vp 31 0, vi p0, vi 3] (G x m8) (fun r => ∃ (v9 : Int32) (m10 : MI), r = (.inl (some (vi v9)), G x m10) ∧ Cl X d 161 [vi (v9 - p3)] (G x m10) (fun r => ∃ (v11 : Int32) (m12 : MI), r = (.inl (some (vi v11)), G x m12) ∧ ((¬ (m12 32 0 5) = 109 → ((¬ (m12 32 0 5) = 115 → ((v3 < v7 → ((v7 < v11 → Q (.inl (some (vi v11)), G x m12)) ∧ (¬ (v7 < v11) → Q (.inl (some (vi v7)), G x m12)))) ∧ (¬ (v3 < v7) → ((v3 < v11 → ((v7 < v11 → Q (.inl (some (vi v11)), G x m12)) ∧ (¬ (v7 < v11) → Q (.inl (some (vi v7)), G x m12)))) ∧ (¬ (v3 < v11) → Q (.inl (some (vi v3)), G x m12)))))) ∧ (¬ (¬ (m12 32 0 5) = 115) → Q (.inl (some (vi (((v3 * v3) + (v7 * v7)) + (v11 * v11)))), G x m12)))) ∧ (¬ (¬ (m12 32 0 5) = 109) → Q (.inl (some (vi ((v3 + v7) + v11))), G x m12)))))))))) : Cl X (d + 1) 219 [vp 31 0, vi p0, vi p1, vi p2, vi p3] (G x m) Q := by
  show Wp X (d + 1) 219 (0, ([some (vp 31 0), some (vi p0), some (vi p1), some (vi p2), some (vi p3), none, none, none], ([], G x m))) Q
  refine wp_run 3 true (3, ([some (vp 31 0), some (vi p0), some (vi p1), some (vi p2), some (vi p3), none, none, none], ([vi 1, vi p0, vp 31 0], G x m))) rfl rfl ?_
  refine wp_call 154 [vp 31 0, vi p0, vi 1] (6, ([some (vp 31 0), some (vi p0), some (vi p1), some (vi p2), some (vi p3), none, none, none], ([], G x m))) rfl rfl (Cl.mono h (Nat.le_refl _) ?_)
  rintro r ⟨v1, m2, rfl, h⟩
  · show Wp X (d + 1) 219 (6, ([some (vp 31 0), some (vi p0), some (vi p1), some (vi p2), some (vi p3), none, none, none], ([vi v1], G x m2))) Q
    refine wp_run 2 true (8, ([some (vp 31 0), some (vi p0), some (vi p1), some (vi p2), some (vi p3), none, none, none], ([vi (v1 - p1)], G x m2))) rfl rfl ?_
    refine wp_call 161 [vi (v1 - p1)] (11, ([some (vp 31 0), some (vi p0), some (vi p1), some (vi p2), some (vi p3), none, none, none], ([], G x m2))) rfl rfl (Cl.mono h (Nat.le_refl _) ?_)
    rintro r ⟨v3, m4, rfl, h⟩
    · show Wp X (d + 1) 219 (11, ([some (vp 31 0), some (vi p0), some (vi p1), some (vi p2), some (vi p3), none, none, none], ([vi v3], G x m4))) Q
      refine wp_run 4 true (16, ([some (vp 31 0), some (vi p0), some (vi p1), some (vi p2), some (vi p3), some (vi v3), none, none], ([vi 2, vi p0, vp 31 0], G x m4))) rfl rfl ?_
      refine wp_call 154 [vp 31 0, vi p0, vi 2] (19, ([some (vp 31 0), some (vi p0), some (vi p1), some (vi p2), some (vi p3), some (vi v3), none, none], ([], G x m4))) rfl rfl (Cl.mono h (Nat.le_refl _) ?_)
      rintro r ⟨v5, m6, rfl, h⟩
      · show Wp X (d + 1) 219 (19, ([some (vp 31 0), some (vi p0), some (vi p1), some (vi p2), some (vi p3), some (vi v3), none, none], ([vi v5], G x m6))) Q
        refine wp_run 2 true (21, ([some (vp 31 0), some (vi p0), some (vi p1), some (vi p2), some (vi p3), some (vi v3), none, none], ([vi (v5 - p2)], G x m6))) rfl rfl ?_
        refine wp_call 161 [vi (v5 - p2)] (24, ([some (vp 31 0), some (vi p0), some (vi p1), some (vi p2), some (vi p3), some (vi v3), none, none], ([], G x m6))) rfl rfl (Cl.mono h (Nat.le_refl _) ?_)
        rintro r ⟨v7, m8, rfl, h⟩
        · show Wp X (d + 1) 219 (24, ([some (vp 31 0), some (vi p0), some (vi p1), some (vi p2), some (vi p3), some (vi v3), none, none], ([vi v7], G x m8))) Q
          refine wp_run 4 true (29, ([some (vp 31 0), some (vi p0), some (vi p1), some (vi p2), some (vi p3), some (vi v3), some (vi v7), none], ([vi 3, vi p0, vp 31 0], G x m8))) rfl rfl ?_
          refine wp_call 154 [vp 31 0, vi p0, vi 3] (32, ([some (vp 31 0), some (vi p0), some (vi p1), some (vi p2), some (vi p3), some (vi v3), some (vi v7), none], ([], G x m8))) rfl rfl (Cl.mono h (Nat.le_refl _) ?_)
          rintro r ⟨v9, m10, rfl, h⟩
          · show Wp X (d + 1) 219 (32, ([some (vp 31 0), some (vi p0), some (vi p1), some (vi p2), some (vi p3), some (vi v3), some (vi v7), none], ([vi v9], G x m10))) Q
            refine wp_run 2 true (35, ([some (vp 31 0), some (vi p0), some (vi p1), some (vi p2), some (vi p3), some (vi v3), some (vi v7), none], ([vi (v9 - p3)], G x m10))) rfl rfl ?_
            refine wp_call 161 [vi (v9 - p3)] (38, ([some (vp 31 0), some (vi p0), some (vi p1), some (vi p2), some (vi p3), some (vi v3), some (vi v7), none], ([], G x m10))) rfl rfl (Cl.mono h (Nat.le_refl _) ?_)
            rintro r ⟨v11, m12, rfl, h⟩
            · show Wp X (d + 1) 219 (38, ([some (vp 31 0), some (vi p0), some (vi p1), some (vi p2), some (vi p3), some (vi v3), some (vi v7), none], ([vi v11], G x m12))) Q
              refine wp_run 7 true ((bif decide (¬ (m12 32 0 5) = 109) then 60 else 51), ([some (vp 31 0), some (vi p0), some (vi p1), some (vi p2), some (vi p3), some (vi v3), some (vi v7), some (vi v11)], ([], G x m12))) rfl rfl ?_
              refine wp_if (¬ (m12 32 0 5) = 109) (fun c13 => ?_) (fun c13 => ?_)
              · have h := h.1 c13
                refine wp_run 6 true ((bif decide (¬ (m12 32 0 5) = 115) then 89 else 71), ([some (vp 31 0), some (vi p0), some (vi p1), some (vi p2), some (vi p3), some (vi v3), some (vi v7), some (vi v11)], ([], G x m12))) rfl rfl ?_
                refine wp_if (¬ (m12 32 0 5) = 115) (fun c14 => ?_) (fun c14 => ?_)
                · have h := h.1 c14
                  refine wp_run 3 true ((bif decide (v3 < v7) then 108 else 96), ([some (vp 31 0), some (vi p0), some (vi p1), some (vi p2), some (vi p3), some (vi v3), some (vi v7), some (vi v11)], ([], G x m12))) rfl rfl ?_
                  refine wp_if (v3 < v7) (fun c15 => ?_) (fun c15 => ?_)
                  · have h := h.1 c15
                    refine wp_run 3 true ((bif decide (v7 < v11) then 120 else 115), ([some (vp 31 0), some (vi p0), some (vi p1), some (vi p2), some (vi p3), some (vi v3), some (vi v7), some (vi v11)], ([], G x m12))) rfl rfl ?_
                    refine wp_if (v7 < v11) (fun c16 => ?_) (fun c16 => ?_)
                    · have h := h.1 c16
                      refine wp_run 1 true (122, ([some (vp 31 0), some (vi p0), some (vi p1), some (vi p2), some (vi p3), some (vi v3), some (vi v7), some (vi v11)], ([vi v11], G x m12))) rfl rfl ?_
                      exact wp_ret rfl h
                    · have h := h.2 c16
                      refine wp_run 2 true (122, ([some (vp 31 0), some (vi p0), some (vi p1), some (vi p2), some (vi p3), some (vi v3), some (vi v7), some (vi v11)], ([vi v7], G x m12))) rfl rfl ?_
                      exact wp_ret rfl h
                  · have h := h.2 c15
                    refine wp_run 3 true ((bif decide (v3 < v11) then 108 else 103), ([some (vp 31 0), some (vi p0), some (vi p1), some (vi p2), some (vi p3), some (vi v3), some (vi v7), some (vi v11)], ([], G x m12))) rfl rfl ?_
                    refine wp_if (v3 < v11) (fun c17 => ?_) (fun c17 => ?_)
                    · have h := h.1 c17
                      refine wp_run 3 true ((bif decide (v7 < v11) then 120 else 115), ([some (vp 31 0), some (vi p0), some (vi p1), some (vi p2), some (vi p3), some (vi v3), some (vi v7), some (vi v11)], ([], G x m12))) rfl rfl ?_
                      refine wp_if (v7 < v11) (fun c18 => ?_) (fun c18 => ?_)
                      · have h := h.1 c18
                        refine wp_run 1 true (122, ([some (vp 31 0), some (vi p0), some (vi p1), some (vi p2), some (vi p3), some (vi v3), some (vi v7), some (vi v11)], ([vi v11], G x m12))) rfl rfl ?_
                        exact wp_ret rfl h
                      · have h := h.2 c18
                        refine wp_run 2 true (122, ([some (vp 31 0), some (vi p0), some (vi p1), some (vi p2), some (vi p3), some (vi v3), some (vi v7), some (vi v11)], ([vi v7], G x m12))) rfl rfl ?_
                        exact wp_ret rfl h
                    · have h := h.2 c17
                      refine wp_run 2 true (122, ([some (vp 31 0), some (vi p0), some (vi p1), some (vi p2), some (vi p3), some (vi v3), some (vi v7), some (vi v11)], ([vi v3], G x m12))) rfl rfl ?_
                      exact wp_ret rfl h
                · have h := h.2 c14
                  refine wp_run 11 true (88, ([some (vp 31 0), some (vi p0), some (vi p1), some (vi p2), some (vi p3), some (vi v3), some (vi v7), some (vi v11)], ([vi (((v3 * v3) + (v7 * v7)) + (v11 * v11))], G x m12))) rfl rfl ?_
                  exact wp_ret rfl h
              · have h := h.2 c13
                refine wp_run 5 true (59, ([some (vp 31 0), some (vi p0), some (vi p1), some (vi p2), some (vi p3), some (vi v3), some (vi v7), some (vi v11)], ([vi ((v3 + v7) + v11)], G x m12))) rfl rfl ?_
                exact wp_ret rfl h
set_option maxRecDepth 100000 in
set_option maxHeartbeats 4000000 in
theorem vc_X11_nearest {X : MX} {d : Nat} {x : Int64 × UInt64} {m : MI} {Q : MRes → Prop} {p0 : Int32} {p1 : Int32} {p2 : Int32} (h : Cl X d 218 [vp 31 0, vi p0, vi p1, vi p2] (G x m) (fun r => ∃ (v1 : Int32) (m2 : MI), r = (.inl (some (vi v1)), G x m2) ∧ Q (.inl (some (vi v1)), G x m2))) : Cl X (d + 1) 220 [vp 31 0, vi p0, vi p1, vi p2] (G x m) Q := by
  show Wp X (d + 1) 220 (0, ([some (vp 31 0), some (vi p0), some (vi p1), some (vi p2)], ([], G x m))) Q
  refine wp_run 4 true (4, ([some (vp 31 0), some (vi p0), some (vi p1), some (vi p2)], ([vi p2, vi p1, vi p0, vp 31 0], G x m))) rfl rfl ?_
  refine wp_call 218 [vp 31 0, vi p0, vi p1, vi p2] (7, ([some (vp 31 0), some (vi p0), some (vi p1), some (vi p2)], ([], G x m))) rfl rfl (Cl.mono h (Nat.le_refl _) ?_)
  rintro r ⟨v1, m2, rfl, h⟩
  · show Wp X (d + 1) 220 (7, ([some (vp 31 0), some (vi p0), some (vi p1), some (vi p2)], ([vi v1], G x m2))) Q
    exact wp_ret rfl h
set_option maxRecDepth 100000 in
set_option maxHeartbeats 4000000 in
theorem vc_X11_nearestByLooking {X : MX} {d : Nat} {x : Int64 × UInt64} {m : MI} {Q : MRes → Prop} {p0 : Int32} {p1 : Int32} {p2 : Int32} (h : Cl X d 218 [vp 31 0, vi p0, vi p1, vi p2] (G x m) (fun r => ∃ (v1 : Int32) (m2 : MI), r = (.inl (some (vi v1)), G x m2) ∧ Q (.inl (some (vi v1)), G x m2))) : Cl X (d + 1) 221 [vp 31 0, vi p0, vi p1, vi p2] (G x m) Q := by
  show Wp X (d + 1) 221 (0, ([some (vp 31 0), some (vi p0), some (vi p1), some (vi p2)], ([], G x m))) Q
  refine wp_run 4 true (4, ([some (vp 31 0), some (vi p0), some (vi p1), some (vi p2)], ([vi p2, vi p1, vi p0, vp 31 0], G x m))) rfl rfl ?_
  refine wp_call 218 [vp 31 0, vi p0, vi p1, vi p2] (7, ([some (vp 31 0), some (vi p0), some (vi p1), some (vi p2)], ([], G x m))) rfl rfl (Cl.mono h (Nat.le_refl _) ?_)
  rintro r ⟨v1, m2, rfl, h⟩
  · show Wp X (d + 1) 221 (7, ([some (vp 31 0), some (vi p0), some (vi p1), some (vi p2)], ([vi v1], G x m2))) Q
    exact wp_ret rfl h
set_option maxRecDepth 100000 in
set_option maxHeartbeats 4000000 in
theorem vc_X11_closest {X : MX} {d : Nat} {x : Int64 × UInt64} {m : MI} {Q : MRes → Prop} (h : (((m 32 0 0) ≤ 1 → Cl X d 196 [vp 31 0, vi 0] (G x m) (fun r => ∃ (v2 : Int32) (m3 : MI), r = (.inl (some (vi v2)), G x m3) ∧ ((v2 ≤ 0 → Wp X (d + 1) 222 (29, ([some (vp 31 0), some (vi 1000000000), some (vi 0), none], ([], G x m3))) Q) ∧ (¬ (v2 ≤ 0) → Q (.inl (some (vi 0)), G x m3))))) ∧ (¬ ((m 32 0 0) ≤ 1) → Cl X d 196 [vp 31 0, vi 1] (G x m) (fun r => ∃ (v5 : Int32) (m6 : MI), r = (.inl (some (vi v5)), G x m6) ∧ ((v5 ≤ 0 → Wp X (d + 1) 222 (29, ([some (vp 31 0), some (vi 1000000000), some (vi 0), none], ([], G x m6))) Q) ∧ (¬ (v5 ≤ 0) → Q (.inl (some (vi 0)), G x m6))))))) : Cl X (d + 1) 222 [vp 31 0] (G x m) Q := by
  show Wp X (d + 1) 222 (0, ([some (vp 31 0), none, none, none], ([], G x m))) Q
  refine wp_run 7 true ((bif decide ((m 32 0 0) ≤ 1) then 15 else 11), ([some (vp 31 0), none, none, none], ([vp 31 0], G x m))) rfl rfl ?_
  refine wp_if ((m 32 0 0) ≤ 1) (fun c1 => ?_) (fun c1 => ?_)
  · have h := h.1 c1
    refine wp_run 1 true (16, ([some (vp 31 0), none, none, none], ([vi 0, vp 31 0], G x m))) rfl rfl ?_
    refine wp_call 196 [vp 31 0, vi 0] (19, ([some (vp 31 0), none, none, none], ([], G x m))) rfl rfl (Cl.mono h (Nat.le_refl _) ?_)
    rintro r ⟨v2, m3, rfl, h⟩
    · show Wp X (d + 1) 222 (19, ([some (vp 31 0), none, none, none], ([vi v2], G x m3))) Q
      refine wp_run 1 true ((bif decide (v2 ≤ 0) then 24 else 22), ([some (vp 31 0), none, none, none], ([], G x m3))) rfl rfl ?_
      refine wp_if (v2 ≤ 0) (fun c4 => ?_) (fun c4 => ?_)
      · have h := h.1 c4
        refine wp_run 4 true (29, ([some (vp 31 0), some (vi 1000000000), some (vi 0), none], ([], G x m3))) rfl rfl ?_
        exact h
      · have h := h.2 c4
        refine wp_run 1 true (23, ([some (vp 31 0), none, none, none], ([vi 0], G x m3))) rfl rfl ?_
        exact wp_ret rfl h
  · have h := h.2 c1
    refine wp_run 2 true (16, ([some (vp 31 0), none, none, none], ([vi 1, vp 31 0], G x m))) rfl rfl ?_
    refine wp_call 196 [vp 31 0, vi 1] (19, ([some (vp 31 0), none, none, none], ([], G x m))) rfl rfl (Cl.mono h (Nat.le_refl _) ?_)
    rintro r ⟨v5, m6, rfl, h⟩
    · show Wp X (d + 1) 222 (19, ([some (vp 31 0), none, none, none], ([vi v5], G x m6))) Q
      refine wp_run 1 true ((bif decide (v5 ≤ 0) then 24 else 22), ([some (vp 31 0), none, none, none], ([], G x m6))) rfl rfl ?_
      refine wp_if (v5 ≤ 0) (fun c7 => ?_) (fun c7 => ?_)
      · have h := h.1 c7
        refine wp_run 4 true (29, ([some (vp 31 0), some (vi 1000000000), some (vi 0), none], ([], G x m6))) rfl rfl ?_
        exact h
      · have h := h.2 c7
        refine wp_run 1 true (23, ([some (vp 31 0), none, none, none], ([vi 0], G x m6))) rfl rfl ?_
        exact wp_ret rfl h
set_option maxRecDepth 100000 in
set_option maxHeartbeats 4000000 in
theorem vl_X11_closest_29 {X : MX} {d : Nat} {x : Int64 × UInt64} {m : MI} {Q : MRes → Prop} {l1 : Int32} {l2 : Int32} {o3 : Option MV} (h : (((m 32 0 0) ≤ l2 → Q (.inl (some (vi l1)), G x m)) ∧ (¬ ((m 32 0 0) ≤ l2) → Wp X (d + 1) 222 (41, ([some (vp 31 0), some (vi l1), some (vi l2), some (vi 0)], ([], G x m))) Q))) : Wp X (d + 1) 222 (29, ([some (vp 31 0), some (vi l1), some (vi l2), o3], ([], G x m))) Q := by
  refine wp_run 6 true ((bif decide ((m 32 0 0) ≤ l2) then 91 else 39), ([some (vp 31 0), some (vi l1), some (vi l2), o3], ([], G x m))) rfl rfl ?_
  refine wp_if ((m 32 0 0) ≤ l2) (fun c1 => ?_) (fun c1 => ?_)
  · have h := h.1 c1
    refine wp_run 1 true (92, ([some (vp 31 0), some (vi l1), some (vi l2), o3], ([vi l1], G x m))) rfl rfl ?_
    exact wp_ret rfl h
  · have h := h.2 c1
    refine wp_run 2 true (41, ([some (vp 31 0), some (vi l1), some (vi l2), some (vi 0)], ([], G x m))) rfl rfl ?_
    exact h
set_option maxRecDepth 100000 in
set_option maxHeartbeats 4000000 in
theorem vl_X11_closest_41 {X : MX} {d : Nat} {x : Int64 × UInt64} {m : MI} {Q : MRes → Prop} {l1 : Int32} {l2 : Int32} {l3 : Int32} (h : ((l2 ≤ l3 → (∀ t2 : Int32, t2 = l2 + 1 → Wp X (d + 1) 222 (29, ([some (vp 31 0), some (vi l1), some (vi t2), some (vi l3)], ([], G x m))) Q)) ∧ (¬ (l2 ≤ l3) → Cl X d 152 [vi l2] (G x m) (fun r => ∃ (v3 : Int32) (m4 : MI), r = (.inl (some (vi v3)), G x m4) ∧ Cl X d 152 [vi l3] (G x m4) (fun r => ∃ (v5 : Int32) (m6 : MI), r = (.inl (some (vi v5)), G x m6) ∧ Cl X d 162 [vp 31 0, vi v3, vi v5] (G x m6) (fun r => ∃ (v7 : Int32) (m8 : MI), r = (.inl (some (vi v7)), G x m8) ∧ ((l1 ≤ v7 → (∀ t10 : Int32, t10 = l3 + 1 → Wp X (d + 1) 222 (41, ([some (vp 31 0), some (vi l1), some (vi l2), some (vi t10)], ([], G x m8))) Q)) ∧ (¬ (l1 ≤ v7) → Cl X d 152 [vi l2] (G x m8) (fun r => ∃ (v11 : Int32) (m12 : MI), r = (.inl (some (vi v11)), G x m12) ∧ Cl X d 152 [vi l3] (G x m12) (fun r => ∃ (v13 : Int32) (m14 : MI), r = (.inl (some (vi v13)), G x m14) ∧ Cl X d 162 [vp 31 0, vi v11, vi v13] (G x m14) (fun r => ∃ (v15 : Int32) (m16 : MI), r = (.inl (some (vi v15)), G x m16) ∧ (∀ t17 : Int32, t17 = l3 + 1 → Wp X (d + 1) 222 (41, ([some (vp 31 0), some (vi v15), some (vi l2), some (vi t17)], ([], G x m16))) Q)))))))))))) : Wp X (d + 1) 222 (41, ([some (vp 31 0), some (vi l1), some (vi l2), some (vi l3)], ([], G x m))) Q := by
  refine wp_run 3 true ((bif decide (l2 ≤ l3) then 85 else 46), ([some (vp 31 0), some (vi l1), some (vi l2), some (vi l3)], ([], G x m))) rfl rfl ?_
  refine wp_if (l2 ≤ l3) (fun c1 => ?_) (fun c1 => ?_)
  · have h := h.1 c1
    refine wp_run 1 true (88, ([some (vp 31 0), some (vi l1), some (vi (l2 + 1)), some (vi l3)], ([], G x m))) rfl rfl ?_
    refine wpg (fun t2 => Wp X (d + 1) 222 (88, ([some (vp 31 0), some (vi l1), some (vi t2), some (vi l3)], ([], G x m))) Q) (l2 + 1) (fun t2 ht2 => ?_)
    have h := h t2 ht2
    refine wp_run 1 true (29, ([some (vp 31 0), some (vi l1), some (vi t2), some (vi l3)], ([], G x m))) rfl rfl ?_
    exact h
  · have h := h.2 c1
    refine wp_run 2 true (48, ([some (vp 31 0), some (vi l1), some (vi l2), some (vi l3)], ([vi l2, vp 31 0], G x m))) rfl rfl ?_
    refine wp_call 152 [vi l2] (51, ([some (vp 31 0), some (vi l1), some (vi l2), some (vi l3)], ([vp 31 0], G x m))) rfl rfl (Cl.mono h (Nat.le_refl _) ?_)
    rintro r ⟨v3, m4, rfl, h⟩
    · show Wp X (d + 1) 222 (51, ([some (vp 31 0), some (vi l1), some (vi l2), some (vi l3)], ([vi v3, vp 31 0], G x m4))) Q
      refine wp_run 1 true (52, ([some (vp 31 0), some (vi l1), some (vi l2), some (vi l3)], ([vi l3, vi v3, vp 31 0], G x m4))) rfl rfl ?_
      refine wp_call 152 [vi l3] (55, ([some (vp 31 0), some (vi l1), some (vi l2), some (vi l3)], ([vi v3, vp 31 0], G x m4))) rfl rfl (Cl.mono h (Nat.le_refl _) ?_)
      rintro r ⟨v5, m6, rfl, h⟩
      · show Wp X (d + 1) 222 (55, ([some (vp 31 0), some (vi l1), some (vi l2), some (vi l3)], ([vi v5, vi v3, vp 31 0], G x m6))) Q
        refine wp_call 162 [vp 31 0, vi v3, vi v5] (58, ([some (vp 31 0), some (vi l1), some (vi l2), some (vi l3)], ([], G x m6))) rfl rfl (Cl.mono h (Nat.le_refl _) ?_)
        rintro r ⟨v7, m8, rfl, h⟩
        · show Wp X (d + 1) 222 (58, ([some (vp 31 0), some (vi l1), some (vi l2), some (vi l3)], ([vi v7], G x m8))) Q
          refine wp_run 2 true ((bif decide (l1 ≤ v7) then 77 else 62), ([some (vp 31 0), some (vi l1), some (vi l2), some (vi l3)], ([], G x m8))) rfl rfl ?_
          refine wp_if (l1 ≤ v7) (fun c9 => ?_) (fun c9 => ?_)
          · have h := h.1 c9
            refine wp_run 3 true (82, ([some (vp 31 0), some (vi l1), some (vi l2), some (vi (l3 + 1))], ([], G x m8))) rfl rfl ?_
            refine wpg (fun t10 => Wp X (d + 1) 222 (82, ([some (vp 31 0), some (vi l1), some (vi l2), some (vi t10)], ([], G x m8))) Q) (l3 + 1) (fun t10 ht10 => ?_)
            have h := h t10 ht10
            refine wp_run 1 true (41, ([some (vp 31 0), some (vi l1), some (vi l2), some (vi t10)], ([], G x m8))) rfl rfl ?_
            exact h
          · have h := h.2 c9
            refine wp_run 2 true (64, ([some (vp 31 0), some (vi l1), some (vi l2), some (vi l3)], ([vi l2, vp 31 0], G x m8))) rfl rfl ?_
            refine wp_call 152 [vi l2] (67, ([some (vp 31 0), some (vi l1), some (vi l2), some (vi l3)], ([vp 31 0], G x m8))) rfl rfl (Cl.mono h (Nat.le_refl _) ?_)
            rintro r ⟨v11, m12, rfl, h⟩
            · show Wp X (d + 1) 222 (67, ([some (vp 31 0), some (vi l1), some (vi l2), some (vi l3)], ([vi v11, vp 31 0], G x m12))) Q
              refine wp_run 1 true (68, ([some (vp 31 0), some (vi l1), some (vi l2), some (vi l3)], ([vi l3, vi v11, vp 31 0], G x m12))) rfl rfl ?_
              refine wp_call 152 [vi l3] (71, ([some (vp 31 0), some (vi l1), some (vi l2), some (vi l3)], ([vi v11, vp 31 0], G x m12))) rfl rfl (Cl.mono h (Nat.le_refl _) ?_)
              rintro r ⟨v13, m14, rfl, h⟩
              · show Wp X (d + 1) 222 (71, ([some (vp 31 0), some (vi l1), some (vi l2), some (vi l3)], ([vi v13, vi v11, vp 31 0], G x m14))) Q
                refine wp_call 162 [vp 31 0, vi v11, vi v13] (74, ([some (vp 31 0), some (vi l1), some (vi l2), some (vi l3)], ([], G x m14))) rfl rfl (Cl.mono h (Nat.le_refl _) ?_)
                rintro r ⟨v15, m16, rfl, h⟩
                · show Wp X (d + 1) 222 (74, ([some (vp 31 0), some (vi l1), some (vi l2), some (vi l3)], ([vi v15], G x m16))) Q
                  refine wp_run 3 true (82, ([some (vp 31 0), some (vi v15), some (vi l2), some (vi (l3 + 1))], ([], G x m16))) rfl rfl ?_
                  refine wpg (fun t17 => Wp X (d + 1) 222 (82, ([some (vp 31 0), some (vi v15), some (vi l2), some (vi t17)], ([], G x m16))) Q) (l3 + 1) (fun t17 ht17 => ?_)
                  have h := h t17 ht17
                  refine wp_run 1 true (41, ([some (vp 31 0), some (vi v15), some (vi l2), some (vi t17)], ([], G x m16))) rfl rfl ?_
                  exact h
set_option maxRecDepth 100000 in
set_option maxHeartbeats 4000000 in
theorem vc_X11_closestDistance {X : MX} {d : Nat} {x : Int64 × UInt64} {m : MI} {Q : MRes → Prop} (h : Cl X d 222 [vp 31 0] (G x m) (fun r => ∃ (v1 : Int32) (m2 : MI), r = (.inl (some (vi v1)), G x m2) ∧ Q (.inl (some (vi v1)), G x m2))) : Cl X (d + 1) 223 [vp 31 0] (G x m) Q := by
  show Wp X (d + 1) 223 (0, ([some (vp 31 0)], ([], G x m))) Q
  refine wp_run 1 true (1, ([some (vp 31 0)], ([vp 31 0], G x m))) rfl rfl ?_
  refine wp_call 222 [vp 31 0] (4, ([some (vp 31 0)], ([], G x m))) rfl rfl (Cl.mono h (Nat.le_refl _) ?_)
  rintro r ⟨v1, m2, rfl, h⟩
  · show Wp X (d + 1) 223 (4, ([some (vp 31 0)], ([vi v1], G x m2))) Q
    exact wp_ret rfl h
set_option maxRecDepth 100000 in
set_option maxHeartbeats 4000000 in
theorem vc_X11_closestDistanceBySorting {X : MX} {d : Nat} {x : Int64 × UInt64} {m : MI} {Q : MRes → Prop} (h : Cl X d 222 [vp 31 0] (G x m) (fun r => ∃ (v1 : Int32) (m2 : MI), r = (.inl (some (vi v1)), G x m2) ∧ Q (.inl (some (vi v1)), G x m2))) : Cl X (d + 1) 224 [vp 31 0] (G x m) Q := by
  show Wp X (d + 1) 224 (0, ([some (vp 31 0)], ([], G x m))) Q
  refine wp_run 1 true (1, ([some (vp 31 0)], ([vp 31 0], G x m))) rfl rfl ?_
  refine wp_call 222 [vp 31 0] (4, ([some (vp 31 0)], ([], G x m))) rfl rfl (Cl.mono h (Nat.le_refl _) ?_)
  rintro r ⟨v1, m2, rfl, h⟩
  · show Wp X (d + 1) 224 (4, ([some (vp 31 0)], ([vi v1], G x m2))) Q
    exact wp_ret rfl h
set_option maxRecDepth 100000 in
set_option maxHeartbeats 4000000 in
theorem vc_X11_gain {X : MX} {d : Nat} {x : Int64 × UInt64} {m : MI} {Q : MRes → Prop} {p0 : Int32} {p1 : Int32} (h : Cl X d 155 [vp 31 0, vi p0, vi 5] (G x m) (fun r => ∃ (v1 : Int32) (m2 : MI), r = (.inl (some (vi v1)), G x m2) ∧ Cl X d 163 [vp 31 0, vi p0, vi p1] (G x m2) (fun r => ∃ (v3 : Int32) (m4 : MI), r = (.inl (some (vi v3)), G x m4) ∧ Q (.inl (some (vi ((200000 * v1) - v3))), G x m4)))) : Cl X (d + 1) 225 [vp 31 0, vi p0, vi p1] (G x m) Q := by
  show Wp X (d + 1) 225 (0, ([some (vp 31 0), some (vi p0), some (vi p1)], ([], G x m))) Q
  refine wp_run 4 true (5, ([some (vp 31 0), some (vi p0), some (vi p1)], ([vi 5, vi p0, vp 31 0, vi 200000], G x m))) rfl rfl ?_
  refine wp_call 155 [vp 31 0, vi p0, vi 5] (8, ([some (vp 31 0), some (vi p0), some (vi p1)], ([vi 200000], G x m))) rfl rfl (Cl.mono h (Nat.le_refl _) ?_)
  rintro r ⟨v1, m2, rfl, h⟩
  · show Wp X (d + 1) 225 (8, ([some (vp 31 0), some (vi p0), some (vi p1)], ([vi v1, vi 200000], G x m2))) Q
    refine wp_run 4 true (12, ([some (vp 31 0), some (vi p0), some (vi p1)], ([vi p1, vi p0, vp 31 0, vi (200000 * v1)], G x m2))) rfl rfl ?_
    refine wp_call 163 [vp 31 0, vi p0, vi p1] (15, ([some (vp 31 0), some (vi p0), some (vi p1)], ([vi (200000 * v1)], G x m2))) rfl rfl (Cl.mono h (Nat.le_refl _) ?_)
    rintro r ⟨v3, m4, rfl, h⟩
    · show Wp X (d + 1) 225 (15, ([some (vp 31 0), some (vi p0), some (vi p1)], ([vi v3, vi (200000 * v1)], G x m4))) Q
      refine wp_run 1 true (16, ([some (vp 31 0), some (vi p0), some (vi p1)], ([vi ((200000 * v1) - v3)], G x m4))) rfl rfl ?_
      exact wp_ret rfl h
set_option maxRecDepth 100000 in
set_option maxHeartbeats 4000000 in
theorem vc_X11_settling {X : MX} {d : Nat} {x : Int64 × UInt64} {m : MI} {Q : MRes → Prop} (h : Wp X (d + 1) 226 (2, ([some (vp 31 0), some (vi 0), none, none, none, none], ([], G x m))) Q) : Cl X (d + 1) 226 [vp 31 0] (G x m) Q := by
  show Wp X (d + 1) 226 (0, ([some (vp 31 0), none, none, none, none, none], ([], G x m))) Q
  refine wp_run 2 true (2, ([some (vp 31 0), some (vi 0), none, none, none, none], ([], G x m))) rfl rfl ?_
  exact h
set_option maxRecDepth 100000 in
set_option maxHeartbeats 4000000 in
theorem vl_X11_settling_2 {X : MX} {d : Nat} {x : Int64 × UInt64} {m : MI} {Q : MRes → Prop} {l1 : Int32} {o2 : Option MV} {o3 : Option MV} {o4 : Option MV} {o5 : Option MV} (h : ((1024 ≤ l1 → (∀ t2 : Int32, t2 = (m 32 0 1) - 1 → Wp X (d + 1) 226 (42, ([some (vp 31 0), some (vi t2), o2, o3, o4, o5], ([], G x m))) Q)) ∧ (¬ (1024 ≤ l1) → (inb ((1024 * (m 32 0 1)) + l1) 7168 = true ∧ (∀ m3 : MI, m3 = mup m 36 0 (((1024 * (m 32 0 1)) + l1).toNatClampNeg) 0 → (∀ t4 : Int32, t4 = l1 + 1 → Wp X (d + 1) 226 (2, ([some (vp 31 0), some (vi t4), o2, o3, o4, o5], ([], G x m3))) Q)))))) : Wp X (d + 1) 226 (2, ([some (vp 31 0), some (vi l1), o2, o3, o4, o5], ([], G x m))) Q := by
  refine wp_run 3 true ((bif decide (1024 ≤ l1) then 33 else 9), ([some (vp 31 0), some (vi l1), o2, o3, o4, o5], ([], G x m))) rfl rfl ?_
  refine wp_if (1024 ≤ l1) (fun c1 => ?_) (fun c1 => ?_)
  · have h := h.1 c1
    refine wp_run 7 true (42, ([some (vp 31 0), some (vi ((m 32 0 1) - 1)), o2, o3, o4, o5], ([], G x m))) rfl rfl ?_
    refine wpg (fun t2 => Wp X (d + 1) 226 (42, ([some (vp 31 0), some (vi t2), o2, o3, o4, o5], ([], G x m))) Q) ((m 32 0 1) - 1) (fun t2 ht2 => ?_)
    have h := h t2 ht2
    exact h
  · have h := h.2 c1
    obtain ⟨hg2_0, h⟩ := h
    refine wp_run 12 (inb ((1024 * (m 32 0 1)) + l1) 7168 && true) (27, ([some (vp 31 0), some (vi l1), o2, o3, o4, o5], ([], G x (mup m 36 0 (((1024 * (m 32 0 1)) + l1).toNatClampNeg) 0)))) rfl (and_t hg2_0 rfl) ?_
    refine wpg (fun m3 => Wp X (d + 1) 226 (27, ([some (vp 31 0), some (vi l1), o2, o3, o4, o5], ([], G x m3))) Q) (mup m 36 0 (((1024 * (m 32 0 1)) + l1).toNatClampNeg) 0) (fun m3 hm3 => ?_)
    have h := h m3 hm3
    refine wp_run 1 true (30, ([some (vp 31 0), some (vi (l1 + 1)), o2, o3, o4, o5], ([], G x m3))) rfl rfl ?_
    refine wpg (fun t4 => Wp X (d + 1) 226 (30, ([some (vp 31 0), some (vi t4), o2, o3, o4, o5], ([], G x m3))) Q) (l1 + 1) (fun t4 ht4 => ?_)
    have h := h t4 ht4
    refine wp_run 1 true (2, ([some (vp 31 0), some (vi t4), o2, o3, o4, o5], ([], G x m3))) rfl rfl ?_
    exact h
set_option maxRecDepth 100000 in
set_option maxHeartbeats 4000000 in
theorem vl_X11_settling_42 {X : MX} {d : Nat} {x : Int64 × UInt64} {m : MI} {Q : MRes → Prop} {l1 : Int32} {o2 : Option MV} {o3 : Option MV} {o4 : Option MV} {o5 : Option MV} (h : ((l1 < 0 → Q (.inl (some (vi (m 36 0 0))), G x m)) ∧ (¬ (l1 < 0) → Wp X (d + 1) 226 (48, ([some (vp 31 0), some (vi l1), some (vi 0), o3, o4, o5], ([], G x m))) Q))) : Wp X (d + 1) 226 (42, ([some (vp 31 0), some (vi l1), o2, o3, o4, o5], ([], G x m))) Q := by
  refine wp_run 2 true ((bif decide (l1 < 0) then 185 else 46), ([some (vp 31 0), some (vi l1), o2, o3, o4, o5], ([], G x m))) rfl rfl ?_
  refine wp_if (l1 < 0) (fun c1 => ?_) (fun c1 => ?_)
  · have h := h.1 c1
    refine wp_run 4 true (191, ([some (vp 31 0), some (vi l1), o2, o3, o4, o5], ([vi (m 36 0 0)], G x m))) rfl rfl ?_
    exact wp_ret rfl h
  · have h := h.2 c1
    refine wp_run 2 true (48, ([some (vp 31 0), some (vi l1), some (vi 0), o3, o4, o5], ([], G x m))) rfl rfl ?_
    exact h
set_option maxRecDepth 100000 in
set_option maxHeartbeats 4000000 in
theorem vl_X11_settling_48 {X : MX} {d : Nat} {x : Int64 × UInt64} {m : MI} {Q : MRes → Prop} {l1 : Int32} {l2 : Int32} {o3 : Option MV} {o4 : Option MV} {o5 : Option MV} (h : ((((1 : Int32) <<< ((m 32 0 0) &&& 31)) ≤ l2 → (∀ t2 : Int32, t2 = l1 + (-1) → Wp X (d + 1) 226 (42, ([some (vp 31 0), some (vi t2), some (vi l2), o3, o4, o5], ([], G x m))) Q)) ∧ (¬ (((1 : Int32) <<< ((m 32 0 0) &&& 31)) ≤ l2) → (inb ((1024 * (l1 + 1)) + l2) 7168 = true ∧ (∀ t3 : Int32, t3 = m 36 0 ((1024 * (l1 + 1)) + l2).toNatClampNeg → Wp X (d + 1) 226 (78, ([some (vp 31 0), some (vi l1), some (vi l2), some (vi t3), some (vi 0), o5], ([], G x m))) Q))))) : Wp X (d + 1) 226 (48, ([some (vp 31 0), some (vi l1), some (vi l2), o3, o4, o5], ([], G x m))) Q := by
  refine wp_run 8 true ((bif decide (((1 : Int32) <<< ((m 32 0 0) &&& 31)) ≤ l2) then 179 else 60), ([some (vp 31 0), some (vi l1), some (vi l2), o3, o4, o5], ([], G x m))) rfl rfl ?_
  refine wp_if (((1 : Int32) <<< ((m 32 0 0) &&& 31)) ≤ l2) (fun c1 => ?_) (fun c1 => ?_)
  · have h := h.1 c1
    refine wp_run 1 true (182, ([some (vp 31 0), some (vi (l1 + (-1))), some (vi l2), o3, o4, o5], ([], G x m))) rfl rfl ?_
    refine wpg (fun t2 => Wp X (d + 1) 226 (182, ([some (vp 31 0), some (vi t2), some (vi l2), o3, o4, o5], ([], G x m))) Q) (l1 + (-1)) (fun t2 ht2 => ?_)
    have h := h t2 ht2
    refine wp_run 1 true (42, ([some (vp 31 0), some (vi t2), some (vi l2), o3, o4, o5], ([], G x m))) rfl rfl ?_
    exact h
  · have h := h.2 c1
    obtain ⟨hg2_0, h⟩ := h
    refine wp_run 11 (inb ((1024 * (l1 + 1)) + l2) 7168 && true) (75, ([some (vp 31 0), some (vi l1), some (vi l2), some (vi (m 36 0 ((1024 * (l1 + 1)) + l2).toNatClampNeg)), o4, o5], ([], G x m))) rfl (and_t hg2_0 rfl) ?_
    refine wpg (fun t3 => Wp X (d + 1) 226 (75, ([some (vp 31 0), some (vi l1), some (vi l2), some (vi t3), o4, o5], ([], G x m))) Q) (m 36 0 ((1024 * (l1 + 1)) + l2).toNatClampNeg) (fun t3 ht3 => ?_)
    have h := h t3 ht3
    refine wp_run 2 true (78, ([some (vp 31 0), some (vi l1), some (vi l2), some (vi t3), some (vi 0), o5], ([], G x m))) rfl rfl ?_
    exact h
set_option maxRecDepth 100000 in
set_option maxHeartbeats 4000000 in
theorem vl_X11_settling_78 {X : MX} {d : Nat} {x : Int64 × UInt64} {m : MI} {Q : MRes → Prop} {l1 : Int32} {l2 : Int32} {l3 : Int32} {l4 : Int32} {o5 : Option MV} (h : (((m 32 0 0) ≤ l4 → (inb ((1024 * l1) + l2) 7168 = true ∧ (∀ m2 : MI, m2 = mup m 36 0 (((1024 * l1) + l2).toNatClampNeg) l3 → (∀ t3 : Int32, t3 = l2 + 1 → Wp X (d + 1) 226 (48, ([some (vp 31 0), some (vi l1), some (vi t3), some (vi l3), some (vi l4), o5], ([], G x m2))) Q)))) ∧ (¬ ((m 32 0 0) ≤ l4) → ((((l2 >>> (l4 &&& 31)) &&& 1) = 1 → (∀ t5 : Int32, t5 = l4 + 1 → Wp X (d + 1) 226 (78, ([some (vp 31 0), some (vi l1), some (vi l2), some (vi l3), some (vi t5), o5], ([], G x m))) Q)) ∧ (¬ (((l2 >>> (l4 &&& 31)) &&& 1) = 1) → Cl X d 164 [vp 31 0, vi l1, vi l4] (G x m) (fun r => ∃ (v6 : Int32) (m7 : MI), r = (.inl (some (vi v6)), G x m7) ∧ ((¬ v6 = 0 → Cl X d 225 [vp 31 0, vi l1, vi l4] (G x m7) (fun r => ∃ (v9 : Int32) (m10 : MI), r = (.inl (some (vi v9)), G x m10) ∧ (inb ((1024 * (l1 + 1)) + (l2 ||| ((1 : Int32) <<< (l4 &&& 31)))) 7168 = true ∧ (∀ t11 : Int32, t11 = v9 + (m10 36 0 ((1024 * (l1 + 1)) + (l2 ||| ((1 : Int32) <<< (l4 &&& 31)))).toNatClampNeg) → ((t11 ≤ l3 → (∀ t13 : Int32, t13 = l4 + 1 → Wp X (d + 1) 226 (78, ([some (vp 31 0), some (vi l1), some (vi l2), some (vi l3), some (vi t13), some (vi t11)], ([], G x m10))) Q)) ∧ (¬ (t11 ≤ l3) → (∀ t14 : Int32, t14 = l4 + 1 → Wp X (d + 1) 226 (78, ([some (vp 31 0), some (vi l1), some (vi l2), some (vi t11), some (vi t14), some (vi t11)], ([], G x m10))) Q))))))) ∧ (¬ (¬ v6 = 0) → (∀ t15 : Int32, t15 = l4 + 1 → Wp X (d + 1) 226 (78, ([some (vp 31 0), some (vi l1), some (vi l2), some (vi l3), some (vi t15), o5], ([], G x m7))) Q))))))))) : Wp X (d + 1) 226 (78, ([some (vp 31 0), some (vi l1), some (vi l2), some (vi l3), some (vi l4), o5], ([], G x m))) Q := by
  refine wp_run 6 true ((bif decide ((m 32 0 0) ≤ l4) then 160 else 89), ([some (vp 31 0), some (vi l1), some (vi l2), some (vi l3), some (vi l4), o5], ([], G x m))) rfl rfl ?_
  refine wp_if ((m 32 0 0) ≤ l4) (fun c1 => ?_) (fun c1 => ?_)
  · have h := h.1 c1
    obtain ⟨hg2_0, h⟩ := h
    refine wp_run 9 (inb ((1024 * l1) + l2) 7168 && true) (173, ([some (vp 31 0), some (vi l1), some (vi l2), some (vi l3), some (vi l4), o5], ([], G x (mup m 36 0 (((1024 * l1) + l2).toNatClampNeg) l3)))) rfl (and_t hg2_0 rfl) ?_
    refine wpg (fun m2 => Wp X (d + 1) 226 (173, ([some (vp 31 0), some (vi l1), some (vi l2), some (vi l3), some (vi l4), o5], ([], G x m2))) Q) (mup m 36 0 (((1024 * l1) + l2).toNatClampNeg) l3) (fun m2 hm2 => ?_)
    have h := h m2 hm2
    refine wp_run 1 true (176, ([some (vp 31 0), some (vi l1), some (vi (l2 + 1)), some (vi l3), some (vi l4), o5], ([], G x m2))) rfl rfl ?_
    refine wpg (fun t3 => Wp X (d + 1) 226 (176, ([some (vp 31 0), some (vi l1), some (vi t3), some (vi l3), some (vi l4), o5], ([], G x m2))) Q) (l2 + 1) (fun t3 ht3 => ?_)
    have h := h t3 ht3
    refine wp_run 1 true (48, ([some (vp 31 0), some (vi l1), some (vi t3), some (vi l3), some (vi l4), o5], ([], G x m2))) rfl rfl ?_
    exact h
  · have h := h.2 c1
    refine wp_run 7 true ((bif decide (((l2 >>> (l4 &&& 31)) &&& 1) = 1) then 154 else 99), ([some (vp 31 0), some (vi l1), some (vi l2), some (vi l3), some (vi l4), o5], ([], G x m))) rfl rfl ?_
    refine wp_if (((l2 >>> (l4 &&& 31)) &&& 1) = 1) (fun c4 => ?_) (fun c4 => ?_)
    · have h := h.1 c4
      refine wp_run 1 true (157, ([some (vp 31 0), some (vi l1), some (vi l2), some (vi l3), some (vi (l4 + 1)), o5], ([], G x m))) rfl rfl ?_
      refine wpg (fun t5 => Wp X (d + 1) 226 (157, ([some (vp 31 0), some (vi l1), some (vi l2), some (vi l3), some (vi t5), o5], ([], G x m))) Q) (l4 + 1) (fun t5 ht5 => ?_)
      have h := h t5 ht5
      refine wp_run 1 true (78, ([some (vp 31 0), some (vi l1), some (vi l2), some (vi l3), some (vi t5), o5], ([], G x m))) rfl rfl ?_
      exact h
    · have h := h.2 c4
      refine wp_run 3 true (103, ([some (vp 31 0), some (vi l1), some (vi l2), some (vi l3), some (vi l4), o5], ([vi l4, vi l1, vp 31 0], G x m))) rfl rfl ?_
      refine wp_call 164 [vp 31 0, vi l1, vi l4] (106, ([some (vp 31 0), some (vi l1), some (vi l2), some (vi l3), some (vi l4), o5], ([], G x m))) rfl rfl (Cl.mono h (Nat.le_refl _) ?_)
      rintro r ⟨v6, m7, rfl, h⟩
      · show Wp X (d + 1) 226 (106, ([some (vp 31 0), some (vi l1), some (vi l2), some (vi l3), some (vi l4), o5], ([vi v6], G x m7))) Q
        refine wp_run 1 true ((bif decide (¬ v6 = 0) then 112 else 109), ([some (vp 31 0), some (vi l1), some (vi l2), some (vi l3), some (vi l4), o5], ([], G x m7))) rfl rfl ?_
        refine wp_if (¬ v6 = 0) (fun c8 => ?_) (fun c8 => ?_)
        · have h := h.1 c8
          refine wp_run 3 true (116, ([some (vp 31 0), some (vi l1), some (vi l2), some (vi l3), some (vi l4), o5], ([vi l4, vi l1, vp 31 0], G x m7))) rfl rfl ?_
          refine wp_call 225 [vp 31 0, vi l1, vi l4] (119, ([some (vp 31 0), some (vi l1), some (vi l2), some (vi l3), some (vi l4), o5], ([], G x m7))) rfl rfl (Cl.mono h (Nat.le_refl _) ?_)
          rintro r ⟨v9, m10, rfl, h⟩
          · show Wp X (d + 1) 226 (119, ([some (vp 31 0), some (vi l1), some (vi l2), some (vi l3), some (vi l4), o5], ([vi v9], G x m10))) Q
            obtain ⟨hg6_0, h⟩ := h
            refine wp_run 16 (inb ((1024 * (l1 + 1)) + (l2 ||| ((1 : Int32) <<< (l4 &&& 31)))) 7168 && true) (141, ([some (vp 31 0), some (vi l1), some (vi l2), some (vi l3), some (vi l4), some (vi (v9 + (m10 36 0 ((1024 * (l1 + 1)) + (l2 ||| ((1 : Int32) <<< (l4 &&& 31)))).toNatClampNeg)))], ([], G x m10))) rfl (and_t hg6_0 rfl) ?_
            refine wpg (fun t11 => Wp X (d + 1) 226 (141, ([some (vp 31 0), some (vi l1), some (vi l2), some (vi l3), some (vi l4), some (vi t11)], ([], G x m10))) Q) (v9 + (m10 36 0 ((1024 * (l1 + 1)) + (l2 ||| ((1 : Int32) <<< (l4 &&& 31)))).toNatClampNeg)) (fun t11 ht11 => ?_)
            have h := h t11 ht11
            refine wp_run 3 true ((bif decide (t11 ≤ l3) then 152 else 147), ([some (vp 31 0), some (vi l1), some (vi l2), some (vi l3), some (vi l4), some (vi t11)], ([], G x m10))) rfl rfl ?_
            refine wp_if (t11 ≤ l3) (fun c12 => ?_) (fun c12 => ?_)
            · have h := h.1 c12
              refine wp_run 3 true (157, ([some (vp 31 0), some (vi l1), some (vi l2), some (vi l3), some (vi (l4 + 1)), some (vi t11)], ([], G x m10))) rfl rfl ?_
              refine wpg (fun t13 => Wp X (d + 1) 226 (157, ([some (vp 31 0), some (vi l1), some (vi l2), some (vi l3), some (vi t13), some (vi t11)], ([], G x m10))) Q) (l4 + 1) (fun t13 ht13 => ?_)
              have h := h t13 ht13
              refine wp_run 1 true (78, ([some (vp 31 0), some (vi l1), some (vi l2), some (vi l3), some (vi t13), some (vi t11)], ([], G x m10))) rfl rfl ?_
              exact h
            · have h := h.2 c12
              refine wp_run 4 true (157, ([some (vp 31 0), some (vi l1), some (vi l2), some (vi t11), some (vi (l4 + 1)), some (vi t11)], ([], G x m10))) rfl rfl ?_
              refine wpg (fun t14 => Wp X (d + 1) 226 (157, ([some (vp 31 0), some (vi l1), some (vi l2), some (vi t11), some (vi t14), some (vi t11)], ([], G x m10))) Q) (l4 + 1) (fun t14 ht14 => ?_)
              have h := h t14 ht14
              refine wp_run 1 true (78, ([some (vp 31 0), some (vi l1), some (vi l2), some (vi t11), some (vi t14), some (vi t11)], ([], G x m10))) rfl rfl ?_
              exact h
        · have h := h.2 c8
          refine wp_run 2 true (157, ([some (vp 31 0), some (vi l1), some (vi l2), some (vi l3), some (vi (l4 + 1)), o5], ([], G x m7))) rfl rfl ?_
          refine wpg (fun t15 => Wp X (d + 1) 226 (157, ([some (vp 31 0), some (vi l1), some (vi l2), some (vi l3), some (vi t15), o5], ([], G x m7))) Q) (l4 + 1) (fun t15 ht15 => ?_)
          have h := h t15 ht15
          refine wp_run 1 true (78, ([some (vp 31 0), some (vi l1), some (vi l2), some (vi l3), some (vi t15), o5], ([], G x m7))) rfl rfl ?_
          exact h
set_option maxRecDepth 100000 in
set_option maxHeartbeats 4000000 in
theorem vc_X11_choice {X : MX} {d : Nat} {x : Int64 × UInt64} {m : MI} {Q : MRes → Prop} {p0 : Int32} {p1 : Int32} (h : Wp X (d + 1) 227 (2, ([some (vp 31 0), some (vi p0), some (vi p1), some (vi 0)], ([], G x m))) Q) : Cl X (d + 1) 227 [vp 31 0, vi p0, vi p1] (G x m) Q := by
  show Wp X (d + 1) 227 (0, ([some (vp 31 0), some (vi p0), some (vi p1), none], ([], G x m))) Q
  refine wp_run 2 true (2, ([some (vp 31 0), some (vi p0), some (vi p1), some (vi 0)], ([], G x m))) rfl rfl ?_
  exact h
set_option maxRecDepth 100000 in
set_option maxHeartbeats 4000000 in
theorem vl_X11_choice_2 {X : MX} {d : Nat} {x : Int64 × UInt64} {m : MI} {Q : MRes → Prop} {l1 : Int32} {l2 : Int32} {l3 : Int32} (h : (((m 32 0 0) ≤ l3 → Q (.inl (some (vi (-1))), G x m)) ∧ (¬ ((m 32 0 0) ≤ l3) → ((((l2 >>> (l3 &&& 31)) &&& 1) = 1 → (∀ t3 : Int32, t3 = l3 + 1 → Wp X (d + 1) 227 (2, ([some (vp 31 0), some (vi l1), some (vi l2), some (vi t3)], ([], G x m))) Q)) ∧ (¬ (((l2 >>> (l3 &&& 31)) &&& 1) = 1) → Cl X d 164 [vp 31 0, vi l1, vi l3] (G x m) (fun r => ∃ (v4 : Int32) (m5 : MI), r = (.inl (some (vi v4)), G x m5) ∧ ((¬ v4 = 0 → Cl X d 225 [vp 31 0, vi l1, vi l3] (G x m5) (fun r => ∃ (v7 : Int32) (m8 : MI), r = (.inl (some (vi v7)), G x m8) ∧ (inb ((1024 * (l1 + 1)) + (l2 ||| ((1 : Int32) <<< (l3 &&& 31)))) 7168 = true ∧ inb ((1024 * l1) + l2) 7168 = true ∧ ((¬ (v7 + (m8 36 0 ((1024 * (l1 + 1)) + (l2 ||| ((1 : Int32) <<< (l3 &&& 31)))).toNatClampNeg)) = (m8 36 0 ((1024 * l1) + l2).toNatClampNeg) → (∀ t10 : Int32, t10 = l3 + 1 → Wp X (d + 1) 227 (2, ([some (vp 31 0), some (vi l1), some (vi l2), some (vi t10)], ([], G x m8))) Q)) ∧ (¬ (¬ (v7 + (m8 36 0 ((1024 * (l1 + 1)) + (l2 ||| ((1 : Int32) <<< (l3 &&& 31)))).toNatClampNeg)) = (m8 36 0 ((1024 * l1) + l2).toNatClampNeg)) → Q (.inl (some (vi l3)), G x m8)))))) ∧ (¬ (¬ v4 = 0) → (∀ t11 : Int32, t11 = l3 + 1 → Wp X (d + 1) 227 (2, ([some (vp 31 0), some (vi l1), some (vi l2), some (vi t11)], ([], G x m5))) Q))))))))) : Wp X (d + 1) 227 (2, ([some (vp 31 0), some (vi l1), some (vi l2), some (vi l3)], ([], G x m))) Q := by
  refine wp_run 6 true ((bif decide ((m 32 0 0) ≤ l3) then 81 else 12), ([some (vp 31 0), some (vi l1), some (vi l2), some (vi l3)], ([], G x m))) rfl rfl ?_
  refine wp_if ((m 32 0 0) ≤ l3) (fun c1 => ?_) (fun c1 => ?_)
  · have h := h.1 c1
    refine wp_run 1 true (82, ([some (vp 31 0), some (vi l1), some (vi l2), some (vi l3)], ([vi (-1)], G x m))) rfl rfl ?_
    exact wp_ret rfl h
  · have h := h.2 c1
    refine wp_run 7 true ((bif decide (((l2 >>> (l3 &&& 31)) &&& 1) = 1) then 75 else 21), ([some (vp 31 0), some (vi l1), some (vi l2), some (vi l3)], ([], G x m))) rfl rfl ?_
    refine wp_if (((l2 >>> (l3 &&& 31)) &&& 1) = 1) (fun c2 => ?_) (fun c2 => ?_)
    · have h := h.1 c2
      refine wp_run 1 true (78, ([some (vp 31 0), some (vi l1), some (vi l2), some (vi (l3 + 1))], ([], G x m))) rfl rfl ?_
      refine wpg (fun t3 => Wp X (d + 1) 227 (78, ([some (vp 31 0), some (vi l1), some (vi l2), some (vi t3)], ([], G x m))) Q) (l3 + 1) (fun t3 ht3 => ?_)
      have h := h t3 ht3
      refine wp_run 1 true (2, ([some (vp 31 0), some (vi l1), some (vi l2), some (vi t3)], ([], G x m))) rfl rfl ?_
      exact h
    · have h := h.2 c2
      refine wp_run 3 true (24, ([some (vp 31 0), some (vi l1), some (vi l2), some (vi l3)], ([vi l3, vi l1, vp 31 0], G x m))) rfl rfl ?_
      refine wp_call 164 [vp 31 0, vi l1, vi l3] (27, ([some (vp 31 0), some (vi l1), some (vi l2), some (vi l3)], ([], G x m))) rfl rfl (Cl.mono h (Nat.le_refl _) ?_)
      rintro r ⟨v4, m5, rfl, h⟩
      · show Wp X (d + 1) 227 (27, ([some (vp 31 0), some (vi l1), some (vi l2), some (vi l3)], ([vi v4], G x m5))) Q
        refine wp_run 1 true ((bif decide (¬ v4 = 0) then 33 else 30), ([some (vp 31 0), some (vi l1), some (vi l2), some (vi l3)], ([], G x m5))) rfl rfl ?_
        refine wp_if (¬ v4 = 0) (fun c6 => ?_) (fun c6 => ?_)
        · have h := h.1 c6
          refine wp_run 3 true (36, ([some (vp 31 0), some (vi l1), some (vi l2), some (vi l3)], ([vi l3, vi l1, vp 31 0], G x m5))) rfl rfl ?_
          refine wp_call 225 [vp 31 0, vi l1, vi l3] (39, ([some (vp 31 0), some (vi l1), some (vi l2), some (vi l3)], ([], G x m5))) rfl rfl (Cl.mono h (Nat.le_refl _) ?_)
          rintro r ⟨v7, m8, rfl, h⟩
          · show Wp X (d + 1) 227 (39, ([some (vp 31 0), some (vi l1), some (vi l2), some (vi l3)], ([vi v7], G x m8))) Q
            obtain ⟨hg6_0, hg6_1, h⟩ := h
            refine wp_run 24 (inb ((1024 * l1) + l2) 7168 && (inb ((1024 * (l1 + 1)) + (l2 ||| ((1 : Int32) <<< (l3 &&& 31)))) 7168 && true)) ((bif decide (¬ (v7 + (m8 36 0 ((1024 * (l1 + 1)) + (l2 ||| ((1 : Int32) <<< (l3 &&& 31)))).toNatClampNeg)) = (m8 36 0 ((1024 * l1) + l2).toNatClampNeg)) then 75 else 73), ([some (vp 31 0), some (vi l1), some (vi l2), some (vi l3)], ([], G x m8))) rfl (and_t hg6_1 (and_t hg6_0 rfl)) ?_
            refine wp_if (¬ (v7 + (m8 36 0 ((1024 * (l1 + 1)) + (l2 ||| ((1 : Int32) <<< (l3 &&& 31)))).toNatClampNeg)) = (m8 36 0 ((1024 * l1) + l2).toNatClampNeg)) (fun c9 => ?_) (fun c9 => ?_)
            · have h := h.1 c9
              refine wp_run 1 true (78, ([some (vp 31 0), some (vi l1), some (vi l2), some (vi (l3 + 1))], ([], G x m8))) rfl rfl ?_
              refine wpg (fun t10 => Wp X (d + 1) 227 (78, ([some (vp 31 0), some (vi l1), some (vi l2), some (vi t10)], ([], G x m8))) Q) (l3 + 1) (fun t10 ht10 => ?_)
              have h := h t10 ht10
              refine wp_run 1 true (2, ([some (vp 31 0), some (vi l1), some (vi l2), some (vi t10)], ([], G x m8))) rfl rfl ?_
              exact h
            · have h := h.2 c9
              refine wp_run 1 true (74, ([some (vp 31 0), some (vi l1), some (vi l2), some (vi l3)], ([vi l3], G x m8))) rfl rfl ?_
              exact wp_ret rfl h
        · have h := h.2 c6
          refine wp_run 2 true (78, ([some (vp 31 0), some (vi l1), some (vi l2), some (vi (l3 + 1))], ([], G x m5))) rfl rfl ?_
          refine wpg (fun t11 => Wp X (d + 1) 227 (78, ([some (vp 31 0), some (vi l1), some (vi l2), some (vi t11)], ([], G x m5))) Q) (l3 + 1) (fun t11 ht11 => ?_)
          have h := h t11 ht11
          refine wp_run 1 true (2, ([some (vp 31 0), some (vi l1), some (vi l2), some (vi t11)], ([], G x m5))) rfl rfl ?_
          exact h
set_option maxRecDepth 100000 in
set_option maxHeartbeats 4000000 in
theorem vc_X11_settled {X : MX} {d : Nat} {x : Int64 × UInt64} {m : MI} {Q : MRes → Prop} {p0 : Int32} (h : Wp X (d + 1) 228 (4, ([some (vp 31 0), some (vi p0), some (vi 0), some (vi 0)], ([], G x m))) Q) : Cl X (d + 1) 228 [vp 31 0, vi p0] (G x m) Q := by
  show Wp X (d + 1) 228 (0, ([some (vp 31 0), some (vi p0), none, none], ([], G x m))) Q
  refine wp_run 4 true (4, ([some (vp 31 0), some (vi p0), some (vi 0), some (vi 0)], ([], G x m))) rfl rfl ?_
  exact h
set_option maxRecDepth 100000 in
set_option maxHeartbeats 4000000 in
theorem vl_X11_settled_4 {X : MX} {d : Nat} {x : Int64 × UInt64} {m : MI} {Q : MRes → Prop} {l1 : Int32} {l2 : Int32} {l3 : Int32} (h : ((l1 ≤ l3 → Cl X d 227 [vp 31 0, vi l1, vi l2] (G x m) (fun r => ∃ (v2 : Int32) (m3 : MI), r = (.inl (some (vi v2)), G x m3) ∧ Q (.inl (some (vi v2)), G x m3))) ∧ (¬ (l1 ≤ l3) → Cl X d 227 [vp 31 0, vi l3, vi l2] (G x m) (fun r => ∃ (v4 : Int32) (m5 : MI), r = (.inl (some (vi v4)), G x m5) ∧ ((0 ≤ v4 → Cl X d 227 [vp 31 0, vi l3, vi l2] (G x m5) (fun r => ∃ (v7 : Int32) (m8 : MI), r = (.inl (some (vi v7)), G x m8) ∧ (∀ t9 : Int32, t9 = l2 ||| ((1 : Int32) <<< (v7 &&& 31)) → (∀ t10 : Int32, t10 = l3 + 1 → Wp X (d + 1) 228 (4, ([some (vp 31 0), some (vi l1), some (vi t9), some (vi t10)], ([], G x m8))) Q)))) ∧ (¬ (0 ≤ v4) → (∀ t11 : Int32, t11 = l2 ||| 0 → (∀ t12 : Int32, t12 = l3 + 1 → Wp X (d + 1) 228 (4, ([some (vp 31 0), some (vi l1), some (vi t11), some (vi t12)], ([], G x m5))) Q)))))))) : Wp X (d + 1) 228 (4, ([some (vp 31 0), some (vi l1), some (vi l2), some (vi l3)], ([], G x m))) Q := by
  refine wp_run 3 true ((bif decide (l1 ≤ l3) then 39 else 9), ([some (vp 31 0), some (vi l1), some (vi l2), some (vi l3)], ([], G x m))) rfl rfl ?_
  refine wp_if (l1 ≤ l3) (fun c1 => ?_) (fun c1 => ?_)
  · have h := h.1 c1
    refine wp_run 3 true (42, ([some (vp 31 0), some (vi l1), some (vi l2), some (vi l3)], ([vi l2, vi l1, vp 31 0], G x m))) rfl rfl ?_
    refine wp_call 227 [vp 31 0, vi l1, vi l2] (45, ([some (vp 31 0), some (vi l1), some (vi l2), some (vi l3)], ([], G x m))) rfl rfl (Cl.mono h (Nat.le_refl _) ?_)
    rintro r ⟨v2, m3, rfl, h⟩
    · show Wp X (d + 1) 228 (45, ([some (vp 31 0), some (vi l1), some (vi l2), some (vi l3)], ([vi v2], G x m3))) Q
      exact wp_ret rfl h
  · have h := h.2 c1
    refine wp_run 4 true (13, ([some (vp 31 0), some (vi l1), some (vi l2), some (vi l3)], ([vi l2, vi l3, vp 31 0, vi l2], G x m))) rfl rfl ?_
    refine wp_call 227 [vp 31 0, vi l3, vi l2] (16, ([some (vp 31 0), some (vi l1), some (vi l2), some (vi l3)], ([vi l2], G x m))) rfl rfl (Cl.mono h (Nat.le_refl _) ?_)
    rintro r ⟨v4, m5, rfl, h⟩
    · show Wp X (d + 1) 228 (16, ([some (vp 31 0), some (vi l1), some (vi l2), some (vi l3)], ([vi v4, vi l2], G x m5))) Q
      refine wp_run 1 true ((bif decide (0 ≤ v4) then 23 else 19), ([some (vp 31 0), some (vi l1), some (vi l2), some (vi l3)], ([vi l2], G x m5))) rfl rfl ?_
      refine wp_if (0 ≤ v4) (fun c6 => ?_) (fun c6 => ?_)
      · have h := h.1 c6
        refine wp_run 4 true (27, ([some (vp 31 0), some (vi l1), some (vi l2), some (vi l3)], ([vi l2, vi l3, vp 31 0, vi 1, vi l2], G x m5))) rfl rfl ?_
        refine wp_call 227 [vp 31 0, vi l3, vi l2] (30, ([some (vp 31 0), some (vi l1), some (vi l2), some (vi l3)], ([vi 1, vi l2], G x m5))) rfl rfl (Cl.mono h (Nat.le_refl _) ?_)
        rintro r ⟨v7, m8, rfl, h⟩
        · show Wp X (d + 1) 228 (30, ([some (vp 31 0), some (vi l1), some (vi l2), some (vi l3)], ([vi v7, vi 1, vi l2], G x m8))) Q
          refine wp_run 3 true (33, ([some (vp 31 0), some (vi l1), some (vi (l2 ||| ((1 : Int32) <<< (v7 &&& 31)))), some (vi l3)], ([], G x m8))) rfl rfl ?_
          refine wpg (fun t9 => Wp X (d + 1) 228 (33, ([some (vp 31 0), some (vi l1), some (vi t9), some (vi l3)], ([], G x m8))) Q) (l2 ||| ((1 : Int32) <<< (v7 &&& 31))) (fun t9 ht9 => ?_)
          have h := h t9 ht9
          refine wp_run 1 true (36, ([some (vp 31 0), some (vi l1), some (vi t9), some (vi (l3 + 1))], ([], G x m8))) rfl rfl ?_
          refine wpg (fun t10 => Wp X (d + 1) 228 (36, ([some (vp 31 0), some (vi l1), some (vi t9), some (vi t10)], ([], G x m8))) Q) (l3 + 1) (fun t10 ht10 => ?_)
          have h := h t10 ht10
          refine wp_run 1 true (4, ([some (vp 31 0), some (vi l1), some (vi t9), some (vi t10)], ([], G x m8))) rfl rfl ?_
          exact h
      · have h := h.2 c6
        refine wp_run 4 true (33, ([some (vp 31 0), some (vi l1), some (vi (l2 ||| 0)), some (vi l3)], ([], G x m5))) rfl rfl ?_
        refine wpg (fun t11 => Wp X (d + 1) 228 (33, ([some (vp 31 0), some (vi l1), some (vi t11), some (vi l3)], ([], G x m5))) Q) (l2 ||| 0) (fun t11 ht11 => ?_)
        have h := h t11 ht11
        refine wp_run 1 true (36, ([some (vp 31 0), some (vi l1), some (vi t11), some (vi (l3 + 1))], ([], G x m5))) rfl rfl ?_
        refine wpg (fun t12 => Wp X (d + 1) 228 (36, ([some (vp 31 0), some (vi l1), some (vi t11), some (vi t12)], ([], G x m5))) Q) (l3 + 1) (fun t12 ht12 => ?_)
        have h := h t12 ht12
        refine wp_run 1 true (4, ([some (vp 31 0), some (vi l1), some (vi t11), some (vi t12)], ([], G x m5))) rfl rfl ?_
        exact h
set_option maxRecDepth 100000 in
set_option maxHeartbeats 4000000 in
theorem vc_X11_rewards {X : MX} {d : Nat} {x : Int64 × UInt64} {m : MI} {Q : MRes → Prop} (h : Cl X d 226 [vp 31 0] (G x m) (fun r => ∃ (v1 : Int32) (m2 : MI), r = (.inl (some (vi v1)), G x m2) ∧ Q (.inl (some (vi (((v1 + 200000) - 1) / 200000))), G x m2))) : Cl X (d + 1) 229 [vp 31 0] (G x m) Q := by
  show Wp X (d + 1) 229 (0, ([some (vp 31 0)], ([], G x m))) Q
  refine wp_run 1 true (1, ([some (vp 31 0)], ([vp 31 0], G x m))) rfl rfl ?_
  refine wp_call 226 [vp 31 0] (4, ([some (vp 31 0)], ([], G x m))) rfl rfl (Cl.mono h (Nat.le_refl _) ?_)
  rintro r ⟨v1, m2, rfl, h⟩
  · show Wp X (d + 1) 229 (4, ([some (vp 31 0)], ([vi v1], G x m2))) Q
    refine wp_run 6 true (12, ([some (vp 31 0)], ([vi (((v1 + 200000) - 1) / 200000)], G x m2))) rfl rfl ?_
    exact wp_ret rfl h
set_option maxRecDepth 100000 in
set_option maxHeartbeats 4000000 in
theorem vc_X11_bestReward {X : MX} {d : Nat} {x : Int64 × UInt64} {m : MI} {Q : MRes → Prop} (h : Cl X d 229 [vp 31 0] (G x m) (fun r => ∃ (v1 : Int32) (m2 : MI), r = (.inl (some (vi v1)), G x m2) ∧ Cl X d 195 [vp 31 0, vi v1] (G x m2) (fun r => ∃ (v3 : Int32) (m4 : MI), r = (.inl (some (vi v3)), G x m4) ∧ Q (.inl (some (vi v3)), G x m4)))) : Cl X (d + 1) 230 [vp 31 0] (G x m) Q := by
  show Wp X (d + 1) 230 (0, ([some (vp 31 0)], ([], G x m))) Q
  refine wp_run 2 true (2, ([some (vp 31 0)], ([vp 31 0, vp 31 0], G x m))) rfl rfl ?_
  refine wp_call 229 [vp 31 0] (5, ([some (vp 31 0)], ([vp 31 0], G x m))) rfl rfl (Cl.mono h (Nat.le_refl _) ?_)
  rintro r ⟨v1, m2, rfl, h⟩
  · show Wp X (d + 1) 230 (5, ([some (vp 31 0)], ([vi v1, vp 31 0], G x m2))) Q
    refine wp_call 195 [vp 31 0, vi v1] (8, ([some (vp 31 0)], ([], G x m2))) rfl rfl (Cl.mono h (Nat.le_refl _) ?_)
    rintro r ⟨v3, m4, rfl, h⟩
    · show Wp X (d + 1) 230 (8, ([some (vp 31 0)], ([vi v3], G x m4))) Q
      exact wp_ret rfl h
set_option maxRecDepth 100000 in
set_option maxHeartbeats 4000000 in
theorem vc_X11_bestRewardByTrying {X : MX} {d : Nat} {x : Int64 × UInt64} {m : MI} {Q : MRes → Prop} (h : Cl X d 229 [vp 31 0] (G x m) (fun r => ∃ (v1 : Int32) (m2 : MI), r = (.inl (some (vi v1)), G x m2) ∧ Cl X d 195 [vp 31 0, vi v1] (G x m2) (fun r => ∃ (v3 : Int32) (m4 : MI), r = (.inl (some (vi v3)), G x m4) ∧ Q (.inl (some (vi v3)), G x m4)))) : Cl X (d + 1) 231 [vp 31 0] (G x m) Q := by
  show Wp X (d + 1) 231 (0, ([some (vp 31 0)], ([], G x m))) Q
  refine wp_run 2 true (2, ([some (vp 31 0)], ([vp 31 0, vp 31 0], G x m))) rfl rfl ?_
  refine wp_call 229 [vp 31 0] (5, ([some (vp 31 0)], ([vp 31 0], G x m))) rfl rfl (Cl.mono h (Nat.le_refl _) ?_)
  rintro r ⟨v1, m2, rfl, h⟩
  · show Wp X (d + 1) 231 (5, ([some (vp 31 0)], ([vi v1, vp 31 0], G x m2))) Q
    refine wp_call 195 [vp 31 0, vi v1] (8, ([some (vp 31 0)], ([], G x m2))) rfl rfl (Cl.mono h (Nat.le_refl _) ?_)
    rintro r ⟨v3, m4, rfl, h⟩
    · show Wp X (d + 1) 231 (8, ([some (vp 31 0)], ([vi v3], G x m4))) Q
      exact wp_ret rfl h
set_option maxRecDepth 100000 in
set_option maxHeartbeats 4000000 in
theorem vc_X11_bestDifference {X : MX} {d : Nat} {x : Int64 × UInt64} {m : MI} {Q : MRes → Prop} (h : Cl X d 229 [vp 31 0] (G x m) (fun r => ∃ (v1 : Int32) (m2 : MI), r = (.inl (some (vi v1)), G x m2) ∧ Cl X d 226 [vp 31 0] (G x m2) (fun r => ∃ (v3 : Int32) (m4 : MI), r = (.inl (some (vi v3)), G x m4) ∧ Cl X d 195 [vp 31 0, vi ((200000 * v1) - v3)] (G x m4) (fun r => ∃ (v5 : Int32) (m6 : MI), r = (.inl (some (vi v5)), G x m6) ∧ Q (.inl (some (vi v5)), G x m6))))) : Cl X (d + 1) 232 [vp 31 0] (G x m) Q := by
  show Wp X (d + 1) 232 (0, ([some (vp 31 0)], ([], G x m))) Q
  refine wp_run 3 true (4, ([some (vp 31 0)], ([vp 31 0, vi 200000, vp 31 0], G x m))) rfl rfl ?_
  refine wp_call 229 [vp 31 0] (7, ([some (vp 31 0)], ([vi 200000, vp 31 0], G x m))) rfl rfl (Cl.mono h (Nat.le_refl _) ?_)
  rintro r ⟨v1, m2, rfl, h⟩
  · show Wp X (d + 1) 232 (7, ([some (vp 31 0)], ([vi v1, vi 200000, vp 31 0], G x m2))) Q
    refine wp_run 2 true (9, ([some (vp 31 0)], ([vp 31 0, vi (200000 * v1), vp 31 0], G x m2))) rfl rfl ?_
    refine wp_call 226 [vp 31 0] (12, ([some (vp 31 0)], ([vi (200000 * v1), vp 31 0], G x m2))) rfl rfl (Cl.mono h (Nat.le_refl _) ?_)
    rintro r ⟨v3, m4, rfl, h⟩
    · show Wp X (d + 1) 232 (12, ([some (vp 31 0)], ([vi v3, vi (200000 * v1), vp 31 0], G x m4))) Q
      refine wp_run 1 true (13, ([some (vp 31 0)], ([vi ((200000 * v1) - v3), vp 31 0], G x m4))) rfl rfl ?_
      refine wp_call 195 [vp 31 0, vi ((200000 * v1) - v3)] (16, ([some (vp 31 0)], ([], G x m4))) rfl rfl (Cl.mono h (Nat.le_refl _) ?_)
      rintro r ⟨v5, m6, rfl, h⟩
      · show Wp X (d + 1) 232 (16, ([some (vp 31 0)], ([vi v5], G x m6))) Q
        exact wp_ret rfl h
set_option maxRecDepth 100000 in
set_option maxHeartbeats 4000000 in
theorem vc_X11_settlementFor {X : MX} {d : Nat} {x : Int64 × UInt64} {m : MI} {Q : MRes → Prop} {p0 : Int32} (h : Cl X d 157 [vp 31 0, vi p0] (G x m) (fun r => ∃ (v1 : Int32) (m2 : MI), r = (.inl (some (vi v1)), G x m2) ∧ ((v1 < 0 → Cl X d 196 [vp 31 0, vi 0] (G x m2) (fun r => ∃ (v4 : Int32) (m5 : MI), r = (.inl (some (vi v4)), G x m5) ∧ ((v4 ≤ 0 → Cl X d 226 [vp 31 0] (G x m5) (fun r => ∃ (v7 : Int32) (m8 : MI), r = (.inl (some (vi v7)), G x m8) ∧ Cl X d 157 [vp 31 0, vi p0] (G x m8) (fun r => ∃ (v9 : Int32) (m10 : MI), r = (.inl (some (vi v9)), G x m10) ∧ Cl X d 228 [vp 31 0, vi v9] (G x m10) (fun r => ∃ (v11 : Int32) (m12 : MI), r = (.inl (some (vi v11)), G x m12) ∧ ((0 ≤ v11 → Cl X d 154 [vp 31 0, vi v11, vi 0] (G x m12) (fun r => ∃ (v14 : Int32) (m15 : MI), r = (.inl (some (vi v14)), G x m15) ∧ Q (.inl (some (vi v14)), G x m15))) ∧ (¬ (0 ≤ v11) → Cl X d 149 [vp 31 0, vi 1] (G x m12) (fun r => ∃ (v16 : Int32) (m17 : MI), r = (.inl (some (vi v16)), G x m17) ∧ Q (.inl (some (vi v16)), G x m17)))))))) ∧ (¬ (v4 ≤ 0) → Q (.inl (some (vi 0)), G x m5))))) ∧ (¬ (v1 < 0) → Cl X d 196 [vp 31 0, vi 1] (G x m2) (fun r => ∃ (v18 : Int32) (m19 : MI), r = (.inl (some (vi v18)), G x m19) ∧ ((v18 ≤ 0 → Cl X d 226 [vp 31 0] (G x m19) (fun r => ∃ (v21 : Int32) (m22 : MI), r = (.inl (some (vi v21)), G x m22) ∧ Cl X d 157 [vp 31 0, vi p0] (G x m22) (fun r => ∃ (v23 : Int32) (m24 : MI), r = (.inl (some (vi v23)), G x m24) ∧ Cl X d 228 [vp 31 0, vi v23] (G x m24) (fun r => ∃ (v25 : Int32) (m26 : MI), r = (.inl (some (vi v25)), G x m26) ∧ ((0 ≤ v25 → Cl X d 154 [vp 31 0, vi v25, vi 0] (G x m26) (fun r => ∃ (v28 : Int32) (m29 : MI), r = (.inl (some (vi v28)), G x m29) ∧ Q (.inl (some (vi v28)), G x m29))) ∧ (¬ (0 ≤ v25) → Cl X d 149 [vp 31 0, vi 1] (G x m26) (fun r => ∃ (v30 : Int32) (m31 : MI), r = (.inl (some (vi v30)), G x m31) ∧ Q (.inl (some (vi v30)), G x m31)))))))) ∧ (¬ (v18 ≤ 0) → Q (.inl (some (vi 0)), G x m19)))))))) : Cl X (d + 1) 233 [vp 31 0, vi p0] (G x m) Q := by
  show Wp X (d + 1) 233 (0, ([some (vp 31 0), some (vi p0), none, none], ([], G x m))) Q
  refine wp_run 3 true (3, ([some (vp 31 0), some (vi p0), none, none], ([vi p0, vp 31 0, vp 31 0], G x m))) rfl rfl ?_
  refine wp_call 157 [vp 31 0, vi p0] (6, ([some (vp 31 0), some (vi p0), none, none], ([vp 31 0], G x m))) rfl rfl (Cl.mono h (Nat.le_refl _) ?_)
  rintro r ⟨v1, m2, rfl, h⟩
  · show Wp X (d + 1) 233 (6, ([some (vp 31 0), some (vi p0), none, none], ([vi v1, vp 31 0], G x m2))) Q
    refine wp_run 1 true ((bif decide (v1 < 0) then 13 else 9), ([some (vp 31 0), some (vi p0), none, none], ([vp 31 0], G x m2))) rfl rfl ?_
    refine wp_if (v1 < 0) (fun c3 => ?_) (fun c3 => ?_)
    · have h := h.1 c3
      refine wp_run 1 true (14, ([some (vp 31 0), some (vi p0), none, none], ([vi 0, vp 31 0], G x m2))) rfl rfl ?_
      refine wp_call 196 [vp 31 0, vi 0] (17, ([some (vp 31 0), some (vi p0), none, none], ([], G x m2))) rfl rfl (Cl.mono h (Nat.le_refl _) ?_)
      rintro r ⟨v4, m5, rfl, h⟩
      · show Wp X (d + 1) 233 (17, ([some (vp 31 0), some (vi p0), none, none], ([vi v4], G x m5))) Q
        refine wp_run 1 true ((bif decide (v4 ≤ 0) then 22 else 20), ([some (vp 31 0), some (vi p0), none, none], ([], G x m5))) rfl rfl ?_
        refine wp_if (v4 ≤ 0) (fun c6 => ?_) (fun c6 => ?_)
        · have h := h.1 c6
          refine wp_run 1 true (23, ([some (vp 31 0), some (vi p0), none, none], ([vp 31 0], G x m5))) rfl rfl ?_
          refine wp_call 226 [vp 31 0] (26, ([some (vp 31 0), some (vi p0), none, none], ([], G x m5))) rfl rfl (Cl.mono h (Nat.le_refl _) ?_)
          rintro r ⟨v7, m8, rfl, h⟩
          · show Wp X (d + 1) 233 (26, ([some (vp 31 0), some (vi p0), none, none], ([vi v7], G x m8))) Q
            refine wp_run 4 true (30, ([some (vp 31 0), some (vi p0), some (vi v7), none], ([vi p0, vp 31 0, vp 31 0], G x m8))) rfl rfl ?_
            refine wp_call 157 [vp 31 0, vi p0] (33, ([some (vp 31 0), some (vi p0), some (vi v7), none], ([vp 31 0], G x m8))) rfl rfl (Cl.mono h (Nat.le_refl _) ?_)
            rintro r ⟨v9, m10, rfl, h⟩
            · show Wp X (d + 1) 233 (33, ([some (vp 31 0), some (vi p0), some (vi v7), none], ([vi v9, vp 31 0], G x m10))) Q
              refine wp_call 228 [vp 31 0, vi v9] (36, ([some (vp 31 0), some (vi p0), some (vi v7), none], ([], G x m10))) rfl rfl (Cl.mono h (Nat.le_refl _) ?_)
              rintro r ⟨v11, m12, rfl, h⟩
              · show Wp X (d + 1) 233 (36, ([some (vp 31 0), some (vi p0), some (vi v7), none], ([vi v11], G x m12))) Q
                refine wp_run 3 true ((bif decide (0 ≤ v11) then 49 else 41), ([some (vp 31 0), some (vi p0), some (vi v7), some (vi v11)], ([], G x m12))) rfl rfl ?_
                refine wp_if (0 ≤ v11) (fun c13 => ?_) (fun c13 => ?_)
                · have h := h.1 c13
                  refine wp_run 3 true (52, ([some (vp 31 0), some (vi p0), some (vi v7), some (vi v11)], ([vi 0, vi v11, vp 31 0], G x m12))) rfl rfl ?_
                  refine wp_call 154 [vp 31 0, vi v11, vi 0] (55, ([some (vp 31 0), some (vi p0), some (vi v7), some (vi v11)], ([], G x m12))) rfl rfl (Cl.mono h (Nat.le_refl _) ?_)
                  rintro r ⟨v14, m15, rfl, h⟩
                  · show Wp X (d + 1) 233 (55, ([some (vp 31 0), some (vi p0), some (vi v7), some (vi v11)], ([vi v14], G x m15))) Q
                    exact wp_ret rfl h
                · have h := h.2 c13
                  refine wp_run 2 true (43, ([some (vp 31 0), some (vi p0), some (vi v7), some (vi v11)], ([vi 1, vp 31 0], G x m12))) rfl rfl ?_
                  refine wp_call 149 [vp 31 0, vi 1] (46, ([some (vp 31 0), some (vi p0), some (vi v7), some (vi v11)], ([], G x m12))) rfl rfl (Cl.mono h (Nat.le_refl _) ?_)
                  rintro r ⟨v16, m17, rfl, h⟩
                  · show Wp X (d + 1) 233 (46, ([some (vp 31 0), some (vi p0), some (vi v7), some (vi v11)], ([vi v16], G x m17))) Q
                    refine wp_run 1 true (55, ([some (vp 31 0), some (vi p0), some (vi v7), some (vi v11)], ([vi v16], G x m17))) rfl rfl ?_
                    exact wp_ret rfl h
        · have h := h.2 c6
          refine wp_run 1 true (21, ([some (vp 31 0), some (vi p0), none, none], ([vi 0], G x m5))) rfl rfl ?_
          exact wp_ret rfl h
    · have h := h.2 c3
      refine wp_run 2 true (14, ([some (vp 31 0), some (vi p0), none, none], ([vi 1, vp 31 0], G x m2))) rfl rfl ?_
      refine wp_call 196 [vp 31 0, vi 1] (17, ([some (vp 31 0), some (vi p0), none, none], ([], G x m2))) rfl rfl (Cl.mono h (Nat.le_refl _) ?_)
      rintro r ⟨v18, m19, rfl, h⟩
      · show Wp X (d + 1) 233 (17, ([some (vp 31 0), some (vi p0), none, none], ([vi v18], G x m19))) Q
        refine wp_run 1 true ((bif decide (v18 ≤ 0) then 22 else 20), ([some (vp 31 0), some (vi p0), none, none], ([], G x m19))) rfl rfl ?_
        refine wp_if (v18 ≤ 0) (fun c20 => ?_) (fun c20 => ?_)
        · have h := h.1 c20
          refine wp_run 1 true (23, ([some (vp 31 0), some (vi p0), none, none], ([vp 31 0], G x m19))) rfl rfl ?_
          refine wp_call 226 [vp 31 0] (26, ([some (vp 31 0), some (vi p0), none, none], ([], G x m19))) rfl rfl (Cl.mono h (Nat.le_refl _) ?_)
          rintro r ⟨v21, m22, rfl, h⟩
          · show Wp X (d + 1) 233 (26, ([some (vp 31 0), some (vi p0), none, none], ([vi v21], G x m22))) Q
            refine wp_run 4 true (30, ([some (vp 31 0), some (vi p0), some (vi v21), none], ([vi p0, vp 31 0, vp 31 0], G x m22))) rfl rfl ?_
            refine wp_call 157 [vp 31 0, vi p0] (33, ([some (vp 31 0), some (vi p0), some (vi v21), none], ([vp 31 0], G x m22))) rfl rfl (Cl.mono h (Nat.le_refl _) ?_)
            rintro r ⟨v23, m24, rfl, h⟩
            · show Wp X (d + 1) 233 (33, ([some (vp 31 0), some (vi p0), some (vi v21), none], ([vi v23, vp 31 0], G x m24))) Q
              refine wp_call 228 [vp 31 0, vi v23] (36, ([some (vp 31 0), some (vi p0), some (vi v21), none], ([], G x m24))) rfl rfl (Cl.mono h (Nat.le_refl _) ?_)
              rintro r ⟨v25, m26, rfl, h⟩
              · show Wp X (d + 1) 233 (36, ([some (vp 31 0), some (vi p0), some (vi v21), none], ([vi v25], G x m26))) Q
                refine wp_run 3 true ((bif decide (0 ≤ v25) then 49 else 41), ([some (vp 31 0), some (vi p0), some (vi v21), some (vi v25)], ([], G x m26))) rfl rfl ?_
                refine wp_if (0 ≤ v25) (fun c27 => ?_) (fun c27 => ?_)
                · have h := h.1 c27
                  refine wp_run 3 true (52, ([some (vp 31 0), some (vi p0), some (vi v21), some (vi v25)], ([vi 0, vi v25, vp 31 0], G x m26))) rfl rfl ?_
                  refine wp_call 154 [vp 31 0, vi v25, vi 0] (55, ([some (vp 31 0), some (vi p0), some (vi v21), some (vi v25)], ([], G x m26))) rfl rfl (Cl.mono h (Nat.le_refl _) ?_)
                  rintro r ⟨v28, m29, rfl, h⟩
                  · show Wp X (d + 1) 233 (55, ([some (vp 31 0), some (vi p0), some (vi v21), some (vi v25)], ([vi v28], G x m29))) Q
                    exact wp_ret rfl h
                · have h := h.2 c27
                  refine wp_run 2 true (43, ([some (vp 31 0), some (vi p0), some (vi v21), some (vi v25)], ([vi 1, vp 31 0], G x m26))) rfl rfl ?_
                  refine wp_call 149 [vp 31 0, vi 1] (46, ([some (vp 31 0), some (vi p0), some (vi v21), some (vi v25)], ([], G x m26))) rfl rfl (Cl.mono h (Nat.le_refl _) ?_)
                  rintro r ⟨v30, m31, rfl, h⟩
                  · show Wp X (d + 1) 233 (46, ([some (vp 31 0), some (vi p0), some (vi v21), some (vi v25)], ([vi v30], G x m31))) Q
                    refine wp_run 1 true (55, ([some (vp 31 0), some (vi p0), some (vi v21), some (vi v25)], ([vi v30], G x m31))) rfl rfl ?_
                    exact wp_ret rfl h
        · have h := h.2 c20
          refine wp_run 1 true (21, ([some (vp 31 0), some (vi p0), none, none], ([vi 0], G x m19))) rfl rfl ?_
          exact wp_ret rfl h
set_option maxRecDepth 100000 in
set_option maxHeartbeats 4000000 in
theorem vc_X11_many {X : MX} {d : Nat} {x : Int64 × UInt64} {m : MI} {Q : MRes → Prop} {p0 : Int32} (h : Wp X d 234 (4, ([some (vi p0), some (vi 0), some (vi 0)], ([], G x m))) Q) : Cl X d 234 [vi p0] (G x m) Q := by
  show Wp X d 234 (0, ([some (vi p0), none, none], ([], G x m))) Q
  refine wp_run 4 true (4, ([some (vi p0), some (vi 0), some (vi 0)], ([], G x m))) rfl rfl ?_
  exact h
set_option maxRecDepth 100000 in
set_option maxHeartbeats 4000000 in
theorem vl_X11_many_4 {X : MX} {d : Nat} {x : Int64 × UInt64} {m : MI} {Q : MRes → Prop} {l0 : Int32} {l1 : Int32} {l2 : Int32} (h : ((10 ≤ l2 → Q (.inl (some (vi l1)), G x m)) ∧ (¬ (10 ≤ l2) → (∀ t2 : Int32, t2 = l1 + ((l0 >>> (l2 &&& 31)) &&& 1) → (∀ t3 : Int32, t3 = l2 + 1 → Wp X d 234 (4, ([some (vi l0), some (vi t2), some (vi t3)], ([], G x m))) Q))))) : Wp X d 234 (4, ([some (vi l0), some (vi l1), some (vi l2)], ([], G x m))) Q := by
  refine wp_run 3 true ((bif decide (10 ≤ l2) then 24 else 10), ([some (vi l0), some (vi l1), some (vi l2)], ([], G x m))) rfl rfl ?_
  refine wp_if (10 ≤ l2) (fun c1 => ?_) (fun c1 => ?_)
  · have h := h.1 c1
    refine wp_run 1 true (25, ([some (vi l0), some (vi l1), some (vi l2)], ([vi l1], G x m))) rfl rfl ?_
    exact wp_ret rfl h
  · have h := h.2 c1
    refine wp_run 8 true (18, ([some (vi l0), some (vi (l1 + ((l0 >>> (l2 &&& 31)) &&& 1))), some (vi l2)], ([], G x m))) rfl rfl ?_
    refine wpg (fun t2 => Wp X d 234 (18, ([some (vi l0), some (vi t2), some (vi l2)], ([], G x m))) Q) (l1 + ((l0 >>> (l2 &&& 31)) &&& 1)) (fun t2 ht2 => ?_)
    have h := h t2 ht2
    refine wp_run 1 true (21, ([some (vi l0), some (vi t2), some (vi (l2 + 1))], ([], G x m))) rfl rfl ?_
    refine wpg (fun t3 => Wp X d 234 (21, ([some (vi l0), some (vi t2), some (vi t3)], ([], G x m))) Q) (l2 + 1) (fun t3 ht3 => ?_)
    have h := h t3 ht3
    refine wp_run 1 true (4, ([some (vi l0), some (vi t2), some (vi t3)], ([], G x m))) rfl rfl ?_
    exact h
set_option maxRecDepth 100000 in
set_option maxHeartbeats 4000000 in
theorem vc_X11_error {X : MX} {d : Nat} {x : Int64 × UInt64} {m : MI} {Q : MRes → Prop} {p0 : Int32} (h : Wp X (d + 1) 235 (4, ([some (vp 31 0), some (vi p0), some (vi 0), some (vi 0), none, none, none], ([], G x m))) Q) : Cl X (d + 1) 235 [vp 31 0, vi p0] (G x m) Q := by
  show Wp X (d + 1) 235 (0, ([some (vp 31 0), some (vi p0), none, none, none, none, none], ([], G x m))) Q
  refine wp_run 4 true (4, ([some (vp 31 0), some (vi p0), some (vi 0), some (vi 0), none, none, none], ([], G x m))) rfl rfl ?_
  exact h
set_option maxRecDepth 100000 in
set_option maxHeartbeats 4000000 in
theorem vl_X11_error_4 {X : MX} {d : Nat} {x : Int64 × UInt64} {m : MI} {Q : MRes → Prop} {l1 : Int32} {l2 : Int32} {l3 : Int32} {o4 : Option MV} {o5 : Option MV} {o6 : Option MV} (h : (((m 32 0 0) ≤ l3 → Q (.inl (some (vi l2)), G x m)) ∧ (¬ ((m 32 0 0) ≤ l3) → Wp X (d + 1) 235 (21, ([some (vp 31 0), some (vi l1), some (vi l2), some (vi l3), some (vi 1000000000), some (vi 0), o6], ([], G x m))) Q))) : Wp X (d + 1) 235 (4, ([some (vp 31 0), some (vi l1), some (vi l2), some (vi l3), o4, o5, o6], ([], G x m))) Q := by
  refine wp_run 6 true ((bif decide ((m 32 0 0) ≤ l3) then 92 else 14), ([some (vp 31 0), some (vi l1), some (vi l2), some (vi l3), o4, o5, o6], ([], G x m))) rfl rfl ?_
  refine wp_if ((m 32 0 0) ≤ l3) (fun c1 => ?_) (fun c1 => ?_)
  · have h := h.1 c1
    refine wp_run 1 true (93, ([some (vp 31 0), some (vi l1), some (vi l2), some (vi l3), o4, o5, o6], ([vi l2], G x m))) rfl rfl ?_
    exact wp_ret rfl h
  · have h := h.2 c1
    refine wp_run 4 true (21, ([some (vp 31 0), some (vi l1), some (vi l2), some (vi l3), some (vi 1000000000), some (vi 0), o6], ([], G x m))) rfl rfl ?_
    exact h
set_option maxRecDepth 100000 in
set_option maxHeartbeats 4000000 in
theorem vl_X11_error_21 {X : MX} {d : Nat} {x : Int64 × UInt64} {m : MI} {Q : MRes → Prop} {l1 : Int32} {l2 : Int32} {l3 : Int32} {l4 : Int32} {l5 : Int32} {o6 : Option MV} (h : (((m 32 0 0) ≤ l5 → (∀ t2 : Int32, t2 = l2 + l4 → (∀ t3 : Int32, t3 = l3 + 1 → Wp X (d + 1) 235 (4, ([some (vp 31 0), some (vi l1), some (vi t2), some (vi t3), some (vi l4), some (vi l5), o6], ([], G x m))) Q))) ∧ (¬ ((m 32 0 0) ≤ l5) → ((¬ ((l1 >>> (l5 &&& 31)) &&& 1) = 0 → Cl X d 152 [vi l3] (G x m) (fun r => ∃ (v5 : Int32) (m6 : MI), r = (.inl (some (vi v5)), G x m6) ∧ Cl X d 152 [vi l5] (G x m6) (fun r => ∃ (v7 : Int32) (m8 : MI), r = (.inl (some (vi v7)), G x m8) ∧ Cl X d 162 [vp 31 0, vi v5, vi v7] (G x m8) (fun r => ∃ (v9 : Int32) (m10 : MI), r = (.inl (some (vi v9)), G x m10) ∧ ((l4 ≤ v9 → (∀ t12 : Int32, t12 = l5 + 1 → Wp X (d + 1) 235 (21, ([some (vp 31 0), some (vi l1), some (vi l2), some (vi l3), some (vi l4), some (vi t12), some (vi v9)], ([], G x m10))) Q)) ∧ (¬ (l4 ≤ v9) → (∀ t13 : Int32, t13 = l5 + 1 → Wp X (d + 1) 235 (21, ([some (vp 31 0), some (vi l1), some (vi l2), some (vi l3), some (vi v9), some (vi t13), some (vi v9)], ([], G x m10))) Q))))))) ∧ (¬ (¬ ((l1 >>> (l5 &&& 31)) &&& 1) = 0) → (∀ t14 : Int32, t14 = l5 + 1 → Wp X (d + 1) 235 (21, ([some (vp 31 0), some (vi l1), some (vi l2), some (vi l3), some (vi l4), some (vi t14), o6], ([], G x m))) Q)))))) : Wp X (d + 1) 235 (21, ([some (vp 31 0), some (vi l1), some (vi l2), some (vi l3), some (vi l4), some (vi l5), o6], ([], G x m))) Q := by
  refine wp_run 6 true ((bif decide ((m 32 0 0) ≤ l5) then 81 else 32), ([some (vp 31 0), some (vi l1), some (vi l2), some (vi l3), some (vi l4), some (vi l5), o6], ([], G x m))) rfl rfl ?_
  refine wp_if ((m 32 0 0) ≤ l5) (fun c1 => ?_) (fun c1 => ?_)
  · have h := h.1 c1
    refine wp_run 4 true (86, ([some (vp 31 0), some (vi l1), some (vi (l2 + l4)), some (vi l3), some (vi l4), some (vi l5), o6], ([], G x m))) rfl rfl ?_
    refine wpg (fun t2 => Wp X (d + 1) 235 (86, ([some (vp 31 0), some (vi l1), some (vi t2), some (vi l3), some (vi l4), some (vi l5), o6], ([], G x m))) Q) (l2 + l4) (fun t2 ht2 => ?_)
    have h := h t2 ht2
    refine wp_run 1 true (89, ([some (vp 31 0), some (vi l1), some (vi t2), some (vi (l3 + 1)), some (vi l4), some (vi l5), o6], ([], G x m))) rfl rfl ?_
    refine wpg (fun t3 => Wp X (d + 1) 235 (89, ([some (vp 31 0), some (vi l1), some (vi t2), some (vi t3), some (vi l4), some (vi l5), o6], ([], G x m))) Q) (l3 + 1) (fun t3 ht3 => ?_)
    have h := h t3 ht3
    refine wp_run 1 true (4, ([some (vp 31 0), some (vi l1), some (vi t2), some (vi t3), some (vi l4), some (vi l5), o6], ([], G x m))) rfl rfl ?_
    exact h
  · have h := h.2 c1
    refine wp_run 6 true ((bif decide (¬ ((l1 >>> (l5 &&& 31)) &&& 1) = 0) then 44 else 41), ([some (vp 31 0), some (vi l1), some (vi l2), some (vi l3), some (vi l4), some (vi l5), o6], ([], G x m))) rfl rfl ?_
    refine wp_if (¬ ((l1 >>> (l5 &&& 31)) &&& 1) = 0) (fun c4 => ?_) (fun c4 => ?_)
    · have h := h.1 c4
      refine wp_run 2 true (46, ([some (vp 31 0), some (vi l1), some (vi l2), some (vi l3), some (vi l4), some (vi l5), o6], ([vi l3, vp 31 0], G x m))) rfl rfl ?_
      refine wp_call 152 [vi l3] (49, ([some (vp 31 0), some (vi l1), some (vi l2), some (vi l3), some (vi l4), some (vi l5), o6], ([vp 31 0], G x m))) rfl rfl (Cl.mono h (Nat.le_refl _) ?_)
      rintro r ⟨v5, m6, rfl, h⟩
      · show Wp X (d + 1) 235 (49, ([some (vp 31 0), some (vi l1), some (vi l2), some (vi l3), some (vi l4), some (vi l5), o6], ([vi v5, vp 31 0], G x m6))) Q
        refine wp_run 1 true (51, ([some (vp 31 0), some (vi l1), some (vi l2), some (vi l3), some (vi l4), some (vi l5), o6], ([vi l5, vi v5, vp 31 0], G x m6))) rfl rfl ?_
        refine wp_call 152 [vi l5] (54, ([some (vp 31 0), some (vi l1), some (vi l2), some (vi l3), some (vi l4), some (vi l5), o6], ([vi v5, vp 31 0], G x m6))) rfl rfl (Cl.mono h (Nat.le_refl _) ?_)
        rintro r ⟨v7, m8, rfl, h⟩
        · show Wp X (d + 1) 235 (54, ([some (vp 31 0), some (vi l1), some (vi l2), some (vi l3), some (vi l4), some (vi l5), o6], ([vi v7, vi v5, vp 31 0], G x m8))) Q
          refine wp_call 162 [vp 31 0, vi v5, vi v7] (57, ([some (vp 31 0), some (vi l1), some (vi l2), some (vi l3), some (vi l4), some (vi l5), o6], ([], G x m8))) rfl rfl (Cl.mono h (Nat.le_refl _) ?_)
          rintro r ⟨v9, m10, rfl, h⟩
          · show Wp X (d + 1) 235 (57, ([some (vp 31 0), some (vi l1), some (vi l2), some (vi l3), some (vi l4), some (vi l5), o6], ([vi v9], G x m10))) Q
            refine wp_run 4 true ((bif decide (l4 ≤ v9) then 71 else 66), ([some (vp 31 0), some (vi l1), some (vi l2), some (vi l3), some (vi l4), some (vi l5), some (vi v9)], ([], G x m10))) rfl rfl ?_
            refine wp_if (l4 ≤ v9) (fun c11 => ?_) (fun c11 => ?_)
            · have h := h.1 c11
              refine wp_run 3 true (78, ([some (vp 31 0), some (vi l1), some (vi l2), some (vi l3), some (vi l4), some (vi (l5 + 1)), some (vi v9)], ([], G x m10))) rfl rfl ?_
              refine wpg (fun t12 => Wp X (d + 1) 235 (78, ([some (vp 31 0), some (vi l1), some (vi l2), some (vi l3), some (vi l4), some (vi t12), some (vi v9)], ([], G x m10))) Q) (l5 + 1) (fun t12 ht12 => ?_)
              have h := h t12 ht12
              refine wp_run 1 true (21, ([some (vp 31 0), some (vi l1), some (vi l2), some (vi l3), some (vi l4), some (vi t12), some (vi v9)], ([], G x m10))) rfl rfl ?_
              exact h
            · have h := h.2 c11
              refine wp_run 4 true (78, ([some (vp 31 0), some (vi l1), some (vi l2), some (vi l3), some (vi v9), some (vi (l5 + 1)), some (vi v9)], ([], G x m10))) rfl rfl ?_
              refine wpg (fun t13 => Wp X (d + 1) 235 (78, ([some (vp 31 0), some (vi l1), some (vi l2), some (vi l3), some (vi v9), some (vi t13), some (vi v9)], ([], G x m10))) Q) (l5 + 1) (fun t13 ht13 => ?_)
              have h := h t13 ht13
              refine wp_run 1 true (21, ([some (vp 31 0), some (vi l1), some (vi l2), some (vi l3), some (vi v9), some (vi t13), some (vi v9)], ([], G x m10))) rfl rfl ?_
              exact h
    · have h := h.2 c4
      refine wp_run 2 true (78, ([some (vp 31 0), some (vi l1), some (vi l2), some (vi l3), some (vi l4), some (vi (l5 + 1)), o6], ([], G x m))) rfl rfl ?_
      refine wpg (fun t14 => Wp X (d + 1) 235 (78, ([some (vp 31 0), some (vi l1), some (vi l2), some (vi l3), some (vi l4), some (vi t14), o6], ([], G x m))) Q) (l5 + 1) (fun t14 ht14 => ?_)
      have h := h t14 ht14
      refine wp_run 1 true (21, ([some (vp 31 0), some (vi l1), some (vi l2), some (vi l3), some (vi l4), some (vi t14), o6], ([], G x m))) rfl rfl ?_
      exact h
set_option maxRecDepth 100000 in
set_option maxHeartbeats 4000000 in
theorem vc_X11_hasLowest {X : MX} {d : Nat} {x : Int64 × UInt64} {m : MI} {Q : MRes → Prop} {p0 : Int32} {p1 : Int32} (h : (∀ t1 : Int32, t1 = p0 ^^^ p1 → ((((p0 &&& t1) &&& (-t1)) = 0 → Q (.inl (some (vi 0)), G x m)) ∧ (¬ (((p0 &&& t1) &&& (-t1)) = 0) → Q (.inl (some (vi 1)), G x m))))) : Cl X d 236 [vi p0, vi p1] (G x m) Q := by
  show Wp X d 236 (0, ([some (vi p0), some (vi p1), none], ([], G x m))) Q
  refine wp_run 4 true (4, ([some (vi p0), some (vi p1), some (vi (p0 ^^^ p1))], ([], G x m))) rfl rfl ?_
  refine wpg (fun t1 => Wp X d 236 (4, ([some (vi p0), some (vi p1), some (vi t1)], ([], G x m))) Q) (p0 ^^^ p1) (fun t1 ht1 => ?_)
  have h := h t1 ht1
  refine wp_run 7 true ((bif decide (((p0 &&& t1) &&& (-t1)) = 0) then 17 else 13), ([some (vi p0), some (vi p1), some (vi t1)], ([], G x m))) rfl rfl ?_
  refine wp_if (((p0 &&& t1) &&& (-t1)) = 0) (fun c2 => ?_) (fun c2 => ?_)
  · have h := h.1 c2
    refine wp_run 1 true (18, ([some (vi p0), some (vi p1), some (vi t1)], ([vi 0], G x m))) rfl rfl ?_
    exact wp_ret rfl h
  · have h := h.2 c2
    refine wp_run 2 true (18, ([some (vi p0), some (vi p1), some (vi t1)], ([vi 1], G x m))) rfl rfl ?_
    exact wp_ret rfl h
set_option maxRecDepth 100000 in
set_option maxHeartbeats 4000000 in
theorem vc_X11_palette {X : MX} {d : Nat} {x : Int64 × UInt64} {m : MI} {Q : MRes → Prop} {p0 : Int32} (h : Wp X (d + 1) 237 (4, ([some (vp 31 0), some (vi p0), some (vi 0), some (vi 1)], ([], G x m))) Q) : Cl X (d + 1) 237 [vp 31 0, vi p0] (G x m) Q := by
  show Wp X (d + 1) 237 (0, ([some (vp 31 0), some (vi p0), none, none], ([], G x m))) Q
  refine wp_run 4 true (4, ([some (vp 31 0), some (vi p0), some (vi 0), some (vi 1)], ([], G x m))) rfl rfl ?_
  exact h
set_option maxRecDepth 100000 in
set_option maxHeartbeats 4000000 in
theorem vl_X11_palette_4 {X : MX} {d : Nat} {x : Int64 × UInt64} {m : MI} {Q : MRes → Prop} {l1 : Int32} {l2 : Int32} {l3 : Int32} (h : ((((1 : Int32) <<< ((m 32 0 0) &&& 31)) ≤ l3 → Q (.inl (some (vi l2)), G x m)) ∧ (¬ (((1 : Int32) <<< ((m 32 0 0) &&& 31)) ≤ l3) → Cl X d 234 [vi l3] (G x m) (fun r => ∃ (v2 : Int32) (m3 : MI), r = (.inl (some (vi v2)), G x m3) ∧ ((v2 = l1 → ((l2 = 0 → (∀ t6 : Int32, t6 = l3 + 1 → Wp X (d + 1) 237 (4, ([some (vp 31 0), some (vi l1), some (vi l3), some (vi t6)], ([], G x m3))) Q)) ∧ (¬ (l2 = 0) → Cl X d 235 [vp 31 0, vi l3] (G x m3) (fun r => ∃ (v7 : Int32) (m8 : MI), r = (.inl (some (vi v7)), G x m8) ∧ Cl X d 235 [vp 31 0, vi l2] (G x m8) (fun r => ∃ (v9 : Int32) (m10 : MI), r = (.inl (some (vi v9)), G x m10) ∧ ((v7 < v9 → (∀ t12 : Int32, t12 = l3 + 1 → Wp X (d + 1) 237 (4, ([some (vp 31 0), some (vi l1), some (vi l3), some (vi t12)], ([], G x m10))) Q)) ∧ (¬ (v7 < v9) → Cl X d 235 [vp 31 0, vi l3] (G x m10) (fun r => ∃ (v13 : Int32) (m14 : MI), r = (.inl (some (vi v13)), G x m14) ∧ Cl X d 235 [vp 31 0, vi l2] (G x m14) (fun r => ∃ (v15 : Int32) (m16 : MI), r = (.inl (some (vi v15)), G x m16) ∧ ((¬ v13 = v15 → (∀ t18 : Int32, t18 = l3 + 1 → Wp X (d + 1) 237 (4, ([some (vp 31 0), some (vi l1), some (vi l2), some (vi t18)], ([], G x m16))) Q)) ∧ (¬ (¬ v13 = v15) → Cl X d 236 [vi l3, vi l2] (G x m16) (fun r => ∃ (v19 : Int32) (m20 : MI), r = (.inl (some (vi v19)), G x m20) ∧ ((v19 = 0 → (∀ t22 : Int32, t22 = l3 + 1 → Wp X (d + 1) 237 (4, ([some (vp 31 0), some (vi l1), some (vi l2), some (vi t22)], ([], G x m20))) Q)) ∧ (¬ (v19 = 0) → (∀ t23 : Int32, t23 = l3 + 1 → Wp X (d + 1) 237 (4, ([some (vp 31 0), some (vi l1), some (vi l3), some (vi t23)], ([], G x m20))) Q))))))))))))))) ∧ (¬ (v2 = l1) → (∀ t24 : Int32, t24 = l3 + 1 → Wp X (d + 1) 237 (4, ([some (vp 31 0), some (vi l1), some (vi l2), some (vi t24)], ([], G x m3))) Q))))))) : Wp X (d + 1) 237 (4, ([some (vp 31 0), some (vi l1), some (vi l2), some (vi l3)], ([], G x m))) Q := by
  refine wp_run 8 true ((bif decide (((1 : Int32) <<< ((m 32 0 0) &&& 31)) ≤ l3) then 73 else 16), ([some (vp 31 0), some (vi l1), some (vi l2), some (vi l3)], ([], G x m))) rfl rfl ?_
  refine wp_if (((1 : Int32) <<< ((m 32 0 0) &&& 31)) ≤ l3) (fun c1 => ?_) (fun c1 => ?_)
  · have h := h.1 c1
    refine wp_run 1 true (74, ([some (vp 31 0), some (vi l1), some (vi l2), some (vi l3)], ([vi l2], G x m))) rfl rfl ?_
    exact wp_ret rfl h
  · have h := h.2 c1
    refine wp_run 1 true (17, ([some (vp 31 0), some (vi l1), some (vi l2), some (vi l3)], ([vi l3], G x m))) rfl rfl ?_
    refine wp_call 234 [vi l3] (20, ([some (vp 31 0), some (vi l1), some (vi l2), some (vi l3)], ([], G x m))) rfl rfl (Cl.mono h (Nat.le_refl _) ?_)
    rintro r ⟨v2, m3, rfl, h⟩
    · show Wp X (d + 1) 237 (20, ([some (vp 31 0), some (vi l1), some (vi l2), some (vi l3)], ([vi v2], G x m3))) Q
      refine wp_run 2 true ((bif decide (v2 = l1) then 27 else 24), ([some (vp 31 0), some (vi l1), some (vi l2), some (vi l3)], ([], G x m3))) rfl rfl ?_
      refine wp_if (v2 = l1) (fun c4 => ?_) (fun c4 => ?_)
      · have h := h.1 c4
        refine wp_run 2 true ((bif decide (l2 = 0) then 65 else 31), ([some (vp 31 0), some (vi l1), some (vi l2), some (vi l3)], ([], G x m3))) rfl rfl ?_
        refine wp_if (l2 = 0) (fun c5 => ?_) (fun c5 => ?_)
        · have h := h.1 c5
          refine wp_run 3 true (70, ([some (vp 31 0), some (vi l1), some (vi l3), some (vi (l3 + 1))], ([], G x m3))) rfl rfl ?_
          refine wpg (fun t6 => Wp X (d + 1) 237 (70, ([some (vp 31 0), some (vi l1), some (vi l3), some (vi t6)], ([], G x m3))) Q) (l3 + 1) (fun t6 ht6 => ?_)
          have h := h t6 ht6
          refine wp_run 1 true (4, ([some (vp 31 0), some (vi l1), some (vi l3), some (vi t6)], ([], G x m3))) rfl rfl ?_
          exact h
        · have h := h.2 c5
          refine wp_run 2 true (33, ([some (vp 31 0), some (vi l1), some (vi l2), some (vi l3)], ([vi l3, vp 31 0], G x m3))) rfl rfl ?_
          refine wp_call 235 [vp 31 0, vi l3] (36, ([some (vp 31 0), some (vi l1), some (vi l2), some (vi l3)], ([], G x m3))) rfl rfl (Cl.mono h (Nat.le_refl _) ?_)
          rintro r ⟨v7, m8, rfl, h⟩
          · show Wp X (d + 1) 237 (36, ([some (vp 31 0), some (vi l1), some (vi l2), some (vi l3)], ([vi v7], G x m8))) Q
            refine wp_run 2 true (38, ([some (vp 31 0), some (vi l1), some (vi l2), some (vi l3)], ([vi l2, vp 31 0, vi v7], G x m8))) rfl rfl ?_
            refine wp_call 235 [vp 31 0, vi l2] (41, ([some (vp 31 0), some (vi l1), some (vi l2), some (vi l3)], ([vi v7], G x m8))) rfl rfl (Cl.mono h (Nat.le_refl _) ?_)
            rintro r ⟨v9, m10, rfl, h⟩
            · show Wp X (d + 1) 237 (41, ([some (vp 31 0), some (vi l1), some (vi l2), some (vi l3)], ([vi v9, vi v7], G x m10))) Q
              refine wp_run 1 true ((bif decide (v7 < v9) then 65 else 44), ([some (vp 31 0), some (vi l1), some (vi l2), some (vi l3)], ([], G x m10))) rfl rfl ?_
              refine wp_if (v7 < v9) (fun c11 => ?_) (fun c11 => ?_)
              · have h := h.1 c11
                refine wp_run 3 true (70, ([some (vp 31 0), some (vi l1), some (vi l3), some (vi (l3 + 1))], ([], G x m10))) rfl rfl ?_
                refine wpg (fun t12 => Wp X (d + 1) 237 (70, ([some (vp 31 0), some (vi l1), some (vi l3), some (vi t12)], ([], G x m10))) Q) (l3 + 1) (fun t12 ht12 => ?_)
                have h := h t12 ht12
                refine wp_run 1 true (4, ([some (vp 31 0), some (vi l1), some (vi l3), some (vi t12)], ([], G x m10))) rfl rfl ?_
                exact h
              · have h := h.2 c11
                refine wp_run 2 true (46, ([some (vp 31 0), some (vi l1), some (vi l2), some (vi l3)], ([vi l3, vp 31 0], G x m10))) rfl rfl ?_
                refine wp_call 235 [vp 31 0, vi l3] (49, ([some (vp 31 0), some (vi l1), some (vi l2), some (vi l3)], ([], G x m10))) rfl rfl (Cl.mono h (Nat.le_refl _) ?_)
                rintro r ⟨v13, m14, rfl, h⟩
                · show Wp X (d + 1) 237 (49, ([some (vp 31 0), some (vi l1), some (vi l2), some (vi l3)], ([vi v13], G x m14))) Q
                  refine wp_run 2 true (51, ([some (vp 31 0), some (vi l1), some (vi l2), some (vi l3)], ([vi l2, vp 31 0, vi v13], G x m14))) rfl rfl ?_
                  refine wp_call 235 [vp 31 0, vi l2] (54, ([some (vp 31 0), some (vi l1), some (vi l2), some (vi l3)], ([vi v13], G x m14))) rfl rfl (Cl.mono h (Nat.le_refl _) ?_)
                  rintro r ⟨v15, m16, rfl, h⟩
                  · show Wp X (d + 1) 237 (54, ([some (vp 31 0), some (vi l1), some (vi l2), some (vi l3)], ([vi v15, vi v13], G x m16))) Q
                    refine wp_run 1 true ((bif decide (¬ v13 = v15) then 67 else 57), ([some (vp 31 0), some (vi l1), some (vi l2), some (vi l3)], ([], G x m16))) rfl rfl ?_
                    refine wp_if (¬ v13 = v15) (fun c17 => ?_) (fun c17 => ?_)
                    · have h := h.1 c17
                      refine wp_run 1 true (70, ([some (vp 31 0), some (vi l1), some (vi l2), some (vi (l3 + 1))], ([], G x m16))) rfl rfl ?_
                      refine wpg (fun t18 => Wp X (d + 1) 237 (70, ([some (vp 31 0), some (vi l1), some (vi l2), some (vi t18)], ([], G x m16))) Q) (l3 + 1) (fun t18 ht18 => ?_)
                      have h := h t18 ht18
                      refine wp_run 1 true (4, ([some (vp 31 0), some (vi l1), some (vi l2), some (vi t18)], ([], G x m16))) rfl rfl ?_
                      exact h
                    · have h := h.2 c17
                      refine wp_run 2 true (59, ([some (vp 31 0), some (vi l1), some (vi l2), some (vi l3)], ([vi l2, vi l3], G x m16))) rfl rfl ?_
                      refine wp_call 236 [vi l3, vi l2] (62, ([some (vp 31 0), some (vi l1), some (vi l2), some (vi l3)], ([], G x m16))) rfl rfl (Cl.mono h (Nat.le_refl _) ?_)
                      rintro r ⟨v19, m20, rfl, h⟩
                      · show Wp X (d + 1) 237 (62, ([some (vp 31 0), some (vi l1), some (vi l2), some (vi l3)], ([vi v19], G x m20))) Q
                        refine wp_run 1 true ((bif decide (v19 = 0) then 67 else 65), ([some (vp 31 0), some (vi l1), some (vi l2), some (vi l3)], ([], G x m20))) rfl rfl ?_
                        refine wp_if (v19 = 0) (fun c21 => ?_) (fun c21 => ?_)
                        · have h := h.1 c21
                          refine wp_run 1 true (70, ([some (vp 31 0), some (vi l1), some (vi l2), some (vi (l3 + 1))], ([], G x m20))) rfl rfl ?_
                          refine wpg (fun t22 => Wp X (d + 1) 237 (70, ([some (vp 31 0), some (vi l1), some (vi l2), some (vi t22)], ([], G x m20))) Q) (l3 + 1) (fun t22 ht22 => ?_)
                          have h := h t22 ht22
                          refine wp_run 1 true (4, ([some (vp 31 0), some (vi l1), some (vi l2), some (vi t22)], ([], G x m20))) rfl rfl ?_
                          exact h
                        · have h := h.2 c21
                          refine wp_run 3 true (70, ([some (vp 31 0), some (vi l1), some (vi l3), some (vi (l3 + 1))], ([], G x m20))) rfl rfl ?_
                          refine wpg (fun t23 => Wp X (d + 1) 237 (70, ([some (vp 31 0), some (vi l1), some (vi l3), some (vi t23)], ([], G x m20))) Q) (l3 + 1) (fun t23 ht23 => ?_)
                          have h := h t23 ht23
                          refine wp_run 1 true (4, ([some (vp 31 0), some (vi l1), some (vi l3), some (vi t23)], ([], G x m20))) rfl rfl ?_
                          exact h
      · have h := h.2 c4
        refine wp_run 2 true (70, ([some (vp 31 0), some (vi l1), some (vi l2), some (vi (l3 + 1))], ([], G x m3))) rfl rfl ?_
        refine wpg (fun t24 => Wp X (d + 1) 237 (70, ([some (vp 31 0), some (vi l1), some (vi l2), some (vi t24)], ([], G x m3))) Q) (l3 + 1) (fun t24 ht24 => ?_)
        have h := h t24 ht24
        refine wp_run 1 true (4, ([some (vp 31 0), some (vi l1), some (vi l2), some (vi t24)], ([], G x m3))) rfl rfl ?_
        exact h
set_option maxRecDepth 100000 in
set_option maxHeartbeats 4000000 in
theorem vc_X11_errorOf {X : MX} {d : Nat} {x : Int64 × UInt64} {m : MI} {Q : MRes → Prop} {p0 : Int32} (h : Cl X d 147 [vi p0, vi 1, vi (m 32 0 0)] (G x m) (fun r => ∃ (v1 : Int32) (m2 : MI), r = (.inl (some (vi v1)), G x m2) ∧ Cl X d 196 [vp 31 0, vi v1] (G x m2) (fun r => ∃ (v3 : Int32) (m4 : MI), r = (.inl (some (vi v3)), G x m4) ∧ ((v3 ≤ 0 → Cl X d 237 [vp 31 0, vi p0] (G x m4) (fun r => ∃ (v6 : Int32) (m7 : MI), r = (.inl (some (vi v6)), G x m7) ∧ Cl X d 235 [vp 31 0, vi v6] (G x m7) (fun r => ∃ (v8 : Int32) (m9 : MI), r = (.inl (some (vi v8)), G x m9) ∧ Q (.inl (some (vi v8)), G x m9)))) ∧ (¬ (v3 ≤ 0) → Q (.inl (some (vi 0)), G x m4)))))) : Cl X (d + 1) 238 [vp 31 0, vi p0] (G x m) Q := by
  show Wp X (d + 1) 238 (0, ([some (vp 31 0), some (vi p0)], ([], G x m))) Q
  refine wp_run 7 true (9, ([some (vp 31 0), some (vi p0)], ([vi (m 32 0 0), vi 1, vi p0, vp 31 0], G x m))) rfl rfl ?_
  refine wp_call 147 [vi p0, vi 1, vi (m 32 0 0)] (12, ([some (vp 31 0), some (vi p0)], ([vp 31 0], G x m))) rfl rfl (Cl.mono h (Nat.le_refl _) ?_)
  rintro r ⟨v1, m2, rfl, h⟩
  · show Wp X (d + 1) 238 (12, ([some (vp 31 0), some (vi p0)], ([vi v1, vp 31 0], G x m2))) Q
    refine wp_call 196 [vp 31 0, vi v1] (15, ([some (vp 31 0), some (vi p0)], ([], G x m2))) rfl rfl (Cl.mono h (Nat.le_refl _) ?_)
    rintro r ⟨v3, m4, rfl, h⟩
    · show Wp X (d + 1) 238 (15, ([some (vp 31 0), some (vi p0)], ([vi v3], G x m4))) Q
      refine wp_run 1 true ((bif decide (v3 ≤ 0) then 22 else 18), ([some (vp 31 0), some (vi p0)], ([], G x m4))) rfl rfl ?_
      refine wp_if (v3 ≤ 0) (fun c5 => ?_) (fun c5 => ?_)
      · have h := h.1 c5
        refine wp_run 3 true (25, ([some (vp 31 0), some (vi p0)], ([vi p0, vp 31 0, vp 31 0], G x m4))) rfl rfl ?_
        refine wp_call 237 [vp 31 0, vi p0] (28, ([some (vp 31 0), some (vi p0)], ([vp 31 0], G x m4))) rfl rfl (Cl.mono h (Nat.le_refl _) ?_)
        rintro r ⟨v6, m7, rfl, h⟩
        · show Wp X (d + 1) 238 (28, ([some (vp 31 0), some (vi p0)], ([vi v6, vp 31 0], G x m7))) Q
          refine wp_call 235 [vp 31 0, vi v6] (31, ([some (vp 31 0), some (vi p0)], ([], G x m7))) rfl rfl (Cl.mono h (Nat.le_refl _) ?_)
          rintro r ⟨v8, m9, rfl, h⟩
          · show Wp X (d + 1) 238 (31, ([some (vp 31 0), some (vi p0)], ([vi v8], G x m9))) Q
            exact wp_ret rfl h
      · have h := h.2 c5
        refine wp_run 2 true (31, ([some (vp 31 0), some (vi p0)], ([vi 0], G x m4))) rfl rfl ?_
        exact wp_ret rfl h
set_option maxRecDepth 100000 in
set_option maxHeartbeats 4000000 in
theorem vc_X11_paletteError {X : MX} {d : Nat} {x : Int64 × UInt64} {m : MI} {Q : MRes → Prop} {p0 : Int32} (h : Cl X d 238 [vp 31 0, vi p0] (G x m) (fun r => ∃ (v1 : Int32) (m2 : MI), r = (.inl (some (vi v1)), G x m2) ∧ Q (.inl (some (vi v1)), G x m2))) : Cl X (d + 1) 239 [vp 31 0, vi p0] (G x m) Q := by
  show Wp X (d + 1) 239 (0, ([some (vp 31 0), some (vi p0)], ([], G x m))) Q
  refine wp_run 2 true (2, ([some (vp 31 0), some (vi p0)], ([vi p0, vp 31 0], G x m))) rfl rfl ?_
  refine wp_call 238 [vp 31 0, vi p0] (5, ([some (vp 31 0), some (vi p0)], ([], G x m))) rfl rfl (Cl.mono h (Nat.le_refl _) ?_)
  rintro r ⟨v1, m2, rfl, h⟩
  · show Wp X (d + 1) 239 (5, ([some (vp 31 0), some (vi p0)], ([vi v1], G x m2))) Q
    exact wp_ret rfl h
set_option maxRecDepth 100000 in
set_option maxHeartbeats 4000000 in
theorem vc_X11_paletteErrorBySearch {X : MX} {d : Nat} {x : Int64 × UInt64} {m : MI} {Q : MRes → Prop} {p0 : Int32} (h : Cl X d 238 [vp 31 0, vi p0] (G x m) (fun r => ∃ (v1 : Int32) (m2 : MI), r = (.inl (some (vi v1)), G x m2) ∧ Q (.inl (some (vi v1)), G x m2))) : Cl X (d + 1) 240 [vp 31 0, vi p0] (G x m) Q := by
  show Wp X (d + 1) 240 (0, ([some (vp 31 0), some (vi p0)], ([], G x m))) Q
  refine wp_run 2 true (2, ([some (vp 31 0), some (vi p0)], ([vi p0, vp 31 0], G x m))) rfl rfl ?_
  refine wp_call 238 [vp 31 0, vi p0] (5, ([some (vp 31 0), some (vi p0)], ([], G x m))) rfl rfl (Cl.mono h (Nat.le_refl _) ?_)
  rintro r ⟨v1, m2, rfl, h⟩
  · show Wp X (d + 1) 240 (5, ([some (vp 31 0), some (vi p0)], ([vi v1], G x m2))) Q
    exact wp_ret rfl h
set_option maxRecDepth 100000 in
set_option maxHeartbeats 4000000 in
theorem vc_X11_paletteColour {X : MX} {d : Nat} {x : Int64 × UInt64} {m : MI} {Q : MRes → Prop} {p0 : Int32} {p1 : Int32} (h : Cl X d 147 [vi p0, vi 1, vi (m 32 0 0)] (G x m) (fun r => ∃ (v1 : Int32) (m2 : MI), r = (.inl (some (vi v1)), G x m2) ∧ ((¬ v1 = 0 → Cl X d 147 [vi p1, vi 0, vi (p0 - 1)] (G x m2) (fun r => ∃ (v4 : Int32) (m5 : MI), r = (.inl (some (vi v4)), G x m5) ∧ ((¬ v4 = 0 → (∀ m7 : MI, m7 = mup m5 31 0 5 0 → (((m7 31 0 5) ≤ 0 → Cl X d 237 [vp 31 0, vi p0] (G x m7) (fun r => ∃ (v9 : Int32) (m10 : MI), r = (.inl (some (vi v9)), G x m10) ∧ Wp X (d + 1) 241 (59, ([some (vp 31 0), some (vi p0), some (vi p1), some (vi v9), some (vi (-1)), some (vi 0)], ([], G x m10))) Q)) ∧ (¬ ((m7 31 0 5) ≤ 0) → Q (.inl (some (vi 0)), G x m7))))) ∧ (¬ (¬ v4 = 0) → (∀ m11 : MI, m11 = mup m5 31 0 5 2 → (((m11 31 0 5) ≤ 0 → Cl X d 237 [vp 31 0, vi p0] (G x m11) (fun r => ∃ (v13 : Int32) (m14 : MI), r = (.inl (some (vi v13)), G x m14) ∧ Wp X (d + 1) 241 (59, ([some (vp 31 0), some (vi p0), some (vi p1), some (vi v13), some (vi (-1)), some (vi 0)], ([], G x m14))) Q)) ∧ (¬ ((m11 31 0 5) ≤ 0) → Q (.inl (some (vi 0)), G x m11)))))))) ∧ (¬ (¬ v1 = 0) → (∀ m15 : MI, m15 = mup m2 31 0 5 1 → (((m15 31 0 5) ≤ 0 → Cl X d 237 [vp 31 0, vi p0] (G x m15) (fun r => ∃ (v17 : Int32) (m18 : MI), r = (.inl (some (vi v17)), G x m18) ∧ Wp X (d + 1) 241 (59, ([some (vp 31 0), some (vi p0), some (vi p1), some (vi v17), some (vi (-1)), some (vi 0)], ([], G x m18))) Q)) ∧ (¬ ((m15 31 0 5) ≤ 0) → Q (.inl (some (vi 0)), G x m15)))))))) : Cl X (d + 1) 241 [vp 31 0, vi p0, vi p1] (G x m) Q := by
  show Wp X (d + 1) 241 (0, ([some (vp 31 0), some (vi p0), some (vi p1), none, none, none], ([], G x m))) Q
  refine wp_run 7 true (9, ([some (vp 31 0), some (vi p0), some (vi p1), none, none, none], ([vi (m 32 0 0), vi 1, vi p0, vp 31 0], G x m))) rfl rfl ?_
  refine wp_call 147 [vi p0, vi 1, vi (m 32 0 0)] (12, ([some (vp 31 0), some (vi p0), some (vi p1), none, none, none], ([vp 31 0], G x m))) rfl rfl (Cl.mono h (Nat.le_refl _) ?_)
  rintro r ⟨v1, m2, rfl, h⟩
  · show Wp X (d + 1) 241 (12, ([some (vp 31 0), some (vi p0), some (vi p1), none, none, none], ([vi v1, vp 31 0], G x m2))) Q
    refine wp_run 1 true ((bif decide (¬ v1 = 0) then 19 else 15), ([some (vp 31 0), some (vi p0), some (vi p1), none, none, none], ([vp 31 0], G x m2))) rfl rfl ?_
    refine wp_if (¬ v1 = 0) (fun c3 => ?_) (fun c3 => ?_)
    · have h := h.1 c3
      refine wp_run 5 true (24, ([some (vp 31 0), some (vi p0), some (vi p1), none, none, none], ([vi (p0 - 1), vi 0, vi p1, vp 31 0], G x m2))) rfl rfl ?_
      refine wp_call 147 [vi p1, vi 0, vi (p0 - 1)] (27, ([some (vp 31 0), some (vi p0), some (vi p1), none, none, none], ([vp 31 0], G x m2))) rfl rfl (Cl.mono h (Nat.le_refl _) ?_)
      rintro r ⟨v4, m5, rfl, h⟩
      · show Wp X (d + 1) 241 (27, ([some (vp 31 0), some (vi p0), some (vi p1), none, none, none], ([vi v4, vp 31 0], G x m5))) Q
        refine wp_run 1 true ((bif decide (¬ v4 = 0) then 34 else 30), ([some (vp 31 0), some (vi p0), some (vi p1), none, none, none], ([vp 31 0], G x m5))) rfl rfl ?_
        refine wp_if (¬ v4 = 0) (fun c6 => ?_) (fun c6 => ?_)
        · have h := h.1 c6
          refine wp_run 2 true (38, ([some (vp 31 0), some (vi p0), some (vi p1), none, none, none], ([], G x (mup m5 31 0 5 0)))) rfl rfl ?_
          refine wpg (fun m7 => Wp X (d + 1) 241 (38, ([some (vp 31 0), some (vi p0), some (vi p1), none, none, none], ([], G x m7))) Q) (mup m5 31 0 5 0) (fun m7 hm7 => ?_)
          have h := h m7 hm7
          refine wp_run 3 true ((bif decide ((m7 31 0 5) ≤ 0) then 47 else 45), ([some (vp 31 0), some (vi p0), some (vi p1), none, none, none], ([], G x m7))) rfl rfl ?_
          refine wp_if ((m7 31 0 5) ≤ 0) (fun c8 => ?_) (fun c8 => ?_)
          · have h := h.1 c8
            refine wp_run 2 true (49, ([some (vp 31 0), some (vi p0), some (vi p1), none, none, none], ([vi p0, vp 31 0], G x m7))) rfl rfl ?_
            refine wp_call 237 [vp 31 0, vi p0] (52, ([some (vp 31 0), some (vi p0), some (vi p1), none, none, none], ([], G x m7))) rfl rfl (Cl.mono h (Nat.le_refl _) ?_)
            rintro r ⟨v9, m10, rfl, h⟩
            · show Wp X (d + 1) 241 (52, ([some (vp 31 0), some (vi p0), some (vi p1), none, none, none], ([vi v9], G x m10))) Q
              refine wp_run 5 true (59, ([some (vp 31 0), some (vi p0), some (vi p1), some (vi v9), some (vi (-1)), some (vi 0)], ([], G x m10))) rfl rfl ?_
              exact h
          · have h := h.2 c8
            refine wp_run 1 true (46, ([some (vp 31 0), some (vi p0), some (vi p1), none, none, none], ([vi 0], G x m7))) rfl rfl ?_
            exact wp_ret rfl h
        · have h := h.2 c6
          refine wp_run 3 true (38, ([some (vp 31 0), some (vi p0), some (vi p1), none, none, none], ([], G x (mup m5 31 0 5 2)))) rfl rfl ?_
          refine wpg (fun m11 => Wp X (d + 1) 241 (38, ([some (vp 31 0), some (vi p0), some (vi p1), none, none, none], ([], G x m11))) Q) (mup m5 31 0 5 2) (fun m11 hm11 => ?_)
          have h := h m11 hm11
          refine wp_run 3 true ((bif decide ((m11 31 0 5) ≤ 0) then 47 else 45), ([some (vp 31 0), some (vi p0), some (vi p1), none, none, none], ([], G x m11))) rfl rfl ?_
          refine wp_if ((m11 31 0 5) ≤ 0) (fun c12 => ?_) (fun c12 => ?_)
          · have h := h.1 c12
            refine wp_run 2 true (49, ([some (vp 31 0), some (vi p0), some (vi p1), none, none, none], ([vi p0, vp 31 0], G x m11))) rfl rfl ?_
            refine wp_call 237 [vp 31 0, vi p0] (52, ([some (vp 31 0), some (vi p0), some (vi p1), none, none, none], ([], G x m11))) rfl rfl (Cl.mono h (Nat.le_refl _) ?_)
            rintro r ⟨v13, m14, rfl, h⟩
            · show Wp X (d + 1) 241 (52, ([some (vp 31 0), some (vi p0), some (vi p1), none, none, none], ([vi v13], G x m14))) Q
              refine wp_run 5 true (59, ([some (vp 31 0), some (vi p0), some (vi p1), some (vi v13), some (vi (-1)), some (vi 0)], ([], G x m14))) rfl rfl ?_
              exact h
          · have h := h.2 c12
            refine wp_run 1 true (46, ([some (vp 31 0), some (vi p0), some (vi p1), none, none, none], ([vi 0], G x m11))) rfl rfl ?_
            exact wp_ret rfl h
    · have h := h.2 c3
      refine wp_run 3 true (38, ([some (vp 31 0), some (vi p0), some (vi p1), none, none, none], ([], G x (mup m2 31 0 5 1)))) rfl rfl ?_
      refine wpg (fun m15 => Wp X (d + 1) 241 (38, ([some (vp 31 0), some (vi p0), some (vi p1), none, none, none], ([], G x m15))) Q) (mup m2 31 0 5 1) (fun m15 hm15 => ?_)
      have h := h m15 hm15
      refine wp_run 3 true ((bif decide ((m15 31 0 5) ≤ 0) then 47 else 45), ([some (vp 31 0), some (vi p0), some (vi p1), none, none, none], ([], G x m15))) rfl rfl ?_
      refine wp_if ((m15 31 0 5) ≤ 0) (fun c16 => ?_) (fun c16 => ?_)
      · have h := h.1 c16
        refine wp_run 2 true (49, ([some (vp 31 0), some (vi p0), some (vi p1), none, none, none], ([vi p0, vp 31 0], G x m15))) rfl rfl ?_
        refine wp_call 237 [vp 31 0, vi p0] (52, ([some (vp 31 0), some (vi p0), some (vi p1), none, none, none], ([], G x m15))) rfl rfl (Cl.mono h (Nat.le_refl _) ?_)
        rintro r ⟨v17, m18, rfl, h⟩
        · show Wp X (d + 1) 241 (52, ([some (vp 31 0), some (vi p0), some (vi p1), none, none, none], ([vi v17], G x m18))) Q
          refine wp_run 5 true (59, ([some (vp 31 0), some (vi p0), some (vi p1), some (vi v17), some (vi (-1)), some (vi 0)], ([], G x m18))) rfl rfl ?_
          exact h
      · have h := h.2 c16
        refine wp_run 1 true (46, ([some (vp 31 0), some (vi p0), some (vi p1), none, none, none], ([vi 0], G x m15))) rfl rfl ?_
        exact wp_ret rfl h
set_option maxRecDepth 100000 in
set_option maxHeartbeats 4000000 in
theorem vl_X11_paletteColour_59 {X : MX} {d : Nat} {x : Int64 × UInt64} {m : MI} {Q : MRes → Prop} {l1 : Int32} {l2 : Int32} {l3 : Int32} {l4 : Int32} {l5 : Int32} (h : ((l2 < l5 → Cl X d 154 [vp 31 0, vi l4, vi 0] (G x m) (fun r => ∃ (v2 : Int32) (m3 : MI), r = (.inl (some (vi v2)), G x m3) ∧ Q (.inl (some (vi v2)), G x m3))) ∧ (¬ (l2 < l5) → (∀ t4 : Int32, t4 = l4 + 1 → Wp X (d + 1) 241 (68, ([some (vp 31 0), some (vi l1), some (vi l2), some (vi l3), some (vi t4), some (vi l5)], ([], G x m))) Q)))) : Wp X (d + 1) 241 (59, ([some (vp 31 0), some (vi l1), some (vi l2), some (vi l3), some (vi l4), some (vi l5)], ([], G x m))) Q := by
  refine wp_run 3 true ((bif decide (l2 < l5) then 89 else 65), ([some (vp 31 0), some (vi l1), some (vi l2), some (vi l3), some (vi l4), some (vi l5)], ([], G x m))) rfl rfl ?_
  refine wp_if (l2 < l5) (fun c1 => ?_) (fun c1 => ?_)
  · have h := h.1 c1
    refine wp_run 3 true (93, ([some (vp 31 0), some (vi l1), some (vi l2), some (vi l3), some (vi l4), some (vi l5)], ([vi 0, vi l4, vp 31 0], G x m))) rfl rfl ?_
    refine wp_call 154 [vp 31 0, vi l4, vi 0] (96, ([some (vp 31 0), some (vi l1), some (vi l2), some (vi l3), some (vi l4), some (vi l5)], ([], G x m))) rfl rfl (Cl.mono h (Nat.le_refl _) ?_)
    rintro r ⟨v2, m3, rfl, h⟩
    · show Wp X (d + 1) 241 (96, ([some (vp 31 0), some (vi l1), some (vi l2), some (vi l3), some (vi l4), some (vi l5)], ([vi v2], G x m3))) Q
      exact wp_ret rfl h
  · have h := h.2 c1
    refine wp_run 1 true (68, ([some (vp 31 0), some (vi l1), some (vi l2), some (vi l3), some (vi (l4 + 1)), some (vi l5)], ([], G x m))) rfl rfl ?_
    refine wpg (fun t4 => Wp X (d + 1) 241 (68, ([some (vp 31 0), some (vi l1), some (vi l2), some (vi l3), some (vi t4), some (vi l5)], ([], G x m))) Q) (l4 + 1) (fun t4 ht4 => ?_)
    have h := h t4 ht4
    exact h
set_option maxRecDepth 100000 in
set_option maxHeartbeats 4000000 in
theorem vl_X11_paletteColour_68 {X : MX} {d : Nat} {x : Int64 × UInt64} {m : MI} {Q : MRes → Prop} {l1 : Int32} {l2 : Int32} {l3 : Int32} {l4 : Int32} {l5 : Int32} (h : ((¬ ((l3 >>> (l4 &&& 31)) &&& 1) = 0 → (∀ t2 : Int32, t2 = l5 + 1 → Wp X (d + 1) 241 (59, ([some (vp 31 0), some (vi l1), some (vi l2), some (vi l3), some (vi l4), some (vi t2)], ([], G x m))) Q)) ∧ (¬ (¬ ((l3 >>> (l4 &&& 31)) &&& 1) = 0) → (∀ t3 : Int32, t3 = l4 + 1 → Wp X (d + 1) 241 (68, ([some (vp 31 0), some (vi l1), some (vi l2), some (vi l3), some (vi t3), some (vi l5)], ([], G x m))) Q)))) : Wp X (d + 1) 241 (68, ([some (vp 31 0), some (vi l1), some (vi l2), some (vi l3), some (vi l4), some (vi l5)], ([], G x m))) Q := by
  refine wp_run 6 true ((bif decide (¬ ((l3 >>> (l4 &&& 31)) &&& 1) = 0) then 83 else 77), ([some (vp 31 0), some (vi l1), some (vi l2), some (vi l3), some (vi l4), some (vi l5)], ([], G x m))) rfl rfl ?_
  refine wp_if (¬ ((l3 >>> (l4 &&& 31)) &&& 1) = 0) (fun c1 => ?_) (fun c1 => ?_)
  · have h := h.1 c1
    refine wp_run 1 true (86, ([some (vp 31 0), some (vi l1), some (vi l2), some (vi l3), some (vi l4), some (vi (l5 + 1))], ([], G x m))) rfl rfl ?_
    refine wpg (fun t2 => Wp X (d + 1) 241 (86, ([some (vp 31 0), some (vi l1), some (vi l2), some (vi l3), some (vi l4), some (vi t2)], ([], G x m))) Q) (l5 + 1) (fun t2 ht2 => ?_)
    have h := h t2 ht2
    refine wp_run 1 true (59, ([some (vp 31 0), some (vi l1), some (vi l2), some (vi l3), some (vi l4), some (vi t2)], ([], G x m))) rfl rfl ?_
    exact h
  · have h := h.2 c1
    refine wp_run 1 true (80, ([some (vp 31 0), some (vi l1), some (vi l2), some (vi l3), some (vi (l4 + 1)), some (vi l5)], ([], G x m))) rfl rfl ?_
    refine wpg (fun t3 => Wp X (d + 1) 241 (80, ([some (vp 31 0), some (vi l1), some (vi l2), some (vi l3), some (vi t3), some (vi l5)], ([], G x m))) Q) (l4 + 1) (fun t3 ht3 => ?_)
    have h := h t3 ht3
    refine wp_run 1 true (68, ([some (vp 31 0), some (vi l1), some (vi l2), some (vi l3), some (vi t3), some (vi l5)], ([], G x m))) rfl rfl ?_
    exact h
set_option maxRecDepth 100000 in
set_option maxHeartbeats 4000000 in
theorem vc_X11_day {X : MX} {d : Nat} {x : Int64 × UInt64} {m : MI} {Q : MRes → Prop} (h : Cl X d 195 [vp 31 0, vi (m 32 0 4)] (G x m) (fun r => ∃ (v1 : Int32) (m2 : MI), r = (.inl (some (vi v1)), G x m2) ∧ Q (.inl (some (vi v1)), G x m2))) : Cl X (d + 1) 242 [vp 31 0] (G x m) Q := by
  show Wp X (d + 1) 242 (0, ([some (vp 31 0)], ([], G x m))) Q
  refine wp_run 5 true (7, ([some (vp 31 0)], ([vi (m 32 0 4), vp 31 0], G x m))) rfl rfl ?_
  refine wp_call 195 [vp 31 0, vi (m 32 0 4)] (10, ([some (vp 31 0)], ([], G x m))) rfl rfl (Cl.mono h (Nat.le_refl _) ?_)
  rintro r ⟨v1, m2, rfl, h⟩
  · show Wp X (d + 1) 242 (10, ([some (vp 31 0)], ([vi v1], G x m2))) Q
    exact wp_ret rfl h
set_option maxRecDepth 100000 in
set_option maxHeartbeats 4000000 in
theorem vc_X11_metric {X : MX} {d : Nat} {x : Int64 × UInt64} {m : MI} {Q : MRes → Prop} (h : (∀ m1 : MI, m1 = mup m 31 0 5 0 → (okT 3 (((m1 32 0 5).toUInt32 % 65536).toInt32) = true ∧ Q (.inl (some (vi (((m1 32 0 5).toUInt32 % 65536).toInt32))), G x m1)))) : Cl X d 243 [vp 31 0] (G x m) Q := by
  show Wp X d 243 (0, ([some (vp 31 0)], ([], G x m))) Q
  refine wp_run 3 true (5, ([some (vp 31 0)], ([], G x (mup m 31 0 5 0)))) rfl rfl ?_
  refine wpg (fun m1 => Wp X d 243 (5, ([some (vp 31 0)], ([], G x m1))) Q) (mup m 31 0 5 0) (fun m1 hm1 => ?_)
  have h := h m1 hm1
  refine wp_run 5 true (12, ([some (vp 31 0)], ([vi (((m1 32 0 5).toUInt32 % 65536).toInt32)], G x m1))) rfl rfl ?_
  exact wp_retT (okT 3 (((m1 32 0 5).toUInt32 % 65536).toInt32)) rfl h.1 h.2
set_option maxRecDepth 100000 in
set_option maxHeartbeats 4000000 in
theorem vc_X11_coins {X : MX} {d : Nat} {x : Int64 × UInt64} {m : MI} {Q : MRes → Prop} (h : Cl X d 195 [vp 31 0, vi (m 32 0 6)] (G x m) (fun r => ∃ (v1 : Int32) (m2 : MI), r = (.inl (some (vi v1)), G x m2) ∧ Q (.inl (some (vi v1)), G x m2))) : Cl X (d + 1) 244 [vp 31 0] (G x m) Q := by
  show Wp X (d + 1) 244 (0, ([some (vp 31 0)], ([], G x m))) Q
  refine wp_run 5 true (8, ([some (vp 31 0)], ([vi (m 32 0 6), vp 31 0], G x m))) rfl rfl ?_
  refine wp_call 195 [vp 31 0, vi (m 32 0 6)] (11, ([some (vp 31 0)], ([], G x m))) rfl rfl (Cl.mono h (Nat.le_refl _) ?_)
  rintro r ⟨v1, m2, rfl, h⟩
  · show Wp X (d + 1) 244 (11, ([some (vp 31 0)], ([vi v1], G x m2))) Q
    exact wp_ret rfl h
set_option maxRecDepth 100000 in
set_option maxHeartbeats 4000000 in
theorem vc_X11_coinsByAccounts {X : MX} {d : Nat} {x : Int64 × UInt64} {m : MI} {Q : MRes → Prop} (h : Cl X d 195 [vp 31 0, vi (m 32 0 6)] (G x m) (fun r => ∃ (v1 : Int32) (m2 : MI), r = (.inl (some (vi v1)), G x m2) ∧ Q (.inl (some (vi v1)), G x m2))) : Cl X (d + 1) 245 [vp 31 0] (G x m) Q := by
  show Wp X (d + 1) 245 (0, ([some (vp 31 0)], ([], G x m))) Q
  refine wp_run 5 true (8, ([some (vp 31 0)], ([vi (m 32 0 6), vp 31 0], G x m))) rfl rfl ?_
  refine wp_call 195 [vp 31 0, vi (m 32 0 6)] (11, ([some (vp 31 0)], ([], G x m))) rfl rfl (Cl.mono h (Nat.le_refl _) ?_)
  rintro r ⟨v1, m2, rfl, h⟩
  · show Wp X (d + 1) 245 (11, ([some (vp 31 0)], ([vi v1], G x m2))) Q
    exact wp_ret rfl h
