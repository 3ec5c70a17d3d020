set_option maxRecDepth 100000 in
set_option maxHeartbeats 4000000 in
theorem vc_L_addColour {X : MX} {d : Nat} {x : Int64 × UInt64} {m : MI} {Q : MRes → Prop} {p1 : Int32} {p2 : Int32} {p3 : Int32} {p4 : Int32} (h : Cl X d 1 [vp 0 0, vi p1, vi p2, vi p3, vi p4] (G x m) (fun r => (∃ (v1 : Int32) (m2 : MI), r = (.inl (some (vi v1)), G x m2) ∧ Q (.inl (some (vi 0)), G (v1.toInt64, x.2) m2)) ∨ (∃ (k3 : Nat) (u4 : Nat × Nat) (m5 : MI), r = (.inr k3, Gu u4 x m5) ∧ ((k3 = 0 → Q (.inl (some (vi 1)), Gu ((0, 0).1 + u4.1, (0, 0).2 + u4.2) x m5)) ∧ (k3 = 1 → Q (.inl (some (vi 2)), Gu ((0, 0).1 + u4.1, (0, 0).2 + u4.2) x m5)) ∧ ((¬ k3 = 0 ∧ ¬ k3 = 1) → Q (.inr k3, Gu ((0, 0).1 + u4.1, (0, 0).2 + u4.2) x m5)))))) : Cl X (d + 1) 279 [vp 0 0, vi p1, vi p2, vi p3, vi p4, vp 43 0] (G x m) Q := by
  show Wp X (d + 1) 279 (0, ([some (vp 0 0), some (vi p1), some (vi p2), some (vi p3), some (vi p4), some (vp 43 0), none], ([], G x m))) Q
  refine wp_run 7 true (9, ([some (vp 0 0), some (vi p1), some (vi p2), some (vi p3), some (vi p4), some (vp 43 0), none], ([vi p4, vi p3, vi p2, vi p1, vp 0 0, vi 0, vp 43 0], G x m))) rfl rfl ?_
  refine wp_call 1 [vp 0 0, vi p1, vi p2, vi p3, vi p4] (12, ([some (vp 0 0), some (vi p1), some (vi p2), some (vi p3), some (vi p4), some (vp 43 0), none], ([vi 0, vp 43 0], G x m))) rfl rfl (Cl.mono h (Nat.le_refl _) ?_)
  intro r hr
  rcases hr with ⟨v1, m2, rfl, h⟩ | ⟨k3, u4, m5, rfl, h⟩
  · show Wp X (d + 1) 279 (12, ([some (vp 0 0), some (vi p1), some (vi p2), some (vi p3), some (vi p4), some (vp 43 0), none], ([vi v1, vi 0, vp 43 0], G x m2))) Q
    refine wp_run 4 true (26, ([some (vp 0 0), some (vi p1), some (vi p2), some (vi p3), some (vi p4), some (vp 43 0), none], ([vi 0], G (v1.toInt64, x.2) m2))) rfl rfl ?_
    exact wp_ret rfl h
  · have hk := h
    by_cases c_0 : k3 = 0
    · subst c_0
      have h := hk.1 rfl
      show Wp X (d + 1) 279 (19, ([some (vp 0 0), some (vi p1), some (vi p2), some (vi p3), some (vi p4), some (vp 43 0), none], ([], Gu ((0, 0).1 + u4.1, (0, 0).2 + u4.2) x m5))) Q
      refine wp_run 1 true (20, ([some (vp 0 0), some (vi p1), some (vi p2), some (vi p3), some (vi p4), some (vp 43 0), none], ([vi 1], Gu ((0, 0).1 + u4.1, (0, 0).2 + u4.2) x m5))) rfl rfl ?_
      exact wp_ret rfl h
    by_cases c_1 : k3 = 1
    · subst c_1
      have h := hk.2.1 rfl
      show Wp X (d + 1) 279 (23, ([some (vp 0 0), some (vi p1), some (vi p2), some (vi p3), some (vi p4), some (vp 43 0), none], ([], Gu ((0, 0).1 + u4.1, (0, 0).2 + u4.2) x m5))) Q
      refine wp_run 1 true (24, ([some (vp 0 0), some (vi p1), some (vi p2), some (vi p3), some (vi p4), some (vp 43 0), none], ([vi 2], Gu ((0, 0).1 + u4.1, (0, 0).2 + u4.2) x m5))) rfl rfl ?_
      exact wp_ret rfl h
    have h := hk.2.2 ⟨c_0, c_1⟩
    have hn : hfind (mhd 279) 9 k3 = none := by
      simp only [show mhd 279 = [(0, (14, (17, (6, 0)))), (0, (14, (21, (6, 1))))] from rfl, hfind, cond_eq_ite]
      simp [Ne.symm c_0, c_0, Ne.symm c_1, c_1]
    show Kal X (d + 1) 279 9 (12, ([some (vp 0 0), some (vi p1), some (vi p2), some (vi p3), some (vi p4), some (vp 43 0), none], ([vi 0, vp 43 0], G x m))) Q (.inr k3, Gu u4 x m5)
    unfold Kal
    dsimp only
    rw [hn]
    exact h
set_option maxRecDepth 100000 in
set_option maxHeartbeats 4000000 in
theorem vc_L_report {X : MX} {d : Nat} {x : Int64 × UInt64} {m : MI} {Q : MRes → Prop} {p1 : Int32} {p2 : Int32} {p3 : Int32} {p4 : Int32} {p5 : Int32} (h : Cl X d 2 [vp 0 0, vi p1, vi p2, vi p3, vi p4, vi p5] (G x m) (fun r => (∃ (v1 : Int32) (m2 : MI), r = (.inl (some (vi v1)), G x m2) ∧ Q (.inl (some (vi 0)), G (v1.toInt64, x.2) m2)) ∨ (∃ (k3 : Nat) (u4 : Nat × Nat) (m5 : MI), r = (.inr k3, Gu u4 x m5) ∧ ((k3 = 0 → Q (.inl (some (vi 1)), Gu ((0, 0).1 + u4.1, (0, 0).2 + u4.2) x m5)) ∧ (k3 = 1 → Q (.inl (some (vi 2)), Gu ((0, 0).1 + u4.1, (0, 0).2 + u4.2) x m5)) ∧ ((¬ k3 = 0 ∧ ¬ k3 = 1) → Q (.inr k3, Gu ((0, 0).1 + u4.1, (0, 0).2 + u4.2) x m5)))))) : Cl X (d + 1) 280 [vp 0 0, vi p1, vi p2, vi p3, vi p4, vi p5, vp 43 0] (G x m) Q := by
  show Wp X (d + 1) 280 (0, ([some (vp 0 0), some (vi p1), some (vi p2), some (vi p3), some (vi p4), some (vi p5), some (vp 43 0), none], ([], G x m))) Q
  refine wp_run 8 true (11, ([some (vp 0 0), some (vi p1), some (vi p2), some (vi p3), some (vi p4), some (vi p5), some (vp 43 0), none], ([vi p5, vi p4, vi p3, vi p2, vi p1, vp 0 0, vi 0, vp 43 0], G x m))) rfl rfl ?_
  refine wp_call 2 [vp 0 0, vi p1, vi p2, vi p3, vi p4, vi p5] (14, ([some (vp 0 0), some (vi p1), some (vi p2), some (vi p3), some (vi p4), some (vi p5), some (vp 43 0), none], ([vi 0, vp 43 0], G x m))) rfl rfl (Cl.mono h (Nat.le_refl _) ?_)
  intro r hr
  rcases hr with ⟨v1, m2, rfl, h⟩ | ⟨k3, u4, m5, rfl, h⟩
  · show Wp X (d + 1) 280 (14, ([some (vp 0 0), some (vi p1), some (vi p2), some (vi p3), some (vi p4), some (vi p5), some (vp 43 0), none], ([vi v1, vi 0, vp 43 0], G x m2))) Q
    refine wp_run 4 true (28, ([some (vp 0 0), some (vi p1), some (vi p2), some (vi p3), some (vi p4), some (vi p5), some (vp 43 0), none], ([vi 0], G (v1.toInt64, x.2) m2))) rfl rfl ?_
    exact wp_ret rfl h
  · have hk := h
    by_cases c_0 : k3 = 0
    · subst c_0
      have h := hk.1 rfl
      show Wp X (d + 1) 280 (21, ([some (vp 0 0), some (vi p1), some (vi p2), some (vi p3), some (vi p4), some (vi p5), some (vp 43 0), none], ([], Gu ((0, 0).1 + u4.1, (0, 0).2 + u4.2) x m5))) Q
      refine wp_run 1 true (22, ([some (vp 0 0), some (vi p1), some (vi p2), some (vi p3), some (vi p4), some (vi p5), some (vp 43 0), none], ([vi 1], Gu ((0, 0).1 + u4.1, (0, 0).2 + u4.2) x m5))) rfl rfl ?_
      exact wp_ret rfl h
    by_cases c_1 : k3 = 1
    · subst c_1
      have h := hk.2.1 rfl
      show Wp X (d + 1) 280 (25, ([some (vp 0 0), some (vi p1), some (vi p2), some (vi p3), some (vi p4), some (vi p5), some (vp 43 0), none], ([], Gu ((0, 0).1 + u4.1, (0, 0).2 + u4.2) x m5))) Q
      refine wp_run 1 true (26, ([some (vp 0 0), some (vi p1), some (vi p2), some (vi p3), some (vi p4), some (vi p5), some (vp 43 0), none], ([vi 2], Gu ((0, 0).1 + u4.1, (0, 0).2 + u4.2) x m5))) rfl rfl ?_
      exact wp_ret rfl h
    have h := hk.2.2 ⟨c_0, c_1⟩
    have hn : hfind (mhd 280) 11 k3 = none := by
      simp only [show mhd 280 = [(0, (16, (19, (7, 0)))), (0, (16, (23, (7, 1))))] from rfl, hfind, cond_eq_ite]
      simp [Ne.symm c_0, c_0, Ne.symm c_1, c_1]
    show Kal X (d + 1) 280 11 (14, ([some (vp 0 0), some (vi p1), some (vi p2), some (vi p3), some (vi p4), some (vi p5), some (vp 43 0), none], ([vi 0, vp 43 0], G x m))) Q (.inr k3, Gu u4 x m5)
    unfold Kal
    dsimp only
    rw [hn]
    exact h
set_option maxRecDepth 100000 in
set_option maxHeartbeats 4000000 in
theorem vc_L_withdraw {X : MX} {d : Nat} {x : Int64 × UInt64} {m : MI} {Q : MRes → Prop} {p1 : Int32} (h : Cl X d 3 [vp 0 0, vi p1] (G x m) (fun r => (∃ (v1 : Int32) (m2 : MI), r = (.inl (some (vi v1)), G x m2) ∧ Q (.inl (some (vi 0)), G (v1.toInt64, x.2) m2)) ∨ (∃ (k3 : Nat) (u4 : Nat × Nat) (m5 : MI), r = (.inr k3, Gu u4 x m5) ∧ ((k3 = 2 → Q (.inl (some (vi 1)), Gu ((0, 0).1 + u4.1, (0, 0).2 + u4.2) x m5)) ∧ ((¬ k3 = 2) → Q (.inr k3, Gu ((0, 0).1 + u4.1, (0, 0).2 + u4.2) x m5)))))) : Cl X (d + 1) 281 [vp 0 0, vi p1, vp 43 0] (G x m) Q := by
  show Wp X (d + 1) 281 (0, ([some (vp 0 0), some (vi p1), some (vp 43 0), none], ([], G x m))) Q
  refine wp_run 4 true (4, ([some (vp 0 0), some (vi p1), some (vp 43 0), none], ([vi p1, vp 0 0, vi 0, vp 43 0], G x m))) rfl rfl ?_
  refine wp_call 3 [vp 0 0, vi p1] (7, ([some (vp 0 0), some (vi p1), some (vp 43 0), none], ([vi 0, vp 43 0], G x m))) rfl rfl (Cl.mono h (Nat.le_refl _) ?_)
  intro r hr
  rcases hr with ⟨v1, m2, rfl, h⟩ | ⟨k3, u4, m5, rfl, h⟩
  · show Wp X (d + 1) 281 (7, ([some (vp 0 0), some (vi p1), some (vp 43 0), none], ([vi v1, vi 0, vp 43 0], G x m2))) Q
    refine wp_run 4 true (16, ([some (vp 0 0), some (vi p1), some (vp 43 0), none], ([vi 0], G (v1.toInt64, x.2) m2))) rfl rfl ?_
    exact wp_ret rfl h
  · have hk := h
    by_cases c_2 : k3 = 2
    · subst c_2
      have h := hk.1 rfl
      show Wp X (d + 1) 281 (13, ([some (vp 0 0), some (vi p1), some (vp 43 0), none], ([], Gu ((0, 0).1 + u4.1, (0, 0).2 + u4.2) x m5))) Q
      refine wp_run 1 true (14, ([some (vp 0 0), some (vi p1), some (vp 43 0), none], ([vi 1], Gu ((0, 0).1 + u4.1, (0, 0).2 + u4.2) x m5))) rfl rfl ?_
      exact wp_ret rfl h
    have h := hk.2 c_2
    have hn : hfind (mhd 281) 4 k3 = none := by
      simp only [show mhd 281 = [(0, (9, (12, (3, 2))))] from rfl, hfind, cond_eq_ite]
      simp [Ne.symm c_2, c_2]
    show Kal X (d + 1) 281 4 (7, ([some (vp 0 0), some (vi p1), some (vp 43 0), none], ([vi 0, vp 43 0], G x m))) Q (.inr k3, Gu u4 x m5)
    unfold Kal
    dsimp only
    rw [hn]
    exact h
set_option maxRecDepth 100000 in
set_option maxHeartbeats 4000000 in
theorem vc_L_discard {X : MX} {d : Nat} {x : Int64 × UInt64} {m : MI} {Q : MRes → Prop} {p1 : Int32} (h : Cl X d 4 [vp 0 0, vi p1] (G x m) (fun r => (∃ (v1 : Int32) (m2 : MI), r = (.inl (some (vi v1)), G x m2) ∧ Q (.inl (some (vi 0)), G (v1.toInt64, x.2) m2)) ∨ (∃ (k3 : Nat) (u4 : Nat × Nat) (m5 : MI), r = (.inr k3, Gu u4 x m5) ∧ ((k3 = 2 → Q (.inl (some (vi 1)), Gu ((0, 0).1 + u4.1, (0, 0).2 + u4.2) x m5)) ∧ ((¬ k3 = 2) → Q (.inr k3, Gu ((0, 0).1 + u4.1, (0, 0).2 + u4.2) x m5)))))) : Cl X (d + 1) 282 [vp 0 0, vi p1, vp 43 0] (G x m) Q := by
  show Wp X (d + 1) 282 (0, ([some (vp 0 0), some (vi p1), some (vp 43 0), none], ([], G x m))) Q
  refine wp_run 4 true (4, ([some (vp 0 0), some (vi p1), some (vp 43 0), none], ([vi p1, vp 0 0, vi 0, vp 43 0], G x m))) rfl rfl ?_
  refine wp_call 4 [vp 0 0, vi p1] (7, ([some (vp 0 0), some (vi p1), some (vp 43 0), none], ([vi 0, vp 43 0], G x m))) rfl rfl (Cl.mono h (Nat.le_refl _) ?_)
  intro r hr
  rcases hr with ⟨v1, m2, rfl, h⟩ | ⟨k3, u4, m5, rfl, h⟩
  · show Wp X (d + 1) 282 (7, ([some (vp 0 0), some (vi p1), some (vp 43 0), none], ([vi v1, vi 0, vp 43 0], G x m2))) Q
    refine wp_run 4 true (16, ([some (vp 0 0), some (vi p1), some (vp 43 0), none], ([vi 0], G (v1.toInt64, x.2) m2))) rfl rfl ?_
    exact wp_ret rfl h
  · have hk := h
    by_cases c_2 : k3 = 2
    · subst c_2
      have h := hk.1 rfl
      show Wp X (d + 1) 282 (13, ([some (vp 0 0), some (vi p1), some (vp 43 0), none], ([], Gu ((0, 0).1 + u4.1, (0, 0).2 + u4.2) x m5))) Q
      refine wp_run 1 true (14, ([some (vp 0 0), some (vi p1), some (vp 43 0), none], ([vi 1], Gu ((0, 0).1 + u4.1, (0, 0).2 + u4.2) x m5))) rfl rfl ?_
      exact wp_ret rfl h
    have h := hk.2 c_2
    have hn : hfind (mhd 282) 4 k3 = none := by
      simp only [show mhd 282 = [(0, (9, (12, (3, 2))))] from rfl, hfind, cond_eq_ite]
      simp [Ne.symm c_2, c_2]
    show Kal X (d + 1) 282 4 (7, ([some (vp 0 0), some (vi p1), some (vp 43 0), none], ([vi 0, vp 43 0], G x m))) Q (.inr k3, Gu u4 x m5)
    unfold Kal
    dsimp only
    rw [hn]
    exact h
set_option maxRecDepth 100000 in
set_option maxHeartbeats 4000000 in
theorem vc_L_setMetric {X : MX} {d : Nat} {x : Int64 × UInt64} {m : MI} {Q : MRes → Prop} {p1 : Int32} (h : Cl X d 5 [vp 0 0, vi p1] (G x m) (fun r => (∃ (v1 : Int32) (m2 : MI), r = (.inl (some (vi v1)), G x m2) ∧ Q (.inl (some (vi 0)), G (v1.toInt64, x.2) m2)) ∨ (∃ (k3 : Nat) (u4 : Nat × Nat) (m5 : MI), r = (.inr k3, Gu u4 x m5) ∧ ((k3 = 0 → Q (.inl (some (vi 1)), Gu ((0, 0).1 + u4.1, (0, 0).2 + u4.2) x m5)) ∧ ((¬ k3 = 0) → Q (.inr k3, Gu ((0, 0).1 + u4.1, (0, 0).2 + u4.2) x m5)))))) : Cl X (d + 1) 283 [vp 0 0, vi p1, vp 43 0] (G x m) Q := by
  show Wp X (d + 1) 283 (0, ([some (vp 0 0), some (vi p1), some (vp 43 0), none], ([], G x m))) Q
  refine wp_run 4 true (4, ([some (vp 0 0), some (vi p1), some (vp 43 0), none], ([vi p1, vp 0 0, vi 0, vp 43 0], G x m))) rfl rfl ?_
  refine wp_call 5 [vp 0 0, vi p1] (7, ([some (vp 0 0), some (vi p1), some (vp 43 0), none], ([vi 0, vp 43 0], G x m))) rfl rfl (Cl.mono h (Nat.le_refl _) ?_)
  intro r hr
  rcases hr with ⟨v1, m2, rfl, h⟩ | ⟨k3, u4, m5, rfl, h⟩
  · show Wp X (d + 1) 283 (7, ([some (vp 0 0), some (vi p1), some (vp 43 0), none], ([vi v1, vi 0, vp 43 0], G x m2))) Q
    refine wp_run 4 true (16, ([some (vp 0 0), some (vi p1), some (vp 43 0), none], ([vi 0], G (v1.toInt64, x.2) m2))) rfl rfl ?_
    exact wp_ret rfl h
  · have hk := h
    by_cases c_0 : k3 = 0
    · subst c_0
      have h := hk.1 rfl
      show Wp X (d + 1) 283 (13, ([some (vp 0 0), some (vi p1), some (vp 43 0), none], ([], Gu ((0, 0).1 + u4.1, (0, 0).2 + u4.2) x m5))) Q
      refine wp_run 1 true (14, ([some (vp 0 0), some (vi p1), some (vp 43 0), none], ([vi 1], Gu ((0, 0).1 + u4.1, (0, 0).2 + u4.2) x m5))) rfl rfl ?_
      exact wp_ret rfl h
    have h := hk.2 c_0
    have hn : hfind (mhd 283) 4 k3 = none := by
      simp only [show mhd 283 = [(0, (9, (12, (3, 0))))] from rfl, hfind, cond_eq_ite]
      simp [Ne.symm c_0, c_0]
    show Kal X (d + 1) 283 4 (7, ([some (vp 0 0), some (vi p1), some (vp 43 0), none], ([vi 0, vp 43 0], G x m))) Q (.inr k3, Gu u4 x m5)
    unfold Kal
    dsimp only
    rw [hn]
    exact h
set_option maxRecDepth 100000 in
set_option maxHeartbeats 4000000 in
theorem vc_L_giveBack {X : MX} {d : Nat} {x : Int64 × UInt64} {m : MI} {Q : MRes → Prop} {p1 : Int32} {p2 : Int32} (h : Cl X d 6 [vp 0 0, vi p1, vi p2] (G x m) (fun r => (∃ (v1 : Int32) (m2 : MI), r = (.inl (some (vi v1)), G x m2) ∧ Q (.inl (some (vi 0)), G (v1.toInt64, x.2) m2)) ∨ (∃ (k3 : Nat) (u4 : Nat × Nat) (m5 : MI), r = (.inr k3, Gu u4 x m5) ∧ ((k3 = 2 → Q (.inl (some (vi 1)), Gu ((0, 0).1 + u4.1, (0, 0).2 + u4.2) x m5)) ∧ (k3 = 3 → Q (.inl (some (vi 2)), Gu ((0, 0).1 + u4.1, (0, 0).2 + u4.2) x m5)) ∧ ((¬ k3 = 2 ∧ ¬ k3 = 3) → Q (.inr k3, Gu ((0, 0).1 + u4.1, (0, 0).2 + u4.2) x m5)))))) : Cl X (d + 1) 284 [vp 0 0, vi p1, vi p2, vp 43 0] (G x m) Q := by
  show Wp X (d + 1) 284 (0, ([some (vp 0 0), some (vi p1), some (vi p2), some (vp 43 0), none], ([], G x m))) Q
  refine wp_run 5 true (5, ([some (vp 0 0), some (vi p1), some (vi p2), some (vp 43 0), none], ([vi p2, vi p1, vp 0 0, vi 0, vp 43 0], G x m))) rfl rfl ?_
  refine wp_call 6 [vp 0 0, vi p1, vi p2] (8, ([some (vp 0 0), some (vi p1), some (vi p2), some (vp 43 0), none], ([vi 0, vp 43 0], G x m))) rfl rfl (Cl.mono h (Nat.le_refl _) ?_)
  intro r hr
  rcases hr with ⟨v1, m2, rfl, h⟩ | ⟨k3, u4, m5, rfl, h⟩
  · show Wp X (d + 1) 284 (8, ([some (vp 0 0), some (vi p1), some (vi p2), some (vp 43 0), none], ([vi v1, vi 0, vp 43 0], G x m2))) Q
    refine wp_run 4 true (22, ([some (vp 0 0), some (vi p1), some (vi p2), some (vp 43 0), none], ([vi 0], G (v1.toInt64, x.2) m2))) rfl rfl ?_
    exact wp_ret rfl h
  · have hk := h
    by_cases c_2 : k3 = 2
    · subst c_2
      have h := hk.1 rfl
      show Wp X (d + 1) 284 (15, ([some (vp 0 0), some (vi p1), some (vi p2), some (vp 43 0), none], ([], Gu ((0, 0).1 + u4.1, (0, 0).2 + u4.2) x m5))) Q
      refine wp_run 1 true (16, ([some (vp 0 0), some (vi p1), some (vi p2), some (vp 43 0), none], ([vi 1], Gu ((0, 0).1 + u4.1, (0, 0).2 + u4.2) x m5))) rfl rfl ?_
      exact wp_ret rfl h
    by_cases c_3 : k3 = 3
    · subst c_3
      have h := hk.2.1 rfl
      show Wp X (d + 1) 284 (19, ([some (vp 0 0), some (vi p1), some (vi p2), some (vp 43 0), none], ([], Gu ((0, 0).1 + u4.1, (0, 0).2 + u4.2) x m5))) Q
      refine wp_run 1 true (20, ([some (vp 0 0), some (vi p1), some (vi p2), some (vp 43 0), none], ([vi 2], Gu ((0, 0).1 + u4.1, (0, 0).2 + u4.2) x m5))) rfl rfl ?_
      exact wp_ret rfl h
    have h := hk.2.2 ⟨c_2, c_3⟩
    have hn : hfind (mhd 284) 5 k3 = none := by
      simp only [show mhd 284 = [(0, (10, (13, (4, 2)))), (0, (10, (17, (4, 3))))] from rfl, hfind, cond_eq_ite]
      simp [Ne.symm c_2, c_2, Ne.symm c_3, c_3]
    show Kal X (d + 1) 284 5 (8, ([some (vp 0 0), some (vi p1), some (vi p2), some (vp 43 0), none], ([vi 0, vp 43 0], G x m))) Q (.inr k3, Gu u4 x m5)
    unfold Kal
    dsimp only
    rw [hn]
    exact h
set_option maxRecDepth 100000 in
set_option maxHeartbeats 4000000 in
theorem vc_L_mix {X : MX} {d : Nat} {x : Int64 × UInt64} {m : MI} {Q : MRes → Prop} {p1 : Int32} {p2 : Int32} (h : Cl X d 8 [vp 0 0, vi p1, vi p2] (G x m) (fun r => (∃ (v1 : Int32) (m2 : MI), r = (.inl (some (vi v1)), G x m2) ∧ Q (.inl (some (vi 0)), G (v1.toInt64, x.2) m2)) ∨ (∃ (k3 : Nat) (u4 : Nat × Nat) (m5 : MI), r = (.inr k3, Gu u4 x m5) ∧ ((k3 = 2 → Q (.inl (some (vi 1)), Gu ((0, 0).1 + u4.1, (0, 0).2 + u4.2) x m5)) ∧ (k3 = 0 → Q (.inl (some (vi 2)), Gu ((0, 0).1 + u4.1, (0, 0).2 + u4.2) x m5)) ∧ ((¬ k3 = 2 ∧ ¬ k3 = 0) → Q (.inr k3, Gu ((0, 0).1 + u4.1, (0, 0).2 + u4.2) x m5)))))) : Cl X (d + 1) 285 [vp 0 0, vi p1, vi p2, vp 43 0] (G x m) Q := by
  show Wp X (d + 1) 285 (0, ([some (vp 0 0), some (vi p1), some (vi p2), some (vp 43 0), none], ([], G x m))) Q
  refine wp_run 5 true (5, ([some (vp 0 0), some (vi p1), some (vi p2), some (vp 43 0), none], ([vi p2, vi p1, vp 0 0, vi 0, vp 43 0], G x m))) rfl rfl ?_
  refine wp_call 8 [vp 0 0, vi p1, vi p2] (8, ([some (vp 0 0), some (vi p1), some (vi p2), some (vp 43 0), none], ([vi 0, vp 43 0], G x m))) rfl rfl (Cl.mono h (Nat.le_refl _) ?_)
  intro r hr
  rcases hr with ⟨v1, m2, rfl, h⟩ | ⟨k3, u4, m5, rfl, h⟩
  · show Wp X (d + 1) 285 (8, ([some (vp 0 0), some (vi p1), some (vi p2), some (vp 43 0), none], ([vi v1, vi 0, vp 43 0], G x m2))) Q
    refine wp_run 4 true (22, ([some (vp 0 0), some (vi p1), some (vi p2), some (vp 43 0), none], ([vi 0], G (v1.toInt64, x.2) m2))) rfl rfl ?_
    exact wp_ret rfl h
  · have hk := h
    by_cases c_2 : k3 = 2
    · subst c_2
      have h := hk.1 rfl
      show Wp X (d + 1) 285 (15, ([some (vp 0 0), some (vi p1), some (vi p2), some (vp 43 0), none], ([], Gu ((0, 0).1 + u4.1, (0, 0).2 + u4.2) x m5))) Q
      refine wp_run 1 true (16, ([some (vp 0 0), some (vi p1), some (vi p2), some (vp 43 0), none], ([vi 1], Gu ((0, 0).1 + u4.1, (0, 0).2 + u4.2) x m5))) rfl rfl ?_
      exact wp_ret rfl h
    by_cases c_0 : k3 = 0
    · subst c_0
      have h := hk.2.1 rfl
      show Wp X (d + 1) 285 (19, ([some (vp 0 0), some (vi p1), some (vi p2), some (vp 43 0), none], ([], Gu ((0, 0).1 + u4.1, (0, 0).2 + u4.2) x m5))) Q
      refine wp_run 1 true (20, ([some (vp 0 0), some (vi p1), some (vi p2), some (vp 43 0), none], ([vi 2], Gu ((0, 0).1 + u4.1, (0, 0).2 + u4.2) x m5))) rfl rfl ?_
      exact wp_ret rfl h
    have h := hk.2.2 ⟨c_2, c_0⟩
    have hn : hfind (mhd 285) 5 k3 = none := by
      simp only [show mhd 285 = [(0, (10, (13, (4, 2)))), (0, (10, (17, (4, 0))))] from rfl, hfind, cond_eq_ite]
      simp [Ne.symm c_2, c_2, Ne.symm c_0, c_0]
    show Kal X (d + 1) 285 5 (8, ([some (vp 0 0), some (vi p1), some (vi p2), some (vp 43 0), none], ([vi 0, vp 43 0], G x m))) Q (.inr k3, Gu u4 x m5)
    unfold Kal
    dsimp only
    rw [hn]
    exact h
set_option maxRecDepth 100000 in
set_option maxHeartbeats 4000000 in
theorem vc_L_passDays {X : MX} {d : Nat} {x : Int64 × UInt64} {m : MI} {Q : MRes → Prop} {p1 : Int32} (h : Cl X d 9 [vp 0 0, vi p1] (G x m) (fun r => (∃ (v1 : Int32) (m2 : MI), r = (.inl (some (vi v1)), G x m2) ∧ Q (.inl (some (vi 0)), G (v1.toInt64, x.2) m2)) ∨ (∃ (k3 : Nat) (u4 : Nat × Nat) (m5 : MI), r = (.inr k3, Gu u4 x m5) ∧ ((k3 = 0 → Q (.inl (some (vi 1)), Gu ((0, 0).1 + u4.1, (0, 0).2 + u4.2) x m5)) ∧ ((¬ k3 = 0) → Q (.inr k3, Gu ((0, 0).1 + u4.1, (0, 0).2 + u4.2) x m5)))))) : Cl X (d + 1) 286 [vp 0 0, vi p1, vp 43 0] (G x m) Q := by
  show Wp X (d + 1) 286 (0, ([some (vp 0 0), some (vi p1), some (vp 43 0), none], ([], G x m))) Q
  refine wp_run 4 true (4, ([some (vp 0 0), some (vi p1), some (vp 43 0), none], ([vi p1, vp 0 0, vi 0, vp 43 0], G x m))) rfl rfl ?_
  refine wp_call 9 [vp 0 0, vi p1] (7, ([some (vp 0 0), some (vi p1), some (vp 43 0), none], ([vi 0, vp 43 0], G x m))) rfl rfl (Cl.mono h (Nat.le_refl _) ?_)
  intro r hr
  rcases hr with ⟨v1, m2, rfl, h⟩ | ⟨k3, u4, m5, rfl, h⟩
  · show Wp X (d + 1) 286 (7, ([some (vp 0 0), some (vi p1), some (vp 43 0), none], ([vi v1, vi 0, vp 43 0], G x m2))) Q
    refine wp_run 4 true (16, ([some (vp 0 0), some (vi p1), some (vp 43 0), none], ([vi 0], G (v1.toInt64, x.2) m2))) rfl rfl ?_
    exact wp_ret rfl h
  · have hk := h
    by_cases c_0 : k3 = 0
    · subst c_0
      have h := hk.1 rfl
      show Wp X (d + 1) 286 (13, ([some (vp 0 0), some (vi p1), some (vp 43 0), none], ([], Gu ((0, 0).1 + u4.1, (0, 0).2 + u4.2) x m5))) Q
      refine wp_run 1 true (14, ([some (vp 0 0), some (vi p1), some (vp 43 0), none], ([vi 1], Gu ((0, 0).1 + u4.1, (0, 0).2 + u4.2) x m5))) rfl rfl ?_
      exact wp_ret rfl h
    have h := hk.2 c_0
    have hn : hfind (mhd 286) 4 k3 = none := by
      simp only [show mhd 286 = [(0, (9, (12, (3, 0))))] from rfl, hfind, cond_eq_ite]
      simp [Ne.symm c_0, c_0]
    show Kal X (d + 1) 286 4 (7, ([some (vp 0 0), some (vi p1), some (vp 43 0), none], ([vi 0, vp 43 0], G x m))) Q (.inr k3, Gu u4 x m5)
    unfold Kal
    dsimp only
    rw [hn]
    exact h
set_option maxRecDepth 100000 in
set_option maxHeartbeats 4000000 in
theorem vc_L_colourAt {X : MX} {d : Nat} {x : Int64 × UInt64} {m : MI} {Q : MRes → Prop} {p1 : Int32} (h : Cl X d 11 [vp 0 0, vi p1] (G x m) (fun r => (∃ (v1 : Int32) (m2 : MI), r = (.inl (some (vi v1)), G x m2) ∧ Q (.inl (some (vi 0)), G (v1.toInt64, x.2) m2)) ∨ (∃ (k3 : Nat) (u4 : Nat × Nat) (m5 : MI), r = (.inr k3, Gu u4 x m5) ∧ ((k3 = 2 → Q (.inl (some (vi 1)), Gu ((0, 0).1 + u4.1, (0, 0).2 + u4.2) x m5)) ∧ ((¬ k3 = 2) → Q (.inr k3, Gu ((0, 0).1 + u4.1, (0, 0).2 + u4.2) x m5)))))) : Cl X (d + 1) 287 [vp 0 0, vi p1, vp 43 0] (G x m) Q := by
  show Wp X (d + 1) 287 (0, ([some (vp 0 0), some (vi p1), some (vp 43 0), none], ([], G x m))) Q
  refine wp_run 4 true (4, ([some (vp 0 0), some (vi p1), some (vp 43 0), none], ([vi p1, vp 0 0, vi 0, vp 43 0], G x m))) rfl rfl ?_
  refine wp_call 11 [vp 0 0, vi p1] (7, ([some (vp 0 0), some (vi p1), some (vp 43 0), none], ([vi 0, vp 43 0], G x m))) rfl rfl (Cl.mono h (Nat.le_refl _) ?_)
  intro r hr
  rcases hr with ⟨v1, m2, rfl, h⟩ | ⟨k3, u4, m5, rfl, h⟩
  · show Wp X (d + 1) 287 (7, ([some (vp 0 0), some (vi p1), some (vp 43 0), none], ([vi v1, vi 0, vp 43 0], G x m2))) Q
    refine wp_run 4 true (16, ([some (vp 0 0), some (vi p1), some (vp 43 0), none], ([vi 0], G (v1.toInt64, x.2) m2))) rfl rfl ?_
    exact wp_ret rfl h
  · have hk := h
    by_cases c_2 : k3 = 2
    · subst c_2
      have h := hk.1 rfl
      show Wp X (d + 1) 287 (13, ([some (vp 0 0), some (vi p1), some (vp 43 0), none], ([], Gu ((0, 0).1 + u4.1, (0, 0).2 + u4.2) x m5))) Q
      refine wp_run 1 true (14, ([some (vp 0 0), some (vi p1), some (vp 43 0), none], ([vi 1], Gu ((0, 0).1 + u4.1, (0, 0).2 + u4.2) x m5))) rfl rfl ?_
      exact wp_ret rfl h
    have h := hk.2 c_2
    have hn : hfind (mhd 287) 4 k3 = none := by
      simp only [show mhd 287 = [(0, (9, (12, (3, 2))))] from rfl, hfind, cond_eq_ite]
      simp [Ne.symm c_2, c_2]
    show Kal X (d + 1) 287 4 (7, ([some (vp 0 0), some (vi p1), some (vp 43 0), none], ([vi 0, vp 43 0], G x m))) Q (.inr k3, Gu u4 x m5)
    unfold Kal
    dsimp only
    rw [hn]
    exact h
set_option maxRecDepth 100000 in
set_option maxHeartbeats 4000000 in
theorem vc_L_red {X : MX} {d : Nat} {x : Int64 × UInt64} {m : MI} {Q : MRes → Prop} {p1 : Int32} (h : Cl X d 12 [vp 0 0, vi p1] (G x m) (fun r => (∃ (v1 : Int32) (m2 : MI), r = (.inl (some (vi v1)), G x m2) ∧ Q (.inl (some (vi 0)), G (v1.toInt64, x.2) m2)) ∨ (∃ (k3 : Nat) (u4 : Nat × Nat) (m5 : MI), r = (.inr k3, Gu u4 x m5) ∧ ((k3 = 2 → Q (.inl (some (vi 1)), Gu ((0, 0).1 + u4.1, (0, 0).2 + u4.2) x m5)) ∧ ((¬ k3 = 2) → Q (.inr k3, Gu ((0, 0).1 + u4.1, (0, 0).2 + u4.2) x m5)))))) : Cl X (d + 1) 288 [vp 0 0, vi p1, vp 43 0] (G x m) Q := by
  show Wp X (d + 1) 288 (0, ([some (vp 0 0), some (vi p1), some (vp 43 0), none], ([], G x m))) Q
  refine wp_run 4 true (4, ([some (vp 0 0), some (vi p1), some (vp 43 0), none], ([vi p1, vp 0 0, vi 0, vp 43 0], G x m))) rfl rfl ?_
  refine wp_call 12 [vp 0 0, vi p1] (7, ([some (vp 0 0), some (vi p1), some (vp 43 0), none], ([vi 0, vp 43 0], G x m))) rfl rfl (Cl.mono h (Nat.le_refl _) ?_)
  intro r hr
  rcases hr with ⟨v1, m2, rfl, h⟩ | ⟨k3, u4, m5, rfl, h⟩
  · show Wp X (d + 1) 288 (7, ([some (vp 0 0), some (vi p1), some (vp 43 0), none], ([vi v1, vi 0, vp 43 0], G x m2))) Q
    refine wp_run 4 true (16, ([some (vp 0 0), some (vi p1), some (vp 43 0), none], ([vi 0], G (v1.toInt64, x.2) m2))) rfl rfl ?_
    exact wp_ret rfl h
  · have hk := h
    by_cases c_2 : k3 = 2
    · subst c_2
      have h := hk.1 rfl
      show Wp X (d + 1) 288 (13, ([some (vp 0 0), some (vi p1), some (vp 43 0), none], ([], Gu ((0, 0).1 + u4.1, (0, 0).2 + u4.2) x m5))) Q
      refine wp_run 1 true (14, ([some (vp 0 0), some (vi p1), some (vp 43 0), none], ([vi 1], Gu ((0, 0).1 + u4.1, (0, 0).2 + u4.2) x m5))) rfl rfl ?_
      exact wp_ret rfl h
    have h := hk.2 c_2
    have hn : hfind (mhd 288) 4 k3 = none := by
      simp only [show mhd 288 = [(0, (9, (12, (3, 2))))] from rfl, hfind, cond_eq_ite]
      simp [Ne.symm c_2, c_2]
    show Kal X (d + 1) 288 4 (7, ([some (vp 0 0), some (vi p1), some (vp 43 0), none], ([vi 0, vp 43 0], G x m))) Q (.inr k3, Gu u4 x m5)
    unfold Kal
    dsimp only
    rw [hn]
    exact h
set_option maxRecDepth 100000 in
set_option maxHeartbeats 4000000 in
theorem vc_L_green {X : MX} {d : Nat} {x : Int64 × UInt64} {m : MI} {Q : MRes → Prop} {p1 : Int32} (h : Cl X d 13 [vp 0 0, vi p1] (G x m) (fun r => (∃ (v1 : Int32) (m2 : MI), r = (.inl (some (vi v1)), G x m2) ∧ Q (.inl (some (vi 0)), G (v1.toInt64, x.2) m2)) ∨ (∃ (k3 : Nat) (u4 : Nat × Nat) (m5 : MI), r = (.inr k3, Gu u4 x m5) ∧ ((k3 = 2 → Q (.inl (some (vi 1)), Gu ((0, 0).1 + u4.1, (0, 0).2 + u4.2) x m5)) ∧ ((¬ k3 = 2) → Q (.inr k3, Gu ((0, 0).1 + u4.1, (0, 0).2 + u4.2) x m5)))))) : Cl X (d + 1) 289 [vp 0 0, vi p1, vp 43 0] (G x m) Q := by
  show Wp X (d + 1) 289 (0, ([some (vp 0 0), some (vi p1), some (vp 43 0), none], ([], G x m))) Q
  refine wp_run 4 true (4, ([some (vp 0 0), some (vi p1), some (vp 43 0), none], ([vi p1, vp 0 0, vi 0, vp 43 0], G x m))) rfl rfl ?_
  refine wp_call 13 [vp 0 0, vi p1] (7, ([some (vp 0 0), some (vi p1), some (vp 43 0), none], ([vi 0, vp 43 0], G x m))) rfl rfl (Cl.mono h (Nat.le_refl _) ?_)
  intro r hr
  rcases hr with ⟨v1, m2, rfl, h⟩ | ⟨k3, u4, m5, rfl, h⟩
  · show Wp X (d + 1) 289 (7, ([some (vp 0 0), some (vi p1), some (vp 43 0), none], ([vi v1, vi 0, vp 43 0], G x m2))) Q
    refine wp_run 4 true (16, ([some (vp 0 0), some (vi p1), some (vp 43 0), none], ([vi 0], G (v1.toInt64, x.2) m2))) rfl rfl ?_
    exact wp_ret rfl h
  · have hk := h
    by_cases c_2 : k3 = 2
    · subst c_2
      have h := hk.1 rfl
      show Wp X (d + 1) 289 (13, ([some (vp 0 0), some (vi p1), some (vp 43 0), none], ([], Gu ((0, 0).1 + u4.1, (0, 0).2 + u4.2) x m5))) Q
      refine wp_run 1 true (14, ([some (vp 0 0), some (vi p1), some (vp 43 0), none], ([vi 1], Gu ((0, 0).1 + u4.1, (0, 0).2 + u4.2) x m5))) rfl rfl ?_
      exact wp_ret rfl h
    have h := hk.2 c_2
    have hn : hfind (mhd 289) 4 k3 = none := by
      simp only [show mhd 289 = [(0, (9, (12, (3, 2))))] from rfl, hfind, cond_eq_ite]
      simp [Ne.symm c_2, c_2]
    show Kal X (d + 1) 289 4 (7, ([some (vp 0 0), some (vi p1), some (vp 43 0), none], ([vi 0, vp 43 0], G x m))) Q (.inr k3, Gu u4 x m5)
    unfold Kal
    dsimp only
    rw [hn]
    exact h
set_option maxRecDepth 100000 in
set_option maxHeartbeats 4000000 in
theorem vc_L_blue {X : MX} {d : Nat} {x : Int64 × UInt64} {m : MI} {Q : MRes → Prop} {p1 : Int32} (h : Cl X d 14 [vp 0 0, vi p1] (G x m) (fun r => (∃ (v1 : Int32) (m2 : MI), r = (.inl (some (vi v1)), G x m2) ∧ Q (.inl (some (vi 0)), G (v1.toInt64, x.2) m2)) ∨ (∃ (k3 : Nat) (u4 : Nat × Nat) (m5 : MI), r = (.inr k3, Gu u4 x m5) ∧ ((k3 = 2 → Q (.inl (some (vi 1)), Gu ((0, 0).1 + u4.1, (0, 0).2 + u4.2) x m5)) ∧ ((¬ k3 = 2) → Q (.inr k3, Gu ((0, 0).1 + u4.1, (0, 0).2 + u4.2) x m5)))))) : Cl X (d + 1) 290 [vp 0 0, vi p1, vp 43 0] (G x m) Q := by
  show Wp X (d + 1) 290 (0, ([some (vp 0 0), some (vi p1), some (vp 43 0), none], ([], G x m))) Q
  refine wp_run 4 true (4, ([some (vp 0 0), some (vi p1), some (vp 43 0), none], ([vi p1, vp 0 0, vi 0, vp 43 0], G x m))) rfl rfl ?_
  refine wp_call 14 [vp 0 0, vi p1] (7, ([some (vp 0 0), some (vi p1), some (vp 43 0), none], ([vi 0, vp 43 0], G x m))) rfl rfl (Cl.mono h (Nat.le_refl _) ?_)
  intro r hr
  rcases hr with ⟨v1, m2, rfl, h⟩ | ⟨k3, u4, m5, rfl, h⟩
  · show Wp X (d + 1) 290 (7, ([some (vp 0 0), some (vi p1), some (vp 43 0), none], ([vi v1, vi 0, vp 43 0], G x m2))) Q
    refine wp_run 4 true (16, ([some (vp 0 0), some (vi p1), some (vp 43 0), none], ([vi 0], G (v1.toInt64, x.2) m2))) rfl rfl ?_
    exact wp_ret rfl h
  · have hk := h
    by_cases c_2 : k3 = 2
    · subst c_2
      have h := hk.1 rfl
      show Wp X (d + 1) 290 (13, ([some (vp 0 0), some (vi p1), some (vp 43 0), none], ([], Gu ((0, 0).1 + u4.1, (0, 0).2 + u4.2) x m5))) Q
      refine wp_run 1 true (14, ([some (vp 0 0), some (vi p1), some (vp 43 0), none], ([vi 1], Gu ((0, 0).1 + u4.1, (0, 0).2 + u4.2) x m5))) rfl rfl ?_
      exact wp_ret rfl h
    have h := hk.2 c_2
    have hn : hfind (mhd 290) 4 k3 = none := by
      simp only [show mhd 290 = [(0, (9, (12, (3, 2))))] from rfl, hfind, cond_eq_ite]
      simp [Ne.symm c_2, c_2]
    show Kal X (d + 1) 290 4 (7, ([some (vp 0 0), some (vi p1), some (vp 43 0), none], ([vi 0, vp 43 0], G x m))) Q (.inr k3, Gu u4 x m5)
    unfold Kal
    dsimp only
    rw [hn]
    exact h
set_option maxRecDepth 100000 in
set_option maxHeartbeats 4000000 in
theorem vc_L_fastness {X : MX} {d : Nat} {x : Int64 × UInt64} {m : MI} {Q : MRes → Prop} {p1 : Int32} (h : Cl X d 15 [vp 0 0, vi p1] (G x m) (fun r => (∃ (v1 : Int32) (m2 : MI), r = (.inl (some (vi v1)), G x m2) ∧ Q (.inl (some (vi 0)), G (v1.toInt64, x.2) m2)) ∨ (∃ (k3 : Nat) (u4 : Nat × Nat) (m5 : MI), r = (.inr k3, Gu u4 x m5) ∧ ((k3 = 2 → Q (.inl (some (vi 1)), Gu ((0, 0).1 + u4.1, (0, 0).2 + u4.2) x m5)) ∧ ((¬ k3 = 2) → Q (.inr k3, Gu ((0, 0).1 + u4.1, (0, 0).2 + u4.2) x m5)))))) : Cl X (d + 1) 291 [vp 0 0, vi p1, vp 43 0] (G x m) Q := by
  show Wp X (d + 1) 291 (0, ([some (vp 0 0), some (vi p1), some (vp 43 0), none], ([], G x m))) Q
  refine wp_run 4 true (4, ([some (vp 0 0), some (vi p1), some (vp 43 0), none], ([vi p1, vp 0 0, vi 0, vp 43 0], G x m))) rfl rfl ?_
  refine wp_call 15 [vp 0 0, vi p1] (7, ([some (vp 0 0), some (vi p1), some (vp 43 0), none], ([vi 0, vp 43 0], G x m))) rfl rfl (Cl.mono h (Nat.le_refl _) ?_)
  intro r hr
  rcases hr with ⟨v1, m2, rfl, h⟩ | ⟨k3, u4, m5, rfl, h⟩
  · show Wp X (d + 1) 291 (7, ([some (vp 0 0), some (vi p1), some (vp 43 0), none], ([vi v1, vi 0, vp 43 0], G x m2))) Q
    refine wp_run 4 true (16, ([some (vp 0 0), some (vi p1), some (vp 43 0), none], ([vi 0], G (v1.toInt64, x.2) m2))) rfl rfl ?_
    exact wp_ret rfl h
  · have hk := h
    by_cases c_2 : k3 = 2
    · subst c_2
      have h := hk.1 rfl
      show Wp X (d + 1) 291 (13, ([some (vp 0 0), some (vi p1), some (vp 43 0), none], ([], Gu ((0, 0).1 + u4.1, (0, 0).2 + u4.2) x m5))) Q
      refine wp_run 1 true (14, ([some (vp 0 0), some (vi p1), some (vp 43 0), none], ([vi 1], Gu ((0, 0).1 + u4.1, (0, 0).2 + u4.2) x m5))) rfl rfl ?_
      exact wp_ret rfl h
    have h := hk.2 c_2
    have hn : hfind (mhd 291) 4 k3 = none := by
      simp only [show mhd 291 = [(0, (9, (12, (3, 2))))] from rfl, hfind, cond_eq_ite]
      simp [Ne.symm c_2, c_2]
    show Kal X (d + 1) 291 4 (7, ([some (vp 0 0), some (vi p1), some (vp 43 0), none], ([vi 0, vp 43 0], G x m))) Q (.inr k3, Gu u4 x m5)
    unfold Kal
    dsimp only
    rw [hn]
    exact h
set_option maxRecDepth 100000 in
set_option maxHeartbeats 4000000 in
theorem vc_L_age {X : MX} {d : Nat} {x : Int64 × UInt64} {m : MI} {Q : MRes → Prop} {p1 : Int32} (h : Cl X d 16 [vp 0 0, vi p1] (G x m) (fun r => (∃ (v1 : Int32) (m2 : MI), r = (.inl (some (vi v1)), G x m2) ∧ Q (.inl (some (vi 0)), G (v1.toInt64, x.2) m2)) ∨ (∃ (k3 : Nat) (u4 : Nat × Nat) (m5 : MI), r = (.inr k3, Gu u4 x m5) ∧ ((k3 = 2 → Q (.inl (some (vi 1)), Gu ((0, 0).1 + u4.1, (0, 0).2 + u4.2) x m5)) ∧ ((¬ k3 = 2) → Q (.inr k3, Gu ((0, 0).1 + u4.1, (0, 0).2 + u4.2) x m5)))))) : Cl X (d + 1) 292 [vp 0 0, vi p1, vp 43 0] (G x m) Q := by
  show Wp X (d + 1) 292 (0, ([some (vp 0 0), some (vi p1), some (vp 43 0), none], ([], G x m))) Q
  refine wp_run 4 true (4, ([some (vp 0 0), some (vi p1), some (vp 43 0), none], ([vi p1, vp 0 0, vi 0, vp 43 0], G x m))) rfl rfl ?_
  refine wp_call 16 [vp 0 0, vi p1] (7, ([some (vp 0 0), some (vi p1), some (vp 43 0), none], ([vi 0, vp 43 0], G x m))) rfl rfl (Cl.mono h (Nat.le_refl _) ?_)
  intro r hr
  rcases hr with ⟨v1, m2, rfl, h⟩ | ⟨k3, u4, m5, rfl, h⟩
  · show Wp X (d + 1) 292 (7, ([some (vp 0 0), some (vi p1), some (vp 43 0), none], ([vi v1, vi 0, vp 43 0], G x m2))) Q
    refine wp_run 4 true (16, ([some (vp 0 0), some (vi p1), some (vp 43 0), none], ([vi 0], G (v1.toInt64, x.2) m2))) rfl rfl ?_
    exact wp_ret rfl h
  · have hk := h
    by_cases c_2 : k3 = 2
    · subst c_2
      have h := hk.1 rfl
      show Wp X (d + 1) 292 (13, ([some (vp 0 0), some (vi p1), some (vp 43 0), none], ([], Gu ((0, 0).1 + u4.1, (0, 0).2 + u4.2) x m5))) Q
      refine wp_run 1 true (14, ([some (vp 0 0), some (vi p1), some (vp 43 0), none], ([vi 1], Gu ((0, 0).1 + u4.1, (0, 0).2 + u4.2) x m5))) rfl rfl ?_
      exact wp_ret rfl h
    have h := hk.2 c_2
    have hn : hfind (mhd 292) 4 k3 = none := by
      simp only [show mhd 292 = [(0, (9, (12, (3, 2))))] from rfl, hfind, cond_eq_ite]
      simp [Ne.symm c_2, c_2]
    show Kal X (d + 1) 292 4 (7, ([some (vp 0 0), some (vi p1), some (vp 43 0), none], ([vi 0, vp 43 0], G x m))) Q (.inr k3, Gu u4 x m5)
    unfold Kal
    dsimp only
    rw [hn]
    exact h
set_option maxRecDepth 100000 in
set_option maxHeartbeats 4000000 in
theorem vc_L_daysUntilGrey {X : MX} {d : Nat} {x : Int64 × UInt64} {m : MI} {Q : MRes → Prop} {p1 : Int32} (h : Cl X d 17 [vp 0 0, vi p1] (G x m) (fun r => (∃ (v1 : Int32) (m2 : MI), r = (.inl (some (vi v1)), G x m2) ∧ Q (.inl (some (vi 0)), G (v1.toInt64, x.2) m2)) ∨ (∃ (k3 : Nat) (u4 : Nat × Nat) (m5 : MI), r = (.inr k3, Gu u4 x m5) ∧ ((k3 = 2 → Q (.inl (some (vi 1)), Gu ((0, 0).1 + u4.1, (0, 0).2 + u4.2) x m5)) ∧ ((¬ k3 = 2) → Q (.inr k3, Gu ((0, 0).1 + u4.1, (0, 0).2 + u4.2) x m5)))))) : Cl X (d + 1) 293 [vp 0 0, vi p1, vp 43 0] (G x m) Q := by
  show Wp X (d + 1) 293 (0, ([some (vp 0 0), some (vi p1), some (vp 43 0), none], ([], G x m))) Q
  refine wp_run 4 true (4, ([some (vp 0 0), some (vi p1), some (vp 43 0), none], ([vi p1, vp 0 0, vi 0, vp 43 0], G x m))) rfl rfl ?_
  refine wp_call 17 [vp 0 0, vi p1] (7, ([some (vp 0 0), some (vi p1), some (vp 43 0), none], ([vi 0, vp 43 0], G x m))) rfl rfl (Cl.mono h (Nat.le_refl _) ?_)
  intro r hr
  rcases hr with ⟨v1, m2, rfl, h⟩ | ⟨k3, u4, m5, rfl, h⟩
  · show Wp X (d + 1) 293 (7, ([some (vp 0 0), some (vi p1), some (vp 43 0), none], ([vi v1, vi 0, vp 43 0], G x m2))) Q
    refine wp_run 4 true (16, ([some (vp 0 0), some (vi p1), some (vp 43 0), none], ([vi 0], G (v1.toInt64, x.2) m2))) rfl rfl ?_
    exact wp_ret rfl h
  · have hk := h
    by_cases c_2 : k3 = 2
    · subst c_2
      have h := hk.1 rfl
      show Wp X (d + 1) 293 (13, ([some (vp 0 0), some (vi p1), some (vp 43 0), none], ([], Gu ((0, 0).1 + u4.1, (0, 0).2 + u4.2) x m5))) Q
      refine wp_run 1 true (14, ([some (vp 0 0), some (vi p1), some (vp 43 0), none], ([vi 1], Gu ((0, 0).1 + u4.1, (0, 0).2 + u4.2) x m5))) rfl rfl ?_
      exact wp_ret rfl h
    have h := hk.2 c_2
    have hn : hfind (mhd 293) 4 k3 = none := by
      simp only [show mhd 293 = [(0, (9, (12, (3, 2))))] from rfl, hfind, cond_eq_ite]
      simp [Ne.symm c_2, c_2]
    show Kal X (d + 1) 293 4 (7, ([some (vp 0 0), some (vi p1), some (vp 43 0), none], ([vi 0, vp 43 0], G x m))) Q (.inr k3, Gu u4 x m5)
    unfold Kal
    dsimp only
    rw [hn]
    exact h
set_option maxRecDepth 100000 in
set_option maxHeartbeats 4000000 in
theorem vc_L_colourByBrightness {X : MX} {d : Nat} {x : Int64 × UInt64} {m : MI} {Q : MRes → Prop} {p1 : Int32} (h : Cl X d 18 [vp 0 0, vi p1] (G x m) (fun r => (∃ (v1 : Int32) (m2 : MI), r = (.inl (some (vi v1)), G x m2) ∧ Q (.inl (some (vi 0)), G (v1.toInt64, x.2) m2)) ∨ (∃ (k3 : Nat) (u4 : Nat × Nat) (m5 : MI), r = (.inr k3, Gu u4 x m5) ∧ ((k3 = 2 → Q (.inl (some (vi 1)), Gu ((0, 0).1 + u4.1, (0, 0).2 + u4.2) x m5)) ∧ ((¬ k3 = 2) → Q (.inr k3, Gu ((0, 0).1 + u4.1, (0, 0).2 + u4.2) x m5)))))) : Cl X (d + 1) 294 [vp 0 0, vi p1, vp 43 0] (G x m) Q := by
  show Wp X (d + 1) 294 (0, ([some (vp 0 0), some (vi p1), some (vp 43 0), none], ([], G x m))) Q
  refine wp_run 4 true (4, ([some (vp 0 0), some (vi p1), some (vp 43 0), none], ([vi p1, vp 0 0, vi 0, vp 43 0], G x m))) rfl rfl ?_
  refine wp_call 18 [vp 0 0, vi p1] (7, ([some (vp 0 0), some (vi p1), some (vp 43 0), none], ([vi 0, vp 43 0], G x m))) rfl rfl (Cl.mono h (Nat.le_refl _) ?_)
  intro r hr
  rcases hr with ⟨v1, m2, rfl, h⟩ | ⟨k3, u4, m5, rfl, h⟩
  · show Wp X (d + 1) 294 (7, ([some (vp 0 0), some (vi p1), some (vp 43 0), none], ([vi v1, vi 0, vp 43 0], G x m2))) Q
    refine wp_run 4 true (16, ([some (vp 0 0), some (vi p1), some (vp 43 0), none], ([vi 0], G (v1.toInt64, x.2) m2))) rfl rfl ?_
    exact wp_ret rfl h
  · have hk := h
    by_cases c_2 : k3 = 2
    · subst c_2
      have h := hk.1 rfl
      show Wp X (d + 1) 294 (13, ([some (vp 0 0), some (vi p1), some (vp 43 0), none], ([], Gu ((0, 0).1 + u4.1, (0, 0).2 + u4.2) x m5))) Q
      refine wp_run 1 true (14, ([some (vp 0 0), some (vi p1), some (vp 43 0), none], ([vi 1], Gu ((0, 0).1 + u4.1, (0, 0).2 + u4.2) x m5))) rfl rfl ?_
      exact wp_ret rfl h
    have h := hk.2 c_2
    have hn : hfind (mhd 294) 4 k3 = none := by
      simp only [show mhd 294 = [(0, (9, (12, (3, 2))))] from rfl, hfind, cond_eq_ite]
      simp [Ne.symm c_2, c_2]
    show Kal X (d + 1) 294 4 (7, ([some (vp 0 0), some (vi p1), some (vp 43 0), none], ([vi 0, vp 43 0], G x m))) Q (.inr k3, Gu u4 x m5)
    unfold Kal
    dsimp only
    rw [hn]
    exact h
set_option maxRecDepth 100000 in
set_option maxHeartbeats 4000000 in
theorem vc_L_reportAt {X : MX} {d : Nat} {x : Int64 × UInt64} {m : MI} {Q : MRes → Prop} {p1 : Int32} (h : Cl X d 20 [vp 0 0, vi p1] (G x m) (fun r => (∃ (v1 : Int32) (m2 : MI), r = (.inl (some (vi v1)), G x m2) ∧ Q (.inl (some (vi 0)), G (v1.toInt64, x.2) m2)) ∨ (∃ (k3 : Nat) (u4 : Nat × Nat) (m5 : MI), r = (.inr k3, Gu u4 x m5) ∧ ((k3 = 2 → Q (.inl (some (vi 1)), Gu ((0, 0).1 + u4.1, (0, 0).2 + u4.2) x m5)) ∧ ((¬ k3 = 2) → Q (.inr k3, Gu ((0, 0).1 + u4.1, (0, 0).2 + u4.2) x m5)))))) : Cl X (d + 1) 295 [vp 0 0, vi p1, vp 43 0] (G x m) Q := by
  show Wp X (d + 1) 295 (0, ([some (vp 0 0), some (vi p1), some (vp 43 0), none], ([], G x m))) Q
  refine wp_run 4 true (4, ([some (vp 0 0), some (vi p1), some (vp 43 0), none], ([vi p1, vp 0 0, vi 0, vp 43 0], G x m))) rfl rfl ?_
  refine wp_call 20 [vp 0 0, vi p1] (7, ([some (vp 0 0), some (vi p1), some (vp 43 0), none], ([vi 0, vp 43 0], G x m))) rfl rfl (Cl.mono h (Nat.le_refl _) ?_)
  intro r hr
  rcases hr with ⟨v1, m2, rfl, h⟩ | ⟨k3, u4, m5, rfl, h⟩
  · show Wp X (d + 1) 295 (7, ([some (vp 0 0), some (vi p1), some (vp 43 0), none], ([vi v1, vi 0, vp 43 0], G x m2))) Q
    refine wp_run 4 true (16, ([some (vp 0 0), some (vi p1), some (vp 43 0), none], ([vi 0], G (v1.toInt64, x.2) m2))) rfl rfl ?_
    exact wp_ret rfl h
  · have hk := h
    by_cases c_2 : k3 = 2
    · subst c_2
      have h := hk.1 rfl
      show Wp X (d + 1) 295 (13, ([some (vp 0 0), some (vi p1), some (vp 43 0), none], ([], Gu ((0, 0).1 + u4.1, (0, 0).2 + u4.2) x m5))) Q
      refine wp_run 1 true (14, ([some (vp 0 0), some (vi p1), some (vp 43 0), none], ([vi 1], Gu ((0, 0).1 + u4.1, (0, 0).2 + u4.2) x m5))) rfl rfl ?_
      exact wp_ret rfl h
    have h := hk.2 c_2
    have hn : hfind (mhd 295) 4 k3 = none := by
      simp only [show mhd 295 = [(0, (9, (12, (3, 2))))] from rfl, hfind, cond_eq_ite]
      simp [Ne.symm c_2, c_2]
    show Kal X (d + 1) 295 4 (7, ([some (vp 0 0), some (vi p1), some (vp 43 0), none], ([vi 0, vp 43 0], G x m))) Q (.inr k3, Gu u4 x m5)
    unfold Kal
    dsimp only
    rw [hn]
    exact h
set_option maxRecDepth 100000 in
set_option maxHeartbeats 4000000 in
theorem vc_L_toleranceOf {X : MX} {d : Nat} {x : Int64 × UInt64} {m : MI} {Q : MRes → Prop} {p1 : Int32} (h : Cl X d 21 [vp 0 0, vi p1] (G x m) (fun r => (∃ (v1 : Int32) (m2 : MI), r = (.inl (some (vi v1)), G x m2) ∧ Q (.inl (some (vi 0)), G (v1.toInt64, x.2) m2)) ∨ (∃ (k3 : Nat) (u4 : Nat × Nat) (m5 : MI), r = (.inr k3, Gu u4 x m5) ∧ ((k3 = 2 → Q (.inl (some (vi 1)), Gu ((0, 0).1 + u4.1, (0, 0).2 + u4.2) x m5)) ∧ ((¬ k3 = 2) → Q (.inr k3, Gu ((0, 0).1 + u4.1, (0, 0).2 + u4.2) x m5)))))) : Cl X (d + 1) 296 [vp 0 0, vi p1, vp 43 0] (G x m) Q := by
  show Wp X (d + 1) 296 (0, ([some (vp 0 0), some (vi p1), some (vp 43 0), none], ([], G x m))) Q
  refine wp_run 4 true (4, ([some (vp 0 0), some (vi p1), some (vp 43 0), none], ([vi p1, vp 0 0, vi 0, vp 43 0], G x m))) rfl rfl ?_
  refine wp_call 21 [vp 0 0, vi p1] (7, ([some (vp 0 0), some (vi p1), some (vp 43 0), none], ([vi 0, vp 43 0], G x m))) rfl rfl (Cl.mono h (Nat.le_refl _) ?_)
  intro r hr
  rcases hr with ⟨v1, m2, rfl, h⟩ | ⟨k3, u4, m5, rfl, h⟩
  · show Wp X (d + 1) 296 (7, ([some (vp 0 0), some (vi p1), some (vp 43 0), none], ([vi v1, vi 0, vp 43 0], G x m2))) Q
    refine wp_run 4 true (16, ([some (vp 0 0), some (vi p1), some (vp 43 0), none], ([vi 0], G (v1.toInt64, x.2) m2))) rfl rfl ?_
    exact wp_ret rfl h
  · have hk := h
    by_cases c_2 : k3 = 2
    · subst c_2
      have h := hk.1 rfl
      show Wp X (d + 1) 296 (13, ([some (vp 0 0), some (vi p1), some (vp 43 0), none], ([], Gu ((0, 0).1 + u4.1, (0, 0).2 + u4.2) x m5))) Q
      refine wp_run 1 true (14, ([some (vp 0 0), some (vi p1), some (vp 43 0), none], ([vi 1], Gu ((0, 0).1 + u4.1, (0, 0).2 + u4.2) x m5))) rfl rfl ?_
      exact wp_ret rfl h
    have h := hk.2 c_2
    have hn : hfind (mhd 296) 4 k3 = none := by
      simp only [show mhd 296 = [(0, (9, (12, (3, 2))))] from rfl, hfind, cond_eq_ite]
      simp [Ne.symm c_2, c_2]
    show Kal X (d + 1) 296 4 (7, ([some (vp 0 0), some (vi p1), some (vp 43 0), none], ([vi 0, vp 43 0], G x m))) Q (.inr k3, Gu u4 x m5)
    unfold Kal
    dsimp only
    rw [hn]
    exact h
set_option maxRecDepth 100000 in
set_option maxHeartbeats 4000000 in
theorem vc_L_rewardOf {X : MX} {d : Nat} {x : Int64 × UInt64} {m : MI} {Q : MRes → Prop} {p1 : Int32} (h : Cl X d 22 [vp 0 0, vi p1] (G x m) (fun r => (∃ (v1 : Int32) (m2 : MI), r = (.inl (some (vi v1)), G x m2) ∧ Q (.inl (some (vi 0)), G (v1.toInt64, x.2) m2)) ∨ (∃ (k3 : Nat) (u4 : Nat × Nat) (m5 : MI), r = (.inr k3, Gu u4 x m5) ∧ ((k3 = 2 → Q (.inl (some (vi 1)), Gu ((0, 0).1 + u4.1, (0, 0).2 + u4.2) x m5)) ∧ ((¬ k3 = 2) → Q (.inr k3, Gu ((0, 0).1 + u4.1, (0, 0).2 + u4.2) x m5)))))) : Cl X (d + 1) 297 [vp 0 0, vi p1, vp 43 0] (G x m) Q := by
  show Wp X (d + 1) 297 (0, ([some (vp 0 0), some (vi p1), some (vp 43 0), none], ([], G x m))) Q
  refine wp_run 4 true (4, ([some (vp 0 0), some (vi p1), some (vp 43 0), none], ([vi p1, vp 0 0, vi 0, vp 43 0], G x m))) rfl rfl ?_
  refine wp_call 22 [vp 0 0, vi p1] (7, ([some (vp 0 0), some (vi p1), some (vp 43 0), none], ([vi 0, vp 43 0], G x m))) rfl rfl (Cl.mono h (Nat.le_refl _) ?_)
  intro r hr
  rcases hr with ⟨v1, m2, rfl, h⟩ | ⟨k3, u4, m5, rfl, h⟩
  · show Wp X (d + 1) 297 (7, ([some (vp 0 0), some (vi p1), some (vp 43 0), none], ([vi v1, vi 0, vp 43 0], G x m2))) Q
    refine wp_run 4 true (16, ([some (vp 0 0), some (vi p1), some (vp 43 0), none], ([vi 0], G (v1.toInt64, x.2) m2))) rfl rfl ?_
    exact wp_ret rfl h
  · have hk := h
    by_cases c_2 : k3 = 2
    · subst c_2
      have h := hk.1 rfl
      show Wp X (d + 1) 297 (13, ([some (vp 0 0), some (vi p1), some (vp 43 0), none], ([], Gu ((0, 0).1 + u4.1, (0, 0).2 + u4.2) x m5))) Q
      refine wp_run 1 true (14, ([some (vp 0 0), some (vi p1), some (vp 43 0), none], ([vi 1], Gu ((0, 0).1 + u4.1, (0, 0).2 + u4.2) x m5))) rfl rfl ?_
      exact wp_ret rfl h
    have h := hk.2 c_2
    have hn : hfind (mhd 297) 4 k3 = none := by
      simp only [show mhd 297 = [(0, (9, (12, (3, 2))))] from rfl, hfind, cond_eq_ite]
      simp [Ne.symm c_2, c_2]
    show Kal X (d + 1) 297 4 (7, ([some (vp 0 0), some (vi p1), some (vp 43 0), none], ([vi 0, vp 43 0], G x m))) Q (.inr k3, Gu u4 x m5)
    unfold Kal
    dsimp only
    rw [hn]
    exact h
set_option maxRecDepth 100000 in
set_option maxHeartbeats 4000000 in
theorem vc_L_distanceFor {X : MX} {d : Nat} {x : Int64 × UInt64} {m : MI} {Q : MRes → Prop} {p1 : Int32} {p2 : Int32} (h : Cl X d 23 [vp 0 0, vi p1, vi p2] (G x m) (fun r => (∃ (v1 : Int32) (m2 : MI), r = (.inl (some (vi v1)), G x m2) ∧ Q (.inl (some (vi 0)), G (v1.toInt64, x.2) m2)) ∨ (∃ (k3 : Nat) (u4 : Nat × Nat) (m5 : MI), r = (.inr k3, Gu u4 x m5) ∧ ((k3 = 2 → Q (.inl (some (vi 1)), Gu ((0, 0).1 + u4.1, (0, 0).2 + u4.2) x m5)) ∧ ((¬ k3 = 2) → Q (.inr k3, Gu ((0, 0).1 + u4.1, (0, 0).2 + u4.2) x m5)))))) : Cl X (d + 1) 298 [vp 0 0, vi p1, vi p2, vp 43 0] (G x m) Q := by
  show Wp X (d + 1) 298 (0, ([some (vp 0 0), some (vi p1), some (vi p2), some (vp 43 0), none], ([], G x m))) Q
  refine wp_run 5 true (5, ([some (vp 0 0), some (vi p1), some (vi p2), some (vp 43 0), none], ([vi p2, vi p1, vp 0 0, vi 0, vp 43 0], G x m))) rfl rfl ?_
  refine wp_call 23 [vp 0 0, vi p1, vi p2] (8, ([some (vp 0 0), some (vi p1), some (vi p2), some (vp 43 0), none], ([vi 0, vp 43 0], G x m))) rfl rfl (Cl.mono h (Nat.le_refl _) ?_)
  intro r hr
  rcases hr with ⟨v1, m2, rfl, h⟩ | ⟨k3, u4, m5, rfl, h⟩
  · show Wp X (d + 1) 298 (8, ([some (vp 0 0), some (vi p1), some (vi p2), some (vp 43 0), none], ([vi v1, vi 0, vp 43 0], G x m2))) Q
    refine wp_run 4 true (18, ([some (vp 0 0), some (vi p1), some (vi p2), some (vp 43 0), none], ([vi 0], G (v1.toInt64, x.2) m2))) rfl rfl ?_
    exact wp_ret rfl h
  · have hk := h
    by_cases c_2 : k3 = 2
    · subst c_2
      have h := hk.1 rfl
      show Wp X (d + 1) 298 (15, ([some (vp 0 0), some (vi p1), some (vi p2), some (vp 43 0), none], ([], Gu ((0, 0).1 + u4.1, (0, 0).2 + u4.2) x m5))) Q
      refine wp_run 1 true (16, ([some (vp 0 0), some (vi p1), some (vi p2), some (vp 43 0), none], ([vi 1], Gu ((0, 0).1 + u4.1, (0, 0).2 + u4.2) x m5))) rfl rfl ?_
      exact wp_ret rfl h
    have h := hk.2 c_2
    have hn : hfind (mhd 298) 5 k3 = none := by
      simp only [show mhd 298 = [(0, (10, (13, (4, 2))))] from rfl, hfind, cond_eq_ite]
      simp [Ne.symm c_2, c_2]
    show Kal X (d + 1) 298 5 (8, ([some (vp 0 0), some (vi p1), some (vi p2), some (vp 43 0), none], ([vi 0, vp 43 0], G x m))) Q (.inr k3, Gu u4 x m5)
    unfold Kal
    dsimp only
    rw [hn]
    exact h
set_option maxRecDepth 100000 in
set_option maxHeartbeats 4000000 in
theorem vc_L_fits {X : MX} {d : Nat} {x : Int64 × UInt64} {m : MI} {Q : MRes → Prop} {p1 : Int32} {p2 : Int32} (h : Cl X d 24 [vp 0 0, vi p1, vi p2] (G x m) (fun r => (∃ (v1 : Int32) (m2 : MI), r = (.inl (some (vi v1)), G x m2) ∧ ((v1 = 0 → Q (.inl (some (vi 0)), G (0, x.2) m2)) ∧ (¬ (v1 = 0) → Q (.inl (some (vi 0)), G (1, x.2) m2)))) ∨ (∃ (k4 : Nat) (u5 : Nat × Nat) (m6 : MI), r = (.inr k4, Gu u5 x m6) ∧ ((k4 = 2 → Q (.inl (some (vi 1)), Gu ((0, 0).1 + u5.1, (0, 0).2 + u5.2) x m6)) ∧ ((¬ k4 = 2) → Q (.inr k4, Gu ((0, 0).1 + u5.1, (0, 0).2 + u5.2) x m6)))))) : Cl X (d + 1) 299 [vp 0 0, vi p1, vi p2, vp 43 0] (G x m) Q := by
  show Wp X (d + 1) 299 (0, ([some (vp 0 0), some (vi p1), some (vi p2), some (vp 43 0), none], ([], G x m))) Q
  refine wp_run 5 true (5, ([some (vp 0 0), some (vi p1), some (vi p2), some (vp 43 0), none], ([vi p2, vi p1, vp 0 0, vi 0, vp 43 0], G x m))) rfl rfl ?_
  refine wp_call 24 [vp 0 0, vi p1, vi p2] (8, ([some (vp 0 0), some (vi p1), some (vi p2), some (vp 43 0), none], ([vi 0, vp 43 0], G x m))) rfl rfl (Cl.mono h (Nat.le_refl _) ?_)
  intro r hr
  rcases hr with ⟨v1, m2, rfl, h⟩ | ⟨k4, u5, m6, rfl, h⟩
  · show Wp X (d + 1) 299 (8, ([some (vp 0 0), some (vi p1), some (vi p2), some (vp 43 0), none], ([vi v1, vi 0, vp 43 0], G x m2))) Q
    refine wp_run 1 true ((bif decide (v1 = 0) then 15 else 11), ([some (vp 0 0), some (vi p1), some (vi p2), some (vp 43 0), none], ([vi 0, vp 43 0], G x m2))) rfl rfl ?_
    refine wp_if (v1 = 0) (fun c3 => ?_) (fun c3 => ?_)
    · have h := h.1 c3
      refine wp_run 4 true (25, ([some (vp 0 0), some (vi p1), some (vi p2), some (vp 43 0), none], ([vi 0], G (0, x.2) m2))) rfl rfl ?_
      exact wp_ret rfl h
    · have h := h.2 c3
      refine wp_run 5 true (25, ([some (vp 0 0), some (vi p1), some (vi p2), some (vp 43 0), none], ([vi 0], G (1, x.2) m2))) rfl rfl ?_
      exact wp_ret rfl h
  · have hk := h
    by_cases c_2 : k4 = 2
    · subst c_2
      have h := hk.1 rfl
      show Wp X (d + 1) 299 (22, ([some (vp 0 0), some (vi p1), some (vi p2), some (vp 43 0), none], ([], Gu ((0, 0).1 + u5.1, (0, 0).2 + u5.2) x m6))) Q
      refine wp_run 1 true (23, ([some (vp 0 0), some (vi p1), some (vi p2), some (vp 43 0), none], ([vi 1], Gu ((0, 0).1 + u5.1, (0, 0).2 + u5.2) x m6))) rfl rfl ?_
      exact wp_ret rfl h
    have h := hk.2 c_2
    have hn : hfind (mhd 299) 5 k4 = none := by
      simp only [show mhd 299 = [(0, (17, (20, (4, 2))))] from rfl, hfind, cond_eq_ite]
      simp [Ne.symm c_2, c_2]
    show Kal X (d + 1) 299 5 (8, ([some (vp 0 0), some (vi p1), some (vi p2), some (vp 43 0), none], ([vi 0, vp 43 0], G x m))) Q (.inr k4, Gu u5 x m6)
    unfold Kal
    dsimp only
    rw [hn]
    exact h
set_option maxRecDepth 100000 in
set_option maxHeartbeats 4000000 in
theorem vc_L_nearestFor {X : MX} {d : Nat} {x : Int64 × UInt64} {m : MI} {Q : MRes → Prop} {p1 : Int32} (h : Cl X d 25 [vp 0 0, vi p1] (G x m) (fun r => (∃ (v1 : Int32) (m2 : MI), r = (.inl (some (vi v1)), G x m2) ∧ Q (.inl (some (vi 0)), G (v1.toInt64, x.2) m2)) ∨ (∃ (k3 : Nat) (u4 : Nat × Nat) (m5 : MI), r = (.inr k3, Gu u4 x m5) ∧ ((k3 = 2 → Q (.inl (some (vi 1)), Gu ((0, 0).1 + u4.1, (0, 0).2 + u4.2) x m5)) ∧ ((¬ k3 = 2) → Q (.inr k3, Gu ((0, 0).1 + u4.1, (0, 0).2 + u4.2) x m5)))))) : Cl X (d + 1) 300 [vp 0 0, vi p1, vp 43 0] (G x m) Q := by
  show Wp X (d + 1) 300 (0, ([some (vp 0 0), some (vi p1), some (vp 43 0), none], ([], G x m))) Q
  refine wp_run 4 true (4, ([some (vp 0 0), some (vi p1), some (vp 43 0), none], ([vi p1, vp 0 0, vi 0, vp 43 0], G x m))) rfl rfl ?_
  refine wp_call 25 [vp 0 0, vi p1] (7, ([some (vp 0 0), some (vi p1), some (vp 43 0), none], ([vi 0, vp 43 0], G x m))) rfl rfl (Cl.mono h (Nat.le_refl _) ?_)
  intro r hr
  rcases hr with ⟨v1, m2, rfl, h⟩ | ⟨k3, u4, m5, rfl, h⟩
  · show Wp X (d + 1) 300 (7, ([some (vp 0 0), some (vi p1), some (vp 43 0), none], ([vi v1, vi 0, vp 43 0], G x m2))) Q
    refine wp_run 4 true (16, ([some (vp 0 0), some (vi p1), some (vp 43 0), none], ([vi 0], G (v1.toInt64, x.2) m2))) rfl rfl ?_
    exact wp_ret rfl h
  · have hk := h
    by_cases c_2 : k3 = 2
    · subst c_2
      have h := hk.1 rfl
      show Wp X (d + 1) 300 (13, ([some (vp 0 0), some (vi p1), some (vp 43 0), none], ([], Gu ((0, 0).1 + u4.1, (0, 0).2 + u4.2) x m5))) Q
      refine wp_run 1 true (14, ([some (vp 0 0), some (vi p1), some (vp 43 0), none], ([vi 1], Gu ((0, 0).1 + u4.1, (0, 0).2 + u4.2) x m5))) rfl rfl ?_
      exact wp_ret rfl h
    have h := hk.2 c_2
    have hn : hfind (mhd 300) 4 k3 = none := by
      simp only [show mhd 300 = [(0, (9, (12, (3, 2))))] from rfl, hfind, cond_eq_ite]
      simp [Ne.symm c_2, c_2]
    show Kal X (d + 1) 300 4 (7, ([some (vp 0 0), some (vi p1), some (vp 43 0), none], ([vi 0, vp 43 0], G x m))) Q (.inr k3, Gu u4 x m5)
    unfold Kal
    dsimp only
    rw [hn]
    exact h
set_option maxRecDepth 100000 in
set_option maxHeartbeats 4000000 in
theorem vc_L_distance {X : MX} {d : Nat} {x : Int64 × UInt64} {m : MI} {Q : MRes → Prop} {p1 : Int32} {p2 : Int32} (h : Cl X d 26 [vp 0 0, vi p1, vi p2] (G x m) (fun r => (∃ (v1 : Int32) (m2 : MI), r = (.inl (some (vi v1)), G x m2) ∧ Q (.inl (some (vi 0)), G (v1.toInt64, x.2) m2)) ∨ (∃ (k3 : Nat) (u4 : Nat × Nat) (m5 : MI), r = (.inr k3, Gu u4 x m5) ∧ ((k3 = 2 → Q (.inl (some (vi 1)), Gu ((0, 0).1 + u4.1, (0, 0).2 + u4.2) x m5)) ∧ ((¬ k3 = 2) → Q (.inr k3, Gu ((0, 0).1 + u4.1, (0, 0).2 + u4.2) x m5)))))) : Cl X (d + 1) 301 [vp 0 0, vi p1, vi p2, vp 43 0] (G x m) Q := by
  show Wp X (d + 1) 301 (0, ([some (vp 0 0), some (vi p1), some (vi p2), some (vp 43 0), none], ([], G x m))) Q
  refine wp_run 5 true (5, ([some (vp 0 0), some (vi p1), some (vi p2), some (vp 43 0), none], ([vi p2, vi p1, vp 0 0, vi 0, vp 43 0], G x m))) rfl rfl ?_
  refine wp_call 26 [vp 0 0, vi p1, vi p2] (8, ([some (vp 0 0), some (vi p1), some (vi p2), some (vp 43 0), none], ([vi 0, vp 43 0], G x m))) rfl rfl (Cl.mono h (Nat.le_refl _) ?_)
  intro r hr
  rcases hr with ⟨v1, m2, rfl, h⟩ | ⟨k3, u4, m5, rfl, h⟩
  · show Wp X (d + 1) 301 (8, ([some (vp 0 0), some (vi p1), some (vi p2), some (vp 43 0), none], ([vi v1, vi 0, vp 43 0], G x m2))) Q
    refine wp_run 4 true (18, ([some (vp 0 0), some (vi p1), some (vi p2), some (vp 43 0), none], ([vi 0], G (v1.toInt64, x.2) m2))) rfl rfl ?_
    exact wp_ret rfl h
  · have hk := h
    by_cases c_2 : k3 = 2
    · subst c_2
      have h := hk.1 rfl
      show Wp X (d + 1) 301 (15, ([some (vp 0 0), some (vi p1), some (vi p2), some (vp 43 0), none], ([], Gu ((0, 0).1 + u4.1, (0, 0).2 + u4.2) x m5))) Q
      refine wp_run 1 true (16, ([some (vp 0 0), some (vi p1), some (vi p2), some (vp 43 0), none], ([vi 1], Gu ((0, 0).1 + u4.1, (0, 0).2 + u4.2) x m5))) rfl rfl ?_
      exact wp_ret rfl h
    have h := hk.2 c_2
    have hn : hfind (mhd 301) 5 k3 = none := by
      simp only [show mhd 301 = [(0, (10, (13, (4, 2))))] from rfl, hfind, cond_eq_ite]
      simp [Ne.symm c_2, c_2]
    show Kal X (d + 1) 301 5 (8, ([some (vp 0 0), some (vi p1), some (vi p2), some (vp 43 0), none], ([vi 0, vp 43 0], G x m))) Q (.inr k3, Gu u4 x m5)
    unfold Kal
    dsimp only
    rw [hn]
    exact h
set_option maxRecDepth 100000 in
set_option maxHeartbeats 4000000 in
theorem vc_L_nearest {X : MX} {d : Nat} {x : Int64 × UInt64} {m : MI} {Q : MRes → Prop} {p1 : Int32} {p2 : Int32} {p3 : Int32} (h : Cl X d 27 [vp 0 0, vi p1, vi p2, vi p3] (G x m) (fun r => (∃ (v1 : Int32) (m2 : MI), r = (.inl (some (vi v1)), G x m2) ∧ Q (.inl (some (vi 0)), G (v1.toInt64, x.2) m2)) ∨ (∃ (k3 : Nat) (u4 : Nat × Nat) (m5 : MI), r = (.inr k3, Gu u4 x m5) ∧ ((k3 = 0 → Q (.inl (some (vi 1)), Gu ((0, 0).1 + u4.1, (0, 0).2 + u4.2) x m5)) ∧ (k3 = 2 → Q (.inl (some (vi 2)), Gu ((0, 0).1 + u4.1, (0, 0).2 + u4.2) x m5)) ∧ ((¬ k3 = 0 ∧ ¬ k3 = 2) → Q (.inr k3, Gu ((0, 0).1 + u4.1, (0, 0).2 + u4.2) x m5)))))) : Cl X (d + 1) 302 [vp 0 0, vi p1, vi p2, vi p3, vp 43 0] (G x m) Q := by
  show Wp X (d + 1) 302 (0, ([some (vp 0 0), some (vi p1), some (vi p2), some (vi p3), some (vp 43 0), none], ([], G x m))) Q
  refine wp_run 6 true (7, ([some (vp 0 0), some (vi p1), some (vi p2), some (vi p3), some (vp 43 0), none], ([vi p3, vi p2, vi p1, vp 0 0, vi 0, vp 43 0], G x m))) rfl rfl ?_
  refine wp_call 27 [vp 0 0, vi p1, vi p2, vi p3] (10, ([some (vp 0 0), some (vi p1), some (vi p2), some (vi p3), some (vp 43 0), none], ([vi 0, vp 43 0], G x m))) rfl rfl (Cl.mono h (Nat.le_refl _) ?_)
  intro r hr
  rcases hr with ⟨v1, m2, rfl, h⟩ | ⟨k3, u4, m5, rfl, h⟩
  · show Wp X (d + 1) 302 (10, ([some (vp 0 0), some (vi p1), some (vi p2), some (vi p3), some (vp 43 0), none], ([vi v1, vi 0, vp 43 0], G x m2))) Q
    refine wp_run 4 true (24, ([some (vp 0 0), some (vi p1), some (vi p2), some (vi p3), some (vp 43 0), none], ([vi 0], G (v1.toInt64, x.2) m2))) rfl rfl ?_
    exact wp_ret rfl h
  · have hk := h
    by_cases c_0 : k3 = 0
    · subst c_0
      have h := hk.1 rfl
      show Wp X (d + 1) 302 (17, ([some (vp 0 0), some (vi p1), some (vi p2), some (vi p3), some (vp 43 0), none], ([], Gu ((0, 0).1 + u4.1, (0, 0).2 + u4.2) x m5))) Q
      refine wp_run 1 true (18, ([some (vp 0 0), some (vi p1), some (vi p2), some (vi p3), some (vp 43 0), none], ([vi 1], Gu ((0, 0).1 + u4.1, (0, 0).2 + u4.2) x m5))) rfl rfl ?_
      exact wp_ret rfl h
    by_cases c_2 : k3 = 2
    · subst c_2
      have h := hk.2.1 rfl
      show Wp X (d + 1) 302 (21, ([some (vp 0 0), some (vi p1), some (vi p2), some (vi p3), some (vp 43 0), none], ([], Gu ((0, 0).1 + u4.1, (0, 0).2 + u4.2) x m5))) Q
      refine wp_run 1 true (22, ([some (vp 0 0), some (vi p1), some (vi p2), some (vi p3), some (vp 43 0), none], ([vi 2], Gu ((0, 0).1 + u4.1, (0, 0).2 + u4.2) x m5))) rfl rfl ?_
      exact wp_ret rfl h
    have h := hk.2.2 ⟨c_0, c_2⟩
    have hn : hfind (mhd 302) 7 k3 = none := by
      simp only [show mhd 302 = [(0, (12, (15, (5, 0)))), (0, (12, (19, (5, 2))))] from rfl, hfind, cond_eq_ite]
      simp [Ne.symm c_0, c_0, Ne.symm c_2, c_2]
    show Kal X (d + 1) 302 7 (10, ([some (vp 0 0), some (vi p1), some (vi p2), some (vi p3), some (vp 43 0), none], ([vi 0, vp 43 0], G x m))) Q (.inr k3, Gu u4 x m5)
    unfold Kal
    dsimp only
    rw [hn]
    exact h
set_option maxRecDepth 100000 in
set_option maxHeartbeats 4000000 in
theorem vc_L_nearestByLooking {X : MX} {d : Nat} {x : Int64 × UInt64} {m : MI} {Q : MRes → Prop} {p1 : Int32} {p2 : Int32} {p3 : Int32} (h : Cl X d 28 [vp 0 0, vi p1, vi p2, vi p3] (G x m) (fun r => (∃ (v1 : Int32) (m2 : MI), r = (.inl (some (vi v1)), G x m2) ∧ Q (.inl (some (vi 0)), G (v1.toInt64, x.2) m2)) ∨ (∃ (k3 : Nat) (u4 : Nat × Nat) (m5 : MI), r = (.inr k3, Gu u4 x m5) ∧ ((k3 = 0 → Q (.inl (some (vi 1)), Gu ((0, 0).1 + u4.1, (0, 0).2 + u4.2) x m5)) ∧ (k3 = 2 → Q (.inl (some (vi 2)), Gu ((0, 0).1 + u4.1, (0, 0).2 + u4.2) x m5)) ∧ ((¬ k3 = 0 ∧ ¬ k3 = 2) → Q (.inr k3, Gu ((0, 0).1 + u4.1, (0, 0).2 + u4.2) x m5)))))) : Cl X (d + 1) 303 [vp 0 0, vi p1, vi p2, vi p3, vp 43 0] (G x m) Q := by
  show Wp X (d + 1) 303 (0, ([some (vp 0 0), some (vi p1), some (vi p2), some (vi p3), some (vp 43 0), none], ([], G x m))) Q
  refine wp_run 6 true (7, ([some (vp 0 0), some (vi p1), some (vi p2), some (vi p3), some (vp 43 0), none], ([vi p3, vi p2, vi p1, vp 0 0, vi 0, vp 43 0], G x m))) rfl rfl ?_
  refine wp_call 28 [vp 0 0, vi p1, vi p2, vi p3] (10, ([some (vp 0 0), some (vi p1), some (vi p2), some (vi p3), some (vp 43 0), none], ([vi 0, vp 43 0], G x m))) rfl rfl (Cl.mono h (Nat.le_refl _) ?_)
  intro r hr
  rcases hr with ⟨v1, m2, rfl, h⟩ | ⟨k3, u4, m5, rfl, h⟩
  · show Wp X (d + 1) 303 (10, ([some (vp 0 0), some (vi p1), some (vi p2), some (vi p3), some (vp 43 0), none], ([vi v1, vi 0, vp 43 0], G x m2))) Q
    refine wp_run 4 true (24, ([some (vp 0 0), some (vi p1), some (vi p2), some (vi p3), some (vp 43 0), none], ([vi 0], G (v1.toInt64, x.2) m2))) rfl rfl ?_
    exact wp_ret rfl h
  · have hk := h
    by_cases c_0 : k3 = 0
    · subst c_0
      have h := hk.1 rfl
      show Wp X (d + 1) 303 (17, ([some (vp 0 0), some (vi p1), some (vi p2), some (vi p3), some (vp 43 0), none], ([], Gu ((0, 0).1 + u4.1, (0, 0).2 + u4.2) x m5))) Q
      refine wp_run 1 true (18, ([some (vp 0 0), some (vi p1), some (vi p2), some (vi p3), some (vp 43 0), none], ([vi 1], Gu ((0, 0).1 + u4.1, (0, 0).2 + u4.2) x m5))) rfl rfl ?_
      exact wp_ret rfl h
    by_cases c_2 : k3 = 2
    · subst c_2
      have h := hk.2.1 rfl
      show Wp X (d + 1) 303 (21, ([some (vp 0 0), some (vi p1), some (vi p2), some (vi p3), some (vp 43 0), none], ([], Gu ((0, 0).1 + u4.1, (0, 0).2 + u4.2) x m5))) Q
      refine wp_run 1 true (22, ([some (vp 0 0), some (vi p1), some (vi p2), some (vi p3), some (vp 43 0), none], ([vi 2], Gu ((0, 0).1 + u4.1, (0, 0).2 + u4.2) x m5))) rfl rfl ?_
      exact wp_ret rfl h
    have h := hk.2.2 ⟨c_0, c_2⟩
    have hn : hfind (mhd 303) 7 k3 = none := by
      simp only [show mhd 303 = [(0, (12, (15, (5, 0)))), (0, (12, (19, (5, 2))))] from rfl, hfind, cond_eq_ite]
      simp [Ne.symm c_0, c_0, Ne.symm c_2, c_2]
    show Kal X (d + 1) 303 7 (10, ([some (vp 0 0), some (vi p1), some (vi p2), some (vi p3), some (vp 43 0), none], ([vi 0, vp 43 0], G x m))) Q (.inr k3, Gu u4 x m5)
    unfold Kal
    dsimp only
    rw [hn]
    exact h
set_option maxRecDepth 100000 in
set_option maxHeartbeats 4000000 in
theorem vc_L_closestDistance {X : MX} {d : Nat} {x : Int64 × UInt64} {m : MI} {Q : MRes → Prop} (h : Cl X d 29 [vp 0 0] (G x m) (fun r => (∃ (v1 : Int32) (m2 : MI), r = (.inl (some (vi v1)), G x m2) ∧ Q (.inl (some (vi 0)), G (v1.toInt64, x.2) m2)) ∨ (∃ (k3 : Nat) (u4 : Nat × Nat) (m5 : MI), r = (.inr k3, Gu u4 x m5) ∧ ((k3 = 2 → Q (.inl (some (vi 1)), Gu ((0, 0).1 + u4.1, (0, 0).2 + u4.2) x m5)) ∧ ((¬ k3 = 2) → Q (.inr k3, Gu ((0, 0).1 + u4.1, (0, 0).2 + u4.2) x m5)))))) : Cl X (d + 1) 304 [vp 0 0, vp 43 0] (G x m) Q := by
  show Wp X (d + 1) 304 (0, ([some (vp 0 0), some (vp 43 0), none], ([], G x m))) Q
  refine wp_run 3 true (3, ([some (vp 0 0), some (vp 43 0), none], ([vp 0 0, vi 0, vp 43 0], G x m))) rfl rfl ?_
  refine wp_call 29 [vp 0 0] (6, ([some (vp 0 0), some (vp 43 0), none], ([vi 0, vp 43 0], G x m))) rfl rfl (Cl.mono h (Nat.le_refl _) ?_)
  intro r hr
  rcases hr with ⟨v1, m2, rfl, h⟩ | ⟨k3, u4, m5, rfl, h⟩
  · show Wp X (d + 1) 304 (6, ([some (vp 0 0), some (vp 43 0), none], ([vi v1, vi 0, vp 43 0], G x m2))) Q
    refine wp_run 4 true (15, ([some (vp 0 0), some (vp 43 0), none], ([vi 0], G (v1.toInt64, x.2) m2))) rfl rfl ?_
    exact wp_ret rfl h
  · have hk := h
    by_cases c_2 : k3 = 2
    · subst c_2
      have h := hk.1 rfl
      show Wp X (d + 1) 304 (12, ([some (vp 0 0), some (vp 43 0), none], ([], Gu ((0, 0).1 + u4.1, (0, 0).2 + u4.2) x m5))) Q
      refine wp_run 1 true (13, ([some (vp 0 0), some (vp 43 0), none], ([vi 1], Gu ((0, 0).1 + u4.1, (0, 0).2 + u4.2) x m5))) rfl rfl ?_
      exact wp_ret rfl h
    have h := hk.2 c_2
    have hn : hfind (mhd 304) 3 k3 = none := by
      simp only [show mhd 304 = [(0, (8, (11, (2, 2))))] from rfl, hfind, cond_eq_ite]
      simp [Ne.symm c_2, c_2]
    show Kal X (d + 1) 304 3 (6, ([some (vp 0 0), some (vp 43 0), none], ([vi 0, vp 43 0], G x m))) Q (.inr k3, Gu u4 x m5)
    unfold Kal
    dsimp only
    rw [hn]
    exact h
set_option maxRecDepth 100000 in
set_option maxHeartbeats 4000000 in
theorem vc_L_closestDistanceBySorting {X : MX} {d : Nat} {x : Int64 × UInt64} {m : MI} {Q : MRes → Prop} (h : Cl X d 30 [vp 0 0] (G x m) (fun r => (∃ (v1 : Int32) (m2 : MI), r = (.inl (some (vi v1)), G x m2) ∧ Q (.inl (some (vi 0)), G (v1.toInt64, x.2) m2)) ∨ (∃ (k3 : Nat) (u4 : Nat × Nat) (m5 : MI), r = (.inr k3, Gu u4 x m5) ∧ ((k3 = 2 → Q (.inl (some (vi 1)), Gu ((0, 0).1 + u4.1, (0, 0).2 + u4.2) x m5)) ∧ ((¬ k3 = 2) → Q (.inr k3, Gu ((0, 0).1 + u4.1, (0, 0).2 + u4.2) x m5)))))) : Cl X (d + 1) 305 [vp 0 0, vp 43 0] (G x m) Q := by
  show Wp X (d + 1) 305 (0, ([some (vp 0 0), some (vp 43 0), none], ([], G x m))) Q
  refine wp_run 3 true (3, ([some (vp 0 0), some (vp 43 0), none], ([vp 0 0, vi 0, vp 43 0], G x m))) rfl rfl ?_
  refine wp_call 30 [vp 0 0] (6, ([some (vp 0 0), some (vp 43 0), none], ([vi 0, vp 43 0], G x m))) rfl rfl (Cl.mono h (Nat.le_refl _) ?_)
  intro r hr
  rcases hr with ⟨v1, m2, rfl, h⟩ | ⟨k3, u4, m5, rfl, h⟩
  · show Wp X (d + 1) 305 (6, ([some (vp 0 0), some (vp 43 0), none], ([vi v1, vi 0, vp 43 0], G x m2))) Q
    refine wp_run 4 true (15, ([some (vp 0 0), some (vp 43 0), none], ([vi 0], G (v1.toInt64, x.2) m2))) rfl rfl ?_
    exact wp_ret rfl h
  · have hk := h
    by_cases c_2 : k3 = 2
    · subst c_2
      have h := hk.1 rfl
      show Wp X (d + 1) 305 (12, ([some (vp 0 0), some (vp 43 0), none], ([], Gu ((0, 0).1 + u4.1, (0, 0).2 + u4.2) x m5))) Q
      refine wp_run 1 true (13, ([some (vp 0 0), some (vp 43 0), none], ([vi 1], Gu ((0, 0).1 + u4.1, (0, 0).2 + u4.2) x m5))) rfl rfl ?_
      exact wp_ret rfl h
    have h := hk.2 c_2
    have hn : hfind (mhd 305) 3 k3 = none := by
      simp only [show mhd 305 = [(0, (8, (11, (2, 2))))] from rfl, hfind, cond_eq_ite]
      simp [Ne.symm c_2, c_2]
    show Kal X (d + 1) 305 3 (6, ([some (vp 0 0), some (vp 43 0), none], ([vi 0, vp 43 0], G x m))) Q (.inr k3, Gu u4 x m5)
    unfold Kal
    dsimp only
    rw [hn]
    exact h
set_option maxRecDepth 100000 in
set_option maxHeartbeats 4000000 in
theorem vc_L_settlementFor {X : MX} {d : Nat} {x : Int64 × UInt64} {m : MI} {Q : MRes → Prop} {p1 : Int32} (h : Cl X d 34 [vp 0 0, vi p1] (G x m) (fun r => (∃ (v1 : Int32) (m2 : MI), r = (.inl (some (vi v1)), G x m2) ∧ Q (.inl (some (vi 0)), G (v1.toInt64, x.2) m2)) ∨ (∃ (k3 : Nat) (u4 : Nat × Nat) (m5 : MI), r = (.inr k3, Gu u4 x m5) ∧ ((k3 = 2 → Q (.inl (some (vi 1)), Gu ((0, 0).1 + u4.1, (0, 0).2 + u4.2) x m5)) ∧ ((¬ k3 = 2) → Q (.inr k3, Gu ((0, 0).1 + u4.1, (0, 0).2 + u4.2) x m5)))))) : Cl X (d + 1) 306 [vp 0 0, vi p1, vp 43 0] (G x m) Q := by
  show Wp X (d + 1) 306 (0, ([some (vp 0 0), some (vi p1), some (vp 43 0), none], ([], G x m))) Q
  refine wp_run 4 true (4, ([some (vp 0 0), some (vi p1), some (vp 43 0), none], ([vi p1, vp 0 0, vi 0, vp 43 0], G x m))) rfl rfl ?_
  refine wp_call 34 [vp 0 0, vi p1] (7, ([some (vp 0 0), some (vi p1), some (vp 43 0), none], ([vi 0, vp 43 0], G x m))) rfl rfl (Cl.mono h (Nat.le_refl _) ?_)
  intro r hr
  rcases hr with ⟨v1, m2, rfl, h⟩ | ⟨k3, u4, m5, rfl, h⟩
  · show Wp X (d + 1) 306 (7, ([some (vp 0 0), some (vi p1), some (vp 43 0), none], ([vi v1, vi 0, vp 43 0], G x m2))) Q
    refine wp_run 4 true (16, ([some (vp 0 0), some (vi p1), some (vp 43 0), none], ([vi 0], G (v1.toInt64, x.2) m2))) rfl rfl ?_
    exact wp_ret rfl h
  · have hk := h
    by_cases c_2 : k3 = 2
    · subst c_2
      have h := hk.1 rfl
      show Wp X (d + 1) 306 (13, ([some (vp 0 0), some (vi p1), some (vp 43 0), none], ([], Gu ((0, 0).1 + u4.1, (0, 0).2 + u4.2) x m5))) Q
      refine wp_run 1 true (14, ([some (vp 0 0), some (vi p1), some (vp 43 0), none], ([vi 1], Gu ((0, 0).1 + u4.1, (0, 0).2 + u4.2) x m5))) rfl rfl ?_
      exact wp_ret rfl h
    have h := hk.2 c_2
    have hn : hfind (mhd 306) 4 k3 = none := by
      simp only [show mhd 306 = [(0, (9, (12, (3, 2))))] from rfl, hfind, cond_eq_ite]
      simp [Ne.symm c_2, c_2]
    show Kal X (d + 1) 306 4 (7, ([some (vp 0 0), some (vi p1), some (vp 43 0), none], ([vi 0, vp 43 0], G x m))) Q (.inr k3, Gu u4 x m5)
    unfold Kal
    dsimp only
    rw [hn]
    exact h
set_option maxRecDepth 100000 in
set_option maxHeartbeats 4000000 in
theorem vc_L_paletteError {X : MX} {d : Nat} {x : Int64 × UInt64} {m : MI} {Q : MRes → Prop} {p1 : Int32} (h : Cl X d 35 [vp 0 0, vi p1] (G x m) (fun r => (∃ (v1 : Int32) (m2 : MI), r = (.inl (some (vi v1)), G x m2) ∧ Q (.inl (some (vi 0)), G (v1.toInt64, x.2) m2)) ∨ (∃ (k3 : Nat) (u4 : Nat × Nat) (m5 : MI), r = (.inr k3, Gu u4 x m5) ∧ ((k3 = 0 → Q (.inl (some (vi 1)), Gu ((0, 0).1 + u4.1, (0, 0).2 + u4.2) x m5)) ∧ ((¬ k3 = 0) → Q (.inr k3, Gu ((0, 0).1 + u4.1, (0, 0).2 + u4.2) x m5)))))) : Cl X (d + 1) 307 [vp 0 0, vi p1, vp 43 0] (G x m) Q := by
  show Wp X (d + 1) 307 (0, ([some (vp 0 0), some (vi p1), some (vp 43 0), none], ([], G x m))) Q
  refine wp_run 4 true (4, ([some (vp 0 0), some (vi p1), some (vp 43 0), none], ([vi p1, vp 0 0, vi 0, vp 43 0], G x m))) rfl rfl ?_
  refine wp_call 35 [vp 0 0, vi p1] (7, ([some (vp 0 0), some (vi p1), some (vp 43 0), none], ([vi 0, vp 43 0], G x m))) rfl rfl (Cl.mono h (Nat.le_refl _) ?_)
  intro r hr
  rcases hr with ⟨v1, m2, rfl, h⟩ | ⟨k3, u4, m5, rfl, h⟩
  · show Wp X (d + 1) 307 (7, ([some (vp 0 0), some (vi p1), some (vp 43 0), none], ([vi v1, vi 0, vp 43 0], G x m2))) Q
    refine wp_run 4 true (16, ([some (vp 0 0), some (vi p1), some (vp 43 0), none], ([vi 0], G (v1.toInt64, x.2) m2))) rfl rfl ?_
    exact wp_ret rfl h
  · have hk := h
    by_cases c_0 : k3 = 0
    · subst c_0
      have h := hk.1 rfl
      show Wp X (d + 1) 307 (13, ([some (vp 0 0), some (vi p1), some (vp 43 0), none], ([], Gu ((0, 0).1 + u4.1, (0, 0).2 + u4.2) x m5))) Q
      refine wp_run 1 true (14, ([some (vp 0 0), some (vi p1), some (vp 43 0), none], ([vi 1], Gu ((0, 0).1 + u4.1, (0, 0).2 + u4.2) x m5))) rfl rfl ?_
      exact wp_ret rfl h
    have h := hk.2 c_0
    have hn : hfind (mhd 307) 4 k3 = none := by
      simp only [show mhd 307 = [(0, (9, (12, (3, 0))))] from rfl, hfind, cond_eq_ite]
      simp [Ne.symm c_0, c_0]
    show Kal X (d + 1) 307 4 (7, ([some (vp 0 0), some (vi p1), some (vp 43 0), none], ([vi 0, vp 43 0], G x m))) Q (.inr k3, Gu u4 x m5)
    unfold Kal
    dsimp only
    rw [hn]
    exact h
set_option maxRecDepth 100000 in
set_option maxHeartbeats 4000000 in
theorem vc_L_paletteErrorBySearch {X : MX} {d : Nat} {x : Int64 × UInt64} {m : MI} {Q : MRes → Prop} {p1 : Int32} (h : Cl X d 36 [vp 0 0, vi p1] (G x m) (fun r => (∃ (v1 : Int32) (m2 : MI), r = (.inl (some (vi v1)), G x m2) ∧ Q (.inl (some (vi 0)), G (v1.toInt64, x.2) m2)) ∨ (∃ (k3 : Nat) (u4 : Nat × Nat) (m5 : MI), r = (.inr k3, Gu u4 x m5) ∧ ((k3 = 0 → Q (.inl (some (vi 1)), Gu ((0, 0).1 + u4.1, (0, 0).2 + u4.2) x m5)) ∧ ((¬ k3 = 0) → Q (.inr k3, Gu ((0, 0).1 + u4.1, (0, 0).2 + u4.2) x m5)))))) : Cl X (d + 1) 308 [vp 0 0, vi p1, vp 43 0] (G x m) Q := by
  show Wp X (d + 1) 308 (0, ([some (vp 0 0), some (vi p1), some (vp 43 0), none], ([], G x m))) Q
  refine wp_run 4 true (4, ([some (vp 0 0), some (vi p1), some (vp 43 0), none], ([vi p1, vp 0 0, vi 0, vp 43 0], G x m))) rfl rfl ?_
  refine wp_call 36 [vp 0 0, vi p1] (7, ([some (vp 0 0), some (vi p1), some (vp 43 0), none], ([vi 0, vp 43 0], G x m))) rfl rfl (Cl.mono h (Nat.le_refl _) ?_)
  intro r hr
  rcases hr with ⟨v1, m2, rfl, h⟩ | ⟨k3, u4, m5, rfl, h⟩
  · show Wp X (d + 1) 308 (7, ([some (vp 0 0), some (vi p1), some (vp 43 0), none], ([vi v1, vi 0, vp 43 0], G x m2))) Q
    refine wp_run 4 true (16, ([some (vp 0 0), some (vi p1), some (vp 43 0), none], ([vi 0], G (v1.toInt64, x.2) m2))) rfl rfl ?_
    exact wp_ret rfl h
  · have hk := h
    by_cases c_0 : k3 = 0
    · subst c_0
      have h := hk.1 rfl
      show Wp X (d + 1) 308 (13, ([some (vp 0 0), some (vi p1), some (vp 43 0), none], ([], Gu ((0, 0).1 + u4.1, (0, 0).2 + u4.2) x m5))) Q
      refine wp_run 1 true (14, ([some (vp 0 0), some (vi p1), some (vp 43 0), none], ([vi 1], Gu ((0, 0).1 + u4.1, (0, 0).2 + u4.2) x m5))) rfl rfl ?_
      exact wp_ret rfl h
    have h := hk.2 c_0
    have hn : hfind (mhd 308) 4 k3 = none := by
      simp only [show mhd 308 = [(0, (9, (12, (3, 0))))] from rfl, hfind, cond_eq_ite]
      simp [Ne.symm c_0, c_0]
    show Kal X (d + 1) 308 4 (7, ([some (vp 0 0), some (vi p1), some (vp 43 0), none], ([vi 0, vp 43 0], G x m))) Q (.inr k3, Gu u4 x m5)
    unfold Kal
    dsimp only
    rw [hn]
    exact h
set_option maxRecDepth 100000 in
set_option maxHeartbeats 4000000 in
theorem vc_L_paletteColour {X : MX} {d : Nat} {x : Int64 × UInt64} {m : MI} {Q : MRes → Prop} {p1 : Int32} {p2 : Int32} (h : Cl X d 37 [vp 0 0, vi p1, vi p2] (G x m) (fun r => (∃ (v1 : Int32) (m2 : MI), r = (.inl (some (vi v1)), G x m2) ∧ Q (.inl (some (vi 0)), G (v1.toInt64, x.2) m2)) ∨ (∃ (k3 : Nat) (u4 : Nat × Nat) (m5 : MI), r = (.inr k3, Gu u4 x m5) ∧ ((k3 = 0 → Q (.inl (some (vi 1)), Gu ((0, 0).1 + u4.1, (0, 0).2 + u4.2) x m5)) ∧ (k3 = 2 → Q (.inl (some (vi 2)), Gu ((0, 0).1 + u4.1, (0, 0).2 + u4.2) x m5)) ∧ ((¬ k3 = 0 ∧ ¬ k3 = 2) → Q (.inr k3, Gu ((0, 0).1 + u4.1, (0, 0).2 + u4.2) x m5)))))) : Cl X (d + 1) 309 [vp 0 0, vi p1, vi p2, vp 43 0] (G x m) Q := by
  show Wp X (d + 1) 309 (0, ([some (vp 0 0), some (vi p1), some (vi p2), some (vp 43 0), none], ([], G x m))) Q
  refine wp_run 5 true (5, ([some (vp 0 0), some (vi p1), some (vi p2), some (vp 43 0), none], ([vi p2, vi p1, vp 0 0, vi 0, vp 43 0], G x m))) rfl rfl ?_
  refine wp_call 37 [vp 0 0, vi p1, vi p2] (8, ([some (vp 0 0), some (vi p1), some (vi p2), some (vp 43 0), none], ([vi 0, vp 43 0], G x m))) rfl rfl (Cl.mono h (Nat.le_refl _) ?_)
  intro r hr
  rcases hr with ⟨v1, m2, rfl, h⟩ | ⟨k3, u4, m5, rfl, h⟩
  · show Wp X (d + 1) 309 (8, ([some (vp 0 0), some (vi p1), some (vi p2), some (vp 43 0), none], ([vi v1, vi 0, vp 43 0], G x m2))) Q
    refine wp_run 4 true (22, ([some (vp 0 0), some (vi p1), some (vi p2), some (vp 43 0), none], ([vi 0], G (v1.toInt64, x.2) m2))) rfl rfl ?_
    exact wp_ret rfl h
  · have hk := h
    by_cases c_0 : k3 = 0
    · subst c_0
      have h := hk.1 rfl
      show Wp X (d + 1) 309 (15, ([some (vp 0 0), some (vi p1), some (vi p2), some (vp 43 0), none], ([], Gu ((0, 0).1 + u4.1, (0, 0).2 + u4.2) x m5))) Q
      refine wp_run 1 true (16, ([some (vp 0 0), some (vi p1), some (vi p2), some (vp 43 0), none], ([vi 1], Gu ((0, 0).1 + u4.1, (0, 0).2 + u4.2) x m5))) rfl rfl ?_
      exact wp_ret rfl h
    by_cases c_2 : k3 = 2
    · subst c_2
      have h := hk.2.1 rfl
      show Wp X (d + 1) 309 (19, ([some (vp 0 0), some (vi p1), some (vi p2), some (vp 43 0), none], ([], Gu ((0, 0).1 + u4.1, (0, 0).2 + u4.2) x m5))) Q
      refine wp_run 1 true (20, ([some (vp 0 0), some (vi p1), some (vi p2), some (vp 43 0), none], ([vi 2], Gu ((0, 0).1 + u4.1, (0, 0).2 + u4.2) x m5))) rfl rfl ?_
      exact wp_ret rfl h
    have h := hk.2.2 ⟨c_0, c_2⟩
    have hn : hfind (mhd 309) 5 k3 = none := by
      simp only [show mhd 309 = [(0, (10, (13, (4, 0)))), (0, (10, (17, (4, 2))))] from rfl, hfind, cond_eq_ite]
      simp [Ne.symm c_0, c_0, Ne.symm c_2, c_2]
    show Kal X (d + 1) 309 5 (8, ([some (vp 0 0), some (vi p1), some (vi p2), some (vp 43 0), none], ([vi 0, vp 43 0], G x m))) Q (.inr k3, Gu u4 x m5)
    unfold Kal
    dsimp only
    rw [hn]
    exact h
set_option maxRecDepth 100000 in
set_option maxHeartbeats 4000000 in
theorem vc_L_meanBrightness {X : MX} {d : Nat} {x : Int64 × UInt64} {m : MI} {Q : MRes → Prop} (h : Cl X d 43 [vp 0 0] (G x m) (fun r => (∃ (v1 : UInt64) (m2 : MI), r = (.inl (some (vx (.double v1))), G x m2) ∧ Q (.inl (some (vi 0)), G (x.1, v1) m2)) ∨ (∃ (k3 : Nat) (u4 : Nat × Nat) (m5 : MI), r = (.inr k3, Gu u4 x m5) ∧ ((k3 = 5 → Q (.inl (some (vi 1)), Gu ((0, 0).1 + u4.1, (0, 0).2 + u4.2) x m5)) ∧ ((¬ k3 = 5) → Q (.inr k3, Gu ((0, 0).1 + u4.1, (0, 0).2 + u4.2) x m5)))))) : Cl X (d + 1) 310 [vp 0 0, vp 44 0] (G x m) Q := by
  show Wp X (d + 1) 310 (0, ([some (vp 0 0), some (vp 44 0), none], ([], G x m))) Q
  refine wp_run 3 true (3, ([some (vp 0 0), some (vp 44 0), none], ([vp 0 0, vi 0, vp 44 0], G x m))) rfl rfl ?_
  refine wp_call 43 [vp 0 0] (6, ([some (vp 0 0), some (vp 44 0), none], ([vi 0, vp 44 0], G x m))) rfl rfl (Cl.mono h (Nat.le_refl _) ?_)
  intro r hr
  rcases hr with ⟨v1, m2, rfl, h⟩ | ⟨k3, u4, m5, rfl, h⟩
  · show Wp X (d + 1) 310 (6, ([some (vp 0 0), some (vp 44 0), none], ([vx (.double v1), vi 0, vp 44 0], G x m2))) Q
    refine wp_run 3 true (14, ([some (vp 0 0), some (vp 44 0), none], ([vi 0], G (x.1, v1) m2))) rfl rfl ?_
    exact wp_ret rfl h
  · have hk := h
    by_cases c_5 : k3 = 5
    · subst c_5
      have h := hk.1 rfl
      show Wp X (d + 1) 310 (11, ([some (vp 0 0), some (vp 44 0), none], ([], Gu ((0, 0).1 + u4.1, (0, 0).2 + u4.2) x m5))) Q
      refine wp_run 1 true (12, ([some (vp 0 0), some (vp 44 0), none], ([vi 1], Gu ((0, 0).1 + u4.1, (0, 0).2 + u4.2) x m5))) rfl rfl ?_
      exact wp_ret rfl h
    have h := hk.2 c_5
    have hn : hfind (mhd 310) 3 k3 = none := by
      simp only [show mhd 310 = [(0, (7, (10, (2, 5))))] from rfl, hfind, cond_eq_ite]
      simp [Ne.symm c_5, c_5]
    show Kal X (d + 1) 310 3 (6, ([some (vp 0 0), some (vp 44 0), none], ([vi 0, vp 44 0], G x m))) Q (.inr k3, Gu u4 x m5)
    unfold Kal
    dsimp only
    rw [hn]
    exact h
set_option maxRecDepth 100000 in
set_option maxHeartbeats 4000000 in
theorem vc_L_greyShare {X : MX} {d : Nat} {x : Int64 × UInt64} {m : MI} {Q : MRes → Prop} (h : Cl X d 44 [vp 0 0] (G x m) (fun r => (∃ (v1 : UInt32) (m2 : MI), r = (.inl (some (vx (.float v1))), G x m2) ∧ (decide (FP.f2d v1 &&& 0x7fffffffffffffff ≤ 0x7ff0000000000000) = true ∧ Q (.inl (some (vi 0)), G (x.1, FP.f2d v1) m2))) ∨ (∃ (k3 : Nat) (u4 : Nat × Nat) (m5 : MI), r = (.inr k3, Gu u4 x m5) ∧ ((k3 = 5 → Q (.inl (some (vi 1)), Gu ((0, 0).1 + u4.1, (0, 0).2 + u4.2) x m5)) ∧ ((¬ k3 = 5) → Q (.inr k3, Gu ((0, 0).1 + u4.1, (0, 0).2 + u4.2) x m5)))))) : Cl X (d + 1) 311 [vp 0 0, vp 44 0] (G x m) Q := by
  show Wp X (d + 1) 311 (0, ([some (vp 0 0), some (vp 44 0), none], ([], G x m))) Q
  refine wp_run 3 true (3, ([some (vp 0 0), some (vp 44 0), none], ([vp 0 0, vi 0, vp 44 0], G x m))) rfl rfl ?_
  refine wp_call 44 [vp 0 0] (6, ([some (vp 0 0), some (vp 44 0), none], ([vi 0, vp 44 0], G x m))) rfl rfl (Cl.mono h (Nat.le_refl _) ?_)
  intro r hr
  rcases hr with ⟨v1, m2, rfl, h⟩ | ⟨k3, u4, m5, rfl, h⟩
  · show Wp X (d + 1) 311 (6, ([some (vp 0 0), some (vp 44 0), none], ([vx (.float v1), vi 0, vp 44 0], G x m2))) Q
    obtain ⟨hg2_0, h⟩ := h
    refine wp_run 4 (decide (FP.f2d v1 &&& 0x7fffffffffffffff ≤ 0x7ff0000000000000) && true) (15, ([some (vp 0 0), some (vp 44 0), none], ([vi 0], G (x.1, FP.f2d v1) m2))) rfl (and_t hg2_0 rfl) ?_
    exact wp_ret rfl h
  · have hk := h
    by_cases c_5 : k3 = 5
    · subst c_5
      have h := hk.1 rfl
      show Wp X (d + 1) 311 (12, ([some (vp 0 0), some (vp 44 0), none], ([], Gu ((0, 0).1 + u4.1, (0, 0).2 + u4.2) x m5))) Q
      refine wp_run 1 true (13, ([some (vp 0 0), some (vp 44 0), none], ([vi 1], Gu ((0, 0).1 + u4.1, (0, 0).2 + u4.2) x m5))) rfl rfl ?_
      exact wp_ret rfl h
    have h := hk.2 c_5
    have hn : hfind (mhd 311) 3 k3 = none := by
      simp only [show mhd 311 = [(0, (8, (11, (2, 5))))] from rfl, hfind, cond_eq_ite]
      simp [Ne.symm c_5, c_5]
    show Kal X (d + 1) 311 3 (6, ([some (vp 0 0), some (vp 44 0), none], ([vi 0, vp 44 0], G x m))) Q (.inr k3, Gu u4 x m5)
    unfold Kal
    dsimp only
    rw [hn]
    exact h
set_option maxRecDepth 100000 in
set_option maxHeartbeats 4000000 in
theorem vc_L_renderColour {X : MX} {d : Nat} {x : Int64 × UInt64} {m : MI} {Q : MRes → Prop} {p1 : Int32} (h : Cl X d 46 [vp 0 0, vi p1] (G x m) (fun r => (∃ (v1 : Int32) (m2 : MI), r = (.inl (some (vi v1)), G x m2) ∧ Q (.inl (some (vi 0)), G (v1.toInt64, x.2) m2)) ∨ (∃ (k3 : Nat) (u4 : Nat × Nat) (m5 : MI), r = (.inr k3, Gu u4 x m5) ∧ ((k3 = 2 → Q (.inl (some (vi 1)), Gu ((0, 0).1 + u4.1, (0, 0).2 + u4.2) x m5)) ∧ ((¬ k3 = 2) → Q (.inr k3, Gu ((0, 0).1 + u4.1, (0, 0).2 + u4.2) x m5)))))) : Cl X (d + 1) 312 [vp 0 0, vi p1, vp 43 0] (G x m) Q := by
  show Wp X (d + 1) 312 (0, ([some (vp 0 0), some (vi p1), some (vp 43 0), none], ([], G x m))) Q
  refine wp_run 4 true (4, ([some (vp 0 0), some (vi p1), some (vp 43 0), none], ([vi p1, vp 0 0, vi 0, vp 43 0], G x m))) rfl rfl ?_
  refine wp_call 46 [vp 0 0, vi p1] (7, ([some (vp 0 0), some (vi p1), some (vp 43 0), none], ([vi 0, vp 43 0], G x m))) rfl rfl (Cl.mono h (Nat.le_refl _) ?_)
  intro r hr
  rcases hr with ⟨v1, m2, rfl, h⟩ | ⟨k3, u4, m5, rfl, h⟩
  · show Wp X (d + 1) 312 (7, ([some (vp 0 0), some (vi p1), some (vp 43 0), none], ([vi v1, vi 0, vp 43 0], G x m2))) Q
    refine wp_run 4 true (16, ([some (vp 0 0), some (vi p1), some (vp 43 0), none], ([vi 0], G (v1.toInt64, x.2) m2))) rfl rfl ?_
    exact wp_ret rfl h
  · have hk := h
    by_cases c_2 : k3 = 2
    · subst c_2
      have h := hk.1 rfl
      show Wp X (d + 1) 312 (13, ([some (vp 0 0), some (vi p1), some (vp 43 0), none], ([], Gu ((0, 0).1 + u4.1, (0, 0).2 + u4.2) x m5))) Q
      refine wp_run 1 true (14, ([some (vp 0 0), some (vi p1), some (vp 43 0), none], ([vi 1], Gu ((0, 0).1 + u4.1, (0, 0).2 + u4.2) x m5))) rfl rfl ?_
      exact wp_ret rfl h
    have h := hk.2 c_2
    have hn : hfind (mhd 312) 4 k3 = none := by
      simp only [show mhd 312 = [(0, (9, (12, (3, 2))))] from rfl, hfind, cond_eq_ite]
      simp [Ne.symm c_2, c_2]
    show Kal X (d + 1) 312 4 (7, ([some (vp 0 0), some (vi p1), some (vp 43 0), none], ([vi 0, vp 43 0], G x m))) Q (.inr k3, Gu u4 x m5)
    unfold Kal
    dsimp only
    rw [hn]
    exact h
set_option maxRecDepth 100000 in
set_option maxHeartbeats 4000000 in
theorem vc_L_renderReport {X : MX} {d : Nat} {x : Int64 × UInt64} {m : MI} {Q : MRes → Prop} {p1 : Int32} (h : Cl X d 47 [vp 0 0, vi p1] (G x m) (fun r => (∃ (v1 : Int32) (m2 : MI), r = (.inl (some (vi v1)), G x m2) ∧ Q (.inl (some (vi 0)), G (v1.toInt64, x.2) m2)) ∨ (∃ (k3 : Nat) (u4 : Nat × Nat) (m5 : MI), r = (.inr k3, Gu u4 x m5) ∧ ((k3 = 2 → Q (.inl (some (vi 1)), Gu ((0, 0).1 + u4.1, (0, 0).2 + u4.2) x m5)) ∧ ((¬ k3 = 2) → Q (.inr k3, Gu ((0, 0).1 + u4.1, (0, 0).2 + u4.2) x m5)))))) : Cl X (d + 1) 313 [vp 0 0, vi p1, vp 43 0] (G x m) Q := by
  show Wp X (d + 1) 313 (0, ([some (vp 0 0), some (vi p1), some (vp 43 0), none], ([], G x m))) Q
  refine wp_run 4 true (4, ([some (vp 0 0), some (vi p1), some (vp 43 0), none], ([vi p1, vp 0 0, vi 0, vp 43 0], G x m))) rfl rfl ?_
  refine wp_call 47 [vp 0 0, vi p1] (7, ([some (vp 0 0), some (vi p1), some (vp 43 0), none], ([vi 0, vp 43 0], G x m))) rfl rfl (Cl.mono h (Nat.le_refl _) ?_)
  intro r hr
  rcases hr with ⟨v1, m2, rfl, h⟩ | ⟨k3, u4, m5, rfl, h⟩
  · show Wp X (d + 1) 313 (7, ([some (vp 0 0), some (vi p1), some (vp 43 0), none], ([vi v1, vi 0, vp 43 0], G x m2))) Q
    refine wp_run 4 true (16, ([some (vp 0 0), some (vi p1), some (vp 43 0), none], ([vi 0], G (v1.toInt64, x.2) m2))) rfl rfl ?_
    exact wp_ret rfl h
  · have hk := h
    by_cases c_2 : k3 = 2
    · subst c_2
      have h := hk.1 rfl
      show Wp X (d + 1) 313 (13, ([some (vp 0 0), some (vi p1), some (vp 43 0), none], ([], Gu ((0, 0).1 + u4.1, (0, 0).2 + u4.2) x m5))) Q
      refine wp_run 1 true (14, ([some (vp 0 0), some (vi p1), some (vp 43 0), none], ([vi 1], Gu ((0, 0).1 + u4.1, (0, 0).2 + u4.2) x m5))) rfl rfl ?_
      exact wp_ret rfl h
    have h := hk.2 c_2
    have hn : hfind (mhd 313) 4 k3 = none := by
      simp only [show mhd 313 = [(0, (9, (12, (3, 2))))] from rfl, hfind, cond_eq_ite]
      simp [Ne.symm c_2, c_2]
    show Kal X (d + 1) 313 4 (7, ([some (vp 0 0), some (vi p1), some (vp 43 0), none], ([vi 0, vp 43 0], G x m))) Q (.inr k3, Gu u4 x m5)
    unfold Kal
    dsimp only
    rw [hn]
    exact h
set_option maxRecDepth 100000 in
set_option maxHeartbeats 4000000 in
theorem vc_L_outputAt {X : MX} {d : Nat} {x : Int64 × UInt64} {m : MI} {Q : MRes → Prop} {p1 : Int32} (h : Cl X d 48 [vp 0 0, vi p1] (G x m) (fun r => (∃ (v1 : Int32) (m2 : MI), r = (.inl (some (vi v1)), G x m2) ∧ Q (.inl (some (vi 0)), G (v1.toInt64, x.2) m2)) ∨ (∃ (k3 : Nat) (u4 : Nat × Nat) (m5 : MI), r = (.inr k3, Gu u4 x m5) ∧ ((k3 = 4 → Q (.inl (some (vi 1)), Gu ((0, 0).1 + u4.1, (0, 0).2 + u4.2) x m5)) ∧ ((¬ k3 = 4) → Q (.inr k3, Gu ((0, 0).1 + u4.1, (0, 0).2 + u4.2) x m5)))))) : Cl X (d + 1) 314 [vp 0 0, vi p1, vp 43 0] (G x m) Q := by
  show Wp X (d + 1) 314 (0, ([some (vp 0 0), some (vi p1), some (vp 43 0), none], ([], G x m))) Q
  refine wp_run 4 true (4, ([some (vp 0 0), some (vi p1), some (vp 43 0), none], ([vi p1, vp 0 0, vi 0, vp 43 0], G x m))) rfl rfl ?_
  refine wp_call 48 [vp 0 0, vi p1] (7, ([some (vp 0 0), some (vi p1), some (vp 43 0), none], ([vi 0, vp 43 0], G x m))) rfl rfl (Cl.mono h (Nat.le_refl _) ?_)
  intro r hr
  rcases hr with ⟨v1, m2, rfl, h⟩ | ⟨k3, u4, m5, rfl, h⟩
  · show Wp X (d + 1) 314 (7, ([some (vp 0 0), some (vi p1), some (vp 43 0), none], ([vi v1, vi 0, vp 43 0], G x m2))) Q
    refine wp_run 4 true (16, ([some (vp 0 0), some (vi p1), some (vp 43 0), none], ([vi 0], G (v1.toInt64, x.2) m2))) rfl rfl ?_
    exact wp_ret rfl h
  · have hk := h
    by_cases c_4 : k3 = 4
    · subst c_4
      have h := hk.1 rfl
      show Wp X (d + 1) 314 (13, ([some (vp 0 0), some (vi p1), some (vp 43 0), none], ([], Gu ((0, 0).1 + u4.1, (0, 0).2 + u4.2) x m5))) Q
      refine wp_run 1 true (14, ([some (vp 0 0), some (vi p1), some (vp 43 0), none], ([vi 1], Gu ((0, 0).1 + u4.1, (0, 0).2 + u4.2) x m5))) rfl rfl ?_
      exact wp_ret rfl h
    have h := hk.2 c_4
    have hn : hfind (mhd 314) 4 k3 = none := by
      simp only [show mhd 314 = [(0, (9, (12, (3, 4))))] from rfl, hfind, cond_eq_ite]
      simp [Ne.symm c_4, c_4]
    show Kal X (d + 1) 314 4 (7, ([some (vp 0 0), some (vi p1), some (vp 43 0), none], ([vi 0, vp 43 0], G x m))) Q (.inr k3, Gu u4 x m5)
    unfold Kal
    dsimp only
    rw [hn]
    exact h
set_option maxRecDepth 100000 in
set_option maxHeartbeats 4000000 in
theorem vc_L_type {X : MX} {d : Nat} {x : Int64 × UInt64} {m : MI} {Q : MRes → Prop} {p1 : Int32} (h : Cl X d 49 [vp 0 0, vi p1] (G x m) (fun r => (∃ (v1 : Int32) (m2 : MI), r = (.inl (some (vi v1)), G x m2) ∧ Q (.inl (some (vi 0)), G (v1.toInt64, x.2) m2)) ∨ (∃ (k3 : Nat) (u4 : Nat × Nat) (m5 : MI), r = (.inr k3, Gu u4 x m5) ∧ ((k3 = 0 → Q (.inl (some (vi 1)), Gu ((0, 0).1 + u4.1, (0, 0).2 + u4.2) x m5)) ∧ (k3 = 1 → Q (.inl (some (vi 2)), Gu ((0, 0).1 + u4.1, (0, 0).2 + u4.2) x m5)) ∧ ((¬ k3 = 0 ∧ ¬ k3 = 1) → Q (.inr k3, Gu ((0, 0).1 + u4.1, (0, 0).2 + u4.2) x m5)))))) : Cl X (d + 1) 315 [vp 0 0, vi p1, vp 43 0] (G x m) Q := by
  show Wp X (d + 1) 315 (0, ([some (vp 0 0), some (vi p1), some (vp 43 0), none], ([], G x m))) Q
  refine wp_run 4 true (4, ([some (vp 0 0), some (vi p1), some (vp 43 0), none], ([vi p1, vp 0 0, vi 0, vp 43 0], G x m))) rfl rfl ?_
  refine wp_call 49 [vp 0 0, vi p1] (7, ([some (vp 0 0), some (vi p1), some (vp 43 0), none], ([vi 0, vp 43 0], G x m))) rfl rfl (Cl.mono h (Nat.le_refl _) ?_)
  intro r hr
  rcases hr with ⟨v1, m2, rfl, h⟩ | ⟨k3, u4, m5, rfl, h⟩
  · show Wp X (d + 1) 315 (7, ([some (vp 0 0), some (vi p1), some (vp 43 0), none], ([vi v1, vi 0, vp 43 0], G x m2))) Q
    refine wp_run 4 true (19, ([some (vp 0 0), some (vi p1), some (vp 43 0), none], ([vi 0], G (v1.toInt64, x.2) m2))) rfl rfl ?_
    exact wp_ret rfl h
  · have hk := h
    by_cases c_0 : k3 = 0
    · subst c_0
      have h := hk.1 rfl
      show Wp X (d + 1) 315 (13, ([some (vp 0 0), some (vi p1), some (vp 43 0), none], ([], Gu ((0, 0).1 + u4.1, (0, 0).2 + u4.2) x m5))) Q
      refine wp_run 1 true (14, ([some (vp 0 0), some (vi p1), some (vp 43 0), none], ([vi 1], Gu ((0, 0).1 + u4.1, (0, 0).2 + u4.2) x m5))) rfl rfl ?_
      exact wp_ret rfl h
    by_cases c_1 : k3 = 1
    · subst c_1
      have h := hk.2.1 rfl
      show Wp X (d + 1) 315 (16, ([some (vp 0 0), some (vi p1), some (vp 43 0), none], ([], Gu ((0, 0).1 + u4.1, (0, 0).2 + u4.2) x m5))) Q
      refine wp_run 1 true (17, ([some (vp 0 0), some (vi p1), some (vp 43 0), none], ([vi 2], Gu ((0, 0).1 + u4.1, (0, 0).2 + u4.2) x m5))) rfl rfl ?_
      exact wp_ret rfl h
    have h := hk.2.2 ⟨c_0, c_1⟩
    have hn : hfind (mhd 315) 4 k3 = none := by
      simp only [show mhd 315 = [(0, (9, (12, (3, 0)))), (0, (9, (15, (3, 1))))] from rfl, hfind, cond_eq_ite]
      simp [Ne.symm c_0, c_0, Ne.symm c_1, c_1]
    show Kal X (d + 1) 315 4 (7, ([some (vp 0 0), some (vi p1), some (vp 43 0), none], ([vi 0, vp 43 0], G x m))) Q (.inr k3, Gu u4 x m5)
    unfold Kal
    dsimp only
    rw [hn]
    exact h
set_option maxRecDepth 100000 in
set_option maxHeartbeats 4000000 in
theorem vc_L_runScript {X : MX} {d : Nat} {x : Int64 × UInt64} {m : MI} {Q : MRes → Prop} (h : Cl X d 50 [vp 0 0] (G x m) (fun r => (∃ (v1 : Int32) (m2 : MI) (u3 : Nat × Nat), r = (.inl (some (vi v1)), Gu u3 x m2) ∧ Q (.inl (some (vi 0)), Gu ((0, 0).1 + u3.1, (0, 0).2 + u3.2) (v1.toInt64, x.2) m2)) ∨ (∃ (k4 : Nat) (u5 : Nat × Nat) (m6 : MI), r = (.inr k4, Gu u5 x m6) ∧ ((k4 = 0 → Q (.inl (some (vi 1)), Gu ((0, 0).1 + u5.1, (0, 0).2 + u5.2) x m6)) ∧ (k4 = 1 → Q (.inl (some (vi 2)), Gu ((0, 0).1 + u5.1, (0, 0).2 + u5.2) x m6)) ∧ ((¬ k4 = 0 ∧ ¬ k4 = 1) → Q (.inr k4, Gu ((0, 0).1 + u5.1, (0, 0).2 + u5.2) x m6)))))) : Cl X (d + 1) 316 [vp 0 0, vp 43 0] (G x m) Q := by
  show Wp X (d + 1) 316 (0, ([some (vp 0 0), some (vp 43 0), none], ([], G x m))) Q
  refine wp_run 3 true (3, ([some (vp 0 0), some (vp 43 0), none], ([vp 0 0, vi 0, vp 43 0], G x m))) rfl rfl ?_
  refine wp_call 50 [vp 0 0] (6, ([some (vp 0 0), some (vp 43 0), none], ([vi 0, vp 43 0], G x m))) rfl rfl (Cl.mono h (Nat.le_refl _) ?_)
  intro r hr
  rcases hr with ⟨v1, m2, u3, rfl, h⟩ | ⟨k4, u5, m6, rfl, h⟩
  · show Wp X (d + 1) 316 (6, ([some (vp 0 0), some (vp 43 0), none], ([vi v1, vi 0, vp 43 0], Gu ((0, 0).1 + u3.1, (0, 0).2 + u3.2) x m2))) Q
    refine wp_run 4 true (18, ([some (vp 0 0), some (vp 43 0), none], ([vi 0], Gu ((0, 0).1 + u3.1, (0, 0).2 + u3.2) (v1.toInt64, x.2) m2))) rfl rfl ?_
    exact wp_ret rfl h
  · have hk := h
    by_cases c_0 : k4 = 0
    · subst c_0
      have h := hk.1 rfl
      show Wp X (d + 1) 316 (12, ([some (vp 0 0), some (vp 43 0), none], ([], Gu ((0, 0).1 + u5.1, (0, 0).2 + u5.2) x m6))) Q
      refine wp_run 1 true (13, ([some (vp 0 0), some (vp 43 0), none], ([vi 1], Gu ((0, 0).1 + u5.1, (0, 0).2 + u5.2) x m6))) rfl rfl ?_
      exact wp_ret rfl h
    by_cases c_1 : k4 = 1
    · subst c_1
      have h := hk.2.1 rfl
      show Wp X (d + 1) 316 (15, ([some (vp 0 0), some (vp 43 0), none], ([], Gu ((0, 0).1 + u5.1, (0, 0).2 + u5.2) x m6))) Q
      refine wp_run 1 true (16, ([some (vp 0 0), some (vp 43 0), none], ([vi 2], Gu ((0, 0).1 + u5.1, (0, 0).2 + u5.2) x m6))) rfl rfl ?_
      exact wp_ret rfl h
    have h := hk.2.2 ⟨c_0, c_1⟩
    have hn : hfind (mhd 316) 3 k4 = none := by
      simp only [show mhd 316 = [(0, (8, (11, (2, 0)))), (0, (8, (14, (2, 1))))] from rfl, hfind, cond_eq_ite]
      simp [Ne.symm c_0, c_0, Ne.symm c_1, c_1]
    show Kal X (d + 1) 316 3 (6, ([some (vp 0 0), some (vp 43 0), none], ([vi 0, vp 43 0], G x m))) Q (.inr k4, Gu u5 x m6)
    unfold Kal
    dsimp only
    rw [hn]
    exact h
set_option maxRecDepth 100000 in
set_option maxHeartbeats 4000000 in
theorem vc_L_errorPosition {X : MX} {d : Nat} {x : Int64 × UInt64} {m : MI} {Q : MRes → Prop} (h : Cl X d 51 [vp 0 0] (G x m) (fun r => (∃ (v1 : Int32) (m2 : MI), r = (.inl (some (vi v1)), G x m2) ∧ Q (.inl (some (vi 0)), G (v1.toInt64, x.2) m2)) ∨ (∃ (k3 : Nat) (u4 : Nat × Nat) (m5 : MI), r = (.inr k3, Gu u4 x m5) ∧ ((k3 = 2 → Q (.inl (some (vi 1)), Gu ((0, 0).1 + u4.1, (0, 0).2 + u4.2) x m5)) ∧ ((¬ k3 = 2) → Q (.inr k3, Gu ((0, 0).1 + u4.1, (0, 0).2 + u4.2) x m5)))))) : Cl X (d + 1) 317 [vp 0 0, vp 43 0] (G x m) Q := by
  show Wp X (d + 1) 317 (0, ([some (vp 0 0), some (vp 43 0), none], ([], G x m))) Q
  refine wp_run 3 true (3, ([some (vp 0 0), some (vp 43 0), none], ([vp 0 0, vi 0, vp 43 0], G x m))) rfl rfl ?_
  refine wp_call 51 [vp 0 0] (6, ([some (vp 0 0), some (vp 43 0), none], ([vi 0, vp 43 0], G x m))) rfl rfl (Cl.mono h (Nat.le_refl _) ?_)
  intro r hr
  rcases hr with ⟨v1, m2, rfl, h⟩ | ⟨k3, u4, m5, rfl, h⟩
  · show Wp X (d + 1) 317 (6, ([some (vp 0 0), some (vp 43 0), none], ([vi v1, vi 0, vp 43 0], G x m2))) Q
    refine wp_run 4 true (15, ([some (vp 0 0), some (vp 43 0), none], ([vi 0], G (v1.toInt64, x.2) m2))) rfl rfl ?_
    exact wp_ret rfl h
  · have hk := h
    by_cases c_2 : k3 = 2
    · subst c_2
      have h := hk.1 rfl
      show Wp X (d + 1) 317 (12, ([some (vp 0 0), some (vp 43 0), none], ([], Gu ((0, 0).1 + u4.1, (0, 0).2 + u4.2) x m5))) Q
      refine wp_run 1 true (13, ([some (vp 0 0), some (vp 43 0), none], ([vi 1], Gu ((0, 0).1 + u4.1, (0, 0).2 + u4.2) x m5))) rfl rfl ?_
      exact wp_ret rfl h
    have h := hk.2 c_2
    have hn : hfind (mhd 317) 3 k3 = none := by
      simp only [show mhd 317 = [(0, (8, (11, (2, 2))))] from rfl, hfind, cond_eq_ite]
      simp [Ne.symm c_2, c_2]
    show Kal X (d + 1) 317 3 (6, ([some (vp 0 0), some (vp 43 0), none], ([vi 0, vp 43 0], G x m))) Q (.inr k3, Gu u4 x m5)
    unfold Kal
    dsimp only
    rw [hn]
    exact h
set_option maxRecDepth 100000 in
set_option maxHeartbeats 4000000 in
theorem vc_L_failedCommand {X : MX} {d : Nat} {x : Int64 × UInt64} {m : MI} {Q : MRes → Prop} (h : Cl X d 52 [vp 0 0] (G x m) (fun r => (∃ (v1 : Int32) (m2 : MI), r = (.inl (some (vi v1)), G x m2) ∧ Q (.inl (some (vi 0)), G (v1.toInt64, x.2) m2)) ∨ (∃ (k3 : Nat) (u4 : Nat × Nat) (m5 : MI), r = (.inr k3, Gu u4 x m5) ∧ ((k3 = 2 → Q (.inl (some (vi 1)), Gu ((0, 0).1 + u4.1, (0, 0).2 + u4.2) x m5)) ∧ ((¬ k3 = 2) → Q (.inr k3, Gu ((0, 0).1 + u4.1, (0, 0).2 + u4.2) x m5)))))) : Cl X (d + 1) 318 [vp 0 0, vp 43 0] (G x m) Q := by
  show Wp X (d + 1) 318 (0, ([some (vp 0 0), some (vp 43 0), none], ([], G x m))) Q
  refine wp_run 3 true (3, ([some (vp 0 0), some (vp 43 0), none], ([vp 0 0, vi 0, vp 43 0], G x m))) rfl rfl ?_
  refine wp_call 52 [vp 0 0] (6, ([some (vp 0 0), some (vp 43 0), none], ([vi 0, vp 43 0], G x m))) rfl rfl (Cl.mono h (Nat.le_refl _) ?_)
  intro r hr
  rcases hr with ⟨v1, m2, rfl, h⟩ | ⟨k3, u4, m5, rfl, h⟩
  · show Wp X (d + 1) 318 (6, ([some (vp 0 0), some (vp 43 0), none], ([vi v1, vi 0, vp 43 0], G x m2))) Q
    refine wp_run 4 true (15, ([some (vp 0 0), some (vp 43 0), none], ([vi 0], G (v1.toInt64, x.2) m2))) rfl rfl ?_
    exact wp_ret rfl h
  · have hk := h
    by_cases c_2 : k3 = 2
    · subst c_2
      have h := hk.1 rfl
      show Wp X (d + 1) 318 (12, ([some (vp 0 0), some (vp 43 0), none], ([], Gu ((0, 0).1 + u4.1, (0, 0).2 + u4.2) x m5))) Q
      refine wp_run 1 true (13, ([some (vp 0 0), some (vp 43 0), none], ([vi 1], Gu ((0, 0).1 + u4.1, (0, 0).2 + u4.2) x m5))) rfl rfl ?_
      exact wp_ret rfl h
    have h := hk.2 c_2
    have hn : hfind (mhd 318) 3 k3 = none := by
      simp only [show mhd 318 = [(0, (8, (11, (2, 2))))] from rfl, hfind, cond_eq_ite]
      simp [Ne.symm c_2, c_2]
    show Kal X (d + 1) 318 3 (6, ([some (vp 0 0), some (vp 43 0), none], ([vi 0, vp 43 0], G x m))) Q (.inr k3, Gu u4 x m5)
    unfold Kal
    dsimp only
    rw [hn]
    exact h
set_option maxRecDepth 100000 in
set_option maxHeartbeats 4000000 in
theorem vc_L_failureKind {X : MX} {d : Nat} {x : Int64 × UInt64} {m : MI} {Q : MRes → Prop} (h : Cl X d 53 [vp 0 0] (G x m) (fun r => (∃ (v1 : Int32) (m2 : MI), r = (.inl (some (vi v1)), G x m2) ∧ Q (.inl (some (vi 0)), G (v1.toInt64, x.2) m2)) ∨ (∃ (k3 : Nat) (u4 : Nat × Nat) (m5 : MI), r = (.inr k3, Gu u4 x m5) ∧ ((k3 = 2 → Q (.inl (some (vi 1)), Gu ((0, 0).1 + u4.1, (0, 0).2 + u4.2) x m5)) ∧ ((¬ k3 = 2) → Q (.inr k3, Gu ((0, 0).1 + u4.1, (0, 0).2 + u4.2) x m5)))))) : Cl X (d + 1) 319 [vp 0 0, vp 43 0] (G x m) Q := by
  show Wp X (d + 1) 319 (0, ([some (vp 0 0), some (vp 43 0), none], ([], G x m))) Q
  refine wp_run 3 true (3, ([some (vp 0 0), some (vp 43 0), none], ([vp 0 0, vi 0, vp 43 0], G x m))) rfl rfl ?_
  refine wp_call 53 [vp 0 0] (6, ([some (vp 0 0), some (vp 43 0), none], ([vi 0, vp 43 0], G x m))) rfl rfl (Cl.mono h (Nat.le_refl _) ?_)
  intro r hr
  rcases hr with ⟨v1, m2, rfl, h⟩ | ⟨k3, u4, m5, rfl, h⟩
  · show Wp X (d + 1) 319 (6, ([some (vp 0 0), some (vp 43 0), none], ([vi v1, vi 0, vp 43 0], G x m2))) Q
    refine wp_run 4 true (15, ([some (vp 0 0), some (vp 43 0), none], ([vi 0], G (v1.toInt64, x.2) m2))) rfl rfl ?_
    exact wp_ret rfl h
  · have hk := h
    by_cases c_2 : k3 = 2
    · subst c_2
      have h := hk.1 rfl
      show Wp X (d + 1) 319 (12, ([some (vp 0 0), some (vp 43 0), none], ([], Gu ((0, 0).1 + u4.1, (0, 0).2 + u4.2) x m5))) Q
      refine wp_run 1 true (13, ([some (vp 0 0), some (vp 43 0), none], ([vi 1], Gu ((0, 0).1 + u4.1, (0, 0).2 + u4.2) x m5))) rfl rfl ?_
      exact wp_ret rfl h
    have h := hk.2 c_2
    have hn : hfind (mhd 319) 3 k3 = none := by
      simp only [show mhd 319 = [(0, (8, (11, (2, 2))))] from rfl, hfind, cond_eq_ite]
      simp [Ne.symm c_2, c_2]
    show Kal X (d + 1) 319 3 (6, ([some (vp 0 0), some (vp 43 0), none], ([vi 0, vp 43 0], G x m))) Q (.inr k3, Gu u4 x m5)
    unfold Kal
    dsimp only
    rw [hn]
    exact h
set_option maxRecDepth 100000 in
set_option maxHeartbeats 4000000 in
theorem vc_L_undo {X : MX} {d : Nat} {x : Int64 × UInt64} {m : MI} {Q : MRes → Prop} (h : Cl X d 54 [vp 0 0] (G x m) (fun r => (∃ (v1 : Int32) (m2 : MI), r = (.inl (some (vi v1)), G x m2) ∧ Q (.inl (some (vi 0)), G (v1.toInt64, x.2) m2)) ∨ (∃ (k3 : Nat) (u4 : Nat × Nat) (m5 : MI), r = (.inr k3, Gu u4 x m5) ∧ ((k3 = 2 → Q (.inl (some (vi 1)), Gu ((0, 0).1 + u4.1, (0, 0).2 + u4.2) x m5)) ∧ ((¬ k3 = 2) → Q (.inr k3, Gu ((0, 0).1 + u4.1, (0, 0).2 + u4.2) x m5)))))) : Cl X (d + 1) 320 [vp 0 0, vp 43 0] (G x m) Q := by
  show Wp X (d + 1) 320 (0, ([some (vp 0 0), some (vp 43 0), none], ([], G x m))) Q
  refine wp_run 3 true (3, ([some (vp 0 0), some (vp 43 0), none], ([vp 0 0, vi 0, vp 43 0], G x m))) rfl rfl ?_
  refine wp_call 54 [vp 0 0] (6, ([some (vp 0 0), some (vp 43 0), none], ([vi 0, vp 43 0], G x m))) rfl rfl (Cl.mono h (Nat.le_refl _) ?_)
  intro r hr
  rcases hr with ⟨v1, m2, rfl, h⟩ | ⟨k3, u4, m5, rfl, h⟩
  · show Wp X (d + 1) 320 (6, ([some (vp 0 0), some (vp 43 0), none], ([vi v1, vi 0, vp 43 0], G x m2))) Q
    refine wp_run 4 true (15, ([some (vp 0 0), some (vp 43 0), none], ([vi 0], G (v1.toInt64, x.2) m2))) rfl rfl ?_
    exact wp_ret rfl h
  · have hk := h
    by_cases c_2 : k3 = 2
    · subst c_2
      have h := hk.1 rfl
      show Wp X (d + 1) 320 (12, ([some (vp 0 0), some (vp 43 0), none], ([], Gu ((0, 0).1 + u4.1, (0, 0).2 + u4.2) x m5))) Q
      refine wp_run 1 true (13, ([some (vp 0 0), some (vp 43 0), none], ([vi 1], Gu ((0, 0).1 + u4.1, (0, 0).2 + u4.2) x m5))) rfl rfl ?_
      exact wp_ret rfl h
    have h := hk.2 c_2
    have hn : hfind (mhd 320) 3 k3 = none := by
      simp only [show mhd 320 = [(0, (8, (11, (2, 2))))] from rfl, hfind, cond_eq_ite]
      simp [Ne.symm c_2, c_2]
    show Kal X (d + 1) 320 3 (6, ([some (vp 0 0), some (vp 43 0), none], ([vi 0, vp 43 0], G x m))) Q (.inr k3, Gu u4 x m5)
    unfold Kal
    dsimp only
    rw [hn]
    exact h
set_option maxRecDepth 100000 in
set_option maxHeartbeats 4000000 in
theorem vc_L_restore {X : MX} {d : Nat} {x : Int64 × UInt64} {m : MI} {Q : MRes → Prop} (h : Cl X d 56 [vp 0 0] (G x m) (fun r => (∃ (v1 : Int32) (m2 : MI), r = (.inl (some (vi v1)), G x m2) ∧ Q (.inl (some (vi 0)), G (v1.toInt64, x.2) m2)) ∨ (∃ (k3 : Nat) (u4 : Nat × Nat) (m5 : MI), r = (.inr k3, Gu u4 x m5) ∧ ((k3 = 1 → Q (.inl (some (vi 1)), Gu ((0, 0).1 + u4.1, (0, 0).2 + u4.2) x m5)) ∧ ((¬ k3 = 1) → Q (.inr k3, Gu ((0, 0).1 + u4.1, (0, 0).2 + u4.2) x m5)))))) : Cl X (d + 1) 321 [vp 0 0, vp 43 0] (G x m) Q := by
  show Wp X (d + 1) 321 (0, ([some (vp 0 0), some (vp 43 0), none], ([], G x m))) Q
  refine wp_run 3 true (3, ([some (vp 0 0), some (vp 43 0), none], ([vp 0 0, vi 0, vp 43 0], G x m))) rfl rfl ?_
  refine wp_call 56 [vp 0 0] (6, ([some (vp 0 0), some (vp 43 0), none], ([vi 0, vp 43 0], G x m))) rfl rfl (Cl.mono h (Nat.le_refl _) ?_)
  intro r hr
  rcases hr with ⟨v1, m2, rfl, h⟩ | ⟨k3, u4, m5, rfl, h⟩
  · show Wp X (d + 1) 321 (6, ([some (vp 0 0), some (vp 43 0), none], ([vi v1, vi 0, vp 43 0], G x m2))) Q
    refine wp_run 4 true (15, ([some (vp 0 0), some (vp 43 0), none], ([vi 0], G (v1.toInt64, x.2) m2))) rfl rfl ?_
    exact wp_ret rfl h
  · have hk := h
    by_cases c_1 : k3 = 1
    · subst c_1
      have h := hk.1 rfl
      show Wp X (d + 1) 321 (12, ([some (vp 0 0), some (vp 43 0), none], ([], Gu ((0, 0).1 + u4.1, (0, 0).2 + u4.2) x m5))) Q
      refine wp_run 1 true (13, ([some (vp 0 0), some (vp 43 0), none], ([vi 1], Gu ((0, 0).1 + u4.1, (0, 0).2 + u4.2) x m5))) rfl rfl ?_
      exact wp_ret rfl h
    have h := hk.2 c_1
    have hn : hfind (mhd 321) 3 k3 = none := by
      simp only [show mhd 321 = [(0, (8, (11, (2, 1))))] from rfl, hfind, cond_eq_ite]
      simp [Ne.symm c_1, c_1]
    show Kal X (d + 1) 321 3 (6, ([some (vp 0 0), some (vp 43 0), none], ([vi 0, vp 43 0], G x m))) Q (.inr k3, Gu u4 x m5)
    unfold Kal
    dsimp only
    rw [hn]
    exact h
