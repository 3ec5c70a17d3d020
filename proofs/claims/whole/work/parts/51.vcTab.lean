set_option maxRecDepth 100000 in
set_option maxHeartbeats 4000000 in
theorem vc_X7_copyFrom {X : MX} {d : Nat} {x : Int64 × UInt64} {m : MI} {Q : MRes → Prop} {s : Nat} {q0 : Nat} (h : Cl X d 94 [vp 2 s, vp 2 q0] (G x m) (fun r => ∃ (m2 : MI), r = (.inl none, G x m2) ∧ Cl X d 94 [vp 3 s, vp 3 q0] (G x m2) (fun r => ∃ (m4 : MI), r = (.inl none, G x m4) ∧ (∀ m5 : MI, m5 = mup m4 1 s 2 (m4 1 q0 2) → (okT 3 (m5 1 q0 3) = true ∧ (∀ m6 : MI, m6 = mup m5 1 s 3 (m5 1 q0 3) → (∀ m7 : MI, m7 = mup m6 1 s 4 (m6 1 q0 4) → (∀ m8 : MI, m8 = mup m7 1 s 5 (m7 1 q0 5) → (∀ m9 : MI, m9 = mup m8 1 s 6 (m8 1 q0 6) → (∀ m10 : MI, m10 = mup m9 1 s 7 (m9 1 q0 7) → Q (.inl none, G x m10))))))))))) : Cl X (d + 1) 71 [vp 1 s, vp 1 q0] (G x m) Q := by
  show Wp X (d + 1) 71 (0, ([some (vp 1 s), some (vp 1 q0)], ([], G x m))) Q
  refine wp_run 4 true (8, ([some (vp 1 s), some (vp 1 q0)], ([vp 2 q0, vp 2 s], G x m))) rfl rfl ?_
  refine wp_call 94 [vp 2 s, vp 2 q0] (11, ([some (vp 1 s), some (vp 1 q0)], ([], G x m))) rfl rfl (Cl.mono h (Nat.le_refl _) ?_)
  rintro r ⟨m2, rfl, h⟩
  · show Wp X (d + 1) 71 (11, ([some (vp 1 s), some (vp 1 q0)], ([], G x m2))) Q
    refine wp_run 4 true (19, ([some (vp 1 s), some (vp 1 q0)], ([vp 3 q0, vp 3 s], G x m2))) rfl rfl ?_
    refine wp_call 94 [vp 3 s, vp 3 q0] (22, ([some (vp 1 s), some (vp 1 q0)], ([], G x m2))) rfl rfl (Cl.mono h (Nat.le_refl _) ?_)
    rintro r ⟨m4, rfl, h⟩
    · show Wp X (d + 1) 71 (22, ([some (vp 1 s), some (vp 1 q0)], ([], G x m4))) Q
      refine wp_run 4 true (30, ([some (vp 1 s), some (vp 1 q0)], ([], G x (mup m4 1 s 2 (m4 1 q0 2))))) rfl rfl ?_
      refine wpg (fun m5 => Wp X (d + 1) 71 (30, ([some (vp 1 s), some (vp 1 q0)], ([], G x m5))) Q) (mup m4 1 s 2 (m4 1 q0 2)) (fun m5 hm5 => ?_)
      have h := h m5 hm5
      obtain ⟨hg3_0, h⟩ := h
      refine wp_run 4 (okT 3 (m5 1 q0 3) && true) (38, ([some (vp 1 s), some (vp 1 q0)], ([], G x (mup m5 1 s 3 (m5 1 q0 3))))) rfl (and_t hg3_0 rfl) ?_
      refine wpg (fun m6 => Wp X (d + 1) 71 (38, ([some (vp 1 s), some (vp 1 q0)], ([], G x m6))) Q) (mup m5 1 s 3 (m5 1 q0 3)) (fun m6 hm6 => ?_)
      have h := h m6 hm6
      refine wp_run 4 true (46, ([some (vp 1 s), some (vp 1 q0)], ([], G x (mup m6 1 s 4 (m6 1 q0 4))))) rfl rfl ?_
      refine wpg (fun m7 => Wp X (d + 1) 71 (46, ([some (vp 1 s), some (vp 1 q0)], ([], G x m7))) Q) (mup m6 1 s 4 (m6 1 q0 4)) (fun m7 hm7 => ?_)
      have h := h m7 hm7
      refine wp_run 4 true (54, ([some (vp 1 s), some (vp 1 q0)], ([], G x (mup m7 1 s 5 (m7 1 q0 5))))) rfl rfl ?_
      refine wpg (fun m8 => Wp X (d + 1) 71 (54, ([some (vp 1 s), some (vp 1 q0)], ([], G x m8))) Q) (mup m7 1 s 5 (m7 1 q0 5)) (fun m8 hm8 => ?_)
      have h := h m8 hm8
      refine wp_run 4 true (62, ([some (vp 1 s), some (vp 1 q0)], ([], G x (mup m8 1 s 6 (m8 1 q0 6))))) rfl rfl ?_
      refine wpg (fun m9 => Wp X (d + 1) 71 (62, ([some (vp 1 s), some (vp 1 q0)], ([], G x m9))) Q) (mup m8 1 s 6 (m8 1 q0 6)) (fun m9 hm9 => ?_)
      have h := h m9 hm9
      refine wp_run 4 true (70, ([some (vp 1 s), some (vp 1 q0)], ([], G x (mup m9 1 s 7 (m9 1 q0 7))))) rfl rfl ?_
      refine wpg (fun m10 => Wp X (d + 1) 71 (70, ([some (vp 1 s), some (vp 1 q0)], ([], G x m10))) Q) (mup m9 1 s 7 (m9 1 q0 7)) (fun m10 hm10 => ?_)
      have h := h m10 hm10
      exact wp_ret rfl h
set_option maxRecDepth 100000 in
set_option maxHeartbeats 4000000 in
theorem vc_X7_payForDiscard {X : MX} {d : Nat} {x : Int64 × UInt64} {m : MI} {Q : MRes → Prop} {s : Nat} (h : (∀ m1 : MI, m1 = mup m 1 s 4 ((m 1 s 4) - 1) → (∀ m2 : MI, m2 = mup m1 1 s 6 ((m1 1 s 6) + 1) → Q (.inl none, G x m2)))) : Cl X d 72 [vp 1 s] (G x m) Q := by
  show Wp X d 72 (0, ([some (vp 1 s)], ([], G x m))) Q
  refine wp_run 6 true (10, ([some (vp 1 s)], ([], G x (mup m 1 s 4 ((m 1 s 4) - 1))))) rfl rfl ?_
  refine wpg (fun m1 => Wp X d 72 (10, ([some (vp 1 s)], ([], G x m1))) Q) (mup m 1 s 4 ((m 1 s 4) - 1)) (fun m1 hm1 => ?_)
  have h := h m1 hm1
  refine wp_run 6 true (20, ([some (vp 1 s)], ([], G x (mup m1 1 s 6 ((m1 1 s 6) + 1))))) rfl rfl ?_
  refine wpg (fun m2 => Wp X d 72 (20, ([some (vp 1 s)], ([], G x m2))) Q) (mup m1 1 s 6 ((m1 1 s 6) + 1)) (fun m2 hm2 => ?_)
  have h := h m2 hm2
  exact wp_ret rfl h
set_option maxRecDepth 100000 in
set_option maxHeartbeats 4000000 in
theorem vc_X7_earn {X : MX} {d : Nat} {x : Int64 × UInt64} {m : MI} {Q : MRes → Prop} {s : Nat} {p0 : Int32} (h : (∀ m1 : MI, m1 = mup m 1 s 4 ((m 1 s 4) + p0) → (∀ m2 : MI, m2 = mup m1 1 s 5 ((m1 1 s 5) + p0) → (∀ m3 : MI, m3 = mup m2 1 s 7 ((m2 1 s 7) + 1) → Q (.inl none, G x m3))))) : Cl X d 73 [vp 1 s, vi p0] (G x m) Q := by
  show Wp X d 73 (0, ([some (vp 1 s), some (vi p0)], ([], G x m))) Q
  refine wp_run 6 true (10, ([some (vp 1 s), some (vi p0)], ([], G x (mup m 1 s 4 ((m 1 s 4) + p0))))) rfl rfl ?_
  refine wpg (fun m1 => Wp X d 73 (10, ([some (vp 1 s), some (vi p0)], ([], G x m1))) Q) (mup m 1 s 4 ((m 1 s 4) + p0)) (fun m1 hm1 => ?_)
  have h := h m1 hm1
  refine wp_run 6 true (20, ([some (vp 1 s), some (vi p0)], ([], G x (mup m1 1 s 5 ((m1 1 s 5) + p0))))) rfl rfl ?_
  refine wpg (fun m2 => Wp X d 73 (20, ([some (vp 1 s), some (vi p0)], ([], G x m2))) Q) (mup m1 1 s 5 ((m1 1 s 5) + p0)) (fun m2 hm2 => ?_)
  have h := h m2 hm2
  refine wp_run 6 true (30, ([some (vp 1 s), some (vi p0)], ([], G x (mup m2 1 s 7 ((m2 1 s 7) + 1))))) rfl rfl ?_
  refine wpg (fun m3 => Wp X d 73 (30, ([some (vp 1 s), some (vi p0)], ([], G x m3))) Q) (mup m2 1 s 7 ((m2 1 s 7) + 1)) (fun m3 hm3 => ?_)
  have h := h m3 hm3
  exact wp_ret rfl h
set_option maxRecDepth 100000 in
set_option maxHeartbeats 4000000 in
theorem vc_X7_blend {X : MX} {d : Nat} {x : Int64 × UInt64} {m : MI} {Q : MRes → Prop} {s : Nat} {p0 : Int32} {p1 : Int32} (h : (inb p0 10 = true ∧ inb p1 10 = true ∧ (∀ t1 : Int32, t1 = ((m 5 (10 * s + p0.toNatClampNeg) 1) + (m 5 (10 * s + p1.toNatClampNeg) 1)) / 2 → (∀ t2 : Int32, t2 = ((m 5 (10 * s + p0.toNatClampNeg) 2) + (m 5 (10 * s + p1.toNatClampNeg) 2)) / 2 → (∀ t3 : Int32, t3 = ((m 5 (10 * s + p0.toNatClampNeg) 3) + (m 5 (10 * s + p1.toNatClampNeg) 3)) / 2 → (∀ t4 : Int32, t4 = (if (m 5 (10 * s + p0.toNatClampNeg) 4) < (m 5 (10 * s + p1.toNatClampNeg) 4) then (m 5 (10 * s + p0.toNatClampNeg) 4) else (m 5 (10 * s + p1.toNatClampNeg) 4)) → Cl X d 93 [vp 2 s, vi (if p0 < p1 then p1 else p0)] (G x m) (fun r => ∃ (m6 : MI), r = (.inl none, G x m6) ∧ Cl X d 93 [vp 2 s, vi (if p0 < p1 then p0 else p1)] (G x m6) (fun r => ∃ (m8 : MI), r = (.inl none, G x m8) ∧ Cl X d 92 [vp 2 s, vi t1, vi t2, vi t3, vi t4, vi (m8 1 s 2)] (G x m8) (fun r => ∃ (v9 : Int32) (m10 : MI), r = (.inl (some (vi v9)), G x m10) ∧ Q (.inl (some (vi v9)), G x m10)))))))))) : Cl X (d + 1) 74 [vp 1 s, vi p0, vi p1] (G x m) Q := by
  show Wp X (d + 1) 74 (0, ([some (vp 1 s), some (vi p0), some (vi p1), none, none, none, none, none, none], ([], G x m))) Q
  obtain ⟨hg1_0, hg1_1, h⟩ := h
  refine wp_run 22 (inb p1 10 && (inb p0 10 && true)) (33, ([some (vp 1 s), some (vi p0), some (vi p1), some (vp 5 (10 * s + p0.toNatClampNeg)), some (vp 5 (10 * s + p1.toNatClampNeg)), some (vi (((m 5 (10 * s + p0.toNatClampNeg) 1) + (m 5 (10 * s + p1.toNatClampNeg) 1)) / 2)), none, none, none], ([], G x m))) rfl (and_t hg1_1 (and_t hg1_0 rfl)) ?_
  refine wpg (fun t1 => Wp X (d + 1) 74 (33, ([some (vp 1 s), some (vi p0), some (vi p1), some (vp 5 (10 * s + p0.toNatClampNeg)), some (vp 5 (10 * s + p1.toNatClampNeg)), some (vi t1), none, none, none], ([], G x m))) Q) (((m 5 (10 * s + p0.toNatClampNeg) 1) + (m 5 (10 * s + p1.toNatClampNeg) 1)) / 2) (fun t1 ht1 => ?_)
  have h := h t1 ht1
  refine wp_run 10 true (45, ([some (vp 1 s), some (vi p0), some (vi p1), some (vp 5 (10 * s + p0.toNatClampNeg)), some (vp 5 (10 * s + p1.toNatClampNeg)), some (vi t1), some (vi (((m 5 (10 * s + p0.toNatClampNeg) 2) + (m 5 (10 * s + p1.toNatClampNeg) 2)) / 2)), none, none], ([], G x m))) rfl rfl ?_
  refine wpg (fun t2 => Wp X (d + 1) 74 (45, ([some (vp 1 s), some (vi p0), some (vi p1), some (vp 5 (10 * s + p0.toNatClampNeg)), some (vp 5 (10 * s + p1.toNatClampNeg)), some (vi t1), some (vi t2), none, none], ([], G x m))) Q) (((m 5 (10 * s + p0.toNatClampNeg) 2) + (m 5 (10 * s + p1.toNatClampNeg) 2)) / 2) (fun t2 ht2 => ?_)
  have h := h t2 ht2
  refine wp_run 10 true (57, ([some (vp 1 s), some (vi p0), some (vi p1), some (vp 5 (10 * s + p0.toNatClampNeg)), some (vp 5 (10 * s + p1.toNatClampNeg)), some (vi t1), some (vi t2), some (vi (((m 5 (10 * s + p0.toNatClampNeg) 3) + (m 5 (10 * s + p1.toNatClampNeg) 3)) / 2)), none], ([], G x m))) rfl rfl ?_
  refine wpg (fun t3 => Wp X (d + 1) 74 (57, ([some (vp 1 s), some (vi p0), some (vi p1), some (vp 5 (10 * s + p0.toNatClampNeg)), some (vp 5 (10 * s + p1.toNatClampNeg)), some (vi t1), some (vi t2), some (vi t3), none], ([], G x m))) Q) (((m 5 (10 * s + p0.toNatClampNeg) 3) + (m 5 (10 * s + p1.toNatClampNeg) 3)) / 2) (fun t3 ht3 => ?_)
  have h := h t3 ht3
  refine wp_run 8 true (69, ([some (vp 1 s), some (vi p0), some (vi p1), some (vp 5 (10 * s + p0.toNatClampNeg)), some (vp 5 (10 * s + p1.toNatClampNeg)), some (vi t1), some (vi t2), some (vi t3), some (vi (if (m 5 (10 * s + p0.toNatClampNeg) 4) < (m 5 (10 * s + p1.toNatClampNeg) 4) then (m 5 (10 * s + p0.toNatClampNeg) 4) else (m 5 (10 * s + p1.toNatClampNeg) 4)))], ([], G x m))) rfl rfl ?_
  refine wpg (fun t4 => Wp X (d + 1) 74 (69, ([some (vp 1 s), some (vi p0), some (vi p1), some (vp 5 (10 * s + p0.toNatClampNeg)), some (vp 5 (10 * s + p1.toNatClampNeg)), some (vi t1), some (vi t2), some (vi t3), some (vi t4)], ([], G x m))) Q) (if (m 5 (10 * s + p0.toNatClampNeg) 4) < (m 5 (10 * s + p1.toNatClampNeg) 4) then (m 5 (10 * s + p0.toNatClampNeg) 4) else (m 5 (10 * s + p1.toNatClampNeg) 4)) (fun t4 ht4 => ?_)
  have h := h t4 ht4
  refine wp_run 5 true (78, ([some (vp 1 s), some (vi p0), some (vi p1), some (vp 5 (10 * s + p0.toNatClampNeg)), some (vp 5 (10 * s + p1.toNatClampNeg)), some (vi t1), some (vi t2), some (vi t3), some (vi t4)], ([vi (if p0 < p1 then p1 else p0), vp 2 s], G x m))) rfl rfl ?_
  refine wp_call 93 [vp 2 s, vi (if p0 < p1 then p1 else p0)] (81, ([some (vp 1 s), some (vi p0), some (vi p1), some (vp 5 (10 * s + p0.toNatClampNeg)), some (vp 5 (10 * s + p1.toNatClampNeg)), some (vi t1), some (vi t2), some (vi t3), some (vi t4)], ([], G x m))) rfl rfl (Cl.mono h (Nat.le_refl _) ?_)
  rintro r ⟨m6, rfl, h⟩
  · show Wp X (d + 1) 74 (81, ([some (vp 1 s), some (vi p0), some (vi p1), some (vp 5 (10 * s + p0.toNatClampNeg)), some (vp 5 (10 * s + p1.toNatClampNeg)), some (vi t1), some (vi t2), some (vi t3), some (vi t4)], ([], G x m6))) Q
    refine wp_run 5 true (90, ([some (vp 1 s), some (vi p0), some (vi p1), some (vp 5 (10 * s + p0.toNatClampNeg)), some (vp 5 (10 * s + p1.toNatClampNeg)), some (vi t1), some (vi t2), some (vi t3), some (vi t4)], ([vi (if p0 < p1 then p0 else p1), vp 2 s], G x m6))) rfl rfl ?_
    refine wp_call 93 [vp 2 s, vi (if p0 < p1 then p0 else p1)] (93, ([some (vp 1 s), some (vi p0), some (vi p1), some (vp 5 (10 * s + p0.toNatClampNeg)), some (vp 5 (10 * s + p1.toNatClampNeg)), some (vi t1), some (vi t2), some (vi t3), some (vi t4)], ([], G x m6))) rfl rfl (Cl.mono h (Nat.le_refl _) ?_)
    rintro r ⟨m8, rfl, h⟩
    · show Wp X (d + 1) 74 (93, ([some (vp 1 s), some (vi p0), some (vi p1), some (vp 5 (10 * s + p0.toNatClampNeg)), some (vp 5 (10 * s + p1.toNatClampNeg)), some (vi t1), some (vi t2), some (vi t3), some (vi t4)], ([], G x m8))) Q
      refine wp_run 8 true (109, ([some (vp 1 s), some (vi p0), some (vi p1), some (vp 5 (10 * s + p0.toNatClampNeg)), some (vp 5 (10 * s + p1.toNatClampNeg)), some (vi t1), some (vi t2), some (vi t3), some (vi t4)], ([vi (m8 1 s 2), vi t4, vi t3, vi t2, vi t1, vp 2 s], G x m8))) rfl rfl ?_
      refine wp_call 92 [vp 2 s, vi t1, vi t2, vi t3, vi t4, vi (m8 1 s 2)] (112, ([some (vp 1 s), some (vi p0), some (vi p1), some (vp 5 (10 * s + p0.toNatClampNeg)), some (vp 5 (10 * s + p1.toNatClampNeg)), some (vi t1), some (vi t2), some (vi t3), some (vi t4)], ([], G x m8))) rfl rfl (Cl.mono h (Nat.le_refl _) ?_)
      rintro r ⟨v9, m10, rfl, h⟩
      · show Wp X (d + 1) 74 (112, ([some (vp 1 s), some (vi p0), some (vi p1), some (vp 5 (10 * s + p0.toNatClampNeg)), some (vp 5 (10 * s + p1.toNatClampNeg)), some (vi t1), some (vi t2), some (vi t3), some (vi t4)], ([vi v9], G x m10))) Q
        exact wp_ret rfl h
set_option maxRecDepth 100000 in
set_option maxHeartbeats 4000000 in
theorem vc_X7_passOneDay {X : MX} {d : Nat} {x : Int64 × UInt64} {m : MI} {Q : MRes → Prop} {s : Nat} (h : (∀ m1 : MI, m1 = mup m 1 s 2 ((m 1 s 2) + 1) → Wp X (d + 1) 75 (12, ([some (vp 1 s), some (vi 0), none, none], ([], G x m1))) Q)) : Cl X (d + 1) 75 [vp 1 s] (G x m) Q := by
  show Wp X (d + 1) 75 (0, ([some (vp 1 s), none, none, none], ([], G x m))) Q
  refine wp_run 6 true (10, ([some (vp 1 s), none, none, none], ([], G x (mup m 1 s 2 ((m 1 s 2) + 1))))) rfl rfl ?_
  refine wpg (fun m1 => Wp X (d + 1) 75 (10, ([some (vp 1 s), none, none, none], ([], G x m1))) Q) (mup m 1 s 2 ((m 1 s 2) + 1)) (fun m1 hm1 => ?_)
  have h := h m1 hm1
  refine wp_run 2 true (12, ([some (vp 1 s), some (vi 0), none, none], ([], G x m1))) rfl rfl ?_
  exact h
set_option maxRecDepth 100000 in
set_option maxHeartbeats 4000000 in
theorem vl_X7_passOneDay_12 {X : MX} {d : Nat} {x : Int64 × UInt64} {m : MI} {Q : MRes → Prop} {s : Nat} {l1 : Int32} {o2 : Option MV} {o3 : Option MV} (h : (((m 2 s 1) ≤ l1 → Q (.inl none, G x m)) ∧ (¬ ((m 2 s 1) ≤ l1) → (inb l1 10 = true ∧ (∀ t2 : Int32, t2 = m 5 (10 * s + l1.toNatClampNeg) 4 → ((t2 ≤ 0 → (∀ t4 : Int32, t4 = l1 + 1 → Wp X (d + 1) 75 (12, ([some (vp 1 s), some (vi t4), some (vp 5 (10 * s + l1.toNatClampNeg)), some (vi t2)], ([], G x m))) Q)) ∧ (¬ (t2 ≤ 0) → Cl X d 77 [vp 1 s, vi l1] (G x m) (fun r => ∃ (v5 : Int32) (m6 : MI), r = (.inl (some (vi v5)), G x m6) ∧ (decide (¬ t2 = 0) = true ∧ ((¬ (v5 - v5 / t2 * t2) = 0 → (∀ t8 : Int32, t8 = l1 + 1 → Wp X (d + 1) 75 (12, ([some (vp 1 s), some (vi t8), some (vp 5 (10 * s + l1.toNatClampNeg)), some (vi t2)], ([], G x m6))) Q)) ∧ (¬ (¬ (v5 - v5 / t2 * t2) = 0) → Cl X d 76 [vp 5 (10 * s + l1.toNatClampNeg)] (G x m6) (fun r => ∃ (m10 : MI), r = (.inl none, G x m10) ∧ (∀ t11 : Int32, t11 = l1 + 1 → Wp X (d + 1) 75 (12, ([some (vp 1 s), some (vi t11), some (vp 5 (10 * s + l1.toNatClampNeg)), some (vi t2)], ([], G x m10))) Q))))))))))))) : Wp X (d + 1) 75 (12, ([some (vp 1 s), some (vi l1), o2, o3], ([], G x m))) Q := by
  refine wp_run 5 true ((bif decide ((m 2 s 1) ≤ l1) then 61 else 23), ([some (vp 1 s), some (vi l1), o2, o3], ([], G x m))) rfl rfl ?_
  refine wp_if ((m 2 s 1) ≤ l1) (fun c1 => ?_) (fun c1 => ?_)
  · have h := h.1 c1
    exact wp_ret rfl h
  · have h := h.2 c1
    obtain ⟨hg2_0, h⟩ := h
    refine wp_run 10 (inb l1 10 && true) (37, ([some (vp 1 s), some (vi l1), some (vp 5 (10 * s + l1.toNatClampNeg)), some (vi (m 5 (10 * s + l1.toNatClampNeg) 4))], ([], G x m))) rfl (and_t hg2_0 rfl) ?_
    refine wpg (fun t2 => Wp X (d + 1) 75 (37, ([some (vp 1 s), some (vi l1), some (vp 5 (10 * s + l1.toNatClampNeg)), some (vi t2)], ([], G x m))) Q) (m 5 (10 * s + l1.toNatClampNeg) 4) (fun t2 ht2 => ?_)
    have h := h t2 ht2
    refine wp_run 2 true ((bif decide (t2 ≤ 0) then 55 else 41), ([some (vp 1 s), some (vi l1), some (vp 5 (10 * s + l1.toNatClampNeg)), some (vi t2)], ([], G x m))) rfl rfl ?_
    refine wp_if (t2 ≤ 0) (fun c3 => ?_) (fun c3 => ?_)
    · have h := h.1 c3
      refine wp_run 1 true (58, ([some (vp 1 s), some (vi (l1 + 1)), some (vp 5 (10 * s + l1.toNatClampNeg)), some (vi t2)], ([], G x m))) rfl rfl ?_
      refine wpg (fun t4 => Wp X (d + 1) 75 (58, ([some (vp 1 s), some (vi t4), some (vp 5 (10 * s + l1.toNatClampNeg)), some (vi t2)], ([], G x m))) Q) (l1 + 1) (fun t4 ht4 => ?_)
      have h := h t4 ht4
      refine wp_run 1 true (12, ([some (vp 1 s), some (vi t4), some (vp 5 (10 * s + l1.toNatClampNeg)), some (vi t2)], ([], G x m))) rfl rfl ?_
      exact h
    · have h := h.2 c3
      refine wp_run 2 true (43, ([some (vp 1 s), some (vi l1), some (vp 5 (10 * s + l1.toNatClampNeg)), some (vi t2)], ([vi l1, vp 1 s], G x m))) rfl rfl ?_
      refine wp_call 77 [vp 1 s, vi l1] (46, ([some (vp 1 s), some (vi l1), some (vp 5 (10 * s + l1.toNatClampNeg)), some (vi t2)], ([], G x m))) rfl rfl (Cl.mono h (Nat.le_refl _) ?_)
      rintro r ⟨v5, m6, rfl, h⟩
      · show Wp X (d + 1) 75 (46, ([some (vp 1 s), some (vi l1), some (vp 5 (10 * s + l1.toNatClampNeg)), some (vi t2)], ([vi v5], G x m6))) Q
        obtain ⟨hg4_0, h⟩ := h
        refine wp_run 3 (decide (¬ t2 = 0) && true) ((bif decide (¬ (v5 - v5 / t2 * t2) = 0) then 55 else 51), ([some (vp 1 s), some (vi l1), some (vp 5 (10 * s + l1.toNatClampNeg)), some (vi t2)], ([], G x m6))) rfl (and_t hg4_0 rfl) ?_
        refine wp_if (¬ (v5 - v5 / t2 * t2) = 0) (fun c7 => ?_) (fun c7 => ?_)
        · have h := h.1 c7
          refine wp_run 1 true (58, ([some (vp 1 s), some (vi (l1 + 1)), some (vp 5 (10 * s + l1.toNatClampNeg)), some (vi t2)], ([], G x m6))) rfl rfl ?_
          refine wpg (fun t8 => Wp X (d + 1) 75 (58, ([some (vp 1 s), some (vi t8), some (vp 5 (10 * s + l1.toNatClampNeg)), some (vi t2)], ([], G x m6))) Q) (l1 + 1) (fun t8 ht8 => ?_)
          have h := h t8 ht8
          refine wp_run 1 true (12, ([some (vp 1 s), some (vi t8), some (vp 5 (10 * s + l1.toNatClampNeg)), some (vi t2)], ([], G x m6))) rfl rfl ?_
          exact h
        · have h := h.2 c7
          refine wp_run 1 true (52, ([some (vp 1 s), some (vi l1), some (vp 5 (10 * s + l1.toNatClampNeg)), some (vi t2)], ([vp 5 (10 * s + l1.toNatClampNeg)], G x m6))) rfl rfl ?_
          refine wp_call 76 [vp 5 (10 * s + l1.toNatClampNeg)] (55, ([some (vp 1 s), some (vi l1), some (vp 5 (10 * s + l1.toNatClampNeg)), some (vi t2)], ([], G x m6))) rfl rfl (Cl.mono h (Nat.le_refl _) ?_)
          rintro r ⟨m10, rfl, h⟩
          · show Wp X (d + 1) 75 (55, ([some (vp 1 s), some (vi l1), some (vp 5 (10 * s + l1.toNatClampNeg)), some (vi t2)], ([], G x m10))) Q
            refine wp_run 1 true (58, ([some (vp 1 s), some (vi (l1 + 1)), some (vp 5 (10 * s + l1.toNatClampNeg)), some (vi t2)], ([], G x m10))) rfl rfl ?_
            refine wpg (fun t11 => Wp X (d + 1) 75 (58, ([some (vp 1 s), some (vi t11), some (vp 5 (10 * s + l1.toNatClampNeg)), some (vi t2)], ([], G x m10))) Q) (l1 + 1) (fun t11 ht11 => ?_)
            have h := h t11 ht11
            refine wp_run 1 true (12, ([some (vp 1 s), some (vi t11), some (vp 5 (10 * s + l1.toNatClampNeg)), some (vi t2)], ([], G x m10))) rfl rfl ?_
            exact h
set_option maxRecDepth 100000 in
set_option maxHeartbeats 4000000 in
theorem vc_X7_fade {X : MX} {d : Nat} {x : Int64 × UInt64} {m : MI} {Q : MRes → Prop} {q0 : Nat} (h : Wp X d 76 (2, ([some (vp 5 q0), some (vi 1)], ([], G x m))) Q) : Cl X d 76 [vp 5 q0] (G x m) Q := by
  show Wp X d 76 (0, ([some (vp 5 q0), none], ([], G x m))) Q
  refine wp_run 2 true (2, ([some (vp 5 q0), some (vi 1)], ([], G x m))) rfl rfl ?_
  exact h
set_option maxRecDepth 100000 in
set_option maxHeartbeats 4000000 in
theorem vl_X7_fade_2 {X : MX} {d : Nat} {x : Int64 × UInt64} {m : MI} {Q : MRes → Prop} {q0 : Nat} {l1 : Int32} (h : ((3 < l1 → Q (.inl none, G x m)) ∧ (¬ (3 < l1) → (inb l1 6 = true ∧ (((m 5 q0 l1.toNatClampNeg) ≤ 50 → (inb l1 6 = true ∧ ((50 ≤ (m 5 q0 l1.toNatClampNeg) → (∀ t4 : Int32, t4 = l1 + 1 → Wp X d 76 (2, ([some (vp 5 q0), some (vi t4)], ([], G x m))) Q)) ∧ (¬ (50 ≤ (m 5 q0 l1.toNatClampNeg)) → (inb l1 6 = true ∧ inb l1 6 = true ∧ (∀ m5 : MI, m5 = mup m 5 q0 (l1.toNatClampNeg) ((m 5 q0 l1.toNatClampNeg) + 1) → (∀ t6 : Int32, t6 = l1 + 1 → Wp X d 76 (2, ([some (vp 5 q0), some (vi t6)], ([], G x m5))) Q))))))) ∧ (¬ ((m 5 q0 l1.toNatClampNeg) ≤ 50) → (inb l1 6 = true ∧ inb l1 6 = true ∧ (∀ m7 : MI, m7 = mup m 5 q0 (l1.toNatClampNeg) ((m 5 q0 l1.toNatClampNeg) - 1) → (∀ t8 : Int32, t8 = l1 + 1 → Wp X d 76 (2, ([some (vp 5 q0), some (vi t8)], ([], G x m7))) Q))))))))) : Wp X d 76 (2, ([some (vp 5 q0), some (vi l1)], ([], G x m))) Q := by
  refine wp_run 3 true ((bif decide (3 < l1) then 46 else 7), ([some (vp 5 q0), some (vi l1)], ([], G x m))) rfl rfl ?_
  refine wp_if (3 < l1) (fun c1 => ?_) (fun c1 => ?_)
  · have h := h.1 c1
    exact wp_ret rfl h
  · have h := h.2 c1
    obtain ⟨hg2_0, h⟩ := h
    refine wp_run 5 (inb l1 6 && true) ((bif decide ((m 5 q0 l1.toNatClampNeg) ≤ 50) then 25 else 15), ([some (vp 5 q0), some (vi l1)], ([], G x m))) rfl (and_t hg2_0 rfl) ?_
    refine wp_if ((m 5 q0 l1.toNatClampNeg) ≤ 50) (fun c2 => ?_) (fun c2 => ?_)
    · have h := h.1 c2
      obtain ⟨hg3_0, h⟩ := h
      refine wp_run 5 (inb l1 6 && true) ((bif decide (50 ≤ (m 5 q0 l1.toNatClampNeg)) then 40 else 33), ([some (vp 5 q0), some (vi l1)], ([], G x m))) rfl (and_t hg3_0 rfl) ?_
      refine wp_if (50 ≤ (m 5 q0 l1.toNatClampNeg)) (fun c3 => ?_) (fun c3 => ?_)
      · have h := h.1 c3
        refine wp_run 1 true (43, ([some (vp 5 q0), some (vi (l1 + 1))], ([], G x m))) rfl rfl ?_
        refine wpg (fun t4 => Wp X d 76 (43, ([some (vp 5 q0), some (vi t4)], ([], G x m))) Q) (l1 + 1) (fun t4 ht4 => ?_)
        have h := h t4 ht4
        refine wp_run 1 true (2, ([some (vp 5 q0), some (vi t4)], ([], G x m))) rfl rfl ?_
        exact h
      · have h := h.2 c3
        obtain ⟨hg4_0, hg4_1, h⟩ := h
        refine wp_run 7 (inb l1 6 && (inb l1 6 && true)) (40, ([some (vp 5 q0), some (vi l1)], ([], G x (mup m 5 q0 (l1.toNatClampNeg) ((m 5 q0 l1.toNatClampNeg) + 1))))) rfl (and_t hg4_1 (and_t hg4_0 rfl)) ?_
        refine wpg (fun m5 => Wp X d 76 (40, ([some (vp 5 q0), some (vi l1)], ([], G x m5))) Q) (mup m 5 q0 (l1.toNatClampNeg) ((m 5 q0 l1.toNatClampNeg) + 1)) (fun m5 hm5 => ?_)
        have h := h m5 hm5
        refine wp_run 1 true (43, ([some (vp 5 q0), some (vi (l1 + 1))], ([], G x m5))) rfl rfl ?_
        refine wpg (fun t6 => Wp X d 76 (43, ([some (vp 5 q0), some (vi t6)], ([], G x m5))) Q) (l1 + 1) (fun t6 ht6 => ?_)
        have h := h t6 ht6
        refine wp_run 1 true (2, ([some (vp 5 q0), some (vi t6)], ([], G x m5))) rfl rfl ?_
        exact h
    · have h := h.2 c2
      obtain ⟨hg3_0, hg3_1, h⟩ := h
      refine wp_run 7 (inb l1 6 && (inb l1 6 && true)) (22, ([some (vp 5 q0), some (vi l1)], ([], G x (mup m 5 q0 (l1.toNatClampNeg) ((m 5 q0 l1.toNatClampNeg) - 1))))) rfl (and_t hg3_1 (and_t hg3_0 rfl)) ?_
      refine wpg (fun m7 => Wp X d 76 (22, ([some (vp 5 q0), some (vi l1)], ([], G x m7))) Q) (mup m 5 q0 (l1.toNatClampNeg) ((m 5 q0 l1.toNatClampNeg) - 1)) (fun m7 hm7 => ?_)
      have h := h m7 hm7
      refine wp_run 2 true (43, ([some (vp 5 q0), some (vi (l1 + 1))], ([], G x m7))) rfl rfl ?_
      refine wpg (fun t8 => Wp X d 76 (43, ([some (vp 5 q0), some (vi t8)], ([], G x m7))) Q) (l1 + 1) (fun t8 ht8 => ?_)
      have h := h t8 ht8
      refine wp_run 1 true (2, ([some (vp 5 q0), some (vi t8)], ([], G x m7))) rfl rfl ?_
      exact h
set_option maxRecDepth 100000 in
set_option maxHeartbeats 4000000 in
theorem vc_X7_ageAt {X : MX} {d : Nat} {x : Int64 × UInt64} {m : MI} {Q : MRes → Prop} {s : Nat} {p0 : Int32} (h : (inb p0 10 = true ∧ Q (.inl (some (vi ((m 1 s 2) - (m 5 (10 * s + p0.toNatClampNeg) 5)))), G x m))) : Cl X d 77 [vp 1 s, vi p0] (G x m) Q := by
  show Wp X d 77 (0, ([some (vp 1 s), some (vi p0)], ([], G x m))) Q
  obtain ⟨hg1_0, h⟩ := h
  refine wp_run 10 (inb p0 10 && true) (16, ([some (vp 1 s), some (vi p0)], ([vi ((m 1 s 2) - (m 5 (10 * s + p0.toNatClampNeg) 5))], G x m))) rfl (and_t hg1_0 rfl) ?_
  exact wp_ret rfl h
set_option maxRecDepth 100000 in
set_option maxHeartbeats 4000000 in
theorem vc_X7_isGreyAt {X : MX} {d : Nat} {x : Int64 × UInt64} {m : MI} {Q : MRes → Prop} {s : Nat} {p0 : Int32} (h : (inb p0 10 = true ∧ ((¬ (m 5 (10 * s + p0.toNatClampNeg) 1) = 50 → Q (.inl (some (vi 0)), G x m)) ∧ (¬ (¬ (m 5 (10 * s + p0.toNatClampNeg) 1) = 50) → ((¬ (m 5 (10 * s + p0.toNatClampNeg) 2) = 50 → Q (.inl (some (vi 0)), G x m)) ∧ (¬ (¬ (m 5 (10 * s + p0.toNatClampNeg) 2) = 50) → ((¬ (m 5 (10 * s + p0.toNatClampNeg) 3) = 50 → Q (.inl (some (vi 0)), G x m)) ∧ (¬ (¬ (m 5 (10 * s + p0.toNatClampNeg) 3) = 50) → Q (.inl (some (vi 1)), G x m))))))))) : Cl X d 78 [vp 1 s, vi p0] (G x m) Q := by
  show Wp X d 78 (0, ([some (vp 1 s), some (vi p0), none], ([], G x m))) Q
  obtain ⟨hg1_0, h⟩ := h
  refine wp_run 11 (inb p0 10 && true) ((bif decide (¬ (m 5 (10 * s + p0.toNatClampNeg) 1) = 50) then 38 else 18), ([some (vp 1 s), some (vi p0), some (vp 5 (10 * s + p0.toNatClampNeg))], ([], G x m))) rfl (and_t hg1_0 rfl) ?_
  refine wp_if (¬ (m 5 (10 * s + p0.toNatClampNeg) 1) = 50) (fun c1 => ?_) (fun c1 => ?_)
  · have h := h.1 c1
    refine wp_run 1 true (39, ([some (vp 1 s), some (vi p0), some (vp 5 (10 * s + p0.toNatClampNeg))], ([vi 0], G x m))) rfl rfl ?_
    exact wp_ret rfl h
  · have h := h.2 c1
    refine wp_run 5 true ((bif decide (¬ (m 5 (10 * s + p0.toNatClampNeg) 2) = 50) then 38 else 26), ([some (vp 1 s), some (vi p0), some (vp 5 (10 * s + p0.toNatClampNeg))], ([], G x m))) rfl rfl ?_
    refine wp_if (¬ (m 5 (10 * s + p0.toNatClampNeg) 2) = 50) (fun c2 => ?_) (fun c2 => ?_)
    · have h := h.1 c2
      refine wp_run 1 true (39, ([some (vp 1 s), some (vi p0), some (vp 5 (10 * s + p0.toNatClampNeg))], ([vi 0], G x m))) rfl rfl ?_
      exact wp_ret rfl h
    · have h := h.2 c2
      refine wp_run 5 true ((bif decide (¬ (m 5 (10 * s + p0.toNatClampNeg) 3) = 50) then 38 else 34), ([some (vp 1 s), some (vi p0), some (vp 5 (10 * s + p0.toNatClampNeg))], ([], G x m))) rfl rfl ?_
      refine wp_if (¬ (m 5 (10 * s + p0.toNatClampNeg) 3) = 50) (fun c3 => ?_) (fun c3 => ?_)
      · have h := h.1 c3
        refine wp_run 1 true (39, ([some (vp 1 s), some (vi p0), some (vp 5 (10 * s + p0.toNatClampNeg))], ([vi 0], G x m))) rfl rfl ?_
        exact wp_ret rfl h
      · have h := h.2 c3
        refine wp_run 2 true (39, ([some (vp 1 s), some (vi p0), some (vp 5 (10 * s + p0.toNatClampNeg))], ([vi 1], G x m))) rfl rfl ?_
        exact wp_ret rfl h
set_option maxRecDepth 100000 in
set_option maxHeartbeats 4000000 in
theorem vc_X7_greyCount {X : MX} {d : Nat} {x : Int64 × UInt64} {m : MI} {Q : MRes → Prop} {s : Nat} (h : Wp X (d + 1) 79 (4, ([some (vp 1 s), some (vi 0), some (vi 0)], ([], G x m))) Q) : Cl X (d + 1) 79 [vp 1 s] (G x m) Q := by
  show Wp X (d + 1) 79 (0, ([some (vp 1 s), none, none], ([], G x m))) Q
  refine wp_run 4 true (4, ([some (vp 1 s), some (vi 0), some (vi 0)], ([], G x m))) rfl rfl ?_
  exact h
set_option maxRecDepth 100000 in
set_option maxHeartbeats 4000000 in
theorem vl_X7_greyCount_4 {X : MX} {d : Nat} {x : Int64 × UInt64} {m : MI} {Q : MRes → Prop} {s : Nat} {l1 : Int32} {l2 : Int32} (h : (((m 2 s 1) ≤ l2 → Q (.inl (some (vi l1)), G x m)) ∧ (¬ ((m 2 s 1) ≤ l2) → Cl X d 78 [vp 1 s, vi l2] (G x m) (fun r => ∃ (v2 : Int32) (m3 : MI), r = (.inl (some (vi v2)), G x m3) ∧ ((v2 = 0 → (∀ t5 : Int32, t5 = l2 + 1 → Wp X (d + 1) 79 (4, ([some (vp 1 s), some (vi l1), some (vi t5)], ([], G x m3))) Q)) ∧ (¬ (v2 = 0) → (∀ t6 : Int32, t6 = l1 + 1 → (∀ t7 : Int32, t7 = l2 + 1 → Wp X (d + 1) 79 (4, ([some (vp 1 s), some (vi t6), some (vi t7)], ([], G x m3))) Q)))))))) : Wp X (d + 1) 79 (4, ([some (vp 1 s), some (vi l1), some (vi l2)], ([], G x m))) Q := by
  refine wp_run 5 true ((bif decide ((m 2 s 1) ≤ l2) then 32 else 15), ([some (vp 1 s), some (vi l1), some (vi l2)], ([], G x m))) rfl rfl ?_
  refine wp_if ((m 2 s 1) ≤ l2) (fun c1 => ?_) (fun c1 => ?_)
  · have h := h.1 c1
    refine wp_run 1 true (33, ([some (vp 1 s), some (vi l1), some (vi l2)], ([vi l1], G x m))) rfl rfl ?_
    exact wp_ret rfl h
  · have h := h.2 c1
    refine wp_run 2 true (17, ([some (vp 1 s), some (vi l1), some (vi l2)], ([vi l2, vp 1 s], G x m))) rfl rfl ?_
    refine wp_call 78 [vp 1 s, vi l2] (20, ([some (vp 1 s), some (vi l1), some (vi l2)], ([], G x m))) rfl rfl (Cl.mono h (Nat.le_refl _) ?_)
    rintro r ⟨v2, m3, rfl, h⟩
    · show Wp X (d + 1) 79 (20, ([some (vp 1 s), some (vi l1), some (vi l2)], ([vi v2], G x m3))) Q
      refine wp_run 1 true ((bif decide (v2 = 0) then 26 else 23), ([some (vp 1 s), some (vi l1), some (vi l2)], ([], G x m3))) rfl rfl ?_
      refine wp_if (v2 = 0) (fun c4 => ?_) (fun c4 => ?_)
      · have h := h.1 c4
        refine wp_run 1 true (29, ([some (vp 1 s), some (vi l1), some (vi (l2 + 1))], ([], G x m3))) rfl rfl ?_
        refine wpg (fun t5 => Wp X (d + 1) 79 (29, ([some (vp 1 s), some (vi l1), some (vi t5)], ([], G x m3))) Q) (l2 + 1) (fun t5 ht5 => ?_)
        have h := h t5 ht5
        refine wp_run 1 true (4, ([some (vp 1 s), some (vi l1), some (vi t5)], ([], G x m3))) rfl rfl ?_
        exact h
      · have h := h.2 c4
        refine wp_run 1 true (26, ([some (vp 1 s), some (vi (l1 + 1)), some (vi l2)], ([], G x m3))) rfl rfl ?_
        refine wpg (fun t6 => Wp X (d + 1) 79 (26, ([some (vp 1 s), some (vi t6), some (vi l2)], ([], G x m3))) Q) (l1 + 1) (fun t6 ht6 => ?_)
        have h := h t6 ht6
        refine wp_run 1 true (29, ([some (vp 1 s), some (vi t6), some (vi (l2 + 1))], ([], G x m3))) rfl rfl ?_
        refine wpg (fun t7 => Wp X (d + 1) 79 (29, ([some (vp 1 s), some (vi t6), some (vi t7)], ([], G x m3))) Q) (l2 + 1) (fun t7 ht7 => ?_)
        have h := h t7 ht7
        refine wp_run 1 true (4, ([some (vp 1 s), some (vi t6), some (vi t7)], ([], G x m3))) rfl rfl ?_
        exact h
set_option maxRecDepth 100000 in
set_option maxHeartbeats 4000000 in
theorem vc_X7_daysToGreyAt {X : MX} {d : Nat} {x : Int64 × UInt64} {m : MI} {Q : MRes → Prop} {s : Nat} {p0 : Int32} (h : (inb p0 10 = true ∧ Cl X d 60 [vi 103, vi ((m 5 (10 * s + p0.toNatClampNeg) 1) - 50), vi ((m 5 (10 * s + p0.toNatClampNeg) 2) - 50), vi ((m 5 (10 * s + p0.toNatClampNeg) 3) - 50)] (G x m) (fun r => ∃ (v1 : Int32) (m2 : MI), r = (.inl (some (vi v1)), G x m2) ∧ (∀ t3 : Int32, t3 = m2 5 (10 * s + p0.toNatClampNeg) 4 → ((v1 = 0 → Q (.inl (some (vi 0)), G x m2)) ∧ (¬ (v1 = 0) → ((1 ≤ t3 → Cl X d 77 [vp 1 s, vi p0] (G x m2) (fun r => ∃ (v6 : Int32) (m7 : MI), r = (.inl (some (vi v6)), G x m7) ∧ (decide (¬ t3 = 0) = true ∧ Q (.inl (some (vi ((v1 * t3) - (v6 - v6 / t3 * t3)))), G x m7)))) ∧ (¬ (1 ≤ t3) → Q (.inl (some (vi 0)), G x m2))))))))) : Cl X (d + 1) 80 [vp 1 s, vi p0] (G x m) Q := by
  show Wp X (d + 1) 80 (0, ([some (vp 1 s), some (vi p0), none, none, none], ([], G x m))) Q
  obtain ⟨hg1_0, h⟩ := h
  refine wp_run 22 (inb p0 10 && true) (30, ([some (vp 1 s), some (vi p0), some (vp 5 (10 * s + p0.toNatClampNeg)), none, none], ([vi ((m 5 (10 * s + p0.toNatClampNeg) 3) - 50), vi ((m 5 (10 * s + p0.toNatClampNeg) 2) - 50), vi ((m 5 (10 * s + p0.toNatClampNeg) 1) - 50), vi 103], G x m))) rfl (and_t hg1_0 rfl) ?_
  refine wp_call 60 [vi 103, vi ((m 5 (10 * s + p0.toNatClampNeg) 1) - 50), vi ((m 5 (10 * s + p0.toNatClampNeg) 2) - 50), vi ((m 5 (10 * s + p0.toNatClampNeg) 3) - 50)] (33, ([some (vp 1 s), some (vi p0), some (vp 5 (10 * s + p0.toNatClampNeg)), none, none], ([], G x m))) rfl rfl (Cl.mono h (Nat.le_refl _) ?_)
  rintro r ⟨v1, m2, rfl, h⟩
  · show Wp X (d + 1) 80 (33, ([some (vp 1 s), some (vi p0), some (vp 5 (10 * s + p0.toNatClampNeg)), none, none], ([vi v1], G x m2))) Q
    refine wp_run 5 true (39, ([some (vp 1 s), some (vi p0), some (vp 5 (10 * s + p0.toNatClampNeg)), some (vi v1), some (vi (m2 5 (10 * s + p0.toNatClampNeg) 4))], ([], G x m2))) rfl rfl ?_
    refine wpg (fun t3 => Wp X (d + 1) 80 (39, ([some (vp 1 s), some (vi p0), some (vp 5 (10 * s + p0.toNatClampNeg)), some (vi v1), some (vi t3)], ([], G x m2))) Q) (m2 5 (10 * s + p0.toNatClampNeg) 4) (fun t3 ht3 => ?_)
    have h := h t3 ht3
    refine wp_run 2 true ((bif decide (v1 = 0) then 49 else 43), ([some (vp 1 s), some (vi p0), some (vp 5 (10 * s + p0.toNatClampNeg)), some (vi v1), some (vi t3)], ([], G x m2))) rfl rfl ?_
    refine wp_if (v1 = 0) (fun c4 => ?_) (fun c4 => ?_)
    · have h := h.1 c4
      refine wp_run 1 true (50, ([some (vp 1 s), some (vi p0), some (vp 5 (10 * s + p0.toNatClampNeg)), some (vi v1), some (vi t3)], ([vi 0], G x m2))) rfl rfl ?_
      exact wp_ret rfl h
    · have h := h.2 c4
      refine wp_run 3 true ((bif decide (1 ≤ t3) then 51 else 49), ([some (vp 1 s), some (vi p0), some (vp 5 (10 * s + p0.toNatClampNeg)), some (vi v1), some (vi t3)], ([], G x m2))) rfl rfl ?_
      refine wp_if (1 ≤ t3) (fun c5 => ?_) (fun c5 => ?_)
      · have h := h.1 c5
        refine wp_run 5 true (57, ([some (vp 1 s), some (vi p0), some (vp 5 (10 * s + p0.toNatClampNeg)), some (vi v1), some (vi t3)], ([vi p0, vp 1 s, vi (v1 * t3)], G x m2))) rfl rfl ?_
        refine wp_call 77 [vp 1 s, vi p0] (60, ([some (vp 1 s), some (vi p0), some (vp 5 (10 * s + p0.toNatClampNeg)), some (vi v1), some (vi t3)], ([vi (v1 * t3)], G x m2))) rfl rfl (Cl.mono h (Nat.le_refl _) ?_)
        rintro r ⟨v6, m7, rfl, h⟩
        · show Wp X (d + 1) 80 (60, ([some (vp 1 s), some (vi p0), some (vp 5 (10 * s + p0.toNatClampNeg)), some (vi v1), some (vi t3)], ([vi v6, vi (v1 * t3)], G x m7))) Q
          obtain ⟨hg5_0, h⟩ := h
          refine wp_run 3 (decide (¬ t3 = 0) && true) (64, ([some (vp 1 s), some (vi p0), some (vp 5 (10 * s + p0.toNatClampNeg)), some (vi v1), some (vi t3)], ([vi ((v1 * t3) - (v6 - v6 / t3 * t3))], G x m7))) rfl (and_t hg5_0 rfl) ?_
          exact wp_ret rfl h
      · have h := h.2 c5
        refine wp_run 1 true (50, ([some (vp 1 s), some (vi p0), some (vp 5 (10 * s + p0.toNatClampNeg)), some (vi v1), some (vi t3)], ([vi 0], G x m2))) rfl rfl ?_
        exact wp_ret rfl h
set_option maxRecDepth 100000 in
set_option maxHeartbeats 4000000 in
theorem vc_X7_brightnessAt {X : MX} {d : Nat} {x : Int64 × UInt64} {m : MI} {Q : MRes → Prop} {s : Nat} {p0 : Int32} (h : (inb p0 10 = true ∧ Q (.inl (some (vi (((m 5 (10 * s + p0.toNatClampNeg) 1) + (m 5 (10 * s + p0.toNatClampNeg) 2)) + (m 5 (10 * s + p0.toNatClampNeg) 3)))), G x m))) : Cl X d 81 [vp 1 s, vi p0] (G x m) Q := by
  show Wp X d 81 (0, ([some (vp 1 s), some (vi p0), none], ([], G x m))) Q
  obtain ⟨hg1_0, h⟩ := h
  refine wp_run 17 (inb p0 10 && true) (21, ([some (vp 1 s), some (vi p0), some (vp 5 (10 * s + p0.toNatClampNeg))], ([vi (((m 5 (10 * s + p0.toNatClampNeg) 1) + (m 5 (10 * s + p0.toNatClampNeg) 2)) + (m 5 (10 * s + p0.toNatClampNeg) 3))], G x m))) rfl (and_t hg1_0 rfl) ?_
  exact wp_ret rfl h
set_option maxRecDepth 100000 in
set_option maxHeartbeats 4000000 in
theorem vc_X7_brightnessSum {X : MX} {d : Nat} {x : Int64 × UInt64} {m : MI} {Q : MRes → Prop} {s : Nat} (h : Wp X (d + 1) 82 (4, ([some (vp 1 s), some (vi 0), some (vi 0)], ([], G x m))) Q) : Cl X (d + 1) 82 [vp 1 s] (G x m) Q := by
  show Wp X (d + 1) 82 (0, ([some (vp 1 s), none, none], ([], G x m))) Q
  refine wp_run 4 true (4, ([some (vp 1 s), some (vi 0), some (vi 0)], ([], G x m))) rfl rfl ?_
  exact h
set_option maxRecDepth 100000 in
set_option maxHeartbeats 4000000 in
theorem vl_X7_brightnessSum_4 {X : MX} {d : Nat} {x : Int64 × UInt64} {m : MI} {Q : MRes → Prop} {s : Nat} {l1 : Int32} {l2 : Int32} (h : (((m 2 s 1) ≤ l2 → Q (.inl (some (vi l1)), G x m)) ∧ (¬ ((m 2 s 1) ≤ l2) → Cl X d 81 [vp 1 s, vi l2] (G x m) (fun r => ∃ (v2 : Int32) (m3 : MI), r = (.inl (some (vi v2)), G x m3) ∧ (∀ t4 : Int32, t4 = l1 + v2 → (∀ t5 : Int32, t5 = l2 + 1 → Wp X (d + 1) 82 (4, ([some (vp 1 s), some (vi t4), some (vi t5)], ([], G x m3))) Q)))))) : Wp X (d + 1) 82 (4, ([some (vp 1 s), some (vi l1), some (vi l2)], ([], G x m))) Q := by
  refine wp_run 5 true ((bif decide ((m 2 s 1) ≤ l2) then 29 else 15), ([some (vp 1 s), some (vi l1), some (vi l2)], ([], G x m))) rfl rfl ?_
  refine wp_if ((m 2 s 1) ≤ l2) (fun c1 => ?_) (fun c1 => ?_)
  · have h := h.1 c1
    refine wp_run 1 true (30, ([some (vp 1 s), some (vi l1), some (vi l2)], ([vi l1], G x m))) rfl rfl ?_
    exact wp_ret rfl h
  · have h := h.2 c1
    refine wp_run 3 true (18, ([some (vp 1 s), some (vi l1), some (vi l2)], ([vi l2, vp 1 s, vi l1], G x m))) rfl rfl ?_
    refine wp_call 81 [vp 1 s, vi l2] (21, ([some (vp 1 s), some (vi l1), some (vi l2)], ([vi l1], G x m))) rfl rfl (Cl.mono h (Nat.le_refl _) ?_)
    rintro r ⟨v2, m3, rfl, h⟩
    · show Wp X (d + 1) 82 (21, ([some (vp 1 s), some (vi l1), some (vi l2)], ([vi v2, vi l1], G x m3))) Q
      refine wp_run 2 true (23, ([some (vp 1 s), some (vi (l1 + v2)), some (vi l2)], ([], G x m3))) rfl rfl ?_
      refine wpg (fun t4 => Wp X (d + 1) 82 (23, ([some (vp 1 s), some (vi t4), some (vi l2)], ([], G x m3))) Q) (l1 + v2) (fun t4 ht4 => ?_)
      have h := h t4 ht4
      refine wp_run 1 true (26, ([some (vp 1 s), some (vi t4), some (vi (l2 + 1))], ([], G x m3))) rfl rfl ?_
      refine wpg (fun t5 => Wp X (d + 1) 82 (26, ([some (vp 1 s), some (vi t4), some (vi t5)], ([], G x m3))) Q) (l2 + 1) (fun t5 ht5 => ?_)
      have h := h t5 ht5
      refine wp_run 1 true (4, ([some (vp 1 s), some (vi t4), some (vi t5)], ([], G x m3))) rfl rfl ?_
      exact h
set_option maxRecDepth 100000 in
set_option maxHeartbeats 4000000 in
theorem vc_X7_positionByBrightness {X : MX} {d : Nat} {x : Int64 × UInt64} {m : MI} {Q : MRes → Prop} {s : Nat} {p0 : Int32} (h : Wp X (d + 1) 83 (2, ([some (vp 1 s), some (vi p0), some (vi 0)], ([], G x m))) Q) : Cl X (d + 1) 83 [vp 1 s, vi p0] (G x m) Q := by
  show Wp X (d + 1) 83 (0, ([some (vp 1 s), some (vi p0), none], ([], G x m))) Q
  refine wp_run 2 true (2, ([some (vp 1 s), some (vi p0), some (vi 0)], ([], G x m))) rfl rfl ?_
  exact h
set_option maxRecDepth 100000 in
set_option maxHeartbeats 4000000 in
theorem vl_X7_positionByBrightness_2 {X : MX} {d : Nat} {x : Int64 × UInt64} {m : MI} {Q : MRes → Prop} {s : Nat} {l1 : Int32} {l2 : Int32} (h : (((m 2 s 1) ≤ l2 → Q (.inl (some (vi (-1))), G x m)) ∧ (¬ ((m 2 s 1) ≤ l2) → Cl X d 84 [vp 1 s, vi l2] (G x m) (fun r => ∃ (v2 : Int32) (m3 : MI), r = (.inl (some (vi v2)), G x m3) ∧ ((¬ v2 = l1 → (∀ t5 : Int32, t5 = l2 + 1 → Wp X (d + 1) 83 (2, ([some (vp 1 s), some (vi l1), some (vi t5)], ([], G x m3))) Q)) ∧ (¬ (¬ v2 = l1) → Q (.inl (some (vi l2)), G x m3))))))) : Wp X (d + 1) 83 (2, ([some (vp 1 s), some (vi l1), some (vi l2)], ([], G x m))) Q := by
  refine wp_run 5 true ((bif decide ((m 2 s 1) ≤ l2) then 30 else 13), ([some (vp 1 s), some (vi l1), some (vi l2)], ([], G x m))) rfl rfl ?_
  refine wp_if ((m 2 s 1) ≤ l2) (fun c1 => ?_) (fun c1 => ?_)
  · have h := h.1 c1
    refine wp_run 1 true (31, ([some (vp 1 s), some (vi l1), some (vi l2)], ([vi (-1)], G x m))) rfl rfl ?_
    exact wp_ret rfl h
  · have h := h.2 c1
    refine wp_run 2 true (15, ([some (vp 1 s), some (vi l1), some (vi l2)], ([vi l2, vp 1 s], G x m))) rfl rfl ?_
    refine wp_call 84 [vp 1 s, vi l2] (18, ([some (vp 1 s), some (vi l1), some (vi l2)], ([], G x m))) rfl rfl (Cl.mono h (Nat.le_refl _) ?_)
    rintro r ⟨v2, m3, rfl, h⟩
    · show Wp X (d + 1) 83 (18, ([some (vp 1 s), some (vi l1), some (vi l2)], ([vi v2], G x m3))) Q
      refine wp_run 2 true ((bif decide (¬ v2 = l1) then 24 else 22), ([some (vp 1 s), some (vi l1), some (vi l2)], ([], G x m3))) rfl rfl ?_
      refine wp_if (¬ v2 = l1) (fun c4 => ?_) (fun c4 => ?_)
      · have h := h.1 c4
        refine wp_run 1 true (27, ([some (vp 1 s), some (vi l1), some (vi (l2 + 1))], ([], G x m3))) rfl rfl ?_
        refine wpg (fun t5 => Wp X (d + 1) 83 (27, ([some (vp 1 s), some (vi l1), some (vi t5)], ([], G x m3))) Q) (l2 + 1) (fun t5 ht5 => ?_)
        have h := h t5 ht5
        refine wp_run 1 true (2, ([some (vp 1 s), some (vi l1), some (vi t5)], ([], G x m3))) rfl rfl ?_
        exact h
      · have h := h.2 c4
        refine wp_run 1 true (23, ([some (vp 1 s), some (vi l1), some (vi l2)], ([vi l2], G x m3))) rfl rfl ?_
        exact wp_ret rfl h
set_option maxRecDepth 100000 in
set_option maxHeartbeats 4000000 in
theorem vc_X7_brightnessRankAt {X : MX} {d : Nat} {x : Int64 × UInt64} {m : MI} {Q : MRes → Prop} {s : Nat} {p0 : Int32} (h : Cl X d 81 [vp 1 s, vi p0] (G x m) (fun r => ∃ (v1 : Int32) (m2 : MI), r = (.inl (some (vi v1)), G x m2) ∧ Wp X (d + 1) 84 (11, ([some (vp 1 s), some (vi p0), some (vi 0), some (vi v1), some (vi 0), none], ([], G x m2))) Q)) : Cl X (d + 1) 84 [vp 1 s, vi p0] (G x m) Q := by
  show Wp X (d + 1) 84 (0, ([some (vp 1 s), some (vi p0), none, none, none, none], ([], G x m))) Q
  refine wp_run 4 true (4, ([some (vp 1 s), some (vi p0), some (vi 0), none, none, none], ([vi p0, vp 1 s], G x m))) rfl rfl ?_
  refine wp_call 81 [vp 1 s, vi p0] (7, ([some (vp 1 s), some (vi p0), some (vi 0), none, none, none], ([], G x m))) rfl rfl (Cl.mono h (Nat.le_refl _) ?_)
  rintro r ⟨v1, m2, rfl, h⟩
  · show Wp X (d + 1) 84 (7, ([some (vp 1 s), some (vi p0), some (vi 0), none, none, none], ([vi v1], G x m2))) Q
    refine wp_run 3 true (11, ([some (vp 1 s), some (vi p0), some (vi 0), some (vi v1), some (vi 0), none], ([], G x m2))) rfl rfl ?_
    exact h
set_option maxRecDepth 100000 in
set_option maxHeartbeats 4000000 in
theorem vl_X7_brightnessRankAt_11 {X : MX} {d : Nat} {x : Int64 × UInt64} {m : MI} {Q : MRes → Prop} {s : Nat} {l1 : Int32} {l2 : Int32} {l3 : Int32} {l4 : Int32} {o5 : Option MV} (h : (((m 2 s 1) ≤ l4 → Q (.inl (some (vi l2)), G x m)) ∧ (¬ ((m 2 s 1) ≤ l4) → Cl X d 81 [vp 1 s, vi l4] (G x m) (fun r => ∃ (v2 : Int32) (m3 : MI), r = (.inl (some (vi v2)), G x m3) ∧ ((l3 < v2 → (∀ t5 : Int32, t5 = l2 + 1 → (∀ t6 : Int32, t6 = l4 + 1 → Wp X (d + 1) 84 (11, ([some (vp 1 s), some (vi l1), some (vi t5), some (vi l3), some (vi t6), some (vi v2)], ([], G x m3))) Q))) ∧ (¬ (l3 < v2) → ((¬ v2 = l3 → (∀ t8 : Int32, t8 = l4 + 1 → Wp X (d + 1) 84 (11, ([some (vp 1 s), some (vi l1), some (vi l2), some (vi l3), some (vi t8), some (vi v2)], ([], G x m3))) Q)) ∧ (¬ (¬ v2 = l3) → ((l1 ≤ l4 → (∀ t10 : Int32, t10 = l4 + 1 → Wp X (d + 1) 84 (11, ([some (vp 1 s), some (vi l1), some (vi l2), some (vi l3), some (vi t10), some (vi v2)], ([], G x m3))) Q)) ∧ (¬ (l1 ≤ l4) → (∀ t11 : Int32, t11 = l2 + 1 → (∀ t12 : Int32, t12 = l4 + 1 → Wp X (d + 1) 84 (11, ([some (vp 1 s), some (vi l1), some (vi t11), some (vi l3), some (vi t12), some (vi v2)], ([], G x m3))) Q)))))))))))) : Wp X (d + 1) 84 (11, ([some (vp 1 s), some (vi l1), some (vi l2), some (vi l3), some (vi l4), o5], ([], G x m))) Q := by
  refine wp_run 5 true ((bif decide ((m 2 s 1) ≤ l4) then 58 else 23), ([some (vp 1 s), some (vi l1), some (vi l2), some (vi l3), some (vi l4), o5], ([], G x m))) rfl rfl ?_
  refine wp_if ((m 2 s 1) ≤ l4) (fun c1 => ?_) (fun c1 => ?_)
  · have h := h.1 c1
    refine wp_run 1 true (59, ([some (vp 1 s), some (vi l1), some (vi l2), some (vi l3), some (vi l4), o5], ([vi l2], G x m))) rfl rfl ?_
    exact wp_ret rfl h
  · have h := h.2 c1
    refine wp_run 2 true (26, ([some (vp 1 s), some (vi l1), some (vi l2), some (vi l3), some (vi l4), o5], ([vi l4, vp 1 s], G x m))) rfl rfl ?_
    refine wp_call 81 [vp 1 s, vi l4] (29, ([some (vp 1 s), some (vi l1), some (vi l2), some (vi l3), some (vi l4), o5], ([], G x m))) rfl rfl (Cl.mono h (Nat.le_refl _) ?_)
    rintro r ⟨v2, m3, rfl, h⟩
    · show Wp X (d + 1) 84 (29, ([some (vp 1 s), some (vi l1), some (vi l2), some (vi l3), some (vi l4), o5], ([vi v2], G x m3))) Q
      refine wp_run 4 true ((bif decide (l3 < v2) then 49 else 37), ([some (vp 1 s), some (vi l1), some (vi l2), some (vi l3), some (vi l4), some (vi v2)], ([], G x m3))) rfl rfl ?_
      refine wp_if (l3 < v2) (fun c4 => ?_) (fun c4 => ?_)
      · have h := h.1 c4
        refine wp_run 1 true (52, ([some (vp 1 s), some (vi l1), some (vi (l2 + 1)), some (vi l3), some (vi l4), some (vi v2)], ([], G x m3))) rfl rfl ?_
        refine wpg (fun t5 => Wp X (d + 1) 84 (52, ([some (vp 1 s), some (vi l1), some (vi t5), some (vi l3), some (vi l4), some (vi v2)], ([], G x m3))) Q) (l2 + 1) (fun t5 ht5 => ?_)
        have h := h t5 ht5
        refine wp_run 1 true (55, ([some (vp 1 s), some (vi l1), some (vi t5), some (vi l3), some (vi (l4 + 1)), some (vi v2)], ([], G x m3))) rfl rfl ?_
        refine wpg (fun t6 => Wp X (d + 1) 84 (55, ([some (vp 1 s), some (vi l1), some (vi t5), some (vi l3), some (vi t6), some (vi v2)], ([], G x m3))) Q) (l4 + 1) (fun t6 ht6 => ?_)
        have h := h t6 ht6
        refine wp_run 1 true (11, ([some (vp 1 s), some (vi l1), some (vi t5), some (vi l3), some (vi t6), some (vi v2)], ([], G x m3))) rfl rfl ?_
        exact h
      · have h := h.2 c4
        refine wp_run 3 true ((bif decide (¬ v2 = l3) then 52 else 43), ([some (vp 1 s), some (vi l1), some (vi l2), some (vi l3), some (vi l4), some (vi v2)], ([], G x m3))) rfl rfl ?_
        refine wp_if (¬ v2 = l3) (fun c7 => ?_) (fun c7 => ?_)
        · have h := h.1 c7
          refine wp_run 1 true (55, ([some (vp 1 s), some (vi l1), some (vi l2), some (vi l3), some (vi (l4 + 1)), some (vi v2)], ([], G x m3))) rfl rfl ?_
          refine wpg (fun t8 => Wp X (d + 1) 84 (55, ([some (vp 1 s), some (vi l1), some (vi l2), some (vi l3), some (vi t8), some (vi v2)], ([], G x m3))) Q) (l4 + 1) (fun t8 ht8 => ?_)
          have h := h t8 ht8
          refine wp_run 1 true (11, ([some (vp 1 s), some (vi l1), some (vi l2), some (vi l3), some (vi t8), some (vi v2)], ([], G x m3))) rfl rfl ?_
          exact h
        · have h := h.2 c7
          refine wp_run 3 true ((bif decide (l1 ≤ l4) then 52 else 49), ([some (vp 1 s), some (vi l1), some (vi l2), some (vi l3), some (vi l4), some (vi v2)], ([], G x m3))) rfl rfl ?_
          refine wp_if (l1 ≤ l4) (fun c9 => ?_) (fun c9 => ?_)
          · have h := h.1 c9
            refine wp_run 1 true (55, ([some (vp 1 s), some (vi l1), some (vi l2), some (vi l3), some (vi (l4 + 1)), some (vi v2)], ([], G x m3))) rfl rfl ?_
            refine wpg (fun t10 => Wp X (d + 1) 84 (55, ([some (vp 1 s), some (vi l1), some (vi l2), some (vi l3), some (vi t10), some (vi v2)], ([], G x m3))) Q) (l4 + 1) (fun t10 ht10 => ?_)
            have h := h t10 ht10
            refine wp_run 1 true (11, ([some (vp 1 s), some (vi l1), some (vi l2), some (vi l3), some (vi t10), some (vi v2)], ([], G x m3))) rfl rfl ?_
            exact h
          · have h := h.2 c9
            refine wp_run 1 true (52, ([some (vp 1 s), some (vi l1), some (vi (l2 + 1)), some (vi l3), some (vi l4), some (vi v2)], ([], G x m3))) rfl rfl ?_
            refine wpg (fun t11 => Wp X (d + 1) 84 (52, ([some (vp 1 s), some (vi l1), some (vi t11), some (vi l3), some (vi l4), some (vi v2)], ([], G x m3))) Q) (l2 + 1) (fun t11 ht11 => ?_)
            have h := h t11 ht11
            refine wp_run 1 true (55, ([some (vp 1 s), some (vi l1), some (vi t11), some (vi l3), some (vi (l4 + 1)), some (vi v2)], ([], G x m3))) rfl rfl ?_
            refine wpg (fun t12 => Wp X (d + 1) 84 (55, ([some (vp 1 s), some (vi l1), some (vi t11), some (vi l3), some (vi t12), some (vi v2)], ([], G x m3))) Q) (l4 + 1) (fun t12 ht12 => ?_)
            have h := h t12 ht12
            refine wp_run 1 true (11, ([some (vp 1 s), some (vi l1), some (vi t11), some (vi l3), some (vi t12), some (vi v2)], ([], G x m3))) rfl rfl ?_
            exact h
set_option maxRecDepth 100000 in
set_option maxHeartbeats 4000000 in
theorem vc_X7_between_7_5 {X : MX} {d : Nat} {x : Int64 × UInt64} {m : MI} {Q : MRes → Prop} {s : Nat} {q0 : Nat} {q1 : Nat} (h : Cl X d 60 [vi (m 1 s 3), vi ((m 7 q0 1) - (m 5 q1 1)), vi ((m 7 q0 2) - (m 5 q1 2)), vi ((m 7 q0 3) - (m 5 q1 3))] (G x m) (fun r => ∃ (v1 : Int32) (m2 : MI), r = (.inl (some (vi v1)), G x m2) ∧ Q (.inl (some (vi v1)), G x m2))) : Cl X (d + 1) 85 [vp 1 s, vp 7 q0, vp 5 q1] (G x m) Q := by
  show Wp X (d + 1) 85 (0, ([some (vp 1 s), some (vp 7 q0), some (vp 5 q1)], ([], G x m))) Q
  refine wp_run 23 true (25, ([some (vp 1 s), some (vp 7 q0), some (vp 5 q1)], ([vi ((m 7 q0 3) - (m 5 q1 3)), vi ((m 7 q0 2) - (m 5 q1 2)), vi ((m 7 q0 1) - (m 5 q1 1)), vi (m 1 s 3)], G x m))) rfl rfl ?_
  refine wp_call 60 [vi (m 1 s 3), vi ((m 7 q0 1) - (m 5 q1 1)), vi ((m 7 q0 2) - (m 5 q1 2)), vi ((m 7 q0 3) - (m 5 q1 3))] (28, ([some (vp 1 s), some (vp 7 q0), some (vp 5 q1)], ([], G x m))) rfl rfl (Cl.mono h (Nat.le_refl _) ?_)
  rintro r ⟨v1, m2, rfl, h⟩
  · show Wp X (d + 1) 85 (28, ([some (vp 1 s), some (vp 7 q0), some (vp 5 q1)], ([vi v1], G x m2))) Q
    exact wp_ret rfl h
set_option maxRecDepth 100000 in
set_option maxHeartbeats 4000000 in
theorem vc_X7_between_30_5 {X : MX} {d : Nat} {x : Int64 × UInt64} {m : MI} {Q : MRes → Prop} {s : Nat} {q1 : Nat} (h : Cl X d 60 [vi (m 1 s 3), vi ((m 30 0 1) - (m 5 q1 1)), vi ((m 30 0 2) - (m 5 q1 2)), vi ((m 30 0 3) - (m 5 q1 3))] (G x m) (fun r => ∃ (v1 : Int32) (m2 : MI), r = (.inl (some (vi v1)), G x m2) ∧ Q (.inl (some (vi v1)), G x m2))) : Cl X (d + 1) 85 [vp 1 s, vp 30 0, vp 5 q1] (G x m) Q := by
  show Wp X (d + 1) 85 (0, ([some (vp 1 s), some (vp 30 0), some (vp 5 q1)], ([], G x m))) Q
  refine wp_run 23 true (25, ([some (vp 1 s), some (vp 30 0), some (vp 5 q1)], ([vi ((m 30 0 3) - (m 5 q1 3)), vi ((m 30 0 2) - (m 5 q1 2)), vi ((m 30 0 1) - (m 5 q1 1)), vi (m 1 s 3)], G x m))) rfl rfl ?_
  refine wp_call 60 [vi (m 1 s 3), vi ((m 30 0 1) - (m 5 q1 1)), vi ((m 30 0 2) - (m 5 q1 2)), vi ((m 30 0 3) - (m 5 q1 3))] (28, ([some (vp 1 s), some (vp 30 0), some (vp 5 q1)], ([], G x m))) rfl rfl (Cl.mono h (Nat.le_refl _) ?_)
  rintro r ⟨v1, m2, rfl, h⟩
  · show Wp X (d + 1) 85 (28, ([some (vp 1 s), some (vp 30 0), some (vp 5 q1)], ([vi v1], G x m2))) Q
    exact wp_ret rfl h
set_option maxRecDepth 100000 in
set_option maxHeartbeats 4000000 in
theorem vc_X7_between_5_5 {X : MX} {d : Nat} {x : Int64 × UInt64} {m : MI} {Q : MRes → Prop} {s : Nat} {q0 : Nat} {q1 : Nat} (h : Cl X d 60 [vi (m 1 s 3), vi ((m 5 q0 1) - (m 5 q1 1)), vi ((m 5 q0 2) - (m 5 q1 2)), vi ((m 5 q0 3) - (m 5 q1 3))] (G x m) (fun r => ∃ (v1 : Int32) (m2 : MI), r = (.inl (some (vi v1)), G x m2) ∧ Q (.inl (some (vi v1)), G x m2))) : Cl X (d + 1) 85 [vp 1 s, vp 5 q0, vp 5 q1] (G x m) Q := by
  show Wp X (d + 1) 85 (0, ([some (vp 1 s), some (vp 5 q0), some (vp 5 q1)], ([], G x m))) Q
  refine wp_run 23 true (25, ([some (vp 1 s), some (vp 5 q0), some (vp 5 q1)], ([vi ((m 5 q0 3) - (m 5 q1 3)), vi ((m 5 q0 2) - (m 5 q1 2)), vi ((m 5 q0 1) - (m 5 q1 1)), vi (m 1 s 3)], G x m))) rfl rfl ?_
  refine wp_call 60 [vi (m 1 s 3), vi ((m 5 q0 1) - (m 5 q1 1)), vi ((m 5 q0 2) - (m 5 q1 2)), vi ((m 5 q0 3) - (m 5 q1 3))] (28, ([some (vp 1 s), some (vp 5 q0), some (vp 5 q1)], ([], G x m))) rfl rfl (Cl.mono h (Nat.le_refl _) ?_)
  rintro r ⟨v1, m2, rfl, h⟩
  · show Wp X (d + 1) 85 (28, ([some (vp 1 s), some (vp 5 q0), some (vp 5 q1)], ([vi v1], G x m2))) Q
    exact wp_ret rfl h
set_option maxRecDepth 100000 in
set_option maxHeartbeats 4000000 in
theorem vc_X7_isFitting {X : MX} {d : Nat} {x : Int64 × UInt64} {m : MI} {Q : MRes → Prop} {s : Nat} {p0 : Int32} {p1 : Int32} (h : (inb p0 6 = true ∧ inb p1 10 = true ∧ Cl X d 85 [vp 1 s, vp 7 (6 * s + p0.toNatClampNeg), vp 5 (10 * s + p1.toNatClampNeg)] (G x m) (fun r => ∃ (v1 : Int32) (m2 : MI), r = (.inl (some (vi v1)), G x m2) ∧ (((m2 7 (6 * s + p0.toNatClampNeg) 4) < v1 → Q (.inl (some (vi 0)), G x m2)) ∧ (¬ ((m2 7 (6 * s + p0.toNatClampNeg) 4) < v1) → Q (.inl (some (vi 1)), G x m2)))))) : Cl X (d + 1) 86 [vp 1 s, vi p0, vi p1] (G x m) Q := by
  show Wp X (d + 1) 86 (0, ([some (vp 1 s), some (vi p0), some (vi p1), none], ([], G x m))) Q
  obtain ⟨hg1_0, hg1_1, h⟩ := h
  refine wp_run 13 (inb p1 10 && (inb p0 6 && true)) (21, ([some (vp 1 s), some (vi p0), some (vi p1), some (vp 7 (6 * s + p0.toNatClampNeg))], ([vp 5 (10 * s + p1.toNatClampNeg), vp 7 (6 * s + p0.toNatClampNeg), vp 1 s], G x m))) rfl (and_t hg1_1 (and_t hg1_0 rfl)) ?_
  refine wp_call 85 [vp 1 s, vp 7 (6 * s + p0.toNatClampNeg), vp 5 (10 * s + p1.toNatClampNeg)] (24, ([some (vp 1 s), some (vi p0), some (vi p1), some (vp 7 (6 * s + p0.toNatClampNeg))], ([], G x m))) rfl rfl (Cl.mono h (Nat.le_refl _) ?_)
  rintro r ⟨v1, m2, rfl, h⟩
  · show Wp X (d + 1) 86 (24, ([some (vp 1 s), some (vi p0), some (vi p1), some (vp 7 (6 * s + p0.toNatClampNeg))], ([vi v1], G x m2))) Q
    refine wp_run 4 true ((bif decide ((m2 7 (6 * s + p0.toNatClampNeg) 4) < v1) then 34 else 30), ([some (vp 1 s), some (vi p0), some (vi p1), some (vp 7 (6 * s + p0.toNatClampNeg))], ([], G x m2))) rfl rfl ?_
    refine wp_if ((m2 7 (6 * s + p0.toNatClampNeg) 4) < v1) (fun c3 => ?_) (fun c3 => ?_)
    · have h := h.1 c3
      refine wp_run 1 true (35, ([some (vp 1 s), some (vi p0), some (vi p1), some (vp 7 (6 * s + p0.toNatClampNeg))], ([vi 0], G x m2))) rfl rfl ?_
      exact wp_ret rfl h
    · have h := h.2 c3
      refine wp_run 2 true (35, ([some (vp 1 s), some (vi p0), some (vi p1), some (vp 7 (6 * s + p0.toNatClampNeg))], ([vi 1], G x m2))) rfl rfl ?_
      exact wp_ret rfl h
set_option maxRecDepth 100000 in
set_option maxHeartbeats 4000000 in
theorem vc_X7_nearestTo_7 {X : MX} {d : Nat} {x : Int64 × UInt64} {m : MI} {Q : MRes → Prop} {s : Nat} {q0 : Nat} (h : Wp X (d + 1) 87 (8, ([some (vp 1 s), some (vp 7 q0), some (vi (-1)), some (vi 1000000000), some (vi 0), none], ([], G x m))) Q) : Cl X (d + 1) 87 [vp 1 s, vp 7 q0] (G x m) Q := by
  show Wp X (d + 1) 87 (0, ([some (vp 1 s), some (vp 7 q0), none, none, none, none], ([], G x m))) Q
  refine wp_run 6 true (8, ([some (vp 1 s), some (vp 7 q0), some (vi (-1)), some (vi 1000000000), some (vi 0), none], ([], G x m))) rfl rfl ?_
  exact h
set_option maxRecDepth 100000 in
set_option maxHeartbeats 4000000 in
theorem vl_X7_nearestTo_7_8 {X : MX} {d : Nat} {x : Int64 × UInt64} {m : MI} {Q : MRes → Prop} {s : Nat} {q0 : Nat} {l2 : Int32} {l3 : Int32} {l4 : Int32} {o5 : Option MV} (h : (((m 2 s 1) ≤ l4 → Q (.inl (some (vi l2)), G x m)) ∧ (¬ ((m 2 s 1) ≤ l4) → (inb l4 10 = true ∧ Cl X d 85 [vp 1 s, vp 7 q0, vp 5 (10 * s + l4.toNatClampNeg)] (G x m) (fun r => ∃ (v2 : Int32) (m3 : MI), r = (.inl (some (vi v2)), G x m3) ∧ ((l3 ≤ v2 → (∀ t5 : Int32, t5 = l4 + 1 → Wp X (d + 1) 87 (8, ([some (vp 1 s), some (vp 7 q0), some (vi l2), some (vi l3), some (vi t5), some (vi v2)], ([], G x m3))) Q)) ∧ (¬ (l3 ≤ v2) → (∀ t6 : Int32, t6 = l4 + 1 → Wp X (d + 1) 87 (8, ([some (vp 1 s), some (vp 7 q0), some (vi l4), some (vi v2), some (vi t6), some (vi v2)], ([], G x m3))) Q)))))))) : Wp X (d + 1) 87 (8, ([some (vp 1 s), some (vp 7 q0), some (vi l2), some (vi l3), some (vi l4), o5], ([], G x m))) Q := by
  refine wp_run 5 true ((bif decide ((m 2 s 1) ≤ l4) then 55 else 20), ([some (vp 1 s), some (vp 7 q0), some (vi l2), some (vi l3), some (vi l4), o5], ([], G x m))) rfl rfl ?_
  refine wp_if ((m 2 s 1) ≤ l4) (fun c1 => ?_) (fun c1 => ?_)
  · have h := h.1 c1
    refine wp_run 1 true (56, ([some (vp 1 s), some (vp 7 q0), some (vi l2), some (vi l3), some (vi l4), o5], ([vi l2], G x m))) rfl rfl ?_
    exact wp_ret rfl h
  · have h := h.2 c1
    obtain ⟨hg2_0, h⟩ := h
    refine wp_run 7 (inb l4 10 && true) (32, ([some (vp 1 s), some (vp 7 q0), some (vi l2), some (vi l3), some (vi l4), o5], ([vp 5 (10 * s + l4.toNatClampNeg), vp 7 q0, vp 1 s], G x m))) rfl (and_t hg2_0 rfl) ?_
    refine wp_call 85 [vp 1 s, vp 7 q0, vp 5 (10 * s + l4.toNatClampNeg)] (35, ([some (vp 1 s), some (vp 7 q0), some (vi l2), some (vi l3), some (vi l4), o5], ([], G x m))) rfl rfl (Cl.mono h (Nat.le_refl _) ?_)
    rintro r ⟨v2, m3, rfl, h⟩
    · show Wp X (d + 1) 87 (35, ([some (vp 1 s), some (vp 7 q0), some (vi l2), some (vi l3), some (vi l4), o5], ([vi v2], G x m3))) Q
      refine wp_run 4 true ((bif decide (l3 ≤ v2) then 49 else 43), ([some (vp 1 s), some (vp 7 q0), some (vi l2), some (vi l3), some (vi l4), some (vi v2)], ([], G x m3))) rfl rfl ?_
      refine wp_if (l3 ≤ v2) (fun c4 => ?_) (fun c4 => ?_)
      · have h := h.1 c4
        refine wp_run 1 true (52, ([some (vp 1 s), some (vp 7 q0), some (vi l2), some (vi l3), some (vi (l4 + 1)), some (vi v2)], ([], G x m3))) rfl rfl ?_
        refine wpg (fun t5 => Wp X (d + 1) 87 (52, ([some (vp 1 s), some (vp 7 q0), some (vi l2), some (vi l3), some (vi t5), some (vi v2)], ([], G x m3))) Q) (l4 + 1) (fun t5 ht5 => ?_)
        have h := h t5 ht5
        refine wp_run 1 true (8, ([some (vp 1 s), some (vp 7 q0), some (vi l2), some (vi l3), some (vi t5), some (vi v2)], ([], G x m3))) rfl rfl ?_
        exact h
      · have h := h.2 c4
        refine wp_run 5 true (52, ([some (vp 1 s), some (vp 7 q0), some (vi l4), some (vi v2), some (vi (l4 + 1)), some (vi v2)], ([], G x m3))) rfl rfl ?_
        refine wpg (fun t6 => Wp X (d + 1) 87 (52, ([some (vp 1 s), some (vp 7 q0), some (vi l4), some (vi v2), some (vi t6), some (vi v2)], ([], G x m3))) Q) (l4 + 1) (fun t6 ht6 => ?_)
        have h := h t6 ht6
        refine wp_run 1 true (8, ([some (vp 1 s), some (vp 7 q0), some (vi l4), some (vi v2), some (vi t6), some (vi v2)], ([], G x m3))) rfl rfl ?_
        exact h
set_option maxRecDepth 100000 in
set_option maxHeartbeats 4000000 in
theorem vc_X7_nearestTo_30 {X : MX} {d : Nat} {x : Int64 × UInt64} {m : MI} {Q : MRes → Prop} {s : Nat} (h : Wp X (d + 1) 87 (8, ([some (vp 1 s), some (vp 30 0), some (vi (-1)), some (vi 1000000000), some (vi 0), none], ([], G x m))) Q) : Cl X (d + 1) 87 [vp 1 s, vp 30 0] (G x m) Q := by
  show Wp X (d + 1) 87 (0, ([some (vp 1 s), some (vp 30 0), none, none, none, none], ([], G x m))) Q
  refine wp_run 6 true (8, ([some (vp 1 s), some (vp 30 0), some (vi (-1)), some (vi 1000000000), some (vi 0), none], ([], G x m))) rfl rfl ?_
  exact h
set_option maxRecDepth 100000 in
set_option maxHeartbeats 4000000 in
theorem vl_X7_nearestTo_30_8 {X : MX} {d : Nat} {x : Int64 × UInt64} {m : MI} {Q : MRes → Prop} {s : Nat} {l2 : Int32} {l3 : Int32} {l4 : Int32} {o5 : Option MV} (h : (((m 2 s 1) ≤ l4 → Q (.inl (some (vi l2)), G x m)) ∧ (¬ ((m 2 s 1) ≤ l4) → (inb l4 10 = true ∧ Cl X d 85 [vp 1 s, vp 30 0, vp 5 (10 * s + l4.toNatClampNeg)] (G x m) (fun r => ∃ (v2 : Int32) (m3 : MI), r = (.inl (some (vi v2)), G x m3) ∧ ((l3 ≤ v2 → (∀ t5 : Int32, t5 = l4 + 1 → Wp X (d + 1) 87 (8, ([some (vp 1 s), some (vp 30 0), some (vi l2), some (vi l3), some (vi t5), some (vi v2)], ([], G x m3))) Q)) ∧ (¬ (l3 ≤ v2) → (∀ t6 : Int32, t6 = l4 + 1 → Wp X (d + 1) 87 (8, ([some (vp 1 s), some (vp 30 0), some (vi l4), some (vi v2), some (vi t6), some (vi v2)], ([], G x m3))) Q)))))))) : Wp X (d + 1) 87 (8, ([some (vp 1 s), some (vp 30 0), some (vi l2), some (vi l3), some (vi l4), o5], ([], G x m))) Q := by
  refine wp_run 5 true ((bif decide ((m 2 s 1) ≤ l4) then 55 else 20), ([some (vp 1 s), some (vp 30 0), some (vi l2), some (vi l3), some (vi l4), o5], ([], G x m))) rfl rfl ?_
  refine wp_if ((m 2 s 1) ≤ l4) (fun c1 => ?_) (fun c1 => ?_)
  · have h := h.1 c1
    refine wp_run 1 true (56, ([some (vp 1 s), some (vp 30 0), some (vi l2), some (vi l3), some (vi l4), o5], ([vi l2], G x m))) rfl rfl ?_
    exact wp_ret rfl h
  · have h := h.2 c1
    obtain ⟨hg2_0, h⟩ := h
    refine wp_run 7 (inb l4 10 && true) (32, ([some (vp 1 s), some (vp 30 0), some (vi l2), some (vi l3), some (vi l4), o5], ([vp 5 (10 * s + l4.toNatClampNeg), vp 30 0, vp 1 s], G x m))) rfl (and_t hg2_0 rfl) ?_
    refine wp_call 85 [vp 1 s, vp 30 0, vp 5 (10 * s + l4.toNatClampNeg)] (35, ([some (vp 1 s), some (vp 30 0), some (vi l2), some (vi l3), some (vi l4), o5], ([], G x m))) rfl rfl (Cl.mono h (Nat.le_refl _) ?_)
    rintro r ⟨v2, m3, rfl, h⟩
    · show Wp X (d + 1) 87 (35, ([some (vp 1 s), some (vp 30 0), some (vi l2), some (vi l3), some (vi l4), o5], ([vi v2], G x m3))) Q
      refine wp_run 4 true ((bif decide (l3 ≤ v2) then 49 else 43), ([some (vp 1 s), some (vp 30 0), some (vi l2), some (vi l3), some (vi l4), some (vi v2)], ([], G x m3))) rfl rfl ?_
      refine wp_if (l3 ≤ v2) (fun c4 => ?_) (fun c4 => ?_)
      · have h := h.1 c4
        refine wp_run 1 true (52, ([some (vp 1 s), some (vp 30 0), some (vi l2), some (vi l3), some (vi (l4 + 1)), some (vi v2)], ([], G x m3))) rfl rfl ?_
        refine wpg (fun t5 => Wp X (d + 1) 87 (52, ([some (vp 1 s), some (vp 30 0), some (vi l2), some (vi l3), some (vi t5), some (vi v2)], ([], G x m3))) Q) (l4 + 1) (fun t5 ht5 => ?_)
        have h := h t5 ht5
        refine wp_run 1 true (8, ([some (vp 1 s), some (vp 30 0), some (vi l2), some (vi l3), some (vi t5), some (vi v2)], ([], G x m3))) rfl rfl ?_
        exact h
      · have h := h.2 c4
        refine wp_run 5 true (52, ([some (vp 1 s), some (vp 30 0), some (vi l4), some (vi v2), some (vi (l4 + 1)), some (vi v2)], ([], G x m3))) rfl rfl ?_
        refine wpg (fun t6 => Wp X (d + 1) 87 (52, ([some (vp 1 s), some (vp 30 0), some (vi l4), some (vi v2), some (vi t6), some (vi v2)], ([], G x m3))) Q) (l4 + 1) (fun t6 ht6 => ?_)
        have h := h t6 ht6
        refine wp_run 1 true (8, ([some (vp 1 s), some (vp 30 0), some (vi l4), some (vi v2), some (vi t6), some (vi v2)], ([], G x m3))) rfl rfl ?_
        exact h
set_option maxRecDepth 100000 in
set_option maxHeartbeats 4000000 in
theorem vc_X7_closestOfPairs {X : MX} {d : Nat} {x : Int64 × UInt64} {m : MI} {Q : MRes → Prop} {s : Nat} (h : Wp X (d + 1) 88 (5, ([some (vp 1 s), some (vi 1000000000), some (vi 0), none], ([], G x m))) Q) : Cl X (d + 1) 88 [vp 1 s] (G x m) Q := by
  show Wp X (d + 1) 88 (0, ([some (vp 1 s), none, none, none], ([], G x m))) Q
  refine wp_run 4 true (5, ([some (vp 1 s), some (vi 1000000000), some (vi 0), none], ([], G x m))) rfl rfl ?_
  exact h
set_option maxRecDepth 100000 in
set_option maxHeartbeats 4000000 in
theorem vl_X7_closestOfPairs_5 {X : MX} {d : Nat} {x : Int64 × UInt64} {m : MI} {Q : MRes → Prop} {s : Nat} {l1 : Int32} {l2 : Int32} {o3 : Option MV} (h : (((m 2 s 1) ≤ l2 → Q (.inl (some (vi l1)), G x m)) ∧ (¬ ((m 2 s 1) ≤ l2) → (∀ t2 : Int32, t2 = l2 + 1 → Wp X (d + 1) 88 (20, ([some (vp 1 s), some (vi l1), some (vi l2), some (vi t2)], ([], G x m))) Q)))) : Wp X (d + 1) 88 (5, ([some (vp 1 s), some (vi l1), some (vi l2), o3], ([], G x m))) Q := by
  refine wp_run 5 true ((bif decide ((m 2 s 1) ≤ l2) then 70 else 16), ([some (vp 1 s), some (vi l1), some (vi l2), o3], ([], G x m))) rfl rfl ?_
  refine wp_if ((m 2 s 1) ≤ l2) (fun c1 => ?_) (fun c1 => ?_)
  · have h := h.1 c1
    refine wp_run 1 true (71, ([some (vp 1 s), some (vi l1), some (vi l2), o3], ([vi l1], G x m))) rfl rfl ?_
    exact wp_ret rfl h
  · have h := h.2 c1
    refine wp_run 4 true (20, ([some (vp 1 s), some (vi l1), some (vi l2), some (vi (l2 + 1))], ([], G x m))) rfl rfl ?_
    refine wpg (fun t2 => Wp X (d + 1) 88 (20, ([some (vp 1 s), some (vi l1), some (vi l2), some (vi t2)], ([], G x m))) Q) (l2 + 1) (fun t2 ht2 => ?_)
    have h := h t2 ht2
    exact h
set_option maxRecDepth 100000 in
set_option maxHeartbeats 4000000 in
theorem vl_X7_closestOfPairs_20 {X : MX} {d : Nat} {x : Int64 × UInt64} {m : MI} {Q : MRes → Prop} {s : Nat} {l1 : Int32} {l2 : Int32} {l3 : Int32} (h : (((m 2 s 1) ≤ l3 → (∀ t2 : Int32, t2 = l2 + 1 → Wp X (d + 1) 88 (5, ([some (vp 1 s), some (vi l1), some (vi t2), some (vi l3)], ([], G x m))) Q)) ∧ (¬ ((m 2 s 1) ≤ l3) → (inb l2 10 = true ∧ inb l3 10 = true ∧ Cl X d 85 [vp 1 s, vp 5 (10 * s + l2.toNatClampNeg), vp 5 (10 * s + l3.toNatClampNeg)] (G x m) (fun r => ∃ (v3 : Int32) (m4 : MI), r = (.inl (some (vi v3)), G x m4) ∧ (∀ t5 : Int32, t5 = (if l1 < v3 then l1 else v3) → (∀ t6 : Int32, t6 = l3 + 1 → Wp X (d + 1) 88 (20, ([some (vp 1 s), some (vi t5), some (vi l2), some (vi t6)], ([], G x m4))) Q))))))) : Wp X (d + 1) 88 (20, ([some (vp 1 s), some (vi l1), some (vi l2), some (vi l3)], ([], G x m))) Q := by
  refine wp_run 5 true ((bif decide ((m 2 s 1) ≤ l3) then 64 else 31), ([some (vp 1 s), some (vi l1), some (vi l2), some (vi l3)], ([], G x m))) rfl rfl ?_
  refine wp_if ((m 2 s 1) ≤ l3) (fun c1 => ?_) (fun c1 => ?_)
  · have h := h.1 c1
    refine wp_run 1 true (67, ([some (vp 1 s), some (vi l1), some (vi (l2 + 1)), some (vi l3)], ([], G x m))) rfl rfl ?_
    refine wpg (fun t2 => Wp X (d + 1) 88 (67, ([some (vp 1 s), some (vi l1), some (vi t2), some (vi l3)], ([], G x m))) Q) (l2 + 1) (fun t2 ht2 => ?_)
    have h := h t2 ht2
    refine wp_run 1 true (5, ([some (vp 1 s), some (vi l1), some (vi t2), some (vi l3)], ([], G x m))) rfl rfl ?_
    exact h
  · have h := h.2 c1
    obtain ⟨hg2_0, hg2_1, h⟩ := h
    refine wp_run 12 (inb l3 10 && (inb l2 10 && true)) (51, ([some (vp 1 s), some (vi l1), some (vi l2), some (vi l3)], ([vp 5 (10 * s + l3.toNatClampNeg), vp 5 (10 * s + l2.toNatClampNeg), vp 1 s, vi l1], G x m))) rfl (and_t hg2_1 (and_t hg2_0 rfl)) ?_
    refine wp_call 85 [vp 1 s, vp 5 (10 * s + l2.toNatClampNeg), vp 5 (10 * s + l3.toNatClampNeg)] (54, ([some (vp 1 s), some (vi l1), some (vi l2), some (vi l3)], ([vi l1], G x m))) rfl rfl (Cl.mono h (Nat.le_refl _) ?_)
    rintro r ⟨v3, m4, rfl, h⟩
    · show Wp X (d + 1) 88 (54, ([some (vp 1 s), some (vi l1), some (vi l2), some (vi l3)], ([vi v3, vi l1], G x m4))) Q
      refine wp_run 2 true (58, ([some (vp 1 s), some (vi (if l1 < v3 then l1 else v3)), some (vi l2), some (vi l3)], ([], G x m4))) rfl rfl ?_
      refine wpg (fun t5 => Wp X (d + 1) 88 (58, ([some (vp 1 s), some (vi t5), some (vi l2), some (vi l3)], ([], G x m4))) Q) (if l1 < v3 then l1 else v3) (fun t5 ht5 => ?_)
      have h := h t5 ht5
      refine wp_run 1 true (61, ([some (vp 1 s), some (vi t5), some (vi l2), some (vi (l3 + 1))], ([], G x m4))) rfl rfl ?_
      refine wpg (fun t6 => Wp X (d + 1) 88 (61, ([some (vp 1 s), some (vi t5), some (vi l2), some (vi t6)], ([], G x m4))) Q) (l3 + 1) (fun t6 ht6 => ?_)
      have h := h t6 ht6
      refine wp_run 1 true (20, ([some (vp 1 s), some (vi t5), some (vi l2), some (vi t6)], ([], G x m4))) rfl rfl ?_
      exact h
set_option maxRecDepth 100000 in
set_option maxHeartbeats 4000000 in
theorem vc_X8_isFull_2 {X : MX} {d : Nat} {x : Int64 × UInt64} {m : MI} {Q : MRes → Prop} {s : Nat} (h : (((m 2 s 1) < 10 → Q (.inl (some (vi 0)), G x m)) ∧ (¬ ((m 2 s 1) < 10) → Q (.inl (some (vi 1)), G x m)))) : Cl X d 90 [vp 2 s] (G x m) Q := by
  show Wp X d 90 (0, ([some (vp 2 s)], ([], G x m))) Q
  refine wp_run 6 true ((bif decide ((m 2 s 1) < 10) then 16 else 12), ([some (vp 2 s)], ([], G x m))) rfl rfl ?_
  refine wp_if ((m 2 s 1) < 10) (fun c1 => ?_) (fun c1 => ?_)
  · have h := h.1 c1
    refine wp_run 1 true (17, ([some (vp 2 s)], ([vi 0], G x m))) rfl rfl ?_
    exact wp_ret rfl h
  · have h := h.2 c1
    refine wp_run 2 true (17, ([some (vp 2 s)], ([vi 1], G x m))) rfl rfl ?_
    exact wp_ret rfl h
set_option maxRecDepth 100000 in
set_option maxHeartbeats 4000000 in
theorem vc_X8_isFull_3 {X : MX} {d : Nat} {x : Int64 × UInt64} {m : MI} {Q : MRes → Prop} {s : Nat} (h : (((m 3 s 1) < 6 → Q (.inl (some (vi 0)), G x m)) ∧ (¬ ((m 3 s 1) < 6) → Q (.inl (some (vi 1)), G x m)))) : Cl X d 90 [vp 3 s] (G x m) Q := by
  show Wp X d 90 (0, ([some (vp 3 s)], ([], G x m))) Q
  refine wp_run 6 true ((bif decide ((m 3 s 1) < 6) then 16 else 12), ([some (vp 3 s)], ([], G x m))) rfl rfl ?_
  refine wp_if ((m 3 s 1) < 6) (fun c1 => ?_) (fun c1 => ?_)
  · have h := h.1 c1
    refine wp_run 1 true (17, ([some (vp 3 s)], ([vi 0], G x m))) rfl rfl ?_
    exact wp_ret rfl h
  · have h := h.2 c1
    refine wp_run 2 true (17, ([some (vp 3 s)], ([vi 1], G x m))) rfl rfl ?_
    exact wp_ret rfl h
set_option maxRecDepth 100000 in
set_option maxHeartbeats 4000000 in
theorem vc_X8_positionOf_2 {X : MX} {d : Nat} {x : Int64 × UInt64} {m : MI} {Q : MRes → Prop} {s : Nat} {p0 : Int32} (h : Wp X d 91 (2, ([some (vp 2 s), some (vi p0), some (vi 0)], ([], G x m))) Q) : Cl X d 91 [vp 2 s, vi p0] (G x m) Q := by
  show Wp X d 91 (0, ([some (vp 2 s), some (vi p0), none], ([], G x m))) Q
  refine wp_run 2 true (2, ([some (vp 2 s), some (vi p0), some (vi 0)], ([], G x m))) rfl rfl ?_
  exact h
set_option maxRecDepth 100000 in
set_option maxHeartbeats 4000000 in
theorem vl_X8_positionOf_2_2 {X : MX} {d : Nat} {x : Int64 × UInt64} {m : MI} {Q : MRes → Prop} {s : Nat} {l1 : Int32} {l2 : Int32} (h : (((m 2 s 1) ≤ l2 → Q (.inl (some (vi (-1))), G x m)) ∧ (¬ ((m 2 s 1) ≤ l2) → (inb l2 10 = true ∧ ((¬ (m 5 (10 * s + l2.toNatClampNeg) 0) = l1 → (∀ t3 : Int32, t3 = l2 + 1 → Wp X d 91 (2, ([some (vp 2 s), some (vi l1), some (vi t3)], ([], G x m))) Q)) ∧ (¬ (¬ (m 5 (10 * s + l2.toNatClampNeg) 0) = l1) → Q (.inl (some (vi l2)), G x m))))))) : Wp X d 91 (2, ([some (vp 2 s), some (vi l1), some (vi l2)], ([], G x m))) Q := by
  refine wp_run 4 true ((bif decide ((m 2 s 1) ≤ l2) then 30 else 10), ([some (vp 2 s), some (vi l1), some (vi l2)], ([], G x m))) rfl rfl ?_
  refine wp_if ((m 2 s 1) ≤ l2) (fun c1 => ?_) (fun c1 => ?_)
  · have h := h.1 c1
    refine wp_run 1 true (31, ([some (vp 2 s), some (vi l1), some (vi l2)], ([vi (-1)], G x m))) rfl rfl ?_
    exact wp_ret rfl h
  · have h := h.2 c1
    obtain ⟨hg2_0, h⟩ := h
    refine wp_run 8 (inb l2 10 && true) ((bif decide (¬ (m 5 (10 * s + l2.toNatClampNeg) 0) = l1) then 24 else 22), ([some (vp 2 s), some (vi l1), some (vi l2)], ([], G x m))) rfl (and_t hg2_0 rfl) ?_
    refine wp_if (¬ (m 5 (10 * s + l2.toNatClampNeg) 0) = l1) (fun c2 => ?_) (fun c2 => ?_)
    · have h := h.1 c2
      refine wp_run 1 true (27, ([some (vp 2 s), some (vi l1), some (vi (l2 + 1))], ([], G x m))) rfl rfl ?_
      refine wpg (fun t3 => Wp X d 91 (27, ([some (vp 2 s), some (vi l1), some (vi t3)], ([], G x m))) Q) (l2 + 1) (fun t3 ht3 => ?_)
      have h := h t3 ht3
      refine wp_run 1 true (2, ([some (vp 2 s), some (vi l1), some (vi t3)], ([], G x m))) rfl rfl ?_
      exact h
    · have h := h.2 c2
      refine wp_run 1 true (23, ([some (vp 2 s), some (vi l1), some (vi l2)], ([vi l2], G x m))) rfl rfl ?_
      exact wp_ret rfl h
set_option maxRecDepth 100000 in
set_option maxHeartbeats 4000000 in
theorem vc_X8_positionOf_3 {X : MX} {d : Nat} {x : Int64 × UInt64} {m : MI} {Q : MRes → Prop} {s : Nat} {p0 : Int32} (h : Wp X d 91 (2, ([some (vp 3 s), some (vi p0), some (vi 0)], ([], G x m))) Q) : Cl X d 91 [vp 3 s, vi p0] (G x m) Q := by
  show Wp X d 91 (0, ([some (vp 3 s), some (vi p0), none], ([], G x m))) Q
  refine wp_run 2 true (2, ([some (vp 3 s), some (vi p0), some (vi 0)], ([], G x m))) rfl rfl ?_
  exact h
set_option maxRecDepth 100000 in
set_option maxHeartbeats 4000000 in
theorem vl_X8_positionOf_3_2 {X : MX} {d : Nat} {x : Int64 × UInt64} {m : MI} {Q : MRes → Prop} {s : Nat} {l1 : Int32} {l2 : Int32} (h : (((m 3 s 1) ≤ l2 → Q (.inl (some (vi (-1))), G x m)) ∧ (¬ ((m 3 s 1) ≤ l2) → (inb l2 6 = true ∧ ((¬ (m 7 (6 * s + l2.toNatClampNeg) 0) = l1 → (∀ t3 : Int32, t3 = l2 + 1 → Wp X d 91 (2, ([some (vp 3 s), some (vi l1), some (vi t3)], ([], G x m))) Q)) ∧ (¬ (¬ (m 7 (6 * s + l2.toNatClampNeg) 0) = l1) → Q (.inl (some (vi l2)), G x m))))))) : Wp X d 91 (2, ([some (vp 3 s), some (vi l1), some (vi l2)], ([], G x m))) Q := by
  refine wp_run 4 true ((bif decide ((m 3 s 1) ≤ l2) then 30 else 10), ([some (vp 3 s), some (vi l1), some (vi l2)], ([], G x m))) rfl rfl ?_
  refine wp_if ((m 3 s 1) ≤ l2) (fun c1 => ?_) (fun c1 => ?_)
  · have h := h.1 c1
    refine wp_run 1 true (31, ([some (vp 3 s), some (vi l1), some (vi l2)], ([vi (-1)], G x m))) rfl rfl ?_
    exact wp_ret rfl h
  · have h := h.2 c1
    obtain ⟨hg2_0, h⟩ := h
    refine wp_run 8 (inb l2 6 && true) ((bif decide (¬ (m 7 (6 * s + l2.toNatClampNeg) 0) = l1) then 24 else 22), ([some (vp 3 s), some (vi l1), some (vi l2)], ([], G x m))) rfl (and_t hg2_0 rfl) ?_
    refine wp_if (¬ (m 7 (6 * s + l2.toNatClampNeg) 0) = l1) (fun c2 => ?_) (fun c2 => ?_)
    · have h := h.1 c2
      refine wp_run 1 true (27, ([some (vp 3 s), some (vi l1), some (vi (l2 + 1))], ([], G x m))) rfl rfl ?_
      refine wpg (fun t3 => Wp X d 91 (27, ([some (vp 3 s), some (vi l1), some (vi t3)], ([], G x m))) Q) (l2 + 1) (fun t3 ht3 => ?_)
      have h := h t3 ht3
      refine wp_run 1 true (2, ([some (vp 3 s), some (vi l1), some (vi t3)], ([], G x m))) rfl rfl ?_
      exact h
    · have h := h.2 c2
      refine wp_run 1 true (23, ([some (vp 3 s), some (vi l1), some (vi l2)], ([vi l2], G x m))) rfl rfl ?_
      exact wp_ret rfl h
set_option maxRecDepth 100000 in
set_option maxHeartbeats 4000000 in
theorem vc_X8_append_2 {X : MX} {d : Nat} {x : Int64 × UInt64} {m : MI} {Q : MRes → Prop} {s : Nat} {p0 : Int32} {p1 : Int32} {p2 : Int32} {p3 : Int32} {p4 : Int32} (h : (inb (m 2 s 1) 10 = true ∧ (∀ m1 : MI, m1 = mup m 5 (10 * s + (m 2 s 1).toNatClampNeg) 0 (m 2 s 2) → (∀ m2 : MI, m2 = mup m1 5 (10 * s + (m 2 s 1).toNatClampNeg) 1 p0 → (∀ m3 : MI, m3 = mup m2 5 (10 * s + (m 2 s 1).toNatClampNeg) 2 p1 → (∀ m4 : MI, m4 = mup m3 5 (10 * s + (m 2 s 1).toNatClampNeg) 3 p2 → (∀ m5 : MI, m5 = mup m4 5 (10 * s + (m 2 s 1).toNatClampNeg) 4 p3 → (∀ m6 : MI, m6 = mup m5 5 (10 * s + (m 2 s 1).toNatClampNeg) 5 p4 → (∀ m7 : MI, m7 = mup m6 2 s 1 ((m6 2 s 1) + 1) → (∀ m8 : MI, m8 = mup m7 2 s 2 ((m7 2 s 2) + 1) → Q (.inl (some (vi (m8 5 (10 * s + (m 2 s 1).toNatClampNeg) 0))), G x m8))))))))))) : Cl X d 92 [vp 2 s, vi p0, vi p1, vi p2, vi p3, vi p4] (G x m) Q := by
  show Wp X d 92 (0, ([some (vp 2 s), some (vi p0), some (vi p1), some (vi p2), some (vi p3), some (vi p4), none], ([], G x m))) Q
  obtain ⟨hg1_0, h⟩ := h
  refine wp_run 11 (inb (m 2 s 1) 10 && true) (19, ([some (vp 2 s), some (vi p0), some (vi p1), some (vi p2), some (vi p3), some (vi p4), some (vp 5 (10 * s + (m 2 s 1).toNatClampNeg))], ([], G x (mup m 5 (10 * s + (m 2 s 1).toNatClampNeg) 0 (m 2 s 2))))) rfl (and_t hg1_0 rfl) ?_
  refine wpg (fun m1 => Wp X d 92 (19, ([some (vp 2 s), some (vi p0), some (vi p1), some (vi p2), some (vi p3), some (vi p4), some (vp 5 (10 * s + (m 2 s 1).toNatClampNeg))], ([], G x m1))) Q) (mup m 5 (10 * s + (m 2 s 1).toNatClampNeg) 0 (m 2 s 2)) (fun m1 hm1 => ?_)
  have h := h m1 hm1
  refine wp_run 4 true (24, ([some (vp 2 s), some (vi p0), some (vi p1), some (vi p2), some (vi p3), some (vi p4), some (vp 5 (10 * s + (m 2 s 1).toNatClampNeg))], ([], G x (mup m1 5 (10 * s + (m 2 s 1).toNatClampNeg) 1 p0)))) rfl rfl ?_
  refine wpg (fun m2 => Wp X d 92 (24, ([some (vp 2 s), some (vi p0), some (vi p1), some (vi p2), some (vi p3), some (vi p4), some (vp 5 (10 * s + (m 2 s 1).toNatClampNeg))], ([], G x m2))) Q) (mup m1 5 (10 * s + (m 2 s 1).toNatClampNeg) 1 p0) (fun m2 hm2 => ?_)
  have h := h m2 hm2
  refine wp_run 4 true (29, ([some (vp 2 s), some (vi p0), some (vi p1), some (vi p2), some (vi p3), some (vi p4), some (vp 5 (10 * s + (m 2 s 1).toNatClampNeg))], ([], G x (mup m2 5 (10 * s + (m 2 s 1).toNatClampNeg) 2 p1)))) rfl rfl ?_
  refine wpg (fun m3 => Wp X d 92 (29, ([some (vp 2 s), some (vi p0), some (vi p1), some (vi p2), some (vi p3), some (vi p4), some (vp 5 (10 * s + (m 2 s 1).toNatClampNeg))], ([], G x m3))) Q) (mup m2 5 (10 * s + (m 2 s 1).toNatClampNeg) 2 p1) (fun m3 hm3 => ?_)
  have h := h m3 hm3
  refine wp_run 4 true (34, ([some (vp 2 s), some (vi p0), some (vi p1), some (vi p2), some (vi p3), some (vi p4), some (vp 5 (10 * s + (m 2 s 1).toNatClampNeg))], ([], G x (mup m3 5 (10 * s + (m 2 s 1).toNatClampNeg) 3 p2)))) rfl rfl ?_
  refine wpg (fun m4 => Wp X d 92 (34, ([some (vp 2 s), some (vi p0), some (vi p1), some (vi p2), some (vi p3), some (vi p4), some (vp 5 (10 * s + (m 2 s 1).toNatClampNeg))], ([], G x m4))) Q) (mup m3 5 (10 * s + (m 2 s 1).toNatClampNeg) 3 p2) (fun m4 hm4 => ?_)
  have h := h m4 hm4
  refine wp_run 4 true (40, ([some (vp 2 s), some (vi p0), some (vi p1), some (vi p2), some (vi p3), some (vi p4), some (vp 5 (10 * s + (m 2 s 1).toNatClampNeg))], ([], G x (mup m4 5 (10 * s + (m 2 s 1).toNatClampNeg) 4 p3)))) rfl rfl ?_
  refine wpg (fun m5 => Wp X d 92 (40, ([some (vp 2 s), some (vi p0), some (vi p1), some (vi p2), some (vi p3), some (vi p4), some (vp 5 (10 * s + (m 2 s 1).toNatClampNeg))], ([], G x m5))) Q) (mup m4 5 (10 * s + (m 2 s 1).toNatClampNeg) 4 p3) (fun m5 hm5 => ?_)
  have h := h m5 hm5
  refine wp_run 4 true (46, ([some (vp 2 s), some (vi p0), some (vi p1), some (vi p2), some (vi p3), some (vi p4), some (vp 5 (10 * s + (m 2 s 1).toNatClampNeg))], ([], G x (mup m5 5 (10 * s + (m 2 s 1).toNatClampNeg) 5 p4)))) rfl rfl ?_
  refine wpg (fun m6 => Wp X d 92 (46, ([some (vp 2 s), some (vi p0), some (vi p1), some (vi p2), some (vi p3), some (vi p4), some (vp 5 (10 * s + (m 2 s 1).toNatClampNeg))], ([], G x m6))) Q) (mup m5 5 (10 * s + (m 2 s 1).toNatClampNeg) 5 p4) (fun m6 hm6 => ?_)
  have h := h m6 hm6
  refine wp_run 6 true (56, ([some (vp 2 s), some (vi p0), some (vi p1), some (vi p2), some (vi p3), some (vi p4), some (vp 5 (10 * s + (m 2 s 1).toNatClampNeg))], ([], G x (mup m6 2 s 1 ((m6 2 s 1) + 1))))) rfl rfl ?_
  refine wpg (fun m7 => Wp X d 92 (56, ([some (vp 2 s), some (vi p0), some (vi p1), some (vi p2), some (vi p3), some (vi p4), some (vp 5 (10 * s + (m 2 s 1).toNatClampNeg))], ([], G x m7))) Q) (mup m6 2 s 1 ((m6 2 s 1) + 1)) (fun m7 hm7 => ?_)
  have h := h m7 hm7
  refine wp_run 6 true (66, ([some (vp 2 s), some (vi p0), some (vi p1), some (vi p2), some (vi p3), some (vi p4), some (vp 5 (10 * s + (m 2 s 1).toNatClampNeg))], ([], G x (mup m7 2 s 2 ((m7 2 s 2) + 1))))) rfl rfl ?_
  refine wpg (fun m8 => Wp X d 92 (66, ([some (vp 2 s), some (vi p0), some (vi p1), some (vi p2), some (vi p3), some (vi p4), some (vp 5 (10 * s + (m 2 s 1).toNatClampNeg))], ([], G x m8))) Q) (mup m7 2 s 2 ((m7 2 s 2) + 1)) (fun m8 hm8 => ?_)
  have h := h m8 hm8
  refine wp_run 3 true (70, ([some (vp 2 s), some (vi p0), some (vi p1), some (vi p2), some (vi p3), some (vi p4), some (vp 5 (10 * s + (m 2 s 1).toNatClampNeg))], ([vi (m8 5 (10 * s + (m 2 s 1).toNatClampNeg) 0)], G x m8))) rfl rfl ?_
  exact wp_ret rfl h
set_option maxRecDepth 100000 in
set_option maxHeartbeats 4000000 in
theorem vc_X8_append_3 {X : MX} {d : Nat} {x : Int64 × UInt64} {m : MI} {Q : MRes → Prop} {s : Nat} {p0 : Int32} {p1 : Int32} {p2 : Int32} {p3 : Int32} {p4 : Int32} (h : (inb (m 3 s 1) 6 = true ∧ (∀ m1 : MI, m1 = mup m 7 (6 * s + (m 3 s 1).toNatClampNeg) 0 (m 3 s 2) → (∀ m2 : MI, m2 = mup m1 7 (6 * s + (m 3 s 1).toNatClampNeg) 1 p0 → (∀ m3 : MI, m3 = mup m2 7 (6 * s + (m 3 s 1).toNatClampNeg) 2 p1 → (∀ m4 : MI, m4 = mup m3 7 (6 * s + (m 3 s 1).toNatClampNeg) 3 p2 → (∀ m5 : MI, m5 = mup m4 7 (6 * s + (m 3 s 1).toNatClampNeg) 4 p3 → (∀ m6 : MI, m6 = mup m5 7 (6 * s + (m 3 s 1).toNatClampNeg) 5 p4 → (∀ m7 : MI, m7 = mup m6 3 s 1 ((m6 3 s 1) + 1) → (∀ m8 : MI, m8 = mup m7 3 s 2 ((m7 3 s 2) + 1) → Q (.inl (some (vi (m8 7 (6 * s + (m 3 s 1).toNatClampNeg) 0))), G x m8))))))))))) : Cl X d 92 [vp 3 s, vi p0, vi p1, vi p2, vi p3, vi p4] (G x m) Q := by
  show Wp X d 92 (0, ([some (vp 3 s), some (vi p0), some (vi p1), some (vi p2), some (vi p3), some (vi p4), none], ([], G x m))) Q
  obtain ⟨hg1_0, h⟩ := h
  refine wp_run 11 (inb (m 3 s 1) 6 && true) (19, ([some (vp 3 s), some (vi p0), some (vi p1), some (vi p2), some (vi p3), some (vi p4), some (vp 7 (6 * s + (m 3 s 1).toNatClampNeg))], ([], G x (mup m 7 (6 * s + (m 3 s 1).toNatClampNeg) 0 (m 3 s 2))))) rfl (and_t hg1_0 rfl) ?_
  refine wpg (fun m1 => Wp X d 92 (19, ([some (vp 3 s), some (vi p0), some (vi p1), some (vi p2), some (vi p3), some (vi p4), some (vp 7 (6 * s + (m 3 s 1).toNatClampNeg))], ([], G x m1))) Q) (mup m 7 (6 * s + (m 3 s 1).toNatClampNeg) 0 (m 3 s 2)) (fun m1 hm1 => ?_)
  have h := h m1 hm1
  refine wp_run 4 true (24, ([some (vp 3 s), some (vi p0), some (vi p1), some (vi p2), some (vi p3), some (vi p4), some (vp 7 (6 * s + (m 3 s 1).toNatClampNeg))], ([], G x (mup m1 7 (6 * s + (m 3 s 1).toNatClampNeg) 1 p0)))) rfl rfl ?_
  refine wpg (fun m2 => Wp X d 92 (24, ([some (vp 3 s), some (vi p0), some (vi p1), some (vi p2), some (vi p3), some (vi p4), some (vp 7 (6 * s + (m 3 s 1).toNatClampNeg))], ([], G x m2))) Q) (mup m1 7 (6 * s + (m 3 s 1).toNatClampNeg) 1 p0) (fun m2 hm2 => ?_)
  have h := h m2 hm2
  refine wp_run 4 true (29, ([some (vp 3 s), some (vi p0), some (vi p1), some (vi p2), some (vi p3), some (vi p4), some (vp 7 (6 * s + (m 3 s 1).toNatClampNeg))], ([], G x (mup m2 7 (6 * s + (m 3 s 1).toNatClampNeg) 2 p1)))) rfl rfl ?_
  refine wpg (fun m3 => Wp X d 92 (29, ([some (vp 3 s), some (vi p0), some (vi p1), some (vi p2), some (vi p3), some (vi p4), some (vp 7 (6 * s + (m 3 s 1).toNatClampNeg))], ([], G x m3))) Q) (mup m2 7 (6 * s + (m 3 s 1).toNatClampNeg) 2 p1) (fun m3 hm3 => ?_)
  have h := h m3 hm3
  refine wp_run 4 true (34, ([some (vp 3 s), some (vi p0), some (vi p1), some (vi p2), some (vi p3), some (vi p4), some (vp 7 (6 * s + (m 3 s 1).toNatClampNeg))], ([], G x (mup m3 7 (6 * s + (m 3 s 1).toNatClampNeg) 3 p2)))) rfl rfl ?_
  refine wpg (fun m4 => Wp X d 92 (34, ([some (vp 3 s), some (vi p0), some (vi p1), some (vi p2), some (vi p3), some (vi p4), some (vp 7 (6 * s + (m 3 s 1).toNatClampNeg))], ([], G x m4))) Q) (mup m3 7 (6 * s + (m 3 s 1).toNatClampNeg) 3 p2) (fun m4 hm4 => ?_)
  have h := h m4 hm4
  refine wp_run 4 true (40, ([some (vp 3 s), some (vi p0), some (vi p1), some (vi p2), some (vi p3), some (vi p4), some (vp 7 (6 * s + (m 3 s 1).toNatClampNeg))], ([], G x (mup m4 7 (6 * s + (m 3 s 1).toNatClampNeg) 4 p3)))) rfl rfl ?_
  refine wpg (fun m5 => Wp X d 92 (40, ([some (vp 3 s), some (vi p0), some (vi p1), some (vi p2), some (vi p3), some (vi p4), some (vp 7 (6 * s + (m 3 s 1).toNatClampNeg))], ([], G x m5))) Q) (mup m4 7 (6 * s + (m 3 s 1).toNatClampNeg) 4 p3) (fun m5 hm5 => ?_)
  have h := h m5 hm5
  refine wp_run 4 true (46, ([some (vp 3 s), some (vi p0), some (vi p1), some (vi p2), some (vi p3), some (vi p4), some (vp 7 (6 * s + (m 3 s 1).toNatClampNeg))], ([], G x (mup m5 7 (6 * s + (m 3 s 1).toNatClampNeg) 5 p4)))) rfl rfl ?_
  refine wpg (fun m6 => Wp X d 92 (46, ([some (vp 3 s), some (vi p0), some (vi p1), some (vi p2), some (vi p3), some (vi p4), some (vp 7 (6 * s + (m 3 s 1).toNatClampNeg))], ([], G x m6))) Q) (mup m5 7 (6 * s + (m 3 s 1).toNatClampNeg) 5 p4) (fun m6 hm6 => ?_)
  have h := h m6 hm6
  refine wp_run 6 true (56, ([some (vp 3 s), some (vi p0), some (vi p1), some (vi p2), some (vi p3), some (vi p4), some (vp 7 (6 * s + (m 3 s 1).toNatClampNeg))], ([], G x (mup m6 3 s 1 ((m6 3 s 1) + 1))))) rfl rfl ?_
  refine wpg (fun m7 => Wp X d 92 (56, ([some (vp 3 s), some (vi p0), some (vi p1), some (vi p2), some (vi p3), some (vi p4), some (vp 7 (6 * s + (m 3 s 1).toNatClampNeg))], ([], G x m7))) Q) (mup m6 3 s 1 ((m6 3 s 1) + 1)) (fun m7 hm7 => ?_)
  have h := h m7 hm7
  refine wp_run 6 true (66, ([some (vp 3 s), some (vi p0), some (vi p1), some (vi p2), some (vi p3), some (vi p4), some (vp 7 (6 * s + (m 3 s 1).toNatClampNeg))], ([], G x (mup m7 3 s 2 ((m7 3 s 2) + 1))))) rfl rfl ?_
  refine wpg (fun m8 => Wp X d 92 (66, ([some (vp 3 s), some (vi p0), some (vi p1), some (vi p2), some (vi p3), some (vi p4), some (vp 7 (6 * s + (m 3 s 1).toNatClampNeg))], ([], G x m8))) Q) (mup m7 3 s 2 ((m7 3 s 2) + 1)) (fun m8 hm8 => ?_)
  have h := h m8 hm8
  refine wp_run 3 true (70, ([some (vp 3 s), some (vi p0), some (vi p1), some (vi p2), some (vi p3), some (vi p4), some (vp 7 (6 * s + (m 3 s 1).toNatClampNeg))], ([vi (m8 7 (6 * s + (m 3 s 1).toNatClampNeg) 0)], G x m8))) rfl rfl ?_
  exact wp_ret rfl h
set_option maxRecDepth 100000 in
set_option maxHeartbeats 4000000 in
theorem vc_X8_removeAt_2 {X : MX} {d : Nat} {x : Int64 × UInt64} {m : MI} {Q : MRes → Prop} {s : Nat} {p0 : Int32} (h : (∀ t1 : Int32, t1 = p0 + 1 → Wp X d 93 (4, ([some (vp 2 s), some (vi p0), some (vi t1), none], ([], G x m))) Q)) : Cl X d 93 [vp 2 s, vi p0] (G x m) Q := by
  show Wp X d 93 (0, ([some (vp 2 s), some (vi p0), none, none], ([], G x m))) Q
  refine wp_run 4 true (4, ([some (vp 2 s), some (vi p0), some (vi (p0 + 1)), none], ([], G x m))) rfl rfl ?_
  refine wpg (fun t1 => Wp X d 93 (4, ([some (vp 2 s), some (vi p0), some (vi t1), none], ([], G x m))) Q) (p0 + 1) (fun t1 ht1 => ?_)
  have h := h t1 ht1
  exact h
set_option maxRecDepth 100000 in
set_option maxHeartbeats 4000000 in
theorem vl_X8_removeAt_2_4 {X : MX} {d : Nat} {x : Int64 × UInt64} {m : MI} {Q : MRes → Prop} {s : Nat} {l1 : Int32} {l2 : Int32} {o3 : Option MV} (h : (((m 2 s 1) ≤ l2 → (∀ m2 : MI, m2 = mup m 2 s 1 ((m 2 s 1) - 1) → Q (.inl none, G x m2))) ∧ (¬ ((m 2 s 1) ≤ l2) → Wp X d 93 (14, ([some (vp 2 s), some (vi l1), some (vi l2), some (vi 0)], ([], G x m))) Q))) : Wp X d 93 (4, ([some (vp 2 s), some (vi l1), some (vi l2), o3], ([], G x m))) Q := by
  refine wp_run 4 true ((bif decide ((m 2 s 1) ≤ l2) then 50 else 12), ([some (vp 2 s), some (vi l1), some (vi l2), o3], ([], G x m))) rfl rfl ?_
  refine wp_if ((m 2 s 1) ≤ l2) (fun c1 => ?_) (fun c1 => ?_)
  · have h := h.1 c1
    refine wp_run 6 true (60, ([some (vp 2 s), some (vi l1), some (vi l2), o3], ([], G x (mup m 2 s 1 ((m 2 s 1) - 1))))) rfl rfl ?_
    refine wpg (fun m2 => Wp X d 93 (60, ([some (vp 2 s), some (vi l1), some (vi l2), o3], ([], G x m2))) Q) (mup m 2 s 1 ((m 2 s 1) - 1)) (fun m2 hm2 => ?_)
    have h := h m2 hm2
    exact wp_ret rfl h
  · have h := h.2 c1
    refine wp_run 2 true (14, ([some (vp 2 s), some (vi l1), some (vi l2), some (vi 0)], ([], G x m))) rfl rfl ?_
    exact h
set_option maxRecDepth 100000 in
set_option maxHeartbeats 4000000 in
theorem vl_X8_removeAt_2_14 {X : MX} {d : Nat} {x : Int64 × UInt64} {m : MI} {Q : MRes → Prop} {s : Nat} {l1 : Int32} {l2 : Int32} {l3 : Int32} (h : ((6 ≤ l3 → (∀ t2 : Int32, t2 = l2 + 1 → Wp X d 93 (4, ([some (vp 2 s), some (vi l1), some (vi t2), some (vi l3)], ([], G x m))) Q)) ∧ (¬ (6 ≤ l3) → (inb (l2 - 1) 10 = true ∧ inb l2 10 = true ∧ inb l3 6 = true ∧ inb l3 6 = true ∧ (∀ m3 : MI, m3 = mup m 5 (10 * s + (l2 - 1).toNatClampNeg) (l3.toNatClampNeg) (m 5 (10 * s + l2.toNatClampNeg) l3.toNatClampNeg) → (∀ t4 : Int32, t4 = l3 + 1 → Wp X d 93 (14, ([some (vp 2 s), some (vi l1), some (vi l2), some (vi t4)], ([], G x m3))) Q)))))) : Wp X d 93 (14, ([some (vp 2 s), some (vi l1), some (vi l2), some (vi l3)], ([], G x m))) Q := by
  refine wp_run 3 true ((bif decide (6 ≤ l3) then 44 else 20), ([some (vp 2 s), some (vi l1), some (vi l2), some (vi l3)], ([], G x m))) rfl rfl ?_
  refine wp_if (6 ≤ l3) (fun c1 => ?_) (fun c1 => ?_)
  · have h := h.1 c1
    refine wp_run 1 true (47, ([some (vp 2 s), some (vi l1), some (vi (l2 + 1)), some (vi l3)], ([], G x m))) rfl rfl ?_
    refine wpg (fun t2 => Wp X d 93 (47, ([some (vp 2 s), some (vi l1), some (vi t2), some (vi l3)], ([], G x m))) Q) (l2 + 1) (fun t2 ht2 => ?_)
    have h := h t2 ht2
    refine wp_run 1 true (4, ([some (vp 2 s), some (vi l1), some (vi t2), some (vi l3)], ([], G x m))) rfl rfl ?_
    exact h
  · have h := h.2 c1
    obtain ⟨hg2_0, hg2_1, hg2_2, hg2_3, h⟩ := h
    refine wp_run 14 (inb l3 6 && (inb l3 6 && (inb l2 10 && (inb (l2 - 1) 10 && true)))) (38, ([some (vp 2 s), some (vi l1), some (vi l2), some (vi l3)], ([], G x (mup m 5 (10 * s + (l2 - 1).toNatClampNeg) (l3.toNatClampNeg) (m 5 (10 * s + l2.toNatClampNeg) l3.toNatClampNeg))))) rfl (and_t hg2_3 (and_t hg2_2 (and_t hg2_1 (and_t hg2_0 rfl)))) ?_
    refine wpg (fun m3 => Wp X d 93 (38, ([some (vp 2 s), some (vi l1), some (vi l2), some (vi l3)], ([], G x m3))) Q) (mup m 5 (10 * s + (l2 - 1).toNatClampNeg) (l3.toNatClampNeg) (m 5 (10 * s + l2.toNatClampNeg) l3.toNatClampNeg)) (fun m3 hm3 => ?_)
    have h := h m3 hm3
    refine wp_run 1 true (41, ([some (vp 2 s), some (vi l1), some (vi l2), some (vi (l3 + 1))], ([], G x m3))) rfl rfl ?_
    refine wpg (fun t4 => Wp X d 93 (41, ([some (vp 2 s), some (vi l1), some (vi l2), some (vi t4)], ([], G x m3))) Q) (l3 + 1) (fun t4 ht4 => ?_)
    have h := h t4 ht4
    refine wp_run 1 true (14, ([some (vp 2 s), some (vi l1), some (vi l2), some (vi t4)], ([], G x m3))) rfl rfl ?_
    exact h
set_option maxRecDepth 100000 in
set_option maxHeartbeats 4000000 in
theorem vc_X8_removeAt_3 {X : MX} {d : Nat} {x : Int64 × UInt64} {m : MI} {Q : MRes → Prop} {s : Nat} {p0 : Int32} (h : (∀ t1 : Int32, t1 = p0 + 1 → Wp X d 93 (4, ([some (vp 3 s), some (vi p0), some (vi t1), none], ([], G x m))) Q)) : Cl X d 93 [vp 3 s, vi p0] (G x m) Q := by
  show Wp X d 93 (0, ([some (vp 3 s), some (vi p0), none, none], ([], G x m))) Q
  refine wp_run 4 true (4, ([some (vp 3 s), some (vi p0), some (vi (p0 + 1)), none], ([], G x m))) rfl rfl ?_
  refine wpg (fun t1 => Wp X d 93 (4, ([some (vp 3 s), some (vi p0), some (vi t1), none], ([], G x m))) Q) (p0 + 1) (fun t1 ht1 => ?_)
  have h := h t1 ht1
  exact h
set_option maxRecDepth 100000 in
set_option maxHeartbeats 4000000 in
theorem vl_X8_removeAt_3_4 {X : MX} {d : Nat} {x : Int64 × UInt64} {m : MI} {Q : MRes → Prop} {s : Nat} {l1 : Int32} {l2 : Int32} {o3 : Option MV} (h : (((m 3 s 1) ≤ l2 → (∀ m2 : MI, m2 = mup m 3 s 1 ((m 3 s 1) - 1) → Q (.inl none, G x m2))) ∧ (¬ ((m 3 s 1) ≤ l2) → Wp X d 93 (14, ([some (vp 3 s), some (vi l1), some (vi l2), some (vi 0)], ([], G x m))) Q))) : Wp X d 93 (4, ([some (vp 3 s), some (vi l1), some (vi l2), o3], ([], G x m))) Q := by
  refine wp_run 4 true ((bif decide ((m 3 s 1) ≤ l2) then 50 else 12), ([some (vp 3 s), some (vi l1), some (vi l2), o3], ([], G x m))) rfl rfl ?_
  refine wp_if ((m 3 s 1) ≤ l2) (fun c1 => ?_) (fun c1 => ?_)
  · have h := h.1 c1
    refine wp_run 6 true (60, ([some (vp 3 s), some (vi l1), some (vi l2), o3], ([], G x (mup m 3 s 1 ((m 3 s 1) - 1))))) rfl rfl ?_
    refine wpg (fun m2 => Wp X d 93 (60, ([some (vp 3 s), some (vi l1), some (vi l2), o3], ([], G x m2))) Q) (mup m 3 s 1 ((m 3 s 1) - 1)) (fun m2 hm2 => ?_)
    have h := h m2 hm2
    exact wp_ret rfl h
  · have h := h.2 c1
    refine wp_run 2 true (14, ([some (vp 3 s), some (vi l1), some (vi l2), some (vi 0)], ([], G x m))) rfl rfl ?_
    exact h
set_option maxRecDepth 100000 in
set_option maxHeartbeats 4000000 in
theorem vl_X8_removeAt_3_14 {X : MX} {d : Nat} {x : Int64 × UInt64} {m : MI} {Q : MRes → Prop} {s : Nat} {l1 : Int32} {l2 : Int32} {l3 : Int32} (h : ((6 ≤ l3 → (∀ t2 : Int32, t2 = l2 + 1 → Wp X d 93 (4, ([some (vp 3 s), some (vi l1), some (vi t2), some (vi l3)], ([], G x m))) Q)) ∧ (¬ (6 ≤ l3) → (inb (l2 - 1) 6 = true ∧ inb l2 6 = true ∧ inb l3 6 = true ∧ inb l3 6 = true ∧ (∀ m3 : MI, m3 = mup m 7 (6 * s + (l2 - 1).toNatClampNeg) (l3.toNatClampNeg) (m 7 (6 * s + l2.toNatClampNeg) l3.toNatClampNeg) → (∀ t4 : Int32, t4 = l3 + 1 → Wp X d 93 (14, ([some (vp 3 s), some (vi l1), some (vi l2), some (vi t4)], ([], G x m3))) Q)))))) : Wp X d 93 (14, ([some (vp 3 s), some (vi l1), some (vi l2), some (vi l3)], ([], G x m))) Q := by
  refine wp_run 3 true ((bif decide (6 ≤ l3) then 44 else 20), ([some (vp 3 s), some (vi l1), some (vi l2), some (vi l3)], ([], G x m))) rfl rfl ?_
  refine wp_if (6 ≤ l3) (fun c1 => ?_) (fun c1 => ?_)
  · have h := h.1 c1
    refine wp_run 1 true (47, ([some (vp 3 s), some (vi l1), some (vi (l2 + 1)), some (vi l3)], ([], G x m))) rfl rfl ?_
    refine wpg (fun t2 => Wp X d 93 (47, ([some (vp 3 s), some (vi l1), some (vi t2), some (vi l3)], ([], G x m))) Q) (l2 + 1) (fun t2 ht2 => ?_)
    have h := h t2 ht2
    refine wp_run 1 true (4, ([some (vp 3 s), some (vi l1), some (vi t2), some (vi l3)], ([], G x m))) rfl rfl ?_
    exact h
  · have h := h.2 c1
    obtain ⟨hg2_0, hg2_1, hg2_2, hg2_3, h⟩ := h
    refine wp_run 14 (inb l3 6 && (inb l3 6 && (inb l2 6 && (inb (l2 - 1) 6 && true)))) (38, ([some (vp 3 s), some (vi l1), some (vi l2), some (vi l3)], ([], G x (mup m 7 (6 * s + (l2 - 1).toNatClampNeg) (l3.toNatClampNeg) (m 7 (6 * s + l2.toNatClampNeg) l3.toNatClampNeg))))) rfl (and_t hg2_3 (and_t hg2_2 (and_t hg2_1 (and_t hg2_0 rfl)))) ?_
    refine wpg (fun m3 => Wp X d 93 (38, ([some (vp 3 s), some (vi l1), some (vi l2), some (vi l3)], ([], G x m3))) Q) (mup m 7 (6 * s + (l2 - 1).toNatClampNeg) (l3.toNatClampNeg) (m 7 (6 * s + l2.toNatClampNeg) l3.toNatClampNeg)) (fun m3 hm3 => ?_)
    have h := h m3 hm3
    refine wp_run 1 true (41, ([some (vp 3 s), some (vi l1), some (vi l2), some (vi (l3 + 1))], ([], G x m3))) rfl rfl ?_
    refine wpg (fun t4 => Wp X d 93 (41, ([some (vp 3 s), some (vi l1), some (vi l2), some (vi t4)], ([], G x m3))) Q) (l3 + 1) (fun t4 ht4 => ?_)
    have h := h t4 ht4
    refine wp_run 1 true (14, ([some (vp 3 s), some (vi l1), some (vi l2), some (vi t4)], ([], G x m3))) rfl rfl ?_
    exact h
set_option maxRecDepth 100000 in
set_option maxHeartbeats 4000000 in
theorem vc_X8_copyFrom_2 {X : MX} {d : Nat} {x : Int64 × UInt64} {m : MI} {Q : MRes → Prop} {s : Nat} {q0 : Nat} (h : Wp X d 94 (2, ([some (vp 2 s), some (vp 2 q0), some (vi 0), none], ([], G x m))) Q) : Cl X d 94 [vp 2 s, vp 2 q0] (G x m) Q := by
  show Wp X d 94 (0, ([some (vp 2 s), some (vp 2 q0), none, none], ([], G x m))) Q
  refine wp_run 2 true (2, ([some (vp 2 s), some (vp 2 q0), some (vi 0), none], ([], G x m))) rfl rfl ?_
  exact h
set_option maxRecDepth 100000 in
set_option maxHeartbeats 4000000 in
theorem vl_X8_copyFrom_2_2 {X : MX} {d : Nat} {x : Int64 × UInt64} {m : MI} {Q : MRes → Prop} {s : Nat} {q0 : Nat} {l2 : Int32} {o3 : Option MV} (h : (((m 2 q0 1) ≤ l2 → (∀ m2 : MI, m2 = mup m 2 s 1 (m 2 q0 1) → (∀ m3 : MI, m3 = mup m2 2 s 2 (m2 2 q0 2) → Q (.inl none, G x m3)))) ∧ (¬ ((m 2 q0 1) ≤ l2) → Wp X d 94 (12, ([some (vp 2 s), some (vp 2 q0), some (vi l2), some (vi 0)], ([], G x m))) Q))) : Wp X d 94 (2, ([some (vp 2 s), some (vp 2 q0), some (vi l2), o3], ([], G x m))) Q := by
  refine wp_run 4 true ((bif decide ((m 2 q0 1) ≤ l2) then 46 else 10), ([some (vp 2 s), some (vp 2 q0), some (vi l2), o3], ([], G x m))) rfl rfl ?_
  refine wp_if ((m 2 q0 1) ≤ l2) (fun c1 => ?_) (fun c1 => ?_)
  · have h := h.1 c1
    refine wp_run 4 true (54, ([some (vp 2 s), some (vp 2 q0), some (vi l2), o3], ([], G x (mup m 2 s 1 (m 2 q0 1))))) rfl rfl ?_
    refine wpg (fun m2 => Wp X d 94 (54, ([some (vp 2 s), some (vp 2 q0), some (vi l2), o3], ([], G x m2))) Q) (mup m 2 s 1 (m 2 q0 1)) (fun m2 hm2 => ?_)
    have h := h m2 hm2
    refine wp_run 4 true (62, ([some (vp 2 s), some (vp 2 q0), some (vi l2), o3], ([], G x (mup m2 2 s 2 (m2 2 q0 2))))) rfl rfl ?_
    refine wpg (fun m3 => Wp X d 94 (62, ([some (vp 2 s), some (vp 2 q0), some (vi l2), o3], ([], G x m3))) Q) (mup m2 2 s 2 (m2 2 q0 2)) (fun m3 hm3 => ?_)
    have h := h m3 hm3
    exact wp_ret rfl h
  · have h := h.2 c1
    refine wp_run 2 true (12, ([some (vp 2 s), some (vp 2 q0), some (vi l2), some (vi 0)], ([], G x m))) rfl rfl ?_
    exact h
set_option maxRecDepth 100000 in
set_option maxHeartbeats 4000000 in
theorem vl_X8_copyFrom_2_12 {X : MX} {d : Nat} {x : Int64 × UInt64} {m : MI} {Q : MRes → Prop} {s : Nat} {q0 : Nat} {l2 : Int32} {l3 : Int32} (h : ((6 ≤ l3 → (∀ t2 : Int32, t2 = l2 + 1 → Wp X d 94 (2, ([some (vp 2 s), some (vp 2 q0), some (vi t2), some (vi l3)], ([], G x m))) Q)) ∧ (¬ (6 ≤ l3) → (inb l2 10 = true ∧ inb l2 10 = true ∧ inb l3 6 = true ∧ inb l3 6 = true ∧ (∀ m3 : MI, m3 = mup m 5 (10 * s + l2.toNatClampNeg) (l3.toNatClampNeg) (m 5 (10 * q0 + l2.toNatClampNeg) l3.toNatClampNeg) → (∀ t4 : Int32, t4 = l3 + 1 → Wp X d 94 (12, ([some (vp 2 s), some (vp 2 q0), some (vi l2), some (vi t4)], ([], G x m3))) Q)))))) : Wp X d 94 (12, ([some (vp 2 s), some (vp 2 q0), some (vi l2), some (vi l3)], ([], G x m))) Q := by
  refine wp_run 3 true ((bif decide (6 ≤ l3) then 40 else 18), ([some (vp 2 s), some (vp 2 q0), some (vi l2), some (vi l3)], ([], G x m))) rfl rfl ?_
  refine wp_if (6 ≤ l3) (fun c1 => ?_) (fun c1 => ?_)
  · have h := h.1 c1
    refine wp_run 1 true (43, ([some (vp 2 s), some (vp 2 q0), some (vi (l2 + 1)), some (vi l3)], ([], G x m))) rfl rfl ?_
    refine wpg (fun t2 => Wp X d 94 (43, ([some (vp 2 s), some (vp 2 q0), some (vi t2), some (vi l3)], ([], G x m))) Q) (l2 + 1) (fun t2 ht2 => ?_)
    have h := h t2 ht2
    refine wp_run 1 true (2, ([some (vp 2 s), some (vp 2 q0), some (vi t2), some (vi l3)], ([], G x m))) rfl rfl ?_
    exact h
  · have h := h.2 c1
    obtain ⟨hg2_0, hg2_1, hg2_2, hg2_3, h⟩ := h
    refine wp_run 12 (inb l3 6 && (inb l3 6 && (inb l2 10 && (inb l2 10 && true)))) (34, ([some (vp 2 s), some (vp 2 q0), some (vi l2), some (vi l3)], ([], G x (mup m 5 (10 * s + l2.toNatClampNeg) (l3.toNatClampNeg) (m 5 (10 * q0 + l2.toNatClampNeg) l3.toNatClampNeg))))) rfl (and_t hg2_3 (and_t hg2_2 (and_t hg2_1 (and_t hg2_0 rfl)))) ?_
    refine wpg (fun m3 => Wp X d 94 (34, ([some (vp 2 s), some (vp 2 q0), some (vi l2), some (vi l3)], ([], G x m3))) Q) (mup m 5 (10 * s + l2.toNatClampNeg) (l3.toNatClampNeg) (m 5 (10 * q0 + l2.toNatClampNeg) l3.toNatClampNeg)) (fun m3 hm3 => ?_)
    have h := h m3 hm3
    refine wp_run 1 true (37, ([some (vp 2 s), some (vp 2 q0), some (vi l2), some (vi (l3 + 1))], ([], G x m3))) rfl rfl ?_
    refine wpg (fun t4 => Wp X d 94 (37, ([some (vp 2 s), some (vp 2 q0), some (vi l2), some (vi t4)], ([], G x m3))) Q) (l3 + 1) (fun t4 ht4 => ?_)
    have h := h t4 ht4
    refine wp_run 1 true (12, ([some (vp 2 s), some (vp 2 q0), some (vi l2), some (vi t4)], ([], G x m3))) rfl rfl ?_
    exact h
set_option maxRecDepth 100000 in
set_option maxHeartbeats 4000000 in
theorem vc_X8_copyFrom_3 {X : MX} {d : Nat} {x : Int64 × UInt64} {m : MI} {Q : MRes → Prop} {s : Nat} {q0 : Nat} (h : Wp X d 94 (2, ([some (vp 3 s), some (vp 3 q0), some (vi 0), none], ([], G x m))) Q) : Cl X d 94 [vp 3 s, vp 3 q0] (G x m) Q := by
  show Wp X d 94 (0, ([some (vp 3 s), some (vp 3 q0), none, none], ([], G x m))) Q
  refine wp_run 2 true (2, ([some (vp 3 s), some (vp 3 q0), some (vi 0), none], ([], G x m))) rfl rfl ?_
  exact h
set_option maxRecDepth 100000 in
set_option maxHeartbeats 4000000 in
theorem vl_X8_copyFrom_3_2 {X : MX} {d : Nat} {x : Int64 × UInt64} {m : MI} {Q : MRes → Prop} {s : Nat} {q0 : Nat} {l2 : Int32} {o3 : Option MV} (h : (((m 3 q0 1) ≤ l2 → (∀ m2 : MI, m2 = mup m 3 s 1 (m 3 q0 1) → (∀ m3 : MI, m3 = mup m2 3 s 2 (m2 3 q0 2) → Q (.inl none, G x m3)))) ∧ (¬ ((m 3 q0 1) ≤ l2) → Wp X d 94 (12, ([some (vp 3 s), some (vp 3 q0), some (vi l2), some (vi 0)], ([], G x m))) Q))) : Wp X d 94 (2, ([some (vp 3 s), some (vp 3 q0), some (vi l2), o3], ([], G x m))) Q := by
  refine wp_run 4 true ((bif decide ((m 3 q0 1) ≤ l2) then 46 else 10), ([some (vp 3 s), some (vp 3 q0), some (vi l2), o3], ([], G x m))) rfl rfl ?_
  refine wp_if ((m 3 q0 1) ≤ l2) (fun c1 => ?_) (fun c1 => ?_)
  · have h := h.1 c1
    refine wp_run 4 true (54, ([some (vp 3 s), some (vp 3 q0), some (vi l2), o3], ([], G x (mup m 3 s 1 (m 3 q0 1))))) rfl rfl ?_
    refine wpg (fun m2 => Wp X d 94 (54, ([some (vp 3 s), some (vp 3 q0), some (vi l2), o3], ([], G x m2))) Q) (mup m 3 s 1 (m 3 q0 1)) (fun m2 hm2 => ?_)
    have h := h m2 hm2
    refine wp_run 4 true (62, ([some (vp 3 s), some (vp 3 q0), some (vi l2), o3], ([], G x (mup m2 3 s 2 (m2 3 q0 2))))) rfl rfl ?_
    refine wpg (fun m3 => Wp X d 94 (62, ([some (vp 3 s), some (vp 3 q0), some (vi l2), o3], ([], G x m3))) Q) (mup m2 3 s 2 (m2 3 q0 2)) (fun m3 hm3 => ?_)
    have h := h m3 hm3
    exact wp_ret rfl h
  · have h := h.2 c1
    refine wp_run 2 true (12, ([some (vp 3 s), some (vp 3 q0), some (vi l2), some (vi 0)], ([], G x m))) rfl rfl ?_
    exact h
set_option maxRecDepth 100000 in
set_option maxHeartbeats 4000000 in
theorem vl_X8_copyFrom_3_12 {X : MX} {d : Nat} {x : Int64 × UInt64} {m : MI} {Q : MRes → Prop} {s : Nat} {q0 : Nat} {l2 : Int32} {l3 : Int32} (h : ((6 ≤ l3 → (∀ t2 : Int32, t2 = l2 + 1 → Wp X d 94 (2, ([some (vp 3 s), some (vp 3 q0), some (vi t2), some (vi l3)], ([], G x m))) Q)) ∧ (¬ (6 ≤ l3) → (inb l2 6 = true ∧ inb l2 6 = true ∧ inb l3 6 = true ∧ inb l3 6 = true ∧ (∀ m3 : MI, m3 = mup m 7 (6 * s + l2.toNatClampNeg) (l3.toNatClampNeg) (m 7 (6 * q0 + l2.toNatClampNeg) l3.toNatClampNeg) → (∀ t4 : Int32, t4 = l3 + 1 → Wp X d 94 (12, ([some (vp 3 s), some (vp 3 q0), some (vi l2), some (vi t4)], ([], G x m3))) Q)))))) : Wp X d 94 (12, ([some (vp 3 s), some (vp 3 q0), some (vi l2), some (vi l3)], ([], G x m))) Q := by
  refine wp_run 3 true ((bif decide (6 ≤ l3) then 40 else 18), ([some (vp 3 s), some (vp 3 q0), some (vi l2), some (vi l3)], ([], G x m))) rfl rfl ?_
  refine wp_if (6 ≤ l3) (fun c1 => ?_) (fun c1 => ?_)
  · have h := h.1 c1
    refine wp_run 1 true (43, ([some (vp 3 s), some (vp 3 q0), some (vi (l2 + 1)), some (vi l3)], ([], G x m))) rfl rfl ?_
    refine wpg (fun t2 => Wp X d 94 (43, ([some (vp 3 s), some (vp 3 q0), some (vi t2), some (vi l3)], ([], G x m))) Q) (l2 + 1) (fun t2 ht2 => ?_)
    have h := h t2 ht2
    refine wp_run 1 true (2, ([some (vp 3 s), some (vp 3 q0), some (vi t2), some (vi l3)], ([], G x m))) rfl rfl ?_
    exact h
  · have h := h.2 c1
    obtain ⟨hg2_0, hg2_1, hg2_2, hg2_3, h⟩ := h
    refine wp_run 12 (inb l3 6 && (inb l3 6 && (inb l2 6 && (inb l2 6 && true)))) (34, ([some (vp 3 s), some (vp 3 q0), some (vi l2), some (vi l3)], ([], G x (mup m 7 (6 * s + l2.toNatClampNeg) (l3.toNatClampNeg) (m 7 (6 * q0 + l2.toNatClampNeg) l3.toNatClampNeg))))) rfl (and_t hg2_3 (and_t hg2_2 (and_t hg2_1 (and_t hg2_0 rfl)))) ?_
    refine wpg (fun m3 => Wp X d 94 (34, ([some (vp 3 s), some (vp 3 q0), some (vi l2), some (vi l3)], ([], G x m3))) Q) (mup m 7 (6 * s + l2.toNatClampNeg) (l3.toNatClampNeg) (m 7 (6 * q0 + l2.toNatClampNeg) l3.toNatClampNeg)) (fun m3 hm3 => ?_)
    have h := h m3 hm3
    refine wp_run 1 true (37, ([some (vp 3 s), some (vp 3 q0), some (vi l2), some (vi (l3 + 1))], ([], G x m3))) rfl rfl ?_
    refine wpg (fun t4 => Wp X d 94 (37, ([some (vp 3 s), some (vp 3 q0), some (vi l2), some (vi t4)], ([], G x m3))) Q) (l3 + 1) (fun t4 ht4 => ?_)
    have h := h t4 ht4
    refine wp_run 1 true (12, ([some (vp 3 s), some (vp 3 q0), some (vi l2), some (vi t4)], ([], G x m3))) rfl rfl ?_
    exact h
set_option maxRecDepth 100000 in
set_option maxHeartbeats 4000000 in
theorem vc_X3_push {X : MX} {d : Nat} {x : Int64 × UInt64} {m : MI} {Q : MRes → Prop} {q0 : Nat} (h : (inb (m 8 0 1) 8 = true ∧ Cl X d 71 [vp 1 (3 + (m 8 0 1).toNatClampNeg), vp 1 q0] (G x m) (fun r => ∃ (m2 : MI), r = (.inl none, G x m2) ∧ (∀ m3 : MI, m3 = mup m2 8 0 1 (((m2 8 0 1) + 1) - ((m2 8 0 1) + 1) / 8 * 8) → (∀ m4 : MI, m4 = mup m3 8 0 2 (if ((m3 8 0 2) + 1) < 8 then ((m3 8 0 2) + 1) else 8) → Q (.inl none, G x m4)))))) : Cl X (d + 1) 96 [vp 8 0, vp 1 q0] (G x m) Q := by
  show Wp X (d + 1) 96 (0, ([some (vp 8 0), some (vp 1 q0)], ([], G x m))) Q
  obtain ⟨hg1_0, h⟩ := h
  refine wp_run 6 (inb (m 8 0 1) 8 && true) (10, ([some (vp 8 0), some (vp 1 q0)], ([vp 1 q0, vp 1 (3 + (m 8 0 1).toNatClampNeg)], G x m))) rfl (and_t hg1_0 rfl) ?_
  refine wp_call 71 [vp 1 (3 + (m 8 0 1).toNatClampNeg), vp 1 q0] (13, ([some (vp 8 0), some (vp 1 q0)], ([], G x m))) rfl rfl (Cl.mono h (Nat.le_refl _) ?_)
  rintro r ⟨m2, rfl, h⟩
  · show Wp X (d + 1) 96 (13, ([some (vp 8 0), some (vp 1 q0)], ([], G x m2))) Q
    refine wp_run 8 true (26, ([some (vp 8 0), some (vp 1 q0)], ([], G x (mup m2 8 0 1 (((m2 8 0 1) + 1) - ((m2 8 0 1) + 1) / 8 * 8))))) rfl rfl ?_
    refine wpg (fun m3 => Wp X (d + 1) 96 (26, ([some (vp 8 0), some (vp 1 q0)], ([], G x m3))) Q) (mup m2 8 0 1 (((m2 8 0 1) + 1) - ((m2 8 0 1) + 1) / 8 * 8)) (fun m3 hm3 => ?_)
    have h := h m3 hm3
    refine wp_run 8 true (41, ([some (vp 8 0), some (vp 1 q0)], ([], G x (mup m3 8 0 2 (if ((m3 8 0 2) + 1) < 8 then ((m3 8 0 2) + 1) else 8))))) rfl rfl ?_
    refine wpg (fun m4 => Wp X (d + 1) 96 (41, ([some (vp 8 0), some (vp 1 q0)], ([], G x m4))) Q) (mup m3 8 0 2 (if ((m3 8 0 2) + 1) < 8 then ((m3 8 0 2) + 1) else 8)) (fun m4 hm4 => ?_)
    have h := h m4 hm4
    exact wp_ret rfl h
set_option maxRecDepth 100000 in
set_option maxHeartbeats 4000000 in
theorem vc_X3_popInto {X : MX} {d : Nat} {x : Int64 × UInt64} {m : MI} {Q : MRes → Prop} {q0 : Nat} (h : (∀ m1 : MI, m1 = mup m 8 0 1 ((((m 8 0 1) + 8) - 1) - (((m 8 0 1) + 8) - 1) / 8 * 8) → (inb (m1 8 0 1) 8 = true ∧ Cl X d 71 [vp 1 q0, vp 1 (3 + (m1 8 0 1).toNatClampNeg)] (G x m1) (fun r => ∃ (m3 : MI), r = (.inl none, G x m3) ∧ (∀ m4 : MI, m4 = mup m3 8 0 2 ((m3 8 0 2) - 1) → Q (.inl none, G x m4)))))) : Cl X (d + 1) 97 [vp 8 0, vp 1 q0] (G x m) Q := by
  show Wp X (d + 1) 97 (0, ([some (vp 8 0), some (vp 1 q0)], ([], G x m))) Q
  refine wp_run 10 true (16, ([some (vp 8 0), some (vp 1 q0)], ([], G x (mup m 8 0 1 ((((m 8 0 1) + 8) - 1) - (((m 8 0 1) + 8) - 1) / 8 * 8))))) rfl rfl ?_
  refine wpg (fun m1 => Wp X (d + 1) 97 (16, ([some (vp 8 0), some (vp 1 q0)], ([], G x m1))) Q) (mup m 8 0 1 ((((m 8 0 1) + 8) - 1) - (((m 8 0 1) + 8) - 1) / 8 * 8)) (fun m1 hm1 => ?_)
  have h := h m1 hm1
  obtain ⟨hg1_0, h⟩ := h
  refine wp_run 6 (inb (m1 8 0 1) 8 && true) (26, ([some (vp 8 0), some (vp 1 q0)], ([vp 1 (3 + (m1 8 0 1).toNatClampNeg), vp 1 q0], G x m1))) rfl (and_t hg1_0 rfl) ?_
  refine wp_call 71 [vp 1 q0, vp 1 (3 + (m1 8 0 1).toNatClampNeg)] (29, ([some (vp 8 0), some (vp 1 q0)], ([], G x m1))) rfl rfl (Cl.mono h (Nat.le_refl _) ?_)
  rintro r ⟨m3, rfl, h⟩
  · show Wp X (d + 1) 97 (29, ([some (vp 8 0), some (vp 1 q0)], ([], G x m3))) Q
    refine wp_run 6 true (39, ([some (vp 8 0), some (vp 1 q0)], ([], G x (mup m3 8 0 2 ((m3 8 0 2) - 1))))) rfl rfl ?_
    refine wpg (fun m4 => Wp X (d + 1) 97 (39, ([some (vp 8 0), some (vp 1 q0)], ([], G x m4))) Q) (mup m3 8 0 2 ((m3 8 0 2) - 1)) (fun m4 hm4 => ?_)
    have h := h m4 hm4
    exact wp_ret rfl h
set_option maxRecDepth 100000 in
set_option maxHeartbeats 4000000 in
theorem vc_X3_forget {X : MX} {d : Nat} {x : Int64 × UInt64} {m : MI} {Q : MRes → Prop} (h : (∀ m1 : MI, m1 = mup m 8 0 2 0 → Q (.inl none, G x m1))) : Cl X d 98 [vp 8 0] (G x m) Q := by
  show Wp X d 98 (0, ([some (vp 8 0)], ([], G x m))) Q
  refine wp_run 3 true (5, ([some (vp 8 0)], ([], G x (mup m 8 0 2 0)))) rfl rfl ?_
  refine wpg (fun m1 => Wp X d 98 (5, ([some (vp 8 0)], ([], G x m1))) Q) (mup m 8 0 2 0) (fun m1 hm1 => ?_)
  have h := h m1 hm1
  exact wp_ret rfl h
set_option maxRecDepth 100000 in
set_option maxHeartbeats 4000000 in
theorem vc_J0_length_8abf5 {X : MX} {d : Nat} {x : Int64 × UInt64} {m : MI} {Q : MRes → Prop} {n : Nat} (h : Cl X d 325 [vs 3 n] (G x m) (fun r => ∃ (v1 : Int32) (m2 : MI), r = (.inl (some (vi v1)), G x m2) ∧ Q (.inl (some (vi ((Int32.ofNat (formLen n)) >>> (v1 &&& 31)))), G x m2))) : Cl X (d + 1) 323 [vs 3 n] (G x m) Q := by
  show Wp X (d + 1) 323 (0, ([some (vs 3 n)], ([], G x m))) Q
  refine wp_run 4 true (6, ([some (vs 3 n)], ([vs 3 n, vi (Int32.ofNat (formLen n))], G x m))) rfl rfl ?_
  refine wp_call 325 [vs 3 n] (9, ([some (vs 3 n)], ([vi (Int32.ofNat (formLen n))], G x m))) rfl rfl (Cl.mono h (Nat.le_refl _) ?_)
  rintro r ⟨v1, m2, rfl, h⟩
  · show Wp X (d + 1) 323 (9, ([some (vs 3 n)], ([vi v1, vi (Int32.ofNat (formLen n))], G x m2))) Q
    refine wp_run 1 true (10, ([some (vs 3 n)], ([vi ((Int32.ofNat (formLen n)) >>> (v1 &&& 31))], G x m2))) rfl rfl ?_
    exact wp_ret rfl h
set_option maxRecDepth 100000 in
set_option maxHeartbeats 4000000 in
theorem vc_J0_charAt_5068e {X : MX} {d : Nat} {x : Int64 × UInt64} {m : MI} {Q : MRes → Prop} {n : Nat} {p0 : Int32} (h : Cl X d 326 [vs 3 n] (G x m) (fun r => ∃ (v1 : Int32) (m2 : MI), r = (.inl (some (vi v1)), G x m2) ∧ ((v1 = 0 → False) ∧ (¬ (v1 = 0) → Cl X d 328 [vs 4 n, vi p0] (G x m2) (fun r => ∃ (v4 : Int32) (m5 : MI), r = (.inl (some (vi v4)), G x m5) ∧ (okT 3 v4 = true ∧ Q (.inl (some (vi v4)), G x m5))))))) : Cl X (d + 1) 324 [vs 3 n, vi p0] (G x m) Q := by
  show Wp X (d + 1) 324 (0, ([some (vs 3 n), some (vi p0)], ([], G x m))) Q
  refine wp_run 1 true (1, ([some (vs 3 n), some (vi p0)], ([vs 3 n], G x m))) rfl rfl ?_
  refine wp_call 326 [vs 3 n] (4, ([some (vs 3 n), some (vi p0)], ([], G x m))) rfl rfl (Cl.mono h (Nat.le_refl _) ?_)
  rintro r ⟨v1, m2, rfl, h⟩
  · show Wp X (d + 1) 324 (4, ([some (vs 3 n), some (vi p0)], ([vi v1], G x m2))) Q
    refine wp_run 1 true ((bif decide (v1 = 0) then 16 else 7), ([some (vs 3 n), some (vi p0)], ([], G x m2))) rfl rfl ?_
    refine wp_if (v1 = 0) (fun c3 => ?_) (fun c3 => ?_)
    · have h := h.1 c3
      exact h.elim
    · have h := h.2 c3
      refine wp_run 3 true (12, ([some (vs 3 n), some (vi p0)], ([vi p0, vs 4 n], G x m2))) rfl rfl ?_
      refine wp_call 328 [vs 4 n, vi p0] (15, ([some (vs 3 n), some (vi p0)], ([], G x m2))) rfl rfl (Cl.mono h (Nat.le_refl _) ?_)
      rintro r ⟨v4, m5, rfl, h⟩
      · show Wp X (d + 1) 324 (15, ([some (vs 3 n), some (vi p0)], ([vi v4], G x m5))) Q
        exact wp_retT (okT 3 v4) rfl h.1 h.2
set_option maxRecDepth 100000 in
set_option maxHeartbeats 4000000 in
theorem vc_J0_coder_7d493 {X : MX} {d : Nat} {x : Int64 × UInt64} {m : MI} {Q : MRes → Prop} {n : Nat} (h : Q (.inl (some (vi 0)), G x m)) : Cl X d 325 [vs 3 n] (G x m) Q := by
  show Wp X d 325 (0, ([some (vs 3 n)], ([], G x m))) Q
  refine wp_run 5 true (14, ([some (vs 3 n)], ([vi 0], G x m))) rfl rfl ?_
  exact wp_ret rfl h
set_option maxRecDepth 100000 in
set_option maxHeartbeats 4000000 in
theorem vc_J0_isLatin1_aae02 {X : MX} {d : Nat} {x : Int64 × UInt64} {m : MI} {Q : MRes → Prop} {n : Nat} (h : Q (.inl (some (vi 1)), G x m)) : Cl X d 326 [vs 3 n] (G x m) Q := by
  show Wp X d 326 (0, ([some (vs 3 n)], ([], G x m))) Q
  refine wp_run 7 true (18, ([some (vs 3 n)], ([vi 1], G x m))) rfl rfl ?_
  exact wp_ret rfl h
set_option maxRecDepth 100000 in
set_option maxHeartbeats 4000000 in
theorem vc_J0_checkIndex_df160 {X : MX} {d : Nat} {x : Int64 × UInt64} {m : MI} {Q : MRes → Prop} {p0 : Int32} {p1 : Int32} (h : Cl X d 331 [vi p0, vi p1, vs 9 0] (G x m) (fun r => ∃ (v1 : Int32) (m2 : MI), r = (.inl (some (vi v1)), G x m2) ∧ Q (.inl none, G x m2))) : Cl X (d + 1) 327 [vi p0, vi p1] (G x m) Q := by
  show Wp X (d + 1) 327 (0, ([some (vi p0), some (vi p1)], ([], G x m))) Q
  refine wp_run 3 true (5, ([some (vi p0), some (vi p1)], ([vs 9 0, vi p1, vi p0], G x m))) rfl rfl ?_
  refine wp_call 331 [vi p0, vi p1, vs 9 0] (8, ([some (vi p0), some (vi p1)], ([], G x m))) rfl rfl (Cl.mono h (Nat.le_refl _) ?_)
  rintro r ⟨v1, m2, rfl, h⟩
  · show Wp X (d + 1) 327 (8, ([some (vi p0), some (vi p1)], ([vi v1], G x m2))) Q
    refine wp_run 1 true (9, ([some (vi p0), some (vi p1)], ([], G x m2))) rfl rfl ?_
    exact wp_ret rfl h
set_option maxRecDepth 100000 in
set_option maxHeartbeats 4000000 in
theorem vc_J1_charAt_3b067 {X : MX} {d : Nat} {x : Int64 × UInt64} {m : MI} {Q : MRes → Prop} {n : Nat} {p1 : Int32} (h : Cl X d 327 [vi p1, vi (Int32.ofNat (formLen n))] (G x m) (fun r => ∃ (m2 : MI), r = (.inl none, G x m2) ∧ (inb p1 (formLen n) = true ∧ (okT 3 ((((Int32.ofNat ((formCh n).getD p1.toNatClampNeg 0)) &&& 255).toUInt32 % 65536).toInt32) = true ∧ Q (.inl (some (vi ((((Int32.ofNat ((formCh n).getD p1.toNatClampNeg 0)) &&& 255).toUInt32 % 65536).toInt32))), G x m2))))) : Cl X (d + 1) 328 [vs 4 n, vi p1] (G x m) Q := by
  show Wp X (d + 1) 328 (0, ([some (vs 4 n), some (vi p1)], ([], G x m))) Q
  refine wp_run 3 true (3, ([some (vs 4 n), some (vi p1)], ([vi (Int32.ofNat (formLen n)), vi p1], G x m))) rfl rfl ?_
  refine wp_call 327 [vi p1, vi (Int32.ofNat (formLen n))] (6, ([some (vs 4 n), some (vi p1)], ([], G x m))) rfl rfl (Cl.mono h (Nat.le_refl _) ?_)
  rintro r ⟨m2, rfl, h⟩
  · show Wp X (d + 1) 328 (6, ([some (vs 4 n), some (vi p1)], ([], G x m2))) Q
    obtain ⟨hg2_0, h⟩ := h
    refine wp_run 6 (inb p1 (formLen n) && true) (14, ([some (vs 4 n), some (vi p1)], ([vi ((((Int32.ofNat ((formCh n).getD p1.toNatClampNeg 0)) &&& 255).toUInt32 % 65536).toInt32)], G x m2))) rfl (and_t hg2_0 rfl) ?_
    exact wp_retT (okT 3 ((((Int32.ofNat ((formCh n).getD p1.toNatClampNeg 0)) &&& 255).toUInt32 % 65536).toInt32)) rfl h.1 h.2
set_option maxRecDepth 100000 in
set_option maxHeartbeats 4000000 in
theorem vc_J6_bitCount_0f7a4 {X : MX} {d : Nat} {x : Int64 × UInt64} {m : MI} {Q : MRes → Prop} {p0 : Int32} (h : (∀ t1 : Int32, t1 = p0 - (((p0.toUInt32 >>> ((1 : Int32).toUInt32 &&& Int32.toUInt32 31)).toInt32) &&& 1431655765) → (∀ t2 : Int32, t2 = (t1 &&& 858993459) + (((t1.toUInt32 >>> ((2 : Int32).toUInt32 &&& Int32.toUInt32 31)).toInt32) &&& 858993459) → (∀ t3 : Int32, t3 = (t2 + ((t2.toUInt32 >>> ((4 : Int32).toUInt32 &&& Int32.toUInt32 31)).toInt32)) &&& 252645135 → (∀ t4 : Int32, t4 = t3 + ((t3.toUInt32 >>> ((8 : Int32).toUInt32 &&& Int32.toUInt32 31)).toInt32) → (∀ t5 : Int32, t5 = t4 + ((t4.toUInt32 >>> ((16 : Int32).toUInt32 &&& Int32.toUInt32 31)).toInt32) → Q (.inl (some (vi (t5 &&& 63))), G x m))))))) : Cl X d 329 [vi p0] (G x m) Q := by
  show Wp X d 329 (0, ([some (vi p0)], ([], G x m))) Q
  refine wp_run 8 true (10, ([some (vi (p0 - (((p0.toUInt32 >>> ((1 : Int32).toUInt32 &&& Int32.toUInt32 31)).toInt32) &&& 1431655765)))], ([], G x m))) rfl rfl ?_
  refine wpg (fun t1 => Wp X d 329 (10, ([some (vi t1)], ([], G x m))) Q) (p0 - (((p0.toUInt32 >>> ((1 : Int32).toUInt32 &&& Int32.toUInt32 31)).toInt32) &&& 1431655765)) (fun t1 ht1 => ?_)
  have h := h t1 ht1
  refine wp_run 10 true (24, ([some (vi ((t1 &&& 858993459) + (((t1.toUInt32 >>> ((2 : Int32).toUInt32 &&& Int32.toUInt32 31)).toInt32) &&& 858993459)))], ([], G x m))) rfl rfl ?_
  refine wpg (fun t2 => Wp X d 329 (24, ([some (vi t2)], ([], G x m))) Q) ((t1 &&& 858993459) + (((t1.toUInt32 >>> ((2 : Int32).toUInt32 &&& Int32.toUInt32 31)).toInt32) &&& 858993459)) (fun t2 ht2 => ?_)
  have h := h t2 ht2
  refine wp_run 8 true (34, ([some (vi ((t2 + ((t2.toUInt32 >>> ((4 : Int32).toUInt32 &&& Int32.toUInt32 31)).toInt32)) &&& 252645135))], ([], G x m))) rfl rfl ?_
  refine wpg (fun t3 => Wp X d 329 (34, ([some (vi t3)], ([], G x m))) Q) ((t2 + ((t2.toUInt32 >>> ((4 : Int32).toUInt32 &&& Int32.toUInt32 31)).toInt32)) &&& 252645135) (fun t3 ht3 => ?_)
  have h := h t3 ht3
  refine wp_run 6 true (41, ([some (vi (t3 + ((t3.toUInt32 >>> ((8 : Int32).toUInt32 &&& Int32.toUInt32 31)).toInt32)))], ([], G x m))) rfl rfl ?_
  refine wpg (fun t4 => Wp X d 329 (41, ([some (vi t4)], ([], G x m))) Q) (t3 + ((t3.toUInt32 >>> ((8 : Int32).toUInt32 &&& Int32.toUInt32 31)).toInt32)) (fun t4 ht4 => ?_)
  have h := h t4 ht4
  refine wp_run 6 true (48, ([some (vi (t4 + ((t4.toUInt32 >>> ((16 : Int32).toUInt32 &&& Int32.toUInt32 31)).toInt32)))], ([], G x m))) rfl rfl ?_
  refine wpg (fun t5 => Wp X d 329 (48, ([some (vi t5)], ([], G x m))) Q) (t4 + ((t4.toUInt32 >>> ((16 : Int32).toUInt32 &&& Int32.toUInt32 31)).toInt32)) (fun t5 ht5 => ?_)
  have h := h t5 ht5
  refine wp_run 3 true (52, ([some (vi t5)], ([vi (t5 &&& 63)], G x m))) rfl rfl ?_
  exact wp_ret rfl h
set_option maxRecDepth 100000 in
set_option maxHeartbeats 4000000 in
theorem vc_Jx29ce0_ordinal_8abf5 {X : MX} {d : Nat} {x : Int64 × UInt64} {m : MI} {Q : MRes → Prop} {n : Nat} (h : Q (.inl (some (vi (Int32.ofNat n))), G x m)) : Cl X d 330 [vs 2 n] (G x m) Q := by
  show Wp X d 330 (0, ([some (vs 2 n)], ([], G x m))) Q
  refine wp_run 2 true (4, ([some (vs 2 n)], ([vi (Int32.ofNat n)], G x m))) rfl rfl ?_
  exact wp_ret rfl h
set_option maxRecDepth 100000 in
set_option maxHeartbeats 4000000 in
theorem vc_J3_checkIndex_8e157 {X : MX} {d : Nat} {x : Int64 × UInt64} {m : MI} {Q : MRes → Prop} {p0 : Int32} {p1 : Int32} (h : ((p0 < 0 → False) ∧ (¬ (p0 < 0) → ((p0 < p1 → Q (.inl (some (vi p0)), G x m)) ∧ (¬ (p0 < p1) → False))))) : Cl X d 331 [vi p0, vi p1, vs 9 0] (G x m) Q := by
  show Wp X d 331 (0, ([some (vi p0), some (vi p1), some (vs 9 0)], ([], G x m))) Q
  refine wp_run 2 true ((bif decide (p0 < 0) then 9 else 4), ([some (vi p0), some (vi p1), some (vs 9 0)], ([], G x m))) rfl rfl ?_
  refine wp_if (p0 < 0) (fun c1 => ?_) (fun c1 => ?_)
  · have h := h.1 c1
    exact h.elim
  · have h := h.2 c1
    refine wp_run 3 true ((bif decide (p0 < p1) then 16 else 9), ([some (vi p0), some (vi p1), some (vs 9 0)], ([], G x m))) rfl rfl ?_
    refine wp_if (p0 < p1) (fun c2 => ?_) (fun c2 => ?_)
    · have h := h.1 c2
      refine wp_run 1 true (17, ([some (vi p0), some (vi p1), some (vs 9 0)], ([vi p0], G x m))) rfl rfl ?_
      exact wp_ret rfl h
    · have h := h.2 c2
      exact h.elim
