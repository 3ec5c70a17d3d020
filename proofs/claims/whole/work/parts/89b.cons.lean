/-! ===== CONSISTENT ===== -/
section CONS
variable {X : MX} {d : Nat} {x : Int64 × UInt64} {m : MI} {Q : MRes → Prop} {B : Nat} {o : OS}
theorem cw_consistent (h : CoR m o) (ok : okO B o) (hz : ∀ s, m 18 0 s = 0) (hQ : cn m 1 Q x) : Cl X (d + 16) 45 [vp 0 0] (G x m) Q := by
  have hl := ok.1.len
  have Z : ∀ m9, FQ m m9 → ∀ s, m9 18 0 s = 0 := fun m9 hF s => by rw [hF 18 0 s (Or.inl (by unfold kC; omega))]; exact hz s
  refine vc_X10_isConsistent ?_
  have part4 : ∀ m11, FQ m m11 → Cl X (d + 15) 40 [vp 0 0] (G x m11) (fun r => ∃ (v13 : Int32) (m14 : MI), r = (.inl (some (vi v13)), G x m14) ∧ Cl X (d + 15) 41 [vp 0 0] (G x m14) (fun r => ∃ (v15 : Int32) (m16 : MI), r = (.inl (some (vi v15)), G x m16) ∧ ((¬ v13 = v15 → Q (.inl (some (vi 0)), G x m16)) ∧ (¬ (¬ v13 = v15) → Q (.inl (some (vi 1)), G x m16))))) := fun m11 F11 => by
    refine cw_coins (F11.cor h ok) (fun m14 F14 => ⟨_, _, rfl, cw_coinsByAccounts ((F11.tr F14).cor h ok) (fun m16 F16 => ⟨_, _, rfl, fun c => absurd rfl c, fun _ => hQ m16 ((F11.tr F14).tr F16)⟩)⟩)
  have part3 : ∀ m8, FQ m m8 → Cl X (d + 15) 69 [vp 0 0] (G x m8) (fun r => ∃ (v10 : Int32) (m11 : MI), r = (.inl (some (vi v10)), G x m11) ∧ ((v10 = 0 → Q (.inl (some (vi 0)), G x m11)) ∧ (¬ (v10 = 0) → Cl X (d + 15) 40 [vp 0 0] (G x m11) (fun r => ∃ (v13 : Int32) (m14 : MI), r = (.inl (some (vi v13)), G x m14) ∧ Cl X (d + 15) 41 [vp 0 0] (G x m14) (fun r => ∃ (v15 : Int32) (m16 : MI), r = (.inl (some (vi v15)), G x m16) ∧ ((¬ v13 = v15 → Q (.inl (some (vi 0)), G x m16)) ∧ (¬ (¬ v13 = v15) → Q (.inl (some (vi 1)), G x m16)))))))) := fun m8 F8 => by
    have h8 := F8.cor h ok
    have hg : ∀ i j, i < (aC (oA o)).length → j < (aC (oA o)).length → dCC (oA o) i j ≤ 29403 := fun i j hi hj => ok.1.dCC hi hj
    refine vc_X10_palettesAgree (sp_measAll h8.1 ok.1 (fun m2 hP K2 => ⟨_, rfl, ?_⟩))
    have F2 := F8.tr K2.fq
    have h2 := F2.cor h ok
    have key : ∀ k, k ≤ 4 → 1 ≤ k → Wp X (d + 15) 69 (13, ([some (vp 0 0), some (vi (nI k))], ([], G x m2))) (fun r => ∃ (v10 : Int32) (m11 : MI), r = (.inl (some (vi v10)), G x m11) ∧ ((v10 = 0 → Q (.inl (some (vi 0)), G x m11)) ∧ (¬ (v10 = 0) → Cl X (d + 15) 40 [vp 0 0] (G x m11) (fun r => ∃ (v13 : Int32) (m14 : MI), r = (.inl (some (vi v13)), G x m14) ∧ Cl X (d + 15) 41 [vp 0 0] (G x m14) (fun r => ∃ (v15 : Int32) (m16 : MI), r = (.inl (some (vi v15)), G x m16) ∧ ((¬ v13 = v15 → Q (.inl (some (vi 0)), G x m16)) ∧ (¬ (¬ v13 = v15) → Q (.inl (some (vi 1)), G x m16)))))))) := by
      refine lup (fun k hk ih h1 => ?_)
      refine vl_X10_palettesAgree_13 ?_
      rw [h2.1.1.1]
      refine pk_lt 3 k (fun c => ⟨_, _, rfl, fun c => absurd c (by decide), fun _ => part4 m2 F2⟩) (fun c => pk_lt (aC (oA o)).length k (fun c2 => ⟨_, _, rfl, fun c => absurd c (by decide), fun _ => part4 m2 F2⟩) (fun c2 => ?_))
      obtain ⟨b1, b2, b3⟩ := bestP_ok (g := dCC (oA o)) h1 c2 hl.1
      have hpn := p2 hl.1
      refine sp_best hP hl.1 hg (by omega) ⟨_, _, rfl, sp_err hP hl.1 hg (by omega) ⟨_, _, rfl, sp_bySearch hP hl.1 hg h1 c2 ⟨_, _, rfl, fun _ t10 e10 => ?_, fun c => absurd rfl c⟩⟩⟩
      rw [e10, nI_1]
      exact ih (by omega) (by omega)
    exact key 1 (by omega) (by omega)
  have part2 : ∀ m5, FQ m m5 → Cl X (d + 15) 68 [vp 0 0] (G x m5) (fun r => ∃ (v7 : Int32) (m8 : MI), r = (.inl (some (vi v7)), G x m8) ∧ ((v7 = 0 → Q (.inl (some (vi 0)), G x m8)) ∧ (¬ (v7 = 0) → Cl X (d + 15) 69 [vp 0 0] (G x m8) (fun r => ∃ (v10 : Int32) (m11 : MI), r = (.inl (some (vi v10)), G x m11) ∧ ((v10 = 0 → Q (.inl (some (vi 0)), G x m11)) ∧ (¬ (v10 = 0) → Cl X (d + 15) 40 [vp 0 0] (G x m11) (fun r => ∃ (v13 : Int32) (m14 : MI), r = (.inl (some (vi v13)), G x m14) ∧ Cl X (d + 15) 41 [vp 0 0] (G x m14) (fun r => ∃ (v15 : Int32) (m16 : MI), r = (.inl (some (vi v15)), G x m16) ∧ ((¬ v13 = v15 → Q (.inl (some (vi 0)), G x m16)) ∧ (¬ (¬ v13 = v15) → Q (.inl (some (vi 1)), G x m16))))))))))) := fun m5 F5 => by
    have h5 := F5.cor h ok
    refine vc_X10_settlementsAgree (sp_solve h5.1 ok.1 (Z m5 F5) (fun m2 L2 C2 K2 => ⟨_, rfl, sp_sumW L2 (spA_ok ok.1) C2 ⟨_, _, rfl, ?_⟩⟩))
    have F2 := F5.tr K2.fq
    exact sp_byTry (F2.cor h ok).1 ok.1 (fun m6 K6 => ⟨_, _, rfl, fun c => absurd rfl c, fun _ => ⟨_, _, rfl, fun c => absurd c (by decide), fun _ => part3 m6 (F2.tr K6.fq)⟩⟩)
  have part1 : ∀ m2, FQ m m2 → Cl X (d + 15) 67 [vp 0 0] (G x m2) (fun r => ∃ (v4 : Int32) (m5 : MI), r = (.inl (some (vi v4)), G x m5) ∧ ((v4 = 0 → Q (.inl (some (vi 0)), G x m5)) ∧ (¬ (v4 = 0) → Cl X (d + 15) 68 [vp 0 0] (G x m5) (fun r => ∃ (v7 : Int32) (m8 : MI), r = (.inl (some (vi v7)), G x m8) ∧ ((v7 = 0 → Q (.inl (some (vi 0)), G x m8)) ∧ (¬ (v7 = 0) → Cl X (d + 15) 69 [vp 0 0] (G x m8) (fun r => ∃ (v10 : Int32) (m11 : MI), r = (.inl (some (vi v10)), G x m11) ∧ ((v10 = 0 → Q (.inl (some (vi 0)), G x m11)) ∧ (¬ (v10 = 0) → Cl X (d + 15) 40 [vp 0 0] (G x m11) (fun r => ∃ (v13 : Int32) (m14 : MI), r = (.inl (some (vi v13)), G x m14) ∧ Cl X (d + 15) 41 [vp 0 0] (G x m14) (fun r => ∃ (v15 : Int32) (m16 : MI), r = (.inl (some (vi v15)), G x m16) ∧ ((¬ v13 = v15 → Q (.inl (some (vi 0)), G x m16)) ∧ (¬ (¬ v13 = v15) → Q (.inl (some (vi 1)), G x m16)))))))))))))) := fun m2 F2 => by
    have h2 := F2.cor h ok
    refine vc_X10_closestAgree ?_
    rw [h2.1.1.1]
    refine pk_lt (aC (oA o)).length 2 (fun c => ⟨_, _, rfl, fun c => absurd c (by decide), fun _ => part2 m2 F2⟩) (fun c => sp_clos h2.1 ok.1 ⟨_, _, rfl, sp_closS h2.1 ok.1 (fun m5 K5 => ⟨_, _, rfl, fun c => absurd rfl c, fun _ => ⟨_, _, rfl, fun c => absurd c (by decide), fun _ => part2 m5 (F2.tr K5.fq)⟩⟩)⟩)
  refine vc_X10_nearestAgree ?_
  rw [h.1.1.1]
  refine pk_eqn (b := 0) (fun c => ⟨_, _, rfl, fun c => absurd c (by decide), fun _ => part1 m FQ.rf⟩) (fun c => ?_) (by omega) (by omega)
  have key : ∀ k, k ≤ (aR (oA o)).length → ∀ m9 o2, FQ m m9 → Wp X (d + 15) 66 (17, ([some (vp 0 0), some (vi (nI k)), o2], ([], G x m9))) (fun r => ∃ (v1 : Int32) (m2 : MI), r = (.inl (some (vi v1)), G x m2) ∧ ((v1 = 0 → Q (.inl (some (vi 0)), G x m2)) ∧ (¬ (v1 = 0) → Cl X (d + 15) 67 [vp 0 0] (G x m2) (fun r => ∃ (v4 : Int32) (m5 : MI), r = (.inl (some (vi v4)), G x m5) ∧ ((v4 = 0 → Q (.inl (some (vi 0)), G x m5)) ∧ (¬ (v4 = 0) → Cl X (d + 15) 68 [vp 0 0] (G x m5) (fun r => ∃ (v7 : Int32) (m8 : MI), r = (.inl (some (vi v7)), G x m8) ∧ ((v7 = 0 → Q (.inl (some (vi 0)), G x m8)) ∧ (¬ (v7 = 0) → Cl X (d + 15) 69 [vp 0 0] (G x m8) (fun r => ∃ (v10 : Int32) (m11 : MI), r = (.inl (some (vi v10)), G x m11) ∧ ((v10 = 0 → Q (.inl (some (vi 0)), G x m11)) ∧ (¬ (v10 = 0) → Cl X (d + 15) 40 [vp 0 0] (G x m11) (fun r => ∃ (v13 : Int32) (m14 : MI), r = (.inl (some (vi v13)), G x m14) ∧ Cl X (d + 15) 41 [vp 0 0] (G x m14) (fun r => ∃ (v15 : Int32) (m16 : MI), r = (.inl (some (vi v15)), G x m16) ∧ ((¬ v13 = v15 → Q (.inl (some (vi 0)), G x m16)) ∧ (¬ (¬ v13 = v15) → Q (.inl (some (vi 1)), G x m16))))))))))))))))) := by
    refine lup (fun k hk ih m9 o2 F9 => ?_)
    have h9 := F9.cor h ok
    refine vl_X10_nearestAgree_17 ?_
    rw [h9.1.2.1.1, nI_clamp (n := k) (by omega)]
    refine pk_le (aR (oA o)).length k (fun c => ⟨_, _, rfl, fun c => absurd c (by decide), fun _ => part1 m9 F9⟩) (fun c => ⟨inb_n k 6 (by omega), sp_tree7 h9.1 ok.1 (ok.1.rpR h9.1 c) (fun m3 K3 => ⟨_, _, rfl, ?_⟩)⟩)
    have F3 := F9.tr K3.fq
    refine sp_nearR (F3.cor h ok).1 ok.1 c ⟨_, _, rfl, fun _ t7 e7 => ?_, fun c => absurd rfl c⟩
    rw [e7, nI_1]
    exact ih c m3 _ F3
  exact key 0 (by omega) m none FQ.rf
theorem mw_consistent (h : MoR m o) (hQ : mn m o 1 Q x) : Cl X (d + 1) 249 [vp 31 0] (G x m) Q :=
  vc_X11_isConsistent (mplain h (fun m9 h9 _ F9 => ⟨_, _, rfl, fun c => absurd rfl c, fun _ => hQ m9 h9 F9⟩))
end CONS
