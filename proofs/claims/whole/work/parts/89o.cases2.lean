/-! ===== THE LAW'S CASES: THE OTHERS ===== -/
theorem fm_eq0 : ∀ c, c < 10 → ∀ s, s < 11 → Op.cmpValue (FP.dcmp (FP.f2d (FP.fdiv (FP.i2f (nI s)) (FP.i2f (nI (c + 1))))) (FP.f2d (FP.fdiv (FP.i2f (nI s)) (FP.i2f (nI (c + 1)))))) .l = 0 := by decide +kernel
theorem share_eq {a : AS} {B : Nat} (ok : okA B a) (h : why0 a = 0) : Op.cmpValue (FP.dcmp (FP.f2d (shareF a)) (FP.f2d (shareF a))) .l = 0 ∧ decide (FP.f2d (shareF a) &&& 0x7fffffffffffffff ≤ 0x7ff0000000000000) = true := by
  unfold why0 at h
  split at h
  · next c =>
    have hl := ok.len.1
    have hg := greyN_le (aC a)
    refine ⟨?_, (fm_ok (by omega) c hl).2⟩
    have e := fm_eq0 ((aC a).length - 1) (by omega) (greyN (aC a)) (by omega)
    rw [show (aC a).length - 1 + 1 = (aC a).length by omega] at e
    exact e
  · omega
section CASES2
variable {X : MX} {d : Nat} {x : Int64 × UInt64} {m : MI} {Q : MRes → Prop} {l5 : Int32} {u : Nat × Nat} {i : Nat} {o6 o7 o8 : Option MV}
theorem lcs_1565 (h : LI i m u) (hi : i ≤ 600) (b : LB X l5)
    (W : ∀ (w6 w7 w8 : Option MV) (m9 : MI) (x9 : Int64 × UInt64) (u9 : Nat × Nat), LI (i + 1) m9 u9 → Wp X (d + 17) 322 (2999, ([some (vs 0 0), some (vp 0 0), some (vp 31 0), some (vp 43 0), some (vp 44 0), some (vi l5), w6, w7, w8], ([], Gu u9 x9 m9))) Q) : Wp X (d + 17) 322 (1565, ([some (vs 0 0), some (vp 0 0), some (vp 31 0), some (vp 43 0), some (vp 44 0), some (vi l5), o6, o7, o8], ([], Gu u x m))) Q := by
  obtain ⟨o, h1, h2, ok, hz, hu⟩ := h
  refine vl_law_1565 ⟨b.1, b.2.1, ?_⟩
  show Cl X (d + 16) 299 _ (G x m) _
  refine (CWp_q (d := d + 16) ok (fun m x Q hC hz hQ => cw_fits hC ok hQ)) m x _ h1 hz (fun m2 x4 u3 C2 F2 b1 b2 e4 => ⟨_, _, _, _, rfl, b.1, b.2.1, ?_⟩)
  show Cl X (d + 16) 215 _ (G x4 m2) _
  refine mw_fits2 (F2.mr h2) ok (fun m6 v5 hv t6 e5 M6 F6 => ⟨_, _, rfl, ?_⟩)
  show Cl X (d + 16) 146 [vp 31 0] (G x4 m6) _
  refine vc_X11_thrown ⟨_, _, rfl, ?_⟩
  have L := LI_mk (ok.mono (show 2000 * i ≤ 2000 * (i + 1) by omega)) hz hu C2 F2 b1 b2 M6 F6
  refine ⟨fun _ => ⟨fun _ => W _ _ _ _ _ _ L, fun e => ?_⟩, fun c => absurd t6 c⟩
  have hw : whyB (oA o) (X.2 (l5 + 1).toNatClampNeg) (X.2 (l5 + 2).toNatClampNeg) ≤ 1 := by unfold whyB; split <;> omega
  have hk0 := (nI_eq (b := 0) (by omega) (by omega)).mp (Decidable.not_not.mp e)
  have e6 := e4 hk0
  rw [← e5 hk0] at e6
  refine ⟨fun z => ⟨fun _ => W _ _ _ _ _ _ L, fun c => absurd ?_ c⟩, fun z => ⟨fun _ => W _ _ _ _ _ _ L, fun c => absurd ?_ c⟩⟩
  · rw [e6, z]; exact lg_self _
  · rw [e6, hv.resolve_left z]; exact lg_self _
theorem lcs_2352 (h : LI i m u) (hi : i ≤ 600) (b : LB X l5)
    (W : ∀ (w6 w7 w8 : Option MV) (m9 : MI) (x9 : Int64 × UInt64) (u9 : Nat × Nat), LI (i + 1) m9 u9 → Wp X (d + 17) 322 (2999, ([some (vs 0 0), some (vp 0 0), some (vp 31 0), some (vp 43 0), some (vp 44 0), some (vi l5), w6, w7, w8], ([], Gu u9 x9 m9))) Q) : Wp X (d + 17) 322 (2352, ([some (vs 0 0), some (vp 0 0), some (vp 31 0), some (vp 43 0), some (vp 44 0), some (vi l5), o6, o7, o8], ([], Gu u x m))) Q := by
  obtain ⟨o, h1, h2, ok, hz, hu⟩ := h
  have hw : why0 (oA o) ≤ 1 := by unfold why0; split <;> omega
  have ok9 := ok.mono (show 2000 * i ≤ 2000 * (i + 1) by omega)
  have st : ∀ (m2 m6 : MI) (x4 : Int64 × UInt64) (u3 : Nat × Nat) (w6 w7 w8 : Option MV), CoR m2 o → FC m m2 → u3.1 ≤ 2 → u3.2 ≤ 12 → MoR m6 o → FM m2 m6 → Wp X (d + 17) 322 (2999, ([some (vs 0 0), some (vp 0 0), some (vp 31 0), some (vp 43 0), some (vp 44 0), some (vi l5), w6, w7, w8], ([], Gu (u.1 + u3.1, u.2 + u3.2) x4 m6))) Q := fun m2 m6 x4 u3 w6 w7 w8 C2 F2 b1 b2 M6 F6 => W _ _ _ _ _ _ (LI_mk ok9 hz hu C2 F2 b1 b2 M6 F6)
  refine vl_law_2352 ?_
  show Cl X (d + 16) 310 _ (G x m) _
  refine cw_mean h1 ok (fun k0 => ⟨_, _, _, _, rfl, ?_⟩) (fun k1 => ⟨_, _, _, _, rfl, ?_⟩)
  · show Cl X (d + 16) 247 _ (G (x.1, meanD (oA o)) m) _
    refine mw_mean h2 ok (fun m6 v5 t6 e5 M6 F6 => ⟨_, _, rfl, ?_⟩)
    show Cl X (d + 16) 146 [vp 31 0] (G (x.1, meanD (oA o)) m6) _
    refine vc_X11_thrown ⟨_, _, rfl, ?_⟩
    rw [k0] at t6 e5
    refine ⟨fun _ => ⟨fun c => absurd rfl c, fun _ => ?_⟩, fun c => absurd t6 c⟩
    obtain rfl := e5 rfl
    have w := fun w6 w7 w8 => st m m6 (x.1, meanD (oA o)) (0, 0) w6 w7 w8 h1 FC.rf (Nat.zero_le _) (Nat.zero_le _) M6 F6
    exact ⟨fun _ => w _ _ _, fun c => ⟨fun z => absurd z c, fun _ => ⟨fun _ => w _ _ _, fun z => absurd c z⟩⟩⟩
  · show Cl X (d + 16) 247 _ (G x m) _
    refine mw_mean h2 ok (fun m6 v5 t6 e5 M6 F6 => ⟨_, _, rfl, ?_⟩)
    show Cl X (d + 16) 146 [vp 31 0] (G x m6) _
    refine vc_X11_thrown ⟨_, _, rfl, ?_⟩
    rw [k1] at t6
    exact ⟨fun _ => ⟨fun _ => st m m6 x (1, 6) _ _ _ h1 FC.rf (by decide) (by decide) M6 F6, fun c => absurd (by decide) c⟩, fun c => absurd t6 c⟩
theorem lcs_2417 (h : LI i m u) (hi : i ≤ 600) (b : LB X l5)
    (W : ∀ (w6 w7 w8 : Option MV) (m9 : MI) (x9 : Int64 × UInt64) (u9 : Nat × Nat), LI (i + 1) m9 u9 → Wp X (d + 17) 322 (2999, ([some (vs 0 0), some (vp 0 0), some (vp 31 0), some (vp 43 0), some (vp 44 0), some (vi l5), w6, w7, w8], ([], Gu u9 x9 m9))) Q) : Wp X (d + 17) 322 (2417, ([some (vs 0 0), some (vp 0 0), some (vp 31 0), some (vp 43 0), some (vp 44 0), some (vi l5), o6, o7, o8], ([], Gu u x m))) Q := by
  obtain ⟨o, h1, h2, ok, hz, hu⟩ := h
  have hw : why0 (oA o) ≤ 1 := by unfold why0; split <;> omega
  have ok9 := ok.mono (show 2000 * i ≤ 2000 * (i + 1) by omega)
  have st : ∀ (m2 m6 : MI) (x4 : Int64 × UInt64) (u3 : Nat × Nat) (w6 w7 w8 : Option MV), CoR m2 o → FC m m2 → u3.1 ≤ 2 → u3.2 ≤ 12 → MoR m6 o → FM m2 m6 → Wp X (d + 17) 322 (2999, ([some (vs 0 0), some (vp 0 0), some (vp 31 0), some (vp 43 0), some (vp 44 0), some (vi l5), w6, w7, w8], ([], Gu (u.1 + u3.1, u.2 + u3.2) x4 m6))) Q := fun m2 m6 x4 u3 w6 w7 w8 C2 F2 b1 b2 M6 F6 => W _ _ _ _ _ _ (LI_mk ok9 hz hu C2 F2 b1 b2 M6 F6)
  refine vl_law_2417 ?_
  show Cl X (d + 16) 311 _ (G x m) _
  refine cw_share h1 ok (fun k0 => ⟨_, _, _, _, rfl, ?_⟩) (fun k1 => ⟨_, _, _, _, rfl, ?_⟩)
  · show Cl X (d + 16) 248 _ (G (x.1, FP.f2d (shareF (oA o))) m) _
    refine mw_share h2 ok (fun m6 v5 t6 e5 M6 F6 => ⟨_, _, rfl, ?_⟩)
    show Cl X (d + 16) 146 [vp 31 0] (G (x.1, FP.f2d (shareF (oA o))) m6) _
    refine vc_X11_thrown ⟨_, _, rfl, ?_⟩
    rw [k0] at t6 e5
    refine ⟨fun _ => ⟨fun c => absurd rfl c, fun _ => ?_⟩, fun c => absurd t6 c⟩
    obtain rfl := e5 rfl
    have w := fun w6 w7 w8 => st m m6 (x.1, FP.f2d (shareF (oA o))) (0, 0) w6 w7 w8 h1 FC.rf (Nat.zero_le _) (Nat.zero_le _) M6 F6
    have e := share_eq ok.1 k0
    exact ⟨e.2, fun _ => w _ _ _, fun c => absurd e.1 c⟩
  · show Cl X (d + 16) 248 _ (G x m) _
    refine mw_share h2 ok (fun m6 v5 t6 e5 M6 F6 => ⟨_, _, rfl, ?_⟩)
    show Cl X (d + 16) 146 [vp 31 0] (G x m6) _
    refine vc_X11_thrown ⟨_, _, rfl, ?_⟩
    rw [k1] at t6
    exact ⟨fun _ => ⟨fun _ => st m m6 x (1, 6) _ _ _ h1 FC.rf (by decide) (by decide) M6 F6, fun c => absurd (by decide) c⟩, fun c => absurd t6 c⟩
theorem lcs_2898 (h : LI i m u) (hi : i ≤ 600) (b : LB X l5)
    (W : ∀ (w6 w7 w8 : Option MV) (m9 : MI) (x9 : Int64 × UInt64) (u9 : Nat × Nat), LI (i + 1) m9 u9 → Wp X (d + 17) 322 (2999, ([some (vs 0 0), some (vp 0 0), some (vp 31 0), some (vp 43 0), some (vp 44 0), some (vi l5), w6, w7, w8], ([], Gu u9 x9 m9))) Q) : Wp X (d + 17) 322 (2898, ([some (vs 0 0), some (vp 0 0), some (vp 31 0), some (vp 43 0), some (vp 44 0), some (vi l5), o6, o7, o8], ([], Gu u x m))) Q := by
  obtain ⟨o, h1, h2, ok, hz, hu⟩ := h
  rcases e : oH o with _ | ⟨b9, H9⟩
  · have hC : CWp X (d + 16) 320 [vp 0 0, vp 43 0] o 1 (0 : Int32).toInt64 o := fun m x Q hC hz hQ => cw_undo hC ok (fun b H e9 => by rw [e] at e9; cases e9) (fun _ => hQ m x (1, 6) hC FC.rf (by decide) (by decide) (fun z => absurd z (by decide)))
    have hM : MWp X (d + 16) 276 [vp 31 0] o 1 0 o := fun m x Q hM hQ => mw_undo hM ok (fun b H e9 => by rw [e] at e9; cases e9) (fun _ m9 v h5 M9 F9 => hQ m9 v M9 F9 h5 (fun z => absurd z (by decide)))
    exact vl_law_2898 (gA (fun P => P) (fun P hp => hp) hC hM (by decide) (ok.mono (by omega)) h1 h2 hz hu W)
  · have hC : CWp X (d + 16) 320 [vp 0 0, vp 43 0] o 0 (nI H9.length).toInt64 (osUndo o b9 H9) := fun m x Q hC hz hQ => cw_undo hC ok (fun b H e9 m9 C9 F9 => by rw [e] at e9; cases e9; exact hQ m9 _ (0, 0) C9 F9 (Nat.zero_le _) (Nat.zero_le _) (fun _ => rfl)) (fun e9 => by rw [e] at e9; cases e9)
    have hM : MWp X (d + 16) 276 [vp 31 0] o 0 (nI H9.length) (osUndo o b9 H9) := fun m x Q hM hQ => mw_undo hM ok (fun b H e9 m9 h5 M9 F9 => by rw [e] at e9; cases e9; exact hQ m9 _ M9 F9 h5 (fun _ => rfl)) (fun e9 => by rw [e] at e9; cases e9)
    have k := ok.mono (show 2000 * i ≤ 2000 * (i + 1) by omega)
    have k9 : okO (2000 * (i + 1)) (osUndo o b9 H9) := ⟨k.2.1 b9 (by rw [e]; exact List.mem_cons_self), fun b hb => k.2.1 b (by rw [e]; exact List.mem_cons_of_mem b9 hb), k.2.2⟩
    exact vl_law_2898 (gA (fun P => P) (fun P hp => hp) hC hM (by decide) k9 h1 h2 hz hu W)
theorem lcs_2955 (h : LI i m u) (hi : i ≤ 600) (b : LB X l5)
    (W : ∀ (w6 w7 w8 : Option MV) (m9 : MI) (x9 : Int64 × UInt64) (u9 : Nat × Nat), LI (i + 1) m9 u9 → Wp X (d + 17) 322 (2999, ([some (vs 0 0), some (vp 0 0), some (vp 31 0), some (vp 43 0), some (vp 44 0), some (vi l5), w6, w7, w8], ([], Gu u9 x9 m9))) Q) : Wp X (d + 17) 322 (2955, ([some (vs 0 0), some (vp 0 0), some (vp 31 0), some (vp 43 0), some (vp 44 0), some (vi l5), o6, o7, o8], ([], Gu u x m))) Q := by
  obtain ⟨o, h1, h2, ok, hz, hu⟩ := h
  rcases e : oS o with _ | b9
  · have hC : CWp X (d + 16) 321 [vp 0 0, vp 43 0] o 1 (0 : Int32).toInt64 o := fun m x Q hC hz hQ => cw_restore hC ok (fun b e9 => by rw [e] at e9; cases e9) (fun _ => hQ m x (1, 6) hC FC.rf (by decide) (by decide) (fun z => absurd z (by decide)))
    have hM : MWp X (d + 16) 278 [vp 31 0] o 1 0 o := fun m x Q hM hQ => mw_restore hM ok (fun b e9 => by rw [e] at e9; cases e9) (fun _ m9 v h5 M9 F9 => hQ m9 v M9 F9 h5 (fun z => absurd z (by decide)))
    exact vl_law_2955 (gA (fun P => P) (fun P hp => hp) hC hM (by decide) (ok.mono (by omega)) h1 h2 hz hu W)
  · have hC : CWp X (d + 16) 321 [vp 0 0, vp 43 0] o 0 (nI (aC b9).length).toInt64 (osRest o b9) := fun m x Q hC hz hQ => cw_restore hC ok (fun b e9 m9 C9 F9 => by rw [e] at e9; cases e9; exact hQ m9 _ (0, 0) C9 F9 (Nat.zero_le _) (Nat.zero_le _) (fun _ => rfl)) (fun e9 => by rw [e] at e9; cases e9)
    have hM : MWp X (d + 16) 278 [vp 31 0] o 0 (nI (aC b9).length) (osRest o b9) := fun m x Q hM hQ => mw_restore hM ok (fun b e9 m9 h5 M9 F9 => by rw [e] at e9; cases e9; exact hQ m9 _ M9 F9 h5 (fun _ => rfl)) (fun e9 => by rw [e] at e9; cases e9)
    have k := ok.mono (show 2000 * i ≤ 2000 * (i + 1) by omega)
    have k9 : okO (2000 * (i + 1)) (osRest o b9) := ⟨k.2.2.1 b9 e, fun b hb => absurd hb List.not_mem_nil, k.2.2⟩
    exact vl_law_2955 (gA (fun P => P) (fun P hp => hp) hC hM (by decide) k9 h1 h2 hz hu W)
theorem psF_len {l : List Nat} : ∀ (j p : Nat) (cs : List Cmd), (psF l j p cs).2.length ≤ cs.length + j
  | 0, _, cs => Nat.le_refl _
  | j + 1, p, cs => by
    have e : psF l (j + 1) p cs = if fk l p < 10 then (if (fR l p (fk l p)).2.1 < l.length then psF l j ((fR l p (fk l p)).2.1 + 1) (cs ++ [(fk l p, (fR l p (fk l p)).2.2)]) else (none, cs ++ [(fk l p, (fR l p (fk l p)).2.2)])) else (some (fu l p 10), cs) := rfl
    rw [e]
    generalize fk l p = z at *
    by_cases c : z < 10
    · rw [if_pos c]
      by_cases c2 : (fR l p z).2.1 < l.length
      · rw [if_pos c2]
        have := psF_len (l := l) j ((fR l p z).2.1 + 1) (cs ++ [(z, (fR l p z).2.2)])
        rw [cs_len] at this
        omega
      · rw [if_neg c2]
        show (cs ++ _).length ≤ _
        rw [cs_len]; omega
    · rw [if_neg c]
      show cs.length ≤ _
      omega
theorem gR {o o9 : OS} {k : Nat} {ans : Int32} (hC : CWp X (d + 16) 316 [vp 0 0, vp 43 0] o k ans.toInt64 o9) (hM : MWp X (d + 16) 271 [vp 31 0] o k ans o9) (hk : k ≤ 9) (ok9 : okO (2000 * (i + 1)) o9) (h1 : CoR m o) (h2 : MoR m o) (hz : ∀ s, m 18 0 s = 0) (hu : u.1 ≤ 600000 + 2 * i ∧ u.2 ≤ 7150000 + 12 * i)
    (W : ∀ (w6 w7 w8 : Option MV) (m9 : MI) (x9 : Int64 × UInt64) (u9 : Nat × Nat), LI (i + 1) m9 u9 → Wp X (d + 17) 322 (2999, ([some (vs 0 0), some (vp 0 0), some (vp 31 0), some (vp 43 0), some (vp 44 0), some (vi l5), w6, w7, w8], ([], Gu u9 x9 m9))) Q) : Wp X (d + 17) 322 (2722, ([some (vs 0 0), some (vp 0 0), some (vp 31 0), some (vp 43 0), some (vp 44 0), some (vi l5), o6, o7, o8], ([], Gu u x m))) Q := by
  refine vl_law_2722 ?_
  show Cl X (d + 16) 316 _ (G x m) _
  refine hC m x _ h1 hz (fun m2 x4 u3 C2 F2 b1 b2 e4 => ⟨_, _, _, _, rfl, ?_⟩)
  show Cl X (d + 16) 271 _ (G x4 m2) _
  refine hM m2 x4 _ (F2.mr h2) (fun m6 v5 M6 F6 t6 e5 => ⟨_, _, (0, 0), rfl, ?_⟩)
  show Cl X (d + 16) 146 [vp 31 0] (G x4 m6) _
  refine vc_X11_thrown ⟨_, _, rfl, ?_⟩
  have L := LI_mk ok9 hz hu C2 F2 b1 b2 M6 F6
  refine ⟨fun _ => ⟨fun _ => W _ _ _ _ _ _ L, fun e => ⟨fun _ => W _ _ _ _ _ _ L, fun c => absurd ?_ c⟩⟩, fun c => absurd t6 c⟩
  have hk0 : k = 0 := (nI_eq (a := k) (b := 0) (by omega) (by omega)).mp (Decidable.not_not.mp e)
  rw [e4 hk0, e5 hk0]
  exact lg_self _
theorem lcs_2722 (h : LI i m u) (hi : i ≤ 600) (b : LB X l5)
    (W : ∀ (w6 w7 w8 : Option MV) (m9 : MI) (x9 : Int64 × UInt64) (u9 : Nat × Nat), LI (i + 1) m9 u9 → Wp X (d + 17) 322 (2999, ([some (vs 0 0), some (vp 0 0), some (vp 31 0), some (vp 43 0), some (vp 44 0), some (vi l5), w6, w7, w8], ([], Gu u9 x9 m9))) Q) : Wp X (d + 17) 322 (2722, ([some (vs 0 0), some (vp 0 0), some (vp 31 0), some (vp 43 0), some (vp 44 0), some (vi l5), o6, o7, o8], ([], Gu u x m))) Q := by
  obtain ⟨o, h1, h2, ok, hz, hu⟩ := h
  obtain ⟨R, hR⟩ : ∃ R, psF (oB o) 16 0 [] = R := ⟨_, rfl⟩
  have hlen : R.2.length ≤ 16 := by
    have := psF_len (l := oB o) 16 0 []
    rw [hR] at this
    exact this
  have hok : ∀ c ∈ R.2, cOk c := by rw [← hR]; exact psF_ok 16 0 [] (fun c hc => absurd hc List.not_mem_nil)
  have hB : 2000 * i < 2 ^ 28 := by omega
  have le : 2000 * i ≤ 2000 * (i + 1) := by omega
  rcases e : R.1 with _ | q
  · rcases er : (runS R.2 0 (oA o)).1 with _ | ⟨i9, v⟩
    · have hC : CWp X (d + 16) 316 [vp 0 0, vp 43 0] o 0 (nI R.2.length).toInt64 (osScr o (runS R.2 0 (oA o)).2 (hpush (oA o) (oH o)) (oW o) (oF o) (oK o)) := fun m x Q hC hz hQ => vc_L_runScript (cw_run hR hC ok hB hz (fun q9 e9 => by rw [e] at e9; cases e9) (fun _ j9 v9 e9 => by rw [er] at e9; cases e9) (fun _ _ m9 C9 F9 => Or.inl ⟨_, _, (0, 0), rfl, hQ m9 _ (0, 0) C9 F9 (Nat.zero_le _) (Nat.zero_le _) (fun _ => rfl)⟩))
      have hM : MWp X (d + 16) 271 [vp 31 0] o 0 (nI R.2.length) (osScr o (runS R.2 0 (oA o)).2 (hpush (oA o) (oH o)) (oW o) (oF o) (oK o)) := fun m x Q hM hQ => mw_run hR hM ok hB (fun q9 e9 => by rw [e] at e9; cases e9) (fun _ j9 v9 e9 => by rw [er] at e9; cases e9) (fun _ _ m9 h5 M9 F9 => hQ m9 _ M9 F9 h5 (fun _ => rfl))
      refine gR hC hM (by decide) (okO_scr ok le ((run_ok R.2 0 (oA o) hok ok.1).mono (by omega)) (fun b hb => ?_) ok.2.2.2.2.2) h1 h2 hz hu W
      rcases hp_mem hb with z | z
      · rw [z]; exact ok.1.mono le
      · exact (ok.2.1 b z).mono le
    · have hf := run_f R.2 0 (oA o) hok er
      have hC : CWp X (d + 16) 316 [vp 0 0, vp 43 0] o 2 (0 : Int32).toInt64 (osScr o (oA o) (oH o) (oW o) (nI i9) (nI v)) := fun m x Q hC hz hQ => vc_L_runScript (cw_run hR hC ok hB hz (fun q9 e9 => by rw [e] at e9; cases e9) (fun _ j9 v9 e9 m9 C9 F9 => by
        rw [er] at e9; cases e9
        exact Or.inr ⟨_, _, _, rfl, fun c => absurd c (by decide), fun _ => hQ m9 x (2, 12) C9 F9 (by decide) (by decide) (fun z => absurd z (by decide)), fun c => absurd rfl c.2⟩) (fun _ e9 => by rw [er] at e9; cases e9))
      have hM : MWp X (d + 16) 271 [vp 31 0] o 2 0 (osScr o (oA o) (oH o) (oW o) (nI i9) (nI v)) := fun m x Q hM hQ => mw_run hR hM ok hB (fun q9 e9 => by rw [e] at e9; cases e9) (fun _ j9 v9 e9 m9 v8 h5 M9 F9 => by
        rw [er] at e9; cases e9
        exact hQ m9 _ M9 F9 h5 (fun z => absurd z (by decide))) (fun _ e9 => by rw [er] at e9; cases e9)
      exact gR hC hM (by decide) (okO_scr ok le (ok.1.mono le) (fun b hb => (ok.2.1 b hb).mono le) (Or.inr ⟨nI_pos' (by omega), v, by omega, by omega, rfl⟩)) h1 h2 hz hu W
  · have hC : CWp X (d + 16) 316 [vp 0 0, vp 43 0] o 1 (0 : Int32).toInt64 (osScr o (oA o) (oH o) (nI q) (oF o) (oK o)) := fun m x Q hC hz hQ => vc_L_runScript (cw_run hR hC ok hB hz (fun q9 e9 _ m9 C9 F9 => by
      rw [e] at e9; cases e9
      exact Or.inr ⟨_, _, _, rfl, fun _ => hQ m9 x (1, 6) C9 F9 (by decide) (by decide) (fun z => absurd z (by decide)), fun c => absurd c (by decide), fun c => absurd rfl c.1⟩) (fun e9 => by rw [e] at e9; cases e9) (fun e9 => by rw [e] at e9; cases e9))
    have hM : MWp X (d + 16) 271 [vp 31 0] o 1 0 (osScr o (oA o) (oH o) (nI q) (oF o) (oK o)) := fun m x Q hM hQ => mw_run hR hM ok hB (fun q9 e9 _ m9 v8 h5 M9 F9 => by
      rw [e] at e9; cases e9
      exact hQ m9 _ M9 F9 h5 (fun z => absurd z (by decide))) (fun e9 => by rw [e] at e9; cases e9) (fun e9 => by rw [e] at e9; cases e9)
    exact gR hC hM (by decide) (okO_scr ok le (ok.1.mono le) (fun b hb => (ok.2.1 b hb).mono le) ok.2.2.2.2.2) h1 h2 hz hu W
end CASES2
