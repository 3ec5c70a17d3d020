/-! ===== SOUNDNESS: a call's run ===== -/
theorem mcl_nm : ((List.range 10).all (fun c => match mcl[c]? with
  | some r => decide (r.1 = mcn c)
  | none => false)) = true := by decide +kernel
theorem mcl_at {ci : Nat} {r : vw_C} (h : mcl[ci]? = some r) : r.1 = mcn ci := by
  have hc : ci < 10 := (List.getElem?_eq_some_iff.mp h).1
  have h1 := List.all_eq_true.mp mcl_nm ci (List.mem_range.mpr hc)
  rw [h] at h1
  exact of_decide_eq_true h1
theorem ord_cls : ((List.range 332).all (fun i => !(Nat.beq (mcls i) 15) || Nat.beq i ordI)) = true := by decide +kernel
section SNDC
variable {p : Program} {l : Launch} {e : Env} {R : Room} {s : State} {m : MethodId} {args : Array Value} {below : List Frame} {meth : Method} {c : Code} {H : Heap} {locs : List Loc} {Q : State → Prop}
variable {ls : Array Slot} {ad : Nat → Nat} {sv : Nat → Nat → Value} {xt : Nat → String} {K : MK} {A : Nat → Prop} {X : MX}
/-- the start of a callee, for every state that has this heap -/
theorem st_next {d mi : Nat} (C : Cx X sv xt K A p l R s m args meth c d mi) {g : MG} (hW : Wd K ad A g H) (hS : va_S A s.heap H locs) {U : State} (hU : U.heap = H) (hw : s.WarmedH U.vm) : St X sv xt K A ad g U := by
  obtain ⟨hx, hb, hml, hts, hown, hnm, hK, hSt, hA, -⟩ := C
  refine ⟨va_K.moved hw.alike hK, ?_, ?_, ?_⟩
  · rw [hU]; exact Sta.moved hw (hSt.kept hS.1 hS.2.1)
  · rw [hU]; exact fun q hq => hA q (Nat.le_trans hS.1 hq)
  · rw [hU]; exact hW
/-- the receiver -/
theorem rcv_ok {d mi : Nat} (C : Cx X sv xt K A p l R s m args meth c d mi) {g : MG} {o1 : Nat} (h1 : o1 ∈ nmeth) {v : MV} (hr : rcv o1 v = true) (hv : ValV g v) (hW : Wd K ad A g H) (hS : va_S A s.heap H locs) :
    ∃ b, tv ad sv v = .ref b ∧ (o1 ≠ ordI → ∃ cellB : Cell, H[b]? = some cellB ∧ cellB.vm.isStatics = false ∧ s.vm.findClass (mY o1).cls = some cellB.cls) ∧ (o1 = ordI → ∃ n, n < 10 ∧ sv 2 n = .ref b ∧ v = vs 2 n) := by
  obtain ⟨hx, hb, hml, hts, hown, hnm, hK, hSt, hA, -⟩ := C
  obtain ⟨m1, -, m3, m4, m5, m6, -⟩ := meth_at h1
  rcases v with x | q | q | x
  · cases hr
  · unfold rcv at hr
    dsimp only at hr
    rw [Bool.and_eq_true] at hr
    have e0 := nat_beq hr.1
    have e1 := nat_beq hr.2
    obtain ⟨j, j1, j2, j3⟩ := id hv
    have hc := (pj_sz j2).2 (by rw [j3]; exact e0)
    rw [j3, e1] at hc
    obtain ⟨r, hc1, -⟩ := hc
    have hat := mws_at (K := K) (ad := ad) hv
    rw [ent_0 e0, e1] at hat
    refine ⟨adr ad q, rfl, fun _ => ?_, fun z => ?_⟩
    · have h9 := va_recv hK hW.2.1 hc1 hat
      rw [mcl_at hc1, ← m6] at h9
      exact h9
    · have hc10 : mcls o1 < 10 := (List.getElem?_eq_some_iff.mp hc1).1
      rw [z] at hc10
      exact absurd hc10 (by decide +kernel)
  · obtain ⟨k, n⟩ := q
    have hn : n < 10 := hv
    unfold rcv at hr
    dsimp only at hr
    rcases Bool.or_eq_true _ _ ▸ hr with h | h
    · rw [Bool.and_eq_true] at h
      obtain rfl := nat_beq h.1
      have h15 := nat_beq h.2
      obtain ⟨t, t1, t2, -⟩ := hSt.2.2.2.2.2.1 n hn
      have ho : o1 = ordI := by
        have h9 := List.all_eq_true.mp ord_cls o1 (List.mem_range.mpr (nmeth_in h1))
        rw [h15, show Nat.beq 15 15 = true from rfl, Bool.not_true, Bool.false_or] at h9
        exact nat_beq h9
      exact ⟨t, t1, fun z => absurd ho z, fun _ => ⟨n, hn, t1, rfl⟩⟩
    · rw [Bool.and_eq_true] at h
      obtain rfl := nat_beq h.1
      have h12 := nat_beq h.2
      obtain ⟨t, t1, t2, -⟩ := hSt.2.2.2.2.2.2.1 n hn
      refine ⟨t, t1, fun _ => ?_, fun z => ?_⟩
      · have h9 := va_Orecv t2 hS
        rw [m6, h12]
        exact h9
      · rw [z] at h12
        exact absurd h12 (by decide +kernel)
  · cases hr
theorem ref_of_rcv {o1 : Nat} {v : MV} : True := trivial
set_option maxHeartbeats 4000000 in
theorem call_run {n d mi : Nat} (IH : SndN X n) (C : Cx X sv xt K A p l R s m args meth c (d + 1) mi) {S S' : MS} {mi' : Nat} {as : List MV} {q : MRes} (hs : step X mi S = some (.inr (.inr (.inl (mi', (as, S')))))) (he : exec X n d mi' (entry mi' as S'.2.2.2) = some q) (hok : entOk as mi' = true)
    (hW : Wd K ad A S.2.2.2 H) (hV : VS S.2.2.2 S.2.1 S.2.2.1) (hS : va_S A s.heap H locs) (hsz : ls.size = mnl mi) (hf1 : S.2.2.2.1.2.1.1 + q.2.1.2.1.1 ≤ R.cells) (hf2 : S.2.2.2.1.2.1.2 + q.2.1.2.1.2 ≤ R.slots) :
    S'.1 = S.1 + 3 ∧ S'.2.1 = S.2.1 ∧ S'.2.2.2 = S.2.2.2 ∧ (∀ v ∈ S'.2.2.1, ValV S.2.2.2 v) ∧
    vx_Run p l e R s m args below meth c H locs S.2.2.2.1.2.1.1 S.2.2.2.1.2.1.2 q.2.1.2.1.1 q.2.1.2.1.2 (F0 m S.1 ls (S.2.2.1.map (tv ad sv))) (S'.2.2.1.map (tv ad sv)) (QC sv K A q ad S.2.2.2.1.1 (as.map (tv ad sv)).toArray) (XC K A q ad S.2.2.2.1.1) A := by
  have C2 := C
  obtain ⟨hx, hb, hml, hts, hown, hnm, hK, hSt, hA, htab, hfr, hlo, htr, hlk, hrt⟩ := C2
  obtain ⟨i, o1, o2, o3, o4, ht, hi, hin⟩ := step_call hs
  obtain ⟨hd, hlen, -, -, hcC, -⟩ := chk_at ht
  obtain ⟨pc, L, st, g⟩ := S
  dsimp only at hin hd hW hV hf1 hf2 ⊢
  have fix : CallFix p m c (mbytes mi) (mnl mi) s args lw_g (mcn (mcls mi)) := ⟨hx, hb, hml, hown, hts⟩
  have blind : ∀ g9, FrameBlind (va_Pc (as.map (tv ad sv)) (St X sv xt K A ad g9)) := fun g9 a U gf mk h => ⟨h.1, h.2.blind⟩
  have hR : ∀ {mm : Nat}, mm < 332 → (rmR d q.2.1.2.1.1 q.2.1.2.1.2).frames + 1 ≤ R.frames ∧ 8 + (mnl mm + 11) + (rmR d q.2.1.2.1.1 q.2.1.2.1.2).locals ≤ R.locals := by
    intro mm hm
    have := mnl_at hm
    show 24 + d + 1 ≤ R.frames ∧ 8 + (mnl mm + 11) + (200 + 100 * d) ≤ R.locals
    omega
  have pay : ∀ {mm : Nat}, mm ∈ nmeth → ∀ w ∈ wsM mm, w ∈ lw_g := by
    intro mm hm w hw
    rcases List.mem_cons.mp hw with rfl | hw
    · exact (meth_at hm).1
    · exact hw
  rcases inv_call hin with ⟨rfl, hmode, r, rfl, hlen2, hcat, rfl⟩ | ⟨rfl, hmode, v, as', r, rfl, rfl, hlen2, hrcv, hcat, rfl⟩
  · -- static
    have hVr : ∀ v ∈ r, ValV g v := fun v hv => hV.1 v (List.mem_append_right _ hv)
    have hVa : ∀ v ∈ as, ValV g v := fun v hv => hV.1 v (List.mem_append_left _ (List.mem_reverse.mpr hv))
    refine ⟨rfl, rfl, rfl, hVr, ?_⟩
    have hroom : 2 * (F0 m pc ls ((as.reverse ++ r).map (tv ad sv))).monitorRoom + ((r.map (tv ad sv)).map fun v => v.category).sum ≤ 8 := lv_room (by rw [cat_map hSt.1]; exact hcat)
    have hstack : (F0 m pc ls ((as.reverse ++ r).map (tv ad sv))).stack = (as.map (tv ad sv)).reverse ++ r.map (tv ad sv) := by
      show (as.reverse ++ r).map (tv ad sv) = _
      rw [List.map_append, List.map_reverse]
    have hp : PreS s H (va_Pc (as.map (tv ad sv)) (St X sv xt K A ad g)) (as.map (tv ad sv)) := ⟨blind g, fun U hU hw => ⟨rfl, st_next C hW hS hU hw⟩⟩
    unfold chkC at hcC
    cases i <;> first | (cases hi; done) | skip
    · -- invokespecial: no
      simp only [Bool.and_eq_true, Bool.or_eq_true] at hcC
      rcases hmode with rfl | rfl <;> rcases hcC with h | h <;> exact absurd (nat_beq h.1) (by decide)
    · next ix =>
      simp only [Bool.and_eq_true, Bool.or_eq_true, decide_eq_true_eq, Bool.not_eq_true'] at hcC
      rcases hcC with ⟨h3, h4, h5, h6, h7⟩ | ⟨h3, h4, h5, h6, h7, h8⟩ | ⟨h3, -⟩
      · obtain ⟨m1, m2, m3, m4, m5, m6, m7, -⟩ := meth_at h4
        have hne : mi' ≠ ordI := fun z => by rw [z] at h6; exact absurd h6 (by decide +kernel)
        have hM := snd_met (sv := sv) (xt := xt) (K := K) (A := A) (ad := ad) (l := l) IH he h4 hok hVa htr
        have hG : GoodIn lw_g (va_wsS (mcn (mcls mi)) ix (mY mi') (wsM mi')) := by
          intro w hw
          rcases List.mem_append.mp hw with hw | hw
          · rcases List.mem_cons.mp hw with rfl | hw
            · exact good_g (wd_in h7)
            · rcases List.mem_cons.mp hw with rfl | hw
              · exact good_g (m7 h6)
              · rcases List.mem_cons.mp hw with rfl | hw
                · exact good_g (m2 hne)
                · cases hw
          · exact good_g (pay h4 w hw)
        have hnl : (as.map (tv ad sv)).length = mnp mi' := by rw [List.length_map, hlen2]; exact nat_beq h5
        cases hh : hasH mi' with
        | false =>
          exact vx_runS fix hM (va_cwS (mnp mi') hts hG (show wsM mi' = Cond.code (mY mi') (mbytes mi') (mnl mi') (mret mi') :: lw_g by unfold wsM codew; rw [hh]; rfl) rfl rfl ⟨m4.1, m4.2, m5⟩ (hR (nmeth_in h4))) hp rfl hnl hsz hstack hroom hd ⟨hf1, hf2⟩
        | true =>
          exact vx_runSX fix hM (vx_cwSW (mnp mi') hts hG (show wsM mi' = Cond.codeWith (mY mi') (mbytes mi') (mnl mi') (mret mi') (mhh mi') :: lw_g by unfold wsM codew; rw [hh]; rfl) rfl rfl ⟨m4.1, m4.2, m5⟩ (hR (nmeth_in h4))) hp rfl hnl hsz hstack hroom hd ⟨hf1, hf2⟩
      · obtain ⟨m1, m2, m3, m4, m5, m6, m7, -⟩ := meth_at h4
        have hne : mi' ≠ ordI := fun z => by rw [z] at h6; exact absurd h6 (by decide +kernel)
        have hM := snd_met (sv := sv) (xt := xt) (K := K) (A := A) (ad := ad) (l := l) IH he h4 hok hVa htr
        have hnl : (as.map (tv ad sv)).length = mnp mi' := by rw [List.length_map, hlen2]; exact nat_beq h5
        have hnw := hSt.2.2.2.2.2.2.2.2.2.1.1
        exact vx_runSN fix hM ⟨va_cnB (mnp mi') hts (fun w hw => good_g (pay h4 w hw)) (show wsM mi' = Cond.code (mY mi') (mbytes mi') (mnl mi') (mret mi') :: lw_g by unfold wsM codew; rw [h7]; rfl) rfl rfl (hnw _ (wn_in h8)) (hts _ (m2 hne)) ⟨m4.1, m4.2, m5⟩ (hR (nmeth_in h4)), hts _ (m7 h6), trivial⟩ hp rfl hnl hsz hstack hroom hd ⟨hf1, hf2⟩
      · rcases hmode with rfl | rfl <;> rcases h3 with h | h | h <;> exact absurd (nat_beq h) (by decide)
    · -- invokevirtual: no
      simp only [Bool.and_eq_true, Bool.or_eq_true] at hcC
      have h9 := hcC.2.2.2.2
      rcases hmode with rfl | rfl
      · rcases h9 with h | h <;> exact absurd (nat_beq h.1) (by decide)
      · rcases h9 with h | h <;> exact absurd (nat_beq h.1) (by decide)
  · -- with a receiver
    have hVr : ∀ w ∈ r, ValV g w := fun w hw => hV.1 w (List.mem_append_right _ (List.mem_cons_of_mem _ hw))
    have hVv : ValV g v := hV.1 v (List.mem_append_right _ List.mem_cons_self)
    have hVa : ∀ w ∈ v :: as', ValV g w := fun w hw => by
      rcases List.mem_cons.mp hw with rfl | hw
      · exact hVv
      · exact hV.1 w (List.mem_append_left _ (List.mem_reverse.mpr hw))
    refine ⟨rfl, rfl, rfl, hVr, ?_⟩
    have hroom : 2 * (F0 m pc ls ((as'.reverse ++ v :: r).map (tv ad sv))).monitorRoom + ((r.map (tv ad sv)).map fun v => v.category).sum ≤ 8 := lv_room (by rw [cat_map hSt.1]; exact hcat)
    have h4 : mi' ∈ nmeth := by
      unfold chkC at hcC
      cases i <;> first | (cases hi; done) | skip
      · simp only [Bool.and_eq_true, Bool.or_eq_true, decide_eq_true_eq] at hcC
        rcases hcC with h | h
        · exact h.2.1
        · rcases hmode with rfl | rfl | rfl <;> exact absurd (nat_beq h.1) (by decide)
      · simp only [Bool.and_eq_true, Bool.or_eq_true, decide_eq_true_eq] at hcC
        rcases hcC with h | h | h
        · exact h.2.1
        · exact h.2.1
        · rcases hmode with rfl | rfl | rfl <;> rcases h.1 with h | h | h <;> exact absurd (nat_beq h) (by decide)
      · simp only [Bool.and_eq_true, decide_eq_true_eq] at hcC; exact hcC.1
    obtain ⟨b, hb1, hb2, hb3⟩ := rcv_ok C h4 hrcv hVv hW hS
    have hstack : (F0 m pc ls ((as'.reverse ++ v :: r).map (tv ad sv))).stack = (as'.map (tv ad sv)).reverse ++ .ref b :: r.map (tv ad sv) := by
      show (as'.reverse ++ v :: r).map (tv ad sv) = _
      rw [List.map_append, List.map_reverse, List.map_cons, hb1]
    have hargs : (v :: as').map (tv ad sv) = .ref b :: as'.map (tv ad sv) := by rw [List.map_cons, hb1]
    have hM := snd_met (sv := sv) (xt := xt) (K := K) (A := A) (ad := ad) (l := l) IH he h4 hok hVa htr
    obtain ⟨m1, m2, m3, m4, m5, m6, m7, m8, m9⟩ := meth_at h4
    have hpc : ∀ U : State, U.heap = H → s.WarmedH U.vm → va_Pc ((v :: as').map (tv ad sv)) (St X sv xt K A ad g) (Value.ref b :: as'.map (tv ad sv)).toArray U := fun U hU hw => ⟨by rw [hargs], st_next C hW hS hU hw⟩
    rw [hargs]
    unfold chkC at hcC
    cases i <;> first | (cases hi; done) | skip
    · next ix =>
      simp only [Bool.and_eq_true, Bool.or_eq_true, decide_eq_true_eq, Bool.not_eq_true'] at hcC
      rcases hcC with ⟨h3, -, h5, h6, h7, h8⟩ | ⟨h3, -⟩
      · have hnl : (as'.map (tv ad sv)).length = mnp mi' := by rw [List.length_map, hlen2]; exact nat_beq h5
        have hne : mi' ≠ ordI := fun z => by rw [z] at h7; exact absurd h7 (by decide +kernel)
        obtain ⟨k1, k2⟩ := m9 h7
        have hp : PreS s H (va_Pc ((v :: as').map (tv ad sv)) (St X sv xt K A ad g)) (.ref b :: as'.map (tv ad sv)) := ⟨blind g, hpc⟩
        exact vx_runI fix hM (cwI (mnp mi') hts (fun w hw => good_g (pay h4 w hw)) (show wsM mi' = Cond.code (mY mi') (mbytes mi') (mnl mi') none :: lw_g by unfold wsM codew; rw [k1, k2]; rfl) rfl rfl (hts _ (m2 hne)) (hts _ (wd_in h8)) (hts _ (m8 h6).1) (of_decide_eq_true h7) ⟨m4.1, m4.2, m5⟩ (hR (nmeth_in h4))) hp rfl hnl hsz hstack hroom hd ⟨hf1, hf2⟩
      · rcases hmode with rfl | rfl | rfl <;> exact absurd (nat_beq h3) (by decide)
    · simp only [Bool.and_eq_true, Bool.or_eq_true] at hcC
      rcases hmode with rfl | rfl | rfl <;> rcases hcC with h | h | h <;> first | exact absurd (nat_beq h.1) (by decide) | (rcases h.1 with h | h | h <;> exact absurd (nat_beq h) (by decide))
    · next ix =>
      simp only [Bool.and_eq_true, Bool.or_eq_true, decide_eq_true_eq, Bool.not_eq_true'] at hcC
      obtain ⟨-, h5, h6, h7, h8⟩ := hcC
      have hnl : (as'.map (tv ad sv)).length = mnp mi' := by rw [List.length_map, hlen2]; exact nat_beq h5
      by_cases ho : mi' = ordI
      · subst ho
        obtain ⟨j, hj, hb9, -⟩ := hb3 rfl
        have hlink : Cond.methodLink (mcn (mcls mi)) ix ⟨"ColourOffice$Command", "ordinal", "()I"⟩ ∈ lw_g := by
          rcases h8 with ⟨-, h8, -⟩ | ⟨-, h8⟩
          · exact absurd h8 (by decide +kernel)
          · rw [beq_t rfl, cond_true] at h8
            exact wd_in h8
        exact ord_run IH C he hok hVa hpc hj hb9 hS (hts _ hlink) hnl hsz hstack hroom hd hf1 hf2
      · have hlink : Cond.methodLink (mcn (mcls mi)) ix (mY mi') ∈ lw_g := by
          rcases h8 with ⟨-, -, h8⟩ | ⟨-, h8⟩
          · exact wd_in h8
          · rw [beq_f ho, cond_false] at h8
            exact wd_in h8
        have hG : GoodIn lw_g (wsV (mcn (mcls mi)) ix (mY mi').cls (mY mi') (wsM mi')) := by
          intro w hw
          rcases List.mem_append.mp hw with hw | hw
          · rcases List.mem_cons.mp hw with rfl | hw
            · exact good_g hlink
            · rcases List.mem_cons.mp hw with rfl | hw
              · exact good_g (m8 h6).1
              · rcases List.mem_cons.mp hw with rfl | hw
                · exact good_g ((m8 h6).2 h7 ho)
                · rcases List.mem_cons.mp hw with rfl | hw
                  · exact good_g (m2 ho)
                  · cases hw
          · exact good_g (pay h4 w hw)
        have hp : PreV s H (mY mi').cls b (va_Pc ((v :: as').map (tv ad sv)) (St X sv xt K A ad g)) (as'.map (tv ad sv)) := ⟨blind g, hb2 ho, hpc⟩
        cases hh : hasH mi' with
        | false =>
          exact vx_runV fix hM (cwV (mnp mi') hts hG (show wsM mi' = Cond.code (mY mi') (mbytes mi') (mnl mi') (mret mi') :: lw_g by unfold wsM codew; rw [hh]; rfl) rfl rfl ⟨rfl, m4.1, m4.2, m5⟩ (hR (nmeth_in h4))) hp rfl hnl hsz hstack hroom hd ⟨hf1, hf2⟩
        | true =>
          exact vx_runVX fix hM (vx_cwVW (mnp mi') hts hG (show wsM mi' = Cond.codeWith (mY mi') (mbytes mi') (mnl mi') (mret mi') (mhh mi') :: lw_g by unfold wsM codew; rw [hh]; rfl) rfl rfl ⟨rfl, m4.1, m4.2, m5⟩ (hR (nmeth_in h4))) hp rfl hnl hsz hstack hroom hd ⟨hf1, hf2⟩
end SNDC
