/-! ===== SOUNDNESS: the call of 'ordinal', a method of a class above that has no word of its start ===== -/
theorem ord_no : hasH ordI = false := by decide +kernel
theorem ord_in : ordI ∈ nmeth := by decide +kernel
theorem ord_st : mst ordI = false := by decide +kernel
theorem mnl_at {mi : Nat} (h : mi < 332) : mnl mi ≤ 60 := Nat.le_of_ble_eq_true (List.all_eq_true.mp mnl_ok mi (List.mem_range.mpr h))
section SNDD
variable {p : Program} {l : Launch} {e : Env} {R : Room} {s : State} {m : MethodId} {args : Array Value} {below : List Frame} {meth : Method} {c : Code} {H : Heap} {locs : List Loc} {Q : State → Prop}
variable {ls : Array Slot} {ad : Nat → Nat} {sv : Nat → Nat → Value} {xt : Nat → String} {K : MK} {A : Nat → Prop} {X : MX}
set_option maxHeartbeats 1000000 in
theorem ord_run {n d mi : Nat} (IH : SndN X n) (C : Cx X sv xt K A p l R s m args meth c (d + 1) mi) {pc ix b j cells slots : Nat} {st rest : List Value} {g : MG} {as' : List MV} {v : MV} {q : MRes}
    (he : exec X n d ordI (entry ordI (v :: as') g) = some q) (hok : entOk (v :: as') ordI = true) (hVa : ∀ w ∈ v :: as', ValV g w) (hpc : ∀ U : State, U.heap = H → s.WarmedH U.vm → va_Pc ((v :: as').map (tv ad sv)) (St X sv xt K A ad g) (Value.ref b :: as'.map (tv ad sv)).toArray U)
    (hj : j < 10) (hb : sv 2 j = .ref b) (hS : va_S A s.heap H locs) (hlink : (Cond.methodLink (mcn (mcls mi)) ix ⟨"ColourOffice$Command", "ordinal", "()I"⟩).before args s = true) (hn : (as'.map (tv ad sv)).length = mnp ordI) (hsize : ls.size = mnl mi)
    (hstack : (F0 m pc ls st).stack = (as'.map (tv ad sv)).reverse ++ .ref b :: rest) (hW : 2 * (F0 m pc ls st).monitorRoom + (rest.map fun v => v.category).sum ≤ 8) (hdg : decode (mbytes mi) pc = .ok (.invokevirtual ix, 3)) (hf1 : cells + q.2.1.2.1.1 ≤ R.cells) (hf2 : slots + q.2.1.2.1.2 ≤ R.slots) :
    vx_Run p l e R s m args below meth c H locs cells slots q.2.1.2.1.1 q.2.1.2.1.2 (F0 m pc ls st) rest (QC sv K A q ad g.1.1 (Value.ref b :: as'.map (tv ad sv)).toArray) (XC K A q ad g.1.1) A := by
  obtain ⟨hx, hbb, hml, hts, hown, hnm, hK, hSt, hA, htab, hfr, hlo, htr, hlk, hrt⟩ := C
  obtain ⟨m1, -, m3, m4, m5, m6, -, m8, -⟩ := meth_at ord_in
  have hcw : codew ordI = Cond.code (mY ordI) (mbytes ordI) (mnl ordI) (mret ordI) := by unfold codew; rw [ord_no]; rfl
  have hcode : (Cond.code (mY ordI) (mbytes ordI) (mnl ordI) (mret ordI)).before args s = true := by rw [← hcw]; exact hts _ m1
  have hord := w_ord
  simp only [Bool.and_eq_true] at hord
  obtain ⟨o1, o2, o3⟩ := hord
  have hml9 := mnl_at (nmeth_in ord_in)
  have hK9 : vx_Back l R p e below s args (mY ordI) 3 8 (PreOf R q.2.1.2.1.1 q.2.1.2.1.2 (va_Pc ((v :: as').map (tv ad sv)) (St X sv xt K A ad g))) (PostOf (QC sv K A q ad g.1.1) q.2.1.2.1.1 q.2.1.2.1.2 A) (vx_Post (XC K A q ad g.1.1) q.2.1.2.1.1 q.2.1.2.1.2 A) := by
    refine ni_back (rm := rmR d q.2.1.2.1.1 q.2.1.2.1.2) hx m3 hcode (fun a U gf mk h => ⟨h.1, h.2.blind⟩) rfl rfl (by show 24 + d + 1 ≤ R.frames; omega) (by show 8 + (mnl ordI + 11) + (200 + 100 * d) ≤ R.locals; omega) ?_
    intro s1 mk a fr methY cY hWm hnamed hby hmlY hret hlkY hP T hT XX
    obtain ⟨rfl, hK1, hSt1, hA1, hW1⟩ := hP
    have hts1 : ∀ w ∈ lw_g, w.before ((v :: as').map (tv ad sv)).toArray s1 = true := fun w hw => word_at hWm (good_g hw).2 (hts w hw)
    have hown1 : s1.vm.findClass (mY ordI).cls = some mk.cls := findClass_of_methodNamed hnamed
    rw [m6] at hown1
    have hcode1 : (Cond.code (mY ordI) (mbytes ordI) (mnl ordI) (mret ordI)).before ((v :: as').map (tv ad sv)).toArray s1 = true := by rw [← hcw]; exact hts1 _ m1
    obtain ⟨methZ, cZ, z1, z2, -, -, -, -, z3, -⟩ := Cond.code_spec hnamed hcode1
    cases z1.symm.trans XX.method
    cases z2.symm.trans XX.code
    refine snd_body IH he (nmeth_in ord_in) (ne_law ord_in) hok hVa ⟨hx, hby, hmlY, hts1, hown1, fun h9 => (name_of_methodNamed hnamed z1).1.trans h9, hK1, hSt1, hA1, fun _ => ?_, Nat.le_refl _, Nat.le_refl _, htr, hlkY, hret⟩ (Nat.le_refl _) (Nat.le_refl _) hW1 T hT XX
    have hno := ord_no
    unfold hasH at hno
    rw [Bool.not_eq_false'] at hno
    rw [List.isEmpty_iff.mp hno, Array.isEmpty_iff.mp z3]; rfl
  obtain ⟨t, t1, t2, -⟩ := hSt.2.2.2.2.2.1 j hj
  obtain rfl : t = b := by rw [hb] at t1; cases t1; rfl
  obtain ⟨cellB, hcB, hoB, hclB⟩ := va_Orecv t2 hS
  intro T hT XX
  rcases vx_callVU XX hx (C := "ColourOffice$Command") (owner := "java/lang/Enum") (x := ⟨"ColourOffice$Command", "ordinal", "()I"⟩) (y := mY ordI) (bytes := mbytes ordI) (maxL := mnl ordI) (ret := mret ordI) hown hlink (hts _ (wsIn_in o1)) (va_Decl.of (hts _ (wsIn_in o3)) hcode) (by decide) (hts _ (wsIn_in o2)) (hts _ (wsIn_in o3)) hcode hK9 (by rw [hT]; exact hcB) hoB hclB rfl (hsize.trans hml.symm) (argsL := as'.map (tv ad sv)) (rest := rest) (fun sig h => hn.trans (by
      have h9 : parseMethodDescriptor (mY ordI).desc = some sig := h
      rw [h9] at m5
      exact (Option.some.inj m5).symm)) hstack hW (by rw [hbb]; exact hdg)
    (fun vm₁ hW₁ => ⟨hf1, hf2, hpc (T.setVm vm₁) hT hW₁⟩) with ⟨v9, vm₁, ⟨U', l2, c2, s2⟩, hW₁, X', ⟨g', mk, t, L, e1, e2, hq, h1, hL, h2, h3⟩, st⟩ | ⟨q9, vm₁, ⟨U', l2, c2, s2⟩, hW₁, X', ⟨g', mk, t, L, E, ce, e1, e2, hq, hce, hcv, hcl, h1, hL, h2, h3⟩, st⟩
  · dsimp only [Pt.U, Pt.locs, Pt.cells, Pt.slots] at X' e1 e2 h1 h2 h3 st
    subst h1; subst h2; subst h3
    exact Or.inl ⟨v9, (T.setVm vm₁).calling g' mk (Value.ref _ :: as'.map (tv ad sv)).toArray, t, U', L, hT, X', hL, e1, e2, hq, st⟩
  · dsimp only [Pt.U, Pt.locs, Pt.cells, Pt.slots] at X' e1 e2 h1 h2 h3 st hcl
    subst h1; subst h2; subst h3
    exact Or.inr ⟨q9, (T.setVm vm₁).calling g' mk (Value.ref _ :: as'.map (tv ad sv)).toArray, t, U', L, E, ce, hT, X', hL, e1, e2, hq, hce, hcv, vx_cls hW₁ hcl, st⟩
end SNDD
