/-! ===== SOUNDNESS, SIXTH: one step that makes something; which values a step leaves ===== -/
theorem cb_ok (ty : FieldType) {n : Nat} (hn : n ≤ 10000) : n * componentBytes ty ≤ 536870912 := by
  have h : componentBytes ty ≤ 8 := by cases ty <;> simp [componentBytes]
  exact Nat.le_trans (Nat.mul_le_mul hn h) (by omega)
theorem apl_pos : (apl.all (fun q => Nat.blt 0 (fam q.1).2.2)) = true := by decide +kernel
theorem pj_pos {k : Nat} (h : k < apn) : 0 < (fam (pj k).1).2.2 := Nat.le_of_ble_eq_true (List.all_eq_true.mp apl_pos _ (List.mem_of_getElem? (pj_get h)))
section SND6
variable {p : Program} {l : Launch} {e : Env} {R : Room} {s : State} {m : MethodId} {args : Array Value} {below : List Frame} {meth : Method} {c : Code} {H : Heap} {locs : List Loc} {Q : State → Prop}
variable {cc : ByteArray} {ls : Array Slot} {ad : Nat → Nat} {sv : Nat → Nat → Value} {xt : Nat → String} {K : MK} {A : Nat → Prop} {X : MX}
theorem nI_cl {n : Nat} {j : Int32} (h : decide (j = Int32.ofNat n) = true) (hn : n ≤ 10000) : ¬ j < 0 ∧ j.toNatClampNeg = n := by
  have h1 : j = nI n := of_decide_eq_true h
  rw [h1]
  exact ⟨nI_pos (by omega), nI_clamp (by omega)⟩
set_option maxHeartbeats 4000000 in
theorem new_ok (hx : p.tables.exec = Jvm.exec) (hb : c.code = cc) (hts : ∀ w ∈ lw_g, w.before args s = true) {mi : Nat} (hown : s.vm.findClass (mcn (mcls mi)) = some m.cls)
    (hK : va_K K.1 mcl (mtys K) s) (hSt : Sta X sv xt A s s.heap) (hS : va_S A s.heap H locs) (hA : ∀ q, s.heap.size ≤ q → A q)
    {pc len : Nat} {i : Instr} {o1 o2 o3 o4 : Nat} {L : ML} {st : List MV} {g : MG} {a : MA} {S' : MS}
    (hd : decode cc pc = .ok (i, len)) (hlen : isw i = true ∨ len = ilen i) (hck : chkF mi i o1 o2 o3 o4 = true) (hnw : isnew i = true)
    (hs : sl X pc len i o1 o2 o3 o4 L st g = some a) (ha : Nx a S') (hW : Wd K ad A g H) (hV : VS g L st) (hL : Lok (tv ad sv) ls L)
    (hr1 : S'.2.2.2.1.2.1.1 ≤ R.cells) (hr2 : S'.2.2.2.1.2.1.2 ≤ R.slots)
    (KK : Cont p l e R s m args below meth c Q sv K A ad g.1.1 S') : W p l e R s m args below meth c H locs g.1.2.1.1 g.1.2.1.2 Q (F0 m pc ls (st.map (tv ad sv))) := by
  have hG : ∀ (g1 : MG) (ad1 : Nat → Nat), (∀ j, j < g.1.1 → ad1 j = ad j) → Lok (tv ad1 sv) ls L := fun _ _ h => hL.ag hV h
  unfold sl at hs
  split at hs
  iterate 15 (· cases hnw)
  · -- new
    next ix =>
    obtain rfl : len = 3 := hlen.elim (fun h => by cases h) id
    cases q0 : Nat.beq o1 0 with
    | true =>
      rw [q0, cond_true] at hs
      split at hs
      · next x g1 hm =>
        obtain rfl := go_nx hs ha
        obtain ⟨h1, rfl, h2, h3, h4, h5⟩ := mnew_ok hm
        obtain ⟨rr, e1, e2⟩ := (pj_sz h1).2 h2
        rw [h3] at e1
        unfold chkF at hck
        dsimp only at hck
        rw [q0, Bool.not_true, Bool.false_or, e1] at hck
        dsimp only at hck
        simp only [Bool.and_eq_true] at hck
        obtain ⟨k1, k2, k3⟩ := hck
        have hu1 : g.1.2.1.1 + 1 ≤ R.cells := by rw [h5] at hr1; exact hr1
        have hu2 : g.1.2.1.2 + rr.2.2 ≤ R.slots := by rw [h5] at hr2; rw [e2]; exact hr2
        refine va_new (C := rr.1) (T := rr.2.1) (N := rr.2.2) (ci := o2) (fs := (List.range rr.2.2).map (fun k => bif rfF o2 k then .null else .int 0)) hx hb hts (cls_in e1) (fty rr) (cls_ty e1) hown (hts _ (wd_in k1)) (hts _ (wsIn_in k2)) (hts _ (wsIn_in k3)) hK hW.2.1 hW.2.2.1 hS hA e1 (fun j hj => ?_) hu1 hu2 hd (fun q H1 hP1 hD1 hS1 => ?_)
        · rw [rf_def e1 hj]
          unfold vp_V
          rw [List.getD_eq_getElem?_getD, List.getElem?_map, List.getElem?_range hj]; rfl
        · have hw := wd_new hW hm hP1 hD1 (Or.inl (by
            rw [ent_0 h2, h3, ← e2]
            refine congrArg (fun z => (.inr (o2, z) : va_E)) (List.map_congr_left fun k hk => ?_)
            have hk := List.mem_range.mp hk
            unfold entF
            rw [h5]
            dsimp only
            rw [rset_at, mzero_at, show Nat.blt k (fam (pj g.1.1).1).2.2 = true from Nat.ble_eq_true_of_le (by rw [← e2]; exact hk)]
            rfl))
          have K2 := KK H1 locs (adN ad g.1.1 q) adN_old hw hS1 ls (hL.ag hV adN_old)
          rw [List.map_cons, map_ag hV.1 adN_old] at K2
          rw [show tv (adN ad g.1.1 q) sv (.inr (.inl (pj g.1.1))) = .ref q from by
            show Value.ref (adN ad g.1.1 q (apl.idxOf (pj g.1.1))) = .ref q
            rw [pj_idx h1, adN_new]] at K2
          rw [h5] at K2
          dsimp only at K2
          rw [e2]
          exact K2
      · cases hs
    | false =>
      rw [q0, cond_false] at hs
      obtain ⟨h1, h2⟩ := bif_some hs
      cases h2
      rcases ha with h | h <;> cases h
  · -- newarray
    next t =>
    obtain rfl : len = 2 := hlen.elim (fun h => by cases h) id
    unfold chkF at hck
    dsimp only at hck
    rw [Bool.and_eq_true] at hck
    have harr := hts _ (wsIn_in hck.2)
    split at hs
    · next j r =>
      split at hs
      · next x g1 hm =>
        obtain ⟨h6, rfl⟩ := gif_nx hs ha
        obtain ⟨h1, rfl, h2, h3, h4, h5⟩ := mnew_ok hm
        have hsz := (pj_sz h1).1
        obtain ⟨hn0, hn1⟩ := nI_cl h6 hsz
        have hu1 : g.1.2.1.1 + 1 ≤ R.cells := by rw [h5] at hr1; exact hr1
        have hu2 : g.1.2.1.2 + (fam (pj g.1.1).1).2.2 ≤ R.slots := by rw [h5] at hr2; exact hr2
        have fin : ∀ (q : Nat) (H1 : Heap) (en : va_E), va_P K.1 mcl (mws K ad g ++ [(q, en)]) H1 → va_D A (mws K ad g ++ [(q, en)]) → va_S A s.heap H1 locs → cellE en (ent K (adN ad g.1.1 q) g1 (pj g.1.1)) →
            W p l e R s m args below meth c H1 locs (g.1.2.1.1 + 1) (g.1.2.1.2 + (fam (pj g.1.1).1).2.2) Q (F0 m (pc + 2) ls (.ref q :: r.map (tv ad sv))) := by
          intro q H1 en hP1 hD1 hS1 hc
          have K2 := KK H1 locs (adN ad g.1.1 q) adN_old (wd_new hW hm hP1 hD1 hc) hS1 ls (hL.ag hV adN_old)
          rw [List.map_cons, map_ag (fun v hv => hV.1 v (List.mem_cons_of_mem _ hv)) adN_old] at K2
          rw [show tv (adN ad g.1.1 q) sv (.inr (.inl (pj g.1.1))) = .ref q from by
            show Value.ref (adN ad g.1.1 q (apl.idxOf (pj g.1.1))) = .ref q
            rw [pj_idx h1, adN_new]] at K2
          rw [h5] at K2
          exact K2
        have hz : g1.2.2 (pj g.1.1).1 (pj g.1.1).2 = fun _ => 0 := by rw [h5]; exact mzero_at _ _ _
        cases t <;> first | (cases hck.1; done) | skip
        · refine va_newa (atype := .char) (a0 := ((fam (pj g.1.1).1).2.2, .inl (fun _ => 0))) hx hb harr rfl hK hW.2.1 hW.2.2.1 hS hA (fun cA => rfl) hn0 hn1 (cb_ok .char hsz) hu1 hu2 hd (fun q cA H1 hK1 hP1 hD1 hS1 => ?_)
          obtain rfl : cA = K.2.2.1 := ra_int (fun C h => by cases h) (K_last hK1) (hK.2 1 _ (mtys_1 K)).2
          exact fin q H1 _ hP1 hD1 hS1 (Or.inl (by rw [ent_s 1 h2]; unfold entA; rw [hz]; rfl))
        · refine va_newa (atype := .double) (a0 := ((fam (pj g.1.1).1).2.2, .inr (.inr (.inr (.inl (fun _ => 0)))))) hx hb harr rfl hK hW.2.1 hW.2.2.1 hS hA (fun cA => rfl) hn0 hn1 (cb_ok .double hsz) hu1 hu2 hd (fun q cA H1 hK1 hP1 hD1 hS1 => ?_)
          obtain rfl : cA = K.2.2.2.2.1 := ra_int (fun C h => by cases h) (K_last hK1) (hK.2 3 _ (mtys_3 K)).2
          exact fin q H1 _ hP1 hD1 hS1 (Or.inl (by rw [ent_s 5 h2, h5]; rfl))
        · refine va_newa (atype := .int) (a0 := ((fam (pj g.1.1).1).2.2, .inl (fun _ => 0))) hx hb harr rfl hK hW.2.1 hW.2.2.1 hS hA (fun cA => rfl) hn0 hn1 (cb_ok .int hsz) hu1 hu2 hd (fun q cA H1 hK1 hP1 hD1 hS1 => ?_)
          obtain rfl : cA = K.2.1 := ra_int (fun C h => by cases h) (K_last hK1) (hK.2 0 _ (mtys_0 K)).2
          exact fin q H1 _ hP1 hD1 hS1 (Or.inl (by rw [ent_s 0 h2]; unfold entA; rw [hz]; rfl))
        · refine va_newa (atype := .long) (a0 := ((fam (pj g.1.1).1).2.2, .inr (.inl (fun _ => 0)))) hx hb harr rfl hK hW.2.1 hW.2.2.1 hS hA (fun cA => rfl) hn0 hn1 (cb_ok .long hsz) hu1 hu2 hd (fun q cA H1 hK1 hP1 hD1 hS1 => ?_)
          obtain rfl : cA = K.2.2.2.1 := ra_int (fun C h => by cases h) (K_last hK1) (hK.2 2 _ (mtys_2 K)).2
          exact fin q H1 _ hP1 hD1 hS1 (Or.inl (by rw [ent_s 4 h2, h5]; rfl))
      · cases hs
    · cases hs
  · -- anewarray
    next ix =>
    obtain rfl : len = 3 := hlen.elim (fun h => by cases h) id
    unfold chkF at hck
    dsimp only at hck
    split at hs
    · next j r =>
      split at hs
      · next x g1 hm =>
        obtain ⟨h6, rfl⟩ := gif_nx hs ha
        obtain ⟨h1, rfl, h2, h3, h4, h5⟩ := mnew_ok hm
        obtain ⟨hn0, hn1⟩ := nI_cl h6 (pj_sz h1).1
        have hsz := (pj_sz h1).1
        have hu1 : g.1.2.1.1 + 1 ≤ R.cells := by rw [h5] at hr1; exact hr1
        have hu2 : g.1.2.1.2 + (fam (pj g.1.1).1).2.2 ≤ R.slots := by rw [h5] at hr2; exact hr2
        refine va_newq hx hb hown (hts _ (wd_in hck)) hSt.2.2.2.2.2.2.2.2.2.1.2.1 hK hW.2.1 hW.2.2.1 hS hA hn0 hn1 (by omega) hu1 hu2 hd (fun q cA H1 hK1 hP1 hD1 hS1 => ?_)
        obtain rfl : cA = K.2.2.2.2.2.2 := ra_obj (K_last hK1) (hK.2 5 _ (mtys_5 K)).2
        have K2 := KK H1 locs (adN ad g.1.1 q) adN_old (wd_new hW hm hP1 hD1 (Or.inr ⟨K.2.2.2.2.2.2, _, _, rfl, ent_s 3 h2, by
          rw [vp_cell_q, vp_cell_q]
          refine arrV_ext fun z hz => ?_
          rw [h5]
          dsimp only
          rw [rset_at, show Nat.blt z (fam (pj g.1.1).1).2.2 = true from Nat.ble_eq_true_of_le hz]; rfl⟩)) hS1 ls (hL.ag hV adN_old)
        rw [List.map_cons, map_ag (fun v hv => hV.1 v (List.mem_cons_of_mem _ hv)) adN_old] at K2
        rw [show tv (adN ad g.1.1 q) sv (.inr (.inl (pj g.1.1))) = .ref q from by
          show Value.ref (adN ad g.1.1 q (apl.idxOf (pj g.1.1))) = .ref q
          rw [pj_idx h1, adN_new]] at K2
        rw [h5] at K2
        exact K2
      · cases hs
    · cases hs
  · -- multianewarray
    next ix nd =>
    obtain rfl : len = 4 := hlen.elim (fun h => by cases h) id
    unfold chkF at hck
    dsimp only at hck
    simp only [Bool.and_eq_true] at hck
    obtain ⟨k1, k2, k4⟩ := hck
    split at hs
    · next jm jn r =>
      split at hs
      · next x g1 hm =>
        obtain ⟨h6, rfl⟩ := gif_nx hs ha
        rw [Bool.and_eq_true] at h6
        obtain ⟨h1, rfl, h2, h3, h4, h5⟩ := mnew2_ok hm
        have hsz := (pj_sz (Nat.lt_of_le_of_lt (Nat.le_add_right _ _) h1)).1
        have hpos : (fam (pj g.1.1).1).2.2 = 0 ∨ (fam (pj (g.1.1 + 1)).1).2.2 ≤ 10000 := by
          rcases Nat.eq_zero_or_pos (fam (pj g.1.1).1).2.2 with h | h
          · exact Or.inl h
          · exact Or.inr (pj_sz (by omega)).1
        rcases hpos with h0 | hsz2
        · exact absurd (pj_pos (Nat.lt_of_le_of_lt (Nat.le_add_right _ _) h1)) (by omega)
        obtain ⟨hn0, hn1⟩ := nI_cl h6.1 hsz
        obtain ⟨hk0, hk1⟩ := nI_cl h6.2 hsz2
        have hu1 : g.1.2.1.1 + (1 + (fam (pj g.1.1).1).2.2) ≤ R.cells := by rw [h5] at hr1; dsimp only at hr1; omega
        have hu2 : g.1.2.1.2 + ((fam (pj g.1.1).1).2.2 + (fam (pj g.1.1).1).2.2 * (fam (pj (g.1.1 + 1)).1).2.2) ≤ R.slots := by rw [h5] at hr2; dsimp only at hr2; omega
        obtain rfl : nd = 2 := nat_beq k1
        refine va_mna (X := mws K ad g) (L := []) (f := fun _ => .inl (0, (0, .inl (fun _ => 0)))) (ty := .int) (cy := K.2.1) (z := ((fam (pj (g.1.1 + 1)).1).2.2, .inl (fun _ => 0))) hx hb hown (hts _ (wd_in k2)) hSt.2.2.2.2.2.2.2.2.2.1.2.2.1 (hts _ (wsIn_in k4)) (hK.2 0 _ (mtys_0 K)).2 hK (by rw [show va_pl [] _ = [] from rfl, List.append_nil]; exact hW.2.1) (by rw [show va_pl [] _ = [] from rfl, List.append_nil]; exact hW.2.2.1) hS hA hn0 hk0 hn1 hk1 (by omega) (cb_ok .int hsz2) (by omega) rfl rfl hu1 hu2 (fun cA => ?_) hd (fun q rw1 cA H1 hr1 hr2 hK1 hP1 hD1 hS1 => ?_)
        · rw [vp_cell_i]
          unfold arrV Jvm.Free.Multi.innerC
          congr 1
          apply Array.ext
          · simp
          · intro i h1 h2
            simp [defaultValue]
        · obtain rfl : cA = K.2.2.2.2.2.1 := ra_int (fun C h => by cases h) (K_last hK1) (hK.2 4 _ (mtys_4 K)).2
          have K2 := KK H1 locs (ad2 ad g.1.1 q rw1) (fun j hj => if_pos hj) (wd_new2 hW hm hP1 hD1) hS1 ls (hL.ag hV (fun j hj => if_pos hj))
          rw [List.map_cons, map_ag (ad1 := ad2 ad g.1.1 q rw1) (fun v hv => hV.1 v (List.mem_cons_of_mem _ (List.mem_cons_of_mem _ hv))) (fun j hj => if_pos hj)] at K2
          rw [show tv (ad2 ad g.1.1 q rw1) sv (.inr (.inl (pj g.1.1))) = .ref q from by
            show Value.ref (ad2 ad g.1.1 q rw1 (apl.idxOf (pj g.1.1))) = .ref q
            rw [pj_idx (by omega)]
            unfold ad2
            rw [if_neg (Nat.lt_irrefl _), if_pos rfl]] at K2
          rw [h5] at K2
          exact K2
      · cases hs
    · cases hs
  · -- nothing else
    revert hnw
    cases i <;> intro hnw <;> first | (cases hnw; done) | simp_all
end SND6
