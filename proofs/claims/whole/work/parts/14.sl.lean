/-! ===== SOUNDNESS, FOURTH: one step that reads or writes a cell; the makings are the next part's ===== -/
def isnew : Instr → Bool
  | .new _ => true
  | .newarray _ => true
  | .anewarray _ => true
  | .multianewarray _ _ => true
  | _ => false
theorem mtys_0 (K : MK) : (mtys K)[0]? = some (K.2.1, .int) := rfl
theorem mtys_1 (K : MK) : (mtys K)[1]? = some (K.2.2.1, .char) := rfl
theorem mtys_2 (K : MK) : (mtys K)[2]? = some (K.2.2.2.1, .long) := rfl
theorem mtys_3 (K : MK) : (mtys K)[3]? = some (K.2.2.2.2.1, .double) := rfl
theorem mtys_4 (K : MK) : (mtys K)[4]? = some (K.2.2.2.2.2.1, .array .int) := rfl
theorem mtys_5 (K : MK) : (mtys K)[5]? = some (K.2.2.2.2.2.2, .object "ColourOffice$State") := rfl
theorem samePF_ok {q : Nat × (Nat × (Nat × (Nat × Nat)))} {c ix o1 o2 : Nat} (h : samePF q c ix o1 o2 = true) : q = (c, (ix, (o1, (o2, q.2.2.2.2)))) := by
  unfold samePF at h
  simp only [Bool.and_eq_true] at h
  obtain ⟨a, b, d, e⟩ := h
  obtain ⟨x1, x2, x3, x4, x5⟩ := q
  have a := nat_beq a
  have b := nat_beq b
  have d := nat_beq d
  have e := nat_beq e
  dsimp only at a b d e ⊢
  rw [a, b, d, e]
/-- the same cell, said otherwise -/
theorem va_P_cell {D : va_G} {cl : List vw_C} {ws : va_W} {k a : Nat} {cA : ClassId} {x y : vp_A} {H : Heap} (h : va_P D cl (ws.set k (a, .inl (cA, x))) H) (hc : vp_cell cA x = vp_cell cA y) : va_P D cl (ws.set k (a, .inl (cA, y))) H := by
  intro i q hi
  by_cases e : k = i
  · subst e
    by_cases hl : k < ws.length
    · rw [List.getElem?_set_self hl] at hi
      cases hi
      have h1 := h k (a, .inl (cA, x)) (List.getElem?_set_self hl)
      show H[a]? = some (vp_cell cA y)
      rw [← hc]
      exact h1
    · rw [List.getElem?_eq_none (by rw [List.length_set]; omega)] at hi
      cases hi
  · rw [List.getElem?_set_ne e] at hi
    exact h i q (by rw [List.getElem?_set_ne e]; exact hi)
theorem va_D_cell {A : Nat → Prop} {ws : va_W} {k a : Nat} {x y : va_E} (h : va_D A (ws.set k (a, x))) : va_D A (ws.set k (a, y)) := by
  have get : ∀ (i : Nat) (q : Nat × va_E), (ws.set k (a, y))[i]? = some q → ∃ q', (ws.set k (a, x))[i]? = some q' ∧ q'.1 = q.1 := by
    intro i q hi
    by_cases e : k = i
    · subst e
      by_cases hl : k < ws.length
      · rw [List.getElem?_set_self hl] at hi
        cases hi
        exact ⟨(a, x), List.getElem?_set_self hl, rfl⟩
      · rw [List.getElem?_eq_none (by rw [List.length_set]; omega)] at hi
        cases hi
    · rw [List.getElem?_set_ne e] at hi
      exact ⟨q, by rw [List.getElem?_set_ne e]; exact hi, rfl⟩
  refine ⟨fun i j p q hi hj hpq => ?_, fun i q hi => ?_⟩
  · obtain ⟨p', h1, h2⟩ := get i p hi
    obtain ⟨q', h3, h4⟩ := get j q hj
    exact h.1 i j p' q' h1 h3 (by rw [h2, h4, hpq])
  · obtain ⟨q', h1, h2⟩ := get i q hi
    rw [← h2]
    exact h.2 i q' h1
section SND3
variable {p : Program} {l : Launch} {e : Env} {R : Room} {s : State} {m : MethodId} {args : Array Value} {below : List Frame} {meth : Method} {c : Code} {H : Heap} {locs : List Loc} {Q : State → Prop}
variable {cc : ByteArray} {ls : Array Slot} {ad : Nat → Nat} {sv : Nat → Nat → Value} {xt : Nat → String} {K : MK} {A : Nat → Prop} {X : MX}
/-- going on behind a step -/
abbrev Cont (p : Program) (l : Launch) (e : Env) (R : Room) (s : State) (m : MethodId) (args : Array Value) (below : List Frame) (meth : Method) (c : Code) (Q : State → Prop) (sv : Nat → Nat → Value) (K : MK) (A : Nat → Prop) (ad : Nat → Nat) (k : Nat) (S' : MS) : Prop :=
  ∀ (H1 : Heap) (locs1 : List Loc) (ad1 : Nat → Nat), (∀ j, j < k → ad1 j = ad j) → Wd K ad1 A S'.2.2.2 H1 → va_S A s.heap H1 locs1 → ∀ ls1, Lok (tv ad1 sv) ls1 S'.2.1 → W p l e R s m args below meth c H1 locs1 S'.2.2.2.1.2.1.1 S'.2.2.2.1.2.1.2 Q (F0 m S'.1 ls1 (S'.2.2.1.map (tv ad1 sv)))
set_option maxHeartbeats 4000000 in
theorem sl_ok (hx : p.tables.exec = Jvm.exec) (hb : c.code = cc) (hts : ∀ w ∈ lw_g, w.before args s = true) {mi : Nat} (hown : s.vm.findClass (mcn (mcls mi)) = some m.cls) (hnm : (mY mi).name = "<init>" → meth.name = "<init>")
    (hK : va_K K.1 mcl (mtys K) s) (hSt : Sta X sv xt A s s.heap) (hS : va_S A s.heap H locs)
    {pc len : Nat} {i : Instr} {o1 o2 o3 o4 : Nat} {L : ML} {st : List MV} {g : MG} {a : MA} {S' : MS}
    (hd : decode cc pc = .ok (i, len)) (hlen : isw i = true ∨ len = ilen i) (ht : tgok pc i o1 = true) (hck : chkF mi i o1 o2 o3 o4 = true) (hnw : isnew i = false)
    (hs : sl X pc len i o1 o2 o3 o4 L st g = some a) (ha : Nx a S') (hW : Wd K ad A g H) (hV : VS g L st) (hL : Lok (tv ad sv) ls L)
    (KK : Cont p l e R s m args below meth c Q sv K A ad g.1.1 S') : W p l e R s m args below meth c H locs g.1.2.1.1 g.1.2.1.2 Q (F0 m pc ls (st.map (tv ad sv))) := by
  have hsv := hSt.1
  unfold sl at hs
  split at hs
  · -- getfield
    next ix =>
    obtain rfl : len = 3 := hlen.elim (fun h => by cases h) id
    split at hs
    · next q r =>
      obtain ⟨h1, h2⟩ := bif_some hs
      simp only [Bool.and_eq_true] at h1
      obtain ⟨g1, g2, g3, g4⟩ := h1
      have g2 := nat_beq g2
      have g3 := nat_beq g3
      have g4 := Nat.le_of_ble_eq_true g4
      have hq : pv g.1.1 q := hV.1 _ List.mem_cons_self
      unfold chkF at hck
      dsimp only at hck
      rw [g1, cond_true] at hck
      cases hp : pfl[o4]? with
      | none => rw [hp] at hck; cases hck
      | some z =>
        rw [hp] at hck
        dsimp only at hck
        rw [Bool.and_eq_true] at hck
        have hz := samePF_ok hck.1
        rw [hz] at hp
        obtain ⟨rr, e1, e2, e3, e4, e5⟩ := pfl_at hp
        have hat := mws_at (K := K) (ad := ad) hq
        rw [ent_0 g2, g3] at hat
        have hrf := eq_of_beq hck.2
        cases h3 : Nat.beq o3 1 with
        | true =>
          rw [h3, cond_true] at h2
          split at h2
          · next w hw =>
            obtain rfl := go_nx h2 ha
            refine va_get (C := rr.1) (T := rr.2.1) (N := rr.2.2) (ref := rr.1) hx hb hts (cls_in e1) hown hK hW.2.1 (apl.idxOf q) hat e1 o2 e2 (hts _ e3) (fun x hx9 => by rw [e4] at hx9; exact hx9) (v := .ref (adr ad w)) (by
              rw [entF_get g4]
              unfold entF
              rw [hrf, h3, cond_true, hw]; rfl) hd ?_
            exact KK H locs ad (fun _ _ => rfl) hW hS ls hL
          · cases h2
        | false =>
          rw [h3, cond_false] at h2
          obtain rfl := go_nx h2 ha
          refine va_get (C := rr.1) (T := rr.2.1) (N := rr.2.2) (ref := rr.1) hx hb hts (cls_in e1) hown hK hW.2.1 (apl.idxOf q) hat e1 o2 e2 (hts _ e3) (fun x hx9 => by rw [e4] at hx9; exact hx9) (v := .int (g.2.2 q.1 q.2 o2)) (by
            rw [entF_get g4]
            unfold entF
            rw [hrf, h3, cond_false]) hd ?_
          exact KK H locs ad (fun _ _ => rfl) hW hS ls hL
    · next k n r =>
      have hn : n < 10 := hV.1 _ List.mem_cons_self
      unfold chkF at hck
      dsimp only at hck
      obtain ⟨-, -, -, -, -, hC, hT, -, -, -, -⟩ := hSt
      cases q1 : (Nat.beq o1 100 && Nat.beq k 2) with
      | true =>
        rw [q1, cond_true] at hs
        simp only [Bool.and_eq_true] at q1
        obtain rfl := nat_beq q1.1
        obtain rfl := nat_beq q1.2
        obtain rfl := go_nx hs ha
        obtain ⟨t, t1, -, t2, -⟩ := hC n hn
        have K2 := KK H locs ad (fun _ _ => rfl) hW hS ls hL
        rw [List.map_cons, show tv ad sv (.inr (.inr (.inl (2, n)))) = .ref t from t1]
        exact vk_getf hx hb t2 hS hown (hts _ (wd_in hck)) (fun _ h => h) hd K2
      | false =>
        rw [q1, cond_false] at hs
        cases q2 : (Nat.beq o1 101 && Nat.beq k 2) with
        | true =>
          rw [q2, cond_true] at hs
          simp only [Bool.and_eq_true] at q2
          obtain rfl := nat_beq q2.1
          obtain rfl := nat_beq q2.2
          obtain rfl := go_nx hs ha
          obtain ⟨t, t1, -, -, t2⟩ := hC n hn
          have K2 := KK H locs ad (fun _ _ => rfl) hW hS ls hL
          rw [List.map_cons, show tv ad sv (.inr (.inr (.inl (2, n)))) = .ref t from t1]
          exact vk_getf hx hb t2 hS hown (hts _ (wd_in hck)) (fun _ h => h) hd K2
        | false =>
          rw [q2, cond_false] at hs
          cases q3 : (Nat.beq o1 102 && Nat.beq k 3) with
          | true =>
            rw [q3, cond_true] at hs
            simp only [Bool.and_eq_true] at q3
            obtain rfl := nat_beq q3.1
            obtain rfl := nat_beq q3.2
            obtain rfl := go_nx hs ha
            obtain ⟨t, t1, -, t2, -⟩ := hT n hn
            have K2 := KK H locs ad (fun _ _ => rfl) hW hS ls hL
            rw [List.map_cons, show tv ad sv (.inr (.inr (.inl (3, n)))) = .ref t from t1]
            exact vk_getf hx hb t2 hS hown (hts _ (wd_in hck)) (fun _ h => h) hd K2
          | false =>
            rw [q3, cond_false] at hs
            obtain ⟨q4, hs⟩ := bif_some hs
            simp only [Bool.and_eq_true] at q4
            obtain rfl := nat_beq q4.1
            obtain rfl := nat_beq q4.2
            obtain rfl := go_nx hs ha
            obtain ⟨t, t1, -, -, t2⟩ := hT n hn
            have K2 := KK H locs ad (fun _ _ => rfl) hW hS ls hL
            rw [List.map_cons, show tv ad sv (.inr (.inr (.inl (3, n)))) = .ref t from t1]
            exact vk_getf hx hb t2 hS hown (hts _ (wd_in hck)) (fun _ h => h) hd K2
    · cases hs
  · -- putfield
    next ix =>
    obtain rfl : len = 3 := hlen.elim (fun h => by cases h) id
    unfold chkF at hck
    dsimp only at hck
    cases hp : pfl[o4]? with
    | none => rw [hp] at hck; cases hck
    | some z =>
      rw [hp] at hck
      dsimp only at hck
      rw [Bool.and_eq_true] at hck
      obtain ⟨hck1, hck2⟩ := hck
      have hz := samePF_ok hck1
      rw [hz] at hp
      obtain ⟨rr, e1, e2, e3, e4, e5⟩ := pfl_at hp
      rw [e1] at hck2
      dsimp only at hck2
      unfold putB at hck2
      simp only [Bool.and_eq_true] at hck2
      obtain ⟨k1, k2, k3⟩ := hck2
      have k1 := nat_beq k1
      have k2 := eq_of_beq k2
      split at hs
      · next x q r =>
        obtain ⟨h1, h2⟩ := bif_some hs
        simp only [Bool.and_eq_true, Bool.not_eq_true'] at h1
        obtain ⟨g1, g2, ⟨g3, g4⟩, g5⟩ := h1
        have g1 := nat_beq g1
        have g2 := nat_beq g2
        have g3 := Nat.le_of_ble_eq_true g3
        have g4 := Nat.le_of_ble_eq_true g4
        obtain ⟨h3, rfl⟩ := gif_nx h2 ha
        have hq : pv g.1.1 q := hV.1 _ (List.mem_cons_of_mem _ List.mem_cons_self)
        have hf4 : Nat.ble 4 o3 = false := by
          cases hz9 : Nat.ble 4 o3 with
          | false => rfl
          | true => exact absurd (Nat.le_of_ble_eq_true hz9) (by omega)
        rw [hf4] at k1 k2
        rw [cond_false] at k1
        have h31 : ¬ o3 = 1 := fun z => by rw [z] at g5; cases g5
        have hrf : rfF o1 o2 = false := by rw [e5, k1]; exact beq_f h31
        have hat := mws_at (K := K) (ad := ad) hq
        rw [ent_0 g1, g2] at hat
        have hfit : narrow (fty rr o2) (.int x) = .int x ∧ fits (fty rr o2) (.int x) = true := by
          unfold tagD at k1
          have hpd := cls_ty e1 o2 e2
          by_cases c1 : (rr.2.1 o2).2.2.1 = "I"
          · rw [c1] at hpd
            have : parseFieldDescriptor "I" = some .int := by decide +kernel
            rw [this] at hpd
            rw [← Option.some.inj hpd]
            exact ⟨rfl, rfl⟩
          · rw [if_neg c1] at k1
            by_cases c2 : (rr.2.1 o2).2.2.1 = "Z"
            · rw [if_pos c2] at k1
              rw [c2] at hpd
              have : parseFieldDescriptor "Z" = some .boolean := by decide +kernel
              rw [this] at hpd
              rw [← Option.some.inj hpd]
              rw [← k1] at h3
              exact okT_bool h3
            · rw [if_neg c2] at k1
              by_cases c3 : (rr.2.1 o2).2.2.1 = "C"
              · rw [if_pos c3] at k1
                rw [c3] at hpd
                have : parseFieldDescriptor "C" = some .char := by decide +kernel
                rw [this] at hpd
                rw [← Option.some.inj hpd]
                rw [← k1] at h3
                exact ⟨(okT_char h3).2.1, (okT_char h3).2.2⟩
              · rw [if_neg c3] at k1
                exact absurd k1.symm h31
        refine va_put (C := rr.1) (T := rr.2.1) (N := rr.2.2) (ref := rr.1) (ty := fty rr o2) (v := .int x) hx hb hts (cls_in e1) (fty rr) (cls_ty e1) (cls_nm e1) hown hK hW.2.1 hW.2.2.1 hS (apl.idxOf q) hat e1 o2 e2 (hts _ e3) (fun x hx9 => by rw [e4] at hx9; exact hx9) k2 (cls_ty e1 o2 e2) hfit.1 hfit.2 (by rw [List.length_map, List.length_range]; exact g3) hd (fun H1 locs1 hP1 hD1 hS1 => ?_)
        have he : (.inr (o1, ((List.range (fam q.1).2.2).map (entF ad g q o1)).set o2 (.int x)) : va_E) = ent K ad (g.1, (g.2.1, mup g.2.2 q.1 q.2 o2 x)) q := by
          rw [ent_0 (g := (g.1, (g.2.1, mup g.2.2 q.1 q.2 o2 x))) g1, g2]
          refine congrArg (fun z => (.inr (o1, z) : va_E)) (entF_set ?_ (fun j hj => ?_))
          · unfold entF
            rw [hrf, cond_false]
            dsimp only
            rw [mup_at]
            unfold upd
            rw [if_pos rfl]
          · unfold entF
            dsimp only
            rw [mup_at]
            unfold upd
            rw [if_neg hj]
        exact KK H1 locs1 ad (fun _ _ => rfl) (wd_mup hW hq he hP1 hD1) hS1 ls hL
      · next w q r =>
        obtain ⟨h1, h2⟩ := bif_some hs
        simp only [Bool.and_eq_true] at h1
        obtain ⟨g1, g2, g3, g4⟩ := h1
        have g1 := nat_beq g1
        have g2 := nat_beq g2
        have g3 := Nat.le_of_ble_eq_true g3
        obtain rfl := nat_beq g4
        obtain rfl := go_nx h2 ha
        have hw : pv g.1.1 w := hV.1 _ List.mem_cons_self
        have hq : pv g.1.1 q := hV.1 _ (List.mem_cons_of_mem _ List.mem_cons_self)
        rw [show Nat.ble 4 5 = true from rfl] at k1 k2 k3
        rw [cond_true] at k1
        rw [Bool.not_true, Bool.false_or, Bool.and_eq_true] at k3
        have hdecl := of_decide_eq_true k3.1
        have hini := of_decide_eq_true k3.2
        have hrf : rfF o1 o2 = true := by rw [e5, k1]; rfl
        have hat := mws_at (K := K) (ad := ad) hq
        rw [ent_0 g1, g2] at hat
        have hfit : narrow (fty rr o2) (.ref (adr ad w)) = .ref (adr ad w) ∧ fits (fty rr o2) (.ref (adr ad w)) = true := by
          have hrt := cls_rf e1 e2 k1
          revert hrt
          cases fty rr o2 <;> intro hrt <;> first | exact ⟨rfl, rfl⟩ | cases hrt
        refine va_putF (C := rr.1) (T := rr.2.1) (N := rr.2.2) (ref := rr.1) (ty := fty rr o2) (v := .ref (adr ad w)) hx hb hts (cls_in e1) (fty rr) (cls_ty e1) (cls_nm e1) hown hK hW.2.1 hW.2.2.1 hS (apl.idxOf q) hat e1 o2 e2 (hts _ e3) (fun x hx9 => by rw [e4] at hx9; exact hx9) k2 (hnm hini) (e4.trans hdecl) (cls_ty e1 o2 e2) hfit.1 hfit.2 (by rw [List.length_map, List.length_range]; exact g3) hd (fun H1 locs1 hP1 hD1 hS1 => ?_)
        have he : (.inr (o1, ((List.range (fam q.1).2.2).map (entF ad g q o1)).set o2 (.ref (adr ad w))) : va_E) = ent K ad ((g.1.1, (g.1.2.1, rup g.1.2.2 q.1 q.2 o2 (some w))), g.2) q := by
          rw [ent_0 (g := ((g.1.1, (g.1.2.1, rup g.1.2.2 q.1 q.2 o2 (some w))), g.2)) g1, g2]
          refine congrArg (fun z => (.inr (o1, z) : va_E)) (entF_set ?_ (fun j hj => ?_))
          · unfold entF
            rw [hrf, cond_true]
            dsimp only
            rw [rup_at]
            dsimp only
            rw [if_pos rfl]; rfl
          · unfold entF
            dsimp only
            rw [rup_at]
            dsimp only
            rw [if_neg hj]
        exact KK H1 locs1 ad (fun _ _ => rfl) (wd_rup hW hq hw he hP1 hD1) hS1 ls hL
      · cases hs
  · -- getstatic
    next ix =>
    obtain rfl : len = 3 := hlen.elim (fun h => by cases h) id
    unfold chkF at hck
    dsimp only at hck
    obtain ⟨-, -, ⟨z1, z5, z20, z9⟩, -, -, -, -, -, -, ⟨hnw1, -⟩, -⟩ := hSt
    have row : ∀ {v : Value}, va_Z (sst o1).1 (sst o1).2.1 (sst o1).2.2 v A s s.heap → W p l e R s m args below meth c H locs g.1.2.1.1 g.1.2.1.2 Q (F0 m (pc + 3) ls (v :: st.map (tv ad sv))) → W p l e R s m args below meth c H locs g.1.2.1.1 g.1.2.1.2 Q (F0 m pc ls (st.map (tv ad sv))) := by
      intro v hz k
      rcases Bool.or_eq_true _ _ ▸ hck with h | h
      · exact va_gets hx hb hz hS hown (hts _ (wd_in h)) (fun _ h => h) hd k
      · exact va_getsN hx hb hz hS hown (va_Nw.use rfl (hnw1 _ (wn_in h))) (fun _ h => h) hd k
    cases h20 : Nat.beq o1 20 with
    | true =>
      rw [h20, cond_true] at hs
      obtain rfl := nat_beq h20
      obtain rfl := go_nx hs ha
      exact row z20 (KK H locs ad (fun _ _ => rfl) hW hS ls hL)
    | false =>
      rw [h20, cond_false] at hs
      obtain ⟨h1, h2⟩ := bif_some hs
      obtain rfl := go_nx h2 ha
      have K2 := KK H locs ad (fun _ _ => rfl) hW hS ls hL
      rcases Bool.or_eq_true _ _ ▸ h1 with h | h
      · obtain rfl := nat_beq h
        exact row z1 K2
      · rcases Bool.or_eq_true _ _ ▸ h with h | h
        · obtain rfl := nat_beq h
          exact row z5 K2
        · obtain rfl := nat_beq h
          exact row z9 K2
  · -- arraylength
    obtain rfl : len = 1 := hlen.elim (fun h => by cases h) id
    split at hs
    · next q r =>
      obtain ⟨h1, h2⟩ := bif_some hs
      simp only [Bool.and_eq_true] at h1
      have g1 := Nat.le_of_ble_eq_true h1.1
      have g2 := Nat.le_of_ble_eq_true h1.2
      obtain rfl := go_nx h2 ha
      have hq : pv g.1.1 q := hV.1 _ List.mem_cons_self
      have hat := mws_at (K := K) (ad := ad) hq
      have K2 := KK H locs ad (fun _ _ => rfl) hW hS ls hL
      have hk : (fam q.1).1 = 1 ∨ (fam q.1).1 = 2 ∨ (fam q.1).1 = 3 ∨ (fam q.1).1 = 4 ∨ (fam q.1).1 = 5 ∨ (fam q.1).1 = 6 := by omega
      rcases hk with hk | hk | hk | hk | hk | hk
      · rw [ent_s 0 hk] at hat; exact va_alen hx hb hK hW.2.1 (apl.idxOf q) 0 hat (mtys_0 K) rfl hd K2
      · rw [ent_s 1 hk] at hat; exact va_alen hx hb hK hW.2.1 (apl.idxOf q) 1 hat (mtys_1 K) rfl hd K2
      · rw [ent_s 2 hk] at hat; exact va_alen hx hb hK hW.2.1 (apl.idxOf q) 4 hat (mtys_4 K) rfl hd K2
      · rw [ent_s 3 hk] at hat; exact va_alen hx hb hK hW.2.1 (apl.idxOf q) 5 hat (mtys_5 K) rfl hd K2
      · rw [ent_s 4 hk] at hat; exact va_alen hx hb hK hW.2.1 (apl.idxOf q) 2 hat (mtys_2 K) rfl hd K2
      · rw [ent_s 5 hk] at hat; exact va_alen hx hb hK hW.2.1 (apl.idxOf q) 3 hat (mtys_3 K) rfl hd K2
    · next k n r =>
      have hn : n < 10 := hV.1 _ List.mem_cons_self
      obtain ⟨-, hX, -, hC, -, -, -, hB, -, -, -⟩ := hSt
      cases q1 : Nat.beq k 0 with
      | true =>
        rw [q1, cond_true] at hs
        obtain rfl := nat_beq q1
        obtain rfl := go_nx hs ha
        obtain ⟨b, b1, b2, b3, b4⟩ := hX n
        have K2 := KK H locs ad (fun _ _ => rfl) hW hS ls hL
        rw [List.map_cons, show tv ad sv (.inr (.inr (.inl (0, n)))) = .ref b from b1]
        exact va_slen hx hb b2 b3 b4 hS hd K2
      | false =>
        rw [q1, cond_false] at hs
        cases q2 : Nat.beq k 1 with
        | true =>
          rw [q2, cond_true] at hs
          obtain rfl := nat_beq q2
          obtain rfl := go_nx hs ha
          obtain ⟨b, b1, b2⟩ := hC n
          have K2 := KK H locs ad (fun _ _ => rfl) hW hS ls hL
          rw [List.map_cons, show tv ad sv (.inr (.inr (.inl (1, n)))) = .ref b from b1]
          exact va_tlen hx hb b2 hS rfl hd K2
        | false =>
          rw [q2, cond_false] at hs
          obtain ⟨q3, hs⟩ := bif_some hs
          obtain rfl := nat_beq q3
          obtain rfl := go_nx hs ha
          obtain ⟨b, b1, b2⟩ := hB n hn
          have K2 := KK H locs ad (fun _ _ => rfl) hW hS ls hL
          rw [List.map_cons, show tv ad sv (.inr (.inr (.inl (4, n)))) = .ref b from b1]
          exact va_tlen hx hb b2 hS rfl hd K2
    · cases hs
  · -- iaload
    obtain rfl : len = 1 := hlen.elim (fun h => by cases h) id
    split at hs
    · next j q r =>
      obtain ⟨h1, h2⟩ := bif_some hs
      obtain ⟨h3, rfl⟩ := gif_nx h2 ha
      have hq : pv g.1.1 q := hV.1 _ (List.mem_cons_of_mem _ List.mem_cons_self)
      have hat := mws_at (K := K) (ad := ad) hq
      rw [ent_s 0 (nat_beq h1)] at hat
      exact va_iald hx hb hK hW.2.1 (apl.idxOf q) 0 hat (mtys_0 K) (inb_in h3) hd (KK H locs ad (fun _ _ => rfl) hW hS ls hL)
    · next j k n r =>
      obtain ⟨-, hX, -, -, hM, -⟩ := hSt
      cases q1 : Nat.beq k 0 with
      | true =>
        rw [q1, cond_true] at hs
        obtain rfl := nat_beq q1
        obtain ⟨h3, rfl⟩ := gif_nx hs ha
        obtain ⟨b, b1, b2, b3, b4⟩ := hX n
        have K2 := KK H locs ad (fun _ _ => rfl) hW hS ls hL
        rw [List.map_cons, List.map_cons, show tv ad sv (.inr (.inr (.inl (0, n)))) = .ref b from b1]
        exact va_sld hx hb b2 b3 b4 hS (inb_in h3) hd K2
      | false =>
        rw [q1, cond_false] at hs
        obtain ⟨q3, hs⟩ := bif_some hs
        obtain rfl := nat_beq q3
        obtain ⟨h3, rfl⟩ := gif_nx hs ha
        obtain ⟨b, b1, b2⟩ := hM n
        have K2 := KK H locs ad (fun _ _ => rfl) hW hS ls hL
        rw [List.map_cons, List.map_cons, show tv ad sv (.inr (.inr (.inl (5, n)))) = .ref b from b1]
        exact va_ti hx hb b2 hS (inb_in h3) rfl hd K2
    · cases hs
  · -- caload
    obtain rfl : len = 1 := hlen.elim (fun h => by cases h) id
    split at hs
    · next j q r =>
      obtain ⟨h1, h2⟩ := bif_some hs
      obtain ⟨h3, rfl⟩ := gif_nx h2 ha
      have hq : pv g.1.1 q := hV.1 _ (List.mem_cons_of_mem _ List.mem_cons_self)
      have hat := mws_at (K := K) (ad := ad) hq
      rw [ent_s 1 (nat_beq h1)] at hat
      exact va_cald hx hb hK hW.2.1 (apl.idxOf q) 1 hat (mtys_1 K) (inb_in h3) hd (KK H locs ad (fun _ _ => rfl) hW hS ls hL)
    · cases hs
  · -- baload
    obtain rfl : len = 1 := hlen.elim (fun h => by cases h) id
    split at hs
    · next j k n r =>
      have hn : n < 10 := hV.1 _ (List.mem_cons_of_mem _ List.mem_cons_self)
      obtain ⟨-, -, -, -, -, -, -, hB, -⟩ := hSt
      obtain ⟨q3, hs⟩ := bif_some hs
      obtain rfl := nat_beq q3
      obtain ⟨h3, rfl⟩ := gif_nx hs ha
      obtain ⟨b, b1, b2⟩ := hB n hn
      have K2 := KK H locs ad (fun _ _ => rfl) hW hS ls hL
      rw [List.map_cons, List.map_cons, show tv ad sv (.inr (.inr (.inl (4, n)))) = .ref b from b1]
      exact va_tb hx hb b2 hS (inb_in h3) rfl hd K2
    · cases hs
  · -- aaload
    obtain rfl : len = 1 := hlen.elim (fun h => by cases h) id
    split at hs
    · next j q r =>
      obtain ⟨h1, h2⟩ := bif_some hs
      split at h2
      · next w hw =>
        obtain ⟨h3, rfl⟩ := gif_nx h2 ha
        have hq : pv g.1.1 q := hV.1 _ (List.mem_cons_of_mem _ List.mem_cons_self)
        have hat := mws_at (K := K) (ad := ad) hq
        have K2 := KK H locs ad (fun _ _ => rfl) hW hS ls hL
        have hv : va_rf (Option.map (adr ad) (g.1.2.2 q.1 q.2 j.toNatClampNeg)) = .ref (adr ad w) := by rw [hw]; rfl
        rcases Bool.or_eq_true _ _ ▸ h1 with h | h
        · rw [ent_s 2 (nat_beq h)] at hat
          have hin : vp_in j (fam q.1).2.2 := inb_in h3
          have hat : (mws K ad g)[apl.idxOf q]? = some (adr ad q, .inl (K.2.2.2.2.2.1, ((fam q.1).2.2, .inr (.inr (.inr (.inr (fun z => Option.map (adr ad) (g.1.2.2 q.1 q.2 z)))))))) := hat
          refine W.aald (v := va_rf (Option.map (adr ad) (g.1.2.2 q.1 q.2 j.toNatClampNeg))) (ty := .array .int) hx hb (hW.2.1 _ _ hat) ((hK.2 4 _ (mtys_4 K)).1 (fam q.1).2.2 (fun z => va_rf (Option.map (adr ad) (g.1.2.2 q.1 q.2 z)))) rfl (fun z => by cases z) (by show ¬ (j < 0 ∨ (arrV _ _ _).slots.size ≤ _); rw [arrV_size]; exact hin) (arrV_read K.2.2.2.2.2.1 (fun z => va_rf (Option.map (adr ad) (g.1.2.2 q.1 q.2 z))) (inb_lt h3)) rfl rfl hd ?_
          rw [hv]; exact K2
        · rw [ent_s 3 (nat_beq h)] at hat
          refine va_aldq hx hb hK hW.2.1 (apl.idxOf q) 5 hat (mtys_5 K) (inb_in h3) hd ?_
          rw [hv]; exact K2
      · cases h2
    · next j k n r =>
      obtain ⟨-, -, -, hC, -⟩ := hSt
      obtain ⟨q3, hs⟩ := bif_some hs
      obtain rfl := nat_beq q3
      obtain ⟨h3, rfl⟩ := gif_nx hs ha
      obtain ⟨b, b1, b2⟩ := hC n
      have K2 := KK H locs ad (fun _ _ => rfl) hW hS ls hL
      rw [List.map_cons, List.map_cons, show tv ad sv (.inr (.inr (.inl (1, n)))) = .ref b from b1]
      exact vb_tq hx hb b2 hS (inb_in h3) rfl hd K2
    · cases hs
  · -- iastore
    obtain rfl : len = 1 := hlen.elim (fun h => by cases h) id
    split at hs
    · next x j q r =>
      obtain ⟨h1, h2⟩ := bif_some hs
      obtain ⟨h3, rfl⟩ := gif_nx h2 ha
      have hq : pv g.1.1 q := hV.1 _ (List.mem_cons_of_mem _ (List.mem_cons_of_mem _ List.mem_cons_self))
      have hat := mws_at (K := K) (ad := ad) hq
      rw [ent_s 0 (nat_beq h1)] at hat
      refine va_iast hx hb hK hW.2.1 hW.2.2.1 hS (apl.idxOf q) 0 hat (mtys_0 K) (inb_in h3) hd (fun H1 locs1 hP1 hD1 hS1 => ?_)
      exact KK H1 locs1 ad (fun _ _ => rfl) (wd_mup hW hq (by rw [ent_s 0 (nat_beq h1)]; unfold entA; dsimp only; rw [mup_at]; rfl) hP1 hD1) hS1 ls hL
    · cases hs
  · -- castore
    obtain rfl : len = 1 := hlen.elim (fun h => by cases h) id
    split at hs
    · next x j q r =>
      obtain ⟨h1, h2⟩ := bif_some hs
      obtain ⟨h3, rfl⟩ := gif_nx h2 ha
      rw [Bool.and_eq_true] at h3
      have hq : pv g.1.1 q := hV.1 _ (List.mem_cons_of_mem _ (List.mem_cons_of_mem _ List.mem_cons_self))
      have hat := mws_at (K := K) (ad := ad) hq
      rw [ent_s 1 (nat_beq h1)] at hat
      refine va_cast hx hb hK hW.2.1 hW.2.2.1 hS (apl.idxOf q) 1 hat (mtys_1 K) (inb_in h3.2) hd (fun H1 locs1 hP1 hD1 hS1 => ?_)
      rw [(okT_char h3.1).1] at hP1 hD1
      exact KK H1 locs1 ad (fun _ _ => rfl) (wd_mup hW hq (by rw [ent_s 1 (nat_beq h1)]; unfold entA; dsimp only; rw [mup_at]; rfl) hP1 hD1) hS1 ls hL
    · cases hs
  · -- aastore
    obtain rfl : len = 1 := hlen.elim (fun h => by cases h) id
    split at hs
    · next w j q r =>
      obtain ⟨h1, h2⟩ := bif_some hs
      simp only [Bool.and_eq_true] at h1
      obtain ⟨h3, rfl⟩ := gif_nx h2 ha
      have hw : pv g.1.1 w := hV.1 _ List.mem_cons_self
      have hq : pv g.1.1 q := hV.1 _ (List.mem_cons_of_mem _ (List.mem_cons_of_mem _ List.mem_cons_self))
      have hat := mws_at (K := K) (ad := ad) hq
      rw [ent_s 3 (nat_beq h1.1)] at hat
      have hat2 := mws_at (K := K) (ad := ad) hw
      rw [ent_0 (nat_beq h1.2.1), nat_beq h1.2.2] at hat2
      refine va_astq (r := (RX7, TX7, 8)) hx hb hK hW.2.1 hW.2.2.1 hS (apl.idxOf q) 5 (apl.idxOf w) 1 hat (mtys_5 K) hat2 rfl (inb_in h3) hd (fun H1 locs1 hP1 hD1 hS1 => ?_)
      exact KK H1 locs1 ad (fun _ _ => rfl) (wd_rup hW hq hw (by
        rw [ent_s 3 (nat_beq h1.1)]
        unfold entA
        dsimp only
        rw [rup_at]
        refine congrArg (fun z => (.inl (K.2.2.2.2.2.2, ((fam q.1).2.2, .inr (.inr (.inr (.inr z))))) : va_E)) (funext fun i => ?_)
        unfold va_up
        by_cases e : i = j.toNatClampNeg
        · rw [if_pos e]
          show some (adr ad w) = Option.map (adr ad) (if i = j.toNatClampNeg then some w else _)
          rw [if_pos e]; rfl
        · rw [if_neg e]
          show Option.map (adr ad) (g.1.2.2 q.1 q.2 i) = Option.map (adr ad) (if i = j.toNatClampNeg then some w else _)
          rw [if_neg e]) hP1 hD1) hS1 ls hL
    · cases hs
  · -- laload
    obtain rfl : len = 1 := hlen.elim (fun h => by cases h) id
    split at hs
    · next j q r =>
      obtain ⟨h1, h2⟩ := bif_some hs
      obtain ⟨h3, rfl⟩ := gif_nx h2 ha
      have hq : pv g.1.1 q := hV.1 _ (List.mem_cons_of_mem _ List.mem_cons_self)
      have hat := mws_at (K := K) (ad := ad) hq
      have hf := pv_one5 hq (nat_beq h1)
      have h43 : (fam q.1).2.2 = 1 := by rw [hf]; decide +kernel
      rw [ent_s 4 (nat_beq h1), h43] at hat
      exact va_lald hx hb hK hW.2.1 (apl.idxOf q) 2 hat (mtys_2 K) (inb_in h3) hd (KK H locs ad (fun _ _ => rfl) hW hS ls hL)
    · cases hs
  · -- lastore
    obtain rfl : len = 1 := hlen.elim (fun h => by cases h) id
    split at hs
    · next x j q r =>
      obtain ⟨h1, h2⟩ := bif_some hs
      obtain ⟨h3, rfl⟩ := gif_nx h2 ha
      have hq : pv g.1.1 q := hV.1 _ (List.mem_cons_of_mem _ (List.mem_cons_of_mem _ List.mem_cons_self))
      have hat := mws_at (K := K) (ad := ad) hq
      have hf := pv_one5 hq (nat_beq h1)
      have h43 : (fam q.1).2.2 = 1 := by rw [hf]; decide +kernel
      rw [ent_s 4 (nat_beq h1), h43] at hat
      refine va_last hx hb hK hW.2.1 hW.2.2.1 hS (apl.idxOf q) 2 hat (mtys_2 K) (inb_in h3) hd (fun H1 locs1 hP1 hD1 hS1 => ?_)
      have hj : j.toNatClampNeg = 0 := by have := inb_lt h3; omega
      have hc : vp_cell K.2.2.2.1 (1, .inr (.inl (vp_updL (fun _ => g.2.1.1) j.toNatClampNeg x))) = vp_cell K.2.2.2.1 (1, .inr (.inl (fun _ => x))) := by
        rw [vp_cell_l, vp_cell_l, hj]
        unfold arrV
        congr 1
      exact KK H1 locs1 ad (fun _ _ => rfl) (wd_long hW hq (nat_beq h1) (en := .inl (K.2.2.2.1, (1, .inr (.inl (fun _ => x))))) (by rw [ent_s 4 (nat_beq h1), h43]; rfl) (va_P_cell hP1 hc) (va_D_cell hD1)) hS1 ls hL
    · cases hs
  · -- daload
    obtain rfl : len = 1 := hlen.elim (fun h => by cases h) id
    split at hs
    · next j q r =>
      obtain ⟨h1, h2⟩ := bif_some hs
      obtain ⟨h3, rfl⟩ := gif_nx h2 ha
      have hq : pv g.1.1 q := hV.1 _ (List.mem_cons_of_mem _ List.mem_cons_self)
      have hat := mws_at (K := K) (ad := ad) hq
      have hf := pv_one6 hq (nat_beq h1)
      have h43 : (fam q.1).2.2 = 1 := by rw [hf]; decide +kernel
      rw [ent_s 5 (nat_beq h1), h43] at hat
      exact va_dald hx hb hK hW.2.1 (apl.idxOf q) 3 hat (mtys_3 K) (inb_in h3) hd (KK H locs ad (fun _ _ => rfl) hW hS ls hL)
    · cases hs
  · -- dastore
    obtain rfl : len = 1 := hlen.elim (fun h => by cases h) id
    split at hs
    · next x j q r =>
      obtain ⟨h1, h2⟩ := bif_some hs
      obtain ⟨h3, rfl⟩ := gif_nx h2 ha
      have hq : pv g.1.1 q := hV.1 _ (List.mem_cons_of_mem _ (List.mem_cons_of_mem _ List.mem_cons_self))
      have hat := mws_at (K := K) (ad := ad) hq
      have hf := pv_one6 hq (nat_beq h1)
      have h43 : (fam q.1).2.2 = 1 := by rw [hf]; decide +kernel
      rw [ent_s 5 (nat_beq h1), h43] at hat
      refine va_dast hx hb hK hW.2.1 hW.2.2.1 hS (apl.idxOf q) 3 hat (mtys_3 K) (inb_in h3) hd (fun H1 locs1 hP1 hD1 hS1 => ?_)
      have hj : j.toNatClampNeg = 0 := by have := inb_lt h3; omega
      have hc : vp_cell K.2.2.2.2.1 (1, .inr (.inr (.inr (.inl (vf_upd (fun _ => g.2.1.2) j.toNatClampNeg x))))) = vp_cell K.2.2.2.2.1 (1, .inr (.inr (.inr (.inl (fun _ => x))))) := by
        rw [vp_cell_d, vp_cell_d, hj]
        unfold arrV
        congr 1
      exact KK H1 locs1 ad (fun _ _ => rfl) (wd_double hW hq (nat_beq h1) (en := .inl (K.2.2.2.2.1, (1, .inr (.inr (.inr (.inl (fun _ => x))))))) (by rw [ent_s 5 (nat_beq h1), h43]; rfl) (va_P_cell hP1 hc) (va_D_cell hD1)) hS1 ls hL
    · cases hs
  · cases hnw
  · cases hnw
  · cases hnw
  · cases hnw
  · -- the rest
    refine sp_ok hx hb hsv hown hd hlen ht (fun ix hi h0 => ?_) hs ha hL (fun hg ls' hL' => ?_)
    · unfold chkF at hck
      rcases hi with rfl | rfl
      · rcases Bool.or_eq_true _ _ ▸ hck with h | h
        · rw [h0] at h; cases h
        · exact hts _ (wd_in h)
      · rcases Bool.or_eq_true _ _ ▸ hck with h | h
        · rw [h0] at h; cases h
        · exact hts _ (wd_in h)
    · have K2 := KK H locs ad (fun _ _ => rfl) (by rw [hg]; exact hW) hS ls' hL'
      rw [hg] at K2
      exact K2
end SND3
