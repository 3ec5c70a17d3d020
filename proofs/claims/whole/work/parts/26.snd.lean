/-! ===== SOUNDNESS, LAST: a run of the small machine is a run of the machine ===== -/
def rmR (d mc ms : Nat) : Room := { frames := 24 + d, cells := mc, slots := ms, locals := 200 + 100 * d }
def wsM (mi : Nat) : List Cond := codew mi :: lw_g
def St (X : MX) (sv : Nat → Nat → Value) (xt : Nat → String) (K : MK) (A : Nat → Prop) (ad : Nat → Nat) (g : MG) (U : State) : Prop := va_K K.1 mcl (mtys K) U ∧ Sta X sv xt A U U.heap ∧ (∀ q, U.heap.size ≤ q → A q) ∧ Wd K ad A g U.heap
def QC (sv : Nat → Nat → Value) (K : MK) (A : Nat → Prop) (q : MRes) (ad : Nat → Nat) (k : Nat) : Array Value → State → Outcome → State → Prop := fun _ st o t => ∃ (v : Option MV) (g1 : MG) (ad1 : Nat → Nat), q = (.inl v, g1) ∧ o = .returned (v.map (tv ad1 sv)) ∧ (∀ j, j < k → ad1 j = ad j) ∧ Wd K ad1 A g1 t.heap ∧ va_F A st t
def XC (K : MK) (A : Nat → Prop) (q : MRes) (ad : Nat → Nat) (k : Nat) : String → State → State → Prop := fun E st t => ∃ (kd : Nat) (g1 : MG) (ad1 : Nat → Nat), q = (.inr kd, g1) ∧ kd < 6 ∧ E = xcls kd ∧ (∀ j, j < k → ad1 j = ad j) ∧ Wd K ad1 A g1 t.heap ∧ va_F A st t
theorem St.blind {X : MX} {sv : Nat → Nat → Value} {xt : Nat → String} {K : MK} {A : Nat → Prop} {ad : Nat → Nat} {g : MG} {U : State} {gf : JFrame} {mk : MethodId} {a : Array Value} (h : St X sv xt K A ad g U) : St X sv xt K A ad g (U.calling gf mk a) :=
  ⟨va_K.moved (u := U) (U := U.calling gf mk a) (Vm.Alike.refl U.vm) h.1, Sta.moved (u := U) (U := U.calling gf mk a) (State.WarmedH.refl U) h.2.1, h.2.2.1, h.2.2.2⟩
theorem Wd.kept {K : MK} {ad : Nat → Nat} {A : Nat → Prop} {g : MG} {H H1 : Heap} (h : Wd K ad A g H) (hk : ∀ q : Nat, q < H.size → H1[q]? = H[q]?) : Wd K ad A g H1 := ⟨h.1, h.2.1.kept (fun k x hx => hk x.1 ((h.2.1 k x hx).lt)), h.2.2.1, h.2.2.2⟩
theorem Wd.rf {K : MK} {ad : Nat → Nat} {A : Nat → Prop} {g : MG} {H : Heap} (h : Wd K ad A g H) : Rf g := ⟨h.1, h.2.2.2⟩
theorem and2 {a b : Bool} (h : (a && b) = true) : a = true ∧ b = true := by rwa [Bool.and_eq_true] at h
theorem good_g {w : Cond} (h : w ∈ lw_g) : w ∈ lw_g ∧ ((w.onTables && w.keeps) = true ∨ ∃ ty, w = .arrayClass ty) := ⟨h, good_of_word (List.mem_filter.mp h).2⟩
theorem okT_byte {x : Int32} (h : okT 4 x = true) : narrow .byte (.int x) = .int x := by
  have h1 : -128 ≤ x ∧ x ≤ 127 := of_decide_eq_true h
  have h2 := Int32.le_iff_toInt_le.mp h1.1
  have h3 := Int32.le_iff_toInt_le.mp h1.2
  have e1 : (-128 : Int32).toInt = -128 := by decide
  have e2 : (127 : Int32).toInt = 127 := by decide
  have : x.toInt8.toInt32 = x := by
    apply Int32.toInt_inj.mp
    rw [Int8.toInt_toInt32, Int32.toInt_toInt8]
    rw [Int.bmod_eq_of_le] <;> omega
  show Value.int x.toInt8.toInt32 = .int x
  rw [this]
theorem entL_one : ∀ (as : List MV), (as.all (fun v => Nat.beq (mcat v) 1)) = true → entL as = as.map some
  | [], _ => rfl
  | v :: r, h => by
    rw [List.all_cons, Bool.and_eq_true] at h
    unfold entL
    rw [nat_beq h.1, show Nat.beq 1 2 = false from rfl, cond_false, entL_one r h.2]; rfl
theorem lg_sl_one {ad : Nat → Nat} {sv : Nat → Nat → Value} (hsv : svok sv) : ∀ (as : List MV), (as.all (fun v => Nat.beq (mcat v) 1)) = true → lg_sl (as.map (tv ad sv)) = as.map (fun v => Slot.val (tv ad sv v))
  | [], _ => rfl
  | v :: r, h => by
    rw [List.all_cons, Bool.and_eq_true] at h
    have ih := lg_sl_one hsv r h.2 (ad := ad)
    have h1 : (tv ad sv v).category = 1 := (mcat_tv hsv v).trans (nat_beq h.1)
    unfold lg_sl at ih ⊢
    rw [List.map_cons, List.flatMap_cons, h1, if_neg (by decide), ih]; rfl
/-- a method's locals at its entry -/
theorem ent_lok {ad : Nat → Nat} {sv : Nat → Nat → Value} (hsv : svok sv) {as : List MV} {mi : Nat} (h : entOk as mi = true) :
    Lok (tv ad sv) ((lg_sl (as.map (tv ad sv)) ++ List.replicate (mnl mi - (lg_sl (as.map (tv ad sv))).length) Slot.unset).toArray) (entL as ++ List.replicate (mnl mi - (entL as).length) none) ∧
    ((lg_sl (as.map (tv ad sv)) ++ List.replicate (mnl mi - (lg_sl (as.map (tv ad sv))).length) Slot.unset).toArray).size = mnl mi := by
  unfold entOk at h
  rw [Bool.and_eq_true] at h
  have h1 := Nat.le_of_ble_eq_true h.1
  have e1 := entL_one as h.2
  have e2 := lg_sl_one hsv as h.2 (ad := ad)
  rw [e1, List.length_map] at h1
  have hh := lv_entry (as.map (tv ad sv)) (n := mnl mi) (by rw [e2, List.length_map]; exact h1)
  have hsz := hh.1
  refine ⟨⟨?_, hh.2.1, fun i v hi => ?_, fun i v hi hc => ?_⟩, hsz⟩
  · rw [hsz, e1, List.length_append, List.length_map, List.length_replicate]; omega
  · rw [e1] at hi
    rw [e2]
    rcases Nat.lt_or_ge i as.length with hl | hl
    · rw [List.getElem?_append_left (by rw [List.length_map]; exact hl), List.getElem?_map] at hi
      rw [List.getElem?_toArray, List.getElem?_append_left (by rw [List.length_map]; exact hl), List.getElem?_map]
      cases ha : as[i]? with
      | none => rw [ha] at hi; cases hi
      | some w => rw [ha] at hi; cases hi; rfl
    · rw [List.getElem?_append_right (by rw [List.length_map]; exact hl), List.getElem?_replicate] at hi
      split at hi <;> cases hi
  · rw [e1] at hi
    rcases Nat.lt_or_ge i as.length with hl | hl
    · rw [List.getElem?_append_left (by rw [List.length_map]; exact hl), List.getElem?_map] at hi
      cases ha : as[i]? with
      | none => rw [ha] at hi; cases hi
      | some w =>
        rw [ha] at hi; cases hi
        have := List.all_eq_true.mp h.2 _ (List.mem_of_getElem? ha)
        rw [nat_beq this] at hc
        cases hc
    · rw [List.getElem?_append_right (by rw [List.length_map]; exact hl), List.getElem?_replicate] at hi
      split at hi <;> cases hi
section SND9
variable {p : Program} {l : Launch} {e : Env} {R : Room} {s : State} {m : MethodId} {args : Array Value} {below : List Frame} {meth : Method} {c : Code} {H : Heap} {locs : List Loc} {Q : State → Prop}
variable {ls : Array Slot} {ad : Nat → Nat} {sv : Nat → Nat → Value} {xt : Nat → String} {K : MK} {A : Nat → Prop} {X : MX}
/-- a return -/
theorem ret_ok {d mi : Nat} (C : Cx X sv xt K A p l R s m args meth c d mi) {S : MS} {v : Option MV} {g1 : MG} (hs : step X mi S = some (.inr (.inr (.inr (.inl (v, g1)))))) {QQ : Array Value → State → Outcome → State → Prop} {XX : String → State → State → Prop}
    (hq : ∀ t : State, t.heap = H → s.WarmedH t.vm → QQ args s (.returned (v.map (tv ad sv))) t) (hf : ∀ q ∈ locs, A q.base) :
    W p l e R s m args below meth c H locs S.2.2.2.1.2.1.1 S.2.2.2.1.2.1.2 (vx_MQ below QQ XX args s S.2.2.2.1.2.1.1 S.2.2.2.1.2.1.2 A) (F0 m S.1 ls (S.2.2.1.map (tv ad sv))) := by
  obtain ⟨hx, hb, hml, hts, hown, hnm, hK, hSt, hA, htab, hfr, hlo, htr, hlk, hrt⟩ := C
  obtain ⟨-, i, len, o1, o2, o3, o4, ht, hc⟩ := step_ret hs
  obtain ⟨hd, hlen, -⟩ := chk_at ht
  refine vx_ret ?_
  rcases hc with ⟨rfl, x, hst, rfl, h9, hok⟩ | ⟨rfl, hst, rfl, hm⟩ | ⟨rfl, x, hst, rfl, hm⟩ | ⟨rfl, x, hst, rfl, hm⟩
  · obtain rfl : len = 1 := hlen.elim (fun h => by cases h) id
    rw [hst]
    cases hm : mret mi with
    | none => rw [hm] at h9; exact absurd rfl h9
    | some ty =>
      rw [hm] at h9 hok hrt
      refine W.zret hx hb hrt ?_ hq hf hd hlk
      cases ty <;> first | exact absurd rfl h9 | skip
      · exact okT_byte hok
      · exact (okT_char hok).2.1
      · rfl
      · exact (okT_bool hok).1
  · obtain rfl : len = 1 := hlen.elim (fun h => by cases h) id
    rw [hst]
    rw [hm] at hrt
    exact W.vret hx hb hrt hq hf hd hlk
  · obtain rfl : len = 1 := hlen.elim (fun h => by cases h) id
    rw [hst]
    rw [hm] at hrt
    exact W.dret hx hb hrt hq hf hd hlk
  · obtain rfl : len = 1 := hlen.elim (fun h => by cases h) id
    rw [hst]
    rw [hm] at hrt
    exact W.fret hx hb hrt hq hf hd hlk
theorem word_of {w : Cond} (h : wsOf w = true) (hts : ∀ w ∈ lw_g, w.before args s = true) (hn : ∀ w ∈ lw_n, va_Nw w s) : w.before args s = true := by
  unfold wsOf at h
  rw [Bool.and_eq_true] at h
  have hm := of_decide_eq_true h.1
  rcases Bool.or_eq_true _ _ ▸ h.2 with g | g
  · exact hts w (List.mem_filter.mpr ⟨hm, g⟩)
  · have h2 := hn w (List.mem_filter.mpr ⟨hm, g⟩)
    cases w <;> first | (cases g; done) | exact va_Nw.use rfl h2
/-- a throw -/
theorem thr_ok {d mi : Nat} (C : Cx X sv xt K A p l R s m args meth c d mi) {S : MS} {kd : Nat} {g1 : MG} (hs : step X mi S = some (.inr (.inr (.inr (.inr (kd, g1)))))) {QQ : Array Value → State → Outcome → State → Prop} {XX : String → State → State → Prop}
    (hS : va_S A s.heap H locs) (hsz : ls.size = mnl mi) (hr1 : g1.1.2.1.1 ≤ R.cells) (hr2 : g1.1.2.1.2 ≤ R.slots)
    (hX : kd < 6 → ∀ t : State, s.vm.Alike t.vm → H.size ≤ t.heap.size → (∀ q : Nat, q < H.size → t.heap[q]? = H[q]?) → XX (xcls kd) s t) (hf : ∀ q ∈ locs, A q.base) :
    W p l e R s m args below meth c H locs S.2.2.2.1.2.1.1 S.2.2.2.1.2.1.2 (vx_MQ below QQ XX args s g1.1.2.1.1 g1.1.2.1.2 A) (F0 m S.1 ls (S.2.2.1.map (tv ad sv))) := by
  obtain ⟨hx, hb, hml, hts, hown, hnm, hK, hSt, hA, htab, hfr, hlo, htr, hlk, hrt⟩ := C
  obtain ⟨ix, len, o2, o3, o4, ht, rfl, rfl, hcat⟩ := step_thr hs
  obtain ⟨hd, hlen, -, -, -, hcX⟩ := chk_at ht
  obtain rfl : len = 3 := hlen.elim (fun h => by cases h) id
  have hr1 : 1 + S.2.2.2.1.2.1.1 ≤ R.cells := hr1
  have hr2 : 6 + S.2.2.2.1.2.1.2 ≤ R.slots := hr2
  unfold chkX at hcX
  dsimp only at hcX
  rw [show Nat.beq 1 0 = false from rfl, Bool.false_or] at hcX
  cases hx9 : xl[o4]? with
  | none => rw [hx9] at hcX; cases hcX
  | some x =>
    rw [hx9] at hcX
    dsimp only at hcX
    simp only [Bool.and_eq_true] at hcX
    obtain ⟨a1, a2, a3⟩ := hcX
    have q1 := (nat_beq a1).symm
    have q2 := nat_beq a2
    have q3 := (nat_beq a3).symm
    clear a1 a2 a3
    have hb9 := List.all_eq_true.mp xl_ok x (List.mem_of_getElem? hx9)
    obtain ⟨x1, x2, x3, x4, x5, x6, x7⟩ := x
    dsimp only at q1 q2 q3
    subst q1; subst q2; subst q3
    unfold xlB at hb9
    dsimp only at hb9
    obtain ⟨b1, hb9⟩ := and2 hb9
    obtain ⟨b2, hb9⟩ := and2 hb9
    obtain ⟨b3, hb9⟩ := and2 hb9
    obtain ⟨b4, hb9⟩ := and2 hb9
    obtain ⟨b5, hb9⟩ := and2 hb9
    obtain ⟨b67, b8⟩ := and2 hb9
    obtain ⟨b6, b7⟩ := and2 b67
    have b1 := nat_beq b1
    have b2 := Nat.le_of_ble_eq_true b2
    have b4 := nat_beq b4
    have b5 := nat_beq b5
    rw [ht] at b8
    dsimp only at b8
    have b8 := nat_beq b8
    obtain ⟨sa, hsa⟩ := hSt.2.2.2.2.2.2.2.2.2.2 o4 _ hx9
    dsimp only at hsa
    obtain ⟨hZ1, hZ2⟩ := hSt.2.2.2.2.2.2.2.2.1
    have hn := hSt.2.2.2.2.2.2.2.2.2.1.1
    have hxb := x_all b2
    unfold xB at hxb
    simp only [Bool.and_eq_true] at hxb
    obtain ⟨c1, c2, c3, c4, c5⟩ := hxb
    rw [b1] at hown hsa
    have hown : s.vm.findClass "ColourOffice" = some m.cls := hown
    have hat : ∀ w ∈ xAt kd, w.before args s = true := fun w hw => word_of (Bool.and_eq_true _ _ ▸ List.all_eq_true.mp c3 w hw : _ ∧ _).1 hts hn
    have hgood : ∀ w ∈ Cond.classLink "ColourOffice" (xik kd) (xcls kd) :: Cond.initialized (xcls kd) :: xAt kd, vx_ot w = true := by
      intro w hw
      rcases List.mem_cons.mp hw with rfl | hw
      · rfl
      · rcases List.mem_cons.mp hw with rfl | hw
        · rfl
        · exact (Bool.and_eq_true _ _ ▸ List.all_eq_true.mp c3 w hw : _ ∧ _).2
    have hnames : ∀ n ∈ xnames, Bundle.fit n = true := fun n hn => List.all_eq_true.mp x_names n hn
    have hout : ∀ z ∈ c.exceptionTable.toList, ∀ q, covers z q = false := by
      intro z hz
      rw [htab (fun z => by rw [z] at b1; exact absurd b1 (by decide +kernel))] at hz
      rw [List.isEmpty_iff.mp b3] at hz
      cases hz
    have hlen2 : xnames.length = 2 := rfl
    have hcs : ((S.2.2.1.map (tv ad sv)).map fun v => v.category).sum ≤ 8 := by rw [cat_map hSt.1]; exact hcat
    rw [b8, b4] at hd
    subst b5
    have hnm1 : ∀ n ∈ ["java/lang/Exception"], Bundle.fit n = true := fun n hn => by
      rcases List.mem_cons.mp hn with rfl | hn
      · decide +kernel
      · cases hn
    by_cases hk2 : kd = 2
    · have e9 : xAt kd = ns_at "ColourOffice" (xic kd) (xcls kd) "java/lang/RuntimeException" ["java/lang/Exception"] := if_pos hk2
      rw [e9] at hat hgood
      cases b9 : Nat.beq x7 0 with
      | true =>
        rw [b9, cond_true] at b7
        simp only [Bool.and_eq_true] at b7
        exact ns_throwS hx hb htr hown c4 (by decide +kernel) hnm1 (hts _ (wd_in c1)) (hts _ (wd_in c2)) hsa hat hgood hZ1 hZ2 hS (by rw [hml]; exact hsz) hd (of_decide_eq_true b6) (of_decide_eq_true b7.1) (of_decide_eq_true b7.2.1) (of_decide_eq_true b7.2.2) (fun z hz => hout z hz _) (by show 1 + 4 < _; omega) (by show _ + (13 * (1 + 2) + 43) ≤ _; omega) (by omega) (by omega) hlk (hX b2) hf (by show _ ≤ 1 + _; omega) (by show _ ≤ 6 + _; omega)
      | false =>
        rw [b9, cond_false] at b7
        simp only [Bool.and_eq_true] at b7
        exact ns_throwSW hx hb htr hown c4 (by decide +kernel) hnm1 (hts _ (wd_in c1)) (hts _ (wd_in c2)) hsa hat hgood hZ1 hZ2 hS (by rw [hml]; exact hsz) hd (of_decide_eq_true b6) (of_decide_eq_true b7.1) (of_decide_eq_true b7.2.1) (of_decide_eq_true b7.2.2) (fun z hz => hout z hz _) (by show 1 + 4 < _; omega) (by show _ + (13 * (1 + 2) + 43) ≤ _; omega) (by omega) (by omega) hlk (hX b2) hf (by show _ ≤ 1 + _; omega) (by show _ ≤ 6 + _; omega)
    · have e9 : xAt kd = vx_atS "ColourOffice" (xic kd) (xcls kd) xnames := if_neg hk2
      rw [e9] at hat hgood
      cases b9 : Nat.beq x7 0 with
      | true =>
        rw [b9, cond_true] at b7
        simp only [Bool.and_eq_true] at b7
        exact vx_throwS hx hb htr hown c4 hnames (hts _ (wd_in c1)) (hts _ (wd_in c2)) hsa hat hgood hZ1 hZ2 hS (by rw [hml]; exact hsz) hd (of_decide_eq_true b6) (of_decide_eq_true b7.1) (of_decide_eq_true b7.2.1) (of_decide_eq_true b7.2.2) (fun z hz => hout z hz _) (by rw [hlen2]; omega) (by rw [hlen2]; omega) (by omega) (by omega) hlk (hX b2) hf (by show _ ≤ 1 + _; omega) (by show _ ≤ 6 + _; omega)
      | false =>
        rw [b9, cond_false] at b7
        simp only [Bool.and_eq_true] at b7
        exact vx_throwSW hx hb htr hown c4 hnames (hts _ (wd_in c1)) (hts _ (wd_in c2)) hsa hat hgood hZ1 hZ2 hS (by rw [hml]; exact hsz) hd (of_decide_eq_true b6) (of_decide_eq_true b7.1) (of_decide_eq_true b7.2.1) (of_decide_eq_true b7.2.2) (fun z hz => hout z hz _) (by rw [hlen2]; omega) (by rw [hlen2]; omega) (by omega) (by omega) hlk (hX b2) hf (by show _ ≤ 1 + _; omega) (by show _ ≤ 6 + _; omega)
end SND9
