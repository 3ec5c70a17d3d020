/-! ===== SOUNDNESS: the theorem ===== -/
def HR (X : MX) (sv : Nat → Nat → Value) (K : MK) (A : Nat → Prop) (p : Program) (l : Launch) (e : Env) (R : Room) (s : State) (m : MethodId) (args : Array Value) (below : List Frame) (meth : Method) (c : Code) (Q : State → Prop) (mi : Nat) (r : MRes) (ad0 : Nat → Nat) (k0 : Nat) : Prop :=
  ∀ (S1 : MS) (v : Option MV) (H1 : Heap) (locs1 : List Loc) (ad1 : Nat → Nat) (ls1 : Array Slot), step X mi S1 = some (.inr (.inr (.inr (.inl (v, r.2))))) → r.1 = .inl v → Wd K ad1 A S1.2.2.2 H1 → (∀ j, j < k0 → ad1 j = ad0 j) → va_S A s.heap H1 locs1 →
    W p l e R s m args below meth c H1 locs1 S1.2.2.2.1.2.1.1 S1.2.2.2.1.2.1.2 Q (F0 m S1.1 ls1 (S1.2.2.1.map (tv ad1 sv)))
def HT (X : MX) (sv : Nat → Nat → Value) (K : MK) (A : Nat → Prop) (p : Program) (l : Launch) (e : Env) (R : Room) (s : State) (m : MethodId) (args : Array Value) (below : List Frame) (meth : Method) (c : Code) (Q : State → Prop) (mi : Nat) (r : MRes) (ad0 : Nat → Nat) (k0 : Nat) : Prop :=
  ∀ (S1 : MS) (kd : Nat) (H1 : Heap) (locs1 : List Loc) (ad1 : Nat → Nat) (ls1 : Array Slot), step X mi S1 = some (.inr (.inr (.inr (.inr (kd, r.2))))) → r.1 = .inr kd → Wd K ad1 A S1.2.2.2 H1 → (∀ j, j < k0 → ad1 j = ad0 j) → va_S A s.heap H1 locs1 → ls1.size = mnl mi →
    W p l e R s m args below meth c H1 locs1 S1.2.2.2.1.2.1.1 S1.2.2.2.1.2.1.2 Q (F0 m S1.1 ls1 (S1.2.2.1.map (tv ad1 sv)))
def HP (K : MK) (A : Nat → Prop) (p : Program) (l : Launch) (e : Env) (R : Room) (s : State) (m : MethodId) (args : Array Value) (below : List Frame) (meth : Method) (c : Code) (Q : State → Prop) (mi : Nat) (r : MRes) (ad0 : Nat → Nat) (k0 : Nat) : Prop :=
  ∀ (kd pc : Nat) (ls1 : Array Slot) (rest : List Value) (H1 : Heap) (locs1 : List Loc) (ad1 : Nat → Nat) (q9 : Addr) (ce : Cell), r.1 = .inr kd → kd < 6 → hfind (mhd mi) pc kd = none → Wd K ad1 A r.2 H1 → (∀ j, j < k0 → ad1 j = ad0 j) → va_S A s.heap H1 locs1 → H1[q9]? = some ce → ce.vm = .none → s.vm.findClass (xcls kd) = some ce.cls →
    vx_W p l e R s m args below meth c H1 locs1 r.2.1.2.1.1 r.2.1.2.1.2 Q (F0 m pc ls1 rest) q9
/-- what the theorem says of runs of n steps at most -/
def SndN (X : MX) (n : Nat) : Prop := ∀ (d mi : Nat) (S : MS) (r : MRes), exec X n d mi S = some r → ∀ (sv : Nat → Nat → Value) (xt : Nat → String) (K : MK) (A : Nat → Prop) (p : Program) (l : Launch) (e : Env) (R : Room) (s : State) (m : MethodId) (args : Array Value) (below : List Frame) (meth : Method) (c : Code) (Q : State → Prop) (H : Heap) (locs : List Loc) (ad0 ad : Nat → Nat) (ls : Array Slot) (k0 : Nat),
  Cx X sv xt K A p l R s m args meth c d mi → Wd K ad A S.2.2.2 H → VS S.2.2.2 S.2.1 S.2.2.1 → va_S A s.heap H locs → Lok (tv ad sv) ls S.2.1 → ls.size = mnl mi → (∀ j, j < k0 → ad j = ad0 j) → k0 ≤ S.2.2.2.1.1 → r.2.1.2.1.1 ≤ R.cells → r.2.1.2.1.2 ≤ R.slots →
  HR X sv K A p l e R s m args below meth c Q mi r ad0 k0 → HT X sv K A p l e R s m args below meth c Q mi r ad0 k0 → HP K A p l e R s m args below meth c Q mi r ad0 k0 →
  W p l e R s m args below meth c H locs S.2.2.2.1.2.1.1 S.2.2.2.1.2.1.2 Q (F0 m S.1 ls (S.2.2.1.map (tv ad sv)))
section SNDB
variable {p : Program} {l : Launch} {e : Env} {R : Room} {s : State} {m : MethodId} {args : Array Value} {below : List Frame} {meth : Method} {c : Code} {H : Heap} {locs : List Loc} {Q : State → Prop}
variable {ls : Array Slot} {ad : Nat → Nat} {sv : Nat → Nat → Value} {xt : Nat → String} {K : MK} {A : Nat → Prop} {X : MX}
theorem snd_body {n d mi : Nat} {as : List MV} {g : MG} {q : MRes} (IH : SndN X n) (he : exec X n d mi (entry mi as g) = some q) (hmi : mi < 332) (hne : mi ≠ lawI) (hok : entOk as mi = true) (hVal : ∀ v ∈ as, ValV g v)
    (C : Cx X sv xt K A p l R s m (as.map (tv ad sv)).toArray meth c d mi) (h1 : q.2.1.2.1.1 ≤ R.cells) (h2 : q.2.1.2.1.2 ≤ R.slots) (hW : Wd K ad A g s.heap) :
    W p l e R s m (as.map (tv ad sv)).toArray below meth c s.heap [] 0 0 (vx_MQ below (QC sv K A q ad g.1.1) (XC K A q ad g.1.1) (as.map (tv ad sv)).toArray s q.2.1.2.1.1 q.2.1.2.1.2 A) (entryFrame m (as.map (tv ad sv)).toArray (mnl mi)) := by
  have C2 := C
  obtain ⟨hx, hb, hml, hts, hown, hnm, hK, hSt, hA, htab, hfr, hlo, htr, hlk, hrt⟩ := C2
  obtain ⟨hL, hLn⟩ := ent_lok (ad := ad) hSt.1 hok
  rw [lg_entry_eq]
  have hent : (entL as).all (fun _ => true) = true := by simp
  refine IH d mi (entry mi as g) q he sv xt K A p l e R s m _ below meth c _ s.heap [] ad ad _ g.1.1 C hW ⟨(fun v hv => by cases hv), fun i v hi => ?_⟩ va_S.rf hL hLn (fun _ _ => rfl) (Nat.le_refl _) h1 h2 ?_ ?_ ?_
  · unfold entOk at hok
    rw [Bool.and_eq_true] at hok
    have hi : (entL as ++ List.replicate (mnl mi - (entL as).length) none)[i]? = some (some v) := hi
    rw [entL_one as hok.2] at hi
    rcases Nat.lt_or_ge i as.length with hl | hl
    · rw [List.getElem?_append_left (by rw [List.length_map]; exact hl), List.getElem?_map] at hi
      cases ha : as[i]? with
      | none => rw [ha] at hi; cases hi
      | some w => rw [ha] at hi; cases hi; exact hVal _ (List.mem_of_getElem? ha)
    · rw [List.getElem?_append_right (by rw [List.length_map]; exact hl), List.getElem?_replicate] at hi
      split at hi <;> cases hi
  · intro S1 v H1 locs1 ad1 ls1 hs hr hW1 hag hS1
    have e1 := (step_ret hs).1
    have h := ret_ok (ad := ad1) (ls := ls1) (H := H1) (locs := locs1) (e := e) (below := below) C hs (QQ := QC sv K A q ad g.1.1) (XX := XC K A q ad g.1.1) (fun t ht hw => ⟨v, q.2, ad1, Prod.ext hr rfl, rfl, hag, by rw [ht, e1]; exact hW1, hS1.F ht⟩) hS1.2.2
    rw [← e1] at h
    rw [← e1]
    exact h
  · intro S1 kd H1 locs1 ad1 ls1 hs hr hW1 hag hS1 hsz
    obtain ⟨-, -, -, -, -, -, -, e1, -⟩ := step_thr hs
    refine thr_ok (ad := ad1) C hs hS1 hsz h1 h2 (fun hk t hal hz hq => ⟨kd, q.2, ad1, Prod.ext hr rfl, hk, rfl, hag, ?_, ?_⟩) hS1.2.2
    · rw [e1]
      exact hW1.kept hq
    · exact ⟨Nat.le_trans hS1.1 hz, fun z hz1 hz2 => by rw [hq z (Nat.lt_of_lt_of_le hz1 hS1.1)]; exact hS1.2.1 z hz1 hz2⟩
  · intro kd pc ls1 rest H1 locs1 ad1 q9 ce hr hk hf hW1 hag hS1 hcell hv hcl
    exact vx_outP (own := mcn (mcls mi)) hown hlk (fun z hz => pass_ok C hk (hdz_none _ _ (hdB_at hmi) hf z (by rw [← htab hne]; exact hz))) hcell hv hcl (fun t ht hal => ⟨kd, q.2, ad1, Prod.ext hr rfl, hk, rfl, hag, by rw [ht]; exact hW1, hS1.F ht⟩) hS1.2.2 (Nat.le_refl _) (Nat.le_refl _)
theorem nmeth_lt : nmeth.all (fun i => Nat.blt i 332) = true := by decide +kernel
theorem nmeth_in {mi : Nat} (h : mi ∈ nmeth) : mi < 332 := Nat.le_of_ble_eq_true (List.all_eq_true.mp nmeth_lt mi h)
theorem law_no : lawI ∉ nmeth := by decide +kernel
theorem ne_law {mi : Nat} (h : mi ∈ nmeth) : mi ≠ lawI := fun z => law_no (z ▸ h)
theorem snd_met {n d mi : Nat} {as : List MV} {g : MG} {q : MRes} (IH : SndN X n) (he : exec X n d mi (entry mi as g) = some q) (hmi : mi ∈ nmeth) (hok : entOk as mi = true) (hVal : ∀ v ∈ as, ValV g v) (htr : l.stackTraces = false) :
    vx_Met l (mY mi) (wsM mi) (rmR d q.2.1.2.1.1 q.2.1.2.1.2) (va_Pc (as.map (tv ad sv)) (St X sv xt K A ad g)) (QC sv K A q ad g.1.1) (XC K A q ad g.1.1) q.2.1.2.1.1 q.2.1.2.1.2 A := by
  obtain ⟨m1, -, m3, m4, m5, m6, -⟩ := meth_at hmi
  cases hh : hasH mi with
  | false =>
    have hw : wsM mi = Cond.code (mY mi) (mbytes mi) (mnl mi) (mret mi) :: lw_g := by unfold wsM codew; rw [hh]; rfl
    refine vx_ofW (cc := mbytes mi) (maxL := mnl mi) (ret := mret mi) m3 hw ?_
    intro p e s m args below meth c s₁ B hml ht hv
    obtain ⟨rfl, hv⟩ := hv
    obtain ⟨hK, hSt, hA, hW⟩ := hv
    have hts := atoms_spec (ws := wsM mi) B.pre
    have hown : s.vm.findClass (mY mi).cls = some m.cls := findClass_of_methodNamed B.named
    rw [m6] at hown
    refine snd_body IH he (nmeth_in hmi) (ne_law hmi) hok hVal ⟨B.exec, B.bytes, hml, fun w hw => hts w (List.mem_cons_of_mem _ hw), hown, fun h9 => (name_of_methodNamed B.named B.method).1.trans h9, hK, hSt, hA, fun _ => ?_, Nat.le_refl _, Nat.le_refl _, htr, B.notSynchronized, B.returns⟩ (Nat.le_refl _) (Nat.le_refl _) hW
    unfold hasH at hh
    rw [Bool.not_eq_false'] at hh
    rw [List.isEmpty_iff.mp hh]
    cases hz : c.exceptionTable.toList with
    | nil => rfl
    | cons z r => rw [hz] at ht; exact (ht z List.mem_cons_self).elim
  | true =>
    have hw : wsM mi = Cond.codeWith (mY mi) (mbytes mi) (mnl mi) (mret mi) (mhh mi) :: lw_g := by unfold wsM codew; rw [hh]; rfl
    refine vx_ofWH (cc := mbytes mi) (maxL := mnl mi) (ret := mret mi) (hh := mhh mi) m3 hw ?_
    intro p e s m args below meth c s₁ B hml hv
    obtain ⟨rfl, hv⟩ := hv
    obtain ⟨hK, hSt, hA, hW⟩ := hv
    have hts := atoms_spec (ws := wsM mi) B.pre
    have hown : s.vm.findClass (mY mi).cls = some m.cls := findClass_of_methodNamed B.named
    rw [m6] at hown
    exact snd_body IH he (nmeth_in hmi) (ne_law hmi) hok hVal ⟨B.exec, B.bytes, hml, fun w hw => hts w (List.mem_cons_of_mem _ hw), hown, fun h9 => (name_of_methodNamed B.named B.method).1.trans h9, hK, hSt, hA, fun _ => vx_table (x := mY mi) B (hts _ (by rw [hw]; exact List.mem_cons_self)), Nat.le_refl _, Nat.le_refl _, htr, B.notSynchronized, B.returns⟩ (Nat.le_refl _) (Nat.le_refl _) hW
end SNDB
