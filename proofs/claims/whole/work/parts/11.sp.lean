/-! ===== SOUNDNESS, FIRST: what a state of the small machine says of the machine; the steps that touch no cell ===== -/
abbrev MA2 : Type := (Nat → Nat) × (Nat → Nat → Value)
/-- a value: objects at their addresses, static things by sv -/
def tv (ad : Nat → Nat) (sv : Nat → Nat → Value) : MV → Value
  | .inl x => .int x
  | .inr (.inl q) => .ref (adr ad q)
  | .inr (.inr (.inl q)) => sv q.1 q.2
  | .inr (.inr (.inr v)) => v
def svok (sv : Nat → Nat → Value) : Prop := ∀ k n, (k < 9 → ∃ a, sv k n = .ref a) ∧ (sv k n).category = 1
def Lok (t : MV → Value) (ls : Array Slot) (L : ML) : Prop := ls.size = L.length ∧ lv_wf ls ∧ (∀ (i : Nat) (v : MV), L[i]? = some (some v) → ls[i]? = some (Slot.val (t v))) ∧ ∀ (i : Nat) (v : MV), L[i]? = some (some v) → mcat v = 2 → i + 2 = L.length
def Nx (a : MA) (S' : MS) : Prop := a = .inl S' ∨ a = .inr (.inl (true, S'))
theorem go_nx {pc : Nat} {L : ML} {st : List MV} {g : MG} {a : MA} {S' : MS} (h : go pc L st g = some a) (ha : Nx a S') : S' = (pc, (L, (st, g))) := by
  cases h
  rcases ha with h | h
  · exact (Sum.inl.inj h).symm
  · cases h
theorem gif_nx {b : Bool} {pc : Nat} {L : ML} {st : List MV} {g : MG} {a : MA} {S' : MS} (h : gif b pc L st g = some a) (ha : Nx a S') : b = true ∧ S' = (pc, (L, (st, g))) := by
  cases h
  rcases ha with h | h
  · cases h
  · have h2 := Sum.inl.inj (Sum.inr.inj h)
    exact ⟨congrArg Prod.fst h2, (congrArg Prod.snd h2).symm⟩
theorem elim_some {α β : Type} {x : Option α} {f : α → Option β} {y : β} (h : x.elim none f = some y) : ∃ v, x = some v ∧ f v = some y := by
  cases x with
  | none => cases h
  | some v => exact ⟨v, rfl, h⟩
theorem bif_some {α : Type} {b : Bool} {x : Option α} {y : α} (h : (bif b then x else none) = some y) : b = true ∧ x = some y := by
  cases b with
  | true => exact ⟨rfl, h⟩
  | false => cases h
theorem mload_ok {L : ML} {k : Nat} {v : MV} (h : mload L k = some v) : L[k]? = some (some v) := by
  unfold mload at h
  split at h
  · next w e => cases h; exact e
  · cases h
theorem isr_ref {sv : Nat → Nat → Value} {ad : Nat → Nat} (hsv : svok sv) {v : MV} (h : isr v = true) : ∃ a, tv ad sv v = .ref a := by
  rcases v with x | q | q | v
  · cases h
  · exact ⟨_, rfl⟩
  · exact (hsv q.1 q.2).1 (Nat.le_of_ble_eq_true h)
  · cases h
theorem isv_int {v : MV} (h : isv v = true) : ∃ x, v = .inl x := by
  rcases v with x | q | q | v
  · exact ⟨x, rfl⟩
  · cases h
  · cases h
  · cases h
theorem mcat_tv {sv : Nat → Nat → Value} {ad : Nat → Nat} (hsv : svok sv) (v : MV) : (tv ad sv v).category = mcat v := by
  rcases v with x | q | q | v
  · rfl
  · rfl
  · exact (hsv q.1 q.2).2
  · rfl
theorem nat_beq {a b : Nat} (h : Nat.beq a b = true) : a = b := Nat.eq_of_beq_eq_true h
def Lpr (t : MV → Value) (L : ML) : List (Nat × Value) := (List.range L.length).filterMap (fun i => match L[i]? with
  | some (some v) => some (i, t v)
  | _ => none)
theorem Lpr_mem {t : MV → Value} {L : ML} {q : Nat × Value} : q ∈ Lpr t L ↔ ∃ v, L[q.1]? = some (some v) ∧ q.2 = t v := by
  unfold Lpr
  rw [List.mem_filterMap]
  constructor
  · rintro ⟨i, -, h⟩
    split at h
    · next v e => cases h; exact ⟨v, e, rfl⟩
    · cases h
  · rintro ⟨v, h, h2⟩
    refine ⟨q.1, List.mem_range.mpr (List.getElem?_eq_some_iff.mp h).1, ?_⟩
    rw [h]
    dsimp only
    rw [← h2]
theorem Lok.has {t : MV → Value} {ls : Array Slot} {L : ML} (h : Lok t ls L) : lv_has ls L.length (Lpr t L) := ⟨h.1, h.2.1, fun q hq => by
  obtain ⟨v, h1, h2⟩ := Lpr_mem.mp hq
  rw [h2]
  exact h.2.2.1 _ _ h1⟩
/-- a store of one slot -/
theorem mstore1 {L L' : ML} {i : Nat} {v : MV} (h : mstore L i v = some L') (hc : mcat v = 1) : i < L.length ∧ L' = L.set i (some v) ∧ (∀ j w, L[j]? = some (some w) → mcat w = 2 → j + 2 = L.length → j + 1 ≠ i) := by
  unfold mstore at h
  rw [hc] at h
  have e : Nat.beq 1 2 = false := rfl
  rw [e, cond_false] at h
  cases hb : Nat.blt (i + 1) L.length with
  | true =>
    rw [hb, cond_true] at h
    have := Nat.le_of_ble_eq_true hb
    exact ⟨by omega, (Option.some.inj h).symm, fun j w _ _ h2 => by omega⟩
  | false =>
    rw [hb, cond_false] at h
    obtain ⟨h1, h⟩ := bif_some h
    have h1 := nat_beq h1
    refine ⟨by omega, ?_, ?_⟩
    · cases i with
      | zero => exact (Option.some.inj h).symm
      | succ j =>
        dsimp only at h
        split at h
        · next w e =>
          cases hw : Nat.beq (mcat w) 2 with
          | true => rw [hw] at h; cases h
          | false => rw [hw] at h; exact (Option.some.inj h).symm
        · exact (Option.some.inj h).symm
    · intro j w hj hw h2 h3
      subst h3
      dsimp only at h
      rw [hj] at h
      dsimp only at h
      rw [hw] at h
      cases h
theorem Lok.store1 {t : MV → Value} {ls ls' : Array Slot} {L L' : ML} {i : Nat} {v : MV} (h : Lok t ls L) (hm : mstore L i v = some L') (hc : mcat v = 1) (hcat : ∀ w, (t w).category = mcat w)
    (h' : lv_has ls' L.length ((i, t v) :: (Lpr t L).filter (fun q => !(q.1 == i) && !(q.1 + 1 == i && q.2.category == 2)))) : Lok t ls' L' := by
  obtain ⟨h1, rfl, h3⟩ := mstore1 hm hc
  refine ⟨by rw [List.length_set]; exact h'.1, h'.2.1, fun j w hj => ?_, fun j w hj hw => ?_⟩
  · by_cases e : j = i
    · subst e
      rw [List.getElem?_set_self h1] at hj
      cases hj
      exact h'.2.2 _ List.mem_cons_self
    · rw [List.getElem?_set_ne (Ne.symm e)] at hj
      have hk := h'.2.2 (j, t w) (List.mem_cons_of_mem _ (List.mem_filter.mpr ⟨Lpr_mem.mpr ⟨w, hj, rfl⟩, by
        have e1 : (j == i) = false := by simpa using e
        have e2 : (j + 1 == i && (t w).category == 2) = false := by
          rw [hcat]
          cases hq : (mcat w == 2) with
          | false => rw [Bool.and_false]
          | true =>
            have hq := eq_of_beq hq
            have h4 := h3 j w hj hq (h.2.2.2 j w hj hq)
            rw [Bool.and_true]
            simpa using h4
        rw [e1, e2]; rfl⟩))
      exact hk
  · by_cases e : j = i
    · subst e
      rw [List.getElem?_set_self h1] at hj
      cases hj
      rw [hc] at hw; cases hw
    · rw [List.getElem?_set_ne (Ne.symm e)] at hj
      rw [List.length_set]
      exact h.2.2.2 j w hj hw
theorem mstore2 {L L' : ML} {i : Nat} {v : MV} (h : mstore L i v = some L') (hc : mcat v = 2) : i + 2 = L.length ∧ L' = (L.set i (some v)).set (i + 1) none := by
  unfold mstore at h
  rw [hc] at h
  have e : Nat.beq 2 2 = true := rfl
  rw [e, cond_true] at h
  obtain ⟨h1, h⟩ := bif_some h
  exact ⟨nat_beq h1, (Option.some.inj h).symm⟩
theorem Lok.store2 {t : MV → Value} {ls ls' : Array Slot} {L L' : ML} {i : Nat} {v : MV} (h : Lok t ls L) (hm : mstore L i v = some L') (hc : mcat v = 2)
    (h' : lv_has ls' L.length ((i, t v) :: (Lpr t L).filter (fun q => !(q.1 == i) && (!(q.1 == i + 1) && !(q.1 + 1 == i && q.2.category == 2))))) (hcat : ∀ w, (t w).category = mcat w) : Lok t ls' L' := by
  obtain ⟨h1, rfl⟩ := mstore2 hm hc
  refine ⟨by rw [List.length_set, List.length_set]; exact h'.1, h'.2.1, fun j w hj => ?_, fun j w hj hw => ?_⟩
  · by_cases e1 : j = i + 1
    · subst e1
      rw [List.getElem?_set_self (by rw [List.length_set]; omega)] at hj
      cases hj
    · rw [List.getElem?_set_ne (Ne.symm e1)] at hj
      by_cases e : j = i
      · subst e
        rw [List.getElem?_set_self (by omega)] at hj
        cases hj
        exact h'.2.2 _ List.mem_cons_self
      · rw [List.getElem?_set_ne (Ne.symm e)] at hj
        exact h'.2.2 (j, t w) (List.mem_cons_of_mem _ (List.mem_filter.mpr ⟨Lpr_mem.mpr ⟨w, hj, rfl⟩, by
          have e2 : (j == i) = false := by simpa using e
          have e3 : (j == i + 1) = false := by simpa using e1
          have e4 : (j + 1 == i && (t w).category == 2) = false := by
            rw [hcat]
            cases hq : (mcat w == 2) with
            | false => rw [Bool.and_false]
            | true =>
              have hq := eq_of_beq hq
              have h4 := h.2.2.2 j w hj hq
              rw [Bool.and_true]
              have : ¬ j + 1 = i := by omega
              simpa using this
          rw [e2, e3, e4]; rfl⟩))
  · rw [List.length_set, List.length_set]
    by_cases e1 : j = i + 1
    · subst e1
      rw [List.getElem?_set_self (by rw [List.length_set]; omega)] at hj
      cases hj
    · rw [List.getElem?_set_ne (Ne.symm e1)] at hj
      by_cases e : j = i
      · subst e; exact h1
      · rw [List.getElem?_set_ne (Ne.symm e)] at hj
        exact h.2.2.2 j w hj hw
/-- lengths of the instructions, but of switches -/
def ilen : Instr → Nat
  | .iload _ => 2
  | .aload _ => 2
  | .fload _ => 2
  | .dload _ => 2
  | .istore _ => 2
  | .astore _ => 2
  | .fstore _ => 2
  | .dstore _ => 2
  | .bipush _ => 2
  | .ldc _ => 2
  | .newarray _ => 2
  | .iinc _ _ => 3
  | .sipush _ => 3
  | .ldc_w _ => 3
  | .goto _ => 3
  | .ifCond _ _ => 3
  | .if_icmp _ _ => 3
  | .getfield _ => 3
  | .putfield _ => 3
  | .getstatic _ => 3
  | .new _ => 3
  | .anewarray _ => 3
  | .invokevirtual _ => 3
  | .invokestatic _ => 3
  | .invokespecial _ => 3
  | .multianewarray _ _ => 4
  | _ => 1
def isw : Instr → Bool
  | .tableswitch _ _ _ _ => true
  | _ => false
/-- targets of jumps and switches -/
def tgok (pc : Nat) (i : Instr) (o1 : Nat) : Bool := match i with
  | .goto off => decide ((pc : Int) + off = (o1 : Int))
  | .ifCond _ off => decide ((pc : Int) + off = (o1 : Int))
  | .if_icmp _ off => decide ((pc : Int) + off = (o1 : Int))
  | .tableswitch d lo hi os => decide (0 ≤ (pc : Int) + d) && (decide (lo ≤ hi) && (decide ((os.size : Int) = hi - lo + 1) && os.toList.all (fun o => decide (0 ≤ (pc : Int) + o))))
  | _ => true
section SND1
variable {p : Program} {l : Launch} {e : Env} {R : Room} {s : State} {m : MethodId} {args : Array Value} {below : List Frame} {meth : Method} {c : Code} {H : Heap} {locs : List Loc} {cells slots : Nat} {Q : State → Prop}
variable {cc : ByteArray} {ls : Array Slot} {ad : Nat → Nat} {sv : Nat → Nat → Value}
theorem st_i (hx : p.tables.exec = Jvm.exec) (hb : c.code = cc) (hsv : svok sv) {pc k : Nat} {L L' : ML} {v : MV} {r : List Value} {len : Nat} (hL : Lok (tv ad sv) ls L) (hm : mstore L k v = some L') (hc : mcat v = 1)
    (row : ∀ lv' : List (Nat × Value), (k, tv ad sv v) :: (Lpr (tv ad sv) L).filter (fun q => !(q.1 == k) && !(q.1 + 1 == k && q.2.category == 2)) = lv' → (∀ ls' : Array Slot, lv_has ls' L.length lv' → W p l e R s m args below meth c H locs cells slots Q (F0 m (pc + len) ls' r)) → W p l e R s m args below meth c H locs cells slots Q (F0 m pc ls (tv ad sv v :: r)))
    (K : ∀ ls', Lok (tv ad sv) ls' L' → W p l e R s m args below meth c H locs cells slots Q (F0 m (pc + len) ls' r)) : W p l e R s m args below meth c H locs cells slots Q (F0 m pc ls (tv ad sv v :: r)) :=
  row _ rfl (fun ls' h' => K ls' (hL.store1 hm hc (mcat_tv hsv) h'))
set_option maxHeartbeats 2000000 in
theorem sp_ok (hx : p.tables.exec = Jvm.exec) (hb : c.code = cc) (hsv : svok sv) {own : String} (hown : s.vm.findClass own = some m.cls) {pc len : Nat} {i : Instr} {o1 o2 o3 o4 : Nat} {L : ML} {st : List MV} {g : MG} {a : MA} {S' : MS}
    (hd : decode cc pc = .ok (i, len)) (hlen : isw i = true ∨ len = ilen i) (ht : tgok pc i o1 = true) (hc1 : ∀ ix, (i = .ldc ix ∨ i = .ldc_w ix) → o3 = 0 → (Cond.constant own ix (Int32.ofNat o1)).before args s = true)
    (hs : sp pc len i o1 o2 o3 o4 L st g = some a) (ha : Nx a S') (hL : Lok (tv ad sv) ls L)
    (K : S'.2.2.2 = g → ∀ ls', Lok (tv ad sv) ls' S'.2.1 → W p l e R s m args below meth c H locs cells slots Q (F0 m S'.1 ls' (S'.2.2.1.map (tv ad sv)))) :
    W p l e R s m args below meth c H locs cells slots Q (F0 m pc ls (st.map (tv ad sv))) := by
  unfold sp at hs
  split at hs
  · -- aload_n
    obtain ⟨v, h1, h2⟩ := elim_some hs
    obtain ⟨h3, h4⟩ := bif_some h2
    obtain rfl := go_nx h4 ha
    obtain rfl : len = 1 := hlen.elim (fun h => by cases h) id
    obtain ⟨b, hb2⟩ := isr_ref (ad := ad) hsv h3
    have K := K rfl ls hL
    rw [List.map_cons, hb2] at K
    exact lv_aload_n hx hb hd rfl (by rw [hL.2.2.1 _ _ (mload_ok h1), hb2]) K
  · obtain ⟨v, h1, h2⟩ := elim_some hs
    obtain ⟨h3, h4⟩ := bif_some h2
    obtain rfl := go_nx h4 ha
    obtain rfl : len = 2 := hlen.elim (fun h => by cases h) id
    obtain ⟨b, hb2⟩ := isr_ref (ad := ad) hsv h3
    have K := K rfl ls hL
    rw [List.map_cons, hb2] at K
    exact lv_aload hx hb hd (by rw [hL.2.2.1 _ _ (mload_ok h1), hb2]) K
  · -- iload_n
    obtain ⟨v, h1, h2⟩ := elim_some hs
    obtain ⟨h3, h4⟩ := bif_some h2
    obtain rfl := go_nx h4 ha
    obtain rfl : len = 1 := hlen.elim (fun h => by cases h) id
    obtain ⟨x, rfl⟩ := isv_int h3
    exact lv_iload_n hx hb hd rfl (hL.2.2.1 _ _ (mload_ok h1)) (K rfl ls hL)
  · obtain ⟨v, h1, h2⟩ := elim_some hs
    obtain ⟨h3, h4⟩ := bif_some h2
    obtain rfl := go_nx h4 ha
    obtain rfl : len = 2 := hlen.elim (fun h => by cases h) id
    obtain ⟨x, rfl⟩ := isv_int h3
    exact lv_iload hx hb hd (hL.2.2.1 _ _ (mload_ok h1)) (K rfl ls hL)
  · -- fload
    obtain ⟨v, h1, h2⟩ := elim_some hs
    obtain rfl : len = 2 := hlen.elim (fun h => by cases h) id
    split at h2
    · obtain rfl := go_nx h2 ha
      exact lv_fload hx hb hd (hL.2.2.1 _ _ (mload_ok h1)) (K rfl ls hL)
    · cases h2
  · -- dload
    obtain ⟨v, h1, h2⟩ := elim_some hs
    obtain rfl : len = 2 := hlen.elim (fun h => by cases h) id
    split at h2
    · obtain rfl := go_nx h2 ha
      exact lv_dload hx hb hd (hL.2.2.1 _ _ (mload_ok h1)) (K rfl ls hL)
    · cases h2
  · -- istore_n
    obtain rfl : len = 1 := hlen.elim (fun h => by cases h) id
    split at hs
    · obtain ⟨L2, h1, h2⟩ := elim_some hs
      obtain rfl := go_nx h2 ha
      exact st_i (v := .inl _) hx hb hsv hL h1 rfl (fun lv' hl kk => lv_istore_n hx hb hd rfl hL.has (mstore1 h1 rfl).1 hl kk) (fun ls' h' => K rfl ls' h')
    · cases hs
  · obtain rfl : len = 2 := hlen.elim (fun h => by cases h) id
    split at hs
    · obtain ⟨L2, h1, h2⟩ := elim_some hs
      obtain rfl := go_nx h2 ha
      exact st_i (v := .inl _) hx hb hsv hL h1 rfl (fun lv' hl kk => lv_istore hx hb hd hL.has (mstore1 h1 rfl).1 hl kk) (fun ls' h' => K rfl ls' h')
    · cases hs
  · -- astore_n
    obtain rfl : len = 1 := hlen.elim (fun h => by cases h) id
    split at hs
    · obtain ⟨L2, h1, h2⟩ := elim_some hs
      obtain rfl := go_nx h2 ha
      exact st_i (v := .inr (.inl _)) hx hb hsv hL h1 rfl (fun lv' hl kk => lv_astore_n hx hb hd rfl hL.has (mstore1 h1 rfl).1 hl kk) (fun ls' h' => K rfl ls' h')
    · next q r =>
      obtain ⟨hq, hs⟩ := bif_some hs
      obtain ⟨L2, h1, h2⟩ := elim_some hs
      obtain rfl := go_nx h2 ha
      obtain ⟨b, hb2⟩ := (hsv q.1 q.2).1 (Nat.le_of_ble_eq_true hq)
      exact st_i (v := .inr (.inr (.inl q))) hx hb hsv hL h1 rfl (fun lv' hl kk => by
        have hb3 : tv ad sv (.inr (.inr (.inl q))) = .ref b := hb2
        rw [hb3] at hl ⊢
        exact lv_astore_n hx hb hd rfl hL.has (mstore1 h1 rfl).1 hl kk) (fun ls' h' => K rfl ls' h')
    · cases hs
  · obtain rfl : len = 2 := hlen.elim (fun h => by cases h) id
    split at hs
    · obtain ⟨L2, h1, h2⟩ := elim_some hs
      obtain rfl := go_nx h2 ha
      exact st_i (v := .inr (.inl _)) hx hb hsv hL h1 rfl (fun lv' hl kk => lv_astore hx hb hd hL.has (mstore1 h1 rfl).1 hl kk) (fun ls' h' => K rfl ls' h')
    · next q r =>
      obtain ⟨hq, hs⟩ := bif_some hs
      obtain ⟨L2, h1, h2⟩ := elim_some hs
      obtain rfl := go_nx h2 ha
      obtain ⟨b, hb2⟩ := (hsv q.1 q.2).1 (Nat.le_of_ble_eq_true hq)
      exact st_i (v := .inr (.inr (.inl q))) hx hb hsv hL h1 rfl (fun lv' hl kk => by
        have hb3 : tv ad sv (.inr (.inr (.inl q))) = .ref b := hb2
        rw [hb3] at hl ⊢
        exact lv_astore hx hb hd hL.has (mstore1 h1 rfl).1 hl kk) (fun ls' h' => K rfl ls' h')
    · cases hs
  · -- fstore
    obtain rfl : len = 2 := hlen.elim (fun h => by cases h) id
    split at hs
    · obtain ⟨L2, h1, h2⟩ := elim_some hs
      obtain rfl := go_nx h2 ha
      exact st_i (v := vx (.float _)) hx hb hsv hL h1 rfl (fun lv' hl kk => lv_fstore hx hb hd hL.has (mstore1 h1 rfl).1 hl kk) (fun ls' h' => K rfl ls' h')
    · cases hs
  · -- dstore
    obtain rfl : len = 2 := hlen.elim (fun h => by cases h) id
    split at hs
    · obtain ⟨L2, h1, h2⟩ := elim_some hs
      obtain rfl := go_nx h2 ha
      exact lv_dstore hx hb hd hL.has (by have := (mstore2 h1 rfl).1; omega) rfl (fun ls' h' => K rfl ls' (hL.store2 h1 rfl h' (mcat_tv hsv)))
    · cases hs
  · -- iinc
    next k n =>
    obtain rfl : len = 3 := hlen.elim (fun h => by cases h) id
    split at hs
    · next x hx1 =>
      obtain ⟨L2, h1, h2⟩ := elim_some hs
      obtain rfl := go_nx h2 ha
      obtain ⟨j, hj⟩ := List.getElem?_of_mem (Lpr_mem (t := tv ad sv) (q := (k, .int x)).mpr ⟨.inl x, mload_ok hx1, rfl⟩)
      exact lv_iinc hx hb hd hL.has hj rfl (mstore1 h1 rfl).1 rfl (fun ls' h' => K rfl ls' (hL.store1 (v := .inl _) h1 rfl (mcat_tv hsv) h'))
    · cases hs
  · -- iconst
    obtain rfl : len = 1 := hlen.elim (fun h => by cases h) id
    obtain rfl := go_nx hs ha
    exact lv_iconst hx hb hd rfl (K rfl ls hL)
  · obtain rfl : len = 2 := hlen.elim (fun h => by cases h) id
    obtain rfl := go_nx hs ha
    exact lv_bipush hx hb hd rfl (K rfl ls hL)
  · obtain rfl : len = 3 := hlen.elim (fun h => by cases h) id
    obtain rfl := go_nx hs ha
    exact lv_sipush hx hb hd rfl (K rfl ls hL)
  · -- ldc
    obtain rfl : len = 2 := hlen.elim (fun h => by cases h) id
    obtain ⟨h1, h2⟩ := bif_some hs
    obtain rfl := go_nx h2 ha
    exact lv_ldc hx hb hown (hc1 _ (Or.inl rfl) (nat_beq h1)) hd (K rfl ls hL)
  · obtain rfl : len = 3 := hlen.elim (fun h => by cases h) id
    obtain ⟨h1, h2⟩ := bif_some hs
    obtain rfl := go_nx h2 ha
    exact lv_ldcw hx hb hown (hc1 _ (Or.inr rfl) (nat_beq h1)) hd (K rfl ls hL)
  · obtain rfl : len = 1 := hlen.elim (fun h => by cases h) id
    obtain rfl := go_nx hs ha
    exact lv_lconst hx hb hd rfl (K rfl ls hL)
  · -- fconst
    next n =>
    obtain rfl : len = 1 := hlen.elim (fun h => by cases h) id
    obtain ⟨h1, h2⟩ := bif_some hs
    obtain rfl := go_nx h2 ha
    obtain rfl : n = 0 := Fin.ext (nat_beq h1)
    exact lv_fconst0 hx hb hd (K rfl ls hL)
  · next n =>
    obtain rfl : len = 1 := hlen.elim (fun h => by cases h) id
    obtain ⟨h1, h2⟩ := bif_some hs
    obtain rfl := go_nx h2 ha
    obtain rfl : n = 0 := Fin.ext (nat_beq h1)
    exact lv_dconst0 hx hb hd (K rfl ls hL)
  · -- dup
    obtain rfl : len = 1 := hlen.elim (fun h => by cases h) id
    split at hs
    · obtain ⟨h1, h2⟩ := bif_some hs
      obtain rfl := go_nx h2 ha
      exact lv_dup hx hb hd ((mcat_tv hsv _).trans (nat_beq h1)) (K rfl ls hL)
    · cases hs
  · -- dup2
    obtain rfl : len = 1 := hlen.elim (fun h => by cases h) id
    split at hs
    · obtain ⟨h1, h2⟩ := bif_some hs
      obtain ⟨h3, h4⟩ := (Bool.and_eq_true _ _ ▸ h1 : _ ∧ _)
      obtain rfl := go_nx h2 ha
      exact lv_dup2_11 hx hb hd ((mcat_tv hsv _).trans (nat_beq h3)) ((mcat_tv hsv _).trans (nat_beq h4)) (K rfl ls hL)
    · cases hs
  · -- pop
    obtain rfl : len = 1 := hlen.elim (fun h => by cases h) id
    split at hs
    · obtain ⟨h1, h2⟩ := bif_some hs
      obtain rfl := go_nx h2 ha
      exact lv_pop hx hb hd ((mcat_tv hsv _).trans (nat_beq h1)) (K rfl ls hL)
    · cases hs
  · obtain rfl : len = 1 := hlen.elim (fun h => by cases h) id
    split at hs
    · obtain rfl := go_nx hs ha
      exact lv_ineg hx hb hd (K rfl ls hL)
    · cases hs
  · obtain rfl : len = 1 := hlen.elim (fun h => by cases h) id
    split at hs
    · obtain rfl := go_nx hs ha
      exact lv_i2c hx hb hd rfl (K rfl ls hL)
    · cases hs
  · obtain rfl : len = 1 := hlen.elim (fun h => by cases h) id
    split at hs
    · obtain rfl := go_nx hs ha
      exact lv_i2l hx hb hd rfl (K rfl ls hL)
    · cases hs
  · obtain rfl : len = 1 := hlen.elim (fun h => by cases h) id
    split at hs
    · obtain rfl := go_nx hs ha
      exact lv_i2f hx hb hd (K rfl ls hL)
    · cases hs
  · obtain rfl : len = 1 := hlen.elim (fun h => by cases h) id
    split at hs
    · obtain rfl := go_nx hs ha
      exact lv_i2d hx hb hd (K rfl ls hL)
    · cases hs
  · obtain rfl : len = 1 := hlen.elim (fun h => by cases h) id
    split at hs
    · obtain ⟨h1, rfl⟩ := gif_nx hs ha
      exact lv_f2d hx hb hd (by have h9 := of_decide_eq_true h1; exact h9) (K rfl ls hL)
    · cases hs
  · obtain rfl : len = 1 := hlen.elim (fun h => by cases h) id
    split at hs
    · obtain ⟨h1, rfl⟩ := gif_nx hs ha
      exact lv_fdiv hx hb hd (by have h9 := of_decide_eq_true h1; exact h9) (K rfl ls hL)
    · cases hs
  · obtain rfl : len = 1 := hlen.elim (fun h => by cases h) id
    split at hs
    · obtain ⟨h1, rfl⟩ := gif_nx hs ha
      exact lv_ddiv hx hb hd (by have h9 := of_decide_eq_true h1; exact h9) (K rfl ls hL)
    · cases hs
  · obtain rfl : len = 1 := hlen.elim (fun h => by cases h) id
    split at hs
    · obtain rfl := go_nx hs ha
      exact W.lcmp hx hb hd (K rfl ls hL)
    · cases hs
  · obtain rfl : len = 1 := hlen.elim (fun h => by cases h) id
    split at hs
    · obtain rfl := go_nx hs ha
      exact lv_fcmp hx hb hd (K rfl ls hL)
    · cases hs
  · obtain rfl : len = 1 := hlen.elim (fun h => by cases h) id
    split at hs
    · obtain rfl := go_nx hs ha
      exact lv_dcmp hx hb hd (K rfl ls hL)
    · cases hs
  · -- goto
    obtain rfl : len = 3 := hlen.elim (fun h => by cases h) id
    obtain rfl := go_nx hs ha
    exact lv_goto hx hb hd (of_decide_eq_true ht) (K rfl ls hL)
  · -- ifCond
    next cn off =>
    obtain rfl : len = 3 := hlen.elim (fun h => by cases h) id
    have hto : (pc : Int) + off = (o1 : Int) := of_decide_eq_true ht
    clear ht
    split at hs
    · next x r =>
      obtain rfl := go_nx hs ha
      have K := K rfl ls hL
      dsimp only at K
      cases cn
      · exact lv_if_eq hx hb hd hto (fun q => by rw [show cmpB .eq x 0 = true from decide_eq_true q, cond_true] at K; exact K) (fun q => by rw [show cmpB .eq x 0 = false from decide_eq_false q, cond_false] at K; exact K)
      · exact lv_if_ne hx hb hd hto (fun q => by rw [show cmpB .ne x 0 = true from decide_eq_true q, cond_true] at K; exact K) (fun q => by rw [show cmpB .ne x 0 = false from decide_eq_false (fun z => z q), cond_false] at K; exact K)
      · exact lv_if_lt hx hb hd hto (fun q => by rw [show cmpB .lt x 0 = true from decide_eq_true q, cond_true] at K; exact K) (fun q => by rw [show cmpB .lt x 0 = false from decide_eq_false q, cond_false] at K; exact K)
      · exact lv_if_ge hx hb hd hto (fun q => by rw [show cmpB .ge x 0 = true from decide_eq_true q, cond_true] at K; exact K) (fun q => by rw [show cmpB .ge x 0 = false from decide_eq_false q, cond_false] at K; exact K)
      · exact lv_if_gt hx hb hd hto (fun q => by rw [show cmpB .gt x 0 = true from decide_eq_true q, cond_true] at K; exact K) (fun q => by rw [show cmpB .gt x 0 = false from decide_eq_false q, cond_false] at K; exact K)
      · exact lv_if_le hx hb hd hto (fun q => by rw [show cmpB .le x 0 = true from decide_eq_true q, cond_true] at K; exact K) (fun q => by rw [show cmpB .le x 0 = false from decide_eq_false q, cond_false] at K; exact K)
    · cases hs
  · -- if_icmp
    next cn off =>
    obtain rfl : len = 3 := hlen.elim (fun h => by cases h) id
    have hto : (pc : Int) + off = (o1 : Int) := of_decide_eq_true ht
    clear ht
    split at hs
    · next y x r =>
      obtain rfl := go_nx hs ha
      have K := K rfl ls hL
      dsimp only at K
      cases cn
      · exact lv_icmp_eq hx hb hd hto (fun q => by rw [show cmpB .eq x y = true from decide_eq_true q, cond_true] at K; exact K) (fun q => by rw [show cmpB .eq x y = false from decide_eq_false q, cond_false] at K; exact K)
      · exact lv_icmp_ne hx hb hd hto (fun q => by rw [show cmpB .ne x y = true from decide_eq_true q, cond_true] at K; exact K) (fun q => by rw [show cmpB .ne x y = false from decide_eq_false (fun z => z q), cond_false] at K; exact K)
      · exact lv_icmp_lt hx hb hd hto (fun q => by rw [show cmpB .lt x y = true from decide_eq_true q, cond_true] at K; exact K) (fun q => by rw [show cmpB .lt x y = false from decide_eq_false q, cond_false] at K; exact K)
      · exact lv_icmp_ge hx hb hd hto (fun q => by rw [show cmpB .ge x y = true from decide_eq_true q, cond_true] at K; exact K) (fun q => by rw [show cmpB .ge x y = false from decide_eq_false q, cond_false] at K; exact K)
      · exact lv_icmp_gt hx hb hd hto (fun q => by rw [show cmpB .gt x y = true from decide_eq_true q, cond_true] at K; exact K) (fun q => by rw [show cmpB .gt x y = false from decide_eq_false q, cond_false] at K; exact K)
      · exact lv_icmp_le hx hb hd hto (fun q => by rw [show cmpB .le x y = true from decide_eq_true q, cond_true] at K; exact K) (fun q => by rw [show cmpB .le x y = false from decide_eq_false q, cond_false] at K; exact K)
    · cases hs
  · -- tableswitch
    next d lo hi os =>
    split at hs
    · next x r =>
      obtain rfl := go_nx hs ha
      have K := K rfl ls hL
      dsimp only at K
      unfold tgok at ht
      simp only [Bool.and_eq_true, decide_eq_true_eq, List.all_eq_true] at ht
      obtain ⟨t1, t2, t3, t4⟩ := ht
      unfold swt at K
      by_cases hq : x.toInt < lo ∨ hi < x.toInt
      · rw [if_pos hq] at K
        exact lv_tableOut hx hb hd hq (Int.toNat_of_nonneg t1).symm K
      · rw [if_neg hq] at K
        have hq1 : ¬ x.toInt < lo := fun z => hq (Or.inl z)
        have hq2 : ¬ hi < x.toInt := fun z => hq (Or.inr z)
        have hj : (x.toInt - lo).toNat < os.size := by omega
        have ho : os[(x.toInt - lo).toNat]? = some (os[(x.toInt - lo).toNat]) := Array.getElem?_eq_getElem hj
        have hg : os.getD (x.toInt - lo).toNat 0 = os[(x.toInt - lo).toNat] := by
          rw [Array.getD_eq_getD_getElem?, ho]; rfl
        rw [hg] at K
        exact lv_tableIn hx hb hd hq1 hq2 ho (Int.toNat_of_nonneg (t4 _ (by simp))).symm K
    · cases hs
  · -- two ints
    split at hs
    · next y x r =>
      split at hs
      · next bb vv hal =>
        obtain ⟨h1, rfl⟩ := gif_nx hs ha
        have K := K rfl ls hL
        unfold alu at hal
        split at hal
        all_goals first | (cases hal; done) | skip
        all_goals (obtain rfl : len = 1 := hlen.elim (fun h => by cases h) id)
        all_goals cases hal
        · exact lv_iadd hx hb hd K
        · exact lv_isub hx hb hd K
        · exact lv_imul hx hb hd K
        · exact lv_idiv hx hb hd (of_decide_eq_true h1) K
        · exact lv_irem hx hb hd (of_decide_eq_true h1) K
        · exact lv_iand hx hb hd K
        · exact lv_ior hx hb hd K
        · exact lv_ixor hx hb hd K
        · exact lv_ishl hx hb hd K
        · exact lv_ishr hx hb hd K
        · exact lv_iushr hx hb hd rfl K
      · cases hs
    · cases hs
end SND1
