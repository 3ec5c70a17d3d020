/-! ===== SOUNDNESS, TENTH: one step of a method ===== -/
/-- where a method stands: machine, code, words, classes, static things, its table of handlers, room for d calls one in another -/
def Cx (X : MX) (sv : Nat → Nat → Value) (xt : Nat → String) (K : MK) (A : Nat → Prop) (p : Program) (l : Launch) (R : Room) (s : State) (m : MethodId) (args : Array Value) (meth : Method) (c : Code) (d mi : Nat) : Prop :=
  p.tables.exec = Jvm.exec ∧ c.code = mbytes mi ∧ c.maxLocals = mnl mi ∧ (∀ w ∈ lw_g, w.before args s = true) ∧ s.vm.findClass (mcn (mcls mi)) = some m.cls ∧ ((mY mi).name = "<init>" → meth.name = "<init>") ∧ va_K K.1 mcl (mtys K) s ∧ Sta X sv xt A s s.heap ∧ (∀ q, s.heap.size ≤ q → A q) ∧
  (mi ≠ lawI → c.exceptionTable.toList = tableOf (mhh mi)) ∧ 24 + d ≤ R.frames ∧ 200 + 100 * d ≤ R.locals ∧ l.stackTraces = false ∧ meth.locks = false ∧ meth.sig.returnType = mret mi
theorem cat_map {sv : Nat → Nat → Value} {ad : Nat → Nat} (hsv : svok sv) (r : List MV) : ((r.map (tv ad sv)).map fun v => v.category).sum = mcats r := by
  induction r with
  | nil => rfl
  | cons v r ih =>
    rw [List.map_cons, List.map_cons, List.sum_cons, ih, mcat_tv hsv]; rfl
theorem min_two (x y : Int32) : (if y < x then y else x) = (if x < y then x else y) := by
  by_cases h1 : y < x
  · have h2 : ¬ x < y := by
      rw [Int32.lt_iff_toInt_lt] at h1 ⊢
      omega
    rw [if_pos h1, if_neg h2]
  · rw [if_neg h1]
    by_cases h2 : x < y
    · rw [if_pos h2]
    · rw [if_neg h2]
      rw [Int32.lt_iff_toInt_lt] at h1 h2
      exact Int32.toInt_inj.mp (by omega)
theorem abs_two (x : Int32) : (if 0 ≤ x then x else 0 - x) = (if x < 0 then -x else x) := by
  by_cases h1 : 0 ≤ x
  · have h2 : ¬ x < 0 := by
      rw [Int32.le_iff_toInt_le] at h1
      rw [Int32.lt_iff_toInt_lt]
      omega
    rw [if_pos h1, if_neg h2]
  · have h2 : x < 0 := by
      rw [Int32.le_iff_toInt_le] at h1
      rw [Int32.lt_iff_toInt_lt]
      omega
    rw [if_neg h1, if_pos h2, Int32.zero_sub]
theorem step_at {X : MX} {mi : Nat} {S : MS} {a : MA} (h : step X mi S = some a) : ∃ (i : Instr) (len o1 o2 o3 o4 : Nat), tb mi S.1 = some (i, (len, (o1, (o2, (o3, o4))))) ∧ stepI X mi S.1 i len o1 o2 o3 o4 S.2.1 S.2.2.1 S.2.2.2 = some a := by
  unfold step at h
  split at h
  · next i len o1 o2 o3 o4 ht => exact ⟨i, len, o1, o2, o3, o4, ht, h⟩
  · cases h
theorem tb_lt {mi pc : Nat} {e : ME} (h : tb mi pc = some e) : mi < 332 ∧ pc < mlast mi := by
  unfold tb at h
  obtain ⟨h1, -⟩ := bif_some h
  rw [Bool.and_eq_true] at h1
  exact ⟨Nat.le_of_ble_eq_true h1.1, Nat.le_of_ble_eq_true h1.2⟩
theorem chk_at {mi pc : Nat} {i : Instr} {len o1 o2 o3 o4 : Nat} (h : tb mi pc = some (i, (len, (o1, (o2, (o3, o4)))))) : decode (mbytes mi) pc = .ok (i, len) ∧ (isw i = true ∨ len = ilen i) ∧ tgok pc i o1 = true ∧ chkF mi i o1 o2 o3 o4 = true ∧ chkC mi i o1 o2 o3 o4 = true ∧ chkX mi pc i o1 o2 o3 o4 = true := by
  obtain ⟨h1, h2⟩ := tb_lt h
  have h3 := List.all_eq_true.mp (chk_all mi h1) pc (List.mem_range.mpr h2)
  unfold chkP at h3
  rw [h] at h3
  dsimp only at h3
  unfold chkE at h3
  simp only [Bool.and_eq_true] at h3
  obtain ⟨a, b, c, d, e, f⟩ := h3
  refine ⟨of_decide_eq_true a, ?_, c, d, e, f⟩
  rcases Bool.or_eq_true _ _ ▸ b with b | b
  · exact Or.inl b
  · exact Or.inr (nat_beq b)
section SND7
variable {p : Program} {l : Launch} {e : Env} {R : Room} {s : State} {m : MethodId} {args : Array Value} {below : List Frame} {meth : Method} {c : Code} {H : Heap} {locs : List Loc} {Q : State → Prop}
variable {ls : Array Slot} {ad : Nat → Nat} {sv : Nat → Nat → Value} {xt : Nat → String} {K : MK} {A : Nat → Prop} {X : MX}
theorem math_at : Cond.initialized "java/lang/Math" ∈ lw_g ∧ Cond.static Lib.Math.max.name ∈ lw_g ∧ Cond.code Lib.Math.max.name Lib.Math.max.code 2 (some .int) ∈ lw_g ∧ Cond.static Lib.Math.min.name ∈ lw_g ∧ Cond.code Lib.Math.min.name Lib.Math.min.code 2 (some .int) ∈ lw_g ∧ Cond.static Lib.Math.abs.name ∈ lw_g ∧ Cond.code Lib.Math.abs.name Lib.Math.abs.code 1 (some .int) ∈ lw_g ∧ Cond.instanceMethod Lib.objectInit ∈ lw_g ∧ Cond.code Lib.objectInit ⟨#[0xb1]⟩ 1 none ∈ lw_g := by
  have h := w_math
  simp only [Bool.and_eq_true] at h
  obtain ⟨a, b, c, d, e, f, g, i, j⟩ := h
  exact ⟨wsIn_in a, wsIn_in b, wsIn_in c, wsIn_in d, wsIn_in e, wsIn_in f, wsIn_in g, wsIn_in i, wsIn_in j⟩
set_option maxHeartbeats 4000000 in
theorem step_ok {d mi : Nat} (C : Cx X sv xt K A p l R s m args meth c d mi) {S S' : MS} {a : MA} (hs : step X mi S = some a) (ha : Nx a S') (hW : Wd K ad A S.2.2.2 H) (hV : VS S.2.2.2 S.2.1 S.2.2.1) (hS : va_S A s.heap H locs) (hL : Lok (tv ad sv) ls S.2.1) (hLn : ls.size = mnl mi)
    (hr1 : S'.2.2.2.1.2.1.1 ≤ R.cells) (hr2 : S'.2.2.2.1.2.1.2 ≤ R.slots) (KK : Cont p l e R s m args below meth c Q sv K A ad S.2.2.2.1.1 S') :
    W p l e R s m args below meth c H locs S.2.2.2.1.2.1.1 S.2.2.2.1.2.1.2 Q (F0 m S.1 ls (S.2.2.1.map (tv ad sv))) := by
  obtain ⟨hx, hb, hml, hts, hown, hnm, hK, hSt, hA, htab, hfr, hlo, -, -, -⟩ := C
  obtain ⟨i, len, o1, o2, o3, o4, ht, hs⟩ := step_at hs
  obtain ⟨hd, hlen, htg, hcF, hcC, hcX⟩ := chk_at ht
  obtain ⟨pc, L, st, g⟩ := S
  dsimp only at hs hd hlen htg hcF hcC hcX hW hV hL KK ht ⊢
  obtain ⟨j1, j2, j3, j4, j5, j6, j7, j8, j9⟩ := math_at
  have hinv : ∀ {len' : Nat}, isinv i = true → inv pc len' o1 o2 o3 L st g = some a → len' = 3 → W p l e R s m args below meth c H locs g.1.2.1.1 g.1.2.1.2 Q (F0 m pc ls (st.map (tv ad sv))) := by
    intro len' hi hs' hl3
    subst hl3
    obtain rfl : len = 3 := by
      cases i <;> first | (cases hi; done) | exact hlen.elim (fun h => by cases h) id
    rcases inv_nx hs' ha with ⟨h3, q, r, rfl, hr, rfl⟩ | ⟨h3, y, x, r, rfl, hr, rfl⟩ | ⟨h3, y, x, r, rfl, hr, rfl⟩ | ⟨h3, x, r, rfl, hr, rfl⟩
    · subst h3
      have K2 := KK H locs ad (fun _ _ => rfl) hW hS ls hL
      cases i <;> first | (cases hi; done) | skip
      · next ix =>
        unfold chkC at hcC
        have hcC : wd o4 (.methodLink (mcn (mcls mi)) ix Lib.objectInit) = true := by simpa using hcC
        exact W.objInit hx hb hown (hts _ (wd_in hcC)) (hts _ j8) (hts _ j9) rfl (by rw [hml]; exact hLn) rfl hd (by omega) (by
          have h9 := lv_room (m := m) (pc := pc) (ls := ls) (rest := Value.ref (adr ad q) :: r.map (tv ad sv)) (st := r.map (tv ad sv)) (by rw [cat_map hSt.1]; exact hr)
          have : 2 * (F0 m pc ls (List.map (tv ad sv) (Sum.inr (Sum.inl q) :: r))).monitorRoom + ((r.map (tv ad sv)).map fun v => v.category).sum ≤ 8 := h9
          omega) K2
      · unfold chkC at hcC; simp at hcC
      · unfold chkC at hcC; simp at hcC
    · subst h3
      have K2 := KK H locs ad (fun _ _ => rfl) hW hS ls hL
      cases i <;> first | (cases hi; done) | skip
      · unfold chkC at hcC; simp at hcC
      · next ix =>
        unfold chkC at hcC
        have hcC : wd o4 (.methodLink (mcn (mcls mi)) ix Lib.Math.max.name) = true := by simpa [mthN] using hcC
        exact va_mmax hx hb (by rw [hml]; exact hLn.symm) hown (hts _ (wd_in hcC)) (hts _ j2) (hts _ j1) (hts _ j3) (by omega) (by rw [cat_map hSt.1]; omega) hr1 hr2 hd K2
      · unfold chkC at hcC; simp at hcC
    · subst h3
      have K2 := KK H locs ad (fun _ _ => rfl) hW hS ls hL
      cases i <;> first | (cases hi; done) | skip
      · unfold chkC at hcC; simp at hcC
      · next ix =>
        unfold chkC at hcC
        have hcC : wd o4 (.methodLink (mcn (mcls mi)) ix (mthN 6)) = true := by simpa using hcC
        have hcC : wd o4 (.methodLink (mcn (mcls mi)) ix Lib.Math.min.name) = true := hcC
        refine va_mmin hx hb (by rw [hml]; exact hLn.symm) hown (hts _ (wd_in hcC)) (hts _ j4) (hts _ j1) (hts _ j5) (by omega) (by rw [cat_map hSt.1]; omega) hr1 hr2 hd ?_
        rw [← min_two x y] at K2
        exact K2
      · unfold chkC at hcC; simp at hcC
    · subst h3
      have K2 := KK H locs ad (fun _ _ => rfl) hW hS ls hL
      cases i <;> first | (cases hi; done) | skip
      · unfold chkC at hcC; simp at hcC
      · next ix =>
        unfold chkC at hcC
        have hcC : wd o4 (.methodLink (mcn (mcls mi)) ix (mthN 7)) = true := by simpa using hcC
        have hcC : wd o4 (.methodLink (mcn (mcls mi)) ix Lib.Math.abs.name) = true := hcC
        refine va_mabs hx hb (by rw [hml]; exact hLn.symm) hown (hts _ (wd_in hcC)) (hts _ j6) (hts _ j1) (hts _ j7) (by omega) (by rw [cat_map hSt.1]; omega) hr1 hr2 hd ?_
        rw [abs_two]
        exact K2
      · unfold chkC at hcC; simp at hcC
  have noret : ∀ {x : (Option MV × MG)}, (some (.inr (.inr (.inr (.inl x)))) : Option MA) = some a → False := by
    intro x h
    cases h
    rcases ha with h | h <;> cases h
  unfold stepI at hs
  split at hs
  · exact hinv rfl hs (hlen.elim (fun h => by cases h) id)
  · exact hinv rfl hs (hlen.elim (fun h => by cases h) id)
  · exact hinv rfl hs (hlen.elim (fun h => by cases h) id)
  · split at hs
    · cases q : Nat.beq (rtag (mret mi)) 9 <;> rw [q] at hs
      · rw [cond_false] at hs
        obtain ⟨-, hs⟩ := bif_some hs
        exact (noret hs).elim
      · cases hs
    · cases hs
  · split at hs
    · cases q : mret mi <;> rw [q] at hs
      · exact (noret hs).elim
      · cases hs
    · cases hs
  · split at hs
    · exact (noret hs).elim
    · cases hs
  · split at hs
    · exact (noret hs).elim
    · cases hs
  · cases hn : isnew i with
    | false => exact sl_ok hx hb hts hown hnm hK hSt hS hd hlen htg hcF hn hs ha hW hV hL KK
    | true => exact new_ok hx hb hts hown hK hSt hS hA hd hlen hcF hn hs ha hW hV hL hr1 hr2 KK
end SND7
