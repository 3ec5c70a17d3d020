/-! ===== THE OFFICE AND THE MODEL, MADE (wip/whole/gen_made.py) ===== -/
def lsB (l : ML) : Bool := match l with
  | [some (.inr (.inr (.inl a))), some (.inr (.inl p)), some (.inr (.inl q)), some (.inr (.inl r)), some (.inr (.inl s)), some (.inl v), _, _, _] => decide (a = (0, 0)) && (decide (p = (0, 0)) && (decide (q = (31, 0)) && (decide (r = (43, 0)) && (decide (s = (44, 0)) && decide (v = 0)))))
  | _ => false
theorem lsB_ok {l : ML} (h : lsB l = true) : ∃ o6 o7 o8, l = [some (vs 0 0), some (vp 0 0), some (vp 31 0), some (vp 43 0), some (vp 44 0), some (vi 0), o6, o7, o8] := by
  unfold lsB at h
  split at h
  · simp only [Bool.and_eq_true, decide_eq_true_eq] at h
    obtain ⟨rfl, rfl, rfl, rfl, rfl, rfl⟩ := h
    exact ⟨_, _, _, rfl⟩
  · cases h
def refB (R : MR) : Bool := (List.range 304).all (fun j => (List.range (fam (pj j).1).2.2).all (fun k => match RM (pj j).1 (pj j).2 k with
  | none => true
  | some w => match R (pj j).1 (pj j).2 k with
    | some q => Nat.beq q.1 w.1 && Nat.beq q.2 w.2
    | none => false))
theorem refB_ok {g : MG} (h : refB g.1.2.2 = true) (hn : g.1.1 = 304) (hK : Kr g) : g.1.2.2 = RM := by
  funext f i k
  rcases hK f i k with z | ⟨z, j, hj, hp, hk⟩
  · exact z
  · have e1 := List.all_eq_true.mp h j (List.mem_range.mpr (by omega))
    rw [hp] at e1
    have e2 := List.all_eq_true.mp e1 k (List.mem_range.mpr hk)
    dsimp only at e2
    split at e2
    · next c => exact absurd c z
    · next w c =>
      split at e2
      · next q c2 =>
        simp only [Bool.and_eq_true] at e2
        rw [c, c2]
        exact congrArg some (Prod.ext (nat_beq e2.1) (nat_beq e2.2))
      · cases e2
abbrev FA (f : MI) : Prop := (f 2 0 1 = 0 ∧ f 2 0 2 = 0 ∧ f 3 0 1 = 0 ∧ f 3 0 2 = 0 ∧ f 1 0 2 = 0 ∧ f 1 0 3 = 109 ∧ f 1 0 4 = 0 ∧ f 1 0 5 = 0 ∧ f 1 0 6 = 0 ∧ f 1 0 7 = 0) ∧
  (f 0 0 11 = 0 ∧ f 8 0 1 = 0 ∧ f 8 0 2 = 0 ∧ f 0 0 10 = 0 ∧ f 23 0 1 = 0 ∧ f 28 0 1 = 0 ∧ f 0 0 12 = -1 ∧ f 0 0 13 = -1 ∧ f 0 0 14 = 45) ∧
  (f 32 0 0 = 0 ∧ f 32 0 1 = 0 ∧ f 32 0 2 = 0 ∧ f 32 0 3 = 0 ∧ f 32 0 4 = 0 ∧ f 32 0 5 = 109 ∧ f 32 0 6 = 0 ∧ f 32 0 7 = 0) ∧
  (f 31 0 6 = 0 ∧ f 31 0 10 = 0 ∧ f 31 0 18 = 0 ∧ f 31 0 14 = 0 ∧ f 31 0 7 = -1 ∧ f 31 0 8 = -1 ∧ f 31 0 9 = 0)
def zB (f : MI) : Bool := (List.range 1024).all (fun s => decide (f 18 0 s = 0))
def chkMd (S : MS) : Bool := lsB S.2.1 && (S.2.2.1.isEmpty && (Nat.beq S.2.2.2.1.1 304 && (Nat.ble S.2.2.2.1.2.1.1 600000 && (Nat.ble S.2.2.2.1.2.1.2 7150000 && (refB S.2.2.2.1.2.2 && (zB S.2.2.2.2.2 && decide (FA S.2.2.2.2.2)))))))
theorem made_ok : (preZ 200 S_st).elim false chkMd = true := by decide +kernel
def a_0 : AS := (([], []), ((0, (0, (0, 109))), (0, 0)))
def o_0 : OS := (a_0, ([], (none, (([], []), (-1, (-1, 45))))))
theorem made_LI {m : MI} {u : Nat × Nat} (h : FA m) (hz : ∀ s, m 18 0 s = 0) (hu : u.1 ≤ 600000 ∧ u.2 ≤ 7150000) : LI 1 m u := by
  obtain ⟨⟨c1, c2, c3, c4, c5, c6, c7, c8, c9, c10⟩, ⟨d1, d2, d3, d4, d5, d6, d7, d8, d9⟩, ⟨e0, e1, e2, e3, e4, e5, e6, e7⟩, ⟨f1, f2, f3, f4, f5, f6, f7⟩⟩ := h
  refine ⟨o_0, ?_, ?_, ?_, hz, by omega, by omega⟩
  · refine ⟨⟨⟨c1, c2, fun k hk => absurd hk (Nat.not_lt_zero k)⟩, ⟨c3, c4, fun k hk => absurd hk (Nat.not_lt_zero k)⟩, c5, c6, c7, ?_, c10⟩, ⟨d1, fun _ => ⟨0, by decide, d2, d3, Nat.zero_le _, fun i b hb => by cases hb⟩⟩, Or.inl ⟨rfl, d4⟩, ⟨d5, fun k hk => absurd hk (Nat.not_lt_zero k)⟩, ⟨d6, fun k hk => absurd hk (Nat.not_lt_zero k)⟩, d7, d8, d9⟩
    rw [c8, c9]; rfl
  · refine ⟨⟨⟨e0, e1, e2, e3, e4, e5, e6, e7⟩, fun k hk => absurd hk (Nat.not_lt_zero k), fun k hk => absurd hk (Nat.not_lt_zero k)⟩, ⟨f1, Nat.zero_le _, fun i b hb => by cases hb⟩, Or.inl ⟨rfl, f2⟩, ⟨f3, fun k hk => absurd hk (Nat.not_lt_zero k)⟩, ⟨f4, fun k hk => absurd hk (Nat.not_lt_zero k)⟩, f5, f6, ?_⟩
    rw [f7]; rfl
  · refine ⟨⟨⟨Nat.zero_le _, Nat.zero_le _, Nat.zero_le _, Nat.zero_le _, Nat.zero_le _, Or.inl rfl⟩, ⟨fun r hr => absurd hr List.not_mem_nil, List.Pairwise.nil⟩, fun r hr => absurd hr List.not_mem_nil, List.Pairwise.nil⟩, fun b hb => absurd hb List.not_mem_nil, (fun b hb => by cases hb), ⟨Nat.zero_le _, fun c hc => absurd hc List.not_mem_nil⟩, ⟨Nat.zero_le _, fun c hc => absurd hc List.not_mem_nil⟩, Or.inl ⟨?_, rfl⟩⟩
    show (-1 : Int32) < 0
    decide
theorem law_run (L : Nat) (xs : Nat → Int32) (hL : L ≤ 3072) : Wp (L, xs) 17 lawI (entry lawI [vs 0 0] g_st2) (fun r => r.1 = .inl (some (vi 1)) ∧ r.2.1.2.1.1 ≤ 603072 ∧ r.2.1.2.1.2 ≤ 7194729) := by
  have hm := made_ok
  cases hS : preZ 200 S_st with
  | none => rw [hS] at hm; cases hm
  | some S =>
    rw [hS] at hm
    have hm : chkMd S = true := hm
    obtain ⟨h28, hw, hk⟩ := preZ_ok 200 S_st S hS
    have hk := hk ⟨fun f i k => Or.inl rfl, fun f i k _ => rfl⟩
    refine hw (L, xs) 16 _ (by decide) ?_
    clear hw hS
    obtain ⟨pc, ls, st, ⟨⟨n, u, R⟩, x, m⟩⟩ := S
    obtain rfl : pc = 28 := h28
    unfold chkMd at hm
    simp only [Bool.and_eq_true] at hm
    obtain ⟨k1, k2, k3, k4, k5, k6, k7, k8⟩ := hm
    obtain ⟨o6, o7, o8, rfl⟩ := lsB_ok k1
    obtain rfl : st = [] := List.isEmpty_iff.mp k2
    obtain rfl : n = 304 := nat_beq k3
    obtain rfl : R = RM := refB_ok k6 rfl hk.1
    have hz : ∀ s, m 18 0 s = 0 := fun s => by
      by_cases h : s < 1024
      · exact of_decide_eq_true (List.all_eq_true.mp k7 s (List.mem_range.mpr h))
      · exact hk.2 18 0 s (by show 1024 ≤ s; omega)
    have hLI := made_LI (u := u) (of_decide_eq_true k8) hz ⟨Nat.le_of_ble_eq_true k4, Nat.le_of_ble_eq_true k5⟩
    exact law_loop (X := (L, xs)) (d := 0) hL (fun m x u h1 h2 => ⟨rfl, h1, h2⟩) 513 0 m x u o6 o7 o8 rfl hLI
/-- the claim, out of a run of the law that begins with the references that the finished objects hold -/
theorem start_of2 {p : Program} {e : Env} {s : State} {m : MethodId} {below : List Frame} {meth : Method} {c : Code} (l : Launch) (hflags : l.flags = flags0) {b L : Nat} {xs : Nat → Int32} (C0 : lw_At p s m meth c b L xs) {d : Nat} (hd : d ≤ 900)
    (hrun : Wp (L, xs) d lawI (entry lawI [vs 0 0] g_st2) (fun r => r.1 = .inl (some (vi 1)) ∧ r.2.1.2.1.1 ≤ 603072 ∧ r.2.1.2.1.2 ≤ 7194729)) :
    W p l e room_1 s m #[Value.ref b] below meth c s.heap [] 0 0 (lw_Z below #[Value.ref b] s) (entryFrame m ([Value.ref b] : List Value).toArray 9) := by
  obtain ⟨hx, hb, hr, hml, hown, hts, hX, hbl, hlocks, hgv⟩ := C0
  have hlf := law_facts
  simp only [Bool.and_eq_true] at hlf
  obtain ⟨f2, f3, f4, f5, f6, f7⟩ := hlf
  have f1 : mbytes lawI = code := law_b
  have f2 : mnl lawI = 9 := of_decide_eq_true f2
  have f3 : mret lawI = ret := of_decide_eq_true f3
  have f4 : mcn (mcls lawI) = R_law := of_decide_eq_true f4
  have f5 : (mY lawI).name ≠ "<init>" := of_decide_eq_true f5
  have f7 : entOk [vs 0 0] lawI = true := of_decide_eq_true f7
  obtain ⟨K, hK⟩ := k_at hts
  have hco : ∃ c, s.vm.findClass "ColourOffice" = some c := ⟨_, (hK.1 0 _ rfl).2.1⟩
  have hSt := sta_at hts hX hbl hgv hco
  obtain ⟨n, r, hex, hr1, hr2, hr3⟩ := hrun
  have e9 : mws K (fun _ => 0) g_st2 = [] := rfl
  have hW0 : Wd K (fun _ => 0) (fun q => s.heap.size ≤ q) g_st2 s.heap := ⟨Nat.zero_le _, (fun k q h => by rw [e9] at h; cases h), ⟨(fun i j p q h => by rw [e9] at h; cases h), (fun k q h => by rw [e9] at h; cases h)⟩, (fun f i k w hp => by obtain ⟨j, hj, _⟩ := hp; exact absurd hj (Nat.not_lt_zero _))⟩
  have hd0 := Drawn.sameBut.refl s.drawn lw_cs
  obtain ⟨hL, hLn⟩ := ent_lok (ad := fun _ => 0) hSt.1 f7
  have htr : l.stackTraces = false := by
    unfold Launch.stackTraces
    rw [hflags]
    decide
  have hb9 : c.code = mbytes lawI := hb.trans f1.symm
  have hsv : svv s b 0 0 = .ref b := rfl
  rw [lg_entry_eq]
  rw [f2] at hL hLn
  have e0 : ([vs 0 0] : List MV).map (tv (fun _ => 0) (svv s b)) = [Value.ref b] := rfl
  rw [e0] at hL hLn
  refine snd (L, xs) n d lawI (entry lawI [vs 0 0] g_st2) r hex (svv s b) xtx K (fun q => s.heap.size ≤ q) p l e room_1 s m #[Value.ref b] below meth c (lw_Z below #[Value.ref b] s) s.heap [] (fun _ => 0) (fun _ => 0) _ 0
    ⟨hx, hb9, by rw [f2]; exact hml, fun w hw => hts w (List.mem_filter.mp hw).1, by rw [f4]; exact hown, fun h => absurd h f5, hK, hSt, fun _ h => h, fun h => absurd rfl h, by show 24 + d ≤ 2048; omega, by show 200 + 100 * d ≤ 94400; omega, htr, hlocks, by rw [f3]; exact hr⟩
    hW0 ⟨(fun v hv => by cases hv), fun i v hi => ?_⟩ va_S.rf ?_ ?_ (fun _ _ => rfl) (Nat.le_refl _) hr2 hr3 ?_ ?_ ?_
  · have hi : (entL [vs 0 0] ++ List.replicate (mnl lawI - (entL [vs 0 0]).length) none)[i]? = some (some v) := hi
    cases i with
    | zero => cases hi; show (0 : Nat) < 10; decide
    | succ i =>
      have h9 : (List.replicate (mnl lawI - (entL [vs 0 0]).length) (none : Option MV))[i]? = some (some v) := hi
      rw [List.getElem?_replicate] at h9
      split at h9 <;> cases h9
  · show Lok _ _ (entL [vs 0 0] ++ List.replicate (mnl lawI - (entL [vs 0 0]).length) none)
    rw [f2]; exact hL
  · rw [f2]; exact hLn
  · intro S1 v H1 locs1 ad1 ls1 hs hv hW1 hag hS1
    obtain ⟨eg, i, len, o1, o2, o3, o4, ht, hc⟩ := step_ret hs
    rw [hr1] at hv
    cases hv
    obtain ⟨hdec, hlen, -⟩ := chk_at ht
    rcases hc with ⟨rfl, x, hst, hv, -⟩ | ⟨-, -, hv, -⟩ | ⟨-, x, -, hv, -⟩ | ⟨-, x, -, hv, -⟩
    · cases hv
      obtain rfl : len = 1 := hlen.elim (fun h => by cases h) id
      rw [hst]
      rw [f1] at hdec
      refine va_forget hS1.2.2 ?_
      refine W.widen (k := 603072) (n := 7194729) (by rw [← eg]; exact hr2) (by rw [← eg]; exact hr3) ?_
      exact lw_ret hd0 hx hb hr hlocks hdec
    · cases hv
    · cases hv
    · cases hv
  · intro S1 kd H1 locs1 ad1 ls1 hs hv
    rw [hr1] at hv; cases hv
  · intro kd pc ls1 rest H1 locs1 ad1 q9 ce hv
    rw [hr1] at hv; cases hv
