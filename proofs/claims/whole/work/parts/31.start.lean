/-! ===== THE LAW'S START: the classes, the static things (wip/whole/gen_start.py) ===== -/
def flN : List Cond := flatC (Jvm.Cond.and given_1 narrow_1)
def atN (i : Nat) (w : Cond) : Bool := decide (flN[i]? = some w)
theorem atN_in {i : Nat} {w : Cond} (h : atN i w = true) : w ∈ flN := List.mem_of_getElem? (of_decide_eq_true h : flN[i]? = some w)
def inT (w : Cond) : Bool := decide (w ∈ lw_tbl)
theorem inT_in {w : Cond} (h : inT w = true) : w ∈ lw_tbl := of_decide_eq_true (p := w ∈ lw_tbl) h
def tCom : Term := .static "ColourOffice" "COMMANDS" "[LColourOffice$Command;"
def tSw : Term := .static "ColourOffice$1" "$SwitchMap$ColourOffice$Command" "[I"
def tFm : Term := .static "jdk/internal/util/Preconditions" "SIOOBE_FORMATTER" "Ljava/util/function/BiFunction;"
def cnm (n : Nat) : String := (["FIND", "REPORT", "DROP", "DISCARD", "METRIC", "RETURN", "SETTLE", "MIX", "ONE_DAY", "DAYS"] : List String).getD n ""
def six (n : Nat) : Nat := ([58, 64, 67, 70, 73, 76, 79, 82, 85, 88] : List Nat).getD n 0
def tC (n : Nat) : Term := .static "ColourOffice$Command" (cnm n) "LColourOffice$Command;"
def tS (n : Nat) : Term := .string "ColourOffice$Command" (six n)
def tV (n : Nat) : Term := .field (tS n) "java/lang/String" "value" "[B"
def nP : List (Nat × (Nat × (Nat × (Nat × (Nat × Nat))))) := [(11, (29, (39, (40, (41, 1058))))), (12, (30, (42, (43, (44, 1074))))), (13, (31, (46, (47, (48, 1094))))), (14, (32, (51, (52, (53, 1104))))), (15, (33, (57, (58, (59, 1117))))), (16, (34, (64, (65, (66, 1129))))), (17, (35, (72, (73, (74, 1143))))), (18, (36, (81, (82, (83, 1153))))), (19, (37, (91, (92, (93, 1164))))), (20, (38, (102, (103, (104, 1171)))))]
def ncP : List Nat := [0, 141, 158, 175, 209, 192, 124, 0, 159, 176, 210, 193, 125, 142, 0, 177, 211, 194, 126, 143, 160, 0, 212, 195, 129, 146, 163, 180, 0, 197, 127, 144, 161, 178, 213, 0]
def nB (n : Nat) : Bool := match nP[n]? with
  | some (a, (b, (c, (d, (e, f))))) => atN a (.eq (.elem tCom (.int (Int32.ofNat n))) (tC n)) && (atN b (.eq (.elem tSw (.int (Int32.ofNat n))) (.int (Int32.ofNat (swMap.getD n 0)))) && (atN c (.exactly (tC n) "ColourOffice$Command") && (atN d (.eq (.field (tC n) "java/lang/Enum" "ordinal" "I") (.int (Int32.ofNat n))) &&
      (atN e (.eq (.field (tC n) "ColourOffice$Command" "form" "Ljava/lang/String;") (tS n)) && (atN f (.exactly (tS n) "java/lang/String") && (atN (f + 1) (.eq (.field (tS n) "java/lang/String" "code\x72" "B") (.int 0)) && (atN (f + 2) (.arrayOf (tV n) .byte) && (atN (f + 3) (.eq (.length (tV n)) (.int (Int32.ofNat (formLen n)))) &&
      (List.range (formLen n)).all (fun j => atN (f + 4 + j) (.eq (.elem (tV n) (.int (Int32.ofNat j))) (.int (Int32.ofNat ((formCh n).getD j 0)))))))))))))
  | none => false
set_option maxRecDepth 100000 in
set_option maxHeartbeats 4000000 in
theorem nB_ok : (List.range 10).all nB = true := by decide +kernel
set_option maxRecDepth 100000 in
set_option maxHeartbeats 4000000 in
theorem oneB : (atN 6 (.isRef tCom) && (atN 8 (.arrayOf tCom (.object "ColourOffice$Command")) && (atN 9 (.eq (.length tCom) (.int 10)) && (atN 27 (.arrayOf tSw .int) && (atN 28 (.eq (.length tSw) (.int 10)) && (atN 21 (.eq (.static "java/lang/String" "COMPACT_STRINGS" "Z") (.int 1)) && (atN 22 (.isRef tFm) && (atN 4 (.isRef (.static Bundle.tN "UNASSIGNED_STACK" Bundle.steD)) && atN 5 (.isRef (.static Bundle.tN "SUPPRESSED_SENTINEL" Bundle.listD)))))))))) = true := by decide +kernel
set_option maxRecDepth 100000 in
set_option maxHeartbeats 4000000 in
theorem ncB : (List.range 36).all (fun i => Nat.beq (i / 6) (i % 6) || atN (ncP.getD i 0) (.not (.castable (xcls (i / 6)) (xcls (i % 6))))) = true := by decide +kernel
def staB (x : String × (String × String)) : Bool := inT (.laysStatic x.1 x.2.1 x.2.2) && inT (.initialized x.1)
set_option maxRecDepth 100000 in
set_option maxHeartbeats 4000000 in
theorem stB : (staB (sst 1) && (staB (sst 5) && (staB (sst 20) && (staB (sst 9) && (staB (Bundle.tN, ("UNASSIGNED_STACK", Bundle.steD)) && staB (Bundle.tN, ("SUPPRESSED_SENTINEL", Bundle.listD))))))) = true := by decide +kernel
set_option maxRecDepth 100000 in
set_option maxHeartbeats 4000000 in
theorem arB : (inT (.arrayClass .int) && (inT (.arrayClass .char) && (inT (.arrayClass .long) && (inT (.arrayClass .double) && (inT (.arrayOver (.array .int)) && inT (.arrayOver (.object "ColourOffice$State"))))))) = true := by decide +kernel
set_option maxRecDepth 100000 in
set_option maxHeartbeats 4000000 in
theorem inB : mcl.all (fun r => inT (.instantiable r.1 r.2.2)) = true := by decide +kernel
set_option maxRecDepth 100000 in
set_option maxHeartbeats 4000000 in
theorem txB : (List.range xl.length).all (fun j => match xl[j]? with
  | some c => Nat.beq (mcls c.1) 0 && inT (.stringRef "ColourOffice" c.2.2.2.1 (xtx j))
  | none => false) = true := by decide +kernel
section START
variable {s : State} {b : Nat}
def evT (s : State) (b : Nat) (t : Term) : Value := (t.eval #[Value.ref b] s none [] s).getD (.ref 0)
def svv (s : State) (b : Nat) (k n : Nat) : Value := if k = 0 then .ref b else if k = 1 then evT s b tCom else if k = 5 then evT s b tSw else if k = 9 then evT s b tFm else if n < 10 then (if k = 2 then evT s b (tC n) else if k = 3 then evT s b (tS n) else if k = 4 then evT s b (tV n) else .ref 0) else .ref 0
theorem evT_of {t : Term} {v : Value} (h : t.eval #[Value.ref b] s none [] s = some v) : evT s b t = v := by unfold evT; rw [h]; rfl
theorem nB_at (hgv : (Jvm.Cond.and given_1 narrow_1).before #[Value.ref b] s = true) {n : Nat} (hn : n < 10) :
    (∃ t, (tC n).eval #[Value.ref b] s none [] s = some (.ref t) ∧ (Term.elem tCom (.int (Int32.ofNat n))).eval #[Value.ref b] s none [] s = some (.ref t) ∧ (Cond.exactly (tC n) "ColourOffice$Command").before #[Value.ref b] s = true ∧ (Term.field (tC n) "java/lang/Enum" "ordinal" "I").eval #[Value.ref b] s none [] s = some (.int (Int32.ofNat n)) ∧
      ∃ t2, (tS n).eval #[Value.ref b] s none [] s = some (.ref t2) ∧ (Term.field (tC n) "ColourOffice$Command" "form" "Ljava/lang/String;").eval #[Value.ref b] s none [] s = some (.ref t2)) ∧
    (Term.elem tSw (.int (Int32.ofNat n))).eval #[Value.ref b] s none [] s = some (.int (Int32.ofNat (swMap.getD n 0))) ∧ (Cond.exactly (tS n) "java/lang/String").before #[Value.ref b] s = true ∧ (Term.field (tS n) "java/lang/String" "code\x72" "B").eval #[Value.ref b] s none [] s = some (.int 0) ∧
    (Cond.arrayOf (tV n) .byte).before #[Value.ref b] s = true ∧ (Term.length (tV n)).eval #[Value.ref b] s none [] s = some (.int (Int32.ofNat (formLen n))) ∧ ∀ j, j < formLen n → (Term.elem (tV n) (.int (Int32.ofNat j))).eval #[Value.ref b] s none [] s = some (.int (Int32.ofNat ((formCh n).getD j 0))) := by
  have hw : ∀ {i : Nat} {w : Cond}, atN i w = true → w.before #[Value.ref b] s = true := fun h => flat_of_before _ hgv _ (atN_in h)
  have ei : ∀ {t : Term} {x : Int32}, (Cond.eq t (.int x)).before #[Value.ref b] s = true → t.eval #[Value.ref b] s none [] s = some (.int x) := by
    intro t x h
    obtain ⟨y, h1, h2⟩ := Cond.eq_one h
    have h3 : y = .int x := (Option.some.inj (h2.symm.trans (show (Term.int x).eval #[Value.ref b] s none [] s = some (.int x) from rfl)))
    rw [h1, h3]
  have h0 := List.all_eq_true.mp nB_ok n (List.mem_range.mpr hn)
  unfold nB at h0
  cases hp : nP[n]? with
  | none => rw [hp] at h0; cases h0
  | some q =>
    obtain ⟨a, b1, c, d, e, f⟩ := q
    rw [hp] at h0
    dsimp only at h0
    simp only [Bool.and_eq_true] at h0
    obtain ⟨h1, h2, h3, h4, h5, h6, h7, h8, h9, h10⟩ := h0
    obtain ⟨t, c1, cA, kA, q1, q2, q3, q4, q5, q6, -⟩ := Cond.exactly_spec (args := #[Value.ref b]) (first := s) (o := none) (s := s) (idx := []) (hw h3)
    obtain ⟨t2, c2, cA2, kA2, r1, r2, r3, r4, r5, r6, -⟩ := Cond.exactly_spec (args := #[Value.ref b]) (first := s) (o := none) (s := s) (idx := []) (hw h6)
    refine ⟨⟨t, q1, ?_, hw h3, ei (hw h4), t2, r1, ?_⟩, ei (hw h2), hw h6, ei (hw h7), hw h8, ei (hw h9), fun j hj => ei (hw (List.all_eq_true.mp h10 j (List.mem_range.mpr hj)))⟩
    · obtain ⟨y, z1, z2⟩ := Cond.eq_one (hw h1)
      rw [z1, ← z2]; exact q1
    · obtain ⟨y, z1, z2⟩ := Cond.eq_one (hw h5)
      rw [z1, ← z2]; exact r1
theorem sta_at {L : Nat} {xs : Nat → Int32} (hts : ∀ w ∈ lw_tbl, w.before #[Value.ref b] s = true) (hX : va_X b L xs s s.heap) (hbl : b < s.heap.size) (hgv : (Jvm.Cond.and given_1 narrow_1).before #[Value.ref b] s = true) (hco : ∃ c, s.vm.findClass "ColourOffice" = some c) : Sta (L, xs) (svv s b) xtx (fun q => s.heap.size ≤ q) s s.heap := by
  have hA : ∀ a : Nat, a < s.heap.size → ¬ (fun q => s.heap.size ≤ q) a := fun a ha => Nat.not_le.mpr ha
  have hw : ∀ {i : Nat} {w : Cond}, atN i w = true → w.before #[Value.ref b] s = true := fun h => flat_of_before _ hgv _ (atN_in h)
  have ei : ∀ {t : Term} {x : Int32}, (Cond.eq t (.int x)).before #[Value.ref b] s = true → t.eval #[Value.ref b] s none [] s = some (.int x) := by
    intro t x h
    obtain ⟨y, h1, h2⟩ := Cond.eq_one h
    have h3 : y = .int x := (Option.some.inj (h2.symm.trans (show (Term.int x).eval #[Value.ref b] s none [] s = some (.int x) from rfl)))
    rw [h1, h3]
  have ho := oneB
  simp only [Bool.and_eq_true] at ho
  obtain ⟨o1, o2, o3, o4, o5, o6, o7, o8, o9⟩ := ho
  have hst := stB
  unfold staB at hst
  simp only [Bool.and_eq_true] at hst
  obtain ⟨⟨s1, s1'⟩, ⟨s2, s2'⟩, ⟨s3, s3'⟩, ⟨s4, s4'⟩, ⟨s5, s5'⟩, s6, s6'⟩ := hst
  have har := arB
  simp only [Bool.and_eq_true] at har
  obtain ⟨-, -, -, -, a5, a6⟩ := har
  obtain ⟨tc, tc1, tc2⟩ := va_Tof (args := #[Value.ref b]) (s := s) (tm := tCom) (ty := .object "ColourOffice$Command") (N := 10) (f := fun j => svv s b 2 j) (A := fun q => s.heap.size ≤ q) (by decide) (hw o2) (ei (hw o3)) (fun j hj => by
    obtain ⟨⟨t, e1, e2, -⟩, -⟩ := nB_at hgv hj
    have : svv s b 2 j = .ref t := by
      show (if j < 10 then evT s b (tC j) else .ref 0) = _
      rw [if_pos hj, evT_of e1]
    rw [this]; exact e2) hA
  obtain ⟨tw, tw1, tw2⟩ := va_Tof (args := #[Value.ref b]) (s := s) (tm := tSw) (ty := .int) (N := 10) (f := fun j => .int (Int32.ofNat (swMap.getD j 0))) (A := fun q => s.heap.size ≤ q) (by decide) (hw o4) (ei (hw o5)) (fun j hj => (nB_at hgv hj).2.1) hA
  obtain ⟨vf, vf1, vf2⟩ := Cond.isRef_spec (args := #[Value.ref b]) (first := s) (o := none) (s := s) (idx := []) (hw o7)
  have e1 : ∀ n, svv s b 1 n = .ref tc := fun n => evT_of tc1
  have e5 : ∀ n, svv s b 5 n = .ref tw := fun n => evT_of tw1
  have e9 : ∀ n, svv s b 9 n = vf := fun n => evT_of vf1
  have e2 : ∀ n, n < 10 → ∃ t, svv s b 2 n = .ref t ∧ (tC n).eval #[Value.ref b] s none [] s = some (.ref t) := fun n hn => by
    obtain ⟨⟨t, e1, -⟩, -⟩ := nB_at hgv hn
    refine ⟨t, ?_, e1⟩
    show (if n < 10 then evT s b (tC n) else .ref 0) = _
    rw [if_pos hn, evT_of e1]
  have e3 : ∀ n, n < 10 → ∃ t, svv s b 3 n = .ref t ∧ (tS n).eval #[Value.ref b] s none [] s = some (.ref t) := fun n hn => by
    obtain ⟨⟨-, -, -, -, -, t, e1, -⟩, -⟩ := nB_at hgv hn
    refine ⟨t, ?_, e1⟩
    show (if n < 10 then evT s b (tS n) else .ref 0) = _
    rw [if_pos hn, evT_of e1]
  have e4 : ∀ n, n < 10 → ∃ t, svv s b 4 n = .ref t ∧ (tV n).eval #[Value.ref b] s none [] s = some (.ref t) ∧ va_T .byte t (formLen n) (fun j => .int (Int32.ofNat ((formCh n).getD j 0))) (fun q => s.heap.size ≤ q) s s.heap := fun n hn => by
    obtain ⟨-, -, -, -, h5, h6, h7⟩ := nB_at hgv hn
    obtain ⟨t, t1, t2⟩ := va_Tof (args := #[Value.ref b]) (s := s) (tm := tV n) (ty := .byte) (N := formLen n) (f := fun j => .int (Int32.ofNat ((formCh n).getD j 0))) (A := fun q => s.heap.size ≤ q) (by
      have : ∀ k, k < 10 → formLen k < 2 ^ 31 := by decide
      exact this n hn) h5 h6 h7 hA
    refine ⟨t, ?_, t1, t2⟩
    show (if n < 10 then evT s b (tV n) else .ref 0) = _
    rw [if_pos hn, evT_of t1]
  refine ⟨?_, ?_, ⟨?_, ?_, ?_, ?_⟩, ?_, ?_, ?_, ?_, ?_, ⟨?_, ?_⟩, ⟨?_, ?_, ?_, ?_⟩, ?_⟩
  · intro k n
    have key : (k < 9 → ∃ a, svv s b k n = .ref a) ∧ ((∃ a, svv s b k n = .ref a) ∨ svv s b k n = vf) := by
      by_cases h0 : k = 0
      · subst h0; exact ⟨fun _ => ⟨b, rfl⟩, Or.inl ⟨b, rfl⟩⟩
      by_cases h1 : k = 1
      · subst h1; exact ⟨fun _ => ⟨tc, e1 n⟩, Or.inl ⟨tc, e1 n⟩⟩
      by_cases h5 : k = 5
      · subst h5; exact ⟨fun _ => ⟨tw, e5 n⟩, Or.inl ⟨tw, e5 n⟩⟩
      by_cases h9 : k = 9
      · subst h9; exact ⟨fun h => absurd h (by decide), Or.inr (e9 n)⟩
      by_cases hn : n < 10
      · by_cases h2 : k = 2
        · subst h2; obtain ⟨t, h, -⟩ := e2 n hn; exact ⟨fun _ => ⟨t, h⟩, Or.inl ⟨t, h⟩⟩
        by_cases h3 : k = 3
        · subst h3; obtain ⟨t, h, -⟩ := e3 n hn; exact ⟨fun _ => ⟨t, h⟩, Or.inl ⟨t, h⟩⟩
        by_cases h4 : k = 4
        · subst h4; obtain ⟨t, h, -⟩ := e4 n hn; exact ⟨fun _ => ⟨t, h⟩, Or.inl ⟨t, h⟩⟩
        have : svv s b k n = .ref 0 := by unfold svv; rw [if_neg h0, if_neg h1, if_neg h5, if_neg h9, if_pos hn, if_neg h2, if_neg h3, if_neg h4]
        exact ⟨fun _ => ⟨0, this⟩, Or.inl ⟨0, this⟩⟩
      · have : svv s b k n = .ref 0 := by unfold svv; rw [if_neg h0, if_neg h1, if_neg h5, if_neg h9, if_neg hn]
        exact ⟨fun _ => ⟨0, this⟩, Or.inl ⟨0, this⟩⟩
    refine ⟨key.1, ?_⟩
    rcases key.2 with ⟨a, h⟩ | h
    · rw [h]; rfl
    · rw [h]
      cases vf <;> first | rfl | cases vf2
  · exact fun n => ⟨b, rfl, hX, hbl, hA b hbl⟩
  · exact va_Zof (hts _ (inT_in s1)) (hts _ (inT_in s1')) (show tCom.eval #[Value.ref b] s none [] s = _ by rw [tc1, e1 0]) hA
  · exact va_Zof (hts _ (inT_in s2)) (hts _ (inT_in s2')) (show tSw.eval #[Value.ref b] s none [] s = _ by rw [tw1, e5 0]) hA
  · exact va_Zof (hts _ (inT_in s3)) (hts _ (inT_in s3')) (ei (hw o6)) hA
  · exact va_Zof (hts _ (inT_in s4)) (hts _ (inT_in s4')) (show tFm.eval #[Value.ref b] s none [] s = _ by rw [vf1, e9 0]) hA
  · exact fun n => ⟨tc, e1 n, tc2⟩
  · exact fun n => ⟨tw, e5 n, tw2⟩
  · intro n hn
    obtain ⟨t, t1, t2⟩ := e2 n hn
    obtain ⟨t3, t4, t5⟩ := e3 n hn
    obtain ⟨⟨u, u1, u2, u3, u4, u5, u6, u7⟩, -⟩ := nB_at hgv hn
    cases t2.symm.trans u1
    cases t5.symm.trans u6
    exact ⟨t, t1, va_Oof u3 t2 hA, by rw [t4]; exact vk_OFof t2 u7 hA, vk_OFof t2 u4 hA⟩
  · intro n hn
    obtain ⟨t, t1, t2⟩ := e3 n hn
    obtain ⟨t3, t4, t5, -⟩ := e4 n hn
    obtain ⟨-, -, h3, h4, -⟩ := nB_at hgv hn
    exact ⟨t, t1, va_Oof h3 t2 hA, by rw [t4]; exact vk_OFof t2 t5 hA, vk_OFof t2 h4 hA⟩
  · intro n hn
    obtain ⟨t3, t4, -, t6⟩ := e4 n hn
    exact ⟨t3, t4, t6⟩
  · exact vx_Zqof (hts _ (inT_in s5)) (hts _ (inT_in s5')) (hw o8) hA
  · exact vx_Zqof (hts _ (inT_in s6)) (hts _ (inT_in s6')) (hw o9) hA
  · intro w hw9
    obtain ⟨m1, m2⟩ := List.mem_filter.mp hw9
    have h9 := hts w m1
    cases w <;> first | (cases m2; done) | exact va_Nw.of rfl h9
  · exact va_AO.of (hts _ (inT_in a6))
  · exact va_AOA.of (hts _ (inT_in a5))
  · intro a c ha hc hn
    have h9 := List.all_eq_true.mp ncB (6 * a + c) (List.mem_range.mpr (by omega))
    have d1 : (6 * a + c) / 6 = a := by omega
    have d2 : (6 * a + c) % 6 = c := by omega
    rw [d1, d2] at h9
    rcases Bool.or_eq_true _ _ ▸ h9 with h9 | h9
    · exact absurd (nat_beq h9) hn
    · exact va_Nc.of (hw h9)
  · intro j c hj
    obtain ⟨cc, hcc⟩ := hco
    have h9 := List.all_eq_true.mp txB j (List.mem_range.mpr (List.getElem?_eq_some_iff.mp hj).1)
    rw [hj] at h9
    simp only [Bool.and_eq_true] at h9
    rw [nat_beq h9.1]
    have h8 := hts _ (inT_in h9.2)
    obtain ⟨-, -, -, a, -, -, -, -, -, hev⟩ := Cond.stringRef_spec hcc h8
    exact ⟨a, vk_R.of h8 hev⟩
theorem arr_at {ty : FieldType} (hts : ∀ w ∈ lw_tbl, w.before #[Value.ref b] s = true) (h : inT (.arrayClass ty) = true) (hn : ∀ C, ty ≠ .object C) : ∃ c, ArrOfT s c ty ∧ va_RA s c ty := by
  obtain ⟨c, k, comp, h1, h2, h3⟩ := Cond.arrayClass_spec (hts _ (inT_in h))
  refine ⟨c, fun N z => ⟨(fun k h => by cases h), k, h2, comp, h3⟩, ?_⟩
  cases ty <;> first | exact h1 | exact absurd rfl (hn _)
theorem k_at (hts : ∀ w ∈ lw_tbl, w.before #[Value.ref b] s = true) : ∃ K : MK, va_K K.1 mcl (mtys K) s := by
  have har := arB
  simp only [Bool.and_eq_true] at har
  obtain ⟨a1, a2, a3, a4, a5, a6⟩ := har
  obtain ⟨c1, h1⟩ := arr_at hts a1 (fun C h => by cases h)
  obtain ⟨c2, h2⟩ := arr_at hts a2 (fun C h => by cases h)
  obtain ⟨c3, h3⟩ := arr_at hts a3 (fun C h => by cases h)
  obtain ⟨c4, h4⟩ := arr_at hts a4 (fun C h => by cases h)
  obtain ⟨x5, c5, k5, f1, f2, f3, f4⟩ := Cond.arrayOver_specA (hts _ (inT_in a5))
  obtain ⟨x6, c6, k6, g1, g2, g3, g4, g5⟩ := Cond.arrayOver_spec (hts _ (inT_in a6))
  have hc : ∀ c : Nat, ∃ (z : ClassId × (Nat → Nat)), ∀ q : vw_C, mcl[c]? = some q → u_Kn s q.1 q.2.1 q.2.2 z.1 z.2 := by
    intro c
    cases hq : mcl[c]? with
    | none => exact ⟨(0, fun _ => 0), fun q h => by cases h⟩
    | some q =>
      obtain ⟨z1, z2, z3⟩ := u_known (C := q.1) (T := q.2.1) (N := q.2.2) hts (fun w hw => (List.mem_filter.mp (cls_in hq w hw)).1) (hts _ (inT_in (List.all_eq_true.mp inB q (List.mem_of_getElem? hq))))
      exact ⟨(z1, z2), fun q' h => by cases h; exact z3⟩
  refine ⟨((fun c => (hc c).choose.1, fun c => (hc c).choose.2), (c1, (c2, (c3, (c4, (c5, c6)))))), fun c q hq => (hc c).choose_spec q hq, fun k q hk => ?_⟩
  match k, hk with
  | 0, hk => cases hk; exact h1
  | 1, hk => cases hk; exact h2
  | 2, hk => cases hk; exact h3
  | 3, hk => cases hk; exact h4
  | 4, hk => cases hk; exact ⟨fun N z => ⟨(fun k h => by cases h), k5, f2, x5, f3⟩, f4⟩
  | 5, hk => cases hk; exact ⟨fun N z => ⟨(fun k h => by cases h), k6, g3, x6, g4⟩, k6, x6, g3, g4, g1, g5⟩
  | k + 6, hk => cases hk
end START
/-- the empty world -/
def g_start : MG := ((0, ((0, 0), fun _ _ _ => none)), ((0, 0), fun _ _ _ => 0))
theorem law_b : mbytes lawI = code := rfl
theorem law_facts : (decide (mnl lawI = 9) && (decide (mret lawI = ret) && (decide (mcn (mcls lawI) = R_law) && (decide ((mY lawI).name ≠ "<init>") && ((mhd lawI).isEmpty && decide (entOk [vs 0 0] lawI = true)))))) = true := by decide +kernel
/-- the claim, out of a run of the law in the small machine -/
theorem start_of {p : Program} {e : Env} {s : State} {m : MethodId} {below : List Frame} {meth : Method} {c : Code} (l : Launch) (hflags : l.flags = flags0) {b L : Nat} {xs : Nat → Int32} (C0 : lw_At p s m meth c b L xs) {d : Nat} (hd : d ≤ 900)
    (hrun : Wp (L, xs) d lawI (entry lawI [vs 0 0] g_start) (fun r => r.1 = .inl (some (vi 1)) ∧ r.2.1.2.1.1 ≤ 603072 ∧ r.2.1.2.1.2 ≤ 7194729)) :
    W p l e room_1 s m #[Value.ref b] below meth c s.heap [] 0 0 (lw_Z below #[Value.ref b] s) (entryFrame m ([Value.ref b] : List Value).toArray 9) := by
  obtain ⟨hx, hb, hr, hml, hown, hts, hX, hbl, hlocks, hgv⟩ := C0
  have hlf := law_facts
  simp only [Bool.and_eq_true] at hlf
  obtain ⟨f2, f3, f4, f5, f6, f7⟩ := hlf
  have f1 : mbytes lawI = code := law_b
  have f2 : mnl lawI = 9 := of_decide_eq_true f2
  have f3 : mret lawI = ret := of_decide_eq_true f3
  have f4 : mcn (mcls lawI) = R_law := of_decide_eq_true f4
  have f5 : (mY lawI).name ≠ "<init>" := of_decide_eq_true f5
  have f7 : entOk [vs 0 0] lawI = true := of_decide_eq_true f7
  obtain ⟨K, hK⟩ := k_at hts
  have hco : ∃ c, s.vm.findClass "ColourOffice" = some c := ⟨_, (hK.1 0 _ rfl).2.1⟩
  have hSt := sta_at hts hX hbl hgv hco
  obtain ⟨n, r, hex, hr1, hr2, hr3⟩ := hrun
  have e9 : mws K (fun _ => 0) g_start = [] := rfl
  have hW0 : Wd K (fun _ => 0) (fun q => s.heap.size ≤ q) g_start s.heap := ⟨Nat.zero_le _, (fun k q h => by rw [e9] at h; cases h), ⟨(fun i j p q h => by rw [e9] at h; cases h), (fun k q h => by rw [e9] at h; cases h)⟩, (fun f i k w hp => by obtain ⟨j, hj, _⟩ := hp; exact absurd hj (Nat.not_lt_zero _))⟩
  have hd0 := Drawn.sameBut.refl s.drawn lw_cs
  obtain ⟨hL, hLn⟩ := ent_lok (ad := fun _ => 0) hSt.1 f7
  have htr : l.stackTraces = false := by
    unfold Launch.stackTraces
    rw [hflags]
    decide
  have hb9 : c.code = mbytes lawI := hb.trans f1.symm
  have hsv : svv s b 0 0 = .ref b := rfl
  rw [lg_entry_eq]
  rw [f2] at hL hLn
  have e0 : ([vs 0 0] : List MV).map (tv (fun _ => 0) (svv s b)) = [Value.ref b] := rfl
  rw [e0] at hL hLn
  refine snd (L, xs) n d lawI (entry lawI [vs 0 0] g_start) r hex (svv s b) xtx K (fun q => s.heap.size ≤ q) p l e room_1 s m #[Value.ref b] below meth c (lw_Z below #[Value.ref b] s) s.heap [] (fun _ => 0) (fun _ => 0) _ 0
    ⟨hx, hb9, by rw [f2]; exact hml, fun w hw => hts w (List.mem_filter.mp hw).1, by rw [f4]; exact hown, fun h => absurd h f5, hK, hSt, fun _ h => h, fun h => absurd rfl h, by show 24 + d ≤ 2048; omega, by show 200 + 100 * d ≤ 94400; omega, htr, hlocks, by rw [f3]; exact hr⟩
    hW0 ⟨(fun v hv => by cases hv), fun i v hi => ?_⟩ va_S.rf ?_ ?_ (fun _ _ => rfl) (Nat.le_refl _) hr2 hr3 ?_ ?_ ?_
  · have hi : (entL [vs 0 0] ++ List.replicate (mnl lawI - (entL [vs 0 0]).length) none)[i]? = some (some v) := hi
    cases i with
    | zero => cases hi; show (0 : Nat) < 10; decide
    | succ i =>
      have h9 : (List.replicate (mnl lawI - (entL [vs 0 0]).length) (none : Option MV))[i]? = some (some v) := hi
      rw [List.getElem?_replicate] at h9
      split at h9 <;> cases h9
  · show Lok _ _ (entL [vs 0 0] ++ List.replicate (mnl lawI - (entL [vs 0 0]).length) none)
    rw [f2]; exact hL
  · rw [f2]; exact hLn
  · intro S1 v H1 locs1 ad1 ls1 hs hv hW1 hag hS1
    obtain ⟨eg, i, len, o1, o2, o3, o4, ht, hc⟩ := step_ret hs
    rw [hr1] at hv
    cases hv
    obtain ⟨hdec, hlen, -⟩ := chk_at ht
    rcases hc with ⟨rfl, x, hst, hv, -⟩ | ⟨-, -, hv, -⟩ | ⟨-, x, -, hv, -⟩ | ⟨-, x, -, hv, -⟩
    · cases hv
      obtain rfl : len = 1 := hlen.elim (fun h => by cases h) id
      rw [hst]
      rw [f1] at hdec
      refine va_forget hS1.2.2 ?_
      refine W.widen (k := 603072) (n := 7194729) (by rw [← eg]; exact hr2) (by rw [← eg]; exact hr3) ?_
      exact lw_ret hd0 hx hb hr hlocks hdec
    · cases hv
    · cases hv
    · cases hv
  · intro S1 kd H1 locs1 ad1 ls1 hs hv
    rw [hr1] at hv; cases hv
  · intro kd pc ls1 rest H1 locs1 ad1 q9 ce hv
    rw [hr1] at hv; cases hv
