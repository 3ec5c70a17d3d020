/-! ===== SOUNDNESS, SECOND: static things, the classes' words, fields' links ===== -/
/-- the words that go with every call -/
def lw_g : List Cond := lw_tbl.filter goodWord
/-- the tables' words by their lists; a place: 1000 times the list's number, and the place in it -/
def chunk (k : Nat) : List Cond := bif Nat.blt k 4 then (bif Nat.blt k 2 then (bif Nat.beq k 0 then k2_sels lw_privs else tables_1_1) else (bif Nat.beq k 2 then tables_1_2 else tables_1_3)) else (bif Nat.blt k 6 then (bif Nat.beq k 4 then tables_1_4 else tables_1_5) else (bif Nat.beq k 6 then tables_1_6 else (bif Nat.beq k 7 then tables_1_7 else tables_1_8)))
theorem chunk_in (k : Nat) {w : Cond} (h : w ∈ chunk k) : w ∈ lw_tbl := by
  have t1 : ∀ w, w ∈ tables_1 → w ∈ lw_tbl := fun w hw => List.mem_append_right _ hw
  have s1 : ∀ w, w ∈ tables_1_1 → w ∈ tables_1 := fun w h => List.mem_append_left _ h
  have s2 : ∀ w, w ∈ tables_1_2 → w ∈ tables_1 := fun w h => List.mem_append_right _ (List.mem_append_left _ h)
  have s3 : ∀ w, w ∈ tables_1_3 → w ∈ tables_1 := fun w h => List.mem_append_right _ (List.mem_append_right _ (List.mem_append_left _ h))
  have s4 : ∀ w, w ∈ tables_1_4 → w ∈ tables_1 := fun w h => List.mem_append_right _ (List.mem_append_right _ (List.mem_append_right _ (List.mem_append_left _ h)))
  have s5 : ∀ w, w ∈ tables_1_5 → w ∈ tables_1 := fun w h => List.mem_append_right _ (List.mem_append_right _ (List.mem_append_right _ (List.mem_append_right _ (List.mem_append_left _ h))))
  have s6 : ∀ w, w ∈ tables_1_6 → w ∈ tables_1 := fun w h => List.mem_append_right _ (List.mem_append_right _ (List.mem_append_right _ (List.mem_append_right _ (List.mem_append_right _ (List.mem_append_left _ h)))))
  have s7 : ∀ w, w ∈ tables_1_7 → w ∈ tables_1 := fun w h => List.mem_append_right _ (List.mem_append_right _ (List.mem_append_right _ (List.mem_append_right _ (List.mem_append_right _ (List.mem_append_right _ (List.mem_append_left _ h))))))
  have s8 : ∀ w, w ∈ tables_1_8 → w ∈ tables_1 := fun w h => List.mem_append_right _ (List.mem_append_right _ (List.mem_append_right _ (List.mem_append_right _ (List.mem_append_right _ (List.mem_append_right _ (List.mem_append_right _ h))))))
  unfold chunk at h
  cases h4 : Nat.blt k 4 <;> rw [h4] at h
  · cases h6 : Nat.blt k 6 <;> rw [h6] at h
    · cases e : Nat.beq k 6 <;> rw [e] at h
      · cases e : Nat.beq k 7 <;> rw [e] at h
        · exact t1 _ (s8 _ h)
        · exact t1 _ (s7 _ h)
      · exact t1 _ (s6 _ h)
    · cases e : Nat.beq k 4 <;> rw [e] at h
      · exact t1 _ (s5 _ h)
      · exact t1 _ (s4 _ h)
  · cases h2 : Nat.blt k 2 <;> rw [h2] at h
    · cases e : Nat.beq k 2 <;> rw [e] at h
      · exact t1 _ (s3 _ h)
      · exact t1 _ (s2 _ h)
    · cases e : Nat.beq k 0 <;> rw [e] at h
      · exact t1 _ (s1 _ h)
      · exact List.mem_append_left _ h
def wd (pos : Nat) (w : Cond) : Bool := decide ((chunk (pos / 1000))[pos % 1000]? = some w) && goodWord w
theorem wd_in {pos : Nat} {w : Cond} (h : wd pos w = true) : w ∈ lw_g := by
  unfold wd at h
  rw [Bool.and_eq_true] at h
  exact List.mem_filter.mpr ⟨chunk_in _ (List.mem_of_getElem? (of_decide_eq_true h.1)), h.2⟩
def wsIn (w : Cond) : Bool := decide (w ∈ lw_tbl) && goodWord w
theorem wsIn_in {w : Cond} (h : wsIn w = true) : w ∈ lw_g := by
  unfold wsIn at h
  rw [Bool.and_eq_true] at h
  exact List.mem_filter.mpr ⟨of_decide_eq_true h.1, h.2⟩
/-- words that the calls carry one by one: links to nest mates, castings, declarations -/
def nk : Cond → Bool
  | .fieldLinkNest .. => true
  | .methodLinkNest .. => true
  | .declares .. => true
  | .castable .. => true
  | _ => false
def hk : Cond → Bool
  | .stringRef .. => true
  | .laysStatic .. => true
  | .arrayOver .. => true
  | .privateMethod .. => true
  | _ => false
def lw_n : List Cond := lw_tbl.filter nk
def wn (pos : Nat) (w : Cond) : Bool := decide ((chunk (pos / 1000))[pos % 1000]? = some w) && nk w
theorem wn_in {pos : Nat} {w : Cond} (h : wn pos w = true) : w ∈ lw_n := by
  unfold wn at h
  rw [Bool.and_eq_true] at h
  exact List.mem_filter.mpr ⟨chunk_in _ (List.mem_of_getElem? (of_decide_eq_true h.1)), h.2⟩
set_option maxRecDepth 100000 in
theorem all_kinds : lw_tbl.all (fun w => goodWord w || (nk w || hk w)) = true := by decide +kernel
def tagD (q : String × (String × (String × Bool))) : Nat := (if q.2.2.1 = "I" then 0 else if q.2.2.1 = "Z" then 2 else if q.2.2.1 = "C" then 3 else 1)
def isRfT : FieldType → Bool
  | .object _ => true
  | .array _ => true
  | _ => false
def clsB (r : vw_C) : Bool := (u_ws r.1 r.2.1 r.2.2).all wsIn && ((List.range r.2.2).all (fun k => (parseFieldDescriptor (r.2.1 k).2.2.1).isSome && (!(Nat.beq (tagD (r.2.1 k)) 1) || isRfT ((parseFieldDescriptor (r.2.1 k).2.2.1).getD .int))) && (List.range r.2.2).all (fun a => (List.range r.2.2).all (fun b => Nat.beq a b || decide ((r.2.1 a).2.1 ≠ (r.2.1 b).2.1))))
set_option maxRecDepth 100000 in
set_option maxHeartbeats 4000000 in
theorem cls_ok : mcl.all clsB = true := by decide +kernel
theorem cls_in {ci : Nat} {r : vw_C} (h : mcl[ci]? = some r) : ∀ w ∈ u_ws r.1 r.2.1 r.2.2, w ∈ lw_g := by
  have h1 := List.all_eq_true.mp cls_ok r (List.mem_of_getElem? h)
  unfold clsB at h1
  simp only [Bool.and_eq_true] at h1
  intro w hw
  exact wsIn_in (List.all_eq_true.mp h1.1 w hw)
def fty (r : vw_C) (k : Nat) : FieldType := (parseFieldDescriptor (r.2.1 k).2.2.1).getD .int
theorem cls_ty {ci : Nat} {r : vw_C} (h : mcl[ci]? = some r) : ∀ k, k < r.2.2 → parseFieldDescriptor (r.2.1 k).2.2.1 = some (fty r k) := by
  have h1 := List.all_eq_true.mp cls_ok r (List.mem_of_getElem? h)
  unfold clsB at h1
  simp only [Bool.and_eq_true] at h1
  intro k hk
  have h2 := (Bool.and_eq_true _ _ ▸ List.all_eq_true.mp h1.2.1 k (List.mem_range.mpr hk) : _ ∧ _).1
  unfold fty
  cases hp : parseFieldDescriptor (r.2.1 k).2.2.1 with
  | none => rw [hp] at h2; cases h2
  | some t => rfl
theorem cls_rf {ci : Nat} {r : vw_C} (h : mcl[ci]? = some r) {k : Nat} (hk : k < r.2.2) (h1 : tagD (r.2.1 k) = 1) : isRfT (fty r k) = true := by
  have h2 := List.all_eq_true.mp cls_ok r (List.mem_of_getElem? h)
  unfold clsB at h2
  simp only [Bool.and_eq_true] at h2
  have h3 := (Bool.and_eq_true _ _ ▸ List.all_eq_true.mp h2.2.1 k (List.mem_range.mpr hk) : _ ∧ _).2
  rw [h1] at h3
  exact h3
theorem cls_nm {ci : Nat} {r : vw_C} (h : mcl[ci]? = some r) : ∀ a, a < r.2.2 → ∀ b, b < r.2.2 → a ≠ b → (r.2.1 a).2.1 ≠ (r.2.1 b).2.1 := by
  have h1 := List.all_eq_true.mp cls_ok r (List.mem_of_getElem? h)
  unfold clsB at h1
  simp only [Bool.and_eq_true] at h1
  intro a ha b hb hn
  have h2 := List.all_eq_true.mp (List.all_eq_true.mp h1.2.2 a (List.mem_range.mpr ha)) b (List.mem_range.mpr hb)
  rcases Bool.or_eq_true _ _ ▸ h2 with h3 | h3
  · exact absurd (nat_beq h3) hn
  · exact of_decide_eq_true h3
def pflB (q : Nat × (Nat × (Nat × (Nat × Nat)))) : Bool := match mcl[q.2.2.1]? with
  | some r => Nat.blt q.2.2.2.1 r.2.2 && (wd q.2.2.2.2 (.fieldLink (mcn q.1) q.2.1 r.1 (r.2.1 q.2.2.2.1).2.1 (r.2.1 q.2.2.2.1).2.2.1) && (decide ((r.2.1 q.2.2.2.1).1 = r.1) && (rfF q.2.2.1 q.2.2.2.1 == Nat.beq (tagD (r.2.1 q.2.2.2.1)) 1)))
  | none => false
set_option maxRecDepth 100000 in
set_option maxHeartbeats 4000000 in
theorem pfl_ok : pfl.all pflB = true := by decide +kernel
/-- what the link of a field says -/
theorem pfl_at {j c ix ci k pos : Nat} (h : pfl[j]? = some (c, (ix, (ci, (k, pos))))) : ∃ r : vw_C, mcl[ci]? = some r ∧ k < r.2.2 ∧ Cond.fieldLink (mcn c) ix r.1 (r.2.1 k).2.1 (r.2.1 k).2.2.1 ∈ lw_g ∧ (r.2.1 k).1 = r.1 ∧ rfF ci k = Nat.beq (tagD (r.2.1 k)) 1 := by
  have h1 := List.all_eq_true.mp pfl_ok _ (List.mem_of_getElem? h)
  unfold pflB at h1
  dsimp only at h1
  cases hm : mcl[ci]? with
  | none => rw [hm] at h1; cases h1
  | some r =>
    rw [hm] at h1
    simp only [Bool.and_eq_true] at h1
    exact ⟨r, rfl, Nat.le_of_ble_eq_true h1.1, wd_in h1.2.1, of_decide_eq_true h1.2.2.1, eq_of_beq h1.2.2.2⟩
/-- the four static fields that are read, the four fields of static objects -/
def sst (k : Nat) : String × (String × String) := if k = 1 then ("ColourOffice", ("COMMANDS", "[LColourOffice$Command;")) else if k = 5 then ("ColourOffice$1", ("$SwitchMap$ColourOffice$Command", "[I")) else if k = 20 then ("java/lang/String", ("COMPACT_STRINGS", "Z")) else ("jdk/internal/util/Preconditions", ("SIOOBE_FORMATTER", "Ljava/util/function/BiFunction;"))
def sfld (k : Nat) : String × (String × String) := if k = 100 then ("ColourOffice$Command", ("form", "Ljava/lang/String;")) else if k = 101 then ("java/lang/Enum", ("ordinal", "I")) else if k = 102 then ("java/lang/String", ("value", "[B")) else ("java/lang/String", ("code\x72", "B"))
def xcls (kd : Nat) : String := ["java/lang/IllegalArgumentException", "java/lang/IllegalStateException", "java/util/NoSuchElementException", "java/lang/UnsupportedOperationException", "java/lang/IndexOutOfBoundsException", "java/lang/ArithmeticException"].getD kd ""
/-- the static things, in heap H: the script, the commands and their texts, the switch's map, a throw's needs, the throws' texts -/
def Sta (X : MX) (sv : Nat → Nat → Value) (xt : Nat → String) (A : Nat → Prop) (U : State) (H : Heap) : Prop :=
  svok sv ∧ (∀ n, ∃ b, sv 0 n = .ref b ∧ va_X b X.1 X.2 U H ∧ b < H.size ∧ ¬ A b) ∧
  (va_Z (sst 1).1 (sst 1).2.1 (sst 1).2.2 (sv 1 0) A U H ∧ va_Z (sst 5).1 (sst 5).2.1 (sst 5).2.2 (sv 5 0) A U H ∧ va_Z (sst 20).1 (sst 20).2.1 (sst 20).2.2 (.int 1) A U H ∧ va_Z (sst 9).1 (sst 9).2.1 (sst 9).2.2 (sv 9 0) A U H) ∧
  (∀ n, ∃ t, sv 1 n = .ref t ∧ va_T (.object "ColourOffice$Command") t 10 (fun j => sv 2 j) A U H) ∧
  (∀ n, ∃ t, sv 5 n = .ref t ∧ va_T .int t 10 (fun j => .int (Int32.ofNat (swMap.getD j 0))) A U H) ∧
  (∀ n, n < 10 → ∃ t, sv 2 n = .ref t ∧ va_O "ColourOffice$Command" t A U H ∧ va_OF (sfld 100).1 (sfld 100).2.1 (sfld 100).2.2 (sv 3 n) t A U H ∧ va_OF (sfld 101).1 (sfld 101).2.1 (sfld 101).2.2 (.int (Int32.ofNat n)) t A U H) ∧
  (∀ n, n < 10 → ∃ t, sv 3 n = .ref t ∧ va_O "java/lang/String" t A U H ∧ va_OF (sfld 102).1 (sfld 102).2.1 (sfld 102).2.2 (sv 4 n) t A U H ∧ va_OF (sfld 103).1 (sfld 103).2.1 (sfld 103).2.2 (.int 0) t A U H) ∧
  (∀ n, n < 10 → ∃ t, sv 4 n = .ref t ∧ va_T .byte t (formLen n) (fun j => .int (Int32.ofNat ((formCh n).getD j 0))) A U H) ∧
  (vx_Zq Bundle.tN "UNASSIGNED_STACK" Bundle.steD A U H ∧ vx_Zq Bundle.tN "SUPPRESSED_SENTINEL" Bundle.listD A U H) ∧
  ((∀ w ∈ lw_n, va_Nw w U) ∧ va_AO "ColourOffice$State" U ∧ va_AOA .int U ∧ ∀ a b, a < 6 → b < 6 → a ≠ b → va_Nc (xcls a) (xcls b) U) ∧
  ∀ j c, xl[j]? = some c → ∃ sa, vk_R (mcn (mcls c.1)) c.2.2.2.1 (xt j) sa U
theorem va_AOA.moved {ty : FieldType} {u U : State} (hvm : u.vm.Alike U.vm) (h : va_AOA ty u) : va_AOA ty U := by
  have h1 : (Cond.arrayOver (.array ty)).before #[] U = (Cond.arrayOver (.array ty)).before #[] (u.setVm U.vm) := rfl
  unfold va_AOA
  rw [h1, Cond.arrayOver_setVmC hvm]
  exact h
theorem nws_warm {u U : State} (hW : u.WarmedH U.vm) (h : ∀ w ∈ lw_n, va_Nw w u) : ∀ w ∈ lw_n, va_Nw w U := by
  intro w hw
  have h1 := h w hw
  have h2 := (List.mem_filter.mp hw).2
  cases w <;> first | exact va_Nw.warmF hW h1 | exact va_Nw.warmM hW h1 | exact va_Nw.warmD hW h1 | exact va_Nw.warmC hW h1 | cases h2
theorem Sta.kept {X : MX} {sv : Nat → Nat → Value} {xt : Nat → String} {A : Nat → Prop} {U : State} {H H1 : Heap} (h : Sta X sv xt A U H) (hz : H.size ≤ H1.size) (hq : ∀ a : Nat, a < H.size → ¬ A a → H1[a]? = H[a]?) : Sta X sv xt A U H1 := by
  obtain ⟨h0, h1, ⟨h2, h3, h4, h5⟩, h6, h7, h8, h9, h10, ⟨h11, h12⟩, ⟨h14, h15, h16, h17⟩, h13⟩ := h
  refine ⟨h0, fun n => ?_, ⟨h2.kept hq, h3.kept hq, h4.kept hq, h5.kept hq⟩, fun n => ?_, fun n => ?_, fun n hn => ?_, fun n hn => ?_, fun n hn => ?_, ⟨h11.kept hq, h12.kept hq⟩, ⟨h14, h15, h16, h17⟩, h13⟩
  · obtain ⟨b, e1, e2, e3, e4⟩ := h1 n
    exact ⟨b, e1, e2.kept (hq b e3 e4), Nat.lt_of_lt_of_le e3 hz, e4⟩
  · obtain ⟨t, e1, e2⟩ := h6 n
    exact ⟨t, e1, e2.kept hq⟩
  · obtain ⟨t, e1, e2⟩ := h7 n
    exact ⟨t, e1, e2.kept hq⟩
  · obtain ⟨t, e1, e2, e3, e4⟩ := h8 n hn
    exact ⟨t, e1, e2.kept hq, e3.kept hq, e4.kept hq⟩
  · obtain ⟨t, e1, e2, e3, e4⟩ := h9 n hn
    exact ⟨t, e1, e2.kept hq, e3.kept hq, e4.kept hq⟩
  · obtain ⟨t, e1, e2⟩ := h10 n hn
    exact ⟨t, e1, e2.kept hq⟩
theorem Sta.moved {X : MX} {sv : Nat → Nat → Value} {xt : Nat → String} {A : Nat → Prop} {u U : State} {H : Heap} (hW : u.WarmedH U.vm) (h : Sta X sv xt A u H) : Sta X sv xt A U H := by
  have hvm : u.vm.Alike U.vm := hW.alike
  obtain ⟨h0, h1, ⟨h2, h3, h4, h5⟩, h6, h7, h8, h9, h10, ⟨h11, h12⟩, ⟨h14, h15, h16, h17⟩, h13⟩ := h
  refine ⟨h0, fun n => ?_, ⟨h2.moved hvm, h3.moved hvm, h4.moved hvm, h5.moved hvm⟩, fun n => ?_, fun n => ?_, fun n hn => ?_, fun n hn => ?_, fun n hn => ?_, ⟨h11.moved hvm, h12.moved hvm⟩, ⟨nws_warm hW h14, va_AO.moved hvm h15, va_AOA.moved hvm h16, fun a b ha hb hn => (h17 a b ha hb hn).moved hvm⟩, fun j c hj => ?_⟩
  · obtain ⟨b, e1, e2, e3⟩ := h1 n
    exact ⟨b, e1, e2.moved hvm, e3⟩
  · obtain ⟨t, e1, e2⟩ := h6 n
    exact ⟨t, e1, e2.moved hvm⟩
  · obtain ⟨t, e1, e2⟩ := h7 n
    exact ⟨t, e1, e2.moved hvm⟩
  · obtain ⟨t, e1, e2, e3, e4⟩ := h8 n hn
    exact ⟨t, e1, e2.moved hvm, e3.moved hvm, e4.moved hvm⟩
  · obtain ⟨t, e1, e2, e3, e4⟩ := h9 n hn
    exact ⟨t, e1, e2.moved hvm, e3.moved hvm, e4.moved hvm⟩
  · obtain ⟨t, e1, e2⟩ := h10 n hn
    exact ⟨t, e1, e2.moved hvm⟩
  · obtain ⟨sa, e⟩ := h13 j c hj
    exact ⟨sa, e.warm hW⟩
/-- all objects of the order of making: the longs and the doubles lie in one each -/
theorem apl_one : apl.all (fun q => (!(Nat.beq (fam q.1).1 5) || decide (q = (43, 0))) && (!(Nat.beq (fam q.1).1 6) || decide (q = (44, 0)))) = true := by decide +kernel
theorem pv_one5 {k : Nat} {p : MP} (h : pv k p) (hk : (fam p.1).1 = 5) : p = (43, 0) := by
  obtain ⟨j, -, h2, rfl⟩ := h
  have h1 := List.all_eq_true.mp apl_one _ (List.mem_of_getElem? (pj_get h2))
  simp only [Bool.and_eq_true, hk] at h1
  have h3 := h1.1
  rw [show Nat.beq 5 5 = true from rfl, Bool.not_true, Bool.false_or] at h3
  exact of_decide_eq_true h3
theorem pv_one6 {k : Nat} {p : MP} (h : pv k p) (hk : (fam p.1).1 = 6) : p = (44, 0) := by
  obtain ⟨j, -, h2, rfl⟩ := h
  have h1 := List.all_eq_true.mp apl_one _ (List.mem_of_getElem? (pj_get h2))
  simp only [Bool.and_eq_true, hk] at h1
  have h3 := h1.2
  rw [show Nat.beq 6 6 = true from rfl, Bool.not_true, Bool.false_or] at h3
  exact of_decide_eq_true h3
