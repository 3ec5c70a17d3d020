/-! ===== A LONG METHOD'S CHECK BY SLICES (wip/whole/gen_slice.py) ===== -/
/-- the bytes of A are those of B from o on -/
def slc (A B : ByteArray) (o : Nat) : Prop := ∀ (p : Nat) (v : UInt8), A.data[p]? = some v → B.data[o + p]? = some v
def Rel {α : Type} (A B : ByteArray) (o : Nat) (r r9 : Decoder α) : Prop := ∀ (p : Nat) (v : α) (q : Nat), Reader.runAt r A p = .ok (v, q) → Reader.runAt r9 B (o + p) = .ok (v, o + q)
section SLC
variable {α β : Type} {A B : ByteArray} {o : Nat}
theorem rel_pure (x : α) : Rel A B o (pure x) (pure x) := by
  intro p v q h
  have h : (Except.ok (x, p) : Except DecodeError (α × Nat)) = .ok (v, q) := h
  cases h
  rfl
theorem run_bind (r : Decoder α) (f : α → Decoder β) (p : Nat) : Reader.runAt (r >>= f) A p = (match Reader.runAt r A p with
  | .ok x => Reader.runAt (f x.1) A x.2
  | .error e => .error e) := by
  show Except.bind (Reader.runAt r A p) (fun x => Reader.runAt (f x.1) A x.2) = _
  cases Reader.runAt r A p <;> rfl
theorem rel_bind {r r9 : Decoder α} {f f9 : α → Decoder β} (h : Rel A B o r r9) (k : ∀ x, Rel A B o (f x) (f9 x)) : Rel A B o (r >>= f) (r9 >>= f9) := by
  intro p v q hq
  rw [run_bind] at hq ⊢
  cases hr : Reader.runAt r A p with
  | error e => rw [hr] at hq; cases hq
  | ok x =>
    obtain ⟨x, s⟩ := x
    rw [hr] at hq
    rw [h p x s hr]
    exact k x s v q hq
theorem run_u1 (C : ByteArray) (p : Nat) : Reader.runAt (Reader.u1 : Decoder Nat) C p = (match C.data[p]? with
  | some v => .ok (v.toNat, p + 1)
  | none => .error (.truncated p)) := by
  by_cases h : p < C.size
  · have h1 : C.data[p]? = some (C[p]) := Array.getElem?_eq_getElem h
    rw [h1]
    unfold Reader.u1
    rw [run_bind]
    show Reader.runAt (_ >>= _) C p = _
    rw [run_bind]
    show Reader.runAt (dite _ _ _) C p = _
    rw [dif_pos h]
    rfl
  · have h1 : C.data[p]? = none := Array.getElem?_eq_none (Nat.not_lt.mp h)
    rw [h1]
    unfold Reader.u1
    rw [run_bind]
    show Reader.runAt (_ >>= _) C p = _
    rw [run_bind]
    show Reader.runAt (dite _ _ _) C p = _
    rw [dif_neg h]
    rfl
theorem rel_u1 (hs : slc A B o) : Rel A B o (Reader.u1 : Decoder Nat) Reader.u1 := by
  intro p v q h
  rw [run_u1] at h ⊢
  cases h1 : A.data[p]? with
  | none => rw [h1] at h; cases h
  | some x =>
    rw [h1] at h
    rw [hs p x h1]
    cases h
    rfl
theorem rel_u2 (hs : slc A B o) : Rel A B o (Reader.u2 : Decoder Nat) Reader.u2 := rel_bind (rel_u1 hs) (fun _ => rel_bind (rel_u1 hs) (fun _ => rel_pure _))
theorem rel_map {r r9 : Decoder α} (g : α → β) (h : Rel A B o r r9) : Rel A B o (g <$> r) (g <$> r9) := by
  have e : ∀ x : Decoder α, g <$> x = x >>= fun a => pure (g a) := fun x => by rfl
  rw [e, e]
  exact rel_bind h (fun _ => rel_pure _)
theorem rel_s1 (hs : slc A B o) : Rel A B o (Reader.s1 : Decoder Int) Reader.s1 := rel_map _ (rel_u1 hs)
theorem rel_s2 (hs : slc A B o) : Rel A B o (Reader.s2 : Decoder Int) Reader.s2 := rel_map _ (rel_u2 hs)
def opsL : List Nat := [3, 4, 5, 6, 7, 8, 9, 10, 16, 21, 23, 24, 25, 42, 43, 44, 45, 46, 47, 49, 54, 56, 57, 58, 76, 77, 78, 89, 96, 100, 126, 132, 133, 141, 146, 148, 149, 151, 153, 154, 159, 163, 167, 172, 182, 183, 184, 187, 190]
set_option maxRecDepth 100000 in
set_option maxHeartbeats 4000000 in
theorem rel_instr (hs : slc A B o) {p : Nat} {v : UInt8} (hv : A.data[p]? = some v) (hop : v.toNat ∈ opsL) {x : Instr} {q : Nat} (h : Reader.runAt (Decoder.instr p) A p = .ok (x, q)) : Reader.runAt (Decoder.instr (o + p)) B (o + p) = .ok (x, o + q) := by
  unfold Decoder.instr at h ⊢
  rw [run_bind, run_u1] at h ⊢
  rw [hv] at h
  rw [hs p v hv]
  dsimp only at h ⊢
  generalize v.toNat = n at hop h ⊢
  have key : ∀ {r r9 : Decoder Instr}, Rel A B o r r9 → Reader.runAt r A (p + 1) = .ok (x, q) → Reader.runAt r9 B (o + p + 1) = .ok (x, o + q) := fun hr h => hr (p + 1) x q h
  unfold opsL at hop
  simp only [List.mem_cons, List.not_mem_nil, or_false] at hop
  rcases hop with rfl | rfl | rfl | rfl | rfl | rfl | rfl | rfl | rfl | rfl | rfl | rfl | rfl | rfl | rfl | rfl | rfl | rfl | rfl | rfl | rfl | rfl | rfl | rfl | rfl | rfl | rfl | rfl | rfl | rfl | rfl | rfl | rfl | rfl | rfl | rfl | rfl | rfl | rfl | rfl | rfl | rfl | rfl | rfl | rfl | rfl | rfl | rfl | rfl
  all_goals first
    | exact key (rel_pure _) h
    | exact key (rel_bind (rel_u2 hs) (fun _ => rel_pure _)) h
    | exact key (rel_bind (rel_u1 hs) (fun _ => rel_pure _)) h
    | exact key (rel_bind (rel_s1 hs) (fun _ => rel_pure _)) h
    | exact key (rel_bind (rel_s2 hs) (fun _ => rel_pure _)) h
    | exact key (rel_bind (rel_u1 hs) (fun _ => rel_bind (rel_s1 hs) (fun _ => rel_pure _))) h
theorem dec_run (C : ByteArray) (p : Nat) : decode C p = (match Reader.runAt (Decoder.instr p) C p with
  | .ok x => .ok (x.1, x.2 - p)
  | .error e => .error e) := by
  unfold decode
  cases Reader.runAt (Decoder.instr p) C p <;> rfl
theorem dec_slice (hs : slc A B o) {p : Nat} {v : UInt8} (hv : A.data[p]? = some v) (hop : v.toNat ∈ opsL) {x : Instr} {n : Nat} (h : decode A p = .ok (x, n)) : decode B (o + p) = .ok (x, n) := by
  rw [dec_run] at h ⊢
  cases hr : Reader.runAt (Decoder.instr p) A p with
  | error e => rw [hr] at h; cases h
  | ok y =>
    obtain ⟨y, q⟩ := y
    rw [hr] at h
    rw [rel_instr hs hv hop hr]
    cases h
    show Except.ok (_, o + q - (o + p)) = _
    rw [Nat.add_sub_add_left]
end SLC
def chkY (mi pc : Nat) (e : ME) : Bool := ((isw e.1 || Nat.beq e.2.1 (ilen e.1)) && (tgok pc e.1 e.2.2.1 && (chkF mi e.1 e.2.2.1 e.2.2.2.1 e.2.2.2.2.1 e.2.2.2.2.2 && (chkC mi e.1 e.2.2.1 e.2.2.2.1 e.2.2.2.2.1 e.2.2.2.2.2 && chkX mi pc e.1 e.2.2.1 e.2.2.2.1 e.2.2.2.2.1 e.2.2.2.2.2))))
def opAt (A : ByteArray) (k : Nat) : Bool := match A.data[k]? with
  | some v => decide (v.toNat ∈ opsL)
  | none => false
def chkS (mi : Nat) (A : ByteArray) (o k : Nat) : Bool := match tb mi (o + k) with
  | some e => (bif opAt A k then decide (decode A k = .ok (e.1, e.2.1)) else decide (decode (mbytes mi) (o + k) = .ok (e.1, e.2.1))) && chkY mi (o + k) e
  | none => true
theorem chk_slice {mi o : Nat} {A : ByteArray} (hs : slc A (mbytes mi) o) (h : (List.range 128).all (chkS mi A o) = true) : chkR mi o 128 = true := by
  refine List.all_eq_true.mpr (fun k hk => ?_)
  have h1 := List.all_eq_true.mp h k hk
  unfold chkS at h1
  unfold chkP
  cases ht : tb mi (o + k) with
  | none => rfl
  | some e =>
    rw [ht] at h1
    dsimp only at h1 ⊢
    unfold chkE
    rw [Bool.and_eq_true] at h1 ⊢
    refine ⟨?_, h1.2⟩
    have h2 := h1.1
    cases hop : opAt A k with
    | false => rw [hop, cond_false] at h2; exact h2
    | true =>
      rw [hop, cond_true] at h2
      unfold opAt at hop
      cases hv : A.data[k]? with
      | none => rw [hv] at hop; cases hop
      | some v =>
        rw [hv] at hop
        exact decide_eq_true (dec_slice hs hv (of_decide_eq_true hop) (of_decide_eq_true h2))
def slB (A : ByteArray) (l : List UInt8) (o : Nat) : Bool := decide (A.data.toList = (l.drop o).take 140)
theorem slc_of {A B : ByteArray} {o : Nat} (h : slB A B.data.toList o = true) : slc A B o := by
  have h1 : A.data.toList = (B.data.toList.drop o).take 140 := of_decide_eq_true h
  intro p v hv
  rw [← Array.getElem?_toList, h1, List.getElem?_take] at hv
  split at hv
  · rw [List.getElem?_drop] at hv
    rw [← Array.getElem?_toList]
    exact hv
  · cases hv
def sl_0 : ByteArray := ⟨#[187, 0, 8, 89, 183, 0, 163, 76, 187, 0, 164, 89, 183, 0, 166, 77, 4, 188, 11, 78, 4, 188, 7, 58, 4, 3, 54, 5, 21, 5, 42, 190, 16, 6, 100, 163, 11, 154, 42, 21, 5, 46, 16, 63, 126, 170, 0, 0, 0, 0, 11, 138, 0, 0, 0, 0, 0, 0, 0, 55, 0, 0, 0, 239, 0, 0, 1, 75, 0, 0, 1, 179, 0, 0, 1, 235, 0, 0, 2, 35, 0, 0, 2, 93, 0, 0, 2, 161, 0, 0, 2, 174, 0, 0, 2, 242, 0, 0, 3, 42, 0, 0, 3, 55, 0, 0, 3, 111, 0, 0, 3, 167, 0, 0, 3, 223, 0, 0, 4, 23, 0, 0, 4, 79, 0, 0, 4, 135, 0, 0, 4, 191, 0, 0, 4, 247, 0, 0, 5, 4]⟩
def sl_1 : ByteArray := ⟨#[0, 0, 4, 191, 0, 0, 4, 247, 0, 0, 5, 4, 0, 0, 5, 60, 0, 0, 5, 116, 0, 0, 5, 172, 0, 0, 5, 240, 0, 0, 6, 59, 0, 0, 6, 115, 0, 0, 6, 183, 0, 0, 7, 7, 0, 0, 7, 87, 0, 0, 7, 131, 0, 0, 7, 175, 0, 0, 7, 188, 0, 0, 7, 201, 0, 0, 7, 214, 0, 0, 8, 14, 0, 0, 8, 70, 0, 0, 8, 126, 0, 0, 8, 194, 0, 0, 8, 207, 0, 0, 8, 220, 0, 0, 8, 233, 0, 0, 8, 246, 0, 0, 9, 3, 0, 0, 9, 68, 0, 0, 9, 134, 0, 0, 9, 147, 0, 0, 9, 203, 0, 0, 10, 3, 0, 0, 10, 59, 0, 0, 10, 117, 0, 0, 10, 161, 0, 0, 10, 205]⟩
def sl_2 : ByteArray := ⟨#[0, 0, 10, 117, 0, 0, 10, 161, 0, 0, 10, 205, 0, 0, 10, 249, 0, 0, 11, 37, 0, 0, 11, 81, 0, 0, 11, 94, 43, 42, 21, 5, 4, 96, 46, 42, 21, 5, 5, 96, 46, 42, 21, 5, 6, 96, 46, 42, 21, 5, 7, 96, 46, 45, 184, 0, 167, 54, 6, 44, 42, 21, 5, 4, 96, 46, 42, 21, 5, 5, 96, 46, 42, 21, 5, 6, 96, 46, 42, 21, 5, 7, 96, 46, 182, 0, 172, 54, 7, 44, 182, 0, 173, 21, 6, 159, 0, 5, 3, 172, 21, 6, 154, 0, 15, 45, 3, 47, 21, 7, 133, 148, 153, 0, 5, 3, 172, 167, 10, 66, 43, 42, 21, 5, 4, 96, 46, 42, 21, 5, 5, 96, 46, 42, 21, 5, 6, 96, 46, 42]⟩
def sl_3 : ByteArray := ⟨#[21, 5, 5, 96, 46, 42, 21, 5, 6, 96, 46, 42, 21, 5, 7, 96, 46, 42, 21, 5, 8, 96, 46, 45, 184, 0, 176, 54, 6, 44, 42, 21, 5, 4, 96, 46, 42, 21, 5, 5, 96, 46, 42, 21, 5, 6, 96, 46, 42, 21, 5, 7, 96, 46, 42, 21, 5, 8, 96, 46, 182, 0, 179, 54, 7, 44, 182, 0, 173, 21, 6, 159, 0, 5, 3, 172, 21, 6, 154, 0, 15, 45, 3, 47, 21, 7, 133, 148, 153, 0, 5, 3, 172, 167, 9, 218, 43, 42, 21, 5, 4, 96, 46, 45, 184, 0, 180, 54, 6, 44, 42, 21, 5, 4, 96, 46, 182, 0, 183, 54, 7, 44, 182, 0, 173, 21, 6, 159, 0, 5, 3, 172, 21, 6, 154, 0, 15, 45, 3, 47]⟩
def sl_4 : ByteArray := ⟨#[0, 5, 3, 172, 21, 6, 154, 0, 15, 45, 3, 47, 21, 7, 133, 148, 153, 0, 5, 3, 172, 167, 9, 162, 43, 42, 21, 5, 4, 96, 46, 45, 184, 0, 184, 54, 6, 44, 42, 21, 5, 4, 96, 46, 182, 0, 186, 54, 7, 44, 182, 0, 173, 21, 6, 159, 0, 5, 3, 172, 21, 6, 154, 0, 15, 45, 3, 47, 21, 7, 133, 148, 153, 0, 5, 3, 172, 167, 9, 106, 43, 42, 21, 5, 4, 96, 46, 146, 45, 184, 0, 187, 54, 6, 44, 42, 21, 5, 4, 96, 46, 146, 182, 0, 190, 54, 7, 44, 182, 0, 173, 21, 6, 159, 0, 5, 3, 172, 21, 6, 154, 0, 15, 45, 3, 47, 21, 7, 133, 148, 153, 0, 5, 3, 172, 167, 9, 48, 43, 42]⟩
def sl_5 : ByteArray := ⟨#[133, 148, 153, 0, 5, 3, 172, 167, 9, 48, 43, 42, 21, 5, 4, 96, 46, 42, 21, 5, 5, 96, 46, 45, 184, 0, 191, 54, 6, 44, 42, 21, 5, 4, 96, 46, 42, 21, 5, 5, 96, 46, 182, 0, 194, 54, 7, 44, 182, 0, 173, 21, 6, 159, 0, 5, 3, 172, 21, 6, 154, 0, 15, 45, 3, 47, 21, 7, 133, 148, 153, 0, 5, 3, 172, 167, 8, 236, 43, 182, 0, 195, 44, 182, 0, 198, 159, 8, 225, 3, 172, 43, 42, 21, 5, 4, 96, 46, 42, 21, 5, 5, 96, 46, 45, 184, 0, 199, 54, 6, 44, 42, 21, 5, 4, 96, 46, 42, 21, 5, 5, 96, 46, 182, 0, 201, 54, 7, 44, 182, 0, 173, 21, 6, 159, 0, 5, 3, 172, 21]⟩
def sl_6 : ByteArray := ⟨#[44, 182, 0, 173, 21, 6, 159, 0, 5, 3, 172, 21, 6, 154, 0, 15, 45, 3, 47, 21, 7, 133, 148, 153, 0, 5, 3, 172, 167, 8, 155, 43, 42, 21, 5, 4, 96, 46, 45, 184, 0, 202, 54, 6, 44, 42, 21, 5, 4, 96, 46, 182, 0, 204, 54, 7, 44, 182, 0, 173, 21, 6, 159, 0, 5, 3, 172, 21, 6, 154, 0, 15, 45, 3, 47, 21, 7, 133, 148, 153, 0, 5, 3, 172, 167, 8, 99, 43, 182, 0, 205, 44, 182, 0, 208, 159, 8, 88, 3, 172, 43, 42, 21, 5, 4, 96, 46, 45, 184, 0, 209, 54, 6, 44, 42, 21, 5, 4, 96, 46, 182, 0, 211, 54, 7, 44, 182, 0, 173, 21, 6, 159, 0, 5, 3, 172, 21, 6, 154, 0]⟩
def sl_7 : ByteArray := ⟨#[173, 21, 6, 159, 0, 5, 3, 172, 21, 6, 154, 0, 15, 45, 3, 47, 21, 7, 133, 148, 153, 0, 5, 3, 172, 167, 8, 30, 43, 42, 21, 5, 4, 96, 46, 45, 184, 0, 212, 54, 6, 44, 42, 21, 5, 4, 96, 46, 182, 0, 214, 54, 7, 44, 182, 0, 173, 21, 6, 159, 0, 5, 3, 172, 21, 6, 154, 0, 15, 45, 3, 47, 21, 7, 133, 148, 153, 0, 5, 3, 172, 167, 7, 230, 43, 42, 21, 5, 4, 96, 46, 45, 184, 0, 215, 54, 6, 44, 42, 21, 5, 4, 96, 46, 182, 0, 217, 54, 7, 44, 182, 0, 173, 21, 6, 159, 0, 5, 3, 172, 21, 6, 154, 0, 15, 45, 3, 47, 21, 7, 133, 148, 153, 0, 5, 3, 172, 167, 7, 174]⟩
def sl_8 : ByteArray := ⟨#[21, 7, 133, 148, 153, 0, 5, 3, 172, 167, 7, 174, 43, 42, 21, 5, 4, 96, 46, 45, 184, 0, 218, 54, 6, 44, 42, 21, 5, 4, 96, 46, 182, 0, 220, 54, 7, 44, 182, 0, 173, 21, 6, 159, 0, 5, 3, 172, 21, 6, 154, 0, 15, 45, 3, 47, 21, 7, 133, 148, 153, 0, 5, 3, 172, 167, 7, 118, 43, 42, 21, 5, 4, 96, 46, 45, 184, 0, 221, 54, 6, 44, 42, 21, 5, 4, 96, 46, 182, 0, 223, 54, 7, 44, 182, 0, 173, 21, 6, 159, 0, 5, 3, 172, 21, 6, 154, 0, 15, 45, 3, 47, 21, 7, 133, 148, 153, 0, 5, 3, 172, 167, 7, 62, 43, 42, 21, 5, 4, 96, 46, 45, 184, 0, 224, 54, 6, 44, 42, 21]⟩
def sl_9 : ByteArray := ⟨#[4, 96, 46, 45, 184, 0, 224, 54, 6, 44, 42, 21, 5, 4, 96, 46, 182, 0, 226, 54, 7, 44, 182, 0, 173, 21, 6, 159, 0, 5, 3, 172, 21, 6, 154, 0, 15, 45, 3, 47, 21, 7, 133, 148, 153, 0, 5, 3, 172, 167, 7, 6, 43, 42, 21, 5, 4, 96, 46, 45, 184, 0, 227, 54, 6, 44, 42, 21, 5, 4, 96, 46, 182, 0, 229, 54, 7, 44, 182, 0, 173, 21, 6, 159, 0, 5, 3, 172, 21, 6, 154, 0, 15, 45, 3, 47, 21, 7, 133, 148, 153, 0, 5, 3, 172, 167, 6, 206, 43, 42, 21, 5, 4, 96, 46, 45, 184, 0, 230, 54, 6, 44, 42, 21, 5, 4, 96, 46, 182, 0, 232, 54, 7, 44, 182, 0, 173, 21, 6, 159]⟩
def sl_10 : ByteArray := ⟨#[182, 0, 232, 54, 7, 44, 182, 0, 173, 21, 6, 159, 0, 5, 3, 172, 21, 6, 154, 0, 15, 45, 3, 47, 21, 7, 133, 148, 153, 0, 5, 3, 172, 167, 6, 150, 43, 182, 0, 233, 44, 182, 0, 236, 159, 6, 139, 3, 172, 43, 42, 21, 5, 4, 96, 46, 45, 184, 0, 237, 54, 6, 44, 42, 21, 5, 4, 96, 46, 182, 0, 239, 54, 7, 44, 182, 0, 173, 21, 6, 159, 0, 5, 3, 172, 21, 6, 154, 0, 15, 45, 3, 47, 21, 7, 133, 148, 153, 0, 5, 3, 172, 167, 6, 81, 43, 42, 21, 5, 4, 96, 46, 45, 184, 0, 240, 54, 6, 44, 42, 21, 5, 4, 96, 46, 182, 0, 242, 54, 7, 44, 182, 0, 173, 21, 6, 159, 0, 5, 3]⟩
def sl_11 : ByteArray := ⟨#[54, 7, 44, 182, 0, 173, 21, 6, 159, 0, 5, 3, 172, 21, 6, 154, 0, 15, 45, 3, 47, 21, 7, 133, 148, 153, 0, 5, 3, 172, 167, 6, 25, 43, 42, 21, 5, 4, 96, 46, 45, 184, 0, 243, 54, 6, 44, 42, 21, 5, 4, 96, 46, 182, 0, 245, 54, 7, 44, 182, 0, 173, 21, 6, 159, 0, 5, 3, 172, 21, 6, 154, 0, 15, 45, 3, 47, 21, 7, 133, 148, 153, 0, 5, 3, 172, 167, 5, 225, 43, 42, 21, 5, 4, 96, 46, 42, 21, 5, 5, 96, 46, 45, 184, 0, 246, 54, 6, 44, 42, 21, 5, 4, 96, 46, 42, 21, 5, 5, 96, 46, 182, 0, 248, 54, 7, 44, 182, 0, 173, 21, 6, 159, 0, 5, 3, 172, 21, 6, 154]⟩
def sl_12 : ByteArray := ⟨#[0, 173, 21, 6, 159, 0, 5, 3, 172, 21, 6, 154, 0, 15, 45, 3, 47, 21, 7, 133, 148, 153, 0, 5, 3, 172, 167, 5, 157, 43, 42, 21, 5, 4, 96, 46, 42, 21, 5, 5, 96, 46, 45, 184, 0, 249, 54, 6, 44, 42, 21, 5, 4, 96, 46, 42, 21, 5, 5, 96, 46, 182, 0, 251, 54, 7, 44, 182, 0, 173, 21, 6, 159, 0, 5, 3, 172, 21, 6, 154, 0, 22, 45, 3, 47, 21, 7, 153, 0, 7, 10, 167, 0, 4, 9, 148, 153, 0, 5, 3, 172, 167, 5, 82, 43, 42, 21, 5, 4, 96, 46, 45, 184, 0, 252, 54, 6, 44, 42, 21, 5, 4, 96, 46, 182, 0, 254, 54, 7, 44, 182, 0, 173, 21, 6, 159, 0, 5, 3, 172]⟩
def sl_13 : ByteArray := ⟨#[7, 44, 182, 0, 173, 21, 6, 159, 0, 5, 3, 172, 21, 6, 154, 0, 15, 45, 3, 47, 21, 7, 133, 148, 153, 0, 5, 3, 172, 167, 5, 26, 43, 42, 21, 5, 4, 96, 46, 42, 21, 5, 5, 96, 46, 45, 184, 0, 255, 54, 6, 44, 42, 21, 5, 4, 96, 46, 42, 21, 5, 5, 96, 46, 182, 1, 1, 54, 7, 44, 182, 0, 173, 21, 6, 159, 0, 5, 3, 172, 21, 6, 154, 0, 15, 45, 3, 47, 21, 7, 133, 148, 153, 0, 5, 3, 172, 167, 4, 214, 43, 42, 21, 5, 4, 96, 46, 42, 21, 5, 5, 96, 46, 42, 21, 5, 6, 96, 46, 45, 184, 1, 2, 54, 6, 44, 42, 21, 5, 4, 96, 46, 42, 21, 5, 5, 96, 46, 42, 21]⟩
def sl_14 : ByteArray := ⟨#[5, 4, 96, 46, 42, 21, 5, 5, 96, 46, 42, 21, 5, 6, 96, 46, 182, 1, 5, 54, 7, 44, 182, 0, 173, 21, 6, 159, 0, 5, 3, 172, 21, 6, 154, 0, 15, 45, 3, 47, 21, 7, 133, 148, 153, 0, 5, 3, 172, 167, 4, 134, 43, 42, 21, 5, 4, 96, 46, 42, 21, 5, 5, 96, 46, 42, 21, 5, 6, 96, 46, 45, 184, 1, 6, 54, 6, 44, 42, 21, 5, 4, 96, 46, 42, 21, 5, 5, 96, 46, 42, 21, 5, 6, 96, 46, 182, 1, 8, 54, 7, 44, 182, 0, 173, 21, 6, 159, 0, 5, 3, 172, 21, 6, 154, 0, 15, 45, 3, 47, 21, 7, 133, 148, 153, 0, 5, 3, 172, 167, 4, 54, 43, 45, 184, 1, 9, 54, 6, 44]⟩
def sl_15 : ByteArray := ⟨#[172, 167, 4, 54, 43, 45, 184, 1, 9, 54, 6, 44, 182, 1, 12, 54, 7, 44, 182, 0, 173, 21, 6, 159, 0, 5, 3, 172, 21, 6, 154, 0, 15, 45, 3, 47, 21, 7, 133, 148, 153, 0, 5, 3, 172, 167, 4, 10, 43, 45, 184, 1, 13, 54, 6, 44, 182, 1, 15, 54, 7, 44, 182, 0, 173, 21, 6, 159, 0, 5, 3, 172, 21, 6, 154, 0, 15, 45, 3, 47, 21, 7, 133, 148, 153, 0, 5, 3, 172, 167, 3, 222, 43, 182, 1, 16, 44, 182, 1, 19, 159, 3, 211, 3, 172, 43, 182, 1, 20, 44, 182, 1, 23, 159, 3, 198, 3, 172, 43, 182, 1, 24, 44, 182, 1, 27, 159, 3, 185, 3, 172, 43, 42, 21, 5, 4, 96, 46, 45, 184]⟩
def sl_16 : ByteArray := ⟨#[185, 3, 172, 43, 42, 21, 5, 4, 96, 46, 45, 184, 1, 28, 54, 6, 44, 42, 21, 5, 4, 96, 46, 182, 1, 30, 54, 7, 44, 182, 0, 173, 21, 6, 159, 0, 5, 3, 172, 21, 6, 154, 0, 15, 45, 3, 47, 21, 7, 133, 148, 153, 0, 5, 3, 172, 167, 3, 127, 43, 42, 21, 5, 4, 96, 46, 45, 184, 1, 31, 54, 6, 44, 42, 21, 5, 4, 96, 46, 182, 1, 33, 54, 7, 44, 182, 0, 173, 21, 6, 159, 0, 5, 3, 172, 21, 6, 154, 0, 15, 45, 3, 47, 21, 7, 133, 148, 153, 0, 5, 3, 172, 167, 3, 71, 43, 42, 21, 5, 4, 96, 46, 45, 184, 1, 34, 54, 6, 44, 42, 21, 5, 4, 96, 46, 182, 1, 36, 54, 7]⟩
def sl_17 : ByteArray := ⟨#[44, 42, 21, 5, 4, 96, 46, 182, 1, 36, 54, 7, 44, 182, 0, 173, 21, 6, 159, 0, 5, 3, 172, 21, 6, 154, 0, 15, 45, 3, 47, 21, 7, 133, 148, 153, 0, 5, 3, 172, 167, 3, 15, 43, 42, 21, 5, 4, 96, 46, 42, 21, 5, 5, 96, 46, 45, 184, 1, 37, 54, 6, 44, 42, 21, 5, 4, 96, 46, 42, 21, 5, 5, 96, 46, 182, 1, 39, 54, 7, 44, 182, 0, 173, 21, 6, 159, 0, 5, 3, 172, 21, 6, 154, 0, 15, 45, 3, 47, 21, 7, 133, 148, 153, 0, 5, 3, 172, 167, 2, 203, 43, 182, 1, 40, 44, 182, 1, 43, 159, 2, 192, 3, 172, 43, 182, 1, 44, 44, 182, 1, 47, 159, 2, 179, 3, 172, 43, 182, 1]⟩
def sl_18 : ByteArray := ⟨#[44, 182, 1, 47, 159, 2, 179, 3, 172, 43, 182, 1, 48, 44, 182, 1, 51, 159, 2, 166, 3, 172, 43, 182, 1, 52, 44, 182, 1, 55, 159, 2, 153, 3, 172, 43, 182, 1, 56, 44, 182, 1, 59, 159, 2, 140, 3, 172, 43, 25, 4, 184, 1, 60, 54, 6, 44, 182, 1, 63, 57, 7, 44, 182, 0, 173, 21, 6, 159, 0, 5, 3, 172, 21, 6, 154, 0, 35, 25, 4, 3, 49, 24, 7, 151, 153, 0, 25, 25, 4, 3, 49, 25, 4, 3, 49, 151, 153, 0, 11, 24, 7, 24, 7, 151, 154, 0, 5, 3, 172, 167, 2, 73, 43, 25, 4, 184, 1, 64, 54, 6, 44, 182, 1, 66, 56, 7, 44, 182, 0, 173, 21, 6, 159, 0, 5, 3, 172, 21, 6]⟩
def sl_19 : ByteArray := ⟨#[182, 0, 173, 21, 6, 159, 0, 5, 3, 172, 21, 6, 154, 0, 36, 25, 4, 3, 49, 23, 7, 141, 151, 153, 0, 25, 25, 4, 3, 49, 25, 4, 3, 49, 151, 153, 0, 11, 23, 7, 23, 7, 149, 154, 0, 5, 3, 172, 167, 2, 7, 43, 182, 1, 67, 44, 182, 1, 71, 159, 1, 252, 3, 172, 43, 42, 21, 5, 4, 96, 46, 45, 184, 1, 72, 54, 6, 44, 42, 21, 5, 4, 96, 46, 182, 1, 74, 54, 7, 44, 182, 0, 173, 21, 6, 159, 0, 5, 3, 172, 21, 6, 154, 0, 15, 45, 3, 47, 21, 7, 133, 148, 153, 0, 5, 3, 172, 167, 1, 194, 43, 42, 21, 5, 4, 96, 46, 45, 184, 1, 75, 54, 6, 44, 42, 21, 5, 4, 96, 46]⟩
def sl_20 : ByteArray := ⟨#[184, 1, 75, 54, 6, 44, 42, 21, 5, 4, 96, 46, 182, 1, 77, 54, 7, 44, 182, 0, 173, 21, 6, 159, 0, 5, 3, 172, 21, 6, 154, 0, 15, 45, 3, 47, 21, 7, 133, 148, 153, 0, 5, 3, 172, 167, 1, 138, 43, 42, 21, 5, 4, 96, 46, 45, 184, 1, 78, 54, 6, 44, 42, 21, 5, 4, 96, 46, 182, 1, 80, 54, 7, 44, 182, 0, 173, 21, 6, 159, 0, 5, 3, 172, 21, 6, 154, 0, 15, 45, 3, 47, 21, 7, 133, 148, 153, 0, 5, 3, 172, 167, 1, 82, 43, 42, 21, 5, 4, 96, 46, 146, 45, 184, 1, 81, 54, 6, 44, 42, 21, 5, 4, 96, 46, 146, 182, 1, 83, 54, 7, 44, 182, 0, 173, 21, 6, 159, 0, 5]⟩
def sl_21 : ByteArray := ⟨#[83, 54, 7, 44, 182, 0, 173, 21, 6, 159, 0, 5, 3, 172, 21, 6, 154, 0, 15, 45, 3, 47, 21, 7, 133, 148, 153, 0, 5, 3, 172, 167, 1, 24, 43, 45, 184, 1, 84, 54, 6, 44, 182, 1, 86, 54, 7, 44, 182, 0, 173, 21, 6, 159, 0, 5, 3, 172, 21, 6, 154, 0, 15, 45, 3, 47, 21, 7, 133, 148, 153, 0, 5, 3, 172, 167, 0, 236, 43, 45, 184, 1, 87, 54, 6, 44, 182, 1, 89, 54, 7, 44, 182, 0, 173, 21, 6, 159, 0, 5, 3, 172, 21, 6, 154, 0, 15, 45, 3, 47, 21, 7, 133, 148, 153, 0, 5, 3, 172, 167, 0, 192, 43, 45, 184, 1, 90, 54, 6, 44, 182, 1, 92, 54, 7, 44, 182, 0, 173, 21]⟩
def sl_22 : ByteArray := ⟨#[6, 44, 182, 1, 92, 54, 7, 44, 182, 0, 173, 21, 6, 159, 0, 5, 3, 172, 21, 6, 154, 0, 15, 45, 3, 47, 21, 7, 133, 148, 153, 0, 5, 3, 172, 167, 0, 148, 43, 45, 184, 1, 93, 54, 6, 44, 182, 1, 95, 54, 7, 44, 182, 0, 173, 21, 6, 159, 0, 5, 3, 172, 21, 6, 154, 0, 15, 45, 3, 47, 21, 7, 133, 148, 153, 0, 5, 3, 172, 167, 0, 104, 43, 45, 184, 1, 96, 54, 6, 44, 182, 1, 98, 54, 7, 44, 182, 0, 173, 21, 6, 159, 0, 5, 3, 172, 21, 6, 154, 0, 15, 45, 3, 47, 21, 7, 133, 148, 153, 0, 5, 3, 172, 167, 0, 60, 43, 182, 1, 99, 44, 182, 1, 102, 159, 0, 49, 3, 172, 43]⟩
def sl_23 : ByteArray := ⟨#[1, 99, 44, 182, 1, 102, 159, 0, 49, 3, 172, 43, 45, 184, 1, 103, 54, 6, 44, 182, 1, 105, 54, 7, 44, 182, 0, 173, 21, 6, 159, 0, 5, 3, 172, 21, 6, 154, 0, 15, 45, 3, 47, 21, 7, 133, 148, 153, 0, 5, 3, 172, 167, 0, 3, 132, 5, 6, 167, 244, 98, 4, 172]⟩
set_option maxRecDepth 100000 in
theorem slc_0 : slc sl_0 code 0 := slc_of (by decide +kernel)
set_option maxRecDepth 100000 in
theorem slc_1 : slc sl_1 code 128 := slc_of (by decide +kernel)
set_option maxRecDepth 100000 in
theorem slc_2 : slc sl_2 code 256 := slc_of (by decide +kernel)
set_option maxRecDepth 100000 in
theorem slc_3 : slc sl_3 code 384 := slc_of (by decide +kernel)
set_option maxRecDepth 100000 in
theorem slc_4 : slc sl_4 code 512 := slc_of (by decide +kernel)
set_option maxRecDepth 100000 in
theorem slc_5 : slc sl_5 code 640 := slc_of (by decide +kernel)
set_option maxRecDepth 100000 in
theorem slc_6 : slc sl_6 code 768 := slc_of (by decide +kernel)
set_option maxRecDepth 100000 in
theorem slc_7 : slc sl_7 code 896 := slc_of (by decide +kernel)
set_option maxRecDepth 100000 in
theorem slc_8 : slc sl_8 code 1024 := slc_of (by decide +kernel)
set_option maxRecDepth 100000 in
theorem slc_9 : slc sl_9 code 1152 := slc_of (by decide +kernel)
set_option maxRecDepth 100000 in
theorem slc_10 : slc sl_10 code 1280 := slc_of (by decide +kernel)
set_option maxRecDepth 100000 in
theorem slc_11 : slc sl_11 code 1408 := slc_of (by decide +kernel)
set_option maxRecDepth 100000 in
theorem slc_12 : slc sl_12 code 1536 := slc_of (by decide +kernel)
set_option maxRecDepth 100000 in
theorem slc_13 : slc sl_13 code 1664 := slc_of (by decide +kernel)
set_option maxRecDepth 100000 in
theorem slc_14 : slc sl_14 code 1792 := slc_of (by decide +kernel)
set_option maxRecDepth 100000 in
theorem slc_15 : slc sl_15 code 1920 := slc_of (by decide +kernel)
set_option maxRecDepth 100000 in
theorem slc_16 : slc sl_16 code 2048 := slc_of (by decide +kernel)
set_option maxRecDepth 100000 in
theorem slc_17 : slc sl_17 code 2176 := slc_of (by decide +kernel)
set_option maxRecDepth 100000 in
theorem slc_18 : slc sl_18 code 2304 := slc_of (by decide +kernel)
set_option maxRecDepth 100000 in
theorem slc_19 : slc sl_19 code 2432 := slc_of (by decide +kernel)
set_option maxRecDepth 100000 in
theorem slc_20 : slc sl_20 code 2560 := slc_of (by decide +kernel)
set_option maxRecDepth 100000 in
theorem slc_21 : slc sl_21 code 2688 := slc_of (by decide +kernel)
set_option maxRecDepth 100000 in
theorem slc_22 : slc sl_22 code 2816 := slc_of (by decide +kernel)
set_option maxRecDepth 100000 in
theorem slc_23 : slc sl_23 code 2944 := slc_of (by decide +kernel)
set_option maxRecDepth 100000 in
set_option maxHeartbeats 8000000 in
theorem chk_322_0 : chkR 322 0 128 = true := chk_slice (mi := 322) slc_0 (by decide +kernel)
set_option maxRecDepth 100000 in
set_option maxHeartbeats 8000000 in
theorem chk_322_1 : chkR 322 128 128 = true := chk_slice (mi := 322) slc_1 (by decide +kernel)
set_option maxRecDepth 100000 in
set_option maxHeartbeats 8000000 in
theorem chk_322_2 : chkR 322 256 128 = true := chk_slice (mi := 322) slc_2 (by decide +kernel)
set_option maxRecDepth 100000 in
set_option maxHeartbeats 8000000 in
theorem chk_322_3 : chkR 322 384 128 = true := chk_slice (mi := 322) slc_3 (by decide +kernel)
set_option maxRecDepth 100000 in
set_option maxHeartbeats 8000000 in
theorem chk_322_4 : chkR 322 512 128 = true := chk_slice (mi := 322) slc_4 (by decide +kernel)
set_option maxRecDepth 100000 in
set_option maxHeartbeats 8000000 in
theorem chk_322_5 : chkR 322 640 128 = true := chk_slice (mi := 322) slc_5 (by decide +kernel)
set_option maxRecDepth 100000 in
set_option maxHeartbeats 8000000 in
theorem chk_322_6 : chkR 322 768 128 = true := chk_slice (mi := 322) slc_6 (by decide +kernel)
set_option maxRecDepth 100000 in
set_option maxHeartbeats 8000000 in
theorem chk_322_7 : chkR 322 896 128 = true := chk_slice (mi := 322) slc_7 (by decide +kernel)
set_option maxRecDepth 100000 in
set_option maxHeartbeats 8000000 in
theorem chk_322_8 : chkR 322 1024 128 = true := chk_slice (mi := 322) slc_8 (by decide +kernel)
set_option maxRecDepth 100000 in
set_option maxHeartbeats 8000000 in
theorem chk_322_9 : chkR 322 1152 128 = true := chk_slice (mi := 322) slc_9 (by decide +kernel)
set_option maxRecDepth 100000 in
set_option maxHeartbeats 8000000 in
theorem chk_322_10 : chkR 322 1280 128 = true := chk_slice (mi := 322) slc_10 (by decide +kernel)
set_option maxRecDepth 100000 in
set_option maxHeartbeats 8000000 in
theorem chk_322_11 : chkR 322 1408 128 = true := chk_slice (mi := 322) slc_11 (by decide +kernel)
set_option maxRecDepth 100000 in
set_option maxHeartbeats 8000000 in
theorem chk_322_12 : chkR 322 1536 128 = true := chk_slice (mi := 322) slc_12 (by decide +kernel)
set_option maxRecDepth 100000 in
set_option maxHeartbeats 8000000 in
theorem chk_322_13 : chkR 322 1664 128 = true := chk_slice (mi := 322) slc_13 (by decide +kernel)
set_option maxRecDepth 100000 in
set_option maxHeartbeats 8000000 in
theorem chk_322_14 : chkR 322 1792 128 = true := chk_slice (mi := 322) slc_14 (by decide +kernel)
set_option maxRecDepth 100000 in
set_option maxHeartbeats 8000000 in
theorem chk_322_15 : chkR 322 1920 128 = true := chk_slice (mi := 322) slc_15 (by decide +kernel)
set_option maxRecDepth 100000 in
set_option maxHeartbeats 8000000 in
theorem chk_322_16 : chkR 322 2048 128 = true := chk_slice (mi := 322) slc_16 (by decide +kernel)
set_option maxRecDepth 100000 in
set_option maxHeartbeats 8000000 in
theorem chk_322_17 : chkR 322 2176 128 = true := chk_slice (mi := 322) slc_17 (by decide +kernel)
set_option maxRecDepth 100000 in
set_option maxHeartbeats 8000000 in
theorem chk_322_18 : chkR 322 2304 128 = true := chk_slice (mi := 322) slc_18 (by decide +kernel)
set_option maxRecDepth 100000 in
set_option maxHeartbeats 8000000 in
theorem chk_322_19 : chkR 322 2432 128 = true := chk_slice (mi := 322) slc_19 (by decide +kernel)
set_option maxRecDepth 100000 in
set_option maxHeartbeats 8000000 in
theorem chk_322_20 : chkR 322 2560 128 = true := chk_slice (mi := 322) slc_20 (by decide +kernel)
set_option maxRecDepth 100000 in
set_option maxHeartbeats 8000000 in
theorem chk_322_21 : chkR 322 2688 128 = true := chk_slice (mi := 322) slc_21 (by decide +kernel)
set_option maxRecDepth 100000 in
set_option maxHeartbeats 8000000 in
theorem chk_322_22 : chkR 322 2816 128 = true := chk_slice (mi := 322) slc_22 (by decide +kernel)
set_option maxRecDepth 100000 in
set_option maxHeartbeats 8000000 in
theorem chk_322_23 : chkR 322 2944 128 = true := chk_slice (mi := 322) slc_23 (by decide +kernel)
