/-! ===== SOUNDNESS, EIGHTH: the methods' words, the call sites' words ===== -/
def hasH (mi : Nat) : Bool := !(mhh mi).isEmpty
def codew (mi : Nat) : Cond := bif hasH mi then .codeWith (mY mi) (mbytes mi) (mnl mi) (mret mi) (mhh mi) else .code (mY mi) (mbytes mi) (mnl mi) (mret mi)
def mst (mi : Nat) : Bool := Nat.beq (mps mi).1 1
def mnp (mi : Nat) : Nat := (mps mi).2.2.2.2.2
def isini (mi : Nat) : Bool := decide ((mY mi).name = "<init>")
def ordI : Nat := 330
def lawI : Nat := 322
def methB (mi : Nat) : Bool := wd (mps mi).2.1 (codew mi) && ((Nat.beq mi ordI || wd (mps mi).2.2.2.2.1 (.initialized (mY mi).cls)) && (plainName (mY mi).cls && (decide ((mY mi).cls ≠ "java/lang/invoke/MethodHandle" ∧ (mY mi).cls ≠ "java/lang/invoke/VarHandle") &&
  (decide ((parseMethodDescriptor (mY mi).desc).map (fun d => d.parameters.length) = some (mnp mi)) && (decide ((mY mi).cls = mcn (mcls mi)) && ((bif mst mi then wd (mps mi).2.2.1 (.static (mY mi)) else wd (mps mi).2.2.1 (.instanceMethod (mY mi)) && (isini mi || (Nat.beq mi ordI || wd (mps mi).2.2.2.1 (.selects (mY mi).cls (mY mi) (mY mi)))))
  && (!(isini mi) || (!(hasH mi) && decide (mret mi = none)))))))))
set_option maxRecDepth 100000 in
set_option maxHeartbeats 4000000 in
theorem meth_ok0 : ((nmeth.drop 0).take 34).all methB = true := by decide +kernel
set_option maxRecDepth 100000 in
set_option maxHeartbeats 4000000 in
theorem meth_ok1 : ((nmeth.drop 34).take 34).all methB = true := by decide +kernel
set_option maxRecDepth 100000 in
set_option maxHeartbeats 4000000 in
theorem meth_ok2 : ((nmeth.drop 68).take 34).all methB = true := by decide +kernel
set_option maxRecDepth 100000 in
set_option maxHeartbeats 4000000 in
theorem meth_ok3 : ((nmeth.drop 102).take 34).all methB = true := by decide +kernel
set_option maxRecDepth 100000 in
set_option maxHeartbeats 4000000 in
theorem meth_ok4 : ((nmeth.drop 136).take 34).all methB = true := by decide +kernel
set_option maxRecDepth 100000 in
set_option maxHeartbeats 4000000 in
theorem meth_ok5 : ((nmeth.drop 170).take 34).all methB = true := by decide +kernel
set_option maxRecDepth 100000 in
set_option maxHeartbeats 4000000 in
theorem meth_ok6 : ((nmeth.drop 204).take 34).all methB = true := by decide +kernel
set_option maxRecDepth 100000 in
set_option maxHeartbeats 4000000 in
theorem meth_ok7 : ((nmeth.drop 238).take 34).all methB = true := by decide +kernel
set_option maxRecDepth 100000 in
set_option maxHeartbeats 4000000 in
theorem meth_ok8 : ((nmeth.drop 272).take 34).all methB = true := by decide +kernel
set_option maxRecDepth 100000 in
set_option maxHeartbeats 4000000 in
theorem meth_ok9 : ((nmeth.drop 306).take 34).all methB = true := by decide +kernel
theorem meth_ok : nmeth.all methB = true := by
  have e : nmeth = (nmeth.drop 0).take 34 ++ ((nmeth.drop 34).take 34 ++ ((nmeth.drop 68).take 34 ++ ((nmeth.drop 102).take 34 ++ ((nmeth.drop 136).take 34 ++ ((nmeth.drop 170).take 34 ++ ((nmeth.drop 204).take 34 ++ ((nmeth.drop 238).take 34 ++ ((nmeth.drop 272).take 34 ++ ((nmeth.drop 306).take 34))))))))) := by decide +kernel
  rw [e]
  simp only [List.all_append, Bool.and_eq_true]
  exact ⟨meth_ok0, meth_ok1, meth_ok2, meth_ok3, meth_ok4, meth_ok5, meth_ok6, meth_ok7, meth_ok8, meth_ok9⟩
theorem meth_at {mi : Nat} (h : mi ∈ nmeth) : codew mi ∈ lw_g ∧ (mi ≠ ordI → Cond.initialized (mY mi).cls ∈ lw_g) ∧ plainName (mY mi).cls = true ∧ ((mY mi).cls ≠ "java/lang/invoke/MethodHandle" ∧ (mY mi).cls ≠ "java/lang/invoke/VarHandle") ∧
    (parseMethodDescriptor (mY mi).desc).map (fun d => d.parameters.length) = some (mnp mi) ∧ (mY mi).cls = mcn (mcls mi) ∧ (mst mi = true → Cond.static (mY mi) ∈ lw_g) ∧ (mst mi = false → Cond.instanceMethod (mY mi) ∈ lw_g ∧ (isini mi = false → mi ≠ ordI → Cond.selects (mY mi).cls (mY mi) (mY mi) ∈ lw_g)) ∧ (isini mi = true → hasH mi = false ∧ mret mi = none) := by
  have h1 := List.all_eq_true.mp meth_ok mi h
  unfold methB at h1
  simp only [Bool.and_eq_true] at h1
  obtain ⟨a, b, c, d, e, f, g, k⟩ := h1
  refine ⟨wd_in a, fun hn => ?_, c, of_decide_eq_true d, of_decide_eq_true e, of_decide_eq_true f, fun hs => ?_, fun hs => ?_, fun hi => ?_⟩
  · rcases Bool.or_eq_true _ _ ▸ b with b | b
    · exact absurd (nat_beq b) hn
    · exact wd_in b
  · rw [hs, cond_true] at g
    exact wd_in g
  · rw [hs, cond_false, Bool.and_eq_true] at g
    refine ⟨wd_in g.1, fun hi hn => ?_⟩
    have g2 := g.2
    rw [hi, Bool.false_or, beq_f hn, Bool.false_or] at g2
    exact wd_in g2
  · rw [hi, Bool.not_true, Bool.false_or, Bool.and_eq_true, Bool.not_eq_true'] at k
    exact ⟨k.1, of_decide_eq_true k.2⟩
def mthN (o3 : Nat) : MethodName := bif Nat.beq o3 5 then Lib.Math.max.name else bif Nat.beq o3 6 then Lib.Math.min.name else Lib.Math.abs.name
/-- what the words say of a call -/
def chkC (mi : Nat) (i : Instr) (o1 o2 o3 o4 : Nat) : Bool := match i with
  | .invokevirtual ix => decide (o1 ∈ nmeth) && (Nat.beq o2 (mnp o1) && (!(mst o1) && (!(isini o1) && ((Nat.beq o3 0 && (!(Nat.beq o1 ordI) && wd o4 (.methodLink (mcn (mcls mi)) ix (mY o1)))) || (Nat.beq o3 4 && (bif Nat.beq o1 ordI then wd o4 (.methodLink (mcn (mcls mi)) ix ⟨"ColourOffice$Command", "ordinal", "()I"⟩) else wd o4 (.methodLink (mcn (mcls mi)) ix (mY o1))))))))
  | .invokestatic ix => (Nat.beq o3 1 && (decide (o1 ∈ nmeth) && (Nat.beq o2 (mnp o1) && (mst o1 && wd o4 (.methodLink (mcn (mcls mi)) ix (mY o1)))))) || ((Nat.beq o3 8 && (decide (o1 ∈ nmeth) && (Nat.beq o2 (mnp o1) && (mst o1 && (!(hasH o1) && wn o4 (.methodLinkNest (mcn (mcls mi)) ix (mY o1) "ColourOffice")))))) || ((Nat.beq o3 5 || (Nat.beq o3 6 || Nat.beq o3 7)) && wd o4 (.methodLink (mcn (mcls mi)) ix (mthN o3))))
  | .invokespecial ix => (Nat.beq o3 2 && (decide (o1 ∈ nmeth) && (Nat.beq o2 (mnp o1) && (!(mst o1) && (isini o1 && wd o4 (.methodLink (mcn (mcls mi)) ix (mY o1))))))) || (Nat.beq o3 3 && wd o4 (.methodLink (mcn (mcls mi)) ix Lib.objectInit))
  | _ => true
theorem w_math : (wsIn (.initialized "java/lang/Math") && (wsIn (.static Lib.Math.max.name) && (wsIn (.code Lib.Math.max.name Lib.Math.max.code 2 (some .int)) && (wsIn (.static Lib.Math.min.name) && (wsIn (.code Lib.Math.min.name Lib.Math.min.code 2 (some .int)) && (wsIn (.static Lib.Math.abs.name) && (wsIn (.code Lib.Math.abs.name Lib.Math.abs.code 1 (some .int)) && (wsIn (.instanceMethod Lib.objectInit) && wsIn (.code Lib.objectInit ⟨#[0xb1]⟩ 1 none))))))))) = true := by decide +kernel
theorem w_ord : (wsIn (.sameMethod "ColourOffice$Command" "java/lang/Enum" "ordinal" "()I") && (wsIn (.selects "ColourOffice$Command" ⟨"ColourOffice$Command", "ordinal", "()I"⟩ (mY ordI)) && wsIn (.instanceMethod (mY ordI)))) = true := by decide +kernel
/-- the check of an entry -/
def isinv : Instr → Bool
  | .invokevirtual _ => true
  | .invokestatic _ => true
  | .invokespecial _ => true
  | _ => false
def chkX (mi pc : Nat) (i : Instr) (o1 o2 o3 o4 : Nat) : Bool := match i with
  | .new _ => Nat.beq o1 0 || (match xl[o4]? with
    | some x => Nat.beq x.1 mi && (Nat.beq x.2.1 pc && Nat.beq x.2.2.2.2.2.1 o2)
    | none => false)
  | _ => true
def chkE (mi pc : Nat) (e : ME) : Bool := decide (decode (mbytes mi) pc = .ok (e.1, e.2.1)) && ((isw e.1 || Nat.beq e.2.1 (ilen e.1)) && (tgok pc e.1 e.2.2.1 && (chkF mi e.1 e.2.2.1 e.2.2.2.1 e.2.2.2.2.1 e.2.2.2.2.2 && (chkC mi e.1 e.2.2.1 e.2.2.2.1 e.2.2.2.2.1 e.2.2.2.2.2 && chkX mi pc e.1 e.2.2.1 e.2.2.2.1 e.2.2.2.2.1 e.2.2.2.2.2))))
def chkP (mi pc : Nat) : Bool := match tb mi pc with
  | some e => chkE mi pc e
  | none => true
def chkM (mi : Nat) : Bool := (List.range (mlast mi)).all (chkP mi)
def chkR (mi a n : Nat) : Bool := (List.range n).all (fun k => chkP mi (a + k))
theorem chk_of {mi n : Nat} (h : ∀ k, k < n → chkR mi (128 * k) 128 = true) (hn : mlast mi ≤ 128 * n) : chkM mi = true := by
  refine List.all_eq_true.mpr (fun pc hp => ?_)
  have hp := List.mem_range.mp hp
  have h1 := List.all_eq_true.mp (h (pc / 128) (by omega)) (pc % 128) (List.mem_range.mpr (Nat.mod_lt _ (by decide)))
  have e : 128 * (pc / 128) + pc % 128 = pc := Nat.div_add_mod pc 128
  rw [e] at h1
  exact h1
