/-! ===== SOUNDNESS, ELEVENTH: how a method ends: by a return, by a throw; who catches ===== -/
def kdB (a : Option MA) : Prop := match a with
  | none => True
  | some (.inl _) => True
  | some (.inr (.inl _)) => True
  | _ => False
theorem kd_bif {b : Bool} {x y : Option MA} (hx : kdB x) (hy : kdB y) : kdB (bif b then x else y) := by
  cases b
  · exact hy
  · exact hx
theorem kd_go {pc : Nat} {L : ML} {st : List MV} {g : MG} : kdB (go pc L st g) := trivial
theorem kd_gif {b : Bool} {pc : Nat} {L : ML} {st : List MV} {g : MG} : kdB (gif b pc L st g) := trivial
theorem kd_elim {α : Type} {x : Option α} {f : α → Option MA} (h : ∀ v, kdB (f v)) : kdB (x.elim none f) := by
  cases x
  · trivial
  · exact h _
theorem kd_no {x : (Nat × (List MV × MS)) ⊕ ((Option MV × MG) ⊕ (Nat × MG))} {a : Option MA} (h : kdB a) (e : a = some (.inr (.inr x))) : False := by
  rw [e] at h; exact h
set_option maxHeartbeats 1000000 in
theorem sp_kd {pc len : Nat} {i : Instr} {o1 o2 o3 o4 : Nat} {L : ML} {st : List MV} {g : MG} : kdB (sp pc len i o1 o2 o3 o4 L st g) := by
  unfold sp
  split
  all_goals (repeat' first | exact trivial | exact kd_go | exact kd_gif | apply kd_bif | (apply kd_elim; intro v) | split)
set_option maxHeartbeats 1000000 in
theorem sl_kd {X : MX} {pc len : Nat} {i : Instr} {o1 o2 o3 o4 : Nat} {L : ML} {st : List MV} {g : MG} (h : ∀ ix, i ≠ .new ix) : kdB (sl X pc len i o1 o2 o3 o4 L st g) := by
  unfold sl
  split
  case h_16 => exact absurd rfl (h _)
  all_goals (repeat' first | exact trivial | exact kd_go | exact kd_gif | exact sp_kd | apply kd_bif | (apply kd_elim; intro v) | split)
theorem step_thr {X : MX} {mi : Nat} {S : MS} {kd : Nat} {g1 : MG} (hs : step X mi S = some (.inr (.inr (.inr (.inr (kd, g1)))))) : ∃ (ix len o2 o3 o4 : Nat), tb mi S.1 = some (.new ix, (len, (1, (o2, (o3, o4))))) ∧ kd = o2 ∧ g1 = ga S.2.2.2 (1, 6) ∧ mcats S.2.2.1 ≤ 8 := by
  obtain ⟨i, len, o1, o2, o3, o4, ht, hs⟩ := step_at hs
  have key : sl X S.1 len i o1 o2 o3 o4 S.2.1 S.2.2.1 S.2.2.2 = some (.inr (.inr (.inr (.inr (kd, g1))))) → ∃ (ix len o2 o3 o4 : Nat), tb mi S.1 = some (.new ix, (len, (1, (o2, (o3, o4))))) ∧ kd = o2 ∧ g1 = ga S.2.2.2 (1, 6) ∧ mcats S.2.2.1 ≤ 8 := by
    intro h
    by_cases hn : ∃ ix, i = .new ix
    · obtain ⟨ix, rfl⟩ := hn
      unfold sl at h
      dsimp only at h
      cases q0 : Nat.beq o1 0 with
      | true =>
        rw [q0, cond_true] at h
        split at h
        · exact (kd_no kd_go h).elim
        · cases h
      | false =>
        rw [q0, cond_false] at h
        obtain ⟨h1, h2⟩ := bif_some h
        rw [Bool.and_eq_true] at h1
        have h3 := Sum.inr.inj (Sum.inr.inj (Sum.inr.inj (Sum.inr.inj (Option.some.inj h2))))
        have e1 := nat_beq h1.1
        subst e1
        exact ⟨ix, len, o2, o3, o4, ht, (congrArg Prod.fst h3).symm, (congrArg Prod.snd h3).symm, Nat.le_of_ble_eq_true h1.2⟩
    · exact (kd_no (sl_kd (fun ix h => hn ⟨ix, h⟩)) h).elim
  unfold stepI at hs
  split at hs
  · exact (inv_no hs).elim
  · exact (inv_no hs).elim
  · exact (inv_no hs).elim
  · split at hs
    · cases q : Nat.beq (rtag (mret mi)) 9 <;> rw [q] at hs
      · rw [cond_false] at hs
        obtain ⟨-, hs⟩ := bif_some hs
        cases hs
      · cases hs
    · cases hs
  · split at hs
    · cases q : mret mi <;> rw [q] at hs <;> cases hs
    · cases hs
  · split at hs
    · cases hs
    · cases hs
  · split at hs
    · cases hs
    · cases hs
  · exact key hs
theorem step_call {X : MX} {mi : Nat} {S : MS} {mi' : Nat} {as : List MV} {S' : MS} (hs : step X mi S = some (.inr (.inr (.inl (mi', (as, S')))))) : ∃ (i : Instr) (o1 o2 o3 o4 : Nat), tb mi S.1 = some (i, (3, (o1, (o2, (o3, o4))))) ∧ isinv i = true ∧ inv S.1 3 o1 o2 o3 S.2.1 S.2.2.1 S.2.2.2 = some (.inr (.inr (.inl (mi', (as, S'))))) := by
  obtain ⟨i, len, o1, o2, o3, o4, ht, hs⟩ := step_at hs
  obtain ⟨hd, hlen, -⟩ := chk_at ht
  have l3 : isinv i = true → len = 3 := by
    intro hi
    cases i <;> first | (cases hi; done) | exact hlen.elim (fun h => by cases h) id
  unfold stepI at hs
  split at hs
  · have := l3 rfl; subst this; exact ⟨_, o1, o2, o3, o4, ht, rfl, hs⟩
  · have := l3 rfl; subst this; exact ⟨_, o1, o2, o3, o4, ht, rfl, hs⟩
  · have := l3 rfl; subst this; exact ⟨_, o1, o2, o3, o4, ht, rfl, hs⟩
  · split at hs
    · cases q : Nat.beq (rtag (mret mi)) 9 <;> rw [q] at hs
      · rw [cond_false] at hs
        obtain ⟨-, hs⟩ := bif_some hs
        cases hs
      · cases hs
    · cases hs
  · split at hs
    · cases q : mret mi <;> rw [q] at hs <;> cases hs
    · cases hs
  · split at hs
    · cases hs
    · cases hs
  · split at hs
    · cases hs
    · cases hs
  · by_cases hn : ∃ ix, i = .new ix
    · obtain ⟨ix, rfl⟩ := hn
      unfold sl at hs
      dsimp only at hs
      cases q0 : Nat.beq o1 0 with
      | true =>
        rw [q0, cond_true] at hs
        split at hs
        · exact (kd_no kd_go hs).elim
        · cases hs
      | false =>
        rw [q0, cond_false] at hs
        obtain ⟨h1, h2⟩ := bif_some hs
        cases h2
    · exact (kd_no (sl_kd (fun ix h => hn ⟨ix, h⟩)) hs).elim
/-- a throw's instructions and words -/
def xlB (x : Nat × (Nat × (Nat × (Nat × (Nat × (Nat × Nat)))))) : Bool :=
  Nat.beq (mcls x.1) 0 && (Nat.blt x.2.2.2.2.2.1 6 && ((mhh x.1).isEmpty && (Nat.beq x.2.2.1 (xik x.2.2.2.2.2.1) && (Nat.beq x.2.2.2.2.1 (xic x.2.2.2.2.2.1) && (decide (decode (mbytes x.1) (x.2.1 + 3) = .ok (.dup, 1)) &&
  (bif Nat.beq x.2.2.2.2.2.2 0 then decide (decode (mbytes x.1) (x.2.1 + 4) = .ok (.ldc x.2.2.2.1, 2)) && (decide (decode (mbytes x.1) (x.2.1 + 6) = .ok (.invokespecial x.2.2.2.2.1, 3)) && decide (decode (mbytes x.1) (x.2.1 + 9) = .ok (.athrow, 1)))
    else decide (decode (mbytes x.1) (x.2.1 + 4) = .ok (.ldc_w x.2.2.2.1, 3)) && (decide (decode (mbytes x.1) (x.2.1 + 7) = .ok (.invokespecial x.2.2.2.2.1, 3)) && decide (decode (mbytes x.1) (x.2.1 + 10) = .ok (.athrow, 1)))) && (match tb x.1 x.2.1 with
    | some e => (match e.1 with
      | .new ix => Nat.beq ix x.2.2.1
      | _ => false)
    | none => false))))))
theorem xl_ok : xl.all xlB = true := by decide +kernel
def xnames : List String := ["java/lang/RuntimeException", "java/lang/Exception"]
def xAt (kd : Nat) : List Cond := if kd = 2 then ns_at "ColourOffice" (xic kd) (xcls kd) "java/lang/RuntimeException" ["java/lang/Exception"] else vx_atS "ColourOffice" (xic kd) (xcls kd) xnames
def wsOf (w : Cond) : Bool := decide (w ∈ lw_tbl) && (goodWord w || nk w)
def xB (kd : Nat) : Bool := wd (xipos kd).1 (.classLink "ColourOffice" (xik kd) (xcls kd)) && (wd (xipos kd).2 (.initialized (xcls kd)) && ((xAt kd).all (fun w => wsOf w && vx_ot w) && (Bundle.fit (xcls kd) && wsOf (.castable (xcls kd) (xcls kd)))))
set_option maxRecDepth 100000 in
theorem x_0 : xB 0 = true := by decide +kernel
set_option maxRecDepth 100000 in
theorem x_1 : xB 1 = true := by decide +kernel
set_option maxRecDepth 100000 in
theorem x_2 : xB 2 = true := by decide +kernel
set_option maxRecDepth 100000 in
theorem x_3 : xB 3 = true := by decide +kernel
set_option maxRecDepth 100000 in
theorem x_4 : xB 4 = true := by decide +kernel
set_option maxRecDepth 100000 in
theorem x_5 : xB 5 = true := by decide +kernel
theorem x_all {kd : Nat} (h : kd < 6) : xB kd = true := by
  match kd, h with
  | 0, _ => exact x_0
  | 1, _ => exact x_1
  | 2, _ => exact x_2
  | 3, _ => exact x_3
  | 4, _ => exact x_4
  | 5, _ => exact x_5
theorem x_names : (xnames.all (fun n => Bundle.fit n)) = true := by decide +kernel
/-- a method's handlers, in both tables -/
def hdP (c : Nat) (mi : Nat) (x : Nat × (Nat × (Nat × Nat))) (y : Nat × (Nat × (Nat × (Nat × Nat)))) : Bool := Nat.beq x.1 y.1 && (Nat.beq x.2.1 y.2.1 && (Nat.beq x.2.2.1 y.2.2.1 && (!(Nat.beq x.2.2.2 0) && (Nat.blt y.2.2.2.2 6 && (wsIn (.classLink (mcn c) x.2.2.2 (xcls y.2.2.2.2)) &&
  (match tb mi y.2.2.1 with
    | some e => (match e.1 with
      | .astore_n k => Nat.beq (k : Nat) y.2.2.2.1
      | .astore k => Nat.beq k y.2.2.2.1
      | _ => false)
    | none => false))))))
def hdZ (c mi : Nat) : List (Nat × (Nat × (Nat × Nat))) → List (Nat × (Nat × (Nat × (Nat × Nat)))) → Bool
  | [], [] => true
  | x :: l, y :: r => hdP c mi x y && hdZ c mi l r
  | _, _ => false
def hdB (mi : Nat) : Bool := hdZ (mcls mi) mi (mhh mi) (mhd mi)
set_option maxRecDepth 100000 in
set_option maxHeartbeats 4000000 in
theorem hd_ok : (List.range 332).all hdB = true := by decide +kernel
theorem mnl_ok : ((List.range 332).all (fun i => Nat.ble (mnl i) 60)) = true := by decide +kernel
