/-! ===== SOUNDNESS: handlers, calls, and the whole of it ===== -/
def passH (c pc kd : Nat) (z : ExceptionTableEntry) : Prop := covers z pc = false ∨ (z.catchType ≠ 0 ∧ ∃ k, k < 6 ∧ k ≠ kd ∧ Cond.classLink (mcn c) z.catchType (xcls k) ∈ lw_g)
theorem hdP_ok {c mi : Nat} {x : Nat × (Nat × (Nat × Nat))} {y : Nat × (Nat × (Nat × (Nat × Nat)))} (h : hdP c mi x y = true) : y.1 = x.1 ∧ y.2.1 = x.2.1 ∧ y.2.2.1 = x.2.2.1 ∧ x.2.2.2 ≠ 0 ∧ y.2.2.2.2 < 6 ∧ Cond.classLink (mcn c) x.2.2.2 (xcls y.2.2.2.2) ∈ lw_g ∧
    ∃ (i : Instr) (e : Nat × (Nat × (Nat × (Nat × Nat)))), tb mi y.2.2.1 = some (i, e) ∧ ((∃ k : Fin 4, i = .astore_n k ∧ (k : Nat) = y.2.2.2.1) ∨ ∃ k, i = .astore k ∧ k = y.2.2.2.1) := by
  unfold hdP at h
  simp only [Bool.and_eq_true, Bool.not_eq_true'] at h
  obtain ⟨a, b, c, d, e, f, g⟩ := h
  refine ⟨(nat_beq a).symm, (nat_beq b).symm, (nat_beq c).symm, fun z => ?_, Nat.le_of_ble_eq_true e, wsIn_in f, ?_⟩
  · rw [z] at d; cases d
  · cases ht : tb mi y.2.2.1 with
    | none => rw [ht] at g; cases g
    | some ee =>
      rw [ht] at g
      obtain ⟨i, ee⟩ := ee
      dsimp only at g
      refine ⟨i, ee, rfl, ?_⟩
      split at g
      · next k => exact Or.inl ⟨k, rfl, nat_beq g⟩
      · next k => exact Or.inr ⟨k, rfl, nat_beq g⟩
      · cases g
theorem cov_of {x : Nat × (Nat × (Nat × Nat))} {pc : Nat} : covers ⟨x.1, x.2.1, x.2.2.1, x.2.2.2⟩ pc = (Nat.ble x.1 pc && Nat.blt pc x.2.1) := by
  show (decide (x.1 ≤ pc) && decide (pc < x.2.1)) = _
  congr 1
  · cases h : Nat.ble x.1 pc with
    | true => exact decide_eq_true (Nat.le_of_ble_eq_true h)
    | false => exact decide_eq_false (fun z => by rw [Nat.ble_eq_true_of_le z] at h; cases h)
  · cases h : Nat.blt pc x.2.1 with
    | true => exact decide_eq_true (Nat.le_of_ble_eq_true h)
    | false => exact decide_eq_false (fun z => by rw [show Nat.blt pc x.2.1 = true from Nat.ble_eq_true_of_le z] at h; cases h)
theorem hdz_none {c mi pc kd : Nat} : ∀ (l : List (Nat × (Nat × (Nat × Nat)))) (r : List (Nat × (Nat × (Nat × (Nat × Nat))))), hdZ c mi l r = true → hfind r pc kd = none → ∀ z ∈ tableOf l, passH c pc kd z
  | [], [], _, _, z, hz => by cases hz
  | [], _ :: _, h, _, _, _ => by cases h
  | _ :: _, [], h, _, _, _ => by cases h
  | x :: l, y :: r, h, hf, z, hz => by
    unfold hdZ at h
    rw [Bool.and_eq_true] at h
    obtain ⟨e1, e2, e3, e4, e5, e6, -⟩ := hdP_ok h.1
    obtain ⟨y1, y2, y3, y4, y5⟩ := y
    dsimp only at e1 e2 e3 e5 e6
    subst e1; subst e2; subst e3
    unfold hfind at hf
    cases q : (Nat.ble x.1 pc && (Nat.blt pc x.2.1 && Nat.beq y5 kd)) with
    | true => rw [q] at hf; cases hf
    | false =>
      rw [q, cond_false] at hf
      rcases List.mem_cons.mp hz with rfl | hz
      · cases hc : covers (⟨x.1, x.2.1, x.2.2.1, x.2.2.2⟩ : ExceptionTableEntry) pc with
        | false => exact Or.inl hc
        | true =>
          refine Or.inr ⟨e4, y5, e5, fun hk => ?_, e6⟩
          rw [cov_of, Bool.and_eq_true] at hc
          rw [hc.1, hc.2, hk, beq_t rfl] at q
          cases q
      · exact hdz_none l r h.2 hf z hz
theorem hdz_some {c mi pc kd hh slot : Nat} : ∀ (l : List (Nat × (Nat × (Nat × Nat)))) (r : List (Nat × (Nat × (Nat × (Nat × Nat))))), hdZ c mi l r = true → hfind r pc kd = some (hh, slot) →
    ∃ (pre : List ExceptionTableEntry) (x : ExceptionTableEntry) (suf : List ExceptionTableEntry), tableOf l = pre ++ x :: suf ∧ (∀ z ∈ pre, passH c pc kd z) ∧ covers x pc = true ∧ x.catchType ≠ 0 ∧ x.handlerPc = hh ∧ Cond.classLink (mcn c) x.catchType (xcls kd) ∈ lw_g ∧
      ∃ (i : Instr) (e : Nat × (Nat × (Nat × (Nat × Nat)))), tb mi hh = some (i, e) ∧ ((∃ k : Fin 4, i = .astore_n k ∧ (k : Nat) = slot) ∨ ∃ k, i = .astore k ∧ k = slot)
  | [], [], _, h => by cases h
  | [], _ :: _, h, _ => by cases h
  | _ :: _, [], h, _ => by cases h
  | x :: l, y :: r, h, hf => by
    unfold hdZ at h
    rw [Bool.and_eq_true] at h
    obtain ⟨e1, e2, e3, e4, e5, e6, e7⟩ := hdP_ok h.1
    obtain ⟨y1, y2, y3, y4, y5⟩ := y
    dsimp only at e1 e2 e3 e5 e6 e7
    subst e1; subst e2; subst e3
    unfold hfind at hf
    cases q : (Nat.ble x.1 pc && (Nat.blt pc x.2.1 && Nat.beq y5 kd)) with
    | true =>
      rw [q, cond_true] at hf
      cases hf
      simp only [Bool.and_eq_true] at q
      have hk := nat_beq q.2.2
      subst hk
      exact ⟨[], _, tableOf l, rfl, (fun z hz => by cases hz), by rw [cov_of, q.1, q.2.1]; rfl, e4, rfl, e6, e7⟩
    | false =>
      rw [q, cond_false] at hf
      obtain ⟨pre, z, suf, h1, h2, h3⟩ := hdz_some l r h.2 hf
      refine ⟨⟨x.1, x.2.1, x.2.2.1, x.2.2.2⟩ :: pre, z, suf, by show _ :: tableOf l = _; rw [h1]; rfl, fun w hw => ?_, h3⟩
      rcases List.mem_cons.mp hw with rfl | hw
      · cases hc : covers (⟨x.1, x.2.1, x.2.2.1, x.2.2.2⟩ : ExceptionTableEntry) pc with
        | false => exact Or.inl hc
        | true =>
          refine Or.inr ⟨e4, y5, e5, fun hk => ?_, e6⟩
          rw [cov_of, Bool.and_eq_true] at hc
          rw [hc.1, hc.2, hk, beq_t rfl] at q
          cases q
      · exact h2 w hw
section SNDA
variable {p : Program} {l : Launch} {e : Env} {R : Room} {s : State} {m : MethodId} {args : Array Value} {below : List Frame} {meth : Method} {c : Code} {H : Heap} {locs : List Loc} {Q : State → Prop}
variable {ls : Array Slot} {ad : Nat → Nat} {sv : Nat → Nat → Value} {xt : Nat → String} {K : MK} {A : Nat → Prop} {X : MX}
theorem pass_ok {d mi : Nat} (C : Cx X sv xt K A p l R s m args meth c d mi) {pc kd : Nat} (hk : kd < 6) {z : ExceptionTableEntry} (h : passH (mcls mi) pc kd z) : covers z pc = false ∨ (z.catchType ≠ 0 ∧ ∃ nm : String, (Cond.classLink (mcn (mcls mi)) z.catchType nm).before args s = true ∧ va_Nc (xcls kd) nm s) := by
  obtain ⟨hx, hb, hml, hts, hown, hnm, hK, hSt, -⟩ := C
  rcases h with h | ⟨h1, k, h2, h3, h4⟩
  · exact Or.inl h
  · exact Or.inr ⟨h1, xcls k, hts _ h4, hSt.2.2.2.2.2.2.2.2.2.1.2.2.2 kd k hk h2 (Ne.symm h3)⟩
theorem hdB_at {mi : Nat} (h : mi < 332) : hdZ (mcls mi) mi (mhh mi) (mhd mi) = true := List.all_eq_true.mp hd_ok mi (List.mem_range.mpr h)
/-- behind a call: it has returned, or thrown -/
theorem call_go {mc ms pc : Nat} {st0 rest : List Value} {q : MRes} {k : Nat} {a : Array Value} {cells slots : Nat} (hr : vx_Run p l e R s m args below meth c H locs cells slots mc ms (F0 m pc ls st0) rest (QC sv K A q ad k a) (XC K A q ad k) A) (hS : va_S A s.heap H locs)
    (kx : ∀ (kd : Nat) (g1 : MG) (ad1 : Nat → Nat) (ce : Cell) (q9 : Addr) (H1 : Heap) (locs1 : List Loc), q = (.inr kd, g1) → kd < 6 → (∀ j, j < k → ad1 j = ad j) → Wd K ad1 A g1 H1 → va_S A s.heap H1 locs1 → H1[q9]? = some ce → ce.vm = .none → s.vm.findClass (xcls kd) = some ce.cls → vx_W p l e R s m args below meth c H1 locs1 (cells + mc) (slots + ms) Q (F0 m pc ls rest) q9)
    (kk : ∀ (v : Option MV) (g1 : MG) (ad1 : Nat → Nat) (H1 : Heap) (locs1 : List Loc), q = (.inl v, g1) → (∀ j, j < k → ad1 j = ad j) → Wd K ad1 A g1 H1 → va_S A s.heap H1 locs1 → W p l e R s m args below meth c H1 locs1 (cells + mc) (slots + ms) Q (F0 m (pc + 3) ls ((v.map (tv ad1 sv)).toList ++ rest))) :
    W p l e R s m args below meth c H locs cells slots Q (F0 m pc ls st0) := by
  intro T hT XX
  rcases hr T hT XX with ⟨v, st₀, t, T', L, h0, X', hL, e1, e2, ⟨v1, g1, ad1, hq, hv, hag, hw, hF⟩, st⟩ | ⟨q9, st₀, t, T', L, E, ce, h0, X', hL, e1, e2, ⟨kd, g1, ad1, hq, hk6, rfl, hag, hw, hF⟩, hce, hcv, hcl, st⟩
  · cases hv
    obtain ⟨k1, k2, k3⟩ := vx_keep h0 e1 hS (fun _ _ h => h) (fun _ h => h) hL hF
    obtain ⟨t2, a1, b1⟩ := kk v1 g1 ad1 T'.heap (locs ++ L) hq hag (by rw [e1]; exact hw) k3 T' rfl X'
    exact ⟨t2, st t2 a1, b1⟩
  · obtain ⟨k1, k2, k3⟩ := vx_keep h0 e1 hS (fun _ _ h => h) (fun _ h => h) hL hF
    obtain ⟨t2, a1, b1⟩ := kx kd g1 ad1 ce q9 T'.heap (locs ++ L) hq hk6 hag (by rw [e1]; exact hw) k3 (by rw [e1]; exact hce) hcv hcl T' rfl X'
    exact ⟨t2, st.trans a1, b1⟩
end SNDA
