/-! ===== SOUNDNESS, FIFTH: makings ===== -/
/-- two pictures of one cell -/
def cellE (a b : va_E) : Prop := a = b ∨ ∃ (cA : ClassId) (x y : vp_A), a = .inl (cA, x) ∧ b = .inl (cA, y) ∧ vp_cell cA x = vp_cell cA y
theorem va_at.cell {D : va_G} {cl : List vw_C} {a : Nat} {x y : va_E} {H : Heap} (h : va_at D cl (a, x) H) (hc : cellE x y) : va_at D cl (a, y) H := by
  rcases hc with rfl | ⟨cA, x1, y1, rfl, rfl, e⟩
  · exact h
  · show H[a]? = some (vp_cell cA y1)
    rw [← e]; exact h
theorem va_P.cells {D : va_G} {cl : List vw_C} {ws ws' : va_W} {H : Heap} (h : va_P D cl ws H) (hc : ∀ (k : Nat) (q : Nat × va_E), ws'[k]? = some q → ∃ x, ws[k]? = some (q.1, x) ∧ cellE x q.2) : va_P D cl ws' H := by
  intro k q hk
  obtain ⟨x, h1, h2⟩ := hc k q hk
  exact (h k _ h1).cell h2
theorem va_D.cells {A : Nat → Prop} {ws ws' : va_W} (h : va_D A ws) (hc : ∀ (k : Nat) (q : Nat × va_E), ws'[k]? = some q → ∃ x, ws[k]? = some (q.1, x)) : va_D A ws' := by
  refine ⟨fun i j p q hi hj hpq => ?_, fun i q hi => ?_⟩
  · obtain ⟨x, h1⟩ := hc i p hi
    obtain ⟨y, h2⟩ := hc j q hj
    exact h.1 i j _ _ h1 h2 hpq
  · obtain ⟨x, h1⟩ := hc i q hi
    exact h.2 i (q.1, x) h1
theorem arrV_ext {cA : ClassId} {n : Nat} {f f' : Nat → Value} (h : ∀ j, j < n → f j = f' j) : arrV cA n f = arrV cA n f' := by
  unfold arrV
  have : (fun j : Fin n => f j.val) = (fun j : Fin n => f' j.val) := funext fun j => h j.val j.isLt
  rw [this]
theorem adr_ag {ad ad1 : Nat → Nat} {k : Nat} {w : MP} (h : ∀ j, j < k → ad1 j = ad j) (hw : pv k w) : adr ad1 w = adr ad w := h _ hw.idx.1
/-- an old object's cell, with more objects there -/
theorem ent_old {K : MK} {ad ad1 : Nat → Nat} {g g1 : MG} {p : MP} (hag : ∀ j, j < g.1.1 → ad1 j = ad j) (hr : ∀ (k : Nat) (w : MP), k < (fam p.1).2.2 → refpl p.1 k = true → g.1.2.2 p.1 p.2 k = some w → pv g.1.1 w)
    (h1 : g1.1.2.2 p.1 p.2 = g.1.2.2 p.1 p.2) (h2 : g1.2.2 p.1 p.2 = g.2.2 p.1 p.2) (h3 : (fam p.1).1 = 5 → g1.2.1.1 = g.2.1.1) (h4 : ¬ (fam p.1).1 < 6 → g1.2.1.2 = g.2.1.2) : cellE (ent K ad g p) (ent K ad1 g1 p) := by
  have hm : ∀ k, k < (fam p.1).2.2 → refpl p.1 k = true → Option.map (adr ad1) (g.1.2.2 p.1 p.2 k) = Option.map (adr ad) (g.1.2.2 p.1 p.2 k) := by
    intro k hk hp
    cases hw : g.1.2.2 p.1 p.2 k with
    | none => rfl
    | some w =>
      show some _ = some _
      rw [adr_ag hag (hr k w hk hp hw)]
  generalize hn : (fam p.1).1 = n at h3 h4
  match n, hn with
  | 0, hn =>
    refine Or.inl ?_
    rw [ent_0 hn, ent_0 hn]
    refine congrArg (fun z => (.inr ((fam p.1).2.1, z) : va_E)) (List.map_congr_left fun k hk => ?_)
    unfold entF
    rw [h1, h2]
    cases hrf : rfF (fam p.1).2.1 k with
    | false => rfl
    | true => rw [hm k (List.mem_range.mp hk) (by unfold refpl; rw [hn]; exact hrf)]
  | 1, hn => exact Or.inl (by rw [ent_s 0 hn, ent_s 0 hn]; unfold entA; rw [h2]; rfl)
  | 2, hn => exact Or.inl (by rw [ent_s 1 hn, ent_s 1 hn]; unfold entA; rw [h2]; rfl)
  | 3, hn =>
    refine Or.inr ⟨_, _, _, ent_s 2 hn, ent_s 2 hn, ?_⟩
    exact arrV_ext fun j hj => by
      show va_rf (Option.map (adr ad) (g.1.2.2 p.1 p.2 j)) = va_rf (Option.map (adr ad1) (g1.1.2.2 p.1 p.2 j))
      rw [h1, hm j hj (by unfold refpl; rw [hn]; rfl)]
  | 4, hn =>
    refine Or.inr ⟨_, _, _, ent_s 3 hn, ent_s 3 hn, ?_⟩
    exact arrV_ext fun j hj => by
      show va_rf (Option.map (adr ad) (g.1.2.2 p.1 p.2 j)) = va_rf (Option.map (adr ad1) (g1.1.2.2 p.1 p.2 j))
      rw [h1, hm j hj (by unfold refpl; rw [hn]; rfl)]
  | 5, hn => exact Or.inl (by rw [ent_s 4 hn, ent_s 4 hn]; unfold entA; rw [h3 rfl]; rfl)
  | n + 6, hn => exact Or.inl (by rw [ent_s (n + 5) hn, ent_s (n + 5) hn]; unfold entA; rw [h4 (by omega)]; rfl)
theorem mzero_at (m : MI) (f i : Nat) : mzero m f i f i = fun _ => 0 := by
  funext j; unfold mzero; rw [beq_t rfl, beq_t rfl]; rfl
theorem mzero_ne (m : MI) (f i : Nat) {q : MP} (h : q ≠ (f, i)) : mzero m f i q.1 q.2 = m q.1 q.2 := by
  funext j
  unfold mzero
  by_cases h1 : q.1 = f
  · have h2 : q.2 ≠ i := fun z => h (Prod.ext h1 z)
    rw [beq_f h2, Bool.and_false]; rfl
  · rw [beq_f h1, Bool.false_and]; rfl
theorem rset_at (m : MR) (f i : Nat) (v : Nat → Option MP) : rset m f i v f i = v := by
  funext j; unfold rset; rw [beq_t rfl, beq_t rfl]; rfl
theorem rset_ne (m : MR) (f i : Nat) (v : Nat → Option MP) {q : MP} (h : q ≠ (f, i)) : rset m f i v q.1 q.2 = m q.1 q.2 := by
  funext j
  unfold rset
  by_cases h1 : q.1 = f
  · have h2 : q.2 ≠ i := fun z => h (Prod.ext h1 z)
    rw [beq_f h2, Bool.and_false]; rfl
  · rw [beq_f h1, Bool.false_and]; rfl
def adN (ad : Nat → Nat) (k q : Nat) : Nat → Nat := fun j => if j = k then q else ad j
theorem adN_old {ad : Nat → Nat} {k q : Nat} : ∀ j, j < k → adN ad k q j = ad j := fun j hj => if_neg (by omega)
theorem adN_new {ad : Nat → Nat} {k q : Nat} : adN ad k q k = q := if_pos rfl
theorem mnew_ok {g : MG} {kind ci n : Nat} {p : MP} {g1 : MG} (h : mnew g kind ci n = some (p, g1)) : g.1.1 < apn ∧ p = pj g.1.1 ∧ (fam p.1).1 = kind ∧ (fam p.1).2.1 = ci ∧ (fam p.1).2.2 = n ∧
    g1 = ((g.1.1 + 1, ((g.1.2.1.1 + 1, g.1.2.1.2 + n), rset g.1.2.2 p.1 p.2 (fun j => bif Nat.blt j n then none else RM p.1 p.2 j))), ((bif Nat.beq kind 5 then 0 else g.2.1.1, bif Nat.beq kind 6 then 0 else g.2.1.2), mzero g.2.2 p.1 p.2)) := by
  unfold mnew at h
  obtain ⟨h1, h2⟩ := bif_some h
  simp only [Bool.and_eq_true] at h1
  obtain ⟨a, b, d, e⟩ := h1
  have h3 := Option.some.inj h2
  have h4 : p = pj g.1.1 := (congrArg Prod.fst h3).symm
  have h5 := (congrArg Prod.snd h3).symm
  subst h4
  exact ⟨Nat.le_of_ble_eq_true a, rfl, nat_beq b, nat_beq d, nat_beq e, h5⟩
theorem apl_sz : (apl.all (fun q => Nat.ble (fam q.1).2.2 10000 && (!(Nat.beq (fam q.1).1 0) || (match mcl[(fam q.1).2.1]? with
  | some r => Nat.beq r.2.2 (fam q.1).2.2
  | none => false)))) = true := by decide +kernel
theorem pj_sz {k : Nat} (h : k < apn) : (fam (pj k).1).2.2 ≤ 10000 ∧ ((fam (pj k).1).1 = 0 → ∃ r, mcl[(fam (pj k).1).2.1]? = some r ∧ r.2.2 = (fam (pj k).1).2.2) := by
  have h1 := List.all_eq_true.mp apl_sz _ (List.mem_of_getElem? (pj_get h))
  rw [Bool.and_eq_true] at h1
  refine ⟨Nat.le_of_ble_eq_true h1.1, fun h0 => ?_⟩
  have h2 := h1.2
  rw [h0, show Nat.beq 0 0 = true from rfl, Bool.not_true, Bool.false_or] at h2
  cases hm : mcl[(fam (pj k).1).2.1]? with
  | none => rw [hm] at h2; cases h2
  | some r => rw [hm] at h2; exact ⟨r, rfl, nat_beq h2⟩
def rfB (ci : Nat) : Bool := match mcl[ci]? with
  | some r => (List.range r.2.2).all (fun k => (match (parseFieldDescriptor (r.2.1 k).2.2.1).getD .long with
    | .int => !(rfF ci k)
    | .boolean => !(rfF ci k)
    | .char => !(rfF ci k)
    | .object _ => rfF ci k
    | .array _ => rfF ci k
    | _ => false))
  | none => true
theorem rf_ok : (List.range 10).all rfB = true := by decide +kernel
theorem rf_def {ci : Nat} {r : vw_C} (h : mcl[ci]? = some r) {k : Nat} (hk : k < r.2.2) : defaultValue (fty r k) = bif rfF ci k then .null else .int 0 := by
  have hc : ci < 10 := (List.getElem?_eq_some_iff.mp h).1
  have h1 := List.all_eq_true.mp rf_ok ci (List.mem_range.mpr hc)
  unfold rfB at h1
  rw [h] at h1
  have h2 := List.all_eq_true.mp h1 k (List.mem_range.mpr hk)
  have hp := cls_ty h k hk
  rw [hp] at h2
  dsimp only [Option.getD] at h2
  revert h2
  cases fty r k <;> intro h2 <;> first | (cases h2; done) | skip
  all_goals (cases hr : rfF ci k <;> rw [hr] at h2 <;> first | rfl | cases h2)
section SND4
variable {p : Program} {l : Launch} {e : Env} {R : Room} {s : State} {m : MethodId} {args : Array Value} {below : List Frame} {meth : Method} {c : Code} {H : Heap} {locs : List Loc} {Q : State → Prop}
variable {cc : ByteArray} {ls : Array Slot} {ad : Nat → Nat} {sv : Nat → Nat → Value} {xt : Nat → String} {K : MK} {A : Nat → Prop} {X : MX}
/-- one object more -/
theorem wd_new {g g1 : MG} {kind ci n q : Nat} {x : MP} {H1 : Heap} {en : va_E} (hW : Wd K ad A g H) (hm : mnew g kind ci n = some (x, g1)) (hP : va_P K.1 mcl (mws K ad g ++ [(q, en)]) H1) (hD : va_D A (mws K ad g ++ [(q, en)]))
    (he : cellE en (ent K (adN ad g.1.1 q) g1 x)) : Wd K (adN ad g.1.1 q) A g1 H1 := by
  obtain ⟨h1, rfl, h2, h3, h4, h5⟩ := mnew_ok hm
  have hne : ∀ j, j < g.1.1 → pj j ≠ pj g.1.1 := fun j hj z => by have := pj_inj (Nat.lt_trans hj h1) h1 z; omega
  have hsub : ∀ (k : Nat) (z : Nat × va_E), (mws K (adN ad g.1.1 q) g1)[k]? = some z → ∃ y, (mws K ad g ++ [(q, en)])[k]? = some (z.1, y) ∧ cellE y z.2 := by
    intro k z hk
    have hl : k < g.1.1 + 1 := by
      have := (List.getElem?_eq_some_iff.mp hk).1
      rw [mws_len, h5] at this
      exact this
    rw [mws_get (by rw [h5]; exact hl)] at hk
    cases hk
    by_cases e1 : k = g.1.1
    · subst e1
      refine ⟨en, ?_, he⟩
      rw [List.getElem?_append_right (by rw [mws_len]; exact Nat.le_refl _), mws_len, Nat.sub_self, adN_new]
      rfl
    · have hk : k < g.1.1 := by omega
      refine ⟨ent K ad g (pj k), ?_, ?_⟩
      · rw [List.getElem?_append_left (by rw [mws_len]; exact hk), mws_get hk]
        show some (ad k, _) = some (adN ad g.1.1 q k, _)
        rw [adN_old k hk]
      · have hpk : pv g.1.1 (pj k) := ⟨k, hk, Nat.lt_trans hk h1, rfl⟩
        refine ent_old adN_old (fun j w hj hp hw => hW.2.2.2 _ _ j w hpk hj hp hw) ?_ ?_ ?_ ?_
        · rw [h5]; exact rset_ne _ _ _ _ (hne k hk)
        · rw [h5]; exact mzero_ne _ _ _ (hne k hk)
        · intro h; rw [h5]
          dsimp only
          have : kind ≠ 5 := fun z => hne k hk ((pv_one5 hpk h).trans (pv_one5 (k := g.1.1 + 1) ⟨g.1.1, Nat.lt_succ_self _, h1, rfl⟩ (by rw [h2, z])).symm)
          rw [beq_f this]; rfl
        · intro h; rw [h5]
          dsimp only
          have : kind ≠ 6 := fun z => hne k hk ((pv_one6 hpk (pv_six hpk h)).trans (pv_one6 (k := g.1.1 + 1) ⟨g.1.1, Nat.lt_succ_self _, h1, rfl⟩ (by rw [h2, z])).symm)
          rw [beq_f this]; rfl
  refine ⟨by rw [h5]; exact h1, hP.cells hsub, hD.cells (fun k z hk => (hsub k z hk).imp fun _ h => h.1), fun f i k w hf hk hp hw => ?_⟩
  rw [h5] at hf hw ⊢
  dsimp only at hf hw ⊢
  by_cases e1 : (f, i) = pj g.1.1
  · have e2 : f = (pj g.1.1).1 := congrArg Prod.fst e1
    have e3 : i = (pj g.1.1).2 := congrArg Prod.snd e1
    subst e2; subst e3
    rw [rset_at] at hw
    rw [h4] at hk
    rw [show Nat.blt k n = true from Nat.ble_eq_true_of_le hk] at hw
    cases hw
  · rw [show rset g.1.2.2 (pj g.1.1).1 (pj g.1.1).2 (fun j => bif Nat.blt j n then none else RM (pj g.1.1).1 (pj g.1.1).2 j) f i = g.1.2.2 f i from rset_ne _ _ _ _ (q := (f, i)) e1] at hw
    obtain ⟨j, j1, j2, j3⟩ := hf
    have hj : j < g.1.1 := by
      rcases Nat.lt_or_ge j g.1.1 with h | h
      · exact h
      · have : j = g.1.1 := by omega
        subst this
        exact absurd j3.symm e1
    exact (hW.2.2.2 f i k w ⟨j, hj, j2, j3⟩ hk hp hw).mono (Nat.le_succ _)
theorem Lok.ag {ad1 : Nat → Nat} {g : MG} {L : ML} {st : List MV} (hL : Lok (tv ad sv) ls L) (hV : VS g L st) (hag : ∀ j, j < g.1.1 → ad1 j = ad j) : Lok (tv ad1 sv) ls L :=
  ⟨hL.1, hL.2.1, fun i v h => by
    rw [hL.2.2.1 i v h]
    have hv := hV.2 i v h
    rcases v with x | q | q | v
    · rfl
    · show some (Slot.val (.ref _)) = some (Slot.val (.ref _))
      rw [adr_ag hag hv]
    · rfl
    · rfl, hL.2.2.2⟩
theorem map_ag {ad1 : Nat → Nat} {g : MG} {st : List MV} (hV : ∀ v ∈ st, ValV g v) (hag : ∀ j, j < g.1.1 → ad1 j = ad j) : st.map (tv ad1 sv) = st.map (tv ad sv) := by
  refine List.map_congr_left fun v hv => ?_
  have hv := hV v hv
  rcases v with x | q | q | v
  · rfl
  · show Value.ref _ = Value.ref _
    rw [adr_ag hag hv]
  · rfl
  · rfl
theorem ra_int {cA cB : ClassId} {ty : FieldType} (h : ∀ C, ty ≠ .object C) (h1 : va_RA s cA ty) (h2 : va_RA s cB ty) : cA = cB := by
  cases ty <;> first | exact Option.some.inj (h1.symm.trans h2) | exact absurd rfl (h _)
theorem ra_obj {cA cB : ClassId} {C : String} (h1 : va_RA s cA (.object C)) (h2 : va_RA s cB (.object C)) : cA = cB := by
  obtain ⟨a1, a2, a3, a4, a5, a6⟩ := h1
  obtain ⟨b1, b2, b3, b4, b5, b6⟩ := h2
  exact Option.some.inj (a6.symm.trans b6)
theorem K_last {cA : ClassId} {ty : FieldType} (h : va_K K.1 mcl (mtys K ++ [(cA, ty)]) s) : va_RA s cA ty := (h.2 6 (cA, ty) rfl).2
end SND4
theorem foldz_ne (F : Nat → MP) {q : MP} : ∀ (l : List Nat) (h : MI), (∀ j ∈ l, q ≠ F j) → (l.foldl (fun h j => mzero h (F j).1 (F j).2) h) q.1 q.2 = h q.1 q.2
  | [], h, _ => rfl
  | j :: l, h, hq => by
    rw [List.foldl_cons, foldz_ne F l _ (fun i hi => hq i (List.mem_cons_of_mem _ hi))]
    exact mzero_ne _ _ _ (hq j List.mem_cons_self)
theorem foldz_at (F : Nat → MP) {q : MP} : ∀ (l : List Nat) (h : MI), (∃ j ∈ l, q = F j) → (l.foldl (fun h j => mzero h (F j).1 (F j).2) h) q.1 q.2 = fun _ => 0
  | [], h, hq => by obtain ⟨_, h, _⟩ := hq; cases h
  | j :: l, h, hq => by
    rw [List.foldl_cons]
    by_cases e : ∃ i ∈ l, q = F i
    · exact foldz_at F l _ e
    · rw [foldz_ne F l _ (fun i hi z => e ⟨i, hi, z⟩)]
      obtain ⟨i, hi, hi2⟩ := hq
      rcases List.mem_cons.mp hi with rfl | hi
      · rw [hi2]; exact mzero_at _ _ _
      · exact absurd ⟨i, hi, hi2⟩ e
def ad2 (ad : Nat → Nat) (k q : Nat) (r : Nat → Nat) : Nat → Nat := fun j => if j < k then ad j else if j = k then q else r (j - k - 1)
theorem mnew2_ok {g : MG} {n m : Nat} {p : MP} {g1 : MG} (h : mnew2 g n m = some (p, g1)) : g.1.1 + n < apn ∧ p = pj g.1.1 ∧ (fam p.1).1 = 3 ∧ (fam p.1).2.2 = n ∧ (∀ j, j < n → (fam (pj (g.1.1 + 1 + j)).1).1 = 1 ∧ (fam (pj (g.1.1 + 1 + j)).1).2.2 = m ∧ RM p.1 p.2 j = some (pj (g.1.1 + 1 + j))) ∧
    g1 = ((g.1.1 + 1 + n, ((g.1.2.1.1 + 1 + n, g.1.2.1.2 + n + n * m), rset g.1.2.2 p.1 p.2 (RM p.1 p.2))), (g.2.1, (List.range n).foldl (fun h j => mzero h (pj (g.1.1 + 1 + j)).1 (pj (g.1.1 + 1 + j)).2) g.2.2)) := by
  unfold mnew2 at h
  obtain ⟨h1, h2⟩ := bif_some h
  simp only [Bool.and_eq_true] at h1
  obtain ⟨a, b, d, e⟩ := h1
  have h3 := Option.some.inj h2
  have h4 : p = pj g.1.1 := (congrArg Prod.fst h3).symm
  have h5 := (congrArg Prod.snd h3).symm
  subst h4
  refine ⟨Nat.le_of_ble_eq_true a, rfl, nat_beq b, nat_beq d, fun j hj => ?_, h5⟩
  have h6 := List.all_eq_true.mp e j (List.mem_range.mpr hj)
  simp only [Bool.and_eq_true] at h6
  refine ⟨nat_beq h6.1, nat_beq h6.2.1, ?_⟩
  have h7 := h6.2.2
  cases hr : RM (pj g.1.1).1 (pj g.1.1).2 j with
  | none => rw [hr] at h7; cases h7
  | some w =>
    rw [hr] at h7
    simp only [Bool.and_eq_true] at h7
    exact congrArg some (Prod.ext (nat_beq h7.1) (nat_beq h7.2))
section SND5
variable {p : Program} {l : Launch} {e : Env} {R : Room} {s : State} {m : MethodId} {args : Array Value} {below : List Frame} {meth : Method} {c : Code} {H : Heap} {locs : List Loc} {Q : State → Prop}
variable {cc : ByteArray} {ls : Array Slot} {ad : Nat → Nat} {sv : Nat → Nat → Value} {xt : Nat → String} {K : MK} {A : Nat → Prop} {X : MX}
/-- a row of rows -/
theorem wd_new2 {g g1 : MG} {n k q : Nat} {r : Nat → Nat} {x : MP} {H1 : Heap} {f : Nat → va_E} (hW : Wd K ad A g H) (hm : mnew2 g n k = some (x, g1))
    (hP : va_P K.1 mcl ((mws K ad g ++ [(q, .inl (K.2.2.2.2.2.1, (n, .inr (.inr (.inr (.inr (fun i => if i < n then some (r i) else none)))))))]) ++ va_pl ([] ++ (List.range n).map r) (vr_up f ((List.range n).map r) (.inl (K.2.1, (k, .inl (fun _ => 0)))))) H1)
    (hD : va_D A ((mws K ad g ++ [(q, .inl (K.2.2.2.2.2.1, (n, .inr (.inr (.inr (.inr (fun i => if i < n then some (r i) else none)))))))]) ++ va_pl ([] ++ (List.range n).map r) (vr_up f ((List.range n).map r) (.inl (K.2.1, (k, .inl (fun _ => 0))))))) :
    Wd K (ad2 ad g.1.1 q r) A g1 H1 := by
  obtain ⟨h1, rfl, h2, h3, h4, h5⟩ := mnew2_ok hm
  have hag : ∀ j, j < g.1.1 → ad2 ad g.1.1 q r j = ad j := fun j hj => if_pos hj
  have hne : ∀ i j, i < g.1.1 + 1 + n → j < g.1.1 + 1 + n → i ≠ j → pj i ≠ pj j := fun i j hi hj hij z => hij (pj_inj (by omega) (by omega) z)
  have hsub : ∀ (i : Nat) (z : Nat × va_E), (mws K (ad2 ad g.1.1 q r) g1)[i]? = some z → ∃ y, ((mws K ad g ++ [(q, .inl (K.2.2.2.2.2.1, (n, .inr (.inr (.inr (.inr (fun i => if i < n then some (r i) else none)))))))]) ++ va_pl ([] ++ (List.range n).map r) (vr_up f ((List.range n).map r) (.inl (K.2.1, (k, .inl (fun _ => 0))))))[i]? = some (z.1, y) ∧ cellE y z.2 := by
    intro i z hi
    have hl : i < g.1.1 + 1 + n := by
      have := (List.getElem?_eq_some_iff.mp hi).1
      rw [mws_len, h5] at this
      exact this
    rw [mws_get (by rw [h5]; exact hl)] at hi
    cases hi
    rcases Nat.lt_trichotomy i g.1.1 with hlt | heq | hgt
    · refine ⟨ent K ad g (pj i), ?_, ?_⟩
      · rw [List.getElem?_append_left (by rw [List.length_append, mws_len]; simp; omega), List.getElem?_append_left (by rw [mws_len]; exact hlt), mws_get hlt]
        show some (ad i, _) = some (ad2 ad g.1.1 q r i, _)
        rw [hag i hlt]
      · have hpk : pv g.1.1 (pj i) := ⟨i, hlt, by omega, rfl⟩
        refine ent_old hag (fun j w hj hp hw => hW.2.2.2 _ _ j w hpk hj hp hw) ?_ ?_ (fun _ => by rw [h5]) (fun _ => by rw [h5])
        · rw [h5]; exact rset_ne _ _ _ _ (hne i g.1.1 (by omega) (by omega) (by omega))
        · rw [h5]
          exact foldz_ne (fun j => pj (g.1.1 + 1 + j)) _ _ (fun j hj => hne _ _ (by omega) (by have := List.mem_range.mp hj; omega) (by omega))
    · subst heq
      refine ⟨.inl (K.2.2.2.2.2.1, (n, .inr (.inr (.inr (.inr (fun i => if i < n then some (r i) else none)))))), ?_, Or.inr ⟨K.2.2.2.2.2.1, _, _, rfl, ent_s 2 h2, ?_⟩⟩
      · rw [List.getElem?_append_left (by rw [List.length_append, mws_len]; simp), List.getElem?_append_right (by rw [mws_len]; exact Nat.le_refl _), mws_len, Nat.sub_self]
        show some (q, _) = some (ad2 ad g.1.1 q r g.1.1, _)
        rw [show ad2 ad g.1.1 q r g.1.1 = q from by unfold ad2; rw [if_neg (Nat.lt_irrefl _), if_pos rfl]]
      · rw [h3, vp_cell_q, vp_cell_q]
        refine arrV_ext fun j hj => ?_
        rw [h5]
        dsimp only
        rw [rset_at, (h4 j hj).2.2, if_pos hj]
        show Value.ref (r j) = Value.ref (adr (ad2 ad g.1.1 q r) (pj (g.1.1 + 1 + j)))
        unfold adr ad2
        rw [pj_idx (by omega), if_neg (by omega), if_neg (by omega), show g.1.1 + 1 + j - g.1.1 - 1 = j by omega]
    · obtain ⟨j, rfl⟩ : ∃ j, i = g.1.1 + 1 + j := ⟨i - g.1.1 - 1, by omega⟩
      have hj : j < n := by omega
      refine ⟨.inl (K.2.1, (k, .inl (fun _ => 0))), ?_, Or.inl ?_⟩
      · rw [List.getElem?_append_right (by rw [List.length_append, mws_len]; simp), List.length_append, mws_len, List.length_singleton, show g.1.1 + 1 + j - (g.1.1 + 1) = j by omega]
        unfold va_pl
        rw [List.nil_append, List.map_map, List.getElem?_map, List.getElem?_range hj]
        show some (r j, vr_up f _ _ (r j)) = _
        rw [vr_up_in (List.mem_map.mpr ⟨j, List.mem_range.mpr hj, rfl⟩)]
        show some (r j, _) = some (ad2 ad g.1.1 q r (g.1.1 + 1 + j), _)
        rw [show ad2 ad g.1.1 q r (g.1.1 + 1 + j) = r j from by unfold ad2; rw [if_neg (by omega), if_neg (by omega), show g.1.1 + 1 + j - g.1.1 - 1 = j by omega]]
      · rw [ent_s 0 (h4 j hj).1, h5, (h4 j hj).2.1]
        show _ = Sum.inl (K.2.1, (k, Sum.inl ((List.range n).foldl (fun h j => mzero h (pj (g.1.1 + 1 + j)).1 (pj (g.1.1 + 1 + j)).2) g.2.2 (pj (g.1.1 + 1 + j)).1 (pj (g.1.1 + 1 + j)).2)))
        rw [foldz_at (fun j => pj (g.1.1 + 1 + j)) _ _ ⟨j, List.mem_range.mpr hj, rfl⟩]
  refine ⟨by rw [h5]; show g.1.1 + 1 + n ≤ apn; omega, hP.cells hsub, hD.cells (fun i z hi => (hsub i z hi).imp fun _ h => h.1), fun f' i j w hf hj hp hw => ?_⟩
  rw [h5] at hf hw ⊢
  dsimp only at hf hw ⊢
  by_cases e1 : (f', i) = pj g.1.1
  · have e2 : f' = (pj g.1.1).1 := congrArg Prod.fst e1
    have e3 : i = (pj g.1.1).2 := congrArg Prod.snd e1
    subst e2; subst e3
    rw [rset_at, (h4 j (by rw [h3] at hj; exact hj)).2.2] at hw
    cases hw
    rw [h3] at hj
    exact ⟨g.1.1 + 1 + j, by omega, by omega, rfl⟩
  · rw [show rset g.1.2.2 (pj g.1.1).1 (pj g.1.1).2 (RM (pj g.1.1).1 (pj g.1.1).2) f' i = g.1.2.2 f' i from rset_ne _ _ _ _ (q := (f', i)) e1] at hw
    obtain ⟨j2, j3, j4, j5⟩ := hf
    rcases Nat.lt_or_ge j2 g.1.1 with h | h
    · exact (hW.2.2.2 f' i j w ⟨j2, h, j4, j5⟩ hj hp hw).mono (by omega)
    · have hj0 : j2 ≠ g.1.1 := fun z => e1 (by rw [← j5, z])
      obtain ⟨j6, rfl⟩ : ∃ z, j2 = g.1.1 + 1 + z := ⟨j2 - g.1.1 - 1, by omega⟩
      have h7 := (h4 j6 (by omega)).1
      rw [j5] at h7
      unfold refpl at hp
      rw [h7] at hp
      cases hp
end SND5
