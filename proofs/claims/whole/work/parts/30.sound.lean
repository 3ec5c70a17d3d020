/-! ===== SOUNDNESS: runs of the small machine, by induction ===== -/
theorem exec_val (X : MX) : ∀ (n d mi : Nat) (S : MS) (v : Option MV) (g : MG), exec X n d mi S = some (.inl v, g) → ∀ w, v = some w → ∀ g1, ValV g1 w
  | 0, _, _, _, _, _, h => by cases h
  | n + 1, d, mi, S, v, g, h => by
    unfold exec at h
    split at h
    · cases h
    · next S' hs => exact exec_val X n d mi S' v g h
    · next b S' hs =>
      cases b with
      | true => exact exec_val X n d mi S' v g h
      | false => cases h
    · next mi' as S' hs =>
      cases d with
      | zero => cases h
      | succ d1 =>
        dsimp only at h
        cases hb : entOk as mi' with
        | false => rw [hb] at h; cases h
        | true =>
          rw [hb, cond_true] at h
          cases he : exec X n d1 mi' (entry mi' as S'.2.2.2) with
          | none => rw [he] at h; cases h
          | some q =>
            rw [he] at h
            obtain ⟨a, g'⟩ := q
            cases a with
            | inl v2 => exact exec_val X n (d1 + 1) mi _ v g h
            | inr kd =>
              dsimp only at h
              cases hf : hfind (mhd mi) S.1 kd with
              | none => rw [hf] at h; cases h
              | some hh =>
                rw [hf] at h
                obtain ⟨ha, hb⟩ := hh
                dsimp only at h
                cases hm : mstore S'.2.1 hb (vi 0) with
                | none => rw [hm] at h; cases h
                | some l => rw [hm] at h; exact exec_val X n (d1 + 1) mi _ v g h
    · next v2 g2 hs =>
      cases h
      obtain ⟨-, i, len, o1, o2, o3, o4, -, hc⟩ := step_ret hs
      intro w hw g1
      rcases hc with ⟨-, x, -, hv, -⟩ | ⟨-, -, hv, -⟩ | ⟨-, x, -, hv, -⟩ | ⟨-, x, -, hv, -⟩
      · rw [hv] at hw; cases hw; trivial
      · rw [hv] at hw; cases hw
      · rw [hv] at hw; cases hw; trivial
      · rw [hv] at hw; cases hw; trivial
    · next kd g2 hs =>
      obtain ⟨-, h⟩ := bif_some h
      cases h
theorem mstore_as {L L' : ML} {i : Nat} {v w : MV} (h : mstore L i v = some L') (hv : mcat v = 1) (hw : mcat w = 1) : mstore L i w = some (L.set i (some w)) := by
  unfold mstore at h ⊢
  rw [hv, show Nat.beq 1 2 = false from rfl, cond_false] at h
  rw [hw, show Nat.beq 1 2 = false from rfl, cond_false]
  cases hb : Nat.blt (i + 1) L.length with
  | true => rfl
  | false =>
    rw [hb, cond_false] at h
    rw [cond_false]
    obtain ⟨h1, h⟩ := bif_some h
    rw [h1, cond_true]
    cases i with
    | zero => rfl
    | succ j =>
      dsimp only at h ⊢
      split at h
      · next w9 e =>
        cases hq : Nat.beq (mcat w9) 2 with
        | true => rw [hq] at h; cases h
        | false => rfl
      · rfl
theorem Lok.unset {t : MV → Value} {ls : Array Slot} {L : ML} {i : Nat} (h : Lok t ls L) : Lok t ls (L.set i none) := by
  have key : ∀ {j : Nat} {v : MV}, (L.set i none)[j]? = some (some v) → L[j]? = some (some v) := by
    intro j v hj
    rw [List.getElem?_set] at hj
    split at hj
    · split at hj <;> cases hj
    · exact hj
  exact ⟨by rw [List.length_set]; exact h.1, h.2.1, fun j v hj => h.2.2.1 j v (key hj), fun j v hj hv => by rw [List.length_set]; exact h.2.2.2 j v (key hj) hv⟩
section SNDZ
variable {p : Program} {l : Launch} {e : Env} {R : Room} {s : State} {m : MethodId} {args : Array Value} {below : List Frame} {meth : Method} {c : Code} {H : Heap} {locs : List Loc} {Q : State → Prop}
variable {ls : Array Slot} {ad : Nat → Nat} {sv : Nat → Nat → Value} {xt : Nat → String} {K : MK} {A : Nat → Prop} {X : MX}
/-- a caught exception is stored, and forgotten -/
theorem hnd_ok {d mi : Nat} (C : Cx X sv xt K A p l R s m args meth c d mi) {hh slot cells slots : Nat} {L lw : ML} {i : Instr} {en : Nat × (Nat × (Nat × (Nat × Nat)))} {q9 : Addr} (ht : tb mi hh = some (i, en)) (hi : (∃ k : Fin 4, i = .astore_n k ∧ (k : Nat) = slot) ∨ ∃ k, i = .astore k ∧ k = slot)
    (hL : Lok (tv ad sv) ls L) (hm : mstore L slot (vi 0) = some lw)
    (kk : ∀ ls1 : Array Slot, Lok (tv ad sv) ls1 (lw.set slot none) → W p l e R s m args below meth c H locs cells slots Q (F0 m (hh + alen mi hh) ls1 [])) : W p l e R s m args below meth c H locs cells slots Q (F0 m hh ls [.ref q9]) := by
  obtain ⟨hx, hb, hml, hts, hown, hnm, hK, hSt, -⟩ := C
  obtain ⟨len, o1, o2, o3, o4⟩ := en
  obtain ⟨hd, hlen, -⟩ := chk_at ht
  obtain ⟨n1, rfl, -⟩ := mstore1 hm rfl
  have hm2 := mstore_as (w := vx (.ref q9)) hm rfl rfl
  have hal : alen mi hh = len := by unfold alen; rw [ht]
  rw [hal] at kk
  have fin : ∀ ls1 : Array Slot, lv_has ls1 L.length ((slot, tv ad sv (vx (.ref q9))) :: (Lpr (tv ad sv) L).filter (fun q => !(q.1 == slot) && !(q.1 + 1 == slot && q.2.category == 2))) → W p l e R s m args below meth c H locs cells slots Q (F0 m (hh + len) ls1 []) := by
    intro ls1 h1
    have h2 := (Lok.store1 hL hm2 rfl (mcat_tv hSt.1) h1).unset (i := slot)
    refine kk ls1 ?_
    rw [List.set_set] at h2 ⊢
    exact h2
  rcases hi with ⟨k, rfl, hk⟩ | ⟨k, rfl, hk⟩
  · obtain rfl : len = 1 := hlen.elim (fun h => by cases h) id
    exact lv_astore_n hx hb hd hk hL.has n1 rfl fin
  · obtain rfl : len = 2 := hlen.elim (fun h => by cases h) id
    subst hk
    exact lv_astore hx hb hd hL.has n1 rfl fin
end SNDZ
set_option maxHeartbeats 2000000 in
theorem snd (X : MX) : ∀ n, SndN X n
  | 0 => by
    intro d mi S r h
    cases h
  | n + 1 => by
    have IH := snd X n
    intro d mi S r h sv xt K A p l e R s m args below meth c Q H locs ad0 ad ls k0 C hW hV hS hL hLn hag hk0 hr1 hr2 hret hthr hpas
    have hmlen : S.2.1.length = mnl mi := hL.1.symm.trans hLn
    have nx : ∀ (S' : MS) (a : MA), step X mi S = some a → Nx a S' → exec X n d mi S' = some r → W p l e R s m args below meth c H locs S.2.2.2.1.2.1.1 S.2.2.2.1.2.1.2 Q (F0 m S.1 ls (S.2.2.1.map (tv ad sv))) := by
      intro S' a hs ha h
      obtain ⟨hle, hV', hlen⟩ := step_nx hs ha hW.rf hV
      have hre := exec_le X n d mi S' r h
      refine step_ok C hs ha hW hV hS hL hLn (Nat.le_trans hre.2.1 hr1) (Nat.le_trans hre.2.2 hr2) ?_
      intro H1 locs1 ad1 hag1 hW1 hS1 ls1 hL1
      exact IH d mi S' r h sv xt K A p l e R s m args below meth c Q H1 locs1 ad0 ad1 ls1 k0 C hW1 hV' hS1 hL1 (by rw [hL1.1, hlen, hmlen]) (fun j hj => (hag1 j (Nat.lt_of_lt_of_le hj hk0)).trans (hag j hj)) (Nat.le_trans hk0 hle.1) hr1 hr2 hret hthr hpas
    unfold exec at h
    split at h
    · cases h
    · next S' hs => exact nx S' _ hs (Or.inl rfl) h
    · next b S' hs =>
      cases b with
      | true => exact nx S' _ hs (Or.inr rfl) h
      | false => cases h
    · next mi' as S' hs =>
      cases d with
      | zero => cases h
      | succ d1 =>
        dsimp only at h
        cases hb : entOk as mi' with
        | false => rw [hb] at h; cases h
        | true =>
          rw [hb, cond_true] at h
          cases he : exec X n d1 mi' (entry mi' as S'.2.2.2) with
          | none => rw [he] at h; cases h
          | some q =>
            rw [he] at h
            have hq0 : Le (g0 S'.2.2.2) q.2 := exec_le X n d1 mi' _ q he
            have hg : S'.2.2.2 = S.2.2.2 := by
              obtain ⟨i, o1, o2, o3, o4, ht, hi, hin⟩ := step_call hs
              rcases inv_call hin with ⟨-, -, r', -, -, -, rfl⟩ | ⟨-, -, v, as', r', -, -, -, -, -, rfl⟩ <;> rfl
            have hk1 : S.2.2.2.1.1 ≤ q.2.1.1 := by rw [← hg]; exact hq0.1
            -- the room behind the call
            have room : Le (ga q.2 S.2.2.2.1.2.1) r.2 := by
              obtain ⟨a, g'⟩ := q
              rw [hg] at h
              cases a with
              | inl v => exact exec_le X n (d1 + 1) mi _ r h
              | inr kd =>
                dsimp only at h
                cases hf : hfind (mhd mi) S.1 kd with
                | none => rw [hf] at h; cases h; exact Le.rf _
                | some hh =>
                  rw [hf] at h
                  obtain ⟨ha, hb⟩ := hh
                  dsimp only at h
                  cases hm : mstore S'.2.1 hb (vi 0) with
                  | none => rw [hm] at h; cases h
                  | some l => rw [hm] at h; exact exec_le X n (d1 + 1) mi _ r h
            have f1 : S.2.2.2.1.2.1.1 + q.2.1.2.1.1 ≤ R.cells := Nat.le_trans room.2.1 hr1
            have f2 : S.2.2.2.1.2.1.2 + q.2.1.2.1.2 ≤ R.slots := Nat.le_trans room.2.2 hr2
            obtain ⟨e1, e2, e3, hVr, hrun⟩ := call_run IH C hs he hb hW hV hS hLn f1 f2
            refine call_go hrun hS ?_ ?_
            · -- thrown
              intro kd g1 ad1 ce q9 H1 locs1 hq hk6 hag1 hW1 hS1 hce hcv hcl
              subst hq
              dsimp only at h hk1 ⊢
              rw [hg] at h
              cases hf : hfind (mhd mi) S.1 kd with
              | none =>
                rw [hf] at h
                cases h
                exact hpas kd S.1 ls _ H1 locs1 ad1 q9 ce rfl hk6 hf hW1 (fun j hj => (hag1 j (Nat.lt_of_lt_of_le hj hk0)).trans (hag j hj)) hS1 hce hcv hcl
              | some hh =>
                rw [hf] at h
                obtain ⟨hh, slot⟩ := hh
                dsimp only at h
                cases hm : mstore S'.2.1 slot (vi 0) with
                | none => rw [hm] at h; cases h
                | some lw =>
                  rw [hm] at h
                  have C2 := C
                  obtain ⟨hx, hbb, hml, hts, hown, hnm, hK, hSt, hA, htab, -⟩ := C2
                  have hne : mi ≠ lawI := fun z => by rw [z] at hf; cases hf
                  have hmi : mi < 332 := by
                    obtain ⟨i, o1, o2, o3, o4, ht, -⟩ := step_call hs
                    exact (tb_lt ht).1
                  obtain ⟨pre, x, suf, t1, t2, t3, t4, t5, t6, i, en, t7, t8⟩ := hdz_some _ _ (hdB_at hmi) hf
                  have hxb := x_all hk6
                  unfold xB at hxb
                  simp only [Bool.and_eq_true] at hxb
                  obtain ⟨-, -, -, -, c5⟩ := hxb
                  refine vx_catch hown pre x suf ((htab hne).trans t1) (fun z hz => pass_ok C hk6 (t2 z hz)) t3 t4 (hts _ t6) (word_of c5 hts hSt.2.2.2.2.2.2.2.2.2.1.1) hce hcv hcl ?_
                  rw [t5]
                  have hLa : Lok (tv ad1 sv) ls S'.2.1 := by rw [e2]; exact Lok.ag hL hV hag1
                  refine hnd_ok C t7 t8 hLa hm fun ls1 hL1 => ?_
                  have hVa : VS (ga g1 S.2.2.2.1.2.1) (lw.set slot none) [] := ⟨fun v hv => (by cases hv), fun i v hv => by
                    have hmem : (lw.set slot none)[i]? = some (some v) → lw[i]? = some (some v) ∧ i ≠ slot := by
                      intro hj
                      rw [List.getElem?_set] at hj
                      split at hj
                      · split at hj <;> cases hj
                      · next hne => exact ⟨hj, Ne.symm hne⟩
                    obtain ⟨h8, h9⟩ := hmem hv
                    obtain ⟨-, rfl, -⟩ := mstore1 hm rfl
                    rw [List.getElem?_set_ne (Ne.symm h9), e2] at h8
                    exact (hV.2 i v h8).up (g1 := ga g1 S.2.2.2.1.2.1) hk1⟩
                  exact IH (d1 + 1) mi (hh + alen mi hh, (lw.set slot none, ([], ga g1 S.2.2.2.1.2.1))) r h sv xt K A p l e R s m args below meth c Q H1 locs1 ad0 ad1 ls1 k0 C hW1 hVa hS1 hL1 (by
                      rw [hL1.1, List.length_set]
                      obtain ⟨-, rfl, -⟩ := mstore1 hm rfl
                      rw [List.length_set, e2, hmlen]) (fun j hj => (hag1 j (Nat.lt_of_lt_of_le hj hk0)).trans (hag j hj)) (Nat.le_trans hk0 hk1) hr1 hr2 hret hthr hpas
            · -- returned
              intro v g1 ad1 H1 locs1 hq hag1 hW1 hS1
              subst hq
              dsimp only at h hk1 ⊢
              rw [hg, e1] at h
              have hLa : Lok (tv ad1 sv) ls S'.2.1 := by rw [e2]; exact Lok.ag hL hV hag1
              have hVa : VS (ga g1 S.2.2.2.1.2.1) S'.2.1 (v.toList ++ S'.2.2.1) := ⟨fun w hw => by
                rcases List.mem_append.mp hw with hw | hw
                · cases v with
                  | none => cases hw
                  | some w9 =>
                    rcases List.mem_cons.mp hw with rfl | hw
                    · exact exec_val X n d1 mi' _ _ _ he _ rfl _
                    · cases hw
                · exact (hVr w hw).up (g1 := ga g1 S.2.2.2.1.2.1) hk1, fun i w hw => by rw [e2] at hw; exact (hV.2 i w hw).up (g1 := ga g1 S.2.2.2.1.2.1) hk1⟩
              have hstk : (v.map (tv ad1 sv)).toList ++ S'.2.2.1.map (tv ad sv) = (v.toList ++ S'.2.2.1).map (tv ad1 sv) := by
                rw [List.map_append, map_ag hVr hag1]
                cases v <;> rfl
              rw [hstk]
              exact IH (d1 + 1) mi (S.1 + 3, (S'.2.1, (v.toList ++ S'.2.2.1, ga g1 S.2.2.2.1.2.1))) r h sv xt K A p l e R s m args below meth c Q H1 locs1 ad0 ad1 ls k0 C hW1 hVa hS1 hLa hLn (fun j hj => (hag1 j (Nat.lt_of_lt_of_le hj hk0)).trans (hag j hj)) (Nat.le_trans hk0 hk1) hr1 hr2 hret hthr hpas
    · next v g hs =>
      cases h
      exact hret S v H locs ad ls hs rfl hW hag hS
    · next kd g hs =>
      obtain ⟨-, h⟩ := bif_some h
      cases h
      exact hthr S kd H locs ad ls hs rfl hW hag hS hLn
