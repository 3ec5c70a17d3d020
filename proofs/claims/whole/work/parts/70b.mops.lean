/-! ===== THE MODEL: HISTORY, CHANGES ===== -/
theorem relR.on {f f9 : Nat → Int32} {a : AS} (h : relR f a) (hl : lenOk a) (hf : ∀ k, k < 136 → f9 k = f k) : relR f9 a := by
  have h1 := hl.1
  have h2 := hl.2.1
  refine ⟨⟨?_, ?_, ?_, ?_, ?_, ?_, ?_, ?_⟩, fun k hk o ho => ?_, fun k hk o ho => ?_⟩
  · rw [hf 0 (by omega)]; exact h.1.1
  · rw [hf 1 (by omega)]; exact h.1.2.1
  · rw [hf 2 (by omega)]; exact h.1.2.2.1
  · rw [hf 3 (by omega)]; exact h.1.2.2.2.1
  · rw [hf 4 (by omega)]; exact h.1.2.2.2.2.1
  · rw [hf 5 (by omega)]; exact h.1.2.2.2.2.2.1
  · rw [hf 6 (by omega)]; exact h.1.2.2.2.2.2.2.1
  · rw [hf 7 (by omega)]; exact h.1.2.2.2.2.2.2.2
  · rw [hf _ (by omega)]; exact h.2.1 k hk o ho
  · rw [hf _ (by omega)]; exact h.2.2 k hk o ho
theorem relR.setC {f f9 : Nat → Int32} {a : AS} {l : List Row} {nx : Nat} (h : relR f a) (hl : lenOk a) (hf : ∀ k, k ≠ 0 → k ≠ 2 → ¬ (8 ≤ k ∧ k < 88) → f9 k = f k) (e0 : f9 0 = nI l.length) (e2 : f9 2 = nI nx) (er : ∀ k, k < l.length → ∀ o, o < 6 → f9 (8 + 8 * k + o) = nI (rowD l k o)) : relR f9 (asC a l nx) := by
  have h2 := hl.2.1
  refine ⟨⟨e0, ?_, e2, ?_, ?_, ?_, ?_, ?_⟩, er, fun k hk o ho => ?_⟩
  · rw [hf 1 (by omega) (by omega) (by omega)]; exact h.1.2.1
  · rw [hf 3 (by omega) (by omega) (by omega)]; exact h.1.2.2.2.1
  · rw [hf 4 (by omega) (by omega) (by omega)]; exact h.1.2.2.2.2.1
  · rw [hf 5 (by omega) (by omega) (by omega)]; exact h.1.2.2.2.2.2.1
  · rw [hf 6 (by omega) (by omega) (by omega)]; exact h.1.2.2.2.2.2.2.1
  · rw [hf 7 (by omega) (by omega) (by omega)]; exact h.1.2.2.2.2.2.2.2
  · rw [hf _ (by omega) (by omega) (by omega)]; exact h.2.2 k hk o ho
theorem relR.setR {f f9 : Nat → Int32} {a : AS} {l : List Row} {nx : Nat} (h : relR f a) (hl : lenOk a) (hf : ∀ k, k ≠ 1 → k ≠ 3 → k < 88 → f9 k = f k) (e0 : f9 1 = nI l.length) (e2 : f9 3 = nI nx) (er : ∀ k, k < l.length → ∀ o, o < 6 → f9 (88 + 8 * k + o) = nI (rowD l k o)) : relR f9 (asR a l nx) := by
  have h2 := hl.1
  refine ⟨⟨?_, e0, ?_, e2, ?_, ?_, ?_, ?_⟩, fun k hk o ho => ?_, er⟩
  · rw [hf 0 (by omega) (by omega) (by omega)]; exact h.1.1
  · rw [hf 2 (by omega) (by omega) (by omega)]; exact h.1.2.2.1
  · rw [hf 4 (by omega) (by omega) (by omega)]; exact h.1.2.2.2.2.1
  · rw [hf 5 (by omega) (by omega) (by omega)]; exact h.1.2.2.2.2.2.1
  · rw [hf 6 (by omega) (by omega) (by omega)]; exact h.1.2.2.2.2.2.2.1
  · rw [hf 7 (by omega) (by omega) (by omega)]; exact h.1.2.2.2.2.2.2.2
  · have hk2 : k < (aC a).length := hk
    rw [hf _ (by omega) (by omega) (by omega)]; exact h.2.1 k hk o ho
theorem relR.set1 {f f9 : Nat → Int32} {a : AS} {dy mt : Nat} {c r : Int32} (h : relR f a) (hf : ∀ k, ¬ (4 ≤ k ∧ k < 8) → f9 k = f k) (e4 : f9 4 = nI dy) (e5 : f9 5 = nI mt) (e6 : f9 6 = c) (e7 : f9 7 = r) : relR f9 (as1 a dy mt c r) := by
  refine ⟨⟨?_, ?_, ?_, ?_, e4, e5, e6, e7⟩, fun k hk o ho => ?_, fun k hk o ho => ?_⟩
  · rw [hf 0 (by omega)]; exact h.1.1
  · rw [hf 1 (by omega)]; exact h.1.2.1
  · rw [hf 2 (by omega)]; exact h.1.2.2.1
  · rw [hf 3 (by omega)]; exact h.1.2.2.2.1
  · rw [hf _ (by omega)]; exact h.2.1 k hk o ho
  · rw [hf _ (by omega)]; exact h.2.2 k hk o ho
def relMH (m : MI) (H : List AS) : Prop := m 31 0 6 = nI H.length ∧ H.length ≤ 8 ∧ ∀ (i : Nat) (b : AS), H[i]? = some b → relR (fun k => m 35 0 (136 * (H.length - 1 - i) + k)) b
theorem relMH.on {m m9 : MI} {H : List AS} (h : relMH m H) (h6 : m9 31 0 6 = m 31 0 6) (hf : ∀ k, m9 35 0 k = m 35 0 k) : relMH m9 H := by
  refine ⟨h6.trans h.1, h.2.1, fun i b hb => ?_⟩
  have := h.2.2 i b hb
  have e : (fun k => m9 35 0 (136 * (H.length - 1 - i) + k)) = fun k => m 35 0 (136 * (H.length - 1 - i) + k) := funext fun k => hf _
  rw [e]
  exact this
section MCHG
variable {X : MX} {d : Nat} {x : Int64 × UInt64} {m : MI} {Q : MRes → Prop} {a : AS} {H : List AS} {B : Nat}
theorem sp_begin (hQ : ∀ m9, m9 31 0 5 = 0 → (∀ k, k < 136 → m9 33 0 k = m 32 0 k) → Fk tBg m m9 → Q (.inl none, G x m9)) : Cl X (d + 1) 150 [vp 31 0] (G x m) Q := by
  refine vc_X11_begin (fun m1 e1 => ?_)
  refine sp_cp_32_33 (p := 0) (q := 0) (by omega) (by omega) ⟨_, rfl, hQ _ ?_ (fun k hk => ?_) ?_⟩
  · rw [cpM_no (by omega), e1, mup_eq]
  · have := cpM_in (m := m1) (A := 32) (B := 33) (p := 0) (q := 0) hk
    rw [Nat.zero_add] at this
    rw [this, e1, mup_no (by omega)]
  · intro f i k hn
    unfold tBg at hn
    rw [cpM_no (by omega), e1, mup_no (by omega)]
theorem sp_fail {p : Int32} (hQ : ∀ m9, m9 31 0 5 = p → Fk tTh m m9 → Q (.inl (some (vi 0)), G x m9)) : Cl X d 149 [vp 31 0, vi p] (G x m) Q := by
  refine vc_X11_fail (fun m1 e1 => hQ m1 ?_ ?_)
  · rw [e1, mup_eq]
  · rw [e1]; exact Fk.up ⟨rfl, rfl⟩
theorem sp_commit {p : Int32} (hB : relR (m 33 0) a) (ho : lenOk a) (hM : relMH m H) (hl : ∀ b ∈ H, lenOk b) (hQ : ∀ m9, relMH m9 (hpush a H) → Fk tCm m m9 → Q (.inl (some (vi p)), G x m9)) : Cl X (d + 1) 151 [vp 31 0, vi p] (G x m) Q := by
  obtain ⟨h1, h2, h3⟩ := hM
  refine vc_X11_commit ?_
  have e136 : (136 : Int32) = nI 136 := rfl
  rw [h1, e136, pk_mul]
  refine pk_eqn (b := 8) (fun hc => ?_) (fun hc => ?_) (by omega) (by omega)
  · have key : ∀ k, k ≤ 8 → 1 ≤ k → ∀ m9, (∀ t, m9 35 0 t = m 35 0 (if t < 136 * (k - 1) then t + 136 else t)) → (∀ f i t, ¬ f = 35 → m9 f i t = m f i t) → Wp X (d + 1) 151 (11, ([some (vp 31 0), some (vi p), some (vi (nI k))], ([], G x m9))) Q := by
      refine lup (fun k hk ih hk1 m9 hA hB9 => ?_)
      refine vl_X11_commit_11 ?_
      have e1 : nI k - 1 = nI (k - 1) := by
        have := nI_pred (k - 1)
        rwa [show k - 1 + 1 = k by omega] at this
      rw [e136, e1, pk_mul, pk_mul]
      refine pk_le 8 k (fun hk8 m2 e2 => ?_) (fun hk8 => ?_)
      · obtain rfl : k = 8 := by omega
        rw [hB9 31 0 6 (by omega), h1, hc, show nI 8 - 1 = nI 7 from nI_pred 7] at e2
        have e26 : m2 31 0 6 = nI 7 := by rw [e2, mup_eq]
        rw [e26, pk_mul]
        refine sp_cp_33_35 (p := 0) (q := 136 * 7) (by omega) (by omega) ⟨_, rfl, fun m5 e5 => ?_⟩
        rw [cpM_no (by omega), e26, nI_1] at e5
        have V : ∀ t, m5 35 0 t = if 136 * 7 ≤ t ∧ t < 136 * 7 + 136 then m 33 0 (t - 136 * 7) else m 35 0 (if t < 136 * 7 then t + 136 else t) := fun t => by
          rw [e5, mup_no (by omega)]
          unfold cpM
          by_cases ht : 136 * 7 ≤ t ∧ t < 136 * 7 + 136
          · rw [if_pos (by omega), if_pos ht, e2, mup_no (by omega), hB9 33 0 _ (by omega), Nat.zero_add]
          · rw [if_neg (by omega), if_neg ht, e2, mup_no (by omega), hA]
        refine hQ m5 ⟨?_, ?_, fun i b hb => ?_⟩ ?_
        · rw [e5, mup_eq, hp_len h2, hc]; rfl
        · rw [hp_len h2]; omega
        · rw [hp_len h2, hc]
          obtain ⟨hi, hb1 | ⟨j, rfl, hb2⟩⟩ := hp_get hb
          · obtain ⟨rfl, rfl⟩ := hb1
            refine hB.on ho (fun k hk => ?_)
            rw [V, if_pos (by omega), show 136 * (min (8 + 1) 8 - 1 - 0) + k - 136 * 7 = k by omega]
          · refine (h3 j b hb2).on (hl b (List.mem_of_getElem? hb2)) (fun k hk => ?_)
            rw [V, if_neg (by omega), if_pos (by omega), hc]
            rw [show 136 * (min (8 + 1) 8 - 1 - (j + 1)) + k + 136 = 136 * (8 - 1 - j) + k by omega]
        · intro f i k hn
          unfold tCm at hn
          rw [e5, mup_no (by omega), cpM_no (by omega), e2, mup_no (by omega), hB9 f i k (by omega)]
      · refine sp_cp_35_35 (p := 136 * k) (q := 136 * (k - 1)) (by omega) (by omega) (by omega) ⟨_, rfl, fun t8 e8 => ?_⟩
        rw [e8, nI_1]
        refine ih hk8 (by omega) _ (fun t => ?_) (fun f i t hn => ?_)
        · unfold cpM
          by_cases ht : 136 * (k - 1) ≤ t ∧ t < 136 * (k - 1) + 136
          · rw [if_pos (by omega), hA, if_neg (by omega), if_pos (by omega), show 136 * k + (t - 136 * (k - 1)) = t + 136 by omega]
          · rw [if_neg (by omega), hA]
            by_cases ht2 : t < 136 * (k - 1)
            · rw [if_pos ht2, if_pos (by omega)]
            · rw [if_neg ht2, if_neg (by omega)]
        · rw [cpM_no (by omega)]; exact hB9 f i t hn
    exact key 1 (by omega) (by omega) m (fun t => by rw [if_neg (by omega)]) (fun f i t _ => rfl)
  · refine sp_cp_33_35 (p := 0) (q := 136 * H.length) (by omega) (by omega) ⟨_, rfl, fun m4 e4 => ?_⟩
    rw [cpM_no (by omega), h1, nI_1] at e4
    have hm : min (H.length + 1) 8 = H.length + 1 := by omega
    refine hQ m4 ⟨?_, ?_, fun i b hb => ?_⟩ ?_
    · rw [e4, mup_eq, hp_len h2, hm]
    · rw [hp_len h2]; omega
    · rw [hp_len h2, hm]
      obtain ⟨hi, hb1 | ⟨j, rfl, hb2⟩⟩ := hp_get hb
      · obtain ⟨rfl, rfl⟩ := hb1
        refine hB.on ho (fun k hk => ?_)
        rw [show 136 * (H.length + 1 - 1 - 0) + k = 136 * H.length + k by omega, e4, mup_no (by omega), cpM_in hk, Nat.zero_add]
      · have hj : j < H.length := (List.getElem?_eq_some_iff.mp hb2).1
        refine (h3 j b hb2).on (hl b (List.mem_of_getElem? hb2)) (fun k hk => ?_)
        rw [e4, mup_no (by omega), cpM_no (by omega), show 136 * (H.length + 1 - 1 - (j + 1)) + k = 136 * (H.length - 1 - j) + k by omega]
    · intro f i k hn
      unfold tCm at hn
      rw [e4, mup_no (by omega), cpM_no (by omega)]
theorem sp_lay {row : Nat} {v : Nat → Int32} (h : row + 6 ≤ 136) (hQ : Q (.inl none, G x (wr6 m 32 0 row v))) : Cl X d 167 [vp 31 0, vi (nI row), vi (v 0), vi (v 1), vi (v 2), vi (v 3), vi (v 4), vi (v 5)] (G x m) Q := by
  refine vc_X11_lay ?_
  have ix : ∀ o, o < 6 → (nI row + nI o).toNatClampNeg = row + o ∧ inb (nI row + nI o) 136 = true := fun o ho => by
    rw [nI_add]
    exact ⟨nI_clamp (by omega), inb_n (row + o) 136 (by omega)⟩
  refine ⟨(ix 0 (by omega)).2, fun m1 e1 => ⟨(ix 1 (by omega)).2, fun m2 e2 => ⟨(ix 2 (by omega)).2, fun m3 e3 => ⟨(ix 3 (by omega)).2, fun m4 e4 => ⟨(ix 4 (by omega)).2, fun m5 e5 => ⟨(ix 5 (by omega)).2, fun m6 e6 => ?_⟩⟩⟩⟩⟩⟩
  rw [show (nI row + 0).toNatClampNeg = row + 0 from (ix 0 (by omega)).1] at e1
  rw [show (nI row + 1).toNatClampNeg = row + 1 from (ix 1 (by omega)).1] at e2
  rw [show (nI row + 2).toNatClampNeg = row + 2 from (ix 2 (by omega)).1] at e3
  rw [show (nI row + 3).toNatClampNeg = row + 3 from (ix 3 (by omega)).1] at e4
  rw [show (nI row + 4).toNatClampNeg = row + 4 from (ix 4 (by omega)).1] at e5
  rw [show (nI row + 5).toNatClampNeg = row + 5 from (ix 5 (by omega)).1] at e6
  have E : m6 = wr6 m 32 0 row v := by
    rw [e6, e5, e4, e3, e2, e1]
    exact wr6_eq m 32 0 row v
  rw [E]
  exact hQ
theorem sp_adds {r g b f : Nat} (h : relR (m 32 0) a) (ho : lenOk a) (hc : (aC a).length < 10) (hQ : ∀ m9, relR (m9 32 0) (asAdd a r g b f) → Fk t32 m m9 → Q (.inl (some (vi (nI (aXC a)))), G x m9)) : Cl X (d + 1) 169 [vp 31 0, vi (nI r), vi (nI g), vi (nI b), vi (nI f)] (G x m) Q := by
  refine vc_X11_adds ?_
  rw [h.1.1]
  refine sp_crow ⟨_, _, rfl, ?_⟩
  rw [h.1.2.2.1, h.1.2.2.2.2.1]
  refine sp_lay (v := fun o => nI (mkR (aXC a) r g b f (aDay a) o)) (by omega) ⟨_, rfl, fun m5 e5 m6 e6 => ?_⟩
  rw [wr6_no (by omega), h.1.1, nI_1] at e5
  have e52 : m5 32 0 2 = nI (aXC a) := by rw [e5, mup_no (by omega), wr6_no (by omega)]; exact h.1.2.2.1
  rw [e52, nI_1] at e6
  rw [show m6 32 0 2 = nI (aXC a + 1) by rw [e6, mup_eq], nI_pred]
  have V : ∀ k, m6 32 0 k = if k = 2 then nI (aXC a + 1) else if k = 0 then nI ((aC a).length + 1) else if 8 + 8 * (aC a).length ≤ k ∧ k < 8 + 8 * (aC a).length + 6 then nI (mkR (aXC a) r g b f (aDay a) (k - (8 + 8 * (aC a).length))) else m 32 0 k := fun k => by
    rw [e6, mup_if]
    by_cases h2 : k = 2
    · rw [if_pos (by omega), if_pos h2]
    · rw [if_neg (by omega), if_neg h2, e5, mup_if]
      by_cases h0 : k = 0
      · rw [if_pos (by omega), if_pos h0]
      · rw [if_neg (by omega), if_neg h0]
        unfold wr6
        by_cases h4 : 8 + 8 * (aC a).length ≤ k ∧ k < 8 + 8 * (aC a).length + 6
        · rw [if_pos (by omega), if_pos h4]
        · rw [if_neg (by omega), if_neg h4]
  refine hQ m6 (h.setC ho (fun k h0 h2 h8 => ?_) ?_ ?_ (fun k hk o ho => ?_)) ?_
  · rw [V, if_neg h2, if_neg h0, if_neg (by omega)]
  · rw [V, if_neg (by omega), if_pos rfl, List.length_append]; rfl
  · rw [V, if_pos rfl]
  · rw [List.length_append] at hk
    have h1 : ([mkR (aXC a) r g b f (aDay a)] : List Row).length = 1 := rfl
    rw [V, if_neg (by omega), if_neg (by omega)]
    by_cases hkl : k < (aC a).length
    · rw [if_neg (by omega), rowD_app1 hkl]
      exact h.2.1 k hkl o ho
    · obtain rfl : k = (aC a).length := by omega
      rw [if_pos (by omega), rowD_app2, Nat.add_sub_cancel_left]
  · rw [e6, e5]
    exact Fk.ups (Fk.ups (fun f i k hn => wr6_no (fun z => hn z.1)) rfl) rfl
theorem sp_reps {r g b t w : Nat} (h : relR (m 32 0) a) (ho : lenOk a) (hc : (aR a).length < 6) (hQ : ∀ m9, relR (m9 32 0) (asRep a r g b t w) → Fk t32 m m9 → Q (.inl (some (vi (nI (aXR a)))), G x m9)) : Cl X (d + 1) 172 [vp 31 0, vi (nI r), vi (nI g), vi (nI b), vi (nI t), vi (nI w)] (G x m) Q := by
  refine vc_X11_reports ?_
  rw [h.1.2.1]
  refine sp_rrow ⟨_, _, rfl, ?_⟩
  rw [h.1.2.2.2.1]
  refine sp_lay (v := fun o => nI (mkR (aXR a) r g b t w o)) (by omega) ⟨_, rfl, fun m5 e5 m6 e6 => ?_⟩
  rw [wr6_no (by omega), h.1.2.1, nI_1] at e5
  have e52 : m5 32 0 3 = nI (aXR a) := by rw [e5, mup_no (by omega), wr6_no (by omega)]; exact h.1.2.2.2.1
  rw [e52, nI_1] at e6
  rw [show m6 32 0 3 = nI (aXR a + 1) by rw [e6, mup_eq], nI_pred]
  have V : ∀ k, m6 32 0 k = if k = 3 then nI (aXR a + 1) else if k = 1 then nI ((aR a).length + 1) else if 88 + 8 * (aR a).length ≤ k ∧ k < 88 + 8 * (aR a).length + 6 then nI (mkR (aXR a) r g b t w (k - (88 + 8 * (aR a).length))) else m 32 0 k := fun k => by
    rw [e6, mup_if]
    by_cases h2 : k = 3
    · rw [if_pos (by omega), if_pos h2]
    · rw [if_neg (by omega), if_neg h2, e5, mup_if]
      by_cases h0 : k = 1
      · rw [if_pos (by omega), if_pos h0]
      · rw [if_neg (by omega), if_neg h0]
        unfold wr6
        by_cases h4 : 88 + 8 * (aR a).length ≤ k ∧ k < 88 + 8 * (aR a).length + 6
        · rw [if_pos (by omega), if_pos h4]
        · rw [if_neg (by omega), if_neg h4]
  refine hQ m6 (h.setR ho (fun k h0 h2 h8 => ?_) ?_ ?_ (fun k hk o ho => ?_)) ?_
  · rw [V, if_neg h2, if_neg h0, if_neg (by omega)]
  · rw [V, if_neg (by omega), if_pos rfl, List.length_append]; rfl
  · rw [V, if_pos rfl]
  · rw [List.length_append] at hk
    have h1 : ([mkR (aXR a) r g b t w] : List Row).length = 1 := rfl
    rw [V, if_neg (by omega), if_neg (by omega)]
    by_cases hkl : k < (aR a).length
    · rw [if_neg (by omega), rowD_app1 hkl]
      exact h.2.2 k hkl o ho
    · obtain rfl : k = (aR a).length := by omega
      rw [if_pos (by omega), rowD_app2, Nat.add_sub_cancel_left]
  · rw [e6, e5]
    exact Fk.ups (Fk.ups (fun f i k hn => wr6_no (fun z => hn z.1)) rfl) rfl
theorem sp_close {fr p n : Nat} (hp : p ≤ n) (hn : fr + 8 * n + 8 ≤ 136) (hQ : ∀ m9, (∀ k, m9 32 0 k = if fr + 8 * p ≤ k ∧ k < fr + 8 * n then m 32 0 (k + 8) else if fr + 8 * n ≤ k ∧ k < fr + 8 * n + 8 then 0 else m 32 0 k) → (∀ f i k, ¬ f = 32 → m9 f i k = m f i k) → Q (.inl none, G x m9)) : Cl X d 158 [vp 31 0, vi (nI fr), vi (nI p), vi (nI n)] (G x m) Q := by
  refine vc_X11_close (fun t1 e1 => ?_)
  have e8 : (8 : Int32) = nI 8 := rfl
  rw [e8, pk_mul, nI_add] at e1
  rw [e1]
  have key2 : ∀ k, k ≤ 8 → ∀ m9, (∀ t, m9 32 0 t = if fr + 8 * p ≤ t ∧ t < fr + 8 * n then m 32 0 (t + 8) else if fr + 8 * n ≤ t ∧ t < fr + 8 * n + k then 0 else m 32 0 t) → (∀ f i t, ¬ f = 32 → m9 f i t = m f i t) → Wp X d 158 (45, ([some (vp 31 0), some (vi (nI fr)), some (vi (nI p)), some (vi (nI n)), some (vi (nI k))], ([], G x m9))) Q := by
    refine lup (fun k hk ih m9 hA hB => ?_)
    refine vl_X11_close_45 ?_
    have ex : nI fr + 8 * nI n + nI k = nI (fr + 8 * n + k) := by rw [e8, pk_mul, nI_add, nI_add]
    rw [ex, nI_clamp (n := fr + 8 * n + k) (by omega)]
    refine pk_le 8 k (fun hc => ?_) (fun hc => ⟨inb_n (fr + 8 * n + k) 136 (by omega), fun m2 e2 t3 e3 => ?_⟩)
    · obtain rfl : k = 8 := by omega
      exact hQ m9 hA hB
    · rw [e3, nI_1]
      refine ih hc m2 (fun t => ?_) (fun f i t hf => ?_)
      · rw [e2, mup_if]
        by_cases ht : t = fr + 8 * n + k
        · rw [if_pos (by omega), if_neg (by omega), if_pos (by omega)]
        · rw [if_neg (by omega), hA]
          by_cases h2 : fr + 8 * p ≤ t ∧ t < fr + 8 * n
          · rw [if_pos h2, if_pos h2]
          · rw [if_neg h2, if_neg h2]
            by_cases h4 : fr + 8 * n ≤ t ∧ t < fr + 8 * n + k
            · rw [if_pos h4, if_pos (by omega)]
            · rw [if_neg h4, if_neg (by omega)]
      · rw [e2, mup_no (by omega)]; exact hB f i t hf
  have key1 : ∀ k, k ≤ fr + 8 * n → fr + 8 * p ≤ k → ∀ m9, (∀ t, m9 32 0 t = if fr + 8 * p ≤ t ∧ t < k then m 32 0 (t + 8) else m 32 0 t) → (∀ f i t, ¬ f = 32 → m9 f i t = m f i t) → Wp X d 158 (8, ([some (vp 31 0), some (vi (nI fr)), some (vi (nI p)), some (vi (nI n)), some (vi (nI k))], ([], G x m9))) Q := by
    refine lup (fun k hk ih hk1 m9 hA hB => ?_)
    refine vl_X11_close_8 ?_
    have ex : nI fr + 8 * nI n = nI (fr + 8 * n) := by rw [e8, pk_mul, nI_add]
    have ey : nI k + 8 = nI (k + 8) := nI_add k 8
    rw [ex, ey, nI_clamp (n := k + 8) (by omega), nI_clamp (n := k) (by omega)]
    refine pk_le (fr + 8 * n) k (fun hc => ?_) (fun hc => ⟨inb_n (k + 8) 136 (by omega), inb_n k 136 (by omega), fun m2 e2 t3 e3 => ?_⟩)
    · obtain rfl : k = fr + 8 * n := by omega
      refine key2 0 (by omega) m9 (fun t => ?_) hB
      rw [hA]
      by_cases h2 : fr + 8 * p ≤ t ∧ t < fr + 8 * n
      · rw [if_pos h2, if_pos h2]
      · rw [if_neg h2, if_neg h2, if_neg (by omega)]
    · rw [e3, nI_1]
      refine ih hc (by omega) m2 (fun t => ?_) (fun f i t hf => ?_)
      · rw [e2, mup_if]
        by_cases ht : t = k
        · rw [if_pos (by omega), if_pos (by omega), hA, if_neg (by omega), ht]
        · rw [if_neg (by omega), hA]
          by_cases h2 : fr + 8 * p ≤ t ∧ t < k
          · rw [if_pos h2, if_pos (by omega)]
          · rw [if_neg h2, if_neg (by omega)]
      · rw [e2, mup_no (by omega)]; exact hB f i t hf
  exact key1 (fr + 8 * p) (by omega) (by omega) m (fun t => by rw [if_neg (by omega)]) (fun f i t _ => rfl)
theorem sp_rmMC {p : Nat} (h : relR (m 32 0) a) (ho : lenOk a) (hp : p < (aC a).length) (hQ : ∀ m9, relR (m9 32 0) (asDl a p) → Fk t32 m m9 → Q (.inl none, G x m9)) : Cl X (d + 1) 159 [vp 31 0, vi (nI p)] (G x m) Q := by
  have hl := ho.1
  refine vc_X11_removeColour (fun m1 e1 => ?_)
  rw [h.1.1, show nI (aC a).length - 1 = nI ((aC a).length - 1) from by
    have := nI_pred ((aC a).length - 1)
    rwa [show (aC a).length - 1 + 1 = (aC a).length by omega] at this] at e1
  have e10 : m1 32 0 0 = nI ((aC a).length - 1) := by rw [e1, mup_eq]
  rw [e10]
  refine sp_close (fr := 8) (by omega) (by omega) (fun m9 hA hB => ⟨_, rfl, hQ m9 (h.setC ho (fun k h0 h2 h8 => ?_) ?_ ?_ (fun k hk o ho => ?_)) (fun f i k hn => ?_)⟩)
  · rw [hA, if_neg (by omega), if_neg (by omega), e1, mup_no (by omega)]
  · rw [hA, if_neg (by omega), if_neg (by omega), e10, len_er hp]
  · rw [hA, if_neg (by omega), if_neg (by omega), e1, mup_no (by omega)]; exact h.1.2.2.1
  · rw [len_er hp] at hk
    rw [hA]
    by_cases hkp : k < p
    · rw [if_neg (by omega), if_neg (by omega), rowD_er1 hkp, e1, mup_no (by omega)]
      exact h.2.1 k (by omega) o ho
    · rw [if_pos (by omega), rowD_er2 (by omega), e1, mup_no (by omega), show 8 + 8 * k + o + 8 = 8 + 8 * (k + 1) + o by omega]
      exact h.2.1 (k + 1) (by omega) o ho
  · unfold t32 at hn
    rw [hB f i k hn, e1, mup_no (by omega)]
theorem sp_rmMR {p : Nat} (h : relR (m 32 0) a) (ho : lenOk a) (hp : p < (aR a).length) (hQ : ∀ m9, relR (m9 32 0) (asWd a p) → Fk t32 m m9 → Q (.inl none, G x m9)) : Cl X (d + 1) 160 [vp 31 0, vi (nI p)] (G x m) Q := by
  have hl := ho.2.1
  refine vc_X11_removeReport (fun m1 e1 => ?_)
  rw [h.1.2.1, show nI (aR a).length - 1 = nI ((aR a).length - 1) from by
    have := nI_pred ((aR a).length - 1)
    rwa [show (aR a).length - 1 + 1 = (aR a).length by omega] at this] at e1
  have e10 : m1 32 0 1 = nI ((aR a).length - 1) := by rw [e1, mup_eq]
  rw [e10]
  refine sp_close (fr := 88) (by omega) (by omega) (fun m9 hA hB => ⟨_, rfl, hQ m9 (h.setR ho (fun k h0 h2 h8 => ?_) ?_ ?_ (fun k hk o ho => ?_)) (fun f i k hn => ?_)⟩)
  · rw [hA, if_neg (by omega), if_neg (by omega), e1, mup_no (by omega)]
  · rw [hA, if_neg (by omega), if_neg (by omega), e10, len_er hp]
  · rw [hA, if_neg (by omega), if_neg (by omega), e1, mup_no (by omega)]; exact h.1.2.2.2.1
  · rw [len_er hp] at hk
    rw [hA]
    by_cases hkp : k < p
    · rw [if_neg (by omega), if_neg (by omega), rowD_er1 hkp, e1, mup_no (by omega)]
      exact h.2.2 k (by omega) o ho
    · rw [if_pos (by omega), rowD_er2 (by omega), e1, mup_no (by omega), show 88 + 8 * k + o + 8 = 88 + 8 * (k + 1) + o by omega]
      exact h.2.2 (k + 1) (by omega) o ho
  · unfold t32 at hn
    rw [hB f i k hn, e1, mup_no (by omega)]
end MCHG
