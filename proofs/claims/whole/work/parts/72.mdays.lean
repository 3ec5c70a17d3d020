/-! ===== THE MODEL: DAYS, GREYS ===== -/
theorem okC_fd {B dy : Nat} {r : Row} (h : okC B r) : okC B (fdR dy r) ∧ fdR dy r 5 = r 5 ∧ fdR dy r 0 = r 0 := by
  unfold okC at h
  have e : ∀ o, ¬ (1 ≤ o ∧ o ≤ 3) → fdR dy r o = r o := fun o ho => if_neg (fun z => ho z.2)
  have l : ∀ o, 1 ≤ o → o ≤ 3 → r o ≤ 99 → fdR dy r o ≤ 99 := fun o h1 h3 h9 => by
    unfold fdR
    split
    · exact fdp_le h9
    · exact h9
  refine ⟨?_, e 5 (by omega), e 0 (by omega)⟩
  unfold okC
  rw [e 0 (by omega), e 4 (by omega)]
  exact ⟨h.1, l 1 (by omega) (by omega) h.2.1, l 2 (by omega) (by omega) h.2.2.1, l 3 (by omega) (by omega) h.2.2.2.1, h.2.2.2.2⟩
theorem okA_pass {B : Nat} {a : AS} (h : okA B a) : okA (B + 1) (asPass a) := by
  obtain ⟨⟨h1, h2, h3, h4, h5, h6⟩, ⟨h7, h8⟩, h9, h10⟩ := h
  refine ⟨⟨?_, h2, by show aXC a ≤ B + 1; omega, by show aXR a ≤ B + 1; omega, by show aDay a + 1 ≤ B + 1; omega, h6⟩, ⟨fun r hr => ?_, ?_⟩, h9, h10⟩
  · show ((aC a).map _).length ≤ 10
    rw [List.length_map]; exact h1
  · obtain ⟨q, hq, rfl⟩ := List.mem_map.mp hr
    obtain ⟨h11, h12, h13⟩ := okC_fd (dy := aDay a + 1) (h7 q hq).1
    refine ⟨h11, ?_⟩
    rw [h12]
    have := (h7 q hq).2
    show q 5 ≤ aDay a + 1
    omega
  · refine List.pairwise_map.mpr (h8.imp (fun {r q} hrq => ?_))
    have e : ∀ r : Row, fdR (aDay a + 1) r 0 = r 0 := fun r => if_neg (by omega)
    rw [e, e]
    exact hrq
theorem okA_days {B : Nat} {a : AS} (h : okA B a) : ∀ n, okA (B + n) (asDays n a)
  | 0 => h
  | n + 1 => okA_pass (okA_days h n)
def flv (r : Row) : Nat := max (max (adf (r 1) 50) (adf (r 2) 50)) (adf (r 3) 50)
theorem adf_0 {n k : Nat} : adf n k = 0 ↔ n = k := by
  unfold adf
  split <;> omega
theorem flv_0 (r : Row) : flv r = 0 ↔ grey r = true := by
  unfold flv grey
  rw [decide_eq_true_iff, ← adf_0 (n := r 1), ← adf_0 (n := r 2), ← adf_0 (n := r 3)]
  omega
section MDAY
variable {X : MX} {d : Nat} {x : Int64 × UInt64} {m : MI} {Q : MRes → Prop} {a : AS} {B : Nat}
theorem sp_fades {k : Nat} (h : relR (m 32 0) a) (ho : okA B a) (hk : k < (aC a).length) (hQ : Q (.inl (some (vi (nI (flv (rowD (aC a) k))))), G x m)) : Cl X (d + 2) 192 [vp 31 0, vi (nI k)] (G x m) Q := by
  have hl := ho.len
  refine vc_X11_fadesLeft ?_
  have hp := ho.ptC h hk
  generalize hrr : rowD (aC a) k = r at *
  have hA : ∀ o, 1 ≤ o → o ≤ 3 → adf (r o) 50 ≤ 99 := fun o h1 h3 => adf_le (hp o h1 h3).2 (by omega)
  have step : ∀ o v, 1 ≤ o → o ≤ 3 → v ≤ 99 → Wp X (d + 2) 192 (4, ([some (vp 31 0), some (vi (nI k)), some (vi (nI (max v (adf (r o) 50)))), some (vi (nI (o + 1)))], ([], G x m))) Q → Wp X (d + 2) 192 (4, ([some (vp 31 0), some (vi (nI k)), some (vi (nI v)), some (vi (nI o))], ([], G x m))) Q := fun o v h1 h3 h9 hk9 => by
    have e1 := (hp o h1 h3).1
    have b1 := hA o h1 h3
    have b2 := (hp o h1 h3).2
    refine vl_X11_fadesLeft_4 (pk_lt 3 o (fun c => by omega) (fun c => ?_))
    refine sp_c (k := k) (o := o) (by omega) (by omega) ⟨_, _, rfl, ?_⟩
    rw [e1]
    refine sp_size (b := 50) (by omega) (by omega) ⟨_, _, rfl, pk_le (adf (r o) 50) v (fun c2 t7 e7 => ?_) (fun c2 => ?_)⟩
    · rw [e7, nI_1]
      rw [Nat.max_eq_left c2] at hk9
      exact hk9
    · refine sp_c (k := k) (o := o) (by omega) (by omega) ⟨_, _, rfl, ?_⟩
      rw [e1]
      refine sp_size (b := 50) (by omega) (by omega) ⟨_, _, rfl, fun t7 e7 => ?_⟩
      rw [e7, nI_1]
      rw [Nat.max_eq_right (Nat.le_of_lt c2)] at hk9
      exact hk9
  have h1 := hA 1 (by omega) (by omega)
  have h2 := hA 2 (by omega) (by omega)
  refine step 1 0 (by omega) (by omega) (by omega) (step 2 _ (by omega) (by omega) (by omega) (step 3 _ (by omega) (by omega) (by omega) ?_))
  refine vl_X11_fadesLeft_4 (pk_lt 3 4 (fun c => ?_) (fun c => by omega))
  rw [Nat.zero_max]
  exact hQ
theorem sp_mgreys (h : relR (m 32 0) a) (ho : okA B a) (hQ : Q (.inl (some (vi (nI (greyN (aC a))))), G x m)) : Cl X (d + 3) 193 [vp 31 0] (G x m) Q := by
  have hl := ho.len
  refine vc_X11_greys ?_
  have key : ∀ k, k ≤ (aC a).length → Wp X (d + 3) 193 (4, ([some (vp 31 0), some (vi (nI (fa_cnt (fun k => grey (rowD (aC a) k)) k))), some (vi (nI k))], ([], G x m))) Q := by
    refine lup (fun k hk ih => ?_)
    refine vl_X11_greys_4 ?_
    rw [h.1.1]
    refine pk_le (aC a).length k (fun hc => ?_) (fun hc => ?_)
    · obtain rfl : k = (aC a).length := by omega
      exact hQ
    · refine sp_fades h ho hc ⟨_, _, rfl, ?_⟩
      have ih := ih hc
      have hp := ho.ptC h hc
      have hb : flv (rowD (aC a) k) ≤ 99 := by
        have h1 := adf_le (hp 1 (by omega) (by omega)).2 (show 50 ≤ 99 by omega)
        have h2 := adf_le (hp 2 (by omega) (by omega)).2 (show 50 ≤ 99 by omega)
        have h3 := adf_le (hp 3 (by omega) (by omega)).2 (show 50 ≤ 99 by omega)
        unfold flv
        omega
      refine pk_eqn (b := 0) (fun c => ?_) (fun c => ?_) (by omega) (by omega)
      · rw [fa_cnt_yes (p := fun k => grey (rowD (aC a) k)) ((flv_0 _).mp c)] at ih
        intro t7 e7 t8 e8
        rw [e7, e8, nI_1, nI_1]
        exact ih
      · rw [fa_cnt_no (p := fun k => grey (rowD (aC a) k)) (Bool.eq_false_iff.mpr (fun z => c ((flv_0 _).mpr z)))] at ih
        intro t7 e7 t8 e8
        rw [e7, e8, nI_1, Int32.add_zero]
        exact ih
  exact key 0 (by omega)
theorem sp_faded {n : Nat} (h : n ≤ 99) (hQ : Q (.inl (some (vi (nI (fdp n)))), G x m)) : Cl X d 189 [vi (nI n)] (G x m) Q := by
  refine vc_X11_faded ?_
  unfold fdp at hQ
  refine pk_le n 50 (fun c => pk_le 50 n (fun c2 => ?_) (fun c2 => ?_)) (fun c => ?_)
  · rw [if_neg (by omega), if_neg (by omega)] at hQ; exact hQ
  · rw [if_neg (by omega), if_pos c2] at hQ
    rw [nI_1]; exact hQ
  · rw [if_pos c] at hQ
    have := nI_pred (n - 1)
    rw [show n - 1 + 1 = n by omega] at this
    rw [this]; exact hQ
theorem sp_passes {n : Nat} (h : relR (m 32 0) a) (ho : okA B a) (hn : n ≤ 99) (hB : B < 2 ^ 29) (hQ : ∀ m9, relR (m9 32 0) (asDays n a) → Fk t32 m m9 → Q (.inl (some (vi (nI (greyN (aC (asDays n a)))))), G x m9)) : Cl X (d + 4) 191 [vp 31 0, vi (nI n)] (G x m) Q := by
  refine vc_X11_passes ?_
  have outer : ∀ k, k ≤ n → ∀ o3 o4 m9, relR (m9 32 0) (asDays k a) → Fk t32 m m9 → Wp X (d + 4) 191 (2, ([some (vp 31 0), some (vi (nI n)), some (vi (nI k)), o3, o4], ([], G x m9))) Q := by
    refine lup (fun k hk ih o3 o4 m9 hr hF => ?_)
    have hok := okA_days ho k
    refine vl_X11_passes_2 (pk_le n k (fun hc => ?_) (fun hc m4 e4 => ?_))
    · obtain rfl : k = n := by omega
      exact sp_mgreys hr hok ⟨_, _, rfl, hQ m9 hr hF⟩
    have ih := ih hc
    have e4d : asDays (k + 1) a = asPass (asDays k a) := rfl
    rw [e4d] at ih
    generalize asDays k a = b at hr hok ih e4d
    have hl := hok.len
    rw [hr.1.2.2.2.2.1, nI_1] at e4
    have rows : ∀ j, j ≤ (aC b).length → ∀ o4 m8, (∀ i, i < (aC b).length → ∀ o, o < 6 → m8 32 0 (8 + 8 * i + o) = nI ((if i < j then fdR (aDay b + 1) (rowD (aC b) i) else rowD (aC b) i) o)) → (∀ f i t, ¬ (f = 32 ∧ 8 ≤ t ∧ t < 88) → m8 f i t = m4 f i t) → Wp X (d + 4) 191 (19, ([some (vp 31 0), some (vi (nI n)), some (vi (nI k)), some (vi (nI j)), o4], ([], G x m8))) Q := by
      refine lup (fun j hj ihj o4 m8 hA hB8 => ?_)
      have ed : m8 32 0 4 = nI (aDay b + 1) := by rw [hB8 32 0 4 (by omega), e4, mup_eq]
      have e0 : m8 32 0 0 = nI (aC b).length := by rw [hB8 32 0 0 (by omega), e4, mup_no (by omega)]; exact hr.1.1
      refine vl_X11_passes_19 ?_
      rw [e0]
      refine pk_le (aC b).length j (fun hc2 t2 e2 => ?_) (fun hc2 => ?_)
      · rw [e2, nI_1]
        have K : ∀ t, t < 8 → t ≠ 4 → m8 32 0 t = m9 32 0 t := fun t h1 h2 => by rw [hB8 32 0 t (by omega), e4, mup_no (by omega)]
        refine ih _ _ m8 ⟨⟨?_, ?_, ?_, ?_, ed, ?_, ?_, ?_⟩, fun i hi o ho6 => ?_, fun i hi o ho6 => ?_⟩ (fun f i t hf => ?_)
        · rw [e0]
          show _ = nI ((aC b).map _).length
          rw [List.length_map]
        · rw [K 1 (by omega) (by omega)]; exact hr.1.2.1
        · rw [K 2 (by omega) (by omega)]; exact hr.1.2.2.1
        · rw [K 3 (by omega) (by omega)]; exact hr.1.2.2.2.1
        · rw [K 5 (by omega) (by omega)]; exact hr.1.2.2.2.2.2.1
        · rw [K 6 (by omega) (by omega)]; exact hr.1.2.2.2.2.2.2.1
        · rw [K 7 (by omega) (by omega)]; exact hr.1.2.2.2.2.2.2.2
        · have hi2 : i < (aC b).length := by
            have : i < ((aC b).map (fdR (aDay b + 1))).length := hi
            rwa [List.length_map] at this
          rw [hA i hi2 o ho6, if_pos (by omega)]
          show _ = nI (rowD ((aC b).map (fdR (aDay b + 1))) i o)
          rw [rowD_map hi2]
        · rw [hB8 32 0 _ (by omega), e4, mup_no (by omega)]; exact hr.2.2 i hi o ho6
        · have hf2 : ¬ f = 32 := hf
          rw [hB8 f i t (by omega), e4, mup_no (by omega)]; exact hF f i t hf
      · have ihj := ihj hc2
        have hrc := hok.c hc2
        have hr1 := hrc.1
        unfold okC at hr1
        have hd : aDay b ≤ B + k := hok.1.2.2.2.2.1
        have eo : ∀ o, o < 6 → m8 32 0 (8 + 8 * j + o) = nI (rowD (aC b) j o) := fun o ho => by rw [hA j hc2 o ho, if_neg (by omega)]
        refine vc_X11_ageAt (sp_c (k := j) (o := 5) (by omega) (by omega) ⟨_, _, rfl, ?_⟩)
        rw [ed, eo 5 (by omega), nI_sub (by omega)]
        refine ⟨_, _, rfl, sp_c (k := j) (o := 4) (by omega) (by omega) ⟨_, _, rfl, ?_⟩⟩
        rw [eo 4 (by omega), pk_rem (by omega) (by omega) (by omega)]
        have hm : (aDay b + 1 - rowD (aC b) j 5) % rowD (aC b) j 4 < rowD (aC b) j 4 := Nat.mod_lt _ (by omega)
        have eR : ∀ (m7 : MI) i o, (m7 32 0 (8 + 8 * i + o) = nI ((if i < j then fdR (aDay b + 1) (rowD (aC b) i) else rowD (aC b) i) o)) → (i = j → fdR (aDay b + 1) (rowD (aC b) j) o = rowD (aC b) j o) → m7 32 0 (8 + 8 * i + o) = nI ((if i < j + 1 then fdR (aDay b + 1) (rowD (aC b) i) else rowD (aC b) i) o) := fun m7 i o e z => by
          rw [e]
          by_cases hij : i = j
          · rw [if_neg (by omega), if_pos (by omega), hij, z hij]
          · by_cases hj2 : i < j
            · rw [if_pos hj2, if_pos (by omega)]
            · rw [if_neg hj2, if_neg (by omega)]
        refine ⟨decide_eq_true (nI_ne0 (by omega) (by omega)), pk_le ((aDay b + 1 - rowD (aC b) j 5) % rowD (aC b) j 4) 0 (fun hz => ?_) (fun hz t8 e8 => ?_)⟩
        · have hz2 : (aDay b + 1 - rowD (aC b) j 5) % rowD (aC b) j 4 = 0 := by omega
          have cells : ∀ c, c ≤ 4 → 1 ≤ c → ∀ m7, (∀ o, 1 ≤ o → o < c → m7 32 0 (8 + 8 * j + o) = nI (fdp (rowD (aC b) j o))) → (∀ f i t, ¬ (f = 32 ∧ i = 0 ∧ 8 + 8 * j + 1 ≤ t ∧ t < 8 + 8 * j + c) → m7 f i t = m8 f i t) → Wp X (d + 4) 191 (50, ([some (vp 31 0), some (vi (nI n)), some (vi (nI k)), some (vi (nI j)), some (vi (nI c))], ([], G x m7))) Q := by
            refine lup (fun c hc4 ihc h1 m7 hA7 hB7 => ?_)
            refine vl_X11_passes_50 (pk_lt 3 c (fun h3 t2 e2 => ?_) (fun h3 => ?_))
            · rw [e2, nI_1]
              refine ihj _ m7 (fun i hi o ho6 => ?_) (fun f i t hf => ?_)
              · by_cases hio : i = j ∧ 1 ≤ o ∧ o ≤ 3
                · rw [hio.1, hA7 o hio.2.1 (by omega), if_pos (by omega)]
                  unfold fdR
                  rw [if_pos ⟨hz2, hio.2⟩]
                · refine eR m7 i o ?_ (fun hij => ?_)
                  · rw [hB7 32 0 _ (by omega)]; exact hA i hi o ho6
                  · unfold fdR
                    rw [if_neg (by omega)]
              · rw [hB7 f i t (by omega)]; exact hB8 f i t hf
            · refine sp_crow ⟨_, _, rfl, sp_c (k := j) (o := c) (by omega) (by omega) ⟨_, _, rfl, ?_⟩⟩
              rw [hB7 32 0 _ (by omega), eo c (by omega)]
              refine sp_faded (by
                have : c = 1 ∨ c = 2 ∨ c = 3 := by omega
                rcases this with rfl | rfl | rfl <;> omega) ⟨_, _, rfl, ?_⟩
              rw [nI_add, nI_clamp (n := 8 + 8 * j + c) (by omega)]
              refine ⟨inb_n (8 + 8 * j + c) 136 (by omega), fun m6 e6 t10 e10 => ?_⟩
              rw [e10, nI_1]
              refine ihc (by omega) (by omega) m6 (fun o h1 h2 => ?_) (fun f i t hf => ?_)
              · by_cases hoc : o = c
                · rw [e6, hoc, mup_eq]
                · rw [e6, mup_no (by omega)]; exact hA7 o h1 (by omega)
              · rw [e6, mup_no (by omega)]; exact hB7 f i t (by omega)
          exact cells 1 (by omega) (by omega) m8 (fun o h1 h2 => by omega) (fun f i t _ => rfl)
        · rw [e8, nI_1]
          refine ihj _ m8 (fun i hi o ho6 => eR m8 i o (hA i hi o ho6) (fun hij => ?_)) hB8
          unfold fdR
          rw [if_neg (fun z => by omega)]
    refine rows 0 (by omega) o4 m4 (fun i hi o ho6 => ?_) (fun f i t _ => rfl)
    rw [if_neg (by omega), e4, mup_no (by omega)]
    exact hr.2.1 i hi o ho6
  exact outer 0 (by omega) none none m h Fk.rf
end MDAY
