/-! ===== BRIGHTNESS, MEANS; OUTPUT, TYPING, ERRORS, UNDO, SNAPSHOT ===== -/
def br (r : Row) : Nat := r 1 + r 2 + r 3
def ahead (l : List Row) (k i : Nat) : Bool := decide (br (rowD l k) < br (rowD l i) ∨ (br (rowD l i) = br (rowD l k) ∧ i < k))
def rankB (l : List Row) (k : Nat) : Nat := fa_cnt (ahead l k) l.length
def posB (l : List Row) (p : Int32) : Nat := fa_first (fun k => decide (nI (rankB l k) = p)) l.length
theorem posB_at {l : List Row} {p : Int32} {k : Nat} (hk : k < l.length) (h1 : nI (rankB l k) = p) (h2 : ∀ i, i < k → ¬ nI (rankB l i) = p) : posB l p = k := by
  unfold posB
  have h0 := fa_first_no (fun k => decide (nI (rankB l k) = p)) l.length
  have h3 := fa_first_yes (fun k => decide (nI (rankB l k) = p)) l.length
  generalize fa_first (fun k => decide (nI (rankB l k) = p)) l.length = q at h0 h3 ⊢
  rcases Nat.lt_trichotomy q k with h | h | h
  · exact absurd (of_decide_eq_true (h3 (by omega))) (h2 q h)
  · exact h
  · exact absurd h1 (of_decide_eq_false (h0 k h))
theorem posB_no {l : List Row} {p : Int32} (h : ∀ i, i < l.length → ¬ nI (rankB l i) = p) : posB l p = l.length := by
  have h1 : posB l p ≤ l.length := fa_first_le _ _
  unfold posB at h1 ⊢
  have h3 := fa_first_yes (fun k => decide (nI (rankB l k) = p)) l.length
  generalize fa_first (fun k => decide (nI (rankB l k) = p)) l.length = q at h1 h3 ⊢
  rcases Nat.lt_or_ge q l.length with h2 | h2
  · exact absurd (of_decide_eq_true (h3 h2)) (h q h2)
  · omega
theorem okA.br {B k : Nat} {a : AS} (ho : okA B a) (hk : k < (aC a).length) : br (rowD (aC a) k) ≤ 297 := by
  have hr := (ho.c hk).1
  unfold okC at hr
  show rowD (aC a) k 1 + rowD (aC a) k 2 + rowD (aC a) k 3 ≤ 297
  omega
def whyBr (l : List Row) (p : Int32) : Nat := if posB l p < l.length then 0 else 1
def sumB (l : List Row) (n : Nat) : Nat := fb_sm (fun k => br (rowD l k)) n
theorem sumB_le {B : Nat} {a : AS} (ho : okA B a) : ∀ n, n ≤ (aC a).length → sumB (aC a) n ≤ 297 * n
  | 0, _ => by show 0 ≤ _; omega
  | n + 1, h => by
    have h1 := sumB_le ho n (by omega)
    have h2 := ho.br (k := n) (by omega)
    show sumB (aC a) n + br (rowD (aC a) n) ≤ _
    omega
section MISC
variable {X : MX} {d : Nat} {x : Int64 × UInt64} {m : MI} {Q : MRes → Prop} {B : Nat} {o : OS} {a : AS}
theorem sp_br {k : Nat} (h : relS m 0 a) (ho : okA B a) (hk : k < (aC a).length) (hQ : Q (.inl (some (vi (nI (br (rowD (aC a) k))))), G x m)) : Cl X d 81 [vp 1 0, vi (nI k)] (G x m) Q := by
  have hl := ho.len
  refine vc_X7_brightnessAt ?_
  rw [nI_clamp (n := k) (by omega), h.1.2.2 k hk 1 (by omega), h.1.2.2 k hk 2 (by omega), h.1.2.2 k hk 3 (by omega), nI_add, nI_add]
  exact ⟨inb_n k 10 (by omega), hQ⟩
theorem sp_rank {k : Nat} (h : relS m 0 a) (ho : okA B a) (hk : k < (aC a).length) (hQ : Q (.inl (some (vi (nI (rankB (aC a) k)))), G x m)) : Cl X (d + 1) 84 [vp 1 0, vi (nI k)] (G x m) Q := by
  have hl := ho.len
  refine vc_X7_brightnessRankAt (sp_br h ho hk ⟨_, _, rfl, ?_⟩)
  have key : ∀ i, i ≤ (aC a).length → ∀ o5, Wp X (d + 1) 84 (11, ([some (vp 1 0), some (vi (nI k)), some (vi (nI (fa_cnt (ahead (aC a) k) i))), some (vi (nI (br (rowD (aC a) k)))), some (vi (nI i)), o5], ([], G x m))) Q := by
    refine lup (fun i hi ih o5 => ?_)
    refine vl_X7_brightnessRankAt_11 ?_
    rw [h.1.1]
    refine pk_le (aC a).length i (fun hc => ?_) (fun hc => sp_br h ho hc ⟨_, _, rfl, ?_⟩)
    · obtain rfl : i = (aC a).length := by omega
      exact hQ
    · have b1 := ho.br hc
      have b2 := ho.br hk
      have ih := fun o5 => ih hc o5
      refine pk_lt (br (rowD (aC a) k)) (br (rowD (aC a) i)) (fun c t5 e5 t6 e6 => ?_) (fun c => pk_eqn (fun c2 => pk_le k i (fun c3 t10 e10 => ?_) (fun c3 t11 e11 t12 e12 => ?_)) (fun c2 t8 e8 => ?_) (by omega) (by omega))
      · rw [e5, e6, nI_1, nI_1]
        rw [fa_cnt_yes (p := ahead (aC a) k) (decide_eq_true (Or.inl c))] at ih
        exact ih _
      · rw [e10, nI_1]
        rw [fa_cnt_no (p := ahead (aC a) k) (decide_eq_false (by omega))] at ih
        exact ih _
      · rw [e11, e12, nI_1, nI_1]
        rw [fa_cnt_yes (p := ahead (aC a) k) (decide_eq_true (Or.inr ⟨c2, c3⟩))] at ih
        exact ih _
      · rw [e8, nI_1]
        rw [fa_cnt_no (p := ahead (aC a) k) (decide_eq_false (by omega))] at ih
        exact ih _
  exact key 0 (by omega) none
theorem sp_posB {p : Int32} (h : relS m 0 a) (ho : okA B a) (hQ : Q (.inl (some (vi (if posB (aC a) p < (aC a).length then nI (posB (aC a) p) else -1))), G x m)) : Cl X (d + 2) 83 [vp 1 0, vi p] (G x m) Q := by
  have hl := ho.len
  refine vc_X7_positionByBrightness ?_
  have key : ∀ k, k ≤ (aC a).length → (∀ i, i < k → ¬ nI (rankB (aC a) i) = p) → Wp X (d + 2) 83 (2, ([some (vp 1 0), some (vi p), some (vi (nI k))], ([], G x m))) Q := by
    refine lup (fun k hk ih hno => ?_)
    refine vl_X7_positionByBrightness_2 ?_
    rw [h.1.1]
    refine pk_le (aC a).length k (fun hc => ?_) (fun hc => sp_rank h ho hc ⟨_, _, rfl, fun c t5 e5 => ?_, fun c => ?_⟩)
    · rw [posB_no (fun i hi => hno i (by omega)), if_neg (Nat.lt_irrefl _)] at hQ
      exact hQ
    · rw [e5, nI_1]
      refine ih hc (fun i hi => ?_)
      rcases Nat.lt_succ_iff_lt_or_eq.mp hi with h9 | h9
      · exact hno i h9
      · rw [h9]; exact c
    · rw [posB_at hc (Decidable.not_not.mp c) hno, if_pos hc] at hQ
      exact hQ
  exact key 0 (by omega) (fun i hi => by omega)
theorem cw_colourByBrightness {p : Int32} (h : CoR m o) (ok : okO B o) (hQ : cq m (whyBr (aC (oA o)) p) (nI (rowD (aC (oA o)) (posB (aC (oA o)) p) 0)) Q x) : Cl X (d + 4) 294 [vp 0 0, vi p, vp 43 0] (G x m) Q := by
  have hl := ok.1.len
  unfold cq whyBr at hQ
  refine vc_L_colourByBrightness (vc_X10_colourByBrightness (sp_posB h.1 ok.1 ⟨_, _, rfl, ?_⟩))
  by_cases hc : posB (aC (oA o)) p < (aC (oA o)).length
  · rw [if_pos hc, nI_clamp (n := posB (aC (oA o)) p) (by omega), h.1.1.2.2 _ hc 0 (by omega)]
    exact ⟨fun _ => ⟨inb_n (posB (aC (oA o)) p) 10 (by omega), Or.inl ⟨_, _, rfl, hQ.1 (if_pos hc) m FQ.rf⟩⟩, fun c => absurd (nI_pos' (by omega)) c⟩
  · rw [if_neg hc]
    exact ⟨fun c => absurd c (by decide), fun _ => Or.inr ⟨_, _, _, rfl, fun _ => hQ.2 1 (by omega) (if_neg hc) m FQ.rf, fun c => absurd rfl c⟩⟩
theorem sp_mbr {k : Nat} (h : relR (m 32 0) a) (ho : okA B a) (hk : k < (aC a).length) (hQ : Q (.inl (some (vi (nI (br (rowD (aC a) k))))), G x m)) : Cl X (d + 2) 206 [vp 31 0, vi (nI k)] (G x m) Q := by
  have hl := ho.len
  refine vc_X11_brightness (sp_c (k := k) (o := 1) (by omega) (by omega) ⟨_, _, rfl, sp_c (k := k) (o := 2) (by omega) (by omega) ⟨_, _, rfl, sp_c (k := k) (o := 3) (by omega) (by omega) ⟨_, _, rfl, ?_⟩⟩⟩)
  rw [h.2.1 k hk 1 (by omega), h.2.1 k hk 2 (by omega), h.2.1 k hk 3 (by omega), nI_add, nI_add]
  exact hQ
theorem mw_colourByBrightness {p : Int32} (h : MoR m o) (ok : okO B o) (hQ : mq m o (whyBr (aC (oA o)) p) (nI (rowD (aC (oA o)) (posB (aC (oA o)) p) 0)) Q x) : Cl X (d + 4) 207 [vp 31 0, vi p] (G x m) Q := by
  have hl := ok.1.len
  unfold mq whyBr at hQ
  refine vc_X11_colourByBrightness (fun m1 e1 => ?_)
  obtain ⟨h1, F1⟩ := th_on h (m9 := m1) (by rw [e1]; exact Fk.up ⟨rfl, rfl⟩)
  have e5 : m1 31 0 5 = 0 := by rw [e1, mup_eq]
  have key : ∀ k, k ≤ (aC (oA o)).length → (∀ i, i < k → ¬ nI (rankB (aC (oA o)) i) = p) → ∀ o3 o4, Wp X (d + 4) 207 (7, ([some (vp 31 0), some (vi p), some (vi (nI k)), o3, o4], ([], G x m1))) Q := by
    refine lup (fun k hk ih hno o3 o4 => ?_)
    refine vl_X11_colourByBrightness_7 ?_
    rw [h1.1.1.1]
    refine pk_le (aC (oA o)).length k (fun hc => ?_) (fun hc => ?_)
    · have e := posB_no (fun i hi => hno i (by omega))
      rw [if_neg (by omega)] at hQ
      refine sp_fail (fun m9 h95 hF => ⟨_, _, rfl, ?_⟩)
      obtain ⟨h9, F9⟩ := th_on h1 hF
      exact hQ m9 _ h95 (fun c => by omega) h9 (F1.tr F9)
    · have inner : ∀ i, i ≤ (aC (oA o)).length → Wp X (d + 4) 207 (22, ([some (vp 31 0), some (vi p), some (vi (nI k)), some (vi (nI (fa_cnt (ahead (aC (oA o)) k) i))), some (vi (nI i))], ([], G x m1))) Q := by
        refine lup (fun i hi ihi => ?_)
        refine vl_X11_colourByBrightness_22 ?_
        rw [h1.1.1.1]
        refine pk_le (aC (oA o)).length i (fun hc2 => ?_) (fun hc2 => ?_)
        · obtain rfl : i = (aC (oA o)).length := by omega
          refine ⟨fun c t3 e3 => ?_, fun c => ?_⟩
          · rw [e3, nI_1]
            refine ih hc (fun i hi => ?_) _ _
            rcases Nat.lt_succ_iff_lt_or_eq.mp hi with h9 | h9
            · exact hno i h9
            · rw [h9]; exact c
          · have e := posB_at hc (Decidable.not_not.mp c) hno
            rw [e, if_pos hc] at hQ
            exact sp_c (k := k) (o := 0) (by omega) (by omega) ⟨_, _, rfl, hQ m1 _ e5 (fun _ => h1.1.2.1 k hc 0 (by omega)) h1 F1⟩
        · have b1 := ok.1.br hc
          have b2 := ok.1.br hc2
          have ihi := ihi hc2
          refine sp_mbr h1.1 ok.1 hc2 ⟨_, _, rfl, sp_mbr h1.1 ok.1 hc ⟨_, _, rfl, ?_⟩⟩
          refine pk_lt (br (rowD (aC (oA o)) k)) (br (rowD (aC (oA o)) i)) (fun c t11 e11 t12 e12 => ?_) (fun c => ?_)
          · rw [e11, e12, nI_1, nI_1]
            rw [fa_cnt_yes (p := ahead (aC (oA o)) k) (decide_eq_true (Or.inl c))] at ihi
            exact ihi
          · refine sp_mbr h1.1 ok.1 hc2 ⟨_, _, rfl, sp_mbr h1.1 ok.1 hc ⟨_, _, rfl, ?_⟩⟩
            refine pk_eqn (fun c2 => pk_le k i (fun c3 t21 e21 t22 e22 => ?_) (fun c3 t23 e23 t24 e24 => ?_)) (fun c2 t18 e18 t19 e19 => ?_) (by omega) (by omega)
            · rw [e21, e22, nI_1, Int32.add_zero]
              rw [fa_cnt_no (p := ahead (aC (oA o)) k) (decide_eq_false (by omega))] at ihi
              exact ihi
            · rw [e23, e24, nI_1, nI_1]
              rw [fa_cnt_yes (p := ahead (aC (oA o)) k) (decide_eq_true (Or.inr ⟨c2, c3⟩))] at ihi
              exact ihi
            · rw [e18, e19, nI_1, Int32.add_zero]
              rw [fa_cnt_no (p := ahead (aC (oA o)) k) (decide_eq_false (by omega))] at ihi
              exact ihi
      exact inner 0 (by omega)
  exact key 0 (by omega) (fun i hi => by omega) _ _
/-- means -/
def meanD (a : AS) : UInt64 := FP.ddiv (FP.i2d (nI (sumB (aC a) (aC a).length))) (FP.i2d (nI (3 * (aC a).length)))
def shareF (a : AS) : UInt32 := FP.fdiv (FP.i2f (nI (greyN (aC a)))) (FP.i2f (nI (aC a).length))
def why0 (a : AS) : Nat := if 0 < (aC a).length then 0 else 1
theorem sp_sumB (h : relS m 0 a) (ho : okA B a) (hQ : Q (.inl (some (vi (nI (sumB (aC a) (aC a).length)))), G x m)) : Cl X (d + 1) 82 [vp 1 0] (G x m) Q := by
  have hl := ho.len
  refine vc_X7_brightnessSum ?_
  have key : ∀ k, k ≤ (aC a).length → Wp X (d + 1) 82 (4, ([some (vp 1 0), some (vi (nI (sumB (aC a) k))), some (vi (nI k))], ([], G x m))) Q := by
    refine lup (fun k hk ih => ?_)
    refine vl_X7_brightnessSum_4 ?_
    rw [h.1.1]
    refine pk_le (aC a).length k (fun hc => ?_) (fun hc => sp_br h ho hc ⟨_, _, rfl, fun t4 e4 t5 e5 => ?_⟩)
    · obtain rfl : k = (aC a).length := by omega
      exact hQ
    · rw [e4, e5, nI_1, nI_add]
      exact ih hc
  exact key 0 (by omega)
theorem cw_mean (h : CoR m o) (ok : okO B o) (h0 : why0 (oA o) = 0 → Q (.inl (some (vi 0)), G (x.1, meanD (oA o)) m)) (h1 : why0 (oA o) = 1 → Q (.inl (some (vi 1)), Gu (1, 6) x m)) : Cl X (d + 3) 310 [vp 0 0, vp 44 0] (G x m) Q := by
  have hl := ok.1.len
  unfold why0 at h0 h1
  refine vc_L_meanBrightness (vc_X10_meanBrightness ?_)
  rw [h.1.1.1]
  refine pk_eqn (b := 0) (fun c => Or.inr ⟨_, _, _, rfl, fun _ => h1 (if_neg (by omega)), fun c => absurd rfl c⟩) (fun c => ?_) (by omega) (by omega)
  refine sp_sumB h.1 ok.1 ⟨_, _, rfl, ?_⟩
  have e3 : (3 : Int32) * nI (aC (oA o)).length = nI (3 * (aC (oA o)).length) := pk_mul 3 _
  have hs := sumB_le ok.1 _ (Nat.le_refl _)
  rw [h.1.1.1, e3]
  exact ⟨dm_ok (by omega) (by omega) (by omega), Or.inl ⟨_, _, rfl, h0 (if_pos (by omega))⟩⟩
theorem mw_mean (h : MoR m o) (ok : okO B o) (hQ : ∀ m9 v, m9 31 0 5 = nI (why0 (oA o)) → (why0 (oA o) = 0 → v = meanD (oA o)) → MoR m9 o → FM m m9 → Q (.inl (some (vx (.double v))), G x m9)) : Cl X (d + 3) 247 [vp 31 0] (G x m) Q := by
  have hl := ok.1.len
  unfold why0 at hQ
  refine vc_X11_meanBrightness ?_
  rw [h.1.1.1]
  refine pk_le (aC (oA o)).length 0 (fun c => ?_) (fun c => ?_)
  · rw [if_neg (by omega)] at hQ
    exact mchk0 h (fun m3 h3 e5 F3 => ⟨_, _, rfl, fun c => absurd c (by decide), fun _ => hQ m3 _ e5 (fun c => by omega) h3 F3⟩)
  · rw [if_pos c] at hQ
    refine mchk1 h (fun m3 h3 e5 F3 => ⟨_, _, rfl, fun _ => ?_, fun c => absurd (by decide) c⟩)
    have key : ∀ k, k ≤ (aC (oA o)).length → Wp X (d + 3) 247 (27, ([some (vp 31 0), some (vi (nI (sumB (aC (oA o)) k))), some (vi (nI k))], ([], G x m3))) Q := by
      refine lup (fun k hk ih => ?_)
      refine vl_X11_meanBrightness_27 ?_
      have e3 : (3 : Int32) * nI (aC (oA o)).length = nI (3 * (aC (oA o)).length) := pk_mul 3 _
      rw [h3.1.1.1, e3]
      refine pk_le (aC (oA o)).length k (fun hc => ?_) (fun hc => sp_mbr h3.1 ok.1 hc ⟨_, _, rfl, fun t4 e4 t5 e5 => ?_⟩)
      · obtain rfl : k = (aC (oA o)).length := by omega
        have hs := sumB_le ok.1 _ (Nat.le_refl _)
        exact ⟨dm_ok (by omega) (by omega) (by omega), hQ m3 _ e5 (fun _ => rfl) h3 F3⟩
      · rw [e4, e5, nI_1, nI_add]
        exact ih hc
    exact key 0 (by omega)
theorem greyN_le (l : List Row) : greyN l ≤ l.length := fa_cnt_le _ _
theorem cw_share (h : CoR m o) (ok : okO B o) (h0 : why0 (oA o) = 0 → Q (.inl (some (vi 0)), G (x.1, FP.f2d (shareF (oA o))) m)) (h1 : why0 (oA o) = 1 → Q (.inl (some (vi 1)), Gu (1, 6) x m)) : Cl X (d + 3) 311 [vp 0 0, vp 44 0] (G x m) Q := by
  have hl := ok.1.len
  unfold why0 at h0 h1
  refine vc_L_greyShare (vc_X10_greyShare ?_)
  rw [h.1.1.1]
  refine pk_eqn (b := 0) (fun c => Or.inr ⟨_, _, _, rfl, fun _ => h1 (if_neg (by omega)), fun c => absurd rfl c⟩) (fun c => ?_) (by omega) (by omega)
  refine sp_greyN h.1 ok.1 ⟨_, _, rfl, ?_⟩
  have hg := greyN_le (aC (oA o))
  rw [h.1.1.1]
  have e := fm_ok (s := greyN (aC (oA o))) (c := (aC (oA o)).length) (by omega) (by omega) (by omega)
  exact ⟨e.1, Or.inl ⟨_, _, rfl, e.2, h0 (if_pos (by omega))⟩⟩
theorem mw_share (h : MoR m o) (ok : okO B o) (hQ : ∀ m9 v, m9 31 0 5 = nI (why0 (oA o)) → (why0 (oA o) = 0 → v = shareF (oA o)) → MoR m9 o → FM m m9 → Q (.inl (some (vx (.float v))), G x m9)) : Cl X (d + 4) 248 [vp 31 0] (G x m) Q := by
  have hl := ok.1.len
  unfold why0 at hQ
  refine vc_X11_greyShare ?_
  rw [h.1.1.1]
  refine pk_le (aC (oA o)).length 0 (fun c => ?_) (fun c => ?_)
  · rw [if_neg (by omega)] at hQ
    exact mchk0 h (fun m3 h3 e5 F3 => ⟨_, _, rfl, fun c => absurd c (by decide), fun _ => hQ m3 _ e5 (fun c => by omega) h3 F3⟩)
  · rw [if_pos c] at hQ
    refine mchk1 h (fun m3 h3 e5 F3 => ⟨_, _, rfl, fun _ => ?_, fun c => absurd (by decide) c⟩)
    refine sp_mgreys h3.1 ok.1 ⟨_, _, rfl, ?_⟩
    have hg := greyN_le (aC (oA o))
    rw [h3.1.1.1]
    have e := fm_ok (s := greyN (aC (oA o))) (c := (aC (oA o)).length) (by omega) (by omega) (by omega)
    exact ⟨e.1, hQ m3 _ e5 (fun _ => rfl) h3 F3⟩
/-- output -/
theorem chr_ok {n : Nat} (h : n ≤ 126) : okT 3 (nI n) = true := by
  have e : okT 3 (nI n) = decide (0 ≤ nI n ∧ nI n ≤ 65535) := rfl
  rw [e]
  exact decide_eq_true ⟨nI_pos' (by omega), nI_le (b := 65535) (by omega) (by omega)⟩
theorem chr_c {n : Nat} (h : n ≤ 126) : ((nI n).toUInt32 % 65536).toInt32 = nI n := by
  rw [pk_char, pk_tn (by omega), Nat.mod_eq_of_lt (by omega)]
theorem getD_mem {l : List Nat} {k : Nat} (h : k < l.length) : l.getD k 0 ∈ l := by
  rw [List.getD_eq_getElem?_getD, List.getElem?_eq_getElem h]
  exact List.getElem_mem h
theorem mw_outputAt {p : Int32} (h : MoR m o) (ok : okO B o) (hQ : mq m o (whyP p (oT o).length) (nI ((oT o).getD (clN p) 0)) Q x) : Cl X (d + 2) 255 [vp 31 0, vi p] (G x m) Q := by
  have hl := ok.2.2.2.2.1
  refine vc_X11_outputAt ?_
  rw [h.2.2.2.2.1.1]
  unfold mq at hQ
  refine sp_in0 (by omega) (fun k hk e => ⟨_, _, rfl, mchk1 h (fun m3 h3 e5 F3 => ⟨_, _, rfl, fun _ => ?_, fun c => absurd (by decide) c⟩)⟩) (fun c => ⟨_, _, rfl, mchk0 h (fun m3 h3 e5 F3 => ⟨_, _, rfl, fun c => absurd c (by decide), fun _ => ?_⟩)⟩)
  · obtain ⟨e1, e2⟩ := whyP_0 hk (by omega) e
    rw [e1, e2] at hQ
    have hb := hl.2 _ (getD_mem hk)
    rw [e, nI_clamp (n := k) (by omega), h3.2.2.2.2.1.2 k hk, chr_c hb]
    exact ⟨inb_n k 80 (by omega), chr_ok hb, hQ m3 _ e5 (fun _ => rfl) h3 F3⟩
  · have e1 : whyP p (oT o).length = 1 := if_pos c
    rw [e1] at hQ
    exact hQ m3 _ e5 (fun c => by omega) h3 F3
theorem cw_outputAt {p : Int32} (h : CoR m o) (ok : okO B o) (hQ : cq m (whyP p (oT o).length) (nI ((oT o).getD (clN p) 0)) Q x) : Cl X (d + 1) 314 [vp 0 0, vi p, vp 43 0] (G x m) Q := by
  have hl := ok.2.2.2.2.1
  unfold cq at hQ
  have hx : ∀ c : p < 0 ∨ nI (oT o).length ≤ p, (4 = 4 → Q (.inl (some (vi 1)), Gu (1, 6) x m)) ∧ (¬ 4 = 4 → Q (.inr 4, Gu (1, 6) x m)) := fun c => ⟨fun _ => hQ.2 1 (by omega) (if_pos c) m FQ.rf, fun c => absurd rfl c⟩
  refine vc_L_outputAt (vc_X10_outputAt ⟨fun c => Or.inr ⟨_, _, _, rfl, hx (Or.inl c)⟩, fun c => ?_⟩)
  rw [h.2.2.2.2.1.1]
  rcases pk_ix p (n := (oT o).length) (by omega) with h9 | h9 | ⟨k, hk, e⟩
  · exact absurd h9 c
  · exact ⟨fun c2 => absurd c2 (Int32.not_lt.mpr h9), fun _ => Or.inr ⟨_, _, _, rfl, hx (Or.inr h9)⟩⟩
  · obtain ⟨e1, e2⟩ := whyP_0 hk (by omega) e
    rw [e2] at hQ
    have hb := hl.2 _ (getD_mem hk)
    rw [e, nI_clamp (n := k) (by omega), h.2.2.2.2.1.2 k hk]
    exact ⟨fun _ => ⟨inb_n k 64 (by omega), chr_ok hb, Or.inl ⟨_, _, rfl, hQ.1 e1 m FQ.rf⟩⟩, fun c2 => absurd (nI_lt hk (by omega)) c2⟩
/-- errors -/
def whyN (p : Int32) : Nat := if p < 0 then 1 else 0
theorem mpres {p : Int32} (h : MoR m o) (hQ : mq m o (whyN p) p Q x) : Cl X (d + 1) 272 [vp 31 0, vi p] (G x m) Q := by
  unfold mq whyN at hQ
  refine vc_X11_present ⟨fun c => ?_, fun c => ?_⟩
  · rw [if_pos c] at hQ
    exact mchk0 h (fun m3 h3 e5 F3 => ⟨_, _, rfl, fun c => absurd c (by decide), fun _ => hQ m3 _ e5 (fun c => by omega) h3 F3⟩)
  · rw [if_neg c] at hQ
    exact mchk1 h (fun m3 h3 e5 F3 => ⟨_, _, rfl, fun _ => hQ m3 _ e5 (fun _ => rfl) h3 F3, fun c => absurd (by decide) c⟩)
theorem mw_errorPosition (h : MoR m o) (hQ : mq m o (whyN (oW o)) (oW o) Q x) : Cl X (d + 2) 273 [vp 31 0] (G x m) Q := by
  refine vc_X11_errorPosition ?_
  rw [h.2.2.2.2.2.1]
  exact mpres h (fun m9 v h1 h2 h3 h4 => ⟨_, _, rfl, hQ m9 v h1 h2 h3 h4⟩)
theorem mw_failedCommand (h : MoR m o) (hQ : mq m o (whyN (oF o)) (oF o) Q x) : Cl X (d + 2) 274 [vp 31 0] (G x m) Q := by
  refine vc_X11_failedCommand ?_
  rw [h.2.2.2.2.2.2.1]
  exact mpres h (fun m9 v h1 h2 h3 h4 => ⟨_, _, rfl, hQ m9 v h1 h2 h3 h4⟩)
theorem cw_errorPosition (h : CoR m o) (hQ : cq m (whyN (oW o)) (oW o) Q x) : Cl X (d + 1) 317 [vp 0 0, vp 43 0] (G x m) Q := by
  unfold cq whyN at hQ
  refine vc_L_errorPosition (vc_X10_errorPosition ?_)
  rw [h.2.2.2.2.2.1]
  exact ⟨fun c => Or.inl ⟨_, _, rfl, hQ.1 (if_neg (Int32.not_lt.mpr c)) m FQ.rf⟩, fun c => Or.inr ⟨_, _, _, rfl, fun _ => hQ.2 1 (by omega) (if_pos (Int32.not_le.mp c)) m FQ.rf, fun c => absurd rfl c⟩⟩
theorem cw_failedCommand (h : CoR m o) (hQ : cq m (whyN (oF o)) (oF o) Q x) : Cl X (d + 1) 318 [vp 0 0, vp 43 0] (G x m) Q := by
  unfold cq whyN at hQ
  refine vc_L_failedCommand (vc_X10_failedCommand ?_)
  rw [h.2.2.2.2.2.2.1]
  exact ⟨fun c => Or.inl ⟨_, _, rfl, hQ.1 (if_neg (Int32.not_lt.mpr c)) m FQ.rf⟩, fun c => Or.inr ⟨_, _, _, rfl, fun _ => hQ.2 1 (by omega) (if_pos (Int32.not_le.mp c)) m FQ.rf, fun c => absurd rfl c⟩⟩
theorem cw_failureKind (h : CoR m o) (ok : okO B o) (hQ : cq m (whyN (oF o)) (oK o) Q x) : Cl X (d + 1) 319 [vp 0 0, vp 43 0] (G x m) Q := by
  unfold cq whyN at hQ
  refine vc_L_failureKind (vc_X10_failureKind ?_)
  rw [h.2.2.2.2.2.2.1, h.2.2.2.2.2.2.2]
  refine ⟨fun c => ⟨?_, Or.inl ⟨_, _, rfl, hQ.1 (if_neg (Int32.not_lt.mpr c)) m FQ.rf⟩⟩, fun c => Or.inr ⟨_, _, _, rfl, fun _ => hQ.2 1 (by omega) (if_pos (Int32.not_le.mp c)) m FQ.rf, fun c => absurd rfl c⟩⟩
  rcases ok.2.2.2.2.2 with ⟨c2, _⟩ | ⟨_, k, k1, k2, e⟩
  · exact absurd c2 (Int32.not_lt.mpr c)
  · rw [e]; exact chr_ok k2
theorem mw_failureKind (h : MoR m o) (ok : okO B o) (hQ : mq m o (whyN (oF o)) (oK o) Q x) : Cl X (d + 2) 275 [vp 31 0] (G x m) Q := by
  unfold mq whyN at hQ
  refine vc_X11_failureKind ?_
  have e9 := h.2.2.2.2.2.2.2
  rcases ok.2.2.2.2.2 with ⟨c, _⟩ | ⟨c, k, k1, k2, e⟩
  · rw [if_pos c] at hQ e9
    rw [e9]
    refine ⟨fun _ => mchk0 h (fun m3 h3 e5 F3 => ⟨_, _, rfl, fun c => absurd c (by decide), fun _ => hQ m3 _ e5 (fun c => by omega) h3 F3⟩), fun c => absurd (by decide) c⟩
  · have c2 : ¬ oF o < 0 := Int32.not_lt.mpr c
    rw [if_neg c2] at hQ e9
    rw [e9, e]
    refine pk_le k 0 (fun c3 => by omega) (fun _ => mchk1 h (fun m3 h3 e5 F3 => ⟨_, _, rfl, fun _ => ?_, fun c => absurd (by decide) c⟩))
    have e99 := h3.2.2.2.2.2.2.2
    rw [if_neg c2, e] at e99
    rw [e99, chr_c k2]
    rw [e] at hQ
    exact ⟨chr_ok k2, hQ m3 _ e5 (fun _ => rfl) h3 F3⟩
end MISC
