/-! ===== QUESTIONS: BOTH SIDES AS THE LAW CALLS THEM (wip/whole/gen_q.py) ===== -/
def FQ (m m9 : MI) : Prop := ∀ f i k, (kC f i k ∨ 31 ≤ f) → m9 f i k = m f i k
theorem FQ.rf {m : MI} : FQ m m := fun _ _ _ _ => rfl
theorem FQ.tr {a b c : MI} (h : FQ a b) (k : FQ b c) : FQ a c := fun f i j hn => (k f i j hn).trans (h f i j hn)
def cq (m : MI) (why : Nat) (ans : Int32) (Q : MRes → Prop) (x : Int64 × UInt64) : Prop := (why = 0 → ∀ m9, FQ m m9 → Q (.inl (some (vi 0)), G (ans.toInt64, x.2) m9)) ∧ ∀ k, k ≠ 0 → why = k → ∀ m9, FQ m m9 → Q (.inl (some (vi (nI k))), Gu (1, 6) x m9)
def mq (m : MI) (o : OS) (why : Nat) (ans : Int32) (Q : MRes → Prop) (x : Int64 × UInt64) : Prop := ∀ m9 v, m9 31 0 5 = nI why → (why = 0 → v = ans) → MoR m9 o → FM m m9 → Q (.inl (some (vi v)), G x m9)
/-- a question that never throws -/
def cn (m : MI) (ans : Int32) (Q : MRes → Prop) (x : Int64 × UInt64) : Prop := ∀ m9, FQ m m9 → Q (.inl (some (vi ans)), G x m9)
def mn (m : MI) (o : OS) (ans : Int32) (Q : MRes → Prop) (x : Int64 × UInt64) : Prop := ∀ m9, MoR m9 o → FM m m9 → Q (.inl (some (vi ans)), G x m9)
section QUE
variable {X : MX} {d : Nat} {x : Int64 × UInt64} {m : MI} {Q : MRes → Prop} {B : Nat} {o : OS}
theorem th_on {m9 : MI} (h : MoR m o) (hF : Fk tTh m m9) : MoR m9 o ∧ FM m m9 :=
  ⟨h.on (fun f i k hk => hF f i k (by unfold kM at hk; unfold tTh; omega)), hF.fm (fun f i k t => by unfold tTh at t; omega)⟩
theorem mchk1 (h : MoR m o) (hQ : ∀ m9, MoR m9 o → m9 31 0 5 = 0 → FM m m9 → Q (.inl (some (vi 0)), G x m9)) : Cl X d 196 [vp 31 0, vi 1] (G x m) Q := by
  refine vc_X11_checked ⟨fun c => absurd c (by decide), fun _ m3 e3 => ?_⟩
  have e5 : m3 31 0 5 = 0 := by rw [e3, mup_eq]
  obtain ⟨h1, h2⟩ := th_on h (m9 := m3) (by rw [e3]; exact Fk.up ⟨rfl, rfl⟩)
  rw [e5]
  exact hQ m3 h1 e5 h2
theorem mchk0 (h : MoR m o) (hQ : ∀ m9, MoR m9 o → m9 31 0 5 = 1 → FM m m9 → Q (.inl (some (vi 1)), G x m9)) : Cl X d 196 [vp 31 0, vi 0] (G x m) Q := by
  refine vc_X11_checked ⟨fun _ m3 e3 => ?_, fun c => absurd rfl c⟩
  have e5 : m3 31 0 5 = 1 := by rw [e3, mup_eq]
  obtain ⟨h1, h2⟩ := th_on h (m9 := m3) (by rw [e3]; exact Fk.up ⟨rfl, rfl⟩)
  rw [e5]
  exact hQ m3 h1 e5 h2
theorem mplain {p : Int32} (h : MoR m o) (hQ : ∀ m9, MoR m9 o → m9 31 0 5 = 0 → FM m m9 → Q (.inl (some (vi p)), G x m9)) : Cl X d 195 [vp 31 0, vi p] (G x m) Q := by
  refine vc_X11_plain (fun m3 e3 => ?_)
  obtain ⟨h1, h2⟩ := th_on h (m9 := m3) (by rw [e3]; exact Fk.up ⟨rfl, rfl⟩)
  exact hQ m3 h1 (by rw [e3, mup_eq]) h2
/-- a column of a row that an id names -/
theorem mw_ofC {p : Int32} {c : Nat} (hc : c < 6) (h : MoR m o) (ok : okO B o) (hQ : mq m o (whyC (oA o) p) (nI (rowD (aC (oA o)) (posI (aC (oA o)) p) c)) Q x) : Cl X (d + 4) 199 [vp 31 0, vi p, vi (nI c)] (G x m) Q := by
  have hl := ok.1.len
  refine vc_X11_ofColour (sp_mcol h.1 hl.1 ⟨_, _, rfl, ?_⟩)
  unfold mq whyC at hQ
  refine posV_lt0 (by omega) (fun hp => ?_) (fun hp => ?_)
  · rw [if_neg (by omega)] at hQ
    refine mchk0 h (fun m3 h3 e5 F3 => ⟨_, _, rfl, fun c => absurd c (by decide), fun _ => hQ m3 _ e5 (fun c => by omega) h3 F3⟩)
  · rw [if_pos hp] at hQ
    refine mchk1 h (fun m3 h3 e5 F3 => ⟨_, _, rfl, fun _ => ?_, fun c => absurd (by decide) c⟩)
    refine sp_mcol h3.1 hl.1 ⟨_, _, rfl, ?_⟩
    rw [posV_in hp]
    refine sp_c (k := posI (aC (oA o)) p) (o := c) (by omega) (by omega) ⟨_, _, rfl, ?_⟩
    exact hQ m3 _ e5 (fun _ => h3.1.2.1 _ hp c hc) h3 F3
theorem mw_ofR {p : Int32} {c : Nat} (hc : c < 6) (h : MoR m o) (ok : okO B o) (hQ : mq m o (whyR (oA o) p) (nI (rowD (aR (oA o)) (posI (aR (oA o)) p) c)) Q x) : Cl X (d + 4) 210 [vp 31 0, vi p, vi (nI c)] (G x m) Q := by
  have hl := ok.1.len
  refine vc_X11_ofReport (sp_mrep h.1 hl.2.1 ⟨_, _, rfl, ?_⟩)
  unfold mq whyR at hQ
  refine posV_lt0 (by omega) (fun hp => ?_) (fun hp => ?_)
  · rw [if_neg (by omega)] at hQ
    refine mchk0 h (fun m3 h3 e5 F3 => ⟨_, _, rfl, fun c => absurd c (by decide), fun _ => hQ m3 _ e5 (fun c => by omega) h3 F3⟩)
  · rw [if_pos hp] at hQ
    refine mchk1 h (fun m3 h3 e5 F3 => ⟨_, _, rfl, fun _ => ?_, fun c => absurd (by decide) c⟩)
    refine sp_mrep h3.1 hl.2.1 ⟨_, _, rfl, ?_⟩
    rw [posV_in hp]
    refine sp_r (k := posI (aR (oA o)) p) (o := c) (by omega) (by omega) ⟨_, _, rfl, ?_⟩
    exact hQ m3 _ e5 (fun _ => h3.1.2.2 _ hp c hc) h3 F3
theorem mw_red {p : Int32} (h : MoR m o) (ok : okO B o) (hQ : mq m o (whyC (oA o) p) (nI (rowD (aC (oA o)) (posI (aC (oA o)) p) 1)) Q x) : Cl X (d + 5) 200 [vp 31 0, vi p] (G x m) Q :=
  vc_X11_red (mw_ofC (c := 1) (by omega) h ok (fun m9 v h1 h2 h3 h4 => ⟨_, _, rfl, hQ m9 v h1 h2 h3 h4⟩))
theorem cw_red {p : Int32} (h : CoR m o) (ok : okO B o) (hQ : cq m (whyC (oA o) p) (nI (rowD (aC (oA o)) (posI (aC (oA o)) p) 1)) Q x) : Cl X (d + 3) 288 [vp 0 0, vi p, vp 43 0] (G x m) Q := by
  have hl := ok.1.len
  unfold cq whyC at hQ
  exact vc_L_red (sp_red h.1 hl.1 (fun c => Or.inl ⟨_, _, rfl, hQ.1 (if_pos c) m FQ.rf⟩) (fun c => Or.inr ⟨_, _, _, rfl, fun _ => hQ.2 1 (by omega) (if_neg (by omega)) m FQ.rf, fun c => absurd rfl c⟩))
theorem mw_green {p : Int32} (h : MoR m o) (ok : okO B o) (hQ : mq m o (whyC (oA o) p) (nI (rowD (aC (oA o)) (posI (aC (oA o)) p) 2)) Q x) : Cl X (d + 5) 201 [vp 31 0, vi p] (G x m) Q :=
  vc_X11_green (mw_ofC (c := 2) (by omega) h ok (fun m9 v h1 h2 h3 h4 => ⟨_, _, rfl, hQ m9 v h1 h2 h3 h4⟩))
theorem cw_green {p : Int32} (h : CoR m o) (ok : okO B o) (hQ : cq m (whyC (oA o) p) (nI (rowD (aC (oA o)) (posI (aC (oA o)) p) 2)) Q x) : Cl X (d + 3) 289 [vp 0 0, vi p, vp 43 0] (G x m) Q := by
  have hl := ok.1.len
  unfold cq whyC at hQ
  exact vc_L_green (sp_green h.1 hl.1 (fun c => Or.inl ⟨_, _, rfl, hQ.1 (if_pos c) m FQ.rf⟩) (fun c => Or.inr ⟨_, _, _, rfl, fun _ => hQ.2 1 (by omega) (if_neg (by omega)) m FQ.rf, fun c => absurd rfl c⟩))
theorem mw_blue {p : Int32} (h : MoR m o) (ok : okO B o) (hQ : mq m o (whyC (oA o) p) (nI (rowD (aC (oA o)) (posI (aC (oA o)) p) 3)) Q x) : Cl X (d + 5) 202 [vp 31 0, vi p] (G x m) Q :=
  vc_X11_blue (mw_ofC (c := 3) (by omega) h ok (fun m9 v h1 h2 h3 h4 => ⟨_, _, rfl, hQ m9 v h1 h2 h3 h4⟩))
theorem cw_blue {p : Int32} (h : CoR m o) (ok : okO B o) (hQ : cq m (whyC (oA o) p) (nI (rowD (aC (oA o)) (posI (aC (oA o)) p) 3)) Q x) : Cl X (d + 3) 290 [vp 0 0, vi p, vp 43 0] (G x m) Q := by
  have hl := ok.1.len
  unfold cq whyC at hQ
  exact vc_L_blue (sp_blue h.1 hl.1 (fun c => Or.inl ⟨_, _, rfl, hQ.1 (if_pos c) m FQ.rf⟩) (fun c => Or.inr ⟨_, _, _, rfl, fun _ => hQ.2 1 (by omega) (if_neg (by omega)) m FQ.rf, fun c => absurd rfl c⟩))
theorem mw_fastness {p : Int32} (h : MoR m o) (ok : okO B o) (hQ : mq m o (whyC (oA o) p) (nI (rowD (aC (oA o)) (posI (aC (oA o)) p) 4)) Q x) : Cl X (d + 5) 203 [vp 31 0, vi p] (G x m) Q :=
  vc_X11_fastness (mw_ofC (c := 4) (by omega) h ok (fun m9 v h1 h2 h3 h4 => ⟨_, _, rfl, hQ m9 v h1 h2 h3 h4⟩))
theorem cw_fastness {p : Int32} (h : CoR m o) (ok : okO B o) (hQ : cq m (whyC (oA o) p) (nI (rowD (aC (oA o)) (posI (aC (oA o)) p) 4)) Q x) : Cl X (d + 3) 291 [vp 0 0, vi p, vp 43 0] (G x m) Q := by
  have hl := ok.1.len
  unfold cq whyC at hQ
  exact vc_L_fastness (sp_fastness h.1 hl.1 (fun c => Or.inl ⟨_, _, rfl, hQ.1 (if_pos c) m FQ.rf⟩) (fun c => Or.inr ⟨_, _, _, rfl, fun _ => hQ.2 1 (by omega) (if_neg (by omega)) m FQ.rf, fun c => absurd rfl c⟩))
theorem mw_toleranceOf {p : Int32} (h : MoR m o) (ok : okO B o) (hQ : mq m o (whyR (oA o) p) (nI (rowD (aR (oA o)) (posI (aR (oA o)) p) 4)) Q x) : Cl X (d + 5) 211 [vp 31 0, vi p] (G x m) Q :=
  vc_X11_toleranceOf (mw_ofR (c := 4) (by omega) h ok (fun m9 v h1 h2 h3 h4 => ⟨_, _, rfl, hQ m9 v h1 h2 h3 h4⟩))
theorem cw_toleranceOf {p : Int32} (h : CoR m o) (ok : okO B o) (hQ : cq m (whyR (oA o) p) (nI (rowD (aR (oA o)) (posI (aR (oA o)) p) 4)) Q x) : Cl X (d + 3) 296 [vp 0 0, vi p, vp 43 0] (G x m) Q := by
  have hl := ok.1.len
  unfold cq whyR at hQ
  exact vc_L_toleranceOf (sp_toleranceOf h.1 hl.2.1 (fun c => Or.inl ⟨_, _, rfl, hQ.1 (if_pos c) m FQ.rf⟩) (fun c => Or.inr ⟨_, _, _, rfl, fun _ => hQ.2 1 (by omega) (if_neg (by omega)) m FQ.rf, fun c => absurd rfl c⟩))
theorem mw_rewardOf {p : Int32} (h : MoR m o) (ok : okO B o) (hQ : mq m o (whyR (oA o) p) (nI (rowD (aR (oA o)) (posI (aR (oA o)) p) 5)) Q x) : Cl X (d + 5) 212 [vp 31 0, vi p] (G x m) Q :=
  vc_X11_rewardOf (mw_ofR (c := 5) (by omega) h ok (fun m9 v h1 h2 h3 h4 => ⟨_, _, rfl, hQ m9 v h1 h2 h3 h4⟩))
theorem cw_rewardOf {p : Int32} (h : CoR m o) (ok : okO B o) (hQ : cq m (whyR (oA o) p) (nI (rowD (aR (oA o)) (posI (aR (oA o)) p) 5)) Q x) : Cl X (d + 3) 297 [vp 0 0, vi p, vp 43 0] (G x m) Q := by
  have hl := ok.1.len
  unfold cq whyR at hQ
  exact vc_L_rewardOf (sp_rewardOf h.1 hl.2.1 (fun c => Or.inl ⟨_, _, rfl, hQ.1 (if_pos c) m FQ.rf⟩) (fun c => Or.inr ⟨_, _, _, rfl, fun _ => hQ.2 1 (by omega) (if_neg (by omega)) m FQ.rf, fun c => absurd rfl c⟩))
theorem mw_colourCount (h : MoR m o) (hQ : mn m o (nI (aC (oA o)).length) Q x) : Cl X (d + 1) 197 [vp 31 0] (G x m) Q := by
  refine vc_X11_colourCount ?_
  rw [h.1.1.1]
  exact mplain h (fun m9 h9 _ F9 => ⟨_, _, rfl, hQ m9 h9 F9⟩)
theorem cw_colourCount (h : CoR m o) (hQ : cn m (nI (aC (oA o)).length) Q x) : Cl X d 10 [vp 0 0] (G x m) Q := by
  refine vc_X10_colourCount ?_
  rw [h.1.1.1]
  exact hQ m FQ.rf
theorem mw_reportCount (h : MoR m o) (hQ : mn m o (nI (aR (oA o)).length) Q x) : Cl X (d + 1) 208 [vp 31 0] (G x m) Q := by
  refine vc_X11_reportCount ?_
  rw [h.1.1.2.1]
  exact mplain h (fun m9 h9 _ F9 => ⟨_, _, rfl, hQ m9 h9 F9⟩)
theorem cw_reportCount (h : CoR m o) (hQ : cn m (nI (aR (oA o)).length) Q x) : Cl X d 19 [vp 0 0] (G x m) Q := by
  refine vc_X10_reportCount ?_
  rw [h.1.2.1.1]
  exact hQ m FQ.rf
theorem mw_day (h : MoR m o) (hQ : mn m o (nI (aDay (oA o))) Q x) : Cl X (d + 1) 242 [vp 31 0] (G x m) Q := by
  refine vc_X11_day ?_
  rw [h.1.1.2.2.2.2.1]
  exact mplain h (fun m9 h9 _ F9 => ⟨_, _, rfl, hQ m9 h9 F9⟩)
theorem cw_day (h : CoR m o) (hQ : cn m (nI (aDay (oA o))) Q x) : Cl X d 38 [vp 0 0] (G x m) Q := by
  refine vc_X10_day ?_
  rw [h.1.2.2.1]
  exact hQ m FQ.rf
theorem mw_coins (h : MoR m o) (hQ : mn m o (aCo (oA o)) Q x) : Cl X (d + 1) 244 [vp 31 0] (G x m) Q := by
  refine vc_X11_coins ?_
  rw [h.1.1.2.2.2.2.2.2.1]
  exact mplain h (fun m9 h9 _ F9 => ⟨_, _, rfl, hQ m9 h9 F9⟩)
theorem cw_coins (h : CoR m o) (hQ : cn m (aCo (oA o)) Q x) : Cl X d 40 [vp 0 0] (G x m) Q := by
  refine vc_X10_coins ?_
  rw [h.1.2.2.2.2.1]
  exact hQ m FQ.rf
theorem mw_coinsByAccounts (h : MoR m o) (hQ : mn m o (aCo (oA o)) Q x) : Cl X (d + 1) 245 [vp 31 0] (G x m) Q := by
  refine vc_X11_coinsByAccounts ?_
  rw [h.1.1.2.2.2.2.2.2.1]
  exact mplain h (fun m9 h9 _ F9 => ⟨_, _, rfl, hQ m9 h9 F9⟩)
theorem cw_coinsByAccounts (h : CoR m o) (hQ : cn m (aCo (oA o)) Q x) : Cl X d 41 [vp 0 0] (G x m) Q := by
  refine vc_X10_coinsByAccounts ?_
  rw [h.1.2.2.2.2.2.1]
  exact hQ m FQ.rf
theorem mw_returnedTotal (h : MoR m o) (hQ : mn m o (aRt (oA o)) Q x) : Cl X (d + 1) 246 [vp 31 0] (G x m) Q := by
  refine vc_X11_returnedTotal ?_
  rw [h.1.1.2.2.2.2.2.2.2]
  exact mplain h (fun m9 h9 _ F9 => ⟨_, _, rfl, hQ m9 h9 F9⟩)
theorem cw_returnedTotal (h : CoR m o) (hQ : cn m (aRt (oA o)) Q x) : Cl X d 42 [vp 0 0] (G x m) Q := by
  refine vc_X10_returnedTotal ?_
  rw [h.1.2.2.2.2.2.2]
  exact hQ m FQ.rf
theorem mw_metric (h : MoR m o) (ok : okO B o) (hQ : mn m o (nI (aMet (oA o))) Q x) : Cl X d 243 [vp 31 0] (G x m) Q := by
  refine vc_X11_metric (fun m1 e1 => ?_)
  obtain ⟨h1, h2⟩ := th_on h (m9 := m1) (by rw [e1]; exact Fk.up ⟨rfl, rfl⟩)
  rw [h1.1.1.2.2.2.2.2.1, met_char ok.1.len.2.2]
  exact ⟨okT_met ok.1.len.2.2, hQ m1 h1 h2⟩
theorem cw_metric (h : CoR m o) (ok : okO B o) (hQ : cn m (nI (aMet (oA o))) Q x) : Cl X d 39 [vp 0 0] (G x m) Q := by
  refine vc_X10_metric ?_
  rw [h.1.2.2.2.1]
  exact ⟨okT_met ok.1.len.2.2, hQ m FQ.rf⟩
/-- positions -/
def whyP (p : Int32) (n : Nat) : Nat := if p < 0 ∨ nI n ≤ p then 1 else 0
theorem whyP_0 {p : Int32} {n k : Nat} (hk : k < n) (hn : n < 2 ^ 30) (e : p = nI k) : whyP p n = 0 ∧ clN p = k := by
  rw [e]
  refine ⟨if_neg (fun z => ?_), nI_clamp (by omega)⟩
  rcases z with z | z
  · exact absurd z (nI_pos (by omega))
  · exact absurd z (nI_ge hk (by omega))
theorem sp_in0 {p : Int32} {n : Nat} (hn : n < 2 ^ 30) (h1 : ∀ k, k < n → p = nI k → Q (.inl (some (vi 1)), G x m)) (h0 : (p < 0 ∨ nI n ≤ p) → Q (.inl (some (vi 0)), G x m)) : Cl X d 147 [vi p, vi 0, vi (nI n - 1)] (G x m) Q := by
  refine vc_X11_in ⟨fun c => h0 (Or.inl c), fun c => ?_⟩
  rcases pk_ix p (n := n) (by omega) with h9 | h9 | ⟨k, hk, rfl⟩
  · exact absurd h9 c
  · refine ⟨fun _ => h0 (Or.inr h9), fun c2 => ?_⟩
    exfalso
    apply c2
    have hp : 0 ≤ p := Int32.not_lt.mp c
    by_cases h00 : n = 0
    · subst h00
      exact Int32.lt_of_lt_of_le (show nI 0 - 1 < 0 by decide +kernel) hp
    · have := nI_pred (n - 1)
      rw [show n - 1 + 1 = n by omega] at this
      rw [this]
      exact Int32.lt_of_lt_of_le (nI_lt (show n - 1 < n by omega) (by omega)) h9
  · have := nI_pred (n - 1)
    rw [show n - 1 + 1 = n by omega] at this
    rw [this]
    exact ⟨fun c2 => absurd c2 (nI_nlt (by omega) (by omega)), fun _ => h1 k hk rfl⟩
theorem mw_colourAt {p : Int32} (h : MoR m o) (ok : okO B o) (hQ : mq m o (whyP p (aC (oA o)).length) (nI (rowD (aC (oA o)) (clN p) 0)) Q x) : Cl X (d + 2) 198 [vp 31 0, vi p] (G x m) Q := by
  have hl := ok.1.len
  refine vc_X11_colourAt ?_
  rw [h.1.1.1]
  unfold mq at hQ
  refine sp_in0 (by omega) (fun k hk e => ⟨_, _, rfl, mchk1 h (fun m3 h3 e5 F3 => ⟨_, _, rfl, fun _ => ?_, fun c => absurd (by decide) c⟩)⟩) (fun c => ⟨_, _, rfl, mchk0 h (fun m3 h3 e5 F3 => ⟨_, _, rfl, fun c => absurd c (by decide), fun _ => ?_⟩)⟩)
  · obtain ⟨e1, e2⟩ := whyP_0 hk (by omega) e
    rw [e1, e2] at hQ
    rw [e]
    exact sp_c (k := k) (o := 0) (by omega) (by omega) ⟨_, _, rfl, hQ m3 _ e5 (fun _ => h3.1.2.1 k hk 0 (by omega)) h3 F3⟩
  · have e1 : whyP p (aC (oA o)).length = 1 := if_pos c
    rw [e1] at hQ
    exact hQ m3 _ e5 (fun c => by omega) h3 F3
theorem cw_colourAt {p : Int32} (h : CoR m o) (ok : okO B o) (hQ : cq m (whyP p (aC (oA o)).length) (nI (rowD (aC (oA o)) (clN p) 0)) Q x) : Cl X (d + 1) 287 [vp 0 0, vi p, vp 43 0] (G x m) Q := by
  have hl := ok.1.len
  unfold cq at hQ
  refine vc_L_colourAt (sp_colourAt h.1 hl.1 (fun k hk e => ?_) (fun c => Or.inr ⟨_, _, _, rfl, fun _ => hQ.2 1 (by omega) (if_pos c) m FQ.rf, fun c => absurd rfl c⟩))
  obtain ⟨e1, e2⟩ := whyP_0 hk (by omega) e
  rw [e2] at hQ
  exact Or.inl ⟨_, _, rfl, hQ.1 e1 m FQ.rf⟩
theorem mw_reportAt {p : Int32} (h : MoR m o) (ok : okO B o) (hQ : mq m o (whyP p (aR (oA o)).length) (nI (rowD (aR (oA o)) (clN p) 0)) Q x) : Cl X (d + 2) 209 [vp 31 0, vi p] (G x m) Q := by
  have hl := ok.1.len
  refine vc_X11_reportAt ?_
  rw [h.1.1.2.1]
  unfold mq at hQ
  refine sp_in0 (by omega) (fun k hk e => ⟨_, _, rfl, mchk1 h (fun m3 h3 e5 F3 => ⟨_, _, rfl, fun _ => ?_, fun c => absurd (by decide) c⟩)⟩) (fun c => ⟨_, _, rfl, mchk0 h (fun m3 h3 e5 F3 => ⟨_, _, rfl, fun c => absurd c (by decide), fun _ => ?_⟩)⟩)
  · obtain ⟨e1, e2⟩ := whyP_0 hk (by omega) e
    rw [e1, e2] at hQ
    rw [e]
    exact sp_r (k := k) (o := 0) (by omega) (by omega) ⟨_, _, rfl, hQ m3 _ e5 (fun _ => h3.1.2.2 k hk 0 (by omega)) h3 F3⟩
  · have e1 : whyP p (aR (oA o)).length = 1 := if_pos c
    rw [e1] at hQ
    exact hQ m3 _ e5 (fun c => by omega) h3 F3
theorem cw_reportAt {p : Int32} (h : CoR m o) (ok : okO B o) (hQ : cq m (whyP p (aR (oA o)).length) (nI (rowD (aR (oA o)) (clN p) 0)) Q x) : Cl X (d + 1) 295 [vp 0 0, vi p, vp 43 0] (G x m) Q := by
  have hl := ok.1.len
  unfold cq at hQ
  refine vc_L_reportAt (sp_reportAt h.1 hl.2.1 (fun k hk e => ?_) (fun c => Or.inr ⟨_, _, _, rfl, fun _ => hQ.2 1 (by omega) (if_pos c) m FQ.rf, fun c => absurd rfl c⟩))
  obtain ⟨e1, e2⟩ := whyP_0 hk (by omega) e
  rw [e2] at hQ
  exact Or.inl ⟨_, _, rfl, hQ.1 e1 m FQ.rf⟩
theorem mw_age {p : Int32} (h : MoR m o) (ok : okO B o) (hQ : mq m o (whyC (oA o) p) (nI (aDay (oA o) - rowD (aC (oA o)) (posI (aC (oA o)) p) 5)) Q x) : Cl X (d + 4) 204 [vp 31 0, vi p] (G x m) Q := by
  have hl := ok.1.len
  refine vc_X11_age (sp_mcol h.1 hl.1 ⟨_, _, rfl, ?_⟩)
  unfold mq whyC at hQ
  refine posV_lt0 (by omega) (fun hp => ?_) (fun hp => ?_)
  · rw [if_neg (by omega)] at hQ
    refine mchk0 h (fun m3 h3 e5 F3 => ⟨_, _, rfl, fun c => absurd c (by decide), fun _ => hQ m3 _ e5 (fun c => by omega) h3 F3⟩)
  · rw [if_pos hp] at hQ
    refine mchk1 h (fun m3 h3 e5 F3 => ⟨_, _, rfl, fun _ => ?_, fun c => absurd (by decide) c⟩)
    refine sp_mcol h3.1 hl.1 ⟨_, _, rfl, ?_⟩
    rw [posV_in hp]
    refine vc_X11_ageAt (sp_c (k := posI (aC (oA o)) p) (o := 5) (by omega) (by omega) ⟨_, _, rfl, ?_⟩)
    rw [h3.1.2.1 _ hp 5 (by omega), h3.1.1.2.2.2.2.1, nI_sub (ok.1.c hp).2]
    exact ⟨_, _, rfl, hQ m3 _ e5 (fun _ => rfl) h3 F3⟩
theorem cw_age {p : Int32} (h : CoR m o) (ok : okO B o) (hQ : cq m (whyC (oA o) p) (nI (aDay (oA o) - rowD (aC (oA o)) (posI (aC (oA o)) p) 5)) Q x) : Cl X (d + 3) 292 [vp 0 0, vi p, vp 43 0] (G x m) Q := by
  have hl := ok.1.len
  unfold cq whyC at hQ
  exact vc_L_age (vc_X10_age (sp_found h.1 hl.1 (fun c => Or.inl ⟨_, _, rfl, sp_age h.1 ok.1 c ⟨_, _, rfl, Or.inl ⟨_, _, rfl, hQ.1 (if_pos c) m FQ.rf⟩⟩⟩) (fun c => Or.inr ⟨_, _, _, rfl, Or.inr ⟨_, _, _, rfl, fun _ => hQ.2 1 (by omega) (if_neg (by omega)) m FQ.rf, fun c => absurd rfl c⟩⟩)))
def toGrey (a : AS) (k : Nat) : Nat := if flv (rowD (aC a) k) = 0 then 0 else flv (rowD (aC a) k) * rowD (aC a) k 4 - (aDay a - rowD (aC a) k 5) % rowD (aC a) k 4
theorem gap_flv (r : Row) : gap3 103 (adf (r 1) 50) (adf (r 2) 50) (adf (r 3) 50) = flv r := by
  unfold flv
  rw [Nat.max_assoc]; rfl
theorem sp_toGrey {a : AS} {k : Nat} (h : relS m 0 a) (ho : okA B a) (hB : B < 2 ^ 30) (hk : k < (aC a).length) (hQ : Q (.inl (some (vi (nI (toGrey a k)))), G x m)) : Cl X (d + 1) 80 [vp 1 0, vi (nI k)] (G x m) Q := by
  have hl := ho.len
  have hr := (ho.c hk).1
  have hd : aDay a ≤ B := ho.1.2.2.2.2.1
  unfold okC at hr
  refine vc_X7_daysToGreyAt ?_
  rw [nI_clamp (n := k) (by omega), h.1.2.2 k hk 1 (by omega), h.1.2.2 k hk 2 (by omega), h.1.2.2 k hk 3 (by omega)]
  refine ⟨inb_n k 10 (by omega), sp_measure (mt := 103) (b1 := 50) (b2 := 50) (b3 := 50) (Or.inr (Or.inr rfl)) (by omega) (by omega) (by omega) ⟨_, _, rfl, fun t3 e3 => ?_⟩⟩
  rw [gap_flv]
  have hb : flv (rowD (aC a) k) ≤ 99 := by
    have h1 := adf_le hr.2.1 (show 50 ≤ 99 by omega)
    have h2 := adf_le hr.2.2.1 (show 50 ≤ 99 by omega)
    have h3 := adf_le hr.2.2.2.1 (show 50 ≤ 99 by omega)
    unfold flv
    omega
  rw [h.1.2.2 k hk 4 (by omega)] at e3
  rw [e3]
  unfold toGrey at hQ
  generalize flv (rowD (aC a) k) = f at hb hQ ⊢
  generalize hq : rowD (aC a) k 4 = q at hr hQ ⊢
  refine pk_eq f 0 (fun c => ?_) (fun c => ⟨fun _ => ?_, fun c2 => absurd (nI_le (a := 1) (b := q) (by omega) (by omega)) c2⟩)
  · rw [if_pos c] at hQ; exact hQ
  · rw [if_neg c] at hQ
    refine sp_age h ho hk ⟨_, _, rfl, decide_eq_true (nI_ne0 (by omega) (by omega)), ?_⟩
    rw [pk_rem (by omega) (by omega) (by omega), pk_mul, nI_sub (Nat.le_trans (Nat.le_of_lt (Nat.mod_lt _ (by omega))) (Nat.le_mul_of_pos_left q (by omega)))]
    exact hQ
theorem mw_toGrey {p : Int32} (h : MoR m o) (ok : okO B o) (hB : B < 2 ^ 30) (hQ : mq m o (whyC (oA o) p) (nI (toGrey (oA o) (posI (aC (oA o)) p))) Q x) : Cl X (d + 4) 205 [vp 31 0, vi p] (G x m) Q := by
  have hl := ok.1.len
  refine vc_X11_daysUntilGrey (sp_mcol h.1 hl.1 ⟨_, _, rfl, ?_⟩)
  unfold mq whyC at hQ
  refine posV_lt0 (by omega) (fun hp => ?_) (fun hp => ?_)
  · rw [if_neg (by omega)] at hQ
    refine mchk0 h (fun m3 h3 e5 F3 => ⟨_, _, rfl, fun c => absurd c (by decide), fun _ => hQ m3 _ e5 (fun c => by omega) h3 F3⟩)
  · rw [if_pos hp] at hQ
    refine mchk1 h (fun m3 h3 e5 F3 => ⟨_, _, rfl, fun _ => ?_, fun c => absurd (by decide) c⟩)
    refine sp_mcol h3.1 hl.1 ⟨_, _, rfl, ?_⟩
    rw [posV_in hp]
    unfold toGrey at hQ
    have hr := (ok.1.c hp).1
    have hd : aDay (oA o) ≤ B := ok.1.1.2.2.2.2.1
    have hd5 := (ok.1.c hp).2
    unfold okC at hr
    have e54 := h3.1.2.1 _ hp 4 (by omega)
    have e55 := h3.1.2.1 _ hp 5 (by omega)
    refine sp_fades h3.1 ok.1 hp ⟨_, _, rfl, ?_⟩
    have hb : flv (rowD (aC (oA o)) (posI (aC (oA o)) p)) ≤ 99 := by
      have h1 := adf_le hr.2.1 (show 50 ≤ 99 by omega)
      have h2 := adf_le hr.2.2.1 (show 50 ≤ 99 by omega)
      have h3 := adf_le hr.2.2.2.1 (show 50 ≤ 99 by omega)
      unfold flv
      omega
    generalize flv (rowD (aC (oA o)) (posI (aC (oA o)) p)) = f at hb hQ ⊢
    generalize posI (aC (oA o)) p = j at *
    refine pk_eqn (b := 0) (fun c => ?_) (fun c => ?_) (by omega) (by omega)
    · rw [if_pos c] at hQ
      exact hQ m3 _ e5 (fun _ => rfl) h3 F3
    · rw [if_neg c] at hQ
      refine sp_c (k := j) (o := 4) (by omega) (by omega) ⟨_, _, rfl, vc_X11_ageAt (sp_c (k := j) (o := 5) (by omega) (by omega) ⟨_, _, rfl, ?_⟩)⟩
      rw [e54, e55, h3.1.1.2.2.2.2.1, nI_sub hd5]
      refine ⟨_, _, rfl, sp_c (k := j) (o := 4) (by omega) (by omega) ⟨_, _, rfl, ?_⟩⟩
      rw [e54]
      refine ⟨decide_eq_true (nI_ne0 (by omega) (by omega)), ?_⟩
      rw [pk_rem (by omega) (by omega) (by omega), pk_mul, nI_sub (Nat.le_trans (Nat.le_of_lt (Nat.mod_lt _ (by omega))) (Nat.le_mul_of_pos_right _ (by omega))), Nat.mul_comm]
      exact hQ m3 _ e5 (fun _ => rfl) h3 F3
theorem cw_toGrey {p : Int32} (h : CoR m o) (ok : okO B o) (hB : B < 2 ^ 30) (hQ : cq m (whyC (oA o) p) (nI (toGrey (oA o) (posI (aC (oA o)) p))) Q x) : Cl X (d + 3) 293 [vp 0 0, vi p, vp 43 0] (G x m) Q := by
  have hl := ok.1.len
  unfold cq whyC at hQ
  exact vc_L_daysUntilGrey (vc_X10_daysUntilGrey (sp_found h.1 hl.1 (fun c => Or.inl ⟨_, _, rfl, sp_toGrey h.1 ok.1 hB c ⟨_, _, rfl, Or.inl ⟨_, _, rfl, hQ.1 (if_pos c) m FQ.rf⟩⟩⟩) (fun c => Or.inr ⟨_, _, _, rfl, Or.inr ⟨_, _, _, rfl, fun _ => hQ.2 1 (by omega) (if_neg (by omega)) m FQ.rf, fun c => absurd rfl c⟩⟩)))
/-- reports and colours together -/
def whyB (a : AS) (p q : Int32) : Nat := if posI (aR a) p < (aR a).length ∧ posI (aC a) q < (aC a).length then 0 else 1
theorem mboth {p q : Int32} (h : MoR m o) (ok : okO B o) (h1 : posI (aR (oA o)) p < (aR (oA o)).length → posI (aC (oA o)) q < (aC (oA o)).length → ∀ m9, MoR m9 o → m9 31 0 5 = 0 → FM m m9 → Q (.inl (some (vi 1)), G x m9))
    (h0 : ¬ (posI (aR (oA o)) p < (aR (oA o)).length ∧ posI (aC (oA o)) q < (aC (oA o)).length) → ∀ m9, MoR m9 o → m9 31 0 5 = 1 → FM m m9 → Q (.inl (some (vi 0)), G x m9)) : Cl X (d + 3) 213 [vp 31 0, vi p, vi q] (G x m) Q := by
  have hl := ok.1.len
  refine vc_X11_areBoth (sp_mrep h.1 hl.2.1 ⟨_, _, rfl, ?_⟩)
  refine posV_lt0 (by omega) (fun hp => ?_) (fun hp => ?_)
  · exact mchk0 h (fun m3 h3 e5 F3 => ⟨_, _, rfl, fun _ => h0 (by omega) m3 h3 e5 F3, fun c => absurd (by decide) c⟩)
  · refine sp_mcol h.1 hl.1 ⟨_, _, rfl, posV_lt0 (by omega) (fun hq => ?_) (fun hq => ?_)⟩
    · exact mchk0 h (fun m3 h3 e5 F3 => ⟨_, _, rfl, fun _ => h0 (by omega) m3 h3 e5 F3, fun c => absurd (by decide) c⟩)
    · exact mchk1 h (fun m3 h3 e5 F3 => ⟨_, _, rfl, fun c => absurd rfl c, fun _ => h1 hp hq m3 h3 e5 F3⟩)
abbrev dRC (a : AS) (i j : Nat) : Nat := dst (aMet a) (rowD (aR a) i) (rowD (aC a) j)
abbrev dCC (a : AS) (i j : Nat) : Nat := dst (aMet a) (rowD (aC a) i) (rowD (aC a) j)
theorem mw_distanceFor {p q : Int32} (h : MoR m o) (ok : okO B o) (hQ : mq m o (whyB (oA o) p q) (nI (dRC (oA o) (posI (aR (oA o)) p) (posI (aC (oA o)) q))) Q x) : Cl X (d + 4) 214 [vp 31 0, vi p, vi q] (G x m) Q := by
  have hl := ok.1.len
  unfold mq whyB at hQ
  refine vc_X11_distanceFor (mboth h ok (fun hp hq m3 h3 e5 F3 => ⟨_, _, rfl, fun c => absurd c (by decide), fun _ => ?_⟩) (fun c m3 h3 e5 F3 => ⟨_, _, rfl, fun _ => ?_, fun c => absurd rfl c⟩))
  · rw [if_pos ⟨hp, hq⟩] at hQ
    refine sp_mrep h3.1 hl.2.1 ⟨_, _, rfl, sp_mcol h3.1 hl.1 ⟨_, _, rfl, ?_⟩⟩
    rw [posV_in hp, posV_in hq]
    exact sp_mdist h3.1 ok.1 hp hq ⟨_, _, rfl, hQ m3 _ e5 (fun _ => rfl) h3 F3⟩
  · rw [if_neg c] at hQ
    exact hQ m3 _ e5 (fun c => by omega) h3 F3
theorem cw_distanceFor {p q : Int32} (h : CoR m o) (ok : okO B o) (hQ : cq m (whyB (oA o) p q) (nI (dRC (oA o) (posI (aR (oA o)) p) (posI (aC (oA o)) q))) Q x) : Cl X (d + 3) 298 [vp 0 0, vi p, vi q, vp 43 0] (G x m) Q := by
  have hl := ok.1.len
  unfold cq whyB at hQ
  refine vc_L_distanceFor (vc_X10_distanceFor (sp_open h.1 hl.2.1 (fun hp => Or.inl ⟨_, _, rfl, ?_⟩) (fun c => Or.inr ⟨_, _, _, rfl, Or.inr ⟨_, _, _, rfl, fun _ => hQ.2 1 (by omega) (if_neg (by omega)) m FQ.rf, fun c => absurd rfl c⟩⟩)))
  refine sp_found h.1 hl.1 (fun hq => Or.inl ⟨_, _, rfl, ?_⟩) (fun c => Or.inr ⟨_, _, _, rfl, Or.inr ⟨_, _, _, rfl, fun _ => hQ.2 1 (by omega) (if_neg (by omega)) m FQ.rf, fun c => absurd rfl c⟩⟩)
  rw [nI_clamp (n := posI (aR (oA o)) p) (by omega), nI_clamp (n := posI (aC (oA o)) q) (by omega)]
  refine ⟨inb_n (posI (aR (oA o)) p) 6 (by omega), inb_n (posI (aC (oA o)) q) 10 (by omega), sp_betw7 hl.2.2 h.1.2.2.2.1 (ok.1.rpR h.1 hp) (ok.1.rpC h.1 hq) ⟨_, _, rfl, Or.inl ⟨_, _, rfl, hQ.1 (if_pos ⟨hp, hq⟩) m FQ.rf⟩⟩⟩
theorem mw_fits {p q : Int32} (h : MoR m o) (ok : okO B o) (hQ : mq m o (whyB (oA o) p q) (if fitP (oA o) (posI (aR (oA o)) p) (posI (aC (oA o)) q) then 1 else 0) Q x) (hf : ∀ m9 v, Q (.inl (some (vi v)), G x m9) → v = 0 ∨ v = 1) : True := trivial
theorem mw_fits2 {p q : Int32} (h : MoR m o) (ok : okO B o) (hQ : ∀ m9 v, v = 0 ∨ v = 1 → m9 31 0 5 = nI (whyB (oA o) p q) → (whyB (oA o) p q = 0 → v = (if fitP (oA o) (posI (aR (oA o)) p) (posI (aC (oA o)) q) then 1 else 0)) → MoR m9 o → FM m m9 → Q (.inl (some (vi v)), G x m9)) : Cl X (d + 4) 215 [vp 31 0, vi p, vi q] (G x m) Q := by
  have hl := ok.1.len
  unfold whyB at hQ
  refine vc_X11_fits (mboth h ok (fun hp hq m3 h3 e5 F3 => ⟨_, _, rfl, fun c => absurd c (by decide), fun _ => ?_⟩) (fun c m3 h3 e5 F3 => ⟨_, _, rfl, fun _ => ?_, fun c => absurd rfl c⟩))
  · rw [if_pos ⟨hp, hq⟩] at hQ
    refine sp_mrep h3.1 hl.2.1 ⟨_, _, rfl, sp_mcol h3.1 hl.1 ⟨_, _, rfl, ?_⟩⟩
    rw [posV_in hp, posV_in hq]
    refine sp_mfit h3.1 ok.1 hp hq ⟨_, _, rfl, ?_⟩
    by_cases hf : fitP (oA o) (posI (aR (oA o)) p) (posI (aC (oA o)) q)
    · rw [if_pos hf]
      rw [if_pos hf] at hQ
      exact ⟨fun c => absurd c (by decide), fun _ => hQ m3 _ (Or.inr rfl) e5 (fun _ => rfl) h3 F3⟩
    · rw [if_neg hf]
      rw [if_neg hf] at hQ
      exact ⟨fun _ => hQ m3 _ (Or.inl rfl) e5 (fun _ => rfl) h3 F3, fun c => absurd rfl c⟩
  · rw [if_neg c] at hQ
    exact hQ m3 _ (Or.inl rfl) e5 (fun c => by omega) h3 F3
theorem cw_fits {p q : Int32} (h : CoR m o) (ok : okO B o) (hQ : cq m (whyB (oA o) p q) (if fitP (oA o) (posI (aR (oA o)) p) (posI (aC (oA o)) q) then 1 else 0) Q x) : Cl X (d + 4) 299 [vp 0 0, vi p, vi q, vp 43 0] (G x m) Q := by
  have hl := ok.1.len
  unfold cq whyB at hQ
  refine vc_L_fits (vc_X10_fits (sp_open h.1 hl.2.1 (fun hp => Or.inl ⟨_, _, rfl, ?_⟩) (fun c => Or.inr ⟨_, _, _, rfl, Or.inr ⟨_, _, _, rfl, fun _ => hQ.2 1 (by omega) (if_neg (by omega)) m FQ.rf, fun c => absurd rfl c⟩⟩)))
  refine sp_found h.1 hl.1 (fun hq => Or.inl ⟨_, _, rfl, ?_⟩) (fun c => Or.inr ⟨_, _, _, rfl, Or.inr ⟨_, _, _, rfl, fun _ => hQ.2 1 (by omega) (if_neg (by omega)) m FQ.rf, fun c => absurd rfl c⟩⟩)
  refine sp_fit h.1 ok.1 hp hq ⟨_, _, rfl, ?_⟩
  have hQ1 := hQ.1 (if_pos ⟨hp, hq⟩) m FQ.rf
  by_cases hf : fitP (oA o) (posI (aR (oA o)) p) (posI (aC (oA o)) q)
  · rw [if_pos hf]
    rw [if_pos hf] at hQ1
    exact ⟨by decide, Or.inl ⟨_, _, rfl, fun c => absurd c (by decide), fun _ => hQ1⟩⟩
  · rw [if_neg hf]
    rw [if_neg hf] at hQ1
    exact ⟨by decide, Or.inl ⟨_, _, rfl, fun _ => hQ1, fun c => absurd rfl c⟩⟩
def whyNF (a : AS) (p : Int32) : Nat := if posI (aR a) p < (aR a).length ∧ 0 < (aC a).length then 0 else 1
theorem mw_nearestFor {p : Int32} (h : MoR m o) (ok : okO B o) (hQ : mq m o (whyNF (oA o) p) (nI (rowD (aC (oA o)) (nrs (fun k => dRC (oA o) (posI (aR (oA o)) p) k) (aC (oA o)).length) 0)) Q x) : Cl X (d + 4) 216 [vp 31 0, vi p] (G x m) Q := by
  have hl := ok.1.len
  refine vc_X11_nearestFor (sp_mrep h.1 hl.2.1 ⟨_, _, rfl, ?_⟩)
  unfold mq whyNF at hQ
  refine posV_lt0 (by omega) (fun hp => ?_) (fun hp => ?_)
  · rw [if_neg (by omega)] at hQ
    refine mchk0 h (fun m3 h3 e5 F3 => ⟨_, _, rfl, fun c => absurd c (by decide), fun _ => hQ m3 _ e5 (fun c => by omega) h3 F3⟩)
  · rw [h.1.1.1]
    refine pk_le (aC (oA o)).length 0 (fun c => ?_) (fun c => ?_)
    · rw [if_neg (by omega)] at hQ
      refine mchk0 h (fun m3 h3 e5 F3 => ⟨_, _, rfl, fun c => absurd c (by decide), fun _ => hQ m3 _ e5 (fun c => by omega) h3 F3⟩)
    · rw [if_pos ⟨hp, c⟩] at hQ
      refine mchk1 h (fun m3 h3 e5 F3 => ⟨_, _, rfl, fun _ => ?_, fun c => absurd (by decide) c⟩)
      refine sp_mrep h3.1 hl.2.1 ⟨_, _, rfl, ?_⟩
      rw [posV_in hp]
      refine sp_rrow ⟨_, _, rfl, sp_mnear (by omega) h3.1 ok.1 (ok.1.ptR h3.1 hp) ⟨_, _, rfl, ?_⟩⟩
      rw [show nrV (fun k => dst (aMet (oA o)) (rowD (aR (oA o)) (posI (aR (oA o)) p)) (rowD (aC (oA o)) k)) (aC (oA o)).length = nI _ from if_neg (by omega)]
      have hs := (nrs_spec (fun k => dRC (oA o) (posI (aR (oA o)) p) k) (aC (oA o)).length c).1
      exact sp_c (k := nrs (fun k => dRC (oA o) (posI (aR (oA o)) p) k) (aC (oA o)).length) (o := 0) (by omega) (by omega) ⟨_, _, rfl, hQ m3 _ e5 (fun _ => h3.1.2.1 _ hs 0 (by omega)) h3 F3⟩
theorem cw_nearestFor {p : Int32} (h : CoR m o) (ok : okO B o) (hQ : cq m (whyNF (oA o) p) (nI (rowD (aC (oA o)) (nrs (fun k => dRC (oA o) (posI (aR (oA o)) p) k) (aC (oA o)).length) 0)) Q x) : Cl X (d + 4) 300 [vp 0 0, vi p, vp 43 0] (G x m) Q := by
  have hl := ok.1.len
  unfold cq whyNF at hQ
  refine vc_L_nearestFor (vc_X10_nearestFor (sp_open h.1 hl.2.1 (fun hp => Or.inl ⟨_, _, rfl, ?_⟩) (fun c => Or.inr ⟨_, _, _, rfl, Or.inr ⟨_, _, _, rfl, fun _ => hQ.2 1 (by omega) (if_neg (by omega)) m FQ.rf, fun c => absurd rfl c⟩⟩)))
  rw [nI_clamp (n := posI (aR (oA o)) p) (by omega)]
  refine ⟨inb_n (posI (aR (oA o)) p) 6 (by omega), sp_nearR h.1 ok.1 hp ⟨_, _, rfl, ?_⟩⟩
  by_cases c : (aC (oA o)).length = 0
  · rw [show nrR (oA o) (posI (aR (oA o)) p) = -1 from if_pos c]
    exact ⟨fun c => absurd c (by decide), fun _ => Or.inr ⟨_, _, _, rfl, fun _ => hQ.2 1 (by omega) (if_neg (by omega)) m FQ.rf, fun c => absurd rfl c⟩⟩
  · rw [show nrR (oA o) (posI (aR (oA o)) p) = nI (nrs (fun k => dRC (oA o) (posI (aR (oA o)) p) k) (aC (oA o)).length) from if_neg c]
    have hs := (nrs_spec (fun k => dRC (oA o) (posI (aR (oA o)) p) k) (aC (oA o)).length (by omega)).1
    generalize nrs (fun k => dRC (oA o) (posI (aR (oA o)) p) k) (aC (oA o)).length = z at *
    rw [nI_clamp (n := z) (by omega), h.1.1.2.2 z hs 0 (by omega)]
    exact ⟨fun _ => ⟨inb_n z 10 (by omega), Or.inl ⟨_, _, rfl, hQ.1 (if_pos ⟨hp, by omega⟩) m FQ.rf⟩⟩, fun c => absurd (nI_pos' (by omega)) c⟩
def whyCC (a : AS) (p q : Int32) : Nat := if posI (aC a) p < (aC a).length ∧ posI (aC a) q < (aC a).length then 0 else 1
theorem mw_distance {p q : Int32} (h : MoR m o) (ok : okO B o) (hQ : mq m o (whyCC (oA o) p q) (nI (dCC (oA o) (posI (aC (oA o)) p) (posI (aC (oA o)) q))) Q x) : Cl X (d + 4) 217 [vp 31 0, vi p, vi q] (G x m) Q := by
  have hl := ok.1.len
  unfold mq whyCC at hQ
  refine vc_X11_distance (sp_mcol h.1 hl.1 ⟨_, _, rfl, ?_⟩)
  refine posV_lt0 (by omega) (fun hp => ?_) (fun hp => ?_)
  · rw [if_neg (by omega)] at hQ
    refine mchk0 h (fun m3 h3 e5 F3 => ⟨_, _, rfl, fun c => absurd c (by decide), fun _ => hQ m3 _ e5 (fun c => by omega) h3 F3⟩)
  refine sp_mcol h.1 hl.1 ⟨_, _, rfl, ?_⟩
  refine posV_lt0 (by omega) (fun hq => ?_) (fun hq => ?_)
  · rw [if_neg (by omega)] at hQ
    refine mchk0 h (fun m3 h3 e5 F3 => ⟨_, _, rfl, fun c => absurd c (by decide), fun _ => hQ m3 _ e5 (fun c => by omega) h3 F3⟩)
  rw [if_pos ⟨hp, hq⟩] at hQ
  refine mchk1 h (fun m3 h3 e5 F3 => ⟨_, _, rfl, fun _ => ?_, fun c => absurd (by decide) c⟩)
  refine sp_mcol h3.1 hl.1 ⟨_, _, rfl, ?_⟩
  rw [posV_in hp]
  refine sp_crow ⟨_, _, rfl, sp_mcol h3.1 hl.1 ⟨_, _, rfl, ?_⟩⟩
  rw [posV_in hq]
  exact sp_crow ⟨_, _, rfl, sp_apart (by omega) (by omega) hl.2.2 h3.1.1.2.2.2.2.2.1 (ok.1.ptC h3.1 hp) (ok.1.ptC h3.1 hq) ⟨_, _, rfl, hQ m3 _ e5 (fun _ => rfl) h3 F3⟩⟩
theorem cw_distance {p q : Int32} (h : CoR m o) (ok : okO B o) (hQ : cq m (whyCC (oA o) p q) (nI (dCC (oA o) (posI (aC (oA o)) p) (posI (aC (oA o)) q))) Q x) : Cl X (d + 3) 301 [vp 0 0, vi p, vi q, vp 43 0] (G x m) Q := by
  have hl := ok.1.len
  unfold cq whyCC at hQ
  refine vc_L_distance (vc_X10_distance (sp_found h.1 hl.1 (fun hp => Or.inl ⟨_, _, rfl, ?_⟩) (fun c => Or.inr ⟨_, _, _, rfl, Or.inr ⟨_, _, _, rfl, fun _ => hQ.2 1 (by omega) (if_neg (by omega)) m FQ.rf, fun c => absurd rfl c⟩⟩)))
  refine sp_found h.1 hl.1 (fun hq => Or.inl ⟨_, _, rfl, ?_⟩) (fun c => Or.inr ⟨_, _, _, rfl, Or.inr ⟨_, _, _, rfl, fun _ => hQ.2 1 (by omega) (if_neg (by omega)) m FQ.rf, fun c => absurd rfl c⟩⟩)
  rw [nI_clamp (n := posI (aC (oA o)) p) (by omega), nI_clamp (n := posI (aC (oA o)) q) (by omega)]
  exact ⟨inb_n (posI (aC (oA o)) p) 10 (by omega), inb_n (posI (aC (oA o)) q) 10 (by omega), sp_betw5 hl.2.2 h.1.2.2.2.1 (ok.1.rpC h.1 hp) (ok.1.rpC h.1 hq) ⟨_, _, rfl, Or.inl ⟨_, _, rfl, hQ.1 (if_pos ⟨hp, hq⟩) m FQ.rf⟩⟩⟩
end QUE
