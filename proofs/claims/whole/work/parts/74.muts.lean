/-! ===== CHANGES: BOTH SIDES AS THE LAW CALLS THEM ===== -/
section MUT
variable {X : MX} {d : Nat} {x : Int64 × UInt64} {m : MI} {Q : MRes → Prop} {B : Nat} {o : OS}
theorem mbeg (h : MoR m o) (hQ : ∀ m9, MoR m9 o → m9 31 0 5 = 0 → (∀ k, k < 136 → m9 33 0 k = m 32 0 k) → Fk tBg m m9 → Q (.inl none, G x m9)) : Cl X (d + 1) 150 [vp 31 0] (G x m) Q :=
  sp_begin (fun m9 h5 hb hF => hQ m9 (h.on (fun f i k hk => hF f i k (by unfold kM at hk; unfold tBg; omega))) h5 hb hF)
theorem mcom {m0 m2 : MI} {a9 : AS} {v : Int32} (h : MoR m0 o) (ok : okO B o) (h5 : m2 31 0 5 = 0) (hb : ∀ k, k < 136 → m2 33 0 k = m0 32 0 k) (F2 : Fk tBg m0 m2) (h7 : relR (m 32 0) a9) (F7 : Fk t32 m2 m)
    (hQ : ∀ m9, m9 31 0 5 = 0 → MoR m9 (osPush o a9) → FM m0 m9 → Q (.inl (some (vi v)), G x m9)) : Cl X (d + 1) 151 [vp 31 0, vi v] (G x m) Q := by
  have hB : relR (m 33 0) (oA o) := h.1.on ok.1.len (fun k hk => by rw [F7 33 0 k (by unfold t32; omega), hb k hk])
  have hM : relMH m (oH o) := h.2.1.on (by rw [F7 31 0 6 (by unfold t32; omega), F2 31 0 6 (by unfold tBg; omega)]) (fun k => by rw [F7 35 0 k (by unfold t32; omega), F2 35 0 k (by unfold tBg; omega)])
  refine sp_commit hB ok.1.len hM ok.hl (fun m9 hH hF => ?_)
  have F9 : Fk (fun f i k => t32 f i k ∨ tBg f i k ∨ tCm f i k) m0 m9 := ((F2.mono (fun f i k t => Or.inr (Or.inl t))).tr (F7.mono (fun f i k t => Or.inl t))).tr (hF.mono (fun f i k t => Or.inr (Or.inr t)))
  have e32 : m9 32 0 = m 32 0 := funext fun k => hF 32 0 k (by unfold tCm; omega)
  refine hQ m9 ?_ (h.push (by rw [e32]; exact h7) hH F9) (F9.fm (fun f i k t => by unfold t32 tBg tCm at t; omega))
  rw [hF 31 0 5 (by unfold tCm; omega), F7 31 0 5 (by unfold t32; omega)]
  exact h5
theorem mfl {m0 : MI} {w : Int32} (h : MoR m0 o) (F2 : Fk tBg m0 m) (hQ : ∀ m9, m9 31 0 5 = w → MoR m9 o → FM m0 m9 → Q (.inl (some (vi 0)), G x m9)) : Cl X d 149 [vp 31 0, vi w] (G x m) Q := by
  refine sp_fail (fun m9 h5 hF => ?_)
  have F9 : Fk tBg m0 m9 := F2.tr (hF.mono (fun f i k t => by unfold tTh at t; unfold tBg; omega))
  exact hQ m9 h5 (h.on (fun f i k hk => F9 f i k (by unfold kM at hk; unfold tBg; omega))) (F9.fm (fun f i k t => by unfold tBg at t; omega))
/-- what the model's changes give back -/
def mres (m : MI) (o o9 : OS) (why : Nat) (ans : Int32) (Q : MRes → Prop) (x : Int64 × UInt64) : Prop := ∀ m9 v, m9 31 0 5 = nI why → (why = 0 → v = ans ∧ MoR m9 o9) → (why ≠ 0 → MoR m9 o) → FM m m9 → Q (.inl (some (vi v)), G x m9)
theorem mw_addColour {p q r f : Int32} (h : MoR m o) (ok : okO B o) (hQ : mres m o (osPush o (asAdd (oA o) (clN p) (clN q) (clN r) (clN f))) (whyAdd (oA o) p q r f) (nI (aXC (oA o))) Q x) : Cl X (d + 4) 170 [vp 31 0, vi p, vi q, vi r, vi f] (G x m) Q := by
  refine vc_X11_addColour (mbeg h (fun m2 h2 h5 hb F2 => ⟨_, rfl, sp_mcanAdd h2.1 ok.1.len ⟨_, _, rfl, ?_⟩⟩))
  unfold mres at hQ
  have hw : whyAdd (oA o) p q r f ≤ 2 := by unfold whyAdd; split <;> (try split) <;> omega
  refine pk_le (whyAdd (oA o) p q r f) 0 (fun c => ?_) (fun c => ?_)
  · have c0 : whyAdd (oA o) p q r f = 0 := by omega
    have hc : (isP3 p q r ∧ inR f 1 9) ∧ ¬ (aC (oA o)).length = 10 := by
      unfold whyAdd at c0
      split at c0
      · next h1 => split at c0
                   · omega
                   · next h2 => exact ⟨h1, h2⟩
      · omega
    have hl := ok.1.len.1
    rw [(inR_cl hc.1.1.1).1, (inR_cl hc.1.1.2.1).1, (inR_cl hc.1.1.2.2).1, (inR_cl hc.1.2).1]
    refine sp_adds h2.1 ok.1.len (by omega) (fun m7 h7 F7 => ⟨_, _, rfl, mcom h ok h5 hb F2 h7 F7 (fun m9 h95 h9 F9 => ⟨_, _, rfl, hQ m9 _ ?_ (fun _ => ⟨rfl, h9⟩) (fun c2 => absurd c0 c2) F9⟩)⟩)
    rw [h95, c0]; rfl
  · exact mfl h F2 (fun m9 h95 h9 F9 => ⟨_, _, rfl, hQ m9 _ h95 (fun c2 => by omega) (fun _ => h9) F9⟩)
theorem cw_addColour {p q r f : Int32} (h : CoR m o) (ok : okO B o) (hQ0 : whyAdd (oA o) p q r f = 0 → ∀ m9, CoR m9 (osPush o (asAdd (oA o) (clN p) (clN q) (clN r) (clN f))) → FC m m9 → Q (.inl (some (vi 0)), G ((nI (aXC (oA o))).toInt64, x.2) m9))
    (hQk : ∀ k, k ≠ 0 → whyAdd (oA o) p q r f = k → Q (.inl (some (vi (nI k))), Gu (1, 6) x m)) : Cl X (d + 5) 279 [vp 0 0, vi p, vi q, vi r, vi f, vp 43 0] (G x m) Q := by
  refine vc_L_addColour (sp_addColour h.1 ok.1.len h.2.1 ok.hl (fun c => Or.inr ⟨_, _, _, rfl, fun _ => hQk 1 (by omega) c, fun c => absurd c (by decide), fun c => absurd rfl c.1⟩) (fun c => Or.inr ⟨_, _, _, rfl, fun c => absurd c (by decide), fun _ => hQk 2 (by omega) c, fun c => absurd rfl c.2⟩) (fun c m9 hS hH hF => Or.inl ⟨_, _, rfl, hQ0 c m9 (h.push ok hS hH hF) (tO_fc hF)⟩))
theorem mw_report {p q r f w : Int32} (h : MoR m o) (ok : okO B o) (hQ : mres m o (osPush o (asRep (oA o) (clN p) (clN q) (clN r) (clN f) (clN w))) (whyRep (oA o) p q r f w) (nI (aXR (oA o))) Q x) : Cl X (d + 4) 173 [vp 31 0, vi p, vi q, vi r, vi f, vi w] (G x m) Q := by
  refine vc_X11_report (mbeg h (fun m2 h2 h5 hb F2 => ⟨_, rfl, sp_mcanRep h2.1 ok.1.len ⟨_, _, rfl, ?_⟩⟩))
  unfold mres at hQ
  have hw : whyRep (oA o) p q r f w ≤ 2 := by unfold whyRep; split <;> (try split) <;> omega
  refine pk_le (whyRep (oA o) p q r f w) 0 (fun c => ?_) (fun c => ?_)
  · have c0 : whyRep (oA o) p q r f w = 0 := by omega
    have hc : (isP3 p q r ∧ inR f 0 9999 ∧ inR w 1 99) ∧ ¬ (aR (oA o)).length = 6 := by
      unfold whyRep at c0
      split at c0
      · next h1 => split at c0
                   · omega
                   · next h2 => exact ⟨h1, h2⟩
      · omega
    have hl := ok.1.len.2.1
    rw [(inR_cl hc.1.1.1).1, (inR_cl hc.1.1.2.1).1, (inR_cl hc.1.1.2.2).1, (inR_cl hc.1.2.1).1, (inR_cl hc.1.2.2).1]
    refine sp_reps h2.1 ok.1.len (by omega) (fun m7 h7 F7 => ⟨_, _, rfl, mcom h ok h5 hb F2 h7 F7 (fun m9 h95 h9 F9 => ⟨_, _, rfl, hQ m9 _ ?_ (fun _ => ⟨rfl, h9⟩) (fun c2 => absurd c0 c2) F9⟩)⟩)
    rw [h95, c0]; rfl
  · exact mfl h F2 (fun m9 h95 h9 F9 => ⟨_, _, rfl, hQ m9 _ h95 (fun c2 => by omega) (fun _ => h9) F9⟩)
theorem cw_report {p q r f w : Int32} (h : CoR m o) (ok : okO B o) (hQ0 : whyRep (oA o) p q r f w = 0 → ∀ m9, CoR m9 (osPush o (asRep (oA o) (clN p) (clN q) (clN r) (clN f) (clN w))) → FC m m9 → Q (.inl (some (vi 0)), G ((nI (aXR (oA o))).toInt64, x.2) m9))
    (hQk : ∀ k, k ≠ 0 → whyRep (oA o) p q r f w = k → Q (.inl (some (vi (nI k))), Gu (1, 6) x m)) : Cl X (d + 5) 280 [vp 0 0, vi p, vi q, vi r, vi f, vi w, vp 43 0] (G x m) Q := by
  refine vc_L_report (sp_report h.1 ok.1.len h.2.1 ok.hl (fun c => Or.inr ⟨_, _, _, rfl, fun _ => hQk 1 (by omega) c, fun c => absurd c (by decide), fun c => absurd rfl c.1⟩) (fun c => Or.inr ⟨_, _, _, rfl, fun c => absurd c (by decide), fun _ => hQk 2 (by omega) c, fun c => absurd rfl c.2⟩) (fun c m9 hS hH hF => Or.inl ⟨_, _, rfl, hQ0 c m9 (h.push ok hS hH hF) (tO_fc hF)⟩))
def whyR (a : AS) (p : Int32) : Nat := if posI (aR a) p < (aR a).length then 0 else 1
def whyC (a : AS) (p : Int32) : Nat := if posI (aC a) p < (aC a).length then 0 else 1
theorem mw_withdraw {p : Int32} (h : MoR m o) (ok : okO B o) (hQ : mres m o (osPush o (asWd (oA o) (posI (aR (oA o)) p))) (whyR (oA o) p) (nI ((aR (oA o)).length - 1)) Q x) : Cl X (d + 4) 175 [vp 31 0, vi p] (G x m) Q := by
  have hl := ok.1.len
  refine vc_X11_withdraw (mbeg h (fun m2 h2 h5 hb F2 => ⟨_, rfl, sp_mrep h2.1 hl.2.1 ⟨_, _, rfl, ?_⟩⟩))
  unfold mres whyR at hQ
  refine posV_neg (by omega) (fun hc => ?_) (fun hc => ?_)
  · rw [if_pos hc] at hQ
    refine sp_mwd h2.1 hl hc (fun m7 h7 F7 => ⟨_, _, rfl, mcom h ok h5 hb F2 h7 F7 (fun m9 h95 h9 F9 => ⟨_, _, rfl, hQ m9 _ h95 (fun _ => ⟨rfl, h9⟩) (fun c2 => absurd rfl c2) F9⟩)⟩)
  · rw [if_neg (by omega)] at hQ
    exact mfl h F2 (fun m9 h95 h9 F9 => ⟨_, _, rfl, hQ m9 _ h95 (fun c2 => by omega) (fun _ => h9) F9⟩)
theorem cw_withdraw {p : Int32} (h : CoR m o) (ok : okO B o) (hQ0 : whyR (oA o) p = 0 → ∀ m9, CoR m9 (osPush o (asWd (oA o) (posI (aR (oA o)) p))) → FC m m9 → Q (.inl (some (vi 0)), G ((nI ((aR (oA o)).length - 1)).toInt64, x.2) m9))
    (hQk : ∀ k, k ≠ 0 → whyR (oA o) p = k → Q (.inl (some (vi (nI k))), Gu (1, 6) x m)) : Cl X (d + 5) 281 [vp 0 0, vi p, vp 43 0] (G x m) Q := by
  unfold whyR at hQ0 hQk
  refine vc_L_withdraw (sp_withdraw h.1 ok.1.len h.2.1 ok.hl (fun c => Or.inr ⟨_, _, _, rfl, fun _ => hQk 1 (by omega) (if_neg (by omega)), fun c => absurd rfl c⟩) (fun c m9 hS hH hF => Or.inl ⟨_, _, rfl, hQ0 (if_pos c) m9 (h.push ok hS hH hF) (tO_fc hF)⟩))
theorem mw_discard {p : Int32} (h : MoR m o) (ok : okO B o) (hQ : mres m o (osPush o (asDis (oA o) (posI (aC (oA o)) p))) (whyC (oA o) p) (nI ((aC (oA o)).length - 1)) Q x) : Cl X (d + 4) 177 [vp 31 0, vi p] (G x m) Q := by
  have hl := ok.1.len
  refine vc_X11_discard (mbeg h (fun m2 h2 h5 hb F2 => ⟨_, rfl, sp_mcol h2.1 hl.1 ⟨_, _, rfl, ?_⟩⟩))
  unfold mres whyC at hQ
  refine posV_neg (by omega) (fun hc => ?_) (fun hc => ?_)
  · rw [if_pos hc] at hQ
    refine sp_mdis h2.1 hl hc (fun m7 h7 F7 => ⟨_, _, rfl, mcom h ok h5 hb F2 h7 F7 (fun m9 h95 h9 F9 => ⟨_, _, rfl, hQ m9 _ h95 (fun _ => ⟨rfl, h9⟩) (fun c2 => absurd rfl c2) F9⟩)⟩)
  · rw [if_neg (by omega)] at hQ
    exact mfl h F2 (fun m9 h95 h9 F9 => ⟨_, _, rfl, hQ m9 _ h95 (fun c2 => by omega) (fun _ => h9) F9⟩)
theorem cw_discard {p : Int32} (h : CoR m o) (ok : okO B o) (hQ0 : whyC (oA o) p = 0 → ∀ m9, CoR m9 (osPush o (asDis (oA o) (posI (aC (oA o)) p))) → FC m m9 → Q (.inl (some (vi 0)), G ((nI ((aC (oA o)).length - 1)).toInt64, x.2) m9))
    (hQk : ∀ k, k ≠ 0 → whyC (oA o) p = k → Q (.inl (some (vi (nI k))), Gu (1, 6) x m)) : Cl X (d + 5) 282 [vp 0 0, vi p, vp 43 0] (G x m) Q := by
  unfold whyC at hQ0 hQk
  refine vc_L_discard (sp_discard h.1 ok.1.len h.2.1 ok.hl (fun c => Or.inr ⟨_, _, _, rfl, fun _ => hQk 1 (by omega) (if_neg (by omega)), fun c => absurd rfl c⟩) (fun c m9 hS hH hF => Or.inl ⟨_, _, rfl, hQ0 (if_pos c) m9 (h.push ok hS hH hF) (tO_fc hF)⟩))
def whyMt (p : Int32) : Nat := if p = 109 ∨ p = 115 ∨ p = 103 then 0 else 1
theorem met_char {n : Nat} (h : okMet n) : ((nI n).toUInt32 % 65536).toInt32 = nI n := by
  rcases h with rfl | rfl | rfl <;> decide +kernel
theorem mw_setMetric {p : Int32} (h : MoR m o) (ok : okO B o) (hQ : mres m o (osPush o (asMt (oA o) (clN p))) (whyMt p) (nI (aMet (oA o))) Q x) : Cl X (d + 4) 180 [vp 31 0, vi p] (G x m) Q := by
  have hl := ok.1.len
  refine vc_X11_setMetric (mbeg h (fun m2 h2 h5 hb F2 => ⟨_, rfl, ?_⟩))
  unfold mres whyMt at hQ
  refine sp_misMt (fun hc => ⟨_, _, rfl, fun c => absurd c (by decide), fun _ => ?_⟩) (fun hc => ⟨_, _, rfl, fun _ m6 e6 => ?_, fun c => absurd rfl c⟩)
  · unfold isMt at hc
    rw [if_pos hc] at hQ
    refine sp_mmet h2.1 hc (fun m7 h7 F7 => ⟨_, _, rfl, mcom h ok h5 hb F2 h7 F7 (fun m9 h95 h9 F9 => ⟨_, _, rfl, ?_⟩)⟩)
    rw [met_char hl.2.2]
    exact ⟨okT_met hl.2.2, hQ m9 _ h95 (fun _ => ⟨rfl, h9⟩) (fun c2 => absurd rfl c2) F9⟩
  · unfold isMt at hc
    rw [if_neg hc] at hQ
    have F6 : Fk tBg m m6 := by rw [e6]; exact Fk.ups F2 (Or.inr ⟨rfl, rfl⟩)
    refine hQ m6 _ (by rw [e6, mup_eq]; rfl) (fun c2 => by omega) (fun _ => h.on (fun f i k hk => F6 f i k (by unfold kM at hk; unfold tBg; omega))) (F6.fm (fun f i k t => by unfold tBg at t; omega))
theorem cw_setMetric {p : Int32} (h : CoR m o) (ok : okO B o) (hQ0 : whyMt p = 0 → ∀ m9, CoR m9 (osPush o (asMt (oA o) (clN p))) → FC m m9 → Q (.inl (some (vi 0)), G ((nI (aMet (oA o))).toInt64, x.2) m9))
    (hQk : ∀ k, k ≠ 0 → whyMt p = k → Q (.inl (some (vi (nI k))), Gu (1, 6) x m)) : Cl X (d + 5) 283 [vp 0 0, vi p, vp 43 0] (G x m) Q := by
  unfold whyMt at hQ0 hQk
  refine vc_L_setMetric (sp_setMetric h.1 ok.1.len h.2.1 ok.hl (fun c => Or.inr ⟨_, _, _, rfl, fun _ => hQk 1 (by omega) (if_neg c), fun c => absurd rfl c⟩) (fun c m9 hS hH hF => Or.inl ⟨_, _, rfl, hQ0 (if_pos c) m9 (h.push ok hS hH hF) (tO_fc hF)⟩))
theorem mw_giveBack {p q : Int32} (h : MoR m o) (ok : okO B o) (hQ : mres m o (osPush o (asGive (oA o) (posI (aR (oA o)) p) (posI (aC (oA o)) q))) (whyGive (oA o) p q) (nI (rowD (aR (oA o)) (posI (aR (oA o)) p) 5)) Q x) : Cl X (d + 5) 183 [vp 31 0, vi p, vi q] (G x m) Q := by
  refine vc_X11_giveBack (mbeg h (fun m2 h2 h5 hb F2 => ⟨_, rfl, sp_mcanGive h2.1 ok.1 ⟨_, _, rfl, ?_⟩⟩))
  unfold mres at hQ
  have hw : whyGive (oA o) p q ≤ 2 := by unfold whyGive; split <;> (try split) <;> omega
  refine pk_le (whyGive (oA o) p q) 0 (fun c => ?_) (fun c => ?_)
  · have c0 : whyGive (oA o) p q = 0 := by omega
    have hc : posI (aR (oA o)) p < (aR (oA o)).length ∧ posI (aC (oA o)) q < (aC (oA o)).length := by
      unfold whyGive at c0
      split at c0
      · next h1 => exact h1
      · omega
    refine sp_gives h2.1 ok.1.len hc.1 hc.2 (fun m7 h7 F7 => ⟨_, _, rfl, mcom h ok h5 hb F2 h7 F7 (fun m9 h95 h9 F9 => ⟨_, _, rfl, hQ m9 _ ?_ (fun _ => ⟨rfl, h9⟩) (fun c2 => absurd c0 c2) F9⟩)⟩)
    rw [h95, c0]; rfl
  · exact mfl h F2 (fun m9 h95 h9 F9 => ⟨_, _, rfl, hQ m9 _ h95 (fun c2 => by omega) (fun _ => h9) F9⟩)
theorem cw_giveBack {p q : Int32} (h : CoR m o) (ok : okO B o) (hQ0 : whyGive (oA o) p q = 0 → ∀ m9, CoR m9 (osPush o (asGive (oA o) (posI (aR (oA o)) p) (posI (aC (oA o)) q))) → FC m m9 → Q (.inl (some (vi 0)), G ((nI (rowD (aR (oA o)) (posI (aR (oA o)) p) 5)).toInt64, x.2) m9))
    (hQk : ∀ k, k ≠ 0 → whyGive (oA o) p q = k → Q (.inl (some (vi (nI k))), Gu (1, 6) x m)) : Cl X (d + 5) 284 [vp 0 0, vi p, vi q, vp 43 0] (G x m) Q := by
  refine vc_L_giveBack (sp_giveBack h.1 ok.1 h.2.1 ok.hl (fun c => Or.inr ⟨_, _, _, rfl, fun _ => hQk 1 (by omega) c, fun c => absurd c (by decide), fun c => absurd rfl c.1⟩) (fun c => Or.inr ⟨_, _, _, rfl, fun c => absurd c (by decide), fun _ => hQk 2 (by omega) c, fun c => absurd rfl c.2⟩) (fun c m9 hS hH hF => Or.inl ⟨_, _, rfl, hQ0 c m9 (h.push ok hS hH hF) (tO_fc hF)⟩))
theorem mw_mix {p q : Int32} (h : MoR m o) (ok : okO B o) (hQ : mres m o (osPush o (asMix (oA o) (posI (aC (oA o)) p) (posI (aC (oA o)) q))) (whyMix (oA o) p q) (nI (aXC (oA o))) Q x) : Cl X (d + 4) 188 [vp 31 0, vi p, vi q] (G x m) Q := by
  refine vc_X11_mix (mbeg h (fun m2 h2 h5 hb F2 => ⟨_, rfl, sp_mcanMix h2.1 ok.1.len ⟨_, _, rfl, ?_⟩⟩))
  unfold mres at hQ
  have hw : whyMix (oA o) p q ≤ 2 := by unfold whyMix; split <;> (try split) <;> omega
  refine pk_le (whyMix (oA o) p q) 0 (fun c => ?_) (fun c => ?_)
  · have c0 : whyMix (oA o) p q = 0 := by omega
    have hc : (posI (aC (oA o)) p < (aC (oA o)).length ∧ posI (aC (oA o)) q < (aC (oA o)).length) ∧ ¬ p = q := by
      unfold whyMix at c0
      split at c0
      · next h1 => split at c0
                   · omega
                   · next h2 => exact ⟨h1, h2⟩
      · omega
    refine sp_mixes h2.1 ok.1 hc.1.1 hc.1.2 (fun e => hc.2 ?_) (fun m7 h7 F7 => ⟨_, _, rfl, mcom h ok h5 hb F2 h7 F7 (fun m9 h95 h9 F9 => ⟨_, _, rfl, hQ m9 _ ?_ (fun _ => ⟨rfl, h9⟩) (fun c2 => absurd c0 c2) F9⟩)⟩)
    · have e1 := posI_id hc.1.1
      rw [e, posI_id hc.1.2] at e1
      exact e1.symm
    · rw [h95, c0]; rfl
  · exact mfl h F2 (fun m9 h95 h9 F9 => ⟨_, _, rfl, hQ m9 _ h95 (fun c2 => by omega) (fun _ => h9) F9⟩)
theorem cw_mix {p q : Int32} (h : CoR m o) (ok : okO B o) (hQ0 : whyMix (oA o) p q = 0 → ∀ m9, CoR m9 (osPush o (asMix (oA o) (posI (aC (oA o)) p) (posI (aC (oA o)) q))) → FC m m9 → Q (.inl (some (vi 0)), G ((nI (aXC (oA o))).toInt64, x.2) m9))
    (hQk : ∀ k, k ≠ 0 → whyMix (oA o) p q = k → Q (.inl (some (vi (nI k))), Gu (1, 6) x m)) : Cl X (d + 5) 285 [vp 0 0, vi p, vi q, vp 43 0] (G x m) Q := by
  refine vc_L_mix (sp_mix h.1 ok.1 h.2.1 ok.hl (fun c => Or.inr ⟨_, _, _, rfl, fun _ => hQk 1 (by omega) c, fun c => absurd c (by decide), fun c => absurd rfl c.1⟩) (fun c => Or.inr ⟨_, _, _, rfl, fun c => absurd c (by decide), fun _ => hQk 2 (by omega) c, fun c => absurd rfl c.2⟩) (fun c m9 hS hH hF => Or.inl ⟨_, _, rfl, hQ0 c m9 (h.push ok hS hH hF) (tO_fc hF)⟩))
theorem mw_passDays {p : Int32} (h : MoR m o) (ok : okO B o) (hB : B < 2 ^ 29) (hQ : mres m o (osPush o (asDays (clN p) (oA o))) (whyDays p) (nI (greyN (aC (asDays (clN p) (oA o))))) Q x) : Cl X (d + 5) 194 [vp 31 0, vi p] (G x m) Q := by
  refine vc_X11_passDays (mbeg h (fun m2 h2 h5 hb F2 => ⟨_, rfl, ?_⟩))
  unfold mres whyDays at hQ
  refine sp_in 1 99 (fun hc => ⟨_, _, rfl, fun c => absurd c (by decide), fun _ => ?_⟩) (fun hc => ⟨_, _, rfl, fun _ => ?_, fun c => absurd rfl c⟩)
  · rw [if_pos hc] at hQ
    have e := inR_cl hc
    rw [e.1]
    refine sp_passes h2.1 ok.1 e.2.2 hB (fun m7 h7 F7 => ⟨_, _, rfl, mcom h ok h5 hb F2 h7 F7 (fun m9 h95 h9 F9 => ⟨_, _, rfl, hQ m9 _ h95 (fun _ => ⟨rfl, h9⟩) (fun c2 => absurd rfl c2) F9⟩)⟩)
  · rw [if_neg hc] at hQ
    exact mfl h F2 (fun m9 h95 h9 F9 => ⟨_, _, rfl, hQ m9 _ h95 (fun c2 => by omega) (fun _ => h9) F9⟩)
theorem sp_passDays {p : Int32} {a : AS} {H : List AS} {fl : Bool} (h : relS m 0 a) (ho : okA B a) (hB : B < 2 ^ 29) (hH : HyP fl m H) (hl : ∀ b ∈ H, lenOk b)
    (h1 : whyDays p = 1 → Q (.inr 0, Gu (1, 6) x m))
    (h0 : whyDays p = 0 → ∀ m9, relS m9 0 (asDays (clN p) a) → HyP fl m9 (hpush a H) → Fr (tO fl) m m9 → Q (.inl (some (vi (nI (greyN (aC (asDays (clN p) a)))))), G x m9)) : Cl X (d + 4) 9 [vp 0 0, vi p] (G x m) Q := by
  unfold whyDays at h1 h0
  have hn := ho.len
  refine vc_X10_passDays (sp_isb 1 99 (fun hc => ⟨_, _, rfl, fun _ => ?_, fun c => absurd (by decide) c⟩) (fun hc => ⟨_, _, rfl, fun c => absurd rfl c, fun _ => h1 (if_neg hc)⟩))
  have e := inR_cl hc
  refine sp_rem h hn hH hl (fun m9 hH9 hF9 => ⟨_, rfl, ?_⟩)
  have h9 : relS m9 0 a := h.on hn.1 hn.2.1 (fun f i k hi => hF9 f i k (by unfold inSt at hi; unfold tH; omega))
  have key : ∀ k, k ≤ clN p → ∀ m8, relS m8 0 (asDays k a) → HyP fl m8 (hpush a H) → Fr (inSt 0) m9 m8 → Wp X (d + 4) 9 (26, ([some (vp 0 0), some (vi (nI (clN p))), some (vi (nI k))], ([], G x m8))) Q := by
    refine lup (fun k hk ih m8 h8 hH8 hF8 => ?_)
    have hok := okA_days ho k
    refine vl_X10_passDays_26 (pk_le (clN p) k (fun c => ?_) (fun c => ?_))
    · have ek : k = clN p := by omega
      rw [ek] at h8 hok
      exact sp_greyN h8 hok ⟨_, _, rfl, h0 (if_pos hc) m8 h8 hH8 ((hF9.mono (fun f i hi => Or.inr (Or.inr hi))).tr (hF8.mono (fun f i hi => Or.inl hi)))⟩
    · refine sp_day1 h8 hok (by omega) (fun m7 h7 hF7 => ⟨_, rfl, fun t6 e6 => ?_⟩)
      rw [e6, nI_1]
      exact ih c m7 h7 (hH8.st (hl_push (ho := hn) hl) hF7) (hF8.tr hF7)
  rw [e.1]
  have e9 : clN (nI (clN p)) = clN p := nI_clamp (by omega)
  exact key 0 (by omega) m9 h9 hH9 Fr.rf
theorem cw_passDays {p : Int32} (h : CoR m o) (ok : okO B o) (hB : B < 2 ^ 29) (hQ0 : whyDays p = 0 → ∀ m9, CoR m9 (osPush o (asDays (clN p) (oA o))) → FC m m9 → Q (.inl (some (vi 0)), G ((nI (greyN (aC (asDays (clN p) (oA o))))).toInt64, x.2) m9))
    (hQk : ∀ k, k ≠ 0 → whyDays p = k → Q (.inl (some (vi (nI k))), Gu (1, 6) x m)) : Cl X (d + 5) 286 [vp 0 0, vi p, vp 43 0] (G x m) Q := by
  refine vc_L_passDays (sp_passDays h.1 ok.1 hB h.2.1 ok.hl (fun c => Or.inr ⟨_, _, _, rfl, fun _ => hQk 1 (by omega) c, fun c => absurd rfl c⟩) (fun c m9 hS hH hF => Or.inl ⟨_, _, rfl, hQ0 c m9 (h.push ok hS hH hF) (tO_fc hF)⟩))
end MUT
