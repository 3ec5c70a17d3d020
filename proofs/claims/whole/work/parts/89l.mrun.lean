/-! ===== SCRIPTS RUN: THE MODEL ===== -/
def tMs (f _i k : Nat) : Prop := (f = 31 ∧ (5 ≤ k ∧ k ≤ 9 ∨ 18 ≤ k ∧ k ≤ 22)) ∨ f = 32 ∨ f = 33 ∨ f = 35 ∨ (36 ≤ f ∧ f ≤ 38) ∨ f = 41 ∨ f = 42
theorem Fk.ms {m m9 : MI} (h : Fk tMs m m9) : FM m m9 := fun f i k hn => h f i k (by unfold tMs; omega)
theorem MoR.scr {m m9 : MI} {o : OS} {a : AS} {H : List AS} {W F K : Int32} (h : MoR m o) (hF : Fk tMs m m9) (hR : relR (m9 32 0) a) (hH : relMH m9 H) (hb : m9 31 0 18 = 0) (hw : m9 31 0 7 = W) (hf : m9 31 0 8 = F) (hk : m9 31 0 9 = (if F < 0 then 0 else K)) : MoR m9 (osScr o a H W F K) := by
  obtain ⟨h1, h2, h3, h4, h5, h6, h7, h8⟩ := h
  have e34 : m9 34 0 = m 34 0 := funext fun k => hF 34 0 k (by unfold tMs; omega)
  refine ⟨hR, hH, ?_, ⟨hb, fun k hk => absurd hk (Nat.not_lt_zero k)⟩, ⟨?_, fun k hk => ?_⟩, hw, hf, hk⟩
  · unfold snM
    rw [hF 31 0 10 (by unfold tMs; omega), e34]
    exact h3
  · rw [hF 31 0 14 (by unfold tMs; omega)]; exact h5.1
  · rw [hF 39 0 k (by unfold tMs; omega)]; exact h5.2 k hk
section RUNM
variable {X : MX} {d : Nat} {x : Int64 × UInt64} {m : MI} {Q : MRes → Prop} {o : OS} {B : Nat}
theorem mw_run {R : Option Nat × List Cmd} (hR : psF (oB o) 16 0 [] = R) (h : MoR m o) (ok : okO B o) (hB : B < 2 ^ 28)
    (h1 : ∀ q, R.1 = some q → q ≤ 60 → ∀ m9 v, m9 31 0 5 = 1 → MoR m9 (osScr o (oA o) (oH o) (nI q) (oF o) (oK o)) → FM m m9 → Q (.inl (some (vi v)), G x m9))
    (h2 : R.1 = none → ∀ i w, (runS R.2 0 (oA o)).1 = some (i, w) → ∀ m9 v, m9 31 0 5 = 2 → MoR m9 (osScr o (oA o) (oH o) (oW o) (nI i) (nI w)) → FM m m9 → Q (.inl (some (vi v)), G x m9))
    (h0 : R.1 = none → (runS R.2 0 (oA o)).1 = none → ∀ m9, m9 31 0 5 = 0 → MoR m9 (osScr o (runS R.2 0 (oA o)).2 (hpush (oA o) (oH o)) (oW o) (oF o) (oK o)) → FM m m9 → Q (.inl (some (vi (nI R.2.length))), G x m9)) : Cl X (d + 8) 271 [vp 31 0] (G x m) Q := by
  have hl60 := ok.2.2.2.1.1
  have hc126 : ∀ c ∈ oB o, c ≤ 126 := fun c hc => (ok.2.2.2.1.2 c hc).2
  have hok : ∀ c ∈ R.2, cOk c := by rw [← hR]; exact psF_ok 16 0 [] (fun c hc => absurd hc List.not_mem_nil)
  have hla := ok.1.len
  obtain ⟨g1, g2, g3, g4, g5, g6, g7, g8⟩ := h
  have h : MoR m o := ⟨g1, g2, g3, g4, g5, g6, g7, g8⟩
  refine vc_X11_runScript (sp_begin (fun m2 h5 hb F2 => ⟨_, rfl, ?_⟩))
  have t2 : txt m2 31 18 40 (oB o) := ⟨by rw [F2 31 0 18 (by unfold tBg; omega)]; exact g4.1, fun k hk => by rw [F2 40 0 k (by unfold tBg; omega)]; exact g4.2 k hk⟩
  refine sp_mparse hR t2 hl60 hc126 (fun e1 m4 w4 b4 n4 L4 A4 c4 K4 => ⟨_, rfl, fun _ => ?_, fun c => absurd w4 c⟩) (fun q e1 hq m4 w4 b4 p4 K4 => ⟨_, rfl, fun c => absurd (w4.symm.trans c) (by decide), fun _ m6 e6 => ?_⟩)
  · have F4 : ∀ f i k, ¬ ((f = 31 ∧ (k = 5 ∨ 18 ≤ k ∧ k ≤ 22)) ∨ f = 33 ∨ f = 41 ∨ f = 42) → m4 f i k = m f i k := fun f i k hn => by
      rw [K4 f i k (by omega)]; exact F2 f i k (by unfold tBg; omega)
    have e33 : ∀ k, k < 136 → m4 33 0 k = m 32 0 k := fun k hk => by rw [K4 33 0 k (by omega)]; exact hb k hk
    have e5 : m4 31 0 5 = 0 := by rw [K4 31 0 5 (by omega)]; exact h5
    have R33 : relR (m4 33 0) (oA o) := g1.on hla e33
    have key : ∀ j i a m9 l1 o3 o4, i + j = R.2.length → relR (m9 32 0) a → okA (B + 99 * i) a → Fk t37 m4 m9 → runS R.2 0 (oA o) = runS (R.2.drop i) i a → Wp X (d + 8) 271 (33, ([some (vp 31 0), some (vi l1), some (vi (nI i)), o3, o4], ([], G x m9))) Q := by
      intro j
      induction j with
      | zero =>
        intro i a m9 l1 o3 o4 hij R9 O9 F9 er
        obtain rfl : i = R.2.length := by omega
        rw [List.drop_length] at er
        have er : runS R.2 0 (oA o) = (none, a) := er
        refine vl_X11_runScript_33 ?_
        rw [F9 31 0 21 (by unfold t37; omega), n4]
        refine ⟨fun _ => ?_, fun c => absurd (nI_le (Nat.le_refl _) (by omega)) c⟩
        have R39 : relR (m9 33 0) (oA o) := R33.on hla (fun k hk => F9 33 0 k (by unfold t37; omega))
        have H9 : relMH m9 (oH o) := g2.on (by rw [F9 31 0 6 (by unfold t37; omega)]; exact F4 31 0 6 (by omega)) (fun k => by rw [F9 35 0 k (by unfold t37; omega)]; exact F4 35 0 k (by omega))
        refine sp_commit R39 hla H9 ok.hl (fun m3 H3 F3 => ⟨_, _, rfl, ?_⟩)
        have g3f : ∀ f i k, ¬ (t37 f i k ∨ tCm f i k) → m3 f i k = m4 f i k := fun f i k hn => by
          rw [F3 f i k (fun z => hn (Or.inr z))]; exact F9 f i k (fun z => hn (Or.inl z))
        have F3m : Fk tMs m m3 := fun f i k hn => by
          rw [g3f f i k (by unfold tMs at hn; unfold t37 tCm; omega)]; exact F4 f i k (by unfold tMs at hn; omega)
        refine h0 e1 (by rw [er]) m3 ?_ (h.scr F3m ?_ H3 ?_ ?_ ?_ ?_) F3m.ms
        · rw [g3f 31 0 5 (by unfold t37 tCm; omega)]; exact e5
        · rw [er]
          exact R9.on O9.len (fun k hk => F3 32 0 k (by unfold tCm; omega))
        · rw [g3f 31 0 18 (by unfold t37 tCm; omega)]; exact b4
        · rw [g3f 31 0 7 (by unfold t37 tCm; omega), F4 31 0 7 (by omega)]; exact g6
        · rw [g3f 31 0 8 (by unfold t37 tCm; omega), F4 31 0 8 (by omega)]; exact g7
        · rw [g3f 31 0 9 (by unfold t37 tCm; omega), F4 31 0 9 (by omega)]; exact g8
      | succ j ih =>
        intro i a m9 l1 o3 o4 hij R9 O9 F9 er
        have hi : i < R.2.length := by omega
        rw [run_cons hi] at er
        have hco := hok _ (cs_mem hi)
        have hL := L4 i hi
        have hA := A4 i hi
        generalize R.2.getD i (0, []) = c at *
        have hcb := cBad_v (a := a) hco
        refine vl_X11_runScript_33 ?_
        rw [F9 31 0 21 (by unfold t37; omega), n4]
        refine ⟨fun c => absurd c (nI_ge hi (by omega)), fun _ t4 e4 => ?_⟩
        have et : t4 = nI (8 * i) := by rw [e4, show (8 : Int32) = nI 8 from rfl, pk_mul]
        have ix : ∀ k, k ≤ 4 → (nI (8 * i) + nI k).toNatClampNeg = 8 * i + k ∧ inb (nI (8 * i) + nI k) 256 = true := fun k hk => by
          rw [nI_add]
          exact ⟨nI_clamp (by omega), inb_n (8 * i + k) 256 (by omega)⟩
        have i1 := ix 1 (by omega)
        have i2 := ix 2 (by omega)
        have i3 := ix 3 (by omega)
        have i4 := ix 4 (by omega)
        have args : ∀ m8 : MI, (∀ k, m8 42 0 k = m4 42 0 k) → ∀ k, k < (cmM c).2.length → [m8 42 0 (8 * i), m8 42 0 (8 * i + 1), m8 42 0 (8 * i + 2), m8 42 0 (8 * i + 3), m8 42 0 (8 * i + 4)].getD k 0 = nI ((cmM c).2.getD k 0) := fun m8 h8 k hk => by
          have := hL.2 k hk
          have hk5 : k = 0 ∨ k = 1 ∨ k = 2 ∨ k = 3 ∨ k = 4 := by omega
          rcases hk5 with rfl | rfl | rfl | rfl | rfl <;> exact (h8 _).trans this
        have F42 : ∀ k, m9 42 0 k = m4 42 0 k := fun k => F9 42 0 k (by unfold t37; omega)
        rw [et]
        rw [show (1 : Int32) = nI 1 from rfl, show (2 : Int32) = nI 2 from rfl, show (3 : Int32) = nI 3 from rfl, show (4 : Int32) = nI 4 from rfl] at *
        rw [i1.1, i2.1, i3.1, i4.1, nI_clamp (n := 8 * i) (by omega), nI_clamp (n := i) (by omega)]
        refine ⟨inb_n i 32 (by omega), inb_n (8 * i) 256 (by omega), i1.2, i2.2, i3.2, i4.2, ?_⟩
        rw [F9 41 0 i (by unfold t37; omega), hL.1]
        refine sp_why hco (args m9 F42) R9 O9 ⟨_, _, rfl, fun z => ?_, fun z => ⟨inb_n i 32 (by omega), inb_n (8 * i) 256 (by omega), i1.2, i2.2, i3.2, i4.2, ?_⟩⟩
        · have hv : cBad c a ≠ 0 := fun y => z (by rw [y]; rfl)
          rw [if_neg hv] at er
          refine sp_cp_33_32 (p := 0) (q := 0) (by omega) (by omega) ⟨_, rfl, fun m10 e10 m11 e11 => sp_fail (fun m13 h13 F13 => ⟨_, _, rfl, ?_⟩)⟩
          have g13 : ∀ f i k, ¬ (t37 f i k ∨ (f = 31 ∧ (k = 5 ∨ k = 8 ∨ k = 9))) → m13 f i k = m4 f i k := fun f i k hn => by
            rw [F13 f i k (by unfold t37 at hn; unfold tTh; omega), e11, mup_no (by omega), e10, mup_no (by omega), cpM_no (by unfold t37 at hn; omega)]
            exact F9 f i k (fun z => hn (Or.inl z))
          have F13m : Fk tMs m m13 := fun f i k hn => by
            rw [g13 f i k (by unfold tMs at hn; unfold t37; omega)]; exact F4 f i k (by unfold tMs at hn; omega)
          refine h2 e1 i (cBad c a) (by rw [er]) m13 _ h13 (h.scr F13m ?_ ?_ ?_ ?_ ?_ ?_) F13m.ms
          · refine R33.on hla (fun k hk => ?_)
            rw [F13 32 0 k (by unfold tTh; omega), e11, mup_no (by omega), e10, mup_no (by omega)]
            have := cpM_in (m := m9) (A := 33) (B := 32) (p := 0) (q := 0) hk
            rw [Nat.zero_add] at this
            rw [this]
            exact F9 33 0 k (by unfold t37; omega)
          · exact g2.on (by rw [g13 31 0 6 (by unfold t37; omega)]; exact F4 31 0 6 (by omega)) (fun k => by rw [g13 35 0 k (by unfold t37; omega)]; exact F4 35 0 k (by omega))
          · rw [g13 31 0 18 (by unfold t37; omega)]; exact b4
          · rw [g13 31 0 7 (by unfold t37; omega), F4 31 0 7 (by omega)]; exact g6
          · rw [F13 31 0 8 (by unfold tTh; omega), e11, mup_no (by omega), e10, mup_eq]
          · rw [F13 31 0 9 (by unfold tTh; omega), e11, mup_eq, if_neg (nI_pos (by omega))]
        · have hv : cBad c a = 0 := by
            have := (nI_eq (a := cBad c a) (b := 0) (by omega) (by omega)).mp (Decidable.not_not.mp z)
            exact this
          rw [if_pos hv] at er
          rw [F9 41 0 i (by unfold t37; omega), hL.1]
          refine sp_does hco (args m9 F42) R9 O9 (by omega) hv (fun m15 v15 R15 F15 => ⟨_, _, rfl, fun t16 e16 => ?_⟩)
          rw [e16, nI_add]
          exact ih (i + 1) (cDo c a) m15 _ _ _ (by omega) R15 ((okA_cDo O9 hco hv).mono (by omega)) (F9.tr F15) er
    exact key R.2.length 0 (oA o) m4 0 none none (by omega) (g1.on hla (fun k hk => F4 32 0 k (by omega))) (ok.1.mono (by omega)) Fk.rf (by rw [List.drop_zero])
  · refine sp_fail (fun m8 h8 F8 => ⟨_, _, rfl, ?_⟩)
    have g8f : ∀ f i k, ¬ ((f = 31 ∧ (k = 5 ∨ k = 7 ∨ 18 ≤ k ∧ k ≤ 22)) ∨ f = 33 ∨ f = 41 ∨ f = 42) → m8 f i k = m f i k := fun f i k hn => by
      rw [F8 f i k (by unfold tTh; omega), e6, mup_no (by omega), K4 f i k (by omega)]; exact F2 f i k (by unfold tBg; omega)
    have F8m : Fk tMs m m8 := fun f i k hn => g8f f i k (by unfold tMs at hn; omega)
    refine h1 q e1 hq m8 _ h8 (h.scr F8m ?_ ?_ ?_ ?_ ?_ ?_) F8m.ms
    · exact g1.on hla (fun k hk => g8f 32 0 k (by omega))
    · exact g2.on (g8f 31 0 6 (by omega)) (fun k => g8f 35 0 k (by omega))
    · rw [F8 31 0 18 (by unfold tTh; omega), e6, mup_no (by omega)]; exact b4
    · rw [F8 31 0 7 (by unfold tTh; omega), e6, mup_eq]; exact p4
    · rw [g8f 31 0 8 (by omega)]; exact g7
    · rw [g8f 31 0 9 (by omega)]; exact g8
end RUNM
