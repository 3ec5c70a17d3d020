/-! ===== SCRIPTS RUN: THE CLASS ===== -/
def runS : List Cmd → Nat → AS → Option (Nat × Nat) × AS
  | [], _, a => (none, a)
  | c :: cs, i, a => if cBad c a = 0 then runS cs (i + 1) (cDo c a) else (some (i, cBad c a), a)
theorem cE_v {n u v : Nat} (hu : 97 ≤ u ∧ u ≤ 117) (hv : 97 ≤ v ∧ v ≤ 117) : cE n u v = 0 ∨ (97 ≤ cE n u v ∧ cE n u v ≤ 117) := by
  unfold cE
  split
  · exact Or.inr hu
  · split
    · exact Or.inr hv
    · exact Or.inl rfl
theorem if_v {p : Prop} [Decidable p] : (if p then 0 else 101) = 0 ∨ (97 ≤ (if p then 0 else 101) ∧ (if p then 0 else 101) ≤ 117) := by
  by_cases h : p
  · rw [if_pos h]; exact Or.inl rfl
  · rw [if_neg h]; exact Or.inr (by decide)
theorem cBad_v {c : Cmd} {a : AS} (hc : cOk c) : cBad c a = 0 ∨ (97 ≤ cBad c a ∧ cBad c a ≤ 117) := by
  obtain ⟨k, as⟩ := c
  have hk : k < 10 := hc.1
  have hk9 : k = 0 ∨ k = 1 ∨ k = 2 ∨ k = 3 ∨ k = 4 ∨ k = 5 ∨ k = 6 ∨ k = 7 ∨ k = 8 ∨ k = 9 := by omega
  rcases hk9 with rfl | rfl | rfl | rfl | rfl | rfl | rfl | rfl | rfl | rfl
  · exact cE_v (by decide) (by decide)
  · exact cE_v (by decide) (by decide)
  · exact if_v
  · exact if_v
  · exact Or.inl rfl
  · exact cE_v (by decide) (by decide)
  · exact Or.inl rfl
  · exact cE_v (by decide) (by decide)
  · exact Or.inl rfl
  · exact cE_v (by decide) (by decide)
theorem run_cons {cs : List Cmd} {i : Nat} {a : AS} (hi : i < cs.length) : runS (cs.drop i) i a = if cBad (cs.getD i (0, [])) a = 0 then runS (cs.drop (i + 1)) (i + 1) (cDo (cs.getD i (0, [])) a) else (some (i, cBad (cs.getD i (0, [])) a), a) := by
  have e : cs.drop i = cs.getD i (0, []) :: cs.drop (i + 1) := by
    rw [List.drop_eq_getElem_cons hi, List.getD_eq_getElem?_getD, List.getElem?_eq_getElem hi]; rfl
  rw [e]; rfl
theorem cs_mem {cs : List Cmd} {i : Nat} (hi : i < cs.length) : cs.getD i (0, []) ∈ cs := by
  rw [List.getD_eq_getElem?_getD, List.getElem?_eq_getElem hi]; exact List.getElem_mem hi
theorem run_ok {B : Nat} : ∀ (cs : List Cmd) (i : Nat) (a : AS), (∀ c ∈ cs, cOk c) → okA B a → okA (B + 99 * cs.length) (runS cs i a).2
  | [], _, a, _, h => h
  | c :: cs, i, a, hc, h => by
    show okA (B + 99 * (cs.length + 1)) (if cBad c a = 0 then runS cs (i + 1) (cDo c a) else (some (i, cBad c a), a)).2
    by_cases hb : cBad c a = 0
    · rw [if_pos hb]
      have := run_ok cs (i + 1) (cDo c a) (fun w hw => hc w (List.mem_cons_of_mem c hw)) (okA_cDo h (hc c List.mem_cons_self) hb)
      exact this.mono (by omega)
    · rw [if_neg hb]; exact h.mono (by omega)
theorem run_f {v i9 : Nat} : ∀ (cs : List Cmd) (i : Nat) (a : AS), (∀ c ∈ cs, cOk c) → (runS cs i a).1 = some (i9, v) → i9 < i + cs.length ∧ 97 ≤ v ∧ v ≤ 117
  | [], _, a, _, h => by cases h
  | c :: cs, i, a, hc, h => by
    have h : (if cBad c a = 0 then runS cs (i + 1) (cDo c a) else (some (i, cBad c a), a)).1 = some (i9, v) := h
    by_cases hb : cBad c a = 0
    · rw [if_pos hb] at h
      have := run_f cs (i + 1) (cDo c a) (fun w hw => hc w (List.mem_cons_of_mem c hw)) h
      show i9 < i + (cs.length + 1) ∧ _
      omega
    · rw [if_neg hb] at h
      have cv := cBad_v (a := a) (hc c List.mem_cons_self)
      have h : some (i, cBad c a) = some (i9, v) := h
      cases h
      show i9 < i9 + (cs.length + 1) ∧ _
      omega
abbrev osScr (o : OS) (a : AS) (H : List AS) (W F K : Int32) : OS := (a, (H, (oS o, (([], oT o), (W, (F, K))))))
theorem okO_scr {B C : Nat} {o : OS} {a : AS} {H : List AS} {W F K : Int32} (ok : okO B o) (hBC : B ≤ C) (ha : okA C a) (hH : ∀ b ∈ H, okA C b) (hF : (F < 0 ∧ K = 45) ∨ (0 ≤ F ∧ ∃ k, 1 ≤ k ∧ k ≤ 126 ∧ K = nI k)) : okO C (osScr o a H W F K) :=
  ⟨ha, hH, fun b hb => (ok.2.2.1 b hb).mono hBC, ⟨Nat.zero_le _, fun c hc => absurd hc List.not_mem_nil⟩, ok.2.2.2.2.1, hF⟩
def tSc0 (f i k : Nat) : Prop := (f = 0 ∧ 11 ≤ k ∧ k ≤ 14) ∨ inSt 0 f i ∨ inSt 1 f i ∨ (11 ≤ f ∧ f ≤ 22 ∧ ¬ (f = 18 ∧ i = 0)) ∨ f = 23 ∨ f = 25 ∨ f = 27
theorem tO_sc {f i k : Nat} (h : tO true f i) : tSc0 f i k := by
  rcases h with z | z | z
  · exact Or.inr (Or.inl z)
  · exact Or.inr (Or.inr (Or.inr (Or.inl z)))
  · cases z.1
def tSc (f i k : Nat) : Prop := tSc0 f i k ∨ tH f i
theorem Fk.sc {m m9 : MI} (h : Fk tSc m m9) : FC m m9 := fun f i k hn => h f i k (by unfold tSc tSc0 tH inSt; omega)
theorem CoR.scr {m m9 : MI} {B : Nat} {o : OS} {a : AS} {H : List AS} {W F K : Int32} (h : CoR m o) (ok : okO B o) (hF : Fk tSc m m9) (hS : relS m9 0 a) (hH : HyP false m9 H) (hb : m9 23 0 1 = 0) (hw : m9 0 0 12 = W) (hf : m9 0 0 13 = F) (hk : m9 0 0 14 = K) : CoR m9 (osScr o a H W F K) := by
  obtain ⟨h1, h2, h3, h4, h5, h6, h7, h8⟩ := h
  refine ⟨hS, hH, ?_, ⟨hb, fun k hk => absurd hk (Nat.not_lt_zero k)⟩, ⟨?_, fun k hk => ?_⟩, hw, hf, hk⟩
  · rcases h3 with ⟨e, h3⟩ | ⟨b, e, h3, h9⟩
    · exact Or.inl ⟨e, by rw [hF 0 0 10 (by unfold tSc tSc0 tH inSt; omega)]; exact h3⟩
    · have hb := (ok.2.2.1 b e).len
      exact Or.inr ⟨b, e, by rw [hF 0 0 10 (by unfold tSc tSc0 tH inSt; omega)]; exact h3, h9.on hb.1 hb.2.1 (fun f i k hi => hF f i k (by unfold inSt at hi; unfold tSc tSc0 tH inSt; omega))⟩
  · rw [hF 28 0 1 (by unfold tSc tSc0 tH inSt; omega)]; exact h5.1
  · rw [hF 29 0 k (by unfold tSc tSc0 tH inSt; omega)]; exact h5.2 k hk
section RUNC
variable {X : MX} {d : Nat} {x : Int64 × UInt64} {m : MI} {Q : MRes → Prop} {o : OS} {B : Nat}
theorem vl_rs56u {u : Nat × Nat} {l1 l2 l3 : Int32} (hl : ¬ l2 = 45) (h : ∀ m2 : MI, m2 = mup m 0 0 11 0 → Cl X d 71 [vp 1 0, vp 1 1] (G x m2) (fun r => ∃ (m7 : MI), r = (.inl none, G x m7) ∧ Q (.inr 1, Gu (1 + u.1, 6 + u.2) x m7))) : Wp X (d + 1) 50 (56, ([some (vp 0 0), some (vi l1), some (vi l2), some (vi l3)], ([], Gu u x m))) Q := by
  have tail : Wp X (d + 1) 50 (122, ([some (vp 0 0), some (vi l1), some (vi l2), some (vi l3)], ([], Gu u x m))) Q := by
    refine wp_run 3 true (127, ([some (vp 0 0), some (vi l1), some (vi l2), some (vi l3)], ([], Gu u x (mup m 0 0 11 0)))) rfl rfl ?_
    refine wpg (fun m2 => Wp X (d + 1) 50 (127, ([some (vp 0 0), some (vi l1), some (vi l2), some (vi l3)], ([], Gu u x m2))) Q) (mup m 0 0 11 0) (fun m2 hm2 => ?_)
    have h := h m2 hm2
    refine wp_run 3 true ((bif decide (l2 = 45) then 155 else 133), ([some (vp 0 0), some (vi l1), some (vi l2), some (vi l3)], ([], Gu u x m2))) rfl rfl ?_
    refine wp_if (l2 = 45) (fun c3 => absurd c3 hl) (fun c3 => ?_)
    refine wp_run 4 true (141, ([some (vp 0 0), some (vi l1), some (vi l2), some (vi l3)], ([vp 1 1, vp 1 0], Gu u x m2))) rfl rfl ?_
    refine wp_call 71 [vp 1 0, vp 1 1] (144, ([some (vp 0 0), some (vi l1), some (vi l2), some (vi l3)], ([], Gu u x m2))) rfl rfl (Cl.mono h (Nat.le_refl _) ?_)
    rintro r ⟨m7, rfl, h⟩
    show Wp X (d + 1) 50 (144, ([some (vp 0 0), some (vi l1), some (vi l2), some (vi l3)], ([], Gu u x m7))) Q
    exact wp_thr rfl rfl h
  refine wp_run 5 true ((bif decide ((m 23 0 5) ≤ l3) then 122 else 67), ([some (vp 0 0), some (vi l1), some (vi l2), some (vi l3)], ([], Gu u x m))) rfl rfl ?_
  refine wp_if ((m 23 0 5) ≤ l3) (fun c1 => tail) (fun c1 => ?_)
  refine wp_run 3 true ((bif decide (¬ l2 = 45) then 122 else 73), ([some (vp 0 0), some (vi l1), some (vi l2), some (vi l3)], ([], Gu u x m))) rfl rfl ?_
  exact wp_if (¬ l2 = 45) (fun c8 => tail) (fun c8 => absurd hl c8)
theorem cw_run {R : Option Nat × List Cmd} (hR : psF (oB o) 16 0 [] = R) (h : CoR m o) (ok : okO B o) (hB : B < 2 ^ 28) (hz : ∀ s, m 18 0 s = 0)
    (h1 : ∀ q, R.1 = some q → q ≤ 60 → ∀ m9, CoR m9 (osScr o (oA o) (oH o) (nI q) (oF o) (oK o)) → FC m m9 → Q (.inr 0, Gu (1, 6) x m9))
    (h2 : R.1 = none → ∀ i v, (runS R.2 0 (oA o)).1 = some (i, v) → ∀ m9, CoR m9 (osScr o (oA o) (oH o) (oW o) (nI i) (nI v)) → FC m m9 → Q (.inr 1, Gu (2, 12) x m9))
    (h0 : R.1 = none → (runS R.2 0 (oA o)).1 = none → ∀ m9, CoR m9 (osScr o (runS R.2 0 (oA o)).2 (hpush (oA o) (oH o)) (oW o) (oF o) (oK o)) → FC m m9 → Q (.inl (some (vi (nI R.2.length))), G x m9)) : Cl X (d + 7) 50 [vp 0 0] (G x m) Q := by
  have hl60 := ok.2.2.2.1.1
  have hc126 : ∀ c ∈ oB o, c ≤ 126 := fun c hc => (ok.2.2.2.1.2 c hc).2
  have hok : ∀ c ∈ R.2, cOk c := by rw [← hR]; exact psF_ok 16 0 [] (fun c hc => absurd hc List.not_mem_nil)
  have hla := ok.1.len
  have rest : ∀ {m9 : MI}, Fk tSc0 m m9 → relS m9 0 (oA o) → m9 0 0 11 = 0 → m9 23 0 1 = 0 → ∀ {W F K : Int32}, m9 0 0 12 = W → m9 0 0 13 = F → m9 0 0 14 = K → CoR m9 (osScr o (oA o) (oH o) W F K) := fun {m9} hF hS h11 hb W F K hw hf hk => by
    refine h.scr ok (hF.mono (fun f i k z => Or.inl z)) hS ⟨h11, fun _ => ?_⟩ hb hw hf hk
    exact (h.2.1.2 rfl).on ok.hl (fun f i k ht => hF f i k (by unfold tH at ht; unfold tSc0 inSt; omega))
  refine vc_X10_runScript (sp_parse hR h.2.2.2.1 hl60 hc126 (fun e1 m2 t2 c2 L2 n2 K2 => ⟨_, _, rfl, ?_⟩) (fun q e1 hq m2 t2 K2 => ⟨_, _, rfl, ?_⟩))
  · refine vc_X5_empty (fun m4 e4 => ⟨_, rfl, fun _ => ?_, fun c => absurd (by decide) c⟩)
    have F4 : ∀ f i k, ¬ (f = 23 ∨ f = 25 ∨ f = 27) → m4 f i k = m f i k := fun f i k hn => by rw [e4, mup_no (by omega)]; exact K2 f i k (by omega)
    have S4 : relS m4 0 (oA o) := h.1.on hla.1 hla.2.1 (fun f i k hi => F4 f i k (by unfold inSt at hi; omega))
    refine sp_cpyS S4 hla.1 hla.2.1 hla.2.2 (by decide) (fun m7 S7 F7 => ⟨_, rfl, fun m8 e8 => ?_⟩)
    have F8 : ∀ f i k, ¬ (f = 23 ∨ f = 25 ∨ f = 27 ∨ inSt 1 f i ∨ (f = 0 ∧ k = 11)) → m8 f i k = m f i k := fun f i k hn => by
      rw [e8, mup_no (by omega), F7 f i k (by unfold inSt at hn ⊢; omega)]
      exact F4 f i k (by omega)
    have S8 : relS m8 1 (oA o) := S7.on hla.1 hla.2.1 (fun f i k hi => by rw [e8, mup_no (by unfold inSt at hi; omega)])
    have b8 : m8 23 0 1 = 0 := by rw [e8, mup_no (by omega), F7 23 0 1 (by unfold inSt; omega), e4, mup_eq]
    have n8 : m8 23 0 5 = nI R.2.length := by rw [e8, mup_no (by omega), F7 23 0 5 (by unfold inSt; omega), e4, mup_no (by omega)]; exact c2
    have L8 : laid m8 R.2 := fun i hi => by
      refine ⟨?_, fun j hj => ?_⟩
      · rw [e8, mup_no (by omega), F7 25 0 i (by unfold inSt; omega), e4, mup_no (by omega)]; exact (L2 i hi).1
      · rw [e8, mup_no (by omega), F7 27 i j (by unfold inSt; omega), e4, mup_no (by omega)]; exact (L2 i hi).2 j hj
    have h118 : m8 0 0 11 = 1 := by rw [e8, mup_eq]
    have key : ∀ j i a m9, i + j = R.2.length → relS m9 0 a → okA (B + 99 * i) a → Fr (tO true) m8 m9 → runS R.2 0 (oA o) = runS (R.2.drop i) i a → Wp X (d + 7) 50 (56, ([some (vp 0 0), some (vi (-1)), some (vi 45), some (vi (nI i))], ([], G x m9))) Q := by
      intro j
      induction j with
      | zero =>
        intro i a m9 hij S9 O9 F9 er
        obtain rfl : i = R.2.length := by omega
        rw [List.drop_length] at er
        have er : runS R.2 0 (oA o) = (none, a) := er
        refine vl_X10_runScript_56 ?_
        rw [F9 23 0 5 (by unfold tO inSt tH; omega), n8]
        refine ⟨fun _ m2 e2 => ⟨fun _ => ?_, fun c => absurd rfl c⟩, fun c => absurd (nI_le (Nat.le_refl _) (by omega)) c⟩
        have F2 : ∀ f i k, ¬ (tO true f i ∨ (f = 0 ∧ k = 11)) → m2 f i k = m8 f i k := fun f i k hn => by
          rw [e2, mup_no (by omega)]; exact F9 f i k (fun z => hn (Or.inl z))
        have F2m : Fk tSc0 m m2 := fun f i k hn => by
          rw [F2 f i k (fun z => hn (by rcases z with z | z; exact tO_sc z; exact Or.inl ⟨z.1, by omega⟩))]
          exact F8 f i k (by unfold tSc0 inSt at hn; unfold inSt; omega)
        have S21 : relS m2 1 (oA o) := S8.on hla.1 hla.2.1 (fun f i k hi => F2 f i k (by unfold inSt at hi; unfold tO inSt tH; omega))
        have S20 : relS m2 0 a := S9.on O9.len.1 O9.len.2.1 (fun f i k hi => by rw [e2, mup_no (by unfold inSt at hi; omega)])
        have H2 : relH m2 (oH o) := (h.2.1.2 rfl).on ok.hl (fun f i k ht => F2m f i k (by unfold tH at ht; unfold tSc0 inSt; omega))
        refine sp_push S21 (by decide) hla H2 ok.hl (fun m5 H5 F5 => ⟨_, rfl, ?_⟩)
        have g5 : ∀ f i k, ¬ (tO true f i ∨ (f = 0 ∧ k = 11) ∨ tH f i) → m5 f i k = m8 f i k := fun f i k hn => by
          rw [F5 f i k (fun z => hn (Or.inr (Or.inr z)))]; exact F2 f i k (fun z => hn (by rcases z with z | z; exact Or.inl z; exact Or.inr (Or.inl z)))
        rw [g5 23 0 5 (by unfold tO inSt tH; omega), n8]
        have F5m : Fk tSc m m5 := fun f i k hn => by
          rw [F5 f i k (fun z => hn (Or.inr z))]; exact F2m f i k (fun z => hn (Or.inl z))
        refine h0 e1 (by rw [er]) m5 (h.scr ok F5m ?_ ⟨?_, fun _ => H5⟩ ?_ ?_ ?_ ?_) F5m.sc
        · rw [er]
          exact S20.on O9.len.1 O9.len.2.1 (fun f i k hi => F5 f i k (by unfold inSt at hi; unfold tH; omega))
        · rw [F5 0 0 11 (by unfold tH; omega), e2, mup_eq]; rfl
        · rw [g5 23 0 1 (by unfold tO inSt tH; omega), b8]
        · rw [g5 0 0 12 (by unfold tO inSt tH; omega), F8 0 0 12 (by unfold inSt; omega)]; exact h.2.2.2.2.2.1
        · rw [g5 0 0 13 (by unfold tO inSt tH; omega), F8 0 0 13 (by unfold inSt; omega)]; exact h.2.2.2.2.2.2.1
        · rw [g5 0 0 14 (by unfold tO inSt tH; omega), F8 0 0 14 (by unfold inSt; omega)]; exact h.2.2.2.2.2.2.2
      | succ j ih =>
        intro i a m9 hij S9 O9 F9 er
        have hi : i < R.2.length := by omega
        rw [run_cons hi] at er
        have hco := hok _ (cs_mem hi)
        have hL := L8 i hi
        generalize R.2.getD i (0, []) = c at *
        have hcb := cBad_v (a := a) hco
        have hc10 := hco.1
        refine vl_X10_runScript_56 ?_
        rw [F9 23 0 5 (by unfold tO inSt tH; omega), n8, nI_clamp (n := i) (by omega), F9 25 0 i (by unfold tO inSt tH; omega), hL.1, nI_clamp (n := c.1) (by omega)]
        refine ⟨fun c => absurd c (nI_ge hi (by omega)), fun _ => ⟨fun c => absurd rfl c, fun _ => ⟨inb_n i 16 (by omega), inb_n c.1 10 hc10, inb_n i 16 (by omega), ?_⟩⟩⟩
        refine sp_ccmd hco (fun j9 hj9 => by rw [F9 27 i j9 (by unfold tO inSt tH; omega)]; exact hL.2 j9 hj9) S9 O9 (by omega) (fun s => ?_) ?_ (fun v hv ev => ⟨_, _, _, rfl, fun c9 => ?_, fun c9 m20 e20 => ⟨chr_ok (by omega), fun m21 e21 t22 e22 => ?_⟩⟩) (fun ev m10 S10 F10 => ⟨_, _, _, rfl, fun _ t19 e19 => ?_, fun c9 => absurd rfl c9⟩)
        · rw [F9 18 0 s (by unfold tO inSt tH; omega), F8 18 0 s (by unfold inSt; omega)]; exact hz s
        · rw [F9 0 0 11 (by unfold tO inSt tH; omega), h118]
        · have := (nI_eq (a := v) (b := 45) (by omega) (by omega)).mp c9
          omega
        · rw [if_neg (by omega), ev] at er
          refine vl_rs56u c9 (fun m2 e2 => ?_)
          have F2 : ∀ f i k, ¬ (tO true f i ∨ (f = 0 ∧ (k = 11 ∨ k = 13 ∨ k = 14))) → m2 f i k = m8 f i k := fun f i k hn => by
            rw [e2, mup_no (by omega), e21, mup_no (by omega), e20, mup_no (by omega)]; exact F9 f i k (fun z => hn (Or.inl z))
          have F2m : Fk tSc0 m m2 := fun f i k hn => by
            rw [F2 f i k (fun z => hn (by rcases z with z | z; exact tO_sc z; exact Or.inl ⟨z.1, by omega⟩))]
            exact F8 f i k (by unfold tSc0 inSt at hn; unfold inSt; omega)
          have S21 : relS m2 1 (oA o) := S8.on hla.1 hla.2.1 (fun f i k hi => F2 f i k (by unfold inSt at hi; unfold tO inSt tH; omega))
          refine sp_cpyS S21 hla.1 hla.2.1 hla.2.2 (by decide) (fun m7 S7 F7 => ⟨_, rfl, ?_⟩)
          have F7m : Fk tSc0 m m7 := fun f i k hn => by
            rw [F7 f i k (by unfold tSc0 inSt at hn; unfold inSt; omega)]; exact F2m f i k hn
          refine h2 e1 i v (by rw [er]) m7 (rest F7m S7 ?_ ?_ ?_ ?_ ?_) ((F7m.mono (fun f i k z => Or.inl z)).sc)
          · rw [F7 0 0 11 (by unfold inSt; omega), e2, mup_eq]
          · rw [F7 23 0 1 (by unfold inSt; omega), F2 23 0 1 (by unfold tO inSt tH; omega), b8]
          · rw [F7 0 0 12 (by unfold inSt; omega), F2 0 0 12 (by unfold tO inSt tH; omega), F8 0 0 12 (by unfold inSt; omega)]; exact h.2.2.2.2.2.1
          · rw [F7 0 0 13 (by unfold inSt; omega), e2, mup_no (by omega), e21, mup_no (by omega), e20, mup_eq]
          · rw [F7 0 0 14 (by unfold inSt; omega), e2, mup_no (by omega), e21, mup_eq]
        · rw [if_pos ev] at er
          rw [e19, nI_1 i]
          exact ih (i + 1) (cDo c a) m10 (by omega) S10 ((okA_cDo O9 hco ev).mono (by omega)) (F9.tr F10) er
    have S80 : relS m8 0 (oA o) := S4.on hla.1 hla.2.1 (fun f i k hi => by rw [e8, mup_no (by unfold inSt at hi; omega), F7 f i k (by unfold inSt at hi ⊢; omega)])
    exact key R.2.length 0 (oA o) m8 (by omega) S80 (ok.1.mono (by omega)) Fr.rf (by rw [List.drop_zero])
  · refine vc_X5_empty (fun m4 e4 => ⟨_, rfl, fun c => absurd c (nI_pos (by omega)), fun _ m9 e9 => ?_⟩)
    have F9 : Fk tSc0 m m9 := fun f i k hn => by
      rw [e9, mup_no (by unfold tSc0 at hn; omega), e4, mup_no (by unfold tSc0 at hn; omega)]; exact K2 f i k (by unfold tSc0 at hn; omega)
    refine h1 q e1 hq m9 (rest F9 ?_ ?_ ?_ ?_ ?_ ?_) ((F9.mono (fun f i k z => Or.inl z)).sc)
    · exact h.1.on hla.1 hla.2.1 (fun f i k hi => by rw [e9, mup_no (by unfold inSt at hi; omega), e4, mup_no (by unfold inSt at hi; omega)]; exact K2 f i k (by unfold inSt at hi; omega))
    · rw [e9, mup_no (by omega), e4, mup_no (by omega), K2 0 0 11 (by omega)]; exact h.2.1.1
    · rw [e9, mup_no (by omega), e4, mup_eq]
    · rw [e9, mup_eq]
    · rw [e9, mup_no (by omega), e4, mup_no (by omega), K2 0 0 13 (by omega)]; exact h.2.2.2.2.2.2.1
    · rw [e9, mup_no (by omega), e4, mup_no (by omega), K2 0 0 14 (by omega)]; exact h.2.2.2.2.2.2.2
end RUNC
