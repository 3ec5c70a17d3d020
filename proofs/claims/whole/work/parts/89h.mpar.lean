/-! ===== SCRIPTS: THE MODEL READS A SCRIPT ===== -/
def laidM (m : MI) (cs : List Cmd) : Prop := ∀ i, i < cs.length → m 41 0 i = nI (cmM (cs.getD i (0, []))).1 ∧ ∀ j, j < (cmM (cs.getD i (0, []))).2.length → m 42 0 (8 * i + j) = nI ((cmM (cs.getD i (0, []))).2.getD j 0)
def KPM (m m9 : MI) : Prop := ∀ f i k, ¬ ((f = 31 ∧ 18 ≤ k ∧ k ≤ 22) ∨ f = 41 ∨ f = 42) → m9 f i k = m f i k
theorem KC.kpm {cm : Nat} {m m9 : MI} (h : KC cm m m9) : KPM m m9 := fun f i k hn => h f i k (by omega)
theorem KPM.tr {a b c : MI} (h : KPM a b) (k : KPM b c) : KPM a c := fun f i j h1 => (k f i j h1).trans (h f i j h1)
theorem mC_len {l : List Nat} {p : Nat} {C : Bool × (Nat × (Nat × List Nat))} (hC : mC l p = C) (h1 : C.1 = true) : C.2.2.2.length ≤ 5 := by
  obtain ⟨k, hk⟩ : ∃ k, mWk l p = k := ⟨_, rfl⟩
  by_cases h : k < 9
  · have e : mC l p = ((mArg l k (p + (Wrd k).length)).1, ((mArg l k (p + (Wrd k).length)).2.1, (k, (mArg l k (p + (Wrd k).length)).2.2))) := by
      unfold mC
      rw [hk, if_pos h]
    rw [e] at hC
    subst hC
    exact mArg_len (l := l) (k := k) (p := p + (Wrd k).length) h h1
  · have e : mC l p = (false, (p + mWb l p 9, (0, []))) := by
      unfold mC
      rw [hk, if_neg h]
    rw [e] at hC
    subst hC
    cases h1
section MPAR
variable {X : MX} {d : Nat} {x : Int64 × UInt64} {m : MI} {Q : MRes → Prop} {l : List Nat}
theorem sp_mparse {R : Option Nat × List Cmd} (hR : psF l 16 0 [] = R) (h0 : txt m 31 18 40 l) (hl : l.length ≤ 60) (hc : ∀ c ∈ l, c ≤ 126)
    (h1 : R.1 = none → ∀ m9, m9 31 0 22 = 0 → m9 31 0 18 = 0 → m9 31 0 21 = nI R.2.length → laidM m9 R.2 → (∀ i, i < R.2.length → (cmM (R.2.getD i (0, []))).2.length ≤ 5) → R.2.length ≤ 16 → KPM m m9 → Q (.inl none, G x m9))
    (h2 : ∀ q, R.1 = some q → q ≤ 60 → ∀ m9, m9 31 0 22 = 1 → m9 31 0 18 = 0 → m9 31 0 20 = nI q → KPM m m9 → Q (.inl none, G x m9)) : Cl X (d + 6) 267 [vp 31 0] (G x m) Q := by
  have key : ∀ j p cs m7, cs.length + j = 16 → 4 * cs.length ≤ p → p ≤ l.length → R = psF l j p cs → PM m7 l false p cs.length → m7 31 0 18 = 0 → laidM m7 cs → (∀ i, i < cs.length → (cmM (cs.getD i (0, []))).2.length ≤ 5) → KPM m m7 → Cl X (d + 5) 266 [vp 31 0] (G x m7) (fun r => ∃ (m9 : MI), r = (.inl none, G x m9) ∧ Wp X (d + 6) 267 (32, ([some (vp 31 0)], ([], G x m9))) Q) := by
    intro j
    induction j with
    | zero => intro p cs m7 hj h4 hp he hP h18 hL hA hK; omega
    | succ j ih =>
      intro p cs m7 hj h4 hp he hP h18 hL hA hK
      have e : psF l (j + 1) p cs = if fk l p < 10 then (if (fR l p (fk l p)).2.1 < l.length then psF l j ((fR l p (fk l p)).2.1 + 1) (cs ++ [(fk l p, (fR l p (fk l p)).2.2)]) else (none, cs ++ [(fk l p, (fR l p (fk l p)).2.2)])) else (some (fu l p 10), cs) := rfl
      rw [e] at he
      obtain ⟨C, hC⟩ : ∃ C, mC l p = C := ⟨_, rfl⟩
      have lk := link hp hC
      have bad : ∀ m9, PM m9 l true C.2.1 (cs.length + 1) ∨ PM m9 l true C.2.1 cs.length → m9 31 0 18 = 0 → KPM m7 m9 → ¬ (C.1 = true ∧ endAt l C.2.1 = true) → Q (.inl none, G x m9) := fun m9 h9 g18 k9 hn => by
        have hf := lk.2.2.2 hn
        rw [if_neg (by omega)] at he
        refine h2 C.2.1 (by rw [he]; show some _ = _; rw [hf.2]) (by omega) m9 ?_ g18 ?_ (hK.tr k9)
        · rcases h9 with z | z <;> exact z.2.2.1
        · rcases h9 with z | z <;> exact z.2.2.2.1
      refine sp_mcmd hP hp hl hc (by omega) hC (fun hb m9 h9 h41 h42 k9 => ⟨_, rfl, ?_⟩) (fun hb m9 h9 k9 => ⟨_, rfl, ?_⟩)
      · refine vl_X11_parse_32 (sp_mark h9 lk.1 hl ⟨_, _, rfl, ?_⟩)
        have g18 : m9 31 0 18 = 0 := by rw [k9 31 0 18 (by omega)]; exact h18
        have st : ∀ k, k < 10 → C.2.2 = cmM (k, (fR l p k).2.2) → ∀ m8, (∀ f i k, ¬ (f = 31 ∧ (k = 20 ∨ k = 22)) → m8 f i k = m9 f i k) → laidM m8 (cs ++ [(k, (fR l p k).2.2)]) ∧ (∀ i, i < (cs ++ [(k, (fR l p k).2.2)]).length → (cmM ((cs ++ [(k, (fR l p k).2.2)]).getD i (0, []))).2.length ≤ 5) ∧ KPM m m8 := fun k hk ek m8 h8 => by
          have el : (cmM (k, (fR l p k).2.2)).2.length ≤ 5 := by rw [← ek]; exact mC_len hC hb
          refine ⟨fun i hi => ?_, fun i hi => ?_, hK.tr ((k9.kpm).tr (fun f i k hn => h8 f i k (by omega)))⟩
          · rw [cs_len] at hi
            by_cases hic : i < cs.length
            · rw [cs_app1 hic]
              refine ⟨?_, fun j9 hj9 => ?_⟩
              · rw [h8 41 0 i (by omega), k9 41 0 i (by omega)]; exact (hL i hic).1
              · have := hA i hic
                rw [h8 42 0 _ (by omega), k9 42 0 _ (by omega)]; exact (hL i hic).2 j9 hj9
            · obtain rfl : i = cs.length := by omega
              rw [cs_app2, ← ek]
              refine ⟨?_, fun j9 hj9 => ?_⟩
              · rw [h8 41 0 _ (by omega)]; exact h41
              · rw [h8 42 0 _ (by omega)]; exact h42 j9 hj9
          · rw [cs_len] at hi
            by_cases hic : i < cs.length
            · rw [cs_app1 hic]; exact hA i hic
            · obtain rfl : i = cs.length := by omega
              rw [cs_app2]; exact el
        by_cases c59 : C.2.1 < l.length ∧ l.getD C.2.1 0 = 59
        · refine ⟨fun z => absurd ((mk_eq hc (by omega)).mpr ⟨rfl, c59⟩) z, fun _ m8 e8 => ?_⟩
          have hend : endAt l C.2.1 = true := decide_eq_true (Or.inr c59.2)
          obtain ⟨k, hk, fkk, cur, ek⟩ := lk.2.2.1 hb hend
          have h3 := lk.2.1 hb
          rw [fkk, if_pos hk, cur, if_pos c59.1] at he
          rw [h9.2.2.2.1, nI_1] at e8
          obtain ⟨p8, k8⟩ := h9.p e8
          obtain ⟨s1, s2, s3⟩ := st k hk ek m8 (fun f i k hn => by rw [e8, mup_no (by omega)])
          exact ih (C.2.1 + 1) _ m8 (by rw [cs_len]; omega) (by rw [cs_len]; omega) (by omega) he (by rw [cs_len]; exact p8) (by rw [e8, mup_no (by omega)]; exact g18) s1 s2 s3
        · refine ⟨fun _ => ?_, fun z => absurd ((mk_eq (s := 59) hc (by omega)).mp (Decidable.not_not.mp z)).2 c59⟩
          rw [h9.1, h9.2.2.2.1, h9.2.2.1]
          refine pk_le l.length C.2.1 (fun c => ⟨okT_b false, fun m5 e5 => ?_⟩) (fun c => ⟨okT_b true, fun m6 e6 => ?_⟩)
          · have hend : endAt l C.2.1 = true := decide_eq_true (Or.inl c)
            obtain ⟨k, hk, fkk, cur, ek⟩ := lk.2.2.1 hb hend
            rw [fkk, if_pos hk, cur, if_neg (by omega)] at he
            obtain ⟨p8, k8⟩ := h9.w (v := false) e5
            obtain ⟨s1, s2, s3⟩ := st k hk ek m5 (fun f i k hn => by rw [e5, mup_no (by omega)])
            refine h1 (by rw [he]) m5 p8.2.2.1 (by rw [e5, mup_no (by omega)]; exact g18) ?_ ?_ ?_ ?_ s3
            · rw [he]; show _ = nI (cs ++ _).length; rw [cs_len]; exact p8.2.2.2.2
            · rw [he]; exact s1
            · rw [he]; exact s2
            · rw [he]; show (cs ++ _).length ≤ 16; rw [cs_len]; omega
          · have hend : ¬ (C.1 = true ∧ endAt l C.2.1 = true) := fun z => by
              have := of_decide_eq_true z.2
              omega
            obtain ⟨p8, k8⟩ := h9.w (v := true) e6
            exact bad m6 (Or.inl p8) (by rw [e6, mup_no (by omega)]; exact g18) ((k9.kpm).tr (fun f i k hn => by rw [e6, mup_no (by omega)])) hend
      · refine vl_X11_parse_32 (sp_mark h9 lk.1 hl ⟨_, _, rfl, fun _ => ?_, fun z => absurd ((mk_eq (s := 59) hc (by omega)).mp (Decidable.not_not.mp z)).1 (by decide)⟩)
        have g18 : m9 31 0 18 = 0 := by rw [k9 31 0 18 (by omega)]; exact h18
        have hend : ¬ (C.1 = true ∧ endAt l C.2.1 = true) := fun z => by rw [hb] at z; exact Bool.noConfusion z.1
        rw [h9.1, h9.2.2.2.1, h9.2.2.1]
        have e1 : bI true ||| 0 = bI true := by decide
        have e2 : bI true ||| 1 = bI true := by decide
        rw [e1, e2]
        refine ⟨fun _ => ⟨okT_b true, fun m5 e5 => ?_⟩, fun _ => ⟨okT_b true, fun m6 e6 => ?_⟩⟩
        · obtain ⟨p8, k8⟩ := h9.w (v := true) e5
          exact bad m5 (Or.inr p8) (by rw [e5, mup_no (by omega)]; exact g18) ((k9.kpm).tr (fun f i k hn => by rw [e5, mup_no (by omega)])) hend
        · obtain ⟨p8, k8⟩ := h9.w (v := true) e6
          exact bad m6 (Or.inr p8) (by rw [e6, mup_no (by omega)]; exact g18) ((k9.kpm).tr (fun f i k hn => by rw [e6, mup_no (by omega)])) hend
  refine vc_X11_parse (fun m1 e1 m2 e2 m3 e3 m4 e4 m5 e5 => ?_)
  have hk : ∀ f i k, ¬ (f = 31 ∧ 18 ≤ k ∧ k ≤ 22) → m5 f i k = m f i k := fun f i k hn => by rw [e5, mup_no (by omega), e4, mup_no (by omega), e3, mup_no (by omega), e2, mup_no (by omega), e1, mup_no (by omega)]
  refine key 16 0 [] m5 rfl (Nat.zero_le _) (Nat.zero_le _) hR.symm ⟨?_, fun k hk9 => ?_, ?_, ?_, ?_⟩ ?_ (fun i hi => absurd hi (Nat.not_lt_zero i)) (fun i hi => absurd hi (Nat.not_lt_zero i)) (fun f i k hn => hk f i k (by omega))
  · rw [e5, mup_no (by omega), e4, mup_no (by omega), e3, mup_no (by omega), e2, mup_no (by omega), e1, mup_eq]; exact h0.1
  · rw [hk 40 0 k (by omega)]; exact h0.2 k hk9
  · rw [e5, mup_eq]; rfl
  · rw [e5, mup_no (by omega), e4, mup_no (by omega), e3, mup_eq]; rfl
  · rw [e5, mup_no (by omega), e4, mup_eq]; rfl
  · rw [e5, mup_no (by omega), e4, mup_no (by omega), e3, mup_no (by omega), e2, mup_eq]
end MPAR
