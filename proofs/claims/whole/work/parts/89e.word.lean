/-! ===== SCRIPTS: WORDS AND ARGUMENTS (wip/whole/gen_word.py) ===== -/
def Wrd (k : Nat) : List Nat := [[102, 105, 110, 100], [114, 101, 112, 111, 114, 116], [100, 114, 111, 112], [100, 105, 115, 99, 97, 114, 100], [109, 101, 116, 114, 105, 99], [114, 101, 116, 117, 114, 110], [115, 101, 116, 116, 108, 101], [109, 105, 120], [100, 97, 121]].getD k []
def Af (k : Nat) : List Nat := [[32, 35, 47, 35, 47, 35, 32, 35], [32, 35, 47, 35, 47, 35, 32, 35, 32, 35], [32, 35], [32, 35], [32, 64], [32, 35, 32, 35], [], [32, 35, 32, 35], [], [32, 35]].getD k []
def Sg (k : Nat) : List Nat := [[32, 47, 47, 32], [32, 47, 47, 32, 32], [32], [32], [], [32, 32], [], [32, 32], [], [32]].getD k []
def wk (k : Nat) : Nat := min k 8
theorem form_wa : ∀ k, k < 10 → formCh k = Wrd (wk k) ++ Af k := by decide +kernel
theorem Wrd_ok : ∀ k, k < 9 → 3 ≤ (Wrd k).length ∧ (Wrd k).length ≤ 7 ∧ (∀ i, i < 7 → i < (Wrd k).length → 36 ≤ (Wrd k).getD i 0 ∧ (Wrd k).getD i 0 ≤ 126 ∧ (Wrd k).getD i 0 ≠ 64) ∧ ∀ i, i < 9 → (Wrd k).length ≤ i → (Wrd k).getD i 0 = 0 := by decide +kernel
theorem Wrd_dif : ∀ i, i < 9 → ∀ j, j < 9 → i ≠ j → ∃ t, t < 9 ∧ t < (Wrd i).length ∧ t < (Wrd j).length ∧ (Wrd i).getD t 0 ≠ (Wrd j).getD t 0 := by decide +kernel
def mat (l w : List Nat) (p j : Nat) : Bool := decide (p + j < l.length ∧ l.getD (p + j) 0 = w.getD j 0)
def lc (l w : List Nat) (p : Nat) : Nat := fa_first (fun j => !mat l w p j) w.length
theorem lc_le (l w : List Nat) (p : Nat) : lc l w p ≤ w.length := fa_first_le _ _
theorem lc_in {l w : List Nat} {p j : Nat} (h : j < lc l w p) : mat l w p j = true := by
  have := fa_first_no (fun j => !mat l w p j) w.length j h
  cases hb : mat l w p j with
  | true => rfl
  | false => rw [hb] at this; cases this
theorem lc_out {l w : List Nat} {p : Nat} (h : lc l w p < w.length) : mat l w p (lc l w p) = false := by
  have := fa_first_yes (fun j => !mat l w p j) w.length h
  have this : (!mat l w p (lc l w p)) = true := this
  cases hb : mat l w p (lc l w p) with
  | false => rfl
  | true => rw [hb] at this; cases this
theorem lc_at {l w : List Nat} {p i : Nat} (hi : i ≤ w.length) (h1 : ∀ j, j < i → mat l w p j = true) (h2 : i = w.length ∨ mat l w p i = false) : lc l w p = i := by
  have hle := lc_le l w p
  rcases Nat.lt_trichotomy (lc l w p) i with c | c | c
  · have e := lc_out (l := l) (w := w) (p := p) (by omega)
    rw [h1 _ c] at e; cases e
  · exact c
  · rcases h2 with e | e
    · omega
    · rw [lc_in c] at e; cases e
theorem word_one {l : List Nat} {p i j : Nat} (hi : i < 9) (hj : j < 9) (h : i ≠ j) (hf : lc l (Wrd i) p = (Wrd i).length) : lc l (Wrd j) p < (Wrd i).length ∧ lc l (Wrd j) p < (Wrd j).length := by
  obtain ⟨t, _, t1, t2, t3⟩ := Wrd_dif i hi j hj h
  have hle : lc l (Wrd j) p ≤ t := by
    rcases Nat.lt_or_ge t (lc l (Wrd j) p) with c | c
    · have e1 := of_decide_eq_true (lc_in c)
      have e2 := of_decide_eq_true (lc_in (l := l) (w := Wrd i) (p := p) (j := t) (by omega))
      exact absurd (e2.2.symm.trans e1.2) t3
    · exact c
  omega
theorem mRun_s {l f : List Nat} {s p : Nat} {as : List Nat} (h1 : s ≠ 35) (h2 : s ≠ 64) : mRun l (s :: f) p as = if p < l.length ∧ l.getD p 0 = s then mRun l f (p + 1) as else (false, (p, as)) := (if_neg h1).trans (if_neg h2)
theorem mRun_w {l w f : List Nat} (hw : ∀ i, i < w.length → w.getD i 0 ≠ 35 ∧ w.getD i 0 ≠ 64) {p : Nat} {as : List Nat} : mRun l (w ++ f) p as = if lc l w p = w.length then mRun l f (p + w.length) as else (false, (p + lc l w p, as)) := by
  have st : ∀ i, i ≤ w.length → (∀ j, j < i → mat l w p j = true) → mRun l (w ++ f) p as = mRun l (w.drop i ++ f) (p + i) as := by
    intro i
    induction i with
    | zero => intro _ _; rw [List.drop_zero]; rfl
    | succ i ih =>
      intro hi hm
      rw [ih (by omega) (fun j hj => hm j (by omega))]
      have e : w.drop i = w.getD i 0 :: w.drop (i + 1) := by
        rw [List.drop_eq_getElem_cons (by omega), List.getD_eq_getElem?_getD, List.getElem?_eq_getElem (by omega)]; rfl
      have hs := hw i (by omega)
      have hmi := of_decide_eq_true (hm i (by omega))
      rw [e]
      show mRun l (w.getD i 0 :: (w.drop (i + 1) ++ f)) (p + i) as = _
      rw [mRun_s hs.1 hs.2, if_pos hmi]
      rfl
  have h1 := st (lc l w p) (lc_le l w p) (fun j hj => lc_in hj)
  rw [h1]
  by_cases hc : lc l w p = w.length
  · rw [if_pos hc, hc, List.drop_length]; rfl
  · rw [if_neg hc]
    have hlt : lc l w p < w.length := by have := lc_le l w p; omega
    have e : w.drop (lc l w p) = w.getD (lc l w p) 0 :: w.drop (lc l w p + 1) := by
      rw [List.drop_eq_getElem_cons hlt, List.getD_eq_getElem?_getD, List.getElem?_eq_getElem hlt]; rfl
    have hs := hw _ hlt
    have hmi := of_decide_eq_false (lc_out hlt)
    rw [e]
    show mRun l (w.getD (lc l w p) 0 :: (w.drop (lc l w p + 1) ++ f)) (p + lc l w p) as = _
    rw [mRun_s hs.1 hs.2, if_neg hmi]
theorem fR_w {l : List Nat} {p k : Nat} (hk : k < 10) : fR l p k = if lc l (Wrd (wk k)) p = (Wrd (wk k)).length then mRun l (Af k) (p + (Wrd (wk k)).length) [] else (false, (p + lc l (Wrd (wk k)) p, [])) := by
  have hw := Wrd_ok (wk k) (by unfold wk; omega)
  show mRun l (formCh k) p [] = _
  rw [form_wa k hk]
  exact mRun_w (fun i hi => by have := hw.2.2.1 i (by omega) hi; omega)
/-- numbers behind signs -/
def iv : List Nat → List Nat
  | [] => []
  | s :: S => s :: 35 :: iv S
theorem Af_iv : ∀ k, k < 10 → k ≠ 4 → Af k = iv (Sg k) := by decide +kernel
theorem Sg_ok : ∀ k, k < 10 → (Sg k).length ≤ 5 ∧ ∀ i, i < 5 → (Sg k).getD i 0 ≠ 35 ∧ (Sg k).getD i 0 ≠ 64 := by decide +kernel
def aRun (l : List Nat) : List Nat → Nat → List Nat → Bool × (Nat × List Nat)
  | [], p, as => (true, (p, as))
  | s :: S, p, as => if p < l.length ∧ l.getD p 0 = s then (if dl l (p + 1) = 0 then (false, (p + 1, as)) else aRun l S (p + 1 + dl l (p + 1)) (as ++ [nv l (p + 1)])) else (false, (p, as))
theorem mRun_iv {l : List Nat} : ∀ (S : List Nat) (p : Nat) (as : List Nat), (∀ s ∈ S, s ≠ 35 ∧ s ≠ 64) → mRun l (iv S) p as = if (aRun l S p as).1 = true then (endAt l (aRun l S p as).2.1, (aRun l S p as).2) else (false, (aRun l S p as).2)
  | [], p, as, _ => rfl
  | s :: S, p, as, h => by
    have hs := h s List.mem_cons_self
    have ih := fun p as => mRun_iv (l := l) S p as (fun t ht => h t (List.mem_cons_of_mem s ht))
    show mRun l (s :: 35 :: iv S) p as = _
    unfold mRun aRun
    rw [if_neg hs.1, if_neg hs.2]
    by_cases h1 : p < l.length ∧ l.getD p 0 = s
    · rw [if_pos h1, if_pos h1]
      unfold mRun
      rw [if_pos rfl]
      by_cases h2 : dl l (p + 1) = 0
      · rw [if_pos h2, if_pos h2]; rfl
      · rw [if_neg h2, if_neg h2]
        exact ih _ _
    · rw [if_neg h1, if_neg h1]; rfl
theorem aRun_len {l : List Nat} : ∀ (S : List Nat) (p : Nat) (as : List Nat), (aRun l S p as).1 = true → (aRun l S p as).2.2.length = as.length + S.length
  | [], p, as, _ => rfl
  | s :: S, p, as, h => by
    unfold aRun at h ⊢
    by_cases h1 : p < l.length ∧ l.getD p 0 = s
    · rw [if_pos h1] at h ⊢
      by_cases h2 : dl l (p + 1) = 0
      · rw [if_pos h2] at h; cases h
      · rw [if_neg h2] at h ⊢
        rw [aRun_len S _ _ h, len_app]
        show _ = as.length + (S.length + 1)
        omega
    · rw [if_neg h1] at h; cases h
theorem aRun_s {l S : List Nat} {s p : Nat} {as : List Nat} : aRun l (s :: S) p as = if p < l.length ∧ l.getD p 0 = s then (if dl l (p + 1) = 0 then (false, (p + 1, as)) else aRun l S (p + 1 + dl l (p + 1)) (as ++ [nv l (p + 1)])) else (false, (p, as)) := rfl
theorem aRun_app {l : List Nat} {s : Nat} : ∀ (S : List Nat) (p : Nat) (as : List Nat), aRun l (S ++ [s]) p as = if (aRun l S p as).1 = true then aRun l [s] (aRun l S p as).2.1 (aRun l S p as).2.2 else aRun l S p as
  | [], p, as => rfl
  | t :: S, p, as => by
    show aRun l (t :: (S ++ [s])) p as = _
    have ih := fun p as => aRun_app (l := l) (s := s) S p as
    rw [aRun_s (S := S ++ [s]), aRun_s (S := S)]
    by_cases h1 : p < l.length ∧ l.getD p 0 = t
    · rw [if_pos h1, if_pos h1]
      by_cases h2 : dl l (p + 1) = 0
      · rw [if_pos h2, if_pos h2]; rfl
      · rw [if_neg h2, if_neg h2]
        exact ih _ _
    · rw [if_neg h1, if_neg h1]; rfl
theorem aRun_c {l : List Nat} : ∀ (S : List Nat) (p : Nat) (as : List Nat), p ≤ l.length → p ≤ (aRun l S p as).2.1 ∧ (aRun l S p as).2.1 ≤ l.length
  | [], p, as, h => ⟨Nat.le_refl _, h⟩
  | s :: S, p, as, h => by
    unfold aRun
    by_cases h1 : p < l.length ∧ l.getD p 0 = s
    · rw [if_pos h1]
      have hd := dl_le (l := l) (p := p + 1) (by omega)
      by_cases h2 : dl l (p + 1) = 0
      · rw [if_pos h2]; dsimp only; omega
      · rw [if_neg h2]
        have := aRun_c S (p + 1 + dl l (p + 1)) (as ++ [nv l (p + 1)]) hd
        omega
    · rw [if_neg h1]; exact ⟨Nat.le_refl _, h⟩
theorem dl_0 {l : List Nat} {p : Nat} : dl l p = 0 ↔ isDg l p = false := by
  unfold dl
  cases hb : isDg l p with
  | false =>
    have : dlF l p 4 = 0 := if_neg (by rw [hb]; decide)
    exact ⟨fun _ => rfl, fun _ => this⟩
  | true =>
    have : dlF l p 4 = 1 + dlF l (p + 1) 3 := if_pos hb
    exact ⟨fun c => by omega, fun c => by cases c⟩
/-- the arguments of the model's kinds -/
def mArg (l : List Nat) (k p : Nat) : Bool × (Nat × List Nat) :=
  if k = 4 then (if p < l.length ∧ l.getD p 0 = 32 then (if p + 1 < l.length ∧ isM (l.getD (p + 1) 0) = true then (true, (p + 2, [l.getD (p + 1) 0])) else (false, (p + 1, []))) else (false, (p, [])))
  else if k = 8 then (if p < l.length ∧ l.getD p 0 = 32 then aRun l [32] p [] else (true, (p, [1])))
  else aRun l (Sg k) p []
def ST (m0 m : MI) (l : List Nat) (cm : Nat) (q : Bool × (Nat × List Nat)) : Prop := KW cm m0 m ∧ (q.1 = true → PM m l false q.2.1 cm ∧ ∀ j, j < q.2.2.length → m 42 0 (8 * cm + j) = nI (q.2.2.getD j 0)) ∧ (q.1 = false → PM m l true q.2.1 cm)
section MWRD
variable {X : MX} {d : Nat} {x : Int64 × UInt64} {m : MI} {Q : MRes → Prop} {l : List Nat} {cm : Nat}
theorem sp_rdST {m0 : MI} {S : List Nat} {p s : Nat} (h : ST m0 m l cm (aRun l S p [])) (hp : p ≤ l.length) (hl : l.length ≤ 60) (hc : ∀ c ∈ l, c ≤ 126) (hs : s ≤ 126) (ho : S.length < 8) (hcm : cm < 32)
    (hQ : ∀ m9, ST m0 m9 l cm (aRun l (S ++ [s]) p []) → Q (.inl none, G x m9)) : Cl X (d + 2) 259 [vp 31 0, vi (nI s), vi (nI S.length)] (G x m) Q := by
  obtain ⟨hK, h1, h0⟩ := h
  rw [aRun_app] at hQ
  have cb := aRun_c (l := l) S p [] hp
  cases hb : (aRun l S p []).1 with
  | true =>
    obtain ⟨hP, hA⟩ := h1 hb
    have hlen := aRun_len (l := l) S p [] hb
    rw [if_pos hb] at hQ
    generalize aRun l S p [] = q at *
    have eA : aRun l [s] q.2.1 q.2.2 = if q.2.1 < l.length ∧ l.getD q.2.1 0 = s then (if dl l (q.2.1 + 1) = 0 then (false, (q.2.1 + 1, q.2.2)) else (true, (q.2.1 + 1 + dl l (q.2.1 + 1), q.2.2 ++ [nv l (q.2.1 + 1)]))) else (false, (q.2.1, q.2.2)) := rfl
    rw [eA] at hQ
    have hlen : q.2.2.length = S.length := by
      have : q.2.2.length = 0 + S.length := hlen
      omega
    refine sp_reads hP cb.2 hl hc hs ho hcm (fun z1 z2 m9 h9 k9 e9 o9 => hQ m9 ?_) (fun z1 z2 m9 h9 k9 => hQ m9 ?_) (fun z m9 h9 k9 => hQ m9 ?_)
    · rw [if_pos z1.2, if_neg (fun c => by rw [dl_0.mp c] at z2; cases z2)]
      refine ⟨hK.tr k9, fun _ => ⟨h9, fun j hj => ?_⟩, fun c => Bool.noConfusion c⟩
      have hj : j < (q.2.2 ++ [nv l (q.2.1 + 1)]).length := hj
      rw [len_app] at hj
      by_cases hjl : j < q.2.2.length
      · rw [o9 _ (by omega)]
        show _ = nI ((q.2.2 ++ [nv l (q.2.1 + 1)]).getD j 0)
        rw [getD_app1 hjl]
        exact hA j hjl
      · obtain rfl : j = q.2.2.length := by omega
        show _ = nI ((q.2.2 ++ [nv l (q.2.1 + 1)]).getD q.2.2.length 0)
        rw [getD_app2, hlen]
        exact e9
    · rw [if_pos z1.2, if_pos (dl_0.mpr z2)]
      exact ⟨hK.tr k9, fun c => Bool.noConfusion c, fun _ => h9⟩
    · rw [if_neg (fun y => z ⟨rfl, y⟩)]
      exact ⟨hK.tr k9, fun c => Bool.noConfusion c, fun _ => h9⟩
  | false =>
    rw [if_neg (by rw [hb]; decide)] at hQ
    refine sp_reads (h0 hb) cb.2 hl hc hs ho hcm (fun z1 => Bool.noConfusion z1.1) (fun z1 => Bool.noConfusion z1.1) (fun z m9 h9 k9 => hQ m9 ⟨hK.tr k9, fun c => absurd (hb.symm.trans c) (by decide), fun _ => h9⟩)
theorem ST_0 {p : Nat} (h : PM m l false p cm) : ST m m l cm (aRun l [] p []) := ⟨KW.rf, fun _ => ⟨h, fun j hj => absurd hj (Nat.not_lt_zero j)⟩, fun c => Bool.noConfusion c⟩
theorem sp_rdCol {p : Nat} (h : PM m l false p cm) (hp : p ≤ l.length) (hl : l.length ≤ 60) (hc : ∀ c ∈ l, c ≤ 126) (hcm : cm < 32) (hQ : ∀ m9, ST m m9 l cm (aRun l [32, 47, 47, 32] p []) → Q (.inl none, G x m9)) : Cl X (d + 3) 260 [vp 31 0] (G x m) Q := by
  refine vc_X11_readsColour (sp_rdST (S := []) (s := 32) (ST_0 h) hp hl hc (by omega) (by decide) hcm (fun m2 h2 => ⟨_, rfl, ?_⟩))
  refine sp_rdST (S := [32]) (s := 47) h2 hp hl hc (by omega) (by decide) hcm (fun m4 h4 => ⟨_, rfl, ?_⟩)
  refine sp_rdST (S := [32, 47]) (s := 47) h4 hp hl hc (by omega) (by decide) hcm (fun m6 h6 => ⟨_, rfl, ?_⟩)
  exact sp_rdST (S := [32, 47, 47]) (s := 32) h6 hp hl hc (by omega) (by decide) hcm (fun m8 h8 => ⟨_, rfl, hQ m8 h8⟩)
theorem sp_rdMet {p : Nat} (h : PM m l false p cm) (hp : p ≤ l.length) (hl : l.length ≤ 60) (hc : ∀ c ∈ l, c ≤ 126) (hcm : cm < 32) (hQ : ∀ m9, ST m m9 l cm (mArg l 4 p) → Q (.inl none, G x m9)) : Cl X (d + 2) 261 [vp 31 0] (G x m) Q := by
  have eA : mArg l 4 p = (if p < l.length ∧ l.getD p 0 = 32 then (if p + 1 < l.length ∧ isM (l.getD (p + 1) 0) = true then (true, (p + 2, [l.getD (p + 1) 0])) else (false, (p + 1, []))) else (false, (p, []))) := rfl
  rw [eA] at hQ
  refine vc_X11_readsMetric (sp_mark h hp hl ⟨_, _, rfl, ?_⟩)
  have ix : (8 * nI cm).toNatClampNeg = 8 * cm ∧ inb (8 * nI cm) 256 = true := by
    rw [show (8 : Int32) = nI 8 from rfl, pk_mul]
    exact ⟨nI_clamp (by omega), inb_n (8 * cm) 256 (by omega)⟩
  have isMk : ∀ w q, isMt (mkI l w q) ↔ (w = false ∧ q < l.length ∧ isM (l.getD q 0) = true) := fun w q => by
    unfold isMt isM
    have q1 := mk_eq (l := l) (w := w) (p := q) (s := 109) hc (by omega)
    have q2 := mk_eq (l := l) (w := w) (p := q) (s := 115) hc (by omega)
    have q3 := mk_eq (l := l) (w := w) (p := q) (s := 103) hc (by omega)
    rw [decide_eq_true_iff]
    constructor
    · rintro (z | z | z)
      · have := q1.mp z; exact ⟨this.1, this.2.1, Or.inl this.2.2⟩
      · have := q2.mp z; exact ⟨this.1, this.2.1, Or.inr (Or.inl this.2.2)⟩
      · have := q3.mp z; exact ⟨this.1, this.2.1, Or.inr (Or.inr this.2.2)⟩
    · rintro ⟨z1, z2, z | z | z⟩
      · exact Or.inl (q1.mpr ⟨z1, z2, z⟩)
      · exact Or.inr (Or.inl (q2.mpr ⟨z1, z2, z⟩))
      · exact Or.inr (Or.inr (q3.mpr ⟨z1, z2, z⟩))
  rw [h.2.2.1]
  by_cases hm : p < l.length ∧ l.getD p 0 = 32
  · rw [if_pos hm] at hQ
    have em := (mk_eq (l := l) (w := false) (p := p) (s := 32) hc (by omega)).mpr ⟨rfl, hm⟩
    rw [em]
    refine ⟨fun _ => ⟨okT_b false, fun m4 e4 => ?_⟩, fun c => absurd rfl c⟩
    obtain ⟨p4, k4⟩ := h.w (v := false) e4
    refine ⟨fun _ m6 e6 => ?_, fun c => absurd p4.2.2.1 c⟩
    rw [p4.2.2.2.1, nI_1] at e6
    obtain ⟨p6, k6⟩ := p4.p e6
    refine sp_mark p6 (by omega) hl ⟨_, _, rfl, ?_⟩
    rw [p6.2.2.1]
    refine sp_misMt (fun z => ⟨_, _, rfl, fun _ => ⟨okT_b false, fun m12 e12 => ?_⟩, fun c => absurd (by decide) c⟩) (fun z => ⟨_, _, rfl, fun c => absurd rfl c, fun _ => ⟨okT_b true, fun m19 e19 => ?_⟩⟩)
    · have hz := (isMk _ _).mp z
      rw [if_pos hz.2] at hQ
      obtain ⟨p12, k12⟩ := p6.w (v := false) e12
      refine sp_mark p12 (by omega) hl ⟨_, _, rfl, ?_⟩
      rw [p12.2.2.2.2, ix.1]
      refine ⟨ix.2, fun m15 e15 => ?_⟩
      obtain ⟨p15, k15⟩ := p12.a (off := 0) (by omega) e15
      refine ⟨fun _ m17 e17 => ?_, fun c => absurd p15.2.2.1 c⟩
      rw [p15.2.2.2.1, nI_1] at e17
      obtain ⟨p17, k17⟩ := p15.p e17
      refine hQ m17 ⟨(((k4.tr k6).tr k12).tr k15).tr k17, fun _ => ⟨p17, fun j hj => ?_⟩, fun c => Bool.noConfusion c⟩
      obtain rfl : j = 0 := by
        have : j < 1 := hj
        omega
      rw [e17, mup_no (by omega), e15]
      show mup m12 42 0 (8 * cm) (mkI l false (p + 1)) 42 0 (8 * cm) = _
      rw [mup_eq]
      show mkI l false (p + 1) = nI (l.getD (p + 1) 0)
      exact if_pos ⟨rfl, hz.2.1⟩
    · rw [if_neg (fun y => z ((isMk _ _).mpr ⟨rfl, y⟩))] at hQ
      obtain ⟨p19, k19⟩ := p6.w (v := true) e19
      refine sp_mark p19 (by omega) hl ⟨_, _, rfl, ?_⟩
      rw [p19.2.2.2.2, ix.1]
      refine ⟨ix.2, fun m22 e22 => ?_⟩
      obtain ⟨p22, k22⟩ := p19.a (off := 0) (by omega) e22
      refine ⟨fun c => absurd (p22.2.2.1.symm.trans c) (by decide), fun _ m25 e25 => ?_⟩
      rw [p22.2.2.2.1, Int32.add_zero] at e25
      obtain ⟨p25, k25⟩ := p22.p e25
      exact hQ m25 ⟨(((k4.tr k6).tr k19).tr k22).tr k25, fun c => Bool.noConfusion c, fun _ => p25⟩
  · rw [if_neg hm] at hQ
    refine ⟨fun c => absurd ((mk_eq (l := l) (w := false) (p := p) (s := 32) hc (by omega)).mp c).2 hm, fun _ => ⟨okT_b true, fun m46 e46 => ?_⟩⟩
    obtain ⟨p46, k46⟩ := h.w (v := true) e46
    refine ⟨fun c => absurd (p46.2.2.1.symm.trans c) (by decide), fun _ m68 e68 => ?_⟩
    rw [p46.2.2.2.1, Int32.add_zero] at e68
    obtain ⟨p68, k68⟩ := p46.p e68
    refine sp_mark p68 hp hl ⟨_, _, rfl, ?_⟩
    rw [p68.2.2.1]
    refine sp_misMt (fun z => absurd ((isMk _ _).mp z).1 (by decide)) (fun z => ⟨_, _, rfl, fun c => absurd rfl c, fun _ => ⟨okT_b true, fun m81 e81 => ?_⟩⟩)
    obtain ⟨p81, k81⟩ := p68.w (v := true) e81
    refine sp_mark p81 hp hl ⟨_, _, rfl, ?_⟩
    rw [p81.2.2.2.2, ix.1]
    refine ⟨ix.2, fun m84 e84 => ?_⟩
    obtain ⟨p84, k84⟩ := p81.a (off := 0) (by omega) e84
    refine ⟨fun c => absurd (p84.2.2.1.symm.trans c) (by decide), fun _ m87 e87 => ?_⟩
    rw [p84.2.2.2.1, Int32.add_zero] at e87
    obtain ⟨p87, k87⟩ := p84.p e87
    exact hQ m87 ⟨(((k46.tr k68).tr k81).tr k84).tr k87, fun c => Bool.noConfusion c, fun _ => p87⟩
theorem sp_args {k p : Nat} (hk : k < 9) (h : PM m l false p cm) (hp : p ≤ l.length) (hl : l.length ≤ 60) (hc : ∀ c ∈ l, c ≤ 126) (hcm : cm < 32) (hQ : ∀ m9, ST m m9 l cm (mArg l k p) → Q (.inl none, G x m9)) : Cl X (d + 4) 265 [vp 31 0, vi (nI k)] (G x m) Q := by
  have hk9 : k = 0 ∨ k = 1 ∨ k = 2 ∨ k = 3 ∨ k = 4 ∨ k = 5 ∨ k = 6 ∨ k = 7 ∨ k = 8 := by omega
  have one : ∀ {Q9 : MRes → Prop}, (∀ m9, ST m m9 l cm (aRun l [32] p []) → Q9 (.inl none, G x m9)) → Cl X (d + 3) 259 [vp 31 0, vi 32, vi 0] (G x m) Q9 := fun hq => sp_rdST (S := []) (s := 32) (ST_0 h) hp hl hc (by omega) (by decide) hcm hq
  have two : ∀ {Q9 : MRes → Prop}, (∀ m9, ST m m9 l cm (aRun l [32, 32] p []) → Q9 (.inl none, G x m9)) → Cl X (d + 3) 259 [vp 31 0, vi 32, vi 0] (G x m) (fun r => ∃ (m15 : MI), r = (.inl none, G x m15) ∧ Cl X (d + 3) 259 [vp 31 0, vi 32, vi 1] (G x m15) (fun r => ∃ (m17 : MI), r = (.inl none, G x m17) ∧ Q9 (.inl none, G x m17))) := fun {Q9} hq => one (fun m9 h9 => ⟨_, rfl, sp_rdST (S := [32]) (s := 32) h9 hp hl hc (by omega) (by decide) hcm (fun m17 h17 => ⟨_, rfl, hq m17 h17⟩)⟩)
  rcases hk9 with rfl | rfl | rfl | rfl | rfl | rfl | rfl | rfl | rfl
  · exact vc_X11_readsArguments ⟨fun _ => sp_rdCol h hp hl hc hcm (fun m9 h9 => ⟨_, rfl, hQ m9 h9⟩), fun c => absurd c (by decide), fun c => absurd c (by decide), fun c => absurd c (by decide), fun c => absurd c (by decide), fun c => absurd c (by decide), fun c => absurd c (by decide), fun c => absurd c (by decide), fun c => absurd c (by decide), fun c => absurd rfl c.1⟩
  · exact vc_X11_readsArguments ⟨fun c => absurd c (by decide), fun _ => sp_rdCol h hp hl hc hcm (fun m5 h5 => ⟨_, rfl, sp_rdST (S := [32, 47, 47, 32]) (s := 32) h5 hp hl hc (by omega) (by decide) hcm (fun m7 h7 => ⟨_, rfl, hQ m7 h7⟩)⟩), fun c => absurd c (by decide), fun c => absurd c (by decide), fun c => absurd c (by decide), fun c => absurd c (by decide), fun c => absurd c (by decide), fun c => absurd c (by decide), fun c => absurd c (by decide), fun c => absurd rfl c.2.1⟩
  · exact vc_X11_readsArguments ⟨fun c => absurd c (by decide), fun c => absurd c (by decide), fun _ => one (fun m9 h9 => ⟨_, rfl, hQ m9 h9⟩), fun c => absurd c (by decide), fun c => absurd c (by decide), fun c => absurd c (by decide), fun c => absurd c (by decide), fun c => absurd c (by decide), fun c => absurd c (by decide), fun c => absurd rfl c.2.2.1⟩
  · exact vc_X11_readsArguments ⟨fun c => absurd c (by decide), fun c => absurd c (by decide), fun c => absurd c (by decide), fun _ => one (fun m9 h9 => ⟨_, rfl, hQ m9 h9⟩), fun c => absurd c (by decide), fun c => absurd c (by decide), fun c => absurd c (by decide), fun c => absurd c (by decide), fun c => absurd c (by decide), fun c => absurd rfl c.2.2.2.1⟩
  · exact vc_X11_readsArguments ⟨fun c => absurd c (by decide), fun c => absurd c (by decide), fun c => absurd c (by decide), fun c => absurd c (by decide), fun _ => sp_rdMet h hp hl hc hcm (fun m9 h9 => ⟨_, rfl, hQ m9 h9⟩), fun c => absurd c (by decide), fun c => absurd c (by decide), fun c => absurd c (by decide), fun c => absurd c (by decide), fun c => absurd rfl c.2.2.2.2.1⟩
  · exact vc_X11_readsArguments ⟨fun c => absurd c (by decide), fun c => absurd c (by decide), fun c => absurd c (by decide), fun c => absurd c (by decide), fun c => absurd c (by decide), fun _ => two hQ, fun c => absurd c (by decide), fun c => absurd c (by decide), fun c => absurd c (by decide), fun c => absurd rfl c.2.2.2.2.2.1⟩
  · exact vc_X11_readsArguments ⟨fun c => absurd c (by decide), fun c => absurd c (by decide), fun c => absurd c (by decide), fun c => absurd c (by decide), fun c => absurd c (by decide), fun c => absurd c (by decide), fun _ => hQ m (ST_0 h), fun c => absurd c (by decide), fun c => absurd c (by decide), fun c => absurd rfl c.2.2.2.2.2.2.1⟩
  · exact vc_X11_readsArguments ⟨fun c => absurd c (by decide), fun c => absurd c (by decide), fun c => absurd c (by decide), fun c => absurd c (by decide), fun c => absurd c (by decide), fun c => absurd c (by decide), fun c => absurd c (by decide), fun _ => two hQ, fun c => absurd c (by decide), fun c => absurd rfl c.2.2.2.2.2.2.2.1⟩
  · refine vc_X11_readsArguments ⟨fun c => absurd c (by decide), fun c => absurd c (by decide), fun c => absurd c (by decide), fun c => absurd c (by decide), fun c => absurd c (by decide), fun c => absurd c (by decide), fun c => absurd c (by decide), fun c => absurd c (by decide), fun _ => ?_, fun c => absurd rfl c.2.2.2.2.2.2.2.2⟩
    have ix : (8 * nI cm).toNatClampNeg = 8 * cm ∧ inb (8 * nI cm) 256 = true := by
      rw [show (8 : Int32) = nI 8 from rfl, pk_mul]
      exact ⟨nI_clamp (by omega), inb_n (8 * cm) 256 (by omega)⟩
    rw [h.2.2.2.2, ix.1]
    refine ⟨ix.2, fun m22 e22 => ?_⟩
    obtain ⟨p22, k22⟩ := h.a (off := 0) (v := 1) (by omega) e22
    have eA : mArg l 8 p = (if p < l.length ∧ l.getD p 0 = 32 then aRun l [32] p [] else (true, (p, [1]))) := rfl
    rw [eA] at hQ
    refine sp_mark p22 hp hl ⟨_, _, rfl, fun z => ?_, fun z => ?_⟩
    · rw [if_neg (fun y => z ((mk_eq (l := l) (w := false) (p := p) (s := 32) hc (by omega)).mpr ⟨rfl, y⟩))] at hQ
      refine hQ m22 ⟨k22, fun _ => ⟨p22, fun j hj => ?_⟩, fun c => Bool.noConfusion c⟩
      obtain rfl : j = 0 := by
        have : j < 1 := hj
        omega
      rw [e22]
      exact mup_eq _ _ _ _ _
    · have hz := (mk_eq (l := l) (w := false) (p := p) (s := 32) hc (by omega)).mp (Decidable.not_not.mp z)
      rw [if_pos hz.2] at hQ
      refine sp_rdST (S := []) (s := 32) (ST_0 p22) hp hl hc (by omega) (by decide) hcm (fun m27 h27 => ⟨_, rfl, hQ m27 ⟨k22.tr h27.1, h27.2⟩⟩)
theorem sp_pick {a b c e f g h : Nat} : ∀ i, i < 9 → (∀ Q : MRes → Prop, Q (.inl (some (vi (nI ([a, b, c, e, f, g, h].getD i 0)))), G x m) → Cl X d 262 [vi (nI i), vi (nI a), vi (nI b), vi (nI c), vi (nI e), vi (nI f), vi (nI g), vi (nI h)] (G x m) Q) := by
  intro i hi Q hQ
  have hi9 : i = 0 ∨ i = 1 ∨ i = 2 ∨ i = 3 ∨ i = 4 ∨ i = 5 ∨ i = 6 ∨ (i = 7 ∨ i = 8) := by omega
  rcases hi9 with rfl | rfl | rfl | rfl | rfl | rfl | rfl | (rfl | rfl)
  · exact vc_X11_pick ⟨fun _ => hQ, fun z => absurd z (by decide), fun z => absurd z (by decide), fun z => absurd z (by decide), fun z => absurd z (by decide), fun z => absurd z (by decide), fun z => absurd z (by decide), fun z => absurd rfl z.1⟩
  · exact vc_X11_pick ⟨fun z => absurd z (by decide), fun _ => hQ, fun z => absurd z (by decide), fun z => absurd z (by decide), fun z => absurd z (by decide), fun z => absurd z (by decide), fun z => absurd z (by decide), fun z => absurd rfl z.2.1⟩
  · exact vc_X11_pick ⟨fun z => absurd z (by decide), fun z => absurd z (by decide), fun _ => hQ, fun z => absurd z (by decide), fun z => absurd z (by decide), fun z => absurd z (by decide), fun z => absurd z (by decide), fun z => absurd rfl z.2.2.1⟩
  · exact vc_X11_pick ⟨fun z => absurd z (by decide), fun z => absurd z (by decide), fun z => absurd z (by decide), fun _ => hQ, fun z => absurd z (by decide), fun z => absurd z (by decide), fun z => absurd z (by decide), fun z => absurd rfl z.2.2.2.1⟩
  · exact vc_X11_pick ⟨fun z => absurd z (by decide), fun z => absurd z (by decide), fun z => absurd z (by decide), fun z => absurd z (by decide), fun _ => hQ, fun z => absurd z (by decide), fun z => absurd z (by decide), fun z => absurd rfl z.2.2.2.2.1⟩
  · exact vc_X11_pick ⟨fun z => absurd z (by decide), fun z => absurd z (by decide), fun z => absurd z (by decide), fun z => absurd z (by decide), fun z => absurd z (by decide), fun _ => hQ, fun z => absurd z (by decide), fun z => absurd rfl z.2.2.2.2.2.1⟩
  · exact vc_X11_pick ⟨fun z => absurd z (by decide), fun z => absurd z (by decide), fun z => absurd z (by decide), fun z => absurd z (by decide), fun z => absurd z (by decide), fun z => absurd z (by decide), fun _ => hQ, fun z => absurd rfl z.2.2.2.2.2.2⟩
  · exact vc_X11_pick ⟨fun z => absurd z (by decide), fun z => absurd z (by decide), fun z => absurd z (by decide), fun z => absurd z (by decide), fun z => absurd z (by decide), fun z => absurd z (by decide), fun z => absurd z (by decide), fun _ => hQ⟩
  · exact vc_X11_pick ⟨fun z => absurd z (by decide), fun z => absurd z (by decide), fun z => absurd z (by decide), fun z => absurd z (by decide), fun z => absurd z (by decide), fun z => absurd z (by decide), fun z => absurd z (by decide), fun _ => hQ⟩
theorem sp_spell {k i : Nat} (hk : k < 9) (hi : i < 9) (hQ : Q (.inl (some (vi (nI ((Wrd k).getD i 0)))), G x m)) : Cl X (d + 1) 263 [vi (nI k), vi (nI i)] (G x m) Q := by
  have hk9 : k = 0 ∨ k = 1 ∨ k = 2 ∨ k = 3 ∨ k = 4 ∨ k = 5 ∨ k = 6 ∨ k = 7 ∨ k = 8 := by omega
  have i9 : i = 0 ∨ i = 1 ∨ i = 2 ∨ i = 3 ∨ i = 4 ∨ i = 5 ∨ i = 6 ∨ i = 7 ∨ i = 8 := by omega
  rcases hk9 with rfl | rfl | rfl | rfl | rfl | rfl | rfl | rfl | rfl
  · have e : (Wrd 0).getD i 0 = ([102, 105, 110, 100, 0, 0, 0] : List Nat).getD i 0 := by rcases i9 with rfl | rfl | rfl | rfl | rfl | rfl | rfl | rfl | rfl <;> rfl
    exact vc_X11_spelled ⟨fun _ => sp_pick (a := 102) (b := 105) (c := 110) (e := 100) (f := 0) (g := 0) (h := 0) i hi _ ⟨_, _, rfl, e ▸ hQ⟩, fun z => absurd z (by decide), fun z => absurd z (by decide), fun z => absurd z (by decide), fun z => absurd z (by decide), fun z => absurd z (by decide), fun z => absurd z (by decide), fun z => absurd z (by decide), fun z => absurd rfl z.1⟩
  · have e : (Wrd 1).getD i 0 = ([114, 101, 112, 111, 114, 116, 0] : List Nat).getD i 0 := by rcases i9 with rfl | rfl | rfl | rfl | rfl | rfl | rfl | rfl | rfl <;> rfl
    exact vc_X11_spelled ⟨fun z => absurd z (by decide), fun _ => sp_pick (a := 114) (b := 101) (c := 112) (e := 111) (f := 114) (g := 116) (h := 0) i hi _ ⟨_, _, rfl, e ▸ hQ⟩, fun z => absurd z (by decide), fun z => absurd z (by decide), fun z => absurd z (by decide), fun z => absurd z (by decide), fun z => absurd z (by decide), fun z => absurd z (by decide), fun z => absurd rfl z.2.1⟩
  · have e : (Wrd 2).getD i 0 = ([100, 114, 111, 112, 0, 0, 0] : List Nat).getD i 0 := by rcases i9 with rfl | rfl | rfl | rfl | rfl | rfl | rfl | rfl | rfl <;> rfl
    exact vc_X11_spelled ⟨fun z => absurd z (by decide), fun z => absurd z (by decide), fun _ => sp_pick (a := 100) (b := 114) (c := 111) (e := 112) (f := 0) (g := 0) (h := 0) i hi _ ⟨_, _, rfl, e ▸ hQ⟩, fun z => absurd z (by decide), fun z => absurd z (by decide), fun z => absurd z (by decide), fun z => absurd z (by decide), fun z => absurd z (by decide), fun z => absurd rfl z.2.2.1⟩
  · have e : (Wrd 3).getD i 0 = ([100, 105, 115, 99, 97, 114, 100] : List Nat).getD i 0 := by rcases i9 with rfl | rfl | rfl | rfl | rfl | rfl | rfl | rfl | rfl <;> rfl
    exact vc_X11_spelled ⟨fun z => absurd z (by decide), fun z => absurd z (by decide), fun z => absurd z (by decide), fun _ => sp_pick (a := 100) (b := 105) (c := 115) (e := 99) (f := 97) (g := 114) (h := 100) i hi _ ⟨_, _, rfl, e ▸ hQ⟩, fun z => absurd z (by decide), fun z => absurd z (by decide), fun z => absurd z (by decide), fun z => absurd z (by decide), fun z => absurd rfl z.2.2.2.1⟩
  · have e : (Wrd 4).getD i 0 = ([109, 101, 116, 114, 105, 99, 0] : List Nat).getD i 0 := by rcases i9 with rfl | rfl | rfl | rfl | rfl | rfl | rfl | rfl | rfl <;> rfl
    exact vc_X11_spelled ⟨fun z => absurd z (by decide), fun z => absurd z (by decide), fun z => absurd z (by decide), fun z => absurd z (by decide), fun _ => sp_pick (a := 109) (b := 101) (c := 116) (e := 114) (f := 105) (g := 99) (h := 0) i hi _ ⟨_, _, rfl, e ▸ hQ⟩, fun z => absurd z (by decide), fun z => absurd z (by decide), fun z => absurd z (by decide), fun z => absurd rfl z.2.2.2.2.1⟩
  · have e : (Wrd 5).getD i 0 = ([114, 101, 116, 117, 114, 110, 0] : List Nat).getD i 0 := by rcases i9 with rfl | rfl | rfl | rfl | rfl | rfl | rfl | rfl | rfl <;> rfl
    exact vc_X11_spelled ⟨fun z => absurd z (by decide), fun z => absurd z (by decide), fun z => absurd z (by decide), fun z => absurd z (by decide), fun z => absurd z (by decide), fun _ => sp_pick (a := 114) (b := 101) (c := 116) (e := 117) (f := 114) (g := 110) (h := 0) i hi _ ⟨_, _, rfl, e ▸ hQ⟩, fun z => absurd z (by decide), fun z => absurd z (by decide), fun z => absurd rfl z.2.2.2.2.2.1⟩
  · have e : (Wrd 6).getD i 0 = ([115, 101, 116, 116, 108, 101, 0] : List Nat).getD i 0 := by rcases i9 with rfl | rfl | rfl | rfl | rfl | rfl | rfl | rfl | rfl <;> rfl
    exact vc_X11_spelled ⟨fun z => absurd z (by decide), fun z => absurd z (by decide), fun z => absurd z (by decide), fun z => absurd z (by decide), fun z => absurd z (by decide), fun z => absurd z (by decide), fun _ => sp_pick (a := 115) (b := 101) (c := 116) (e := 116) (f := 108) (g := 101) (h := 0) i hi _ ⟨_, _, rfl, e ▸ hQ⟩, fun z => absurd z (by decide), fun z => absurd rfl z.2.2.2.2.2.2.1⟩
  · have e : (Wrd 7).getD i 0 = ([109, 105, 120, 0, 0, 0, 0] : List Nat).getD i 0 := by rcases i9 with rfl | rfl | rfl | rfl | rfl | rfl | rfl | rfl | rfl <;> rfl
    exact vc_X11_spelled ⟨fun z => absurd z (by decide), fun z => absurd z (by decide), fun z => absurd z (by decide), fun z => absurd z (by decide), fun z => absurd z (by decide), fun z => absurd z (by decide), fun z => absurd z (by decide), fun _ => sp_pick (a := 109) (b := 105) (c := 120) (e := 0) (f := 0) (g := 0) (h := 0) i hi _ ⟨_, _, rfl, e ▸ hQ⟩, fun z => absurd rfl z.2.2.2.2.2.2.2⟩
  · have e : (Wrd 8).getD i 0 = ([100, 97, 121, 0, 0, 0, 0] : List Nat).getD i 0 := by rcases i9 with rfl | rfl | rfl | rfl | rfl | rfl | rfl | rfl | rfl <;> rfl
    exact vc_X11_spelled ⟨fun z => absurd z (by decide), fun z => absurd z (by decide), fun z => absurd z (by decide), fun z => absurd z (by decide), fun z => absurd z (by decide), fun z => absurd z (by decide), fun z => absurd z (by decide), fun z => absurd z (by decide), fun _ => sp_pick (a := 100) (b := 97) (c := 121) (e := 0) (f := 0) (g := 0) (h := 0) i hi _ ⟨_, _, rfl, e ▸ hQ⟩⟩
end MWRD
