/-! ===== SCRIPTS: THE CLASS READS ===== -/
def isDg (l : List Nat) (p : Nat) : Bool := decide (p < l.length ∧ 48 ≤ l.getD p 0 ∧ l.getD p 0 ≤ 57)
def dlF (l : List Nat) : Nat → Nat → Nat
  | _, 0 => 0
  | p, j + 1 => if isDg l p then 1 + dlF l (p + 1) j else 0
def nvF (l : List Nat) : Nat → Nat → Nat → Nat
  | _, v, 0 => v
  | p, v, j + 1 => if isDg l p then nvF l (p + 1) (v * 10 + (l.getD p 0 - 48)) j else v
def dl (l : List Nat) (p : Nat) : Nat := dlF l p 4
def nv (l : List Nat) (p : Nat) : Nat := nvF l p 0 4
def isM (c : Nat) : Bool := decide (c = 109 ∨ c = 115 ∨ c = 103)
def endAt (l : List Nat) (p : Nat) : Bool := decide (l.length ≤ p ∨ l.getD p 0 = 59)
def mRun (l : List Nat) : List Nat → Nat → List Nat → Bool × (Nat × List Nat)
  | [], p, as => (endAt l p, (p, as))
  | s :: f, p, as => if s = 35 then (if dl l p = 0 then (false, (p, as)) else mRun l f (p + dl l p) (as ++ [nv l p])) else if s = 64 then (if p < l.length ∧ isM (l.getD p 0) = true then mRun l f (p + 1) (as ++ [l.getD p 0]) else (false, (p, as))) else if p < l.length ∧ l.getD p 0 = s then mRun l f (p + 1) as else (false, (p, as))
def mks : List Nat → Nat
  | [] => 0
  | s :: f => mks f + (if s = 35 ∨ s = 64 then 1 else 0)
theorem dlF_le (l : List Nat) : ∀ j p, p ≤ l.length → p + dlF l p j ≤ l.length ∧ dlF l p j ≤ j
  | 0, p, h => ⟨h, Nat.le_refl _⟩
  | j + 1, p, h => by
    unfold dlF
    split
    · next hd =>
      have h1 := (of_decide_eq_true hd).1
      have ih := dlF_le l j (p + 1) (by omega)
      omega
    · omega
theorem dl_le {l : List Nat} {p : Nat} (h : p ≤ l.length) : p + dl l p ≤ l.length := (dlF_le l 4 p h).1
/-- the parser's memory: text, cursor, a command's arguments -/
def PS (m : MI) (l : List Nat) (ct p : Nat) (as : List Nat) : Prop := txt m 23 1 24 l ∧ m 23 0 2 = nI p ∧ ∀ j, j < as.length → m 27 ct j = nI (as.getD j 0)
def KR (ct : Nat) (m m9 : MI) : Prop := ∀ f i k, ¬ ((f = 23 ∧ k = 2) ∨ (f = 27 ∧ i = ct)) → m9 f i k = m f i k
theorem KR.tr {ct : Nat} {a b c : MI} (h : KR ct a b) (k : KR ct b c) : KR ct a c := fun f i j h1 => (k f i j h1).trans (h f i j h1)
theorem PS.mv {m m9 : MI} {l : List Nat} {ct p q : Nat} {as : List Nat} (h : PS m l ct p as) (e : m9 = mup m 23 0 2 (nI q)) : PS m9 l ct q as := by
  obtain ⟨⟨h1, h2⟩, h4, h5⟩ := h
  refine ⟨⟨?_, fun k hk => ?_⟩, by rw [e, mup_eq], fun j hj => ?_⟩
  · rw [e, mup_no (by omega)]; exact h1
  · rw [e, mup_no (by omega)]; exact h2 k hk
  · rw [e, mup_no (by omega)]; exact h5 j hj
theorem KR.mv {m m9 : MI} {ct : Nat} {v : Int32} (e : m9 = mup m 23 0 2 v) : KR ct m m9 := fun f i k h => by rw [e, mup_no (by omega)]
theorem PS.arg {m m9 : MI} {l : List Nat} {ct p v : Nat} {as : List Nat} (h : PS m l ct p as) (e : m9 = mup m 27 ct as.length (nI v)) : PS m9 l ct p (as ++ [v]) := by
  obtain ⟨⟨h1, h2⟩, h4, h5⟩ := h
  refine ⟨⟨?_, fun k hk => ?_⟩, ?_, fun j hj => ?_⟩
  · rw [e, mup_no (by omega)]; exact h1
  · rw [e, mup_no (by omega)]; exact h2 k hk
  · rw [e, mup_no (by omega)]; exact h4
  · rw [len_app] at hj
    by_cases hc : j < as.length
    · rw [e, mup_no (by omega), getD_app1 hc]; exact h5 j hc
    · obtain rfl : j = as.length := by omega
      rw [e, mup_eq, getD_app2]
theorem KR.arg {m m9 : MI} {ct k : Nat} {v : Int32} (e : m9 = mup m 27 ct k v) : KR ct m m9 := fun f i k h => by rw [e, mup_no (by omega)]
theorem form_c : ∀ n, n < 10 → ∀ i, i < 17 → (formCh n).getD i 0 ≤ 126 := by decide +kernel
theorem form_l : ∀ n, n < 10 → formLen n = (formCh n).length := by decide +kernel
theorem form_m : ∀ n, n < 10 → mks (formCh n) ≤ 5 ∧ (formCh n).length ≤ 16 := by decide +kernel
theorem form_s {n i : Nat} (h : i < (formCh n).length) : (formCh n).drop i = (formCh n).getD i 0 :: (formCh n).drop (i + 1) := by
  rw [List.drop_eq_getElem_cons h, List.getD_eq_getElem?_getD, List.getElem?_eq_getElem h]; rfl
section SCR
variable {X : MX} {d : Nat} {x : Int64 × UInt64} {m : MI} {Q : MRes → Prop} {l : List Nat} {ct : Nat}
theorem sp_flen {n : Nat} (hn : n < 10) (hQ : Q (.inl (some (vi (nI (formCh n).length))), G x m)) : Cl X (d + 1) 323 [vs 3 n] (G x m) Q := by
  refine vc_J0_length_8abf5 (vc_J0_coder_7d493 ⟨_, _, rfl, ?_⟩)
  have e : (Int32.ofNat (formLen n)) >>> ((0 : Int32) &&& 31) = nI (formCh n).length := by
    rw [form_l n hn]
    have h := form_m n hn
    have e0 := pk_shrN (n := (formCh n).length) (by omega) ((0 : Int32) &&& 31) 0 (by decide)
    rw [Nat.pow_zero, Nat.div_one] at e0
    exact e0
  rw [e]
  exact hQ
theorem sp_fch {n i : Nat} (hn : n < 10) (hi : i < (formCh n).length) (hQ : Q (.inl (some (vi (nI ((formCh n).getD i 0)))), G x m)) : Cl X (d + 3) 324 [vs 3 n, vi (nI i)] (G x m) Q := by
  have hl := form_m n hn
  have hc := form_c n hn i (by omega)
  have e : ((((Int32.ofNat ((formCh n).getD i 0)) &&& 255).toUInt32 % 65536).toInt32) = nI ((formCh n).getD i 0) := by
    have e1 : Int32.ofNat ((formCh n).getD i 0) &&& 255 = nI ((formCh n).getD i 0) := by
      have := pk_andN (n := (formCh n).getD i 0) (by omega) (m := 255) 8 (by decide)
      rw [Nat.mod_eq_of_lt (by omega)] at this
      exact this
    rw [e1, chr_c hc]
  refine vc_J0_charAt_5068e (vc_J0_isLatin1_aae02 ⟨_, _, rfl, fun c => absurd c (by decide), fun _ => ?_⟩)
  refine vc_J1_charAt_3b067 (vc_J0_checkIndex_df160 (vc_J3_checkIndex_8e157 ⟨fun c => absurd c (nI_pos (by omega)), fun _ => ⟨fun _ => ⟨_, _, rfl, _, rfl, ?_⟩, fun c => ?_⟩⟩))
  · rw [nI_clamp (n := i) (by omega), e]
    refine ⟨?_, chr_ok hc, _, _, rfl, chr_ok hc, hQ⟩
    rw [form_l n hn]
    exact inb_n i (formCh n).length hi
  · apply c
    rw [form_l n hn]
    exact nI_lt hi (by omega)
theorem sp_isDig {p : Nat} {as : List Nat} (h : PS m l ct p as) (hp : p ≤ l.length) (hl : l.length ≤ 60) (hc : ∀ c ∈ l, c ≤ 126) (hQ : Q (.inl (some (vi (if isDg l p then 1 else 0))), G x m)) : Cl X d 140 [vp 23 0] (G x m) Q := by
  obtain ⟨⟨h1, h2⟩, h4, h5⟩ := h
  refine vc_X5_isDigitNext ?_
  rw [h1, h4, nI_clamp (n := p) (by omega)]
  unfold isDg at hQ
  refine pk_le l.length p (fun c => ?_) (fun c => ?_)
  · rw [decide_eq_false (by omega)] at hQ; exact hQ
  · rw [h2 p c]
    have hb := hc _ (getD_mem c)
    refine ⟨inb_n p 60 (by omega), pk_lt (l.getD p 0) 48 (fun c2 => ?_) (fun c2 => ⟨inb_n p 60 (by omega), pk_lt 57 (l.getD p 0) (fun c3 => ?_) (fun c3 => ?_)⟩)⟩
    · rw [decide_eq_false (by omega)] at hQ; exact hQ
    · rw [decide_eq_false (by omega)] at hQ; exact hQ
    · rw [decide_eq_true ⟨c, c2, c3⟩] at hQ; exact hQ
theorem sp_num {p : Nat} {as : List Nat} (h : PS m l ct p as) (hp : p ≤ l.length) (hl : l.length ≤ 60) (hc : ∀ c ∈ l, c ≤ 126) (hQ : ∀ m9, PS m9 l ct (p + dl l p) as → KR ct m m9 → Q (.inl (some (vi (if dl l p = 0 then -1 else nI (nv l p)))), G x m9)) : Cl X (d + 1) 139 [vp 23 0] (G x m) Q := by
  refine vc_X5_readNumber ?_
  have key : ∀ j i q v m9 (l1 : Int32), i + j = 4 → (i = 0 → l1 = -1 ∧ v = 0) → (0 < i → l1 = nI v) → v < 10 ^ i → q ≤ l.length → PS m9 l ct q as → KR ct m m9 → (∀ m8, PS m8 l ct (q + dlF l q j) as → KR ct m m8 → Q (.inl (some (vi (if i = 0 ∧ dlF l q j = 0 then -1 else nI (nvF l q v j)))), G x m8)) → Wp X (d + 1) 139 (4, ([some (vp 23 0), some (vi l1), some (vi (nI i))], ([], G x m9))) Q := by
    intro j
    induction j with
    | zero =>
      intro i q v m9 l1 hij h0 h1 hv hq h9 hK hQ9
      refine vl_X5_readNumber_4 ⟨fun _ => ?_, fun c => absurd (nI_le (a := 4) (b := i) (by omega) (by omega)) c⟩
      have e := hQ9 m9 (by rw [show q + dlF l q 0 = q from rfl]; exact h9) hK
      rw [if_neg (by omega)] at e
      rw [h1 (by omega)]
      exact e
    | succ j ih =>
      intro i q v m9 l1 hij h0 h1 hv hq h9 hK hQ9
      have hv4 : 10 ^ i ≤ 10 ^ 4 := Nat.pow_le_pow_right (by omega) (by omega)
      refine vl_X5_readNumber_4 ⟨fun c => absurd c (nI_ge (a := i) (b := 4) (by omega) (by omega)), fun _ => sp_isDig h9 hq hl hc ⟨_, _, rfl, ?_⟩⟩
      cases hd : isDg l q with
      | false =>
        refine ⟨fun _ => ?_, fun c => absurd rfl c⟩
        have e1 : dlF l q (j + 1) = 0 := if_neg (by rw [hd]; decide)
        have e2 : nvF l q v (j + 1) = v := if_neg (by rw [hd]; decide)
        have e := hQ9 m9 (by rw [e1, Nat.add_zero]; exact h9) hK
        rw [e1, e2] at e
        by_cases hi : i = 0
        · rw [if_pos ⟨hi, rfl⟩] at e
          rw [(h0 hi).1]; exact e
        · rw [if_neg (fun z => hi z.1)] at e
          rw [h1 (by omega)]; exact e
      | true =>
        refine ⟨fun c => absurd c (by decide), fun _ => ?_⟩
        have hdd := of_decide_eq_true hd
        have e1 : dlF l q (j + 1) = 1 + dlF l (q + 1) j := if_pos hd
        have e2 : nvF l q v (j + 1) = nvF l (q + 1) (v * 10 + (l.getD q 0 - 48)) j := if_pos hd
        rw [h9.2.1, nI_clamp (n := q) (by omega), h9.1.2 q hdd.1]
        refine ⟨inb_n q 60 (by omega), fun t5 e5 m6 e6 t7 e7 => ?_⟩
        rw [nI_1] at e6
        have ev : t5 = nI (v * 10 + (l.getD q 0 - 48)) := by
          rw [e5]
          have e9 : (if l1 < 0 then (0 : Int32) else l1) = nI v := by
            by_cases hi : i = 0
            · rw [(h0 hi).1, (h0 hi).2]; decide
            · rw [h1 (by omega), if_neg (nI_pos (by omega))]
          rw [e9, show (10 : Int32) = nI 10 from rfl, show (48 : Int32) = nI 48 from rfl, pk_mul, nI_add, nI_sub (by omega), show v * 10 + l.getD q 0 - 48 = v * 10 + (l.getD q 0 - 48) by omega]
        rw [e7, nI_1, ev]
        refine ih (i + 1) (q + 1) _ m6 _ (by omega) (fun c => by omega) (fun _ => rfl) (by rw [Nat.pow_succ]; omega) (by omega) (h9.mv e6) (hK.tr (KR.mv e6)) (fun m8 h8 hK8 => ?_)
        have e := hQ9 m8 (by rw [e1, show q + (1 + dlF l (q + 1) j) = q + 1 + dlF l (q + 1) j by omega]; exact h8) hK8
        rw [e1, e2, if_neg (by omega)] at e
        rw [if_neg (by omega)]
        exact e
  refine key 4 0 p 0 m (-1) (by omega) (fun _ => ⟨rfl, rfl⟩) (fun c => by omega) (by decide) hp h (fun f i k _ => rfl) (fun m8 h8 hK8 => ?_)
  have e := hQ m8 h8 hK8
  unfold dl nv at e
  by_cases hz : dlF l p 4 = 0
  · rw [if_pos hz] at e
    rw [if_pos ⟨rfl, hz⟩]; exact e
  · rw [if_neg hz] at e
    rw [if_neg (fun z => hz z.2)]; exact e
theorem sp_met {p : Nat} {as : List Nat} (h : PS m l ct p as) (hp : p ≤ l.length) (hl : l.length ≤ 60) (hc : ∀ c ∈ l, c ≤ 126)
    (h1 : p < l.length ∧ isM (l.getD p 0) = true → ∀ m9, PS m9 l ct (p + 1) as → KR ct m m9 → Q (.inl (some (vi (nI (l.getD p 0)))), G x m9)) (h0 : ¬ (p < l.length ∧ isM (l.getD p 0) = true) → Q (.inl (some (vi (-1))), G x m)) : Cl X (d + 1) 138 [vp 23 0] (G x m) Q := by
  have hh := h
  obtain ⟨⟨g1, g2⟩, g4, g5⟩ := h
  refine vc_X5_readMetric ?_
  rw [g1, g4, nI_clamp (n := p) (by omega)]
  refine pk_le l.length p (fun c => h0 (by omega)) (fun c => ⟨inb_n p 60 (by omega), ?_⟩)
  rw [g2 p c]
  have hb := hc _ (getD_mem c)
  have eM : isMt (nI (l.getD p 0)) ↔ isM (l.getD p 0) = true := by
    unfold isMt isM
    rw [decide_eq_true_iff]
    have q1 := nI_eq (a := l.getD p 0) (b := 109) (by omega) (by omega)
    have q2 := nI_eq (a := l.getD p 0) (b := 115) (by omega) (by omega)
    have q3 := nI_eq (a := l.getD p 0) (b := 103) (by omega) (by omega)
    rw [← q1, ← q2, ← q3]; rfl
  refine sp_isMt (fun z => ⟨_, _, rfl, fun _ m5 e5 => ?_, fun c => absurd (by decide) c⟩) (fun z => ⟨_, _, rfl, fun c => absurd rfl c, fun _ => h0 (fun y => z (eM.mpr y.2))⟩)
  rw [g4, nI_1] at e5
  have e2 : m5 23 0 2 = nI (p + 1) := by rw [e5, mup_eq]
  have h5 := hh.mv e5
  rw [e2, nI_pred, nI_clamp (n := p) (by omega), h5.1.2 p c]
  exact ⟨inb_n p 60 (by omega), h1 ⟨c, eM.mp z⟩ m5 h5 (KR.mv e5)⟩
theorem sp_sign {p s : Nat} {as : List Nat} (h : PS m l ct p as) (hp : p ≤ l.length) (hl : l.length ≤ 60) (hc : ∀ c ∈ l, c ≤ 126) (hs : s ≤ 126)
    (h1 : p < l.length ∧ l.getD p 0 = s → ∀ m9, PS m9 l ct (p + 1) as → KR ct m m9 → Q (.inl (some (vi 1)), G x m9)) (h0 : ¬ (p < l.length ∧ l.getD p 0 = s) → Q (.inl (some (vi 0)), G x m)) : Cl X d 137 [vp 23 0, vi (nI s)] (G x m) Q := by
  have hh := h
  obtain ⟨⟨g1, g2⟩, g4, g5⟩ := h
  refine vc_X5_readSign ?_
  rw [g1, g4, nI_clamp (n := p) (by omega)]
  refine pk_le l.length p (fun c => h0 (by omega)) (fun c => ⟨inb_n p 60 (by omega), ?_⟩)
  rw [g2 p c]
  have hb := hc _ (getD_mem c)
  refine pk_eq (l.getD p 0) s (fun z m3 e3 => ?_) (fun z => h0 (fun y => z y.2))
  rw [nI_1] at e3
  exact h1 ⟨c, z⟩ m3 (hh.mv e3) (KR.mv e3)
theorem sp_match {n p0 : Nat} (hn : n < 10) (h0 : txt m 23 1 24 l) (hp0 : p0 ≤ l.length) (hl : l.length ≤ 60) (hc : ∀ c ∈ l, c ≤ 126) (hct : ct < 16)
    (hQ : ∀ m9, PS m9 l ct (mRun l (formCh n) p0 []).2.1 (mRun l (formCh n) p0 []).2.2 → KR ct m m9 → Q (.inl (some (vi (if (mRun l (formCh n) p0 []).1 then 1 else 0))), G x m9)) : Cl X (d + 4) 136 [vp 23 0, vs 3 n, vi (nI p0), vp 27 ct] (G x m) Q := by
  have hfl := form_m n hn
  have key : ∀ j i p as m9 o5 o6, i + j = (formCh n).length → p ≤ l.length → as.length + mks ((formCh n).drop i) ≤ 5 → PS m9 l ct p as → KR ct m m9 → (∀ m8, PS m8 l ct (mRun l ((formCh n).drop i) p as).2.1 (mRun l ((formCh n).drop i) p as).2.2 → KR ct m m8 → Q (.inl (some (vi (if (mRun l ((formCh n).drop i) p as).1 then 1 else 0))), G x m8)) → Wp X (d + 4) 136 (11, ([some (vp 23 0), some (vs 3 n), some (vi (nI p0)), some (vp 27 ct), some (vi (nI as.length)), some (vi (nI i)), o5, o6], ([], G x m9))) Q := by
    intro j
    induction j with
    | zero =>
      intro i p as m9 o5 o6 hij hp hm h9 hK hQ9
      obtain rfl : i = (formCh n).length := by omega
      rw [List.drop_length] at hQ9
      have e0 : mRun l [] p as = (endAt l p, (p, as)) := rfl
      rw [e0] at hQ9
      have hQ9 := hQ9 m9 h9 hK
      dsimp only at hQ9
      unfold endAt at hQ9
      refine vl_X5_matches_11 (sp_flen hn ⟨_, _, rfl, fun _ => ?_, fun c => absurd (nI_le (Nat.le_refl _) (by omega)) c⟩)
      rw [h9.1.1, h9.2.1, nI_clamp (n := p) (by omega)]
      refine pk_le l.length p (fun c => ?_) (fun c => ⟨inb_n p 60 (by omega), ?_⟩)
      · rw [decide_eq_true (Or.inl c)] at hQ9; exact hQ9
      · have hb := hc _ (getD_mem c)
        rw [h9.1.2 p c]
        refine pk_eqn (b := 59) (fun z => ?_) (fun z => ?_) (by omega) (by omega)
        · rw [decide_eq_true (Or.inr z)] at hQ9; exact hQ9
        · rw [decide_eq_false (by omega)] at hQ9; exact hQ9
    | succ j ih =>
      intro i p as m9 o5 o6 hij hp hm h9 hK hQ9
      have hi : i < (formCh n).length := by omega
      rw [form_s hi] at hQ9 hm
      have hs := form_c n hn i (by omega)
      have ih := fun p as m9 o5 o6 => ih (i + 1) p as m9 o5 o6 (by omega)
      refine vl_X5_matches_11 (sp_flen hn ⟨_, _, rfl, fun c => absurd c (nI_ge hi (by omega)), fun _ => sp_fch hn hi ⟨_, _, rfl, ?_⟩⟩)
      generalize (formCh n).getD i 0 = s at hQ9 hm hs
      have emk : mks (s :: (formCh n).drop (i + 1)) = mks ((formCh n).drop (i + 1)) + (if s = 35 ∨ s = 64 then 1 else 0) := rfl
      rw [emk] at hm
      have emr : mRun l (s :: (formCh n).drop (i + 1)) p as = if s = 35 then (if dl l p = 0 then (false, (p, as)) else mRun l ((formCh n).drop (i + 1)) (p + dl l p) (as ++ [nv l p])) else if s = 64 then (if p < l.length ∧ isM (l.getD p 0) = true then mRun l ((formCh n).drop (i + 1)) (p + 1) (as ++ [l.getD p 0]) else (false, (p, as))) else if p < l.length ∧ l.getD p 0 = s then mRun l ((formCh n).drop (i + 1)) (p + 1) as else (false, (p, as)) := rfl
      rw [emr] at hQ9
      refine pk_eq s 35 (fun e35 => ⟨fun c => absurd (by rw [e35]; rfl) c, fun _ => sp_num h9 hp hl hc (fun m18 h18 K18 => ⟨_, _, rfl, ?_⟩)⟩) (fun n35 => pk_eqn (fun e64 => ⟨fun _ => ?_, fun c => absurd (fun z => n35 ((nI_eq (by omega) (by omega)).mp z)) c⟩) (fun n64 => ?_) (b := 64) (by omega) (by omega))
      · rw [if_pos e35] at hQ9
        rw [if_pos (Or.inl e35)] at hm
        by_cases hz : dl l p = 0
        · rw [if_pos hz]
          rw [if_pos hz] at hQ9
          have e := hQ9 m18 (by rw [hz, Nat.add_zero] at h18; exact h18) (hK.tr K18)
          exact ⟨fun _ => e, fun c => absurd (by decide) c⟩
        · rw [if_neg hz]
          rw [if_neg hz] at hQ9
          have hnv : nv l p < 2 ^ 31 := by
            have bd : ∀ j p v, nvF l p v j < (v + 1) * 10 ^ j := by
              intro j
              induction j with
              | zero => intro p v; show v < (v + 1) * 1; omega
              | succ j ihj =>
                intro p v
                unfold nvF
                rw [Nat.pow_succ]
                have hp10 := Nat.pow_pos (n := j) (show 0 < 10 by omega)
                split
                · next hd =>
                  have hdd := of_decide_eq_true hd
                  have := ihj (p + 1) (v * 10 + (l.getD p 0 - 48))
                  have h2 : (v * 10 + (l.getD p 0 - 48) + 1) * 10 ^ j ≤ ((v + 1) * 10) * 10 ^ j := Nat.mul_le_mul_right _ (by omega)
                  rw [Nat.mul_comm (10 ^ j) 10, ← Nat.mul_assoc]
                  omega
                · have h1 : (v + 1) * 1 ≤ (v + 1) * (10 ^ j * 10) := Nat.mul_le_mul_left _ (by omega)
                  omega
            have := bd 4 p 0
            have e4 : (0 + 1) * 10 ^ 4 = 10000 := by decide
            unfold nv
            omega
          refine ⟨fun c => absurd c (nI_pos (by omega)), fun _ => ⟨fun _ => ?_, fun c => absurd (nI_lt (b := 5) (by omega) (by omega)) c⟩⟩
          rw [nI_clamp (n := as.length) (by omega)]
          refine ⟨inb_n as.length 5 (by omega), fun m21 e21 t22 e22 t23 e23 => ?_⟩
          rw [e22, e23, nI_1, nI_1, ← len_app (l := as) (c := nv l p)]
          exact ih _ _ m21 _ _ (dl_le hp) (by rw [len_app]; omega) (h18.arg e21) ((hK.tr K18).tr (KR.arg e21)) hQ9
      · rw [if_neg n35, if_pos e64] at hQ9
        rw [if_pos (Or.inr e64)] at hm
        refine sp_met h9 hp hl hc (fun z m31 h31 K31 => ⟨_, _, rfl, fun c => absurd c (nI_pos (by have := hc _ (getD_mem z.1); omega)), fun _ => ⟨fun _ => ?_, fun c => absurd (nI_lt (b := 5) (by omega) (by omega)) c⟩⟩) (fun z => ⟨_, _, rfl, fun _ => ?_, fun c => absurd (by decide) c⟩)
        · rw [if_pos z] at hQ9
          rw [nI_clamp (n := as.length) (by omega)]
          refine ⟨inb_n as.length 5 (by omega), fun m21 e21 t22 e22 t23 e23 => ?_⟩
          rw [e22, e23, nI_1, nI_1, ← len_app (l := as) (c := l.getD p 0)]
          exact ih _ _ m21 _ _ (by omega) (by rw [len_app]; omega) (h31.arg e21) ((hK.tr K31).tr (KR.arg e21)) hQ9
        · rw [if_neg z] at hQ9
          exact hQ9 m9 h9 hK
      · rw [if_neg n35, if_neg n64] at hQ9
        rw [if_neg (by omega)] at hm
        refine sp_sign h9 hp hl hc hs (fun z m26 h26 K26 => ⟨_, _, rfl, fun _ t28 e28 => ?_, fun c => absurd (by decide) c⟩) (fun z => ⟨_, _, rfl, fun c => absurd rfl c, fun _ => ?_⟩)
        · rw [if_pos z] at hQ9
          rw [e28, nI_1]
          exact ih _ _ m26 _ _ (by omega) (by omega) h26 (hK.tr K26) hQ9
        · rw [if_neg z] at hQ9
          exact hQ9 m9 h9 hK
  refine vc_X5_matches (fun m1 e1 => ?_)
  have h1 : PS m1 l ct p0 [] := ⟨⟨by rw [e1, mup_no (by omega)]; exact h0.1, fun k hk => by rw [e1, mup_no (by omega)]; exact h0.2 k hk⟩, by rw [e1, mup_eq], fun j hj => absurd hj (Nat.not_lt_zero j)⟩
  have e := key (formCh n).length 0 p0 [] m1 none none (by omega) hp0 (by rw [List.drop_zero]; show 0 + _ ≤ 5; omega) h1 (KR.mv e1) (fun m8 h8 hK8 => by rw [List.drop_zero] at h8 ⊢; exact hQ m8 h8 hK8)
  exact e
end SCR
theorem mRun_c (l : List Nat) : ∀ (f : List Nat) (p : Nat) (as : List Nat), p ≤ l.length → p ≤ (mRun l f p as).2.1 ∧ (mRun l f p as).2.1 ≤ l.length
  | [], p, as, h => ⟨Nat.le_refl _, h⟩
  | s :: f, p, as, h => by
    have hd := dl_le h
    unfold mRun
    by_cases h1 : s = 35
    · rw [if_pos h1]
      by_cases h2 : dl l p = 0
      · rw [if_pos h2]; exact ⟨Nat.le_refl _, h⟩
      · rw [if_neg h2]
        have := mRun_c l f (p + dl l p) (as ++ [nv l p]) hd
        omega
    · rw [if_neg h1]
      by_cases h2 : s = 64
      · rw [if_pos h2]
        by_cases h3 : p < l.length ∧ isM (l.getD p 0) = true
        · rw [if_pos h3]
          have := mRun_c l f (p + 1) (as ++ [l.getD p 0]) (by omega)
          omega
        · rw [if_neg h3]; exact ⟨Nat.le_refl _, h⟩
      · rw [if_neg h2]
        by_cases h3 : p < l.length ∧ l.getD p 0 = s
        · rw [if_pos h3]
          have := mRun_c l f (p + 1) as (by omega)
          omega
        · rw [if_neg h3]; exact ⟨Nat.le_refl _, h⟩
/-- one command -/
abbrev fR (l : List Nat) (p k : Nat) : Bool × (Nat × List Nat) := mRun l (formCh k) p []
def fk (l : List Nat) (p : Nat) : Nat := fa_first (fun k => (fR l p k).1) 10
def fu (l : List Nat) (p : Nat) : Nat → Nat
  | 0 => p
  | k + 1 => max (fu l p k) (fR l p k).2.1
def KQ (ct : Nat) (m m9 : MI) : Prop := ∀ f i k, ¬ ((f = 23 ∧ k = 2) ∨ (f = 27 ∧ i = ct) ∨ (f = 25 ∧ k = ct)) → m9 f i k = m f i k
theorem KQ.tr {ct : Nat} {a b c : MI} (h : KQ ct a b) (k : KQ ct b c) : KQ ct a c := fun f i j h1 => (k f i j h1).trans (h f i j h1)
theorem KR.kq {ct : Nat} {m m9 : MI} (h : KR ct m m9) : KQ ct m m9 := fun f i k hn => h f i k (by omega)
theorem fu_le {l : List Nat} {p : Nat} (h : p ≤ l.length) : ∀ k, fu l p k ≤ l.length
  | 0 => h
  | k + 1 => by
    have h1 := fu_le h k
    have h2 : (fR l p k).2.1 ≤ l.length := (mRun_c l (formCh k) p [] h).2
    show max (fu l p k) (fR l p k).2.1 ≤ _
    omega
section SCR2
variable {X : MX} {d : Nat} {x : Int64 × UInt64} {m : MI} {Q : MRes → Prop} {l : List Nat} {ct : Nat}
theorem sp_pcmd {p : Nat} (h0 : txt m 23 1 24 l) (hp : p ≤ l.length) (hl : l.length ≤ 60) (hc : ∀ c ∈ l, c ≤ 126) (hct : ct < 16)
    (h1 : ∀ z, fk l p = z → z < 10 → ∀ m9, PS m9 l ct (fR l p z).2.1 (fR l p z).2.2 → m9 25 0 ct = nI z → KQ ct m m9 → Q (.inl (some (vi (-1))), G x m9))
    (h2 : fk l p = 10 → ∀ m9, txt m9 23 1 24 l → KQ ct m m9 → Q (.inl (some (vi (nI (fu l p 10)))), G x m9)) : Cl X (d + 5) 135 [vp 23 0, vi (nI ct), vi (nI p)] (G x m) Q := by
  refine vc_X5_parseCommand ?_
  have hb0 := fa_first_no (fun k => (fR l p k).1) 10
  have hb1 := fa_first_yes (fun k => (fR l p k).1) 10
  have hb2 := fa_first_le (fun k => (fR l p k).1) 10
  have efk : fk l p = fa_first (fun k => (fR l p k).1) 10 := by unfold fk; rfl
  rw [← efk] at hb0 hb1 hb2
  have key : ∀ k, k ≤ 10 → k ≤ fk l p → ∀ m9, txt m9 23 1 24 l → KQ ct m m9 → Wp X (d + 5) 135 (5, ([some (vp 23 0), some (vi (nI ct)), some (vi (nI p)), some (vi (nI (fu l p k))), some (vi (nI k))], ([], G x m9))) Q := by
    refine lup (fun k hk ih hkf m9 ht hK => ?_)
    refine vl_X5_parseCommand_5 (pk_le 10 k (fun hc => ?_) (fun hc9 => ⟨inb_n k 10 (by omega), inb_n ct 16 (by omega), ?_⟩))
    · obtain rfl : k = 10 := by omega
      exact h2 (by omega) m9 ht hK
    · rw [nI_clamp (n := k) (by omega), nI_clamp (n := ct) (by omega)]
      refine sp_match hc9 ht hp hl hc hct (fun m3 h3 K3 => ⟨_, _, rfl, ?_⟩)
      have cb := mRun_c l (formCh k) p [] hp
      have fb := fu_le hp k
      rw [h3.2.1]
      cases hok : (mRun l (formCh k) p []).1 with
      | false =>
        refine ⟨fun _ t5 e5 t6 e6 => ?_, fun c => absurd rfl c⟩
        rw [mx_nI (by omega) (by omega)] at e5
        rw [e5, e6, nI_1]
        have hne : k ≠ fk l p := fun e => by
          have := hb1 (by omega)
          rw [← e] at this
          have this : (mRun l (formCh k) p []).1 = true := this
          rw [hok] at this; cases this
        exact ih hc9 (by omega) m3 h3.1 (hK.tr K3.kq)
      | true =>
        refine ⟨fun c => absurd c (by decide), fun _ => ⟨inb_n ct 16 (by omega), fun m7 e7 => ?_⟩⟩
        have ek : fk l p = k := by
          rcases Nat.lt_trichotomy k (fk l p) with c | c | c
          · have := hb0 k c
            have this : (mRun l (formCh k) p []).1 = false := this
            rw [hok] at this; cases this
          · exact c.symm
          · omega
        refine h1 k ek hc9 m7 ⟨⟨?_, fun j hj => ?_⟩, ?_, fun j hj => ?_⟩ (by rw [e7, mup_eq]) ((hK.tr K3.kq).tr (fun f i j hn => by rw [e7, mup_no (by omega)]))
        · rw [e7, mup_no (by omega)]; exact h3.1.1
        · rw [e7, mup_no (by omega)]; exact h3.1.2 j hj
        · rw [e7, mup_no (by omega)]; exact h3.2.1
        · rw [e7, mup_no (by omega)]; exact h3.2.2 j hj
  exact key 0 (by omega) (by omega) m h0 (fun f i k _ => rfl)
/-- a whole script: an error, the commands -/
abbrev Cmd : Type := Nat × List Nat
def psF (l : List Nat) : Nat → Nat → List Cmd → Option Nat × List Cmd
  | 0, _, cs => (some l.length, cs)
  | j + 1, p, cs => if fk l p < 10 then (if (fR l p (fk l p)).2.1 < l.length then psF l j ((fR l p (fk l p)).2.1 + 1) (cs ++ [(fk l p, (fR l p (fk l p)).2.2)]) else (none, cs ++ [(fk l p, (fR l p (fk l p)).2.2)])) else (some (fu l p 10), cs)
/-- what the parser has laid down -/
def laid (m : MI) (cs : List Cmd) : Prop := ∀ i, i < cs.length → m 25 0 i = nI (cs.getD i (0, [])).1 ∧ ∀ j, j < (cs.getD i (0, [])).2.length → m 27 i j = nI ((cs.getD i (0, [])).2.getD j 0)
def KP (m m9 : MI) : Prop := ∀ f i k, ¬ ((f = 23 ∧ (k = 2 ∨ k = 5)) ∨ f = 25 ∨ f = 27) → m9 f i k = m f i k
theorem KP.tr {a b c : MI} (h : KP a b) (k : KP b c) : KP a c := fun f i j h1 => (k f i j h1).trans (h f i j h1)
theorem cs_app1 {cs : List Cmd} {c : Cmd} {i : Nat} (h : i < cs.length) : (cs ++ [c]).getD i (0, []) = cs.getD i (0, []) := by
  rw [List.getD_eq_getElem?_getD, List.getD_eq_getElem?_getD, List.getElem?_append_left h]
theorem cs_app2 {cs : List Cmd} {c : Cmd} : (cs ++ [c]).getD cs.length (0, []) = c := by
  rw [List.getD_eq_getElem?_getD, List.getElem?_append_right (Nat.le_refl _), Nat.sub_self]; rfl
theorem cs_len {cs : List Cmd} {c : Cmd} : (cs ++ [c]).length = cs.length + 1 := by
  rw [List.length_append]; rfl
theorem sp_parse {R : Option Nat × List Cmd} (hR : psF l 16 0 [] = R) (h0 : txt m 23 1 24 l) (hl : l.length ≤ 60) (hc : ∀ c ∈ l, c ≤ 126)
    (h1 : R.1 = none → ∀ m9, txt m9 23 1 24 l → m9 23 0 5 = nI R.2.length → laid m9 R.2 → R.2.length ≤ 16 → KP m m9 → Q (.inl (some (vi (-1))), G x m9))
    (h2 : ∀ q, R.1 = some q → q ≤ 60 → ∀ m9, txt m9 23 1 24 l → KP m m9 → Q (.inl (some (vi (nI q))), G x m9)) : Cl X (d + 6) 134 [vp 23 0] (G x m) Q := by
  refine vc_X5_parse ?_
  have key : ∀ j p cs m9 o3, cs.length + j = 16 → p ≤ l.length → R = psF l j p cs → txt m9 23 1 24 l → laid m9 cs → KP m m9 → Wp X (d + 6) 134 (4, ([some (vp 23 0), some (vi (nI p)), some (vi (nI cs.length)), o3], ([], G x m9))) Q := by
    intro j
    induction j with
    | zero =>
      intro p cs m9 o3 hj hp he ht hL hK
      refine vl_X5_parse_4 ?_
      rw [ht.1]
      have e : psF l 0 p cs = (some l.length, cs) := rfl
      rw [e] at he
      exact ⟨fun _ => h2 l.length (by rw [he]) hl m9 ht hK, fun c => absurd (nI_le (a := 16) (b := cs.length) (by omega) (by omega)) c⟩
    | succ j ih =>
      intro p cs m9 o3 hj hp he ht hL hK
      have e : psF l (j + 1) p cs = if fk l p < 10 then (if (fR l p (fk l p)).2.1 < l.length then psF l j ((fR l p (fk l p)).2.1 + 1) (cs ++ [(fk l p, (fR l p (fk l p)).2.2)]) else (none, cs ++ [(fk l p, (fR l p (fk l p)).2.2)])) else (some (fu l p 10), cs) := rfl
      rw [e] at he
      have fb := fu_le hp 10
      refine vl_X5_parse_4 ?_
      refine ⟨fun c => absurd c (nI_ge (a := cs.length) (b := 16) (by omega) (by omega)), fun _ => sp_pcmd ht hp hl hc (by omega) (fun z hz hf m3 h3 h25 K3 => ⟨_, _, rfl, fun _ => ?_, fun c => absurd (by decide) c⟩) (fun hf m3 h3 K3 => ⟨_, _, rfl, fun c => absurd c (nI_pos (by omega)), fun _ => ?_⟩)⟩
      · rw [hz, if_pos hf] at he
        have cb : (fR l p z).2.1 ≤ l.length := (mRun_c l (formCh z) p [] hp).2
        rw [h3.2.1, h3.1.1, nI_1 cs.length]
        have stored : ∀ m8 : MI, (∀ f i k, ¬ (f = 23 ∧ k = 5) → m8 f i k = m3 f i k) → txt m8 23 1 24 l ∧ laid m8 (cs ++ [(z, (fR l p z).2.2)]) ∧ KP m m8 := fun m8 e8 => by
          refine ⟨⟨by rw [e8 _ _ _ (by omega)]; exact h3.1.1, fun k hk => by rw [e8 _ _ _ (by omega)]; exact h3.1.2 k hk⟩, fun i hi => ?_, fun f i k hn => by rw [e8 _ _ _ (by omega), K3 f i k (by omega)]; exact hK f i k hn⟩
          rw [cs_len] at hi
          by_cases hic : i < cs.length
          · rw [cs_app1 hic]
            refine ⟨?_, fun j9 hj9 => ?_⟩
            · rw [e8 _ _ _ (by omega), K3 25 0 i (by omega)]; exact (hL i hic).1
            · rw [e8 _ _ _ (by omega), K3 27 i j9 (by omega)]; exact (hL i hic).2 j9 hj9
          · obtain rfl : i = cs.length := by omega
            rw [cs_app2]
            refine ⟨?_, fun j9 hj9 => ?_⟩
            · rw [e8 _ _ _ (by omega)]; exact h25
            · rw [e8 _ _ _ (by omega)]; exact h3.2.2 j9 hj9
        refine pk_lt (fR l p z).2.1 l.length (fun c t6 e6 t7 e7 => ?_) (fun c m8 e8 => ?_)
        · rw [if_pos c] at he
          obtain ⟨s1, s3, s4⟩ := stored m3 (fun _ _ _ _ => rfl)
          rw [e6, e7, nI_1, ← cs_len (cs := cs) (c := (z, (fR l p z).2.2))]
          exact ih _ _ m3 _ (by rw [cs_len]; omega) (by omega) he s1 s3 s4
        · rw [if_neg (by omega)] at he
          obtain ⟨s1, s3, s4⟩ := stored m8 (fun f i k hn => by rw [e8, mup_no (by omega)])
          have s2 : m8 23 0 5 = nI (cs ++ [(z, (fR l p z).2.2)]).length := by rw [e8, mup_eq, cs_len]
          refine h1 (by rw [he]) m8 s1 (by rw [he]; exact s2) (by rw [he]; exact s3) ?_ s4
          rw [he]
          show (cs ++ [(z, (fR l p z).2.2)]).length ≤ 16
          rw [cs_len]; omega
      · rw [if_neg (by omega)] at he
        exact h2 (fu l p 10) (by rw [he]) (by omega) m3 h3 (fun f i k hn => by rw [K3 f i k (by omega)]; exact hK f i k hn)
  exact key 16 0 [] m none rfl (Nat.zero_le _) hR.symm h0 (fun i hi => absurd hi (Nat.not_lt_zero i)) (fun f i k hn => rfl)
end SCR2
