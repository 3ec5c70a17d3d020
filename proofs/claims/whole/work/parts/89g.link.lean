/-! ===== SCRIPTS: THE TWO READERS AGREE ===== -/
theorem fu_ge {l : List Nat} {p : Nat} : ∀ n k, k < n → (fR l p k).2.1 ≤ fu l p n
  | 0, k, h => absurd h (Nat.not_lt_zero k)
  | n + 1, k, h => by
    have e : fu l p (n + 1) = max (fu l p n) (fR l p n).2.1 := rfl
    rcases Nat.lt_or_ge k n with c | c
    · have := fu_ge (l := l) (p := p) n k c
      omega
    · obtain rfl : k = n := by omega
      omega
theorem fu_le2 {l : List Nat} {p c : Nat} (h : p ≤ c) : ∀ n, (∀ k, k < n → (fR l p k).2.1 ≤ c) → fu l p n ≤ c
  | 0, _ => h
  | n + 1, hk => by
    have e : fu l p (n + 1) = max (fu l p n) (fR l p n).2.1 := rfl
    have h1 := fu_le2 h n (fun k hk9 => hk k (by omega))
    have h2 := hk n (by omega)
    omega
theorem fu_at {l : List Nat} {p c k : Nat} (h : p ≤ c) (hk : k < 10) (h1 : ∀ k, k < 10 → (fR l p k).2.1 ≤ c) (h2 : (fR l p k).2.1 = c) : fu l p 10 = c := by
  have a := fu_le2 h 10 h1
  have b := fu_ge (l := l) (p := p) 10 k hk
  omega
/-- the arguments of the class's forms -/
def agR (l : List Nat) (k p : Nat) : Bool × (Nat × List Nat) := if k = 4 then mArg l 4 p else aRun l (Sg k) p []
theorem mRun_Af {l : List Nat} {k p : Nat} (hk : k < 10) : mRun l (Af k) p [] = ((agR l k p).1 && endAt l (agR l k p).2.1, (agR l k p).2) := by
  unfold agR
  by_cases h4 : k = 4
  · rw [if_pos h4, h4]
    have e : mRun l (Af 4) p [] = if p < l.length ∧ l.getD p 0 = 32 then mRun l [64] (p + 1) [] else (false, (p, [])) := mRun_s (by decide) (by decide)
    have e2 : mRun l [64] (p + 1) [] = if p + 1 < l.length ∧ isM (l.getD (p + 1) 0) = true then (endAt l (p + 2), (p + 2, [l.getD (p + 1) 0])) else (false, (p + 1, [])) := rfl
    have e3 : mArg l 4 p = (if p < l.length ∧ l.getD p 0 = 32 then (if p + 1 < l.length ∧ isM (l.getD (p + 1) 0) = true then (true, (p + 2, [l.getD (p + 1) 0])) else (false, (p + 1, []))) else (false, (p, []))) := rfl
    rw [e, e3]
    by_cases a : p < l.length ∧ l.getD p 0 = 32
    · rw [if_pos a, if_pos a, e2]
      by_cases b : p + 1 < l.length ∧ isM (l.getD (p + 1) 0) = true
      · rw [if_pos b, if_pos b]; rfl
      · rw [if_neg b, if_neg b]; rfl
    · rw [if_neg a, if_neg a]; rfl
  · rw [if_neg h4, Af_iv k hk h4, mRun_iv (Sg k) p [] (fun s hs => ?_)]
    · cases hb : (aRun l (Sg k) p []).1 with
      | true => rw [if_pos rfl]; rfl
      | false => rw [if_neg (by decide)]; rfl
    · have so := Sg_ok k hk
      obtain ⟨i, hi, ei⟩ := List.getElem_of_mem hs
      have := so.2 i (by omega)
      rw [List.getD_eq_getElem?_getD, List.getElem?_eq_getElem hi] at this
      rw [← ei]
      exact this
theorem fR_y {l : List Nat} {p k : Nat} (hk : k < 10) (h : lc l (Wrd (wk k)) p = (Wrd (wk k)).length) : fR l p k = ((agR l k (p + (Wrd (wk k)).length)).1 && endAt l (agR l k (p + (Wrd (wk k)).length)).2.1, (agR l k (p + (Wrd (wk k)).length)).2) := by
  rw [fR_w hk, if_pos h, mRun_Af hk]
theorem fR_n {l : List Nat} {p k : Nat} (hk : k < 10) (h : lc l (Wrd (wk k)) p ≠ (Wrd (wk k)).length) : fR l p k = (false, (p + lc l (Wrd (wk k)) p, [])) := by
  rw [fR_w hk, if_neg h]
def cmM (c : Cmd) : Cmd := (wk c.1, if c.1 = 8 then [1] else c.2)
theorem mArg_o {l : List Nat} {k p : Nat} (hk : k < 8) : mArg l k p = agR l k p := by
  unfold agR
  by_cases h4 : k = 4
  · rw [if_pos h4, h4]
  · rw [if_neg h4]
    unfold mArg
    rw [if_neg h4, if_neg (by omega)]
theorem mArg_8 {l : List Nat} {p : Nat} : mArg l 8 p = if p < l.length ∧ l.getD p 0 = 32 then agR l 9 p else (true, (p, [1])) := rfl
theorem agR_8 {l : List Nat} {p : Nat} : agR l 8 p = (true, (p, [])) := rfl
theorem agR_9 {l : List Nat} {p : Nat} (h : ¬ (p < l.length ∧ l.getD p 0 = 32)) : agR l 9 p = (false, (p, [])) := if_neg h
theorem end_sp {l : List Nat} {p : Nat} (h : p < l.length ∧ l.getD p 0 = 32) : endAt l p = false := decide_eq_false (by omega)
theorem lk_ok {l : List Nat} {p k0 k : Nat} {a : Bool × (Nat × List Nat)} (hk0 : k0 < 9) (hk : k < 10) (hwk : wk k = k0) (hw : lc l (Wrd k0) p = (Wrd k0).length) (ea : agR l k (p + (Wrd k0).length) = a) (h1 : a.1 = true) (h2 : endAt l a.2.1 = true)
    (ho : ∀ j, j < 10 → wk j = k0 → j ≠ k → (fR l p j).1 = false) : fk l p = k ∧ fR l p k = (true, a.2) := by
  have e : fR l p k = (true, a.2) := by
    rw [fR_y hk (by rw [hwk]; exact hw), hwk, ea, h1, h2]; rfl
  refine ⟨?_, e⟩
  have efk : fk l p = fa_first (fun k => (fR l p k).1) 10 := by unfold fk; rfl
  rw [efk]
  refine fa_first_eq hk (by show (fR l p k).1 = true; rw [e]) (fun j hj => ?_)
  show (fR l p j).1 = false
  by_cases c : wk j = k0
  · exact ho j (by omega) c (by omega)
  · have hw9 : wk j < 9 := by unfold wk; omega
    have w1 := (word_one (l := l) (p := p) hk0 hw9 (fun z => c z.symm) hw).2
    rw [fR_n (by omega) (by omega)]
theorem lk_no {l : List Nat} {p k0 k : Nat} {a : Bool × (Nat × List Nat)} (hk0 : k0 < 9) (hk : k < 10) (hwk : wk k = k0) (hw : lc l (Wrd k0) p = (Wrd k0).length) (ea : agR l k (p + (Wrd k0).length) = a) (h1 : ¬ (a.1 = true ∧ endAt l a.2.1 = true)) (hc : p + (Wrd k0).length ≤ a.2.1)
    (ho : ∀ j, j < 10 → wk j = k0 → j ≠ k → (fR l p j).1 = false ∧ (fR l p j).2.1 ≤ a.2.1) : fk l p = 10 ∧ fu l p 10 = a.2.1 := by
  have e : fR l p k = (false, a.2) := by
    rw [fR_y hk (by rw [hwk]; exact hw), hwk, ea]
    cases hb : a.1 with
    | false => rfl
    | true =>
      have : endAt l a.2.1 = false := by
        cases hb2 : endAt l a.2.1 with
        | false => rfl
        | true => exact absurd ⟨hb, hb2⟩ h1
      rw [this]; rfl
  have all : ∀ j, j < 10 → (fR l p j).1 = false ∧ (fR l p j).2.1 ≤ a.2.1 := fun j hj => by
    by_cases cj : j = k
    · rw [cj, e]; exact ⟨rfl, Nat.le_refl _⟩
    · by_cases c : wk j = k0
      · exact ho j hj c cj
      · have hw9 : wk j < 9 := by unfold wk; omega
        have w1 := word_one (l := l) (p := p) hk0 hw9 (fun z => c z.symm) hw
        rw [fR_n (by omega) (by omega)]
        refine ⟨rfl, ?_⟩
        show p + lc l (Wrd (wk j)) p ≤ a.2.1
        omega
  refine ⟨?_, fu_at (k := k) (by omega) hk (fun j hj => (all j hj).2) (by rw [e])⟩
  have efk : fk l p = fa_first (fun k => (fR l p k).1) 10 := by unfold fk; rfl
  rw [efk]
  exact fa_first_none (fun j hj => (all j hj).1)
theorem wk_i {j k : Nat} (h : k < 8) (e : wk j = k) : j = k := by unfold wk at e; omega
theorem wk_8 {j : Nat} (hj : j < 10) (e : wk j = 8) : j = 8 ∨ j = 9 := by unfold wk at e; omega
theorem link {l : List Nat} {p : Nat} (hp : p ≤ l.length) {C : Bool × (Nat × (Nat × List Nat))} (hC : mC l p = C) :
    C.2.1 ≤ l.length ∧ (C.1 = true → p + 3 ≤ C.2.1) ∧ (C.1 = true → endAt l C.2.1 = true → ∃ k, k < 10 ∧ fk l p = k ∧ (fR l p k).2.1 = C.2.1 ∧ C.2.2 = cmM (k, (fR l p k).2.2)) ∧ (¬ (C.1 = true ∧ endAt l C.2.1 = true) → fk l p = 10 ∧ fu l p 10 = C.2.1) := by
  have le9 : mWk l p ≤ 9 := fa_first_le _ 9
  have yes : mWk l p < 9 → lc l (Wrd (mWk l p)) p = (Wrd (mWk l p)).length := fun h => of_decide_eq_true (fa_first_yes (fun k => decide (lc l (Wrd k) p = (Wrd k).length)) 9 h)
  have no : ∀ k, k < mWk l p → lc l (Wrd k) p ≠ (Wrd k).length := fun k h => of_decide_eq_false (fa_first_no (fun k => decide (lc l (Wrd k) p = (Wrd k).length)) 9 k h)
  unfold mC at hC
  generalize mWk l p = k0 at *
  rcases Nat.lt_or_ge k0 9 with hk0 | hk0
  · rw [if_pos hk0] at hC
    have hw := yes hk0
    have wo := Wrd_ok k0 hk0
    have hp2 : p + (Wrd k0).length ≤ l.length := by have := lc_p (l := l) (w := Wrd k0) hp; omega
    have ac := mArg_c (l := l) (k := k0) hp2
    subst hC
    refine ⟨ac.2, fun _ => by show p + 3 ≤ (mArg l k0 (p + (Wrd k0).length)).2.1; omega, fun h1 h2 => ?_, fun h => ?_⟩
    · have h1 : (mArg l k0 (p + (Wrd k0).length)).1 = true := h1
      have h2 : endAt l (mArg l k0 (p + (Wrd k0).length)).2.1 = true := h2
      show ∃ k, k < 10 ∧ fk l p = k ∧ (fR l p k).2.1 = (mArg l k0 (p + (Wrd k0).length)).2.1 ∧ (k0, (mArg l k0 (p + (Wrd k0).length)).2.2) = cmM (k, (fR l p k).2.2)
      rcases Nat.lt_or_ge k0 8 with c8 | c8
      · have em := (mArg_o (l := l) (p := p + (Wrd k0).length) c8).symm
        have := lk_ok (k := k0) hk0 (by omega) (by unfold wk; omega) hw em h1 h2 (fun j _ z1 z2 => absurd (wk_i c8 z1) z2)
        refine ⟨k0, by omega, this.1, by rw [this.2], ?_⟩
        rw [this.2]
        show _ = (wk k0, if k0 = 8 then [1] else _)
        rw [if_neg (by omega), show wk k0 = k0 by unfold wk; omega]
      · obtain rfl : k0 = 8 := by omega
        rw [mArg_8] at h1 h2 ⊢
        by_cases a : p + (Wrd 8).length < l.length ∧ l.getD (p + (Wrd 8).length) 0 = 32
        · rw [if_pos a] at h1 h2 ⊢
          have := lk_ok (k := 9) hk0 (by omega) (by decide) hw rfl h1 h2 (fun j hj z1 z2 => by
            obtain rfl : j = 8 := by have := wk_8 hj z1; omega
            rw [fR_y (by omega) hw, show wk 8 = 8 from rfl, agR_8, end_sp a]; rfl)
          refine ⟨9, by omega, this.1, by rw [this.2], ?_⟩
          rw [this.2]; rfl
        · rw [if_neg a] at h1 h2 ⊢
          have := lk_ok (k := 8) hk0 (by omega) (by decide) hw agR_8 rfl h2 (fun j hj z1 z2 => by
            obtain rfl : j = 9 := by have := wk_8 hj z1; omega
            rw [fR_y (by omega) hw, show wk 9 = 8 from rfl, agR_9 a]; rfl)
          refine ⟨8, by omega, this.1, by rw [this.2], ?_⟩
          rw [this.2]; rfl
    · have h : ¬ ((mArg l k0 (p + (Wrd k0).length)).1 = true ∧ endAt l (mArg l k0 (p + (Wrd k0).length)).2.1 = true) := h
      show fk l p = 10 ∧ fu l p 10 = (mArg l k0 (p + (Wrd k0).length)).2.1
      rcases Nat.lt_or_ge k0 8 with c8 | c8
      · have em := (mArg_o (l := l) (p := p + (Wrd k0).length) c8).symm
        exact lk_no (k := k0) hk0 (by omega) (by unfold wk; omega) hw em h ac.1 (fun j _ z1 z2 => absurd (wk_i c8 z1) z2)
      · obtain rfl : k0 = 8 := by omega
        rw [mArg_8] at h ac ⊢
        by_cases a : p + (Wrd 8).length < l.length ∧ l.getD (p + (Wrd 8).length) 0 = 32
        · rw [if_pos a] at h ac ⊢
          exact lk_no (k := 9) hk0 (by omega) (by decide) hw rfl h ac.1 (fun j hj z1 z2 => by
            obtain rfl : j = 8 := by have := wk_8 hj z1; omega
            rw [fR_y (by omega) hw, show wk 8 = 8 from rfl, agR_8, end_sp a]; exact ⟨rfl, ac.1⟩)
        · rw [if_neg a] at h ac ⊢
          exact lk_no (a := (true, (p + (Wrd 8).length, []))) (k := 8) hk0 (by omega) (by decide) hw agR_8 h ac.1 (fun j hj z1 z2 => by
            obtain rfl : j = 9 := by have := wk_8 hj z1; omega
            rw [fR_y (by omega) hw, show wk 9 = 8 from rfl, agR_9 a]; exact ⟨rfl, ac.1⟩)
  · obtain rfl : k0 = 9 := by omega
    rw [if_neg (by omega)] at hC
    subst hC
    have w9 : ∀ j, wk j < 9 := fun j => by unfold wk; omega
    have all : ∀ j, j < 10 → fR l p j = (false, (p + lc l (Wrd (wk j)) p, [])) := fun j hj => fR_n hj (no _ (w9 j))
    refine ⟨mWb_p hp 9, fun c => Bool.noConfusion c, fun c => Bool.noConfusion c, fun _ => ⟨?_, ?_⟩⟩
    · have efk : fk l p = fa_first (fun k => (fR l p k).1) 10 := by unfold fk; rfl
      rw [efk]
      exact fa_first_none (fun j hj => by show (fR l p j).1 = false; rw [all j hj])
    · show fu l p 10 = p + mWb l p 9
      have ub : ∀ j, j < 10 → (fR l p j).2.1 ≤ p + mWb l p 9 := fun j hj => by
        rw [all j hj]
        have := mWb_ge (l := l) (p := p) 9 (wk j) (w9 j)
        show p + _ ≤ _
        omega
      rcases mWb_at (l := l) (p := p) 8 with z | ⟨k, hk, z⟩
      · have z : mWb l p 9 = 0 := z
        refine fu_at (k := 0) (by omega) (by omega) ub ?_
        rw [all 0 (by omega)]
        have := mWb_ge (l := l) (p := p) 9 (wk 0) (w9 0)
        show p + lc l (Wrd (wk 0)) p = _
        omega
      · have z : mWb l p 9 = lc l (Wrd k) p := z
        refine fu_at (k := k) (by omega) (by omega) ub ?_
        rw [all k (by omega), show wk k = k by unfold wk; omega]
        show p + lc l (Wrd k) p = _
        omega
