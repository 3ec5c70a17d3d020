/-! ===== SETTLEMENTS, THE MATHEMATICS ===== -/
abbrev Pr : Type := Nat × Nat
def lexM (a b : Pr) : Pr := if a.1 < b.1 ∨ (a.1 = b.1 ∧ b.2 < a.2) then b else a
def valW (W : Nat) (q : Pr) : Nat := W * q.1 - q.2
def okp (t : Nat) (q : Pr) : Prop := q.1 ≤ 99 * t ∧ q.2 ≤ 9999 * t ∧ q.2 ≤ 9999 * q.1
/-- one report: whom it fits, what it brings -/
abbrev SP : Type := (Nat × Nat) × ((Nat → Nat) × ((Nat → Nat → Nat) × (Nat → Nat → Bool)))
abbrev SP.n (S : SP) : Nat := S.1.1
abbrev SP.r (S : SP) : Nat := S.1.2
abbrev SP.w (S : SP) : Nat → Nat := S.2.1
abbrev SP.D (S : SP) : Nat → Nat → Nat := S.2.2.1
abbrev SP.F (S : SP) : Nat → Nat → Bool := S.2.2.2
def SP.free (S : SP) (k s p : Nat) : Bool := S.F k p && !s.testBit p
/-- the best pair over the first colours, behind the table of the reports left -/
def SP.prF (S : SP) (k : Nat) (T : Nat → Pr) (s : Nat) : Nat → Pr
  | 0 => T s
  | p + 1 => if S.free k s p then lexM (S.prF k T s p) (S.w k + (T (s ||| 2 ^ p)).1, S.D k p + (T (s ||| 2 ^ p)).2) else S.prF k T s p
def SP.pr (S : SP) : Nat → Nat → Pr
  | 0, _ => (0, 0)
  | t + 1, s => S.prF (S.r - (t + 1)) (S.pr t) s S.n
def SP.cand (S : SP) (k t s p : Nat) : Pr := (S.w k + (S.pr t (s ||| 2 ^ p)).1, S.D k p + (S.pr t (s ||| 2 ^ p)).2)
def SP.ok (S : SP) : Prop := S.n ≤ 10 ∧ S.r ≤ 6 ∧ (∀ k, k < S.r → 1 ≤ S.w k ∧ S.w k ≤ 99) ∧ ∀ k p, k < S.r → p < S.n → S.F k p = true → S.D k p ≤ 9999
/-- the colour of a report, others being used -/
def SP.ch (S : SP) (k s : Nat) : Nat := fa_first (fun p => S.free k s p && decide (S.cand k (S.r - (k + 1)) s p = S.pr (S.r - k) s)) S.n
def SP.us (S : SP) : Nat → Nat
  | 0 => 0
  | k + 1 => if S.ch k (S.us k) < S.n then S.us k ||| 2 ^ S.ch k (S.us k) else S.us k
def SP.cv (S : SP) (k : Nat) : Nat := S.ch k (S.us k)
theorem lexM_ok {t : Nat} {a b : Pr} (ha : okp t a) (hb : okp t b) : okp t (lexM a b) := by
  unfold lexM
  split
  · exact hb
  · exact ha
theorem prF_ok {S : SP} (hS : S.ok) {k t : Nat} {T : Nat → Pr} (hk : k < S.r) (hT : ∀ s, okp t (T s)) (s : Nat) : ∀ p, p ≤ S.n → okp (t + 1) (S.prF k T s p)
  | 0, _ => by
    have := hT s
    unfold okp at this
    show okp (t + 1) (T s)
    unfold okp
    omega
  | p + 1, hp => by
    have ih := prF_ok hS hk hT s p (by omega)
    unfold SP.prF
    split
    · next hf =>
      refine lexM_ok ih ?_
      have h1 := hT (s ||| 2 ^ p)
      have h2 := hS.2.2.1 k hk
      have hF : S.F k p = true := by
        unfold SP.free at hf
        rw [Bool.and_eq_true] at hf
        exact hf.1
      have h3 := hS.2.2.2 k p hk (by omega) hF
      unfold okp at h1 ⊢
      refine ⟨?_, ?_, ?_⟩ <;> dsimp only <;> omega
    · exact ih
theorem pr_ok {S : SP} (hS : S.ok) : ∀ t, t ≤ S.r → ∀ s, okp t (S.pr t s)
  | 0, _, s => by
    show okp 0 (0, 0)
    exact ⟨Nat.le_refl _, Nat.le_refl _, Nat.le_refl _⟩
  | t + 1, ht, s => prF_ok hS (by omega) (pr_ok hS t (by omega)) s S.n (Nat.le_refl _)
theorem cand_ok {S : SP} (hS : S.ok) {k t s p : Nat} (hk : k < S.r) (hp : p < S.n) (ht : t + 1 ≤ S.r) (hf : S.free k s p = true) : okp (t + 1) (S.cand k t s p) := by
  have h1 := pr_ok hS t (by omega) (s ||| 2 ^ p)
  have h2 := hS.2.2.1 k hk
  unfold SP.free at hf
  rw [Bool.and_eq_true] at hf
  have h3 := hS.2.2.2 k p hk hp hf.1
  unfold SP.cand
  unfold okp at h1 ⊢
  refine ⟨?_, ?_, ?_⟩ <;> dsimp only <;> omega
theorem val_lt {W : Nat} (hW : W = 100000 ∨ W = 200000) {t : Nat} (ht : t ≤ 6) {a b : Pr} (ha : okp t a) (hb : okp t b) : valW W a < valW W b ↔ (a.1 < b.1 ∨ (a.1 = b.1 ∧ b.2 < a.2)) := by
  unfold okp at ha hb
  unfold valW
  rcases hW with rfl | rfl <;> omega
theorem val_eq {W : Nat} (hW : W = 100000 ∨ W = 200000) {t : Nat} (ht : t ≤ 6) {a b : Pr} (ha : okp t a) (hb : okp t b) : valW W a = valW W b ↔ a = b := by
  constructor
  · intro h
    unfold okp at ha hb
    unfold valW at h
    have h2 : a.1 = b.1 ∧ a.2 = b.2 := by rcases hW with rfl | rfl <;> omega
    exact Prod.ext h2.1 h2.2
  · intro h; rw [h]
theorem val_max {W : Nat} (hW : W = 100000 ∨ W = 200000) {t : Nat} (ht : t ≤ 6) {a b : Pr} (ha : okp t a) (hb : okp t b) : valW W (lexM a b) = max (valW W a) (valW W b) := by
  have h := val_lt hW ht ha hb
  unfold lexM
  by_cases hc : a.1 < b.1 ∨ (a.1 = b.1 ∧ b.2 < a.2)
  · rw [if_pos hc]
    have := h.mpr hc
    omega
  · rw [if_neg hc]
    have : ¬ valW W a < valW W b := fun z => hc (h.mp z)
    omega
theorem val_b {W : Nat} (hW : W = 100000 ∨ W = 200000) {t : Nat} (ht : t ≤ 6) {a : Pr} (ha : okp t a) : valW W a ≤ 118800000 := by
  unfold okp at ha
  unfold valW
  rcases hW with rfl | rfl <;> omega
theorem val_add {W : Nat} (hW : W = 100000 ∨ W = 200000) {w D : Nat} {q : Pr} {t : Nat} (hq : okp t q) (ht : t ≤ 6) (hw : 1 ≤ w) (hD : D ≤ 9999) : valW W (w + q.1, D + q.2) = W * w - D + valW W q := by
  unfold okp at hq
  unfold valW
  rcases hW with rfl | rfl <;> dsimp only <;> omega
/-- no candidate is the best: then the best is what was there -/
theorem prF_cases {S : SP} {k : Nat} {T : Nat → Pr} {s : Nat} : ∀ p, S.prF k T s p = T s ∨ ∃ q, q < p ∧ S.free k s q = true ∧ S.prF k T s p = (S.w k + (T (s ||| 2 ^ q)).1, S.D k q + (T (s ||| 2 ^ q)).2)
  | 0 => Or.inl rfl
  | p + 1 => by
    have ih := prF_cases (S := S) (k := k) (T := T) (s := s) p
    have lift : ∀ {c : Pr}, c = S.prF k T s p → (c = T s ∨ ∃ q, q < p + 1 ∧ S.free k s q = true ∧ c = (S.w k + (T (s ||| 2 ^ q)).1, S.D k q + (T (s ||| 2 ^ q)).2)) := fun {c} hc => by
      rcases ih with e | ⟨q, q1, q2, q3⟩
      · exact Or.inl (hc.trans e)
      · exact Or.inr ⟨q, by omega, q2, hc.trans q3⟩
    unfold SP.prF
    split
    · next hf =>
      unfold lexM
      split
      · exact Or.inr ⟨p, by omega, hf, rfl⟩
      · exact lift rfl
    · exact lift rfl
theorem ch_no {S : SP} {k s : Nat} (hk : k < S.r) (h : ¬ S.ch k s < S.n) : S.pr (S.r - k) s = S.pr (S.r - (k + 1)) s := by
  have e : S.r - k = (S.r - (k + 1)) + 1 := by omega
  rw [e]
  show S.prF (S.r - ((S.r - (k + 1)) + 1)) (S.pr (S.r - (k + 1))) s S.n = _
  rw [show S.r - ((S.r - (k + 1)) + 1) = k by omega]
  rcases prF_cases (S := S) (k := k) (T := S.pr (S.r - (k + 1))) (s := s) S.n with c | ⟨q, q1, q2, q3⟩
  · exact c
  · exfalso
    have h0 := fa_first_no (fun p => S.free k s p && decide (S.cand k (S.r - (k + 1)) s p = S.pr (S.r - k) s)) S.n q (by
      unfold SP.ch at h
      omega)
    rw [q2, Bool.true_and] at h0
    refine of_decide_eq_false h0 ?_
    rw [e]
    show _ = S.prF (S.r - ((S.r - (k + 1)) + 1)) (S.pr (S.r - (k + 1))) s S.n
    rw [show S.r - ((S.r - (k + 1)) + 1) = k by omega, q3]
    rfl
theorem ch_yes {S : SP} {k s : Nat} (h : S.ch k s < S.n) : S.free k s (S.ch k s) = true ∧ S.cand k (S.r - (k + 1)) s (S.ch k s) = S.pr (S.r - k) s := by
  have h3 := fa_first_yes (fun p => S.free k s p && decide (S.cand k (S.r - (k + 1)) s p = S.pr (S.r - k) s)) S.n h
  rw [Bool.and_eq_true, decide_eq_true_iff] at h3
  exact h3
theorem ch_at {S : SP} {k s p : Nat} (hp : p < S.n) (h1 : S.free k s p = true) (h2 : S.cand k (S.r - (k + 1)) s p = S.pr (S.r - k) s) (h3 : ∀ i, i < p → ¬ (S.free k s i = true ∧ S.cand k (S.r - (k + 1)) s i = S.pr (S.r - k) s)) : S.ch k s = p := by
  unfold SP.ch
  have h0 := fa_first_no (fun p => S.free k s p && decide (S.cand k (S.r - (k + 1)) s p = S.pr (S.r - k) s)) S.n
  have h4 := fa_first_yes (fun p => S.free k s p && decide (S.cand k (S.r - (k + 1)) s p = S.pr (S.r - k) s)) S.n
  have hb : (S.free k s p && decide (S.cand k (S.r - (k + 1)) s p = S.pr (S.r - k) s)) = true := by rw [h1, decide_eq_true h2]; rfl
  generalize fa_first (fun p => S.free k s p && decide (S.cand k (S.r - (k + 1)) s p = S.pr (S.r - k) s)) S.n = q at h0 h4 ⊢
  rcases Nat.lt_trichotomy q p with h | h | h
  · have := h4 (by omega)
    rw [Bool.and_eq_true, decide_eq_true_iff] at this
    exact absurd this (h3 q h)
  · exact h
  · have := h0 p h
    rw [hb] at this; cases this
theorem ch_none {S : SP} {k s : Nat} (h3 : ∀ i, i < S.n → ¬ (S.free k s i = true ∧ S.cand k (S.r - (k + 1)) s i = S.pr (S.r - k) s)) : S.ch k s = S.n := by
  have hle : S.ch k s ≤ S.n := fa_first_le _ _
  rcases Nat.lt_or_ge (S.ch k s) S.n with h | h
  · exact absurd (ch_yes h) (h3 _ h)
  · omega
/-- what is used before a report -/
theorem us_bits {S : SP} (hS : S.ok) : ∀ k, S.us k < 2 ^ S.n ∧ pcs (S.us k) ≤ k
  | 0 => ⟨Nat.pow_pos (by omega), show pcs 0 ≤ 0 by decide⟩
  | k + 1 => by
    obtain ⟨h1, h2⟩ := us_bits hS k
    unfold SP.us
    split
    · next h =>
      have hf := (ch_yes h).1
      refine ⟨Nat.or_lt_two_pow h1 (Nat.pow_lt_pow_right (by omega) h), ?_⟩
      have e1 := fb_ct_upd (fun j => (S.us k).testBit j) true (i := S.ch k (S.us k)) (n := 10) (by have := hS.1; omega)
      have e2 : fb_ct (fun j => if j = S.ch k (S.us k) then true else (S.us k).testBit j) 10 = pcs (S.us k ||| 2 ^ S.ch k (S.us k)) := fb_ct_cong (fun j _ => by
        rw [bit_or]
        by_cases hj : j = S.ch k (S.us k)
        · rw [if_pos hj, decide_eq_true hj, Bool.or_true]
        · rw [if_neg hj, decide_eq_false hj, Bool.or_false])
      rw [e2, if_pos rfl] at e1
      have e3 : fb_ct (fun j => (S.us k).testBit j) 10 = pcs (S.us k) := rfl
      rw [e3] at e1
      omega
    · exact ⟨h1, by omega⟩
theorem us_has {S : SP} : ∀ k p, (S.us k).testBit p = true ↔ ∃ j, j < k ∧ S.cv j = p ∧ p < S.n
  | 0, p => by
    constructor
    · intro h
      have : (S.us 0).testBit p = false := Nat.zero_testBit p
      rw [this] at h; cases h
    · rintro ⟨j, j1, _⟩; omega
  | k + 1, p => by
    have ih := us_has (S := S) k p
    show (S.us (k + 1)).testBit p = true ↔ _
    unfold SP.us
    split
    · next h =>
      rw [bit_or, Bool.or_eq_true, decide_eq_true_iff, ih]
      constructor
      · rintro (⟨j, j1, j2, j3⟩ | hp)
        · exact ⟨j, by omega, j2, j3⟩
        · exact ⟨k, by omega, hp.symm, by rw [hp]; exact h⟩
      · rintro ⟨j, j1, j2, j3⟩
        by_cases hj : j = k
        · subst hj; exact Or.inr j2.symm
        · exact Or.inl ⟨j, by omega, j2, j3⟩
    · next h =>
      rw [ih]
      constructor
      · rintro ⟨j, j1, j2, j3⟩; exact ⟨j, by omega, j2, j3⟩
      · rintro ⟨j, j1, j2, j3⟩
        by_cases hj : j = k
        · subst hj
          exfalso
          apply h
          have : S.ch j (S.us j) = p := j2
          omega
        · exact ⟨j, by omega, j2, j3⟩
theorem cv_new {S : SP} {k j : Nat} (h : S.cv k < S.n) (hj : j < k) : S.cv j ≠ S.cv k := fun e => by
  have hf := (ch_yes (S := S) (k := k) (s := S.us k) h).1
  have hb := (us_has (S := S) k (S.cv k)).mpr ⟨j, hj, e, h⟩
  unfold SP.free at hf
  rw [Bool.and_eq_true] at hf
  have : (S.us k).testBit (S.ch k (S.us k)) = true := hb
  rw [this] at hf
  cases hf.2
/-- sums over the chosen -/
def SP.sumW (S : SP) (k : Nat) : Nat := fb_sm (fun j => if S.cv j < S.n then S.w j else 0) k
def SP.sumD (S : SP) (k : Nat) : Nat := fb_sm (fun j => if S.cv j < S.n then S.D j (S.cv j) else 0) k
def SP.cnt (S : SP) (k : Nat) : Nat := fb_sm (fun j => if S.cv j < S.n then 1 else 0) k
theorem sum_pr {S : SP} : ∀ k, k ≤ S.r → S.sumW k + (S.pr (S.r - k) (S.us k)).1 = (S.pr S.r 0).1 ∧ S.sumD k + (S.pr (S.r - k) (S.us k)).2 = (S.pr S.r 0).2
  | 0, _ => ⟨Nat.zero_add _, Nat.zero_add _⟩
  | k + 1, h => by
    obtain ⟨h1, h2⟩ := sum_pr (S := S) k (by omega)
    have e1 : S.sumW (k + 1) = S.sumW k + (if S.cv k < S.n then S.w k else 0) := rfl
    have e2 : S.sumD (k + 1) = S.sumD k + (if S.cv k < S.n then S.D k (S.cv k) else 0) := rfl
    have e3 : S.us (k + 1) = if S.cv k < S.n then S.us k ||| 2 ^ S.cv k else S.us k := rfl
    rw [e1, e2, e3]
    by_cases hc : S.cv k < S.n
    · rw [if_pos hc, if_pos hc, if_pos hc]
      have hy := (ch_yes (S := S) (k := k) (s := S.us k) hc).2
      unfold SP.cand at hy
      rw [← hy] at h1 h2
      dsimp only at h1 h2
      have e4 : S.ch k (S.us k) = S.cv k := rfl
      rw [e4] at h1 h2
      constructor <;> omega
    · rw [if_neg hc, if_neg hc, if_neg hc]
      rw [ch_no (by omega) hc] at h1 h2
      constructor <;> omega
theorem sum_end {S : SP} : S.sumW S.r = (S.pr S.r 0).1 ∧ S.sumD S.r = (S.pr S.r 0).2 := by
  have h := sum_pr (S := S) S.r (Nat.le_refl _)
  rw [Nat.sub_self] at h
  have e : S.pr 0 (S.us S.r) = (0, 0) := rfl
  rw [e] at h
  exact h
/-- the greatest reward -/
def SP.mxF (S : SP) (k : Nat) (T : Nat → Nat) (s : Nat) : Nat → Nat
  | 0 => 0
  | p + 1 => if S.free k s p then max (S.mxF k T s p) (S.w k + T (s ||| 2 ^ p)) else S.mxF k T s p
def SP.rt (S : SP) : Nat → Nat → Nat
  | 0, _ => 0
  | t + 1, s => max (S.mxF (S.r - (t + 1)) (S.rt t) s S.n) (S.rt t s)
theorem lexM_1 (a b : Pr) : (lexM a b).1 = max a.1 b.1 := by
  unfold lexM
  split <;> omega
theorem prF_1 {S : SP} {k : Nat} {T : Nat → Pr} {T9 : Nat → Nat} (hT : ∀ s, (T s).1 = T9 s) (s : Nat) : ∀ p, (S.prF k T s p).1 = max (S.mxF k T9 s p) (T9 s)
  | 0 => by
    show (T s).1 = max 0 (T9 s)
    rw [hT]; omega
  | p + 1 => by
    have ih := prF_1 (S := S) (k := k) hT s p
    unfold SP.prF SP.mxF
    by_cases hf : S.free k s p = true
    · rw [if_pos hf, if_pos hf, lexM_1, ih]
      dsimp only
      rw [hT]
      omega
    · rw [if_neg hf, if_neg hf]; exact ih
theorem pr_1 {S : SP} : ∀ t s, (S.pr t s).1 = S.rt t s
  | 0, _ => rfl
  | t + 1, s => prF_1 (pr_1 t) s S.n
/-- what the reports left can bring at most -/
def SP.any (S : SP) (k : Nat) : Nat → Bool
  | 0 => false
  | p + 1 => S.any k p || S.F k p
def SP.pf (S : SP) : Nat → Nat
  | 0 => 0
  | t + 1 => S.pf t + (if S.any (S.r - (t + 1)) S.n then S.w (S.r - (t + 1)) else 0)
theorem any_F {S : SP} {k q : Nat} (h : S.F k q = true) : ∀ p, q < p → S.any k p = true
  | 0, hq => absurd hq (Nat.not_lt_zero _)
  | p + 1, hq => by
    unfold SP.any
    by_cases hc : q = p
    · rw [← hc, h, Bool.or_true]
    · rw [any_F h p (by omega)]; rfl
theorem rt_pf {S : SP} : ∀ t s, S.rt t s ≤ S.pf t
  | 0, _ => Nat.le_refl _
  | t + 1, s => by
    have hT := rt_pf (S := S) t
    have mx : ∀ p, p ≤ S.n → S.mxF (S.r - (t + 1)) (S.rt t) s p ≤ S.pf (t + 1) := by
      intro p
      induction p with
      | zero => intro _; exact Nat.zero_le _
      | succ p ih =>
        intro hp
        unfold SP.mxF
        split
        · next hf =>
          unfold SP.free at hf
          rw [Bool.and_eq_true] at hf
          have ha := any_F hf.1 S.n (by omega)
          have h1 := hT (s ||| 2 ^ p)
          have h2 := ih (by omega)
          have e : S.pf (t + 1) = S.pf t + S.w (S.r - (t + 1)) := by
            show S.pf t + (if S.any (S.r - (t + 1)) S.n then S.w (S.r - (t + 1)) else 0) = _
            rw [if_pos ha]
          omega
        · exact ih (by omega)
    have h1 := mx S.n (Nat.le_refl _)
    have h2 := hT s
    have h3 : S.pf t ≤ S.pf (t + 1) := Nat.le_add_right _ _
    show max _ _ ≤ _
    omega
theorem mxF_s {S : SP} {k : Nat} {T : Nat → Nat} {s p : Nat} : S.mxF k T s p ≤ S.mxF k T s (p + 1) := by
  show _ ≤ (if S.free k s p then max (S.mxF k T s p) (S.w k + T (s ||| 2 ^ p)) else S.mxF k T s p)
  split <;> omega
theorem mxF_le {S : SP} {t s : Nat} : ∀ p, p ≤ S.n → S.mxF (S.r - (t + 1)) (S.rt t) s p ≤ S.rt (t + 1) s := by
  have mono : ∀ j p, S.mxF (S.r - (t + 1)) (S.rt t) s p ≤ S.mxF (S.r - (t + 1)) (S.rt t) s (p + j) := by
    intro j
    induction j with
    | zero => intro p; exact Nat.le_refl _
    | succ j ih => intro p; exact Nat.le_trans (ih p) mxF_s
  intro p hp
  have h := mono (S.n - p) p
  rw [show p + (S.n - p) = S.n by omega] at h
  show _ ≤ max _ _
  omega
theorem rt_b {S : SP} (hS : S.ok) {t : Nat} (ht : t ≤ S.r) (s : Nat) : S.rt t s ≤ 594 := by
  have h := pr_ok hS t ht s
  have h2 := hS.2.1
  unfold okp at h
  rw [← pr_1]
  omega
/-- rows taken out of a list -/
def rmv (l : List Row) (T : Nat → Bool) : List Row := l.filter (fun r => decide (∀ p, p < l.length → T p = true → r 0 ≠ rowD l p 0))
def dis (l : List Row) : Prop := l.Pairwise (fun r q => r 0 < q 0)
theorem dis_rowD {l : List Row} (h : dis l) {i j : Nat} (hij : i < j) (hj : j < l.length) : rowD l i 0 < rowD l j 0 := by
  have e := List.pairwise_iff_getElem.mp h i j (by omega) hj hij
  have ei : rowD l i = l[i] := by unfold rowD; rw [List.getD_eq_getElem?_getD, List.getElem?_eq_getElem (by omega)]; rfl
  have ej : rowD l j = l[j] := by unfold rowD; rw [List.getD_eq_getElem?_getD, List.getElem?_eq_getElem hj]; rfl
  rw [ei, ej]
  exact e
theorem dis_inj {l : List Row} (h : dis l) {i j : Nat} (hi : i < l.length) (hj : j < l.length) (e : rowD l i 0 = rowD l j 0) : i = j := by
  rcases Nat.lt_trichotomy i j with c | c | c
  · have := dis_rowD h c hj; omega
  · exact c
  · have := dis_rowD h c hi; omega
theorem mem_rowD {l : List Row} {r : Row} (h : r ∈ l) : ∃ i, i < l.length ∧ rowD l i = r := by
  obtain ⟨i, hi, e⟩ := List.getElem_of_mem h
  exact ⟨i, hi, by unfold rowD; rw [List.getD_eq_getElem?_getD, List.getElem?_eq_getElem hi]; exact e⟩
theorem rmv_nil (l : List Row) : rmv l (fun _ => false) = l := by
  unfold rmv
  refine List.filter_eq_self.mpr (fun r _ => decide_eq_true (fun p _ hp => by cases hp))
theorem dis_rmv {l : List Row} (h : dis l) (T : Nat → Bool) : dis (rmv l T) := h.sublist List.filter_sublist
theorem rmv_len (l : List Row) (T : Nat → Bool) : (rmv l T).length ≤ l.length := List.length_filter_le _ _
theorem er_filter : ∀ {l : List Row}, dis l → ∀ {j}, j < l.length → l.eraseIdx j = l.filter (fun r => decide (r 0 ≠ rowD l j 0))
  | [], _, j, hj => absurd hj (Nat.not_lt_zero _)
  | r :: l, h, 0, _ => by
    have h1 := List.pairwise_cons.mp h
    have e0 : rowD (r :: l) 0 = r := rfl
    rw [List.filter_cons, e0, if_neg (by rw [decide_eq_true_iff]; exact fun c => c rfl)]
    show l = _
    refine (List.filter_eq_self.mpr (fun q hq => decide_eq_true ?_)).symm
    have := h1.1 q hq
    omega
  | r :: l, h, j + 1, hj => by
    have h1 := List.pairwise_cons.mp h
    have hj2 : j < l.length := Nat.lt_of_succ_lt_succ hj
    have e0 : rowD (r :: l) (j + 1) = rowD l j := rfl
    have hm := h1.1 _ (rowD_mem hj2)
    rw [List.filter_cons, e0, if_pos (by rw [decide_eq_true_iff]; omega)]
    show r :: l.eraseIdx j = _
    rw [er_filter h1.2 hj2]
theorem rmv_er {l : List Row} (h : dis l) {T : Nat → Bool} {i j : Nat} (hj : j < l.length) (hi : i < (rmv l T).length) (e : rowD (rmv l T) i 0 = rowD l j 0) : (rmv l T).eraseIdx i = rmv l (fun p => T p || decide (p = j)) := by
  rw [er_filter (dis_rmv h T) hi, e]
  unfold rmv
  rw [List.filter_filter]
  refine List.filter_congr (fun r _ => ?_)
  by_cases h1 : r 0 ≠ rowD l j 0
  · rw [decide_eq_true h1, Bool.true_and]
    by_cases h2 : ∀ p, p < l.length → T p = true → r 0 ≠ rowD l p 0
    · rw [decide_eq_true h2]
      refine (decide_eq_true (fun p hp ht => ?_)).symm
      rw [Bool.or_eq_true, decide_eq_true_iff] at ht
      rcases ht with ht | ht
      · exact h2 p hp ht
      · rw [ht]; exact h1
    · rw [decide_eq_false h2]
      refine (decide_eq_false (fun z => h2 (fun p hp ht => z p hp ?_))).symm
      show (T p || decide (p = j)) = true
      rw [ht]; rfl
  · rw [decide_eq_false h1, Bool.false_and]
    refine (decide_eq_false (fun z => h1 (z j hj ?_))).symm
    show (T j || decide (j = j)) = true
    rw [Bool.or_eq_true, decide_eq_true_iff]
    exact Or.inr rfl
theorem fil_pre : ∀ {l : List Row} {P : Row → Bool} {k : Nat}, k ≤ l.length → (∀ i, i < k → P (rowD l i) = true) → k ≤ (l.filter P).length ∧ ∀ i, i < k → rowD (l.filter P) i = rowD l i
  | [], P, k, hk, _ => by
    have hk0 : k = 0 := Nat.le_zero.mp hk
    subst hk0
    exact ⟨Nat.zero_le _, fun i hi => absurd hi (Nat.not_lt_zero i)⟩
  | r :: l, P, 0, _, _ => ⟨Nat.zero_le _, fun i hi => absurd hi (Nat.not_lt_zero i)⟩
  | r :: l, P, k + 1, hk, h => by
    have h0 : P r = true := h 0 (by omega)
    obtain ⟨h1, h2⟩ := fil_pre (l := l) (P := P) (k := k) (Nat.le_of_succ_le_succ hk) (fun i hi => h (i + 1) (by omega))
    rw [List.filter_cons, if_pos h0]
    refine ⟨Nat.succ_le_succ h1, fun i hi => ?_⟩
    cases i with
    | zero => rfl
    | succ i => exact h2 i (by omega)
/-- from the back: what stands before is where it was -/
theorem rmv_idx {l : List Row} (h : dis l) {T : Nat → Bool} {j : Nat} (hj : j < l.length) (hT : ∀ p, p ≤ j → T p = false) : j < (rmv l T).length ∧ rowD (rmv l T) j = rowD l j := by
  unfold rmv
  obtain ⟨h1, h2⟩ := fil_pre (l := l) (P := fun r => decide (∀ p, p < l.length → T p = true → r 0 ≠ rowD l p 0)) (k := j + 1) hj (fun i hi => decide_eq_true (fun p hp ht e => by
    have := dis_inj h (i := i) (j := p) (by omega) hp e
    rw [← this, hT i (by omega)] at ht
    cases ht))
  exact ⟨h1, h2 j (by omega)⟩
/-- a row that stays is found by its id -/
theorem rmv_pos {l : List Row} (h : dis l) (hid : ∀ r ∈ l, r 0 < 2 ^ 30) {T : Nat → Bool} {j : Nat} (hj : j < l.length) (hT : T j = false) : posI (rmv l T) (nI (rowD l j 0)) < (rmv l T).length ∧ rowD (rmv l T) (posI (rmv l T) (nI (rowD l j 0))) = rowD l j := by
  have hm : rowD l j ∈ rmv l T := by
    unfold rmv
    refine List.mem_filter.mpr ⟨rowD_mem hj, decide_eq_true (fun p hp ht e => ?_)⟩
    have := dis_inj h hj hp e
    rw [← this, hT] at ht
    cases ht
  obtain ⟨i, hi, ei⟩ := mem_rowD hm
  have hlt : posI (rmv l T) (nI (rowD l j 0)) < (rmv l T).length := by
    rcases Nat.lt_or_ge (posI (rmv l T) (nI (rowD l j 0))) (rmv l T).length with c | c
    · exact c
    · exfalso
      have h0 := fa_first_no (fun k => decide (nI (rowD (rmv l T) k 0) = nI (rowD l j 0))) (rmv l T).length i (by unfold posI at c; omega)
      refine of_decide_eq_false h0 ?_
      rw [ei]
  refine ⟨hlt, ?_⟩
  have e1 := posI_id hlt
  have hm2 : rowD (rmv l T) (posI (rmv l T) (nI (rowD l j 0))) ∈ l := (List.mem_filter.mp (rowD_mem hlt)).1
  have b1 := hid _ hm2
  have b2 := hid _ (rowD_mem hj)
  have e2 := (nI_eq (by omega) (by omega)).mp e1
  obtain ⟨q, hq, eq⟩ := mem_rowD hm2
  rw [← eq] at e2 ⊢
  rw [dis_inj h hq hj e2]
