/-! ===== PALETTES ===== -/
/-- the members below 10 -/
def pcs (s : Nat) : Nat := fb_ct (fun k => s.testBit k) 10
def bcI (p0 : Int32) : Int32 :=
  let t1 := p0 - (((p0.toUInt32 >>> ((1 : Int32).toUInt32 &&& Int32.toUInt32 31)).toInt32) &&& 1431655765)
  let t2 := (t1 &&& 858993459) + (((t1.toUInt32 >>> ((2 : Int32).toUInt32 &&& Int32.toUInt32 31)).toInt32) &&& 858993459)
  let t3 := (t2 + ((t2.toUInt32 >>> ((4 : Int32).toUInt32 &&& Int32.toUInt32 31)).toInt32)) &&& 252645135
  let t4 := t3 + ((t3.toUInt32 >>> ((8 : Int32).toUInt32 &&& Int32.toUInt32 31)).toInt32)
  let t5 := t4 + ((t4.toUInt32 >>> ((16 : Int32).toUInt32 &&& Int32.toUInt32 31)).toInt32)
  t5 &&& 63
theorem bc_all : ∀ i, i < 32 → ∀ j, j < 32 → bcI (nI (32 * i + j)) = nI (pcs (32 * i + j)) := by decide +kernel
theorem bc_at {s : Nat} (h : s < 1024) : bcI (nI s) = nI (pcs s) := by
  have e := bc_all (s / 32) (by omega) (s % 32) (by omega)
  rwa [show 32 * (s / 32) + s % 32 = s by omega] at e
theorem pcs_le (s : Nat) : pcs s ≤ 10 := fb_ct_le _ _
theorem bitI {s k : Nat} (hs : s < 2 ^ 31) (hk : k < 31) : (nI s >>> (nI k &&& 31)) &&& 1 = (if s.testBit k then 1 else 0) := by
  rw [pk_shrN hs (nI k &&& 31) k (s_l k (by omega)), pk_andN (Nat.lt_of_le_of_lt (Nat.div_le_self _ _) (by omega)) 1 (by decide)]
  have e : s.testBit k = decide (s / 2 ^ k % 2 = 1) := Nat.testBit_eq_decide_div_mod_eq
  rw [e]
  have h2 : s / 2 ^ k % 2 ^ 1 = s / 2 ^ k % 2 := rfl
  rw [h2]
  rcases Nat.mod_two_eq_zero_or_one (s / 2 ^ k) with h | h
  · rw [h]; rfl
  · rw [h]; rfl
theorem bit_c {s k : Nat} (hs : s < 2 ^ 31) (hk : k < 31) {A C : Prop} (f : s.testBit k = false → A) (g : s.testBit k = true → C) : ((nI s >>> (nI k &&& 31)) &&& 1 = 0 → A) ∧ (¬ (nI s >>> (nI k &&& 31)) &&& 1 = 0 → C) := by
  rw [bitI hs hk]
  cases h : s.testBit k with
  | false => exact ⟨fun _ => f h, fun c => absurd rfl c⟩
  | true => exact ⟨fun c => absurd c (by decide), fun _ => g h⟩
theorem shl1 {n : Nat} (h : n ≤ 30) : (1 : Int32) <<< (nI n &&& 31) = nI (2 ^ n) := by
  have hp : 2 ^ n ≤ 2 ^ 30 := Nat.pow_le_pow_right (by omega) h
  have e := pk_shlN (n := 1) (nI n &&& 31) n (s_l n (by omega)) (by omega)
  rw [Nat.one_mul] at e
  exact e
theorem p2 {n : Nat} (h : n ≤ 10) : 1 ≤ 2 ^ n ∧ 2 ^ n ≤ 1024 := by
  have h1 : 2 ^ n ≤ 2 ^ 10 := Nat.pow_le_pow_right (by omega) h
  have h2 := Nat.pow_pos (n := n) (show 0 < 2 by omega)
  omega
/-- how far one colour lies from a set; the error of a set -/
def eP (g : Nat → Nat → Nat) (s k : Nat) : Nat → Nat
  | 0 => 1000000000
  | p + 1 => if s.testBit p then min (eP g s k p) (g k p) else eP g s k p
def erP (g : Nat → Nat → Nat) (n s : Nat) : Nat := fb_sm (fun k => eP g s k n) n
def lowI (s q : Nat) : Bool := decide (¬ (nI s &&& ((nI s ^^^ nI q) &&& (-(nI s ^^^ nI q)))) = 0)
def bestP (g : Nat → Nat → Nat) (n z : Nat) : Nat → Nat
  | 0 => 0
  | j + 1 => if 1 ≤ j ∧ pcs j = z ∧ (bestP g n z j = 0 ∨ erP g n j < erP g n (bestP g n z j) ∨ (erP g n j = erP g n (bestP g n z j) ∧ lowI j (bestP g n z j) = true)) then j else bestP g n z j
theorem eP_le {g : Nat → Nat → Nat} {s k : Nat} : ∀ p, eP g s k p ≤ 1000000000
  | 0 => Nat.le_refl _
  | p + 1 => by
    have := eP_le (g := g) (s := s) (k := k) p
    unfold eP
    split <;> omega
theorem eP_mem {g : Nat → Nat → Nat} {s k q : Nat} (hq : s.testBit q = true) : ∀ p, q < p → eP g s k p ≤ g k q
  | 0, h => absurd h (Nat.not_lt_zero _)
  | p + 1, h => by
    unfold eP
    by_cases hc : q = p
    · subst hc; rw [if_pos hq]; omega
    · have := eP_mem (g := g) (k := k) hq p (by omega)
      split <;> omega
theorem eP_anti {g : Nat → Nat → Nat} {s t k : Nat} (h : ∀ i, s.testBit i = true → t.testBit i = true) : ∀ p, eP g t k p ≤ eP g s k p
  | 0 => Nat.le_refl _
  | p + 1 => by
    have := eP_anti (g := g) (k := k) h p
    unfold eP
    by_cases hs : s.testBit p = true
    · rw [if_pos hs, if_pos (h p hs)]; omega
    · rw [if_neg hs]
      split <;> omega
theorem erP_anti {g : Nat → Nat → Nat} {n s t : Nat} (h : ∀ i, s.testBit i = true → t.testBit i = true) : erP g n t ≤ erP g n s := fb_sm_le (fun k _ => eP_anti h n)
theorem erP_b {g : Nat → Nat → Nat} {n s q : Nat} (hg : ∀ i j, i < n → j < n → g i j ≤ 29403) (hq : q < n) (hb : s.testBit q = true) : erP g n s ≤ n * 29403 := fb_sm_bound (fun k hk => Nat.le_trans (eP_mem hb n hq) (hg k q hk hq))
theorem bit_lt {s n i : Nat} (h : s < 2 ^ n) (hi : n ≤ i) : s.testBit i = false := Nat.testBit_lt_two_pow (Nat.lt_of_lt_of_le h (Nat.pow_le_pow_right (by omega) hi))
theorem bit_ex {s n : Nat} (h : s < 2 ^ n) (h0 : s ≠ 0) : ∃ q, q < n ∧ s.testBit q = true := by
  obtain ⟨q, hq⟩ := Nat.exists_testBit_of_ne_zero h0
  refine ⟨q, ?_, hq⟩
  rcases Nat.lt_or_ge q n with c | c
  · exact c
  · rw [bit_lt h c] at hq; cases hq
theorem bestP_lt {g : Nat → Nat → Nat} {n z : Nat} : ∀ j, bestP g n z j = 0 ∨ (1 ≤ bestP g n z j ∧ bestP g n z j < j ∧ pcs (bestP g n z j) = z)
  | 0 => Or.inl rfl
  | j + 1 => by
    have ih := bestP_lt (g := g) (n := n) (z := z) j
    unfold bestP
    split
    · next h => exact Or.inr ⟨h.1, by omega, h.2.1⟩
    · omega
theorem bestP_min {g : Nat → Nat → Nat} {n z : Nat} : ∀ j s, 1 ≤ s → s < j → pcs s = z → bestP g n z j ≠ 0 ∧ erP g n (bestP g n z j) ≤ erP g n s
  | 0, s, _, h, _ => absurd h (Nat.not_lt_zero _)
  | j + 1, s, h1, h2, h3 => by
    by_cases hs : s = j
    · subst hs
      unfold bestP
      split
      · exact ⟨by omega, Nat.le_refl _⟩
      · next h =>
        by_cases hb : bestP g n z s = 0
        · exact absurd ⟨h1, h3, Or.inl hb⟩ h
        · refine ⟨hb, ?_⟩
          rcases Nat.lt_or_ge (erP g n s) (erP g n (bestP g n z s)) with c | c
          · exact absurd ⟨h1, h3, Or.inr (Or.inl c)⟩ h
          · exact c
    · have ih := bestP_min (g := g) (n := n) (z := z) j s h1 (by omega) h3
      unfold bestP
      split
      · next h =>
        refine ⟨by omega, ?_⟩
        rcases h.2.2 with c | c | c
        · exact absurd c ih.1
        · omega
        · omega
      · exact ih
theorem pcs_full : ∀ z, z < 11 → pcs (2 ^ z - 1) = z := by decide +kernel
theorem bestP_ok {g : Nat → Nat → Nat} {n z : Nat} (hz : 1 ≤ z) (hn : z ≤ n) (h10 : n ≤ 10) : bestP g n z (2 ^ n) ≠ 0 ∧ bestP g n z (2 ^ n) < 2 ^ n ∧ pcs (bestP g n z (2 ^ n)) = z := by
  have h1 : 2 ^ 1 ≤ 2 ^ z := Nat.pow_le_pow_right (by omega) hz
  have h2 : 2 ^ z ≤ 2 ^ n := Nat.pow_le_pow_right (by omega) hn
  have h := bestP_min (g := g) (n := n) (2 ^ n) (2 ^ z - 1) (by omega) (by omega) (pcs_full z (by omega))
  have k := bestP_lt (g := g) (n := n) (z := z) (2 ^ n)
  refine ⟨h.1, ?_, ?_⟩ <;> omega
/-- a least over some sets -/
def isLe (f : Nat → Nat) (S : Nat → Prop) (V0 V : Nat) : Prop := V ≤ V0 ∧ (∀ s, S s → V ≤ f s) ∧ (V = V0 ∨ ∃ s, S s ∧ V = f s)
theorem isLe.none {f : Nat → Nat} {S : Nat → Prop} {V : Nat} (h : ∀ s, S s → V ≤ f s) : isLe f S V V := ⟨Nat.le_refl _, h, Or.inl rfl⟩
theorem isLe.two {f : Nat → Nat} {S T U : Nat → Prop} {V W Z : Nat} (h : isLe f S V W) (k : isLe f T W Z) (hu : ∀ s, U s ↔ (S s ∨ T s)) : isLe f U V Z := by
  obtain ⟨h1, h2, h3⟩ := h
  obtain ⟨k1, k2, k3⟩ := k
  refine ⟨by omega, fun s hs => ?_, ?_⟩
  · rcases (hu s).mp hs with c | c
    · have := h2 s c; omega
    · exact k2 s c
  · rcases k3 with rfl | ⟨s, c, e⟩
    · rcases h3 with e | ⟨s, c, e⟩
      · exact Or.inl e
      · exact Or.inr ⟨s, (hu s).mpr (Or.inl c), e⟩
    · exact Or.inr ⟨s, (hu s).mpr (Or.inr c), e⟩
def extS (n z c t s : Nat) : Prop := s < 2 ^ n ∧ (∀ k, k < c → s.testBit k = t.testBit k) ∧ pcs s = z
theorem pcs_split {s c : Nat} (hc : c ≤ 10) : pcs s = fb_ct (fun k => s.testBit k) c + fb_ct (fun k => s.testBit (c + k)) (10 - c) := by
  have := fb_ct_split (fun k => s.testBit k) c (10 - c)
  rw [show c + (10 - c) = 10 by omega] at this
  exact this
theorem pcs_low {t c : Nat} (hc : c ≤ 10) (h : t < 2 ^ c) : pcs t = fb_ct (fun k => t.testBit k) c := by
  have e := pcs_split (s := t) hc
  have z : fb_ct (fun k => t.testBit (c + k)) (10 - c) = 0 := fb_ct_zero.mpr (fun k _ => bit_lt h (by omega))
  omega
theorem ext_few {n z c t s : Nat} (hn : n ≤ 10) (hc : c ≤ n) (ht : t < 2 ^ c) (h : extS n z c t s) : z ≤ pcs t + (n - c) := by
  obtain ⟨h1, h2, h3⟩ := h
  have e1 := pcs_low (t := s) (c := n) hn h1
  have e2 := fb_ct_split (fun k => s.testBit k) c (n - c)
  rw [show c + (n - c) = n by omega] at e2
  have e3 := fb_ct_le (fun k => s.testBit (c + k)) (n - c)
  have e4 : fb_ct (fun k => s.testBit k) c = fb_ct (fun k => t.testBit k) c := fb_ct_cong h2
  have e5 := pcs_low (t := t) (by omega) ht
  omega
theorem ext_end {n z c t s : Nat} (hn : n ≤ 10) (hc : c ≤ n) (ht : t < 2 ^ c) (hz : pcs t = z) (h : extS n z c t s) : s = t := by
  obtain ⟨h1, h2, h3⟩ := h
  have e2 := pcs_split (s := s) (c := c) (by omega)
  have e4 : fb_ct (fun k => s.testBit k) c = fb_ct (fun k => t.testBit k) c := fb_ct_cong h2
  have e5 := pcs_low (t := t) (by omega) ht
  have e6 := fb_ct_zero.mp (show fb_ct (fun k => s.testBit (c + k)) (10 - c) = 0 by omega)
  refine Nat.eq_of_testBit_eq (fun i => ?_)
  rcases Nat.lt_or_ge i c with k | k
  · exact h2 i k
  · rw [bit_lt ht k]
    rcases Nat.lt_or_ge i 10 with k2 | k2
    · have := e6 (i - c) (by omega)
      rwa [show c + (i - c) = i by omega] at this
    · exact bit_lt h1 (by omega)
theorem bit_or {t c i : Nat} : (t ||| 2 ^ c).testBit i = (t.testBit i || decide (i = c)) := fb_bit_set t c i
theorem pcs_or {t c : Nat} (hc : c < 10) (ht : t < 2 ^ c) : pcs (t ||| 2 ^ c) = pcs t + 1 := by
  have e1 := fb_ct_upd (fun k => t.testBit k) true (i := c) (n := 10) hc
  have e2 : fb_ct (fun k => if k = c then true else t.testBit k) 10 = pcs (t ||| 2 ^ c) := fb_ct_cong (fun k _ => by
    rw [bit_or]
    by_cases h : k = c
    · rw [if_pos h, decide_eq_true h, Bool.or_true]
    · rw [if_neg h, decide_eq_false h, Bool.or_false])
  rw [e2, if_neg (by rw [bit_lt ht (Nat.le_refl c)]; decide), if_pos rfl] at e1
  exact e1
theorem or_lt {t c : Nat} (ht : t < 2 ^ c) : t ||| 2 ^ c < 2 ^ (c + 1) := Nat.or_lt_two_pow (Nat.lt_trans ht (Nat.pow_lt_pow_right (by omega) (by omega))) (Nat.pow_lt_pow_right (by omega) (by omega))
theorem ext_two {n z c t s : Nat} (ht : t < 2 ^ c) : extS n z c t s ↔ (extS n z (c + 1) (t ||| 2 ^ c) s ∨ extS n z (c + 1) t s) := by
  have hb : t.testBit c = false := bit_lt ht (Nat.le_refl c)
  constructor
  · rintro ⟨h1, h2, h3⟩
    cases hs : s.testBit c with
    | true =>
      refine Or.inl ⟨h1, fun k hk => ?_, h3⟩
      rw [bit_or]
      by_cases hkc : k = c
      · rw [hkc, hs, decide_eq_true rfl, Bool.or_true]
      · rw [decide_eq_false hkc, Bool.or_false]; exact h2 k (by omega)
    | false =>
      refine Or.inr ⟨h1, fun k hk => ?_, h3⟩
      by_cases hkc : k = c
      · rw [hkc, hs, hb]
      · exact h2 k (by omega)
  · rintro (⟨h1, h2, h3⟩ | ⟨h1, h2, h3⟩)
    · refine ⟨h1, fun k hk => ?_, h3⟩
      rw [h2 k (by omega), bit_or, decide_eq_false (by omega), Bool.or_false]
    · exact ⟨h1, fun k hk => h2 k (by omega), h3⟩
theorem und_bit : ∀ n, n < 11 → ∀ c, c < 11 → ∀ i, i < 10 → (2 ^ n - 2 ^ c).testBit i = decide (c ≤ i ∧ i < n) := by decide +kernel
/-- the member at a place -/
def memb (s p : Nat) : Nat := fa_first (fun k => s.testBit k && decide (fb_ct (fun k => s.testBit k) k = p)) 10
theorem memb_is {s p k : Nat} (hk : k < 10) (h1 : s.testBit k = true) (h2 : fb_ct (fun k => s.testBit k) k = p) : memb s p = k := by
  unfold memb
  have hb : (s.testBit k && decide (fb_ct (fun k => s.testBit k) k = p)) = true := by rw [h1, decide_eq_true h2]; rfl
  have h0 := fa_first_no (fun k => s.testBit k && decide (fb_ct (fun k => s.testBit k) k = p)) 10
  have h3 := fa_first_yes (fun k => s.testBit k && decide (fb_ct (fun k => s.testBit k) k = p)) 10
  generalize fa_first (fun k => s.testBit k && decide (fb_ct (fun k => s.testBit k) k = p)) 10 = q at h0 h3 ⊢
  have hq : ¬ k < q := fun c => by
    have := h0 k c
    rw [hb] at this; cases this
  have h4 := h3 (by omega)
  rw [Bool.and_eq_true, decide_eq_true_iff] at h4
  exact fb_ct_kth_one (p := fun k => s.testBit k) h4.1 h1 (by rw [h4.2, h2])
def whyPa (a : AS) (p : Int32) : Nat := if inR p 1 (aC a).length then 0 else 1
def palV (a : AS) (z : Nat) : Nat := bestP (dCC a) (aC a).length z (2 ^ (aC a).length)
def whyPc (a : AS) (p q : Int32) : Nat := if inR p 1 (aC a).length then (if q < 0 ∨ p ≤ q then 2 else 0) else 1
