/-! ===== THE FINDER (wip/whole/gen_find.py) ===== -/
theorem gap3_1 {mt p q r s : Nat} (hm : okMet mt) (h : s ≤ p ∨ s ≤ q ∨ s ≤ r) : gap3 mt s 0 0 ≤ gap3 mt p q r := by
  have sq : ∀ {a b : Nat}, a ≤ b → a * a ≤ b * b := fun h => Nat.mul_le_mul h h
  rcases hm with rfl | rfl | rfl
  · have e1 : gap3 109 s 0 0 = s + 0 + 0 := rfl
    have e2 : gap3 109 p q r = p + q + r := rfl
    rw [e1, e2]; omega
  · have e1 : gap3 115 s 0 0 = s * s + 0 * 0 + 0 * 0 := rfl
    have e2 : gap3 115 p q r = p * p + q * q + r * r := rfl
    rw [e1, e2]
    rcases h with h | h | h
    · have := sq h; omega
    · have := sq h; omega
    · have := sq h; omega
  · have e1 : gap3 103 s 0 0 = max s (max 0 0) := rfl
    have e2 : gap3 103 p q r = max p (max q r) := rfl
    rw [e1, e2]; omega
theorem gap_part {mt c : Nat} {u w : Row} (hm : okMet mt) (h1 : 1 ≤ c) (h3 : c ≤ 3) {s : Nat} (h : s ≤ adf (u c) (w c)) : gap3 mt s 0 0 ≤ dst mt u w := by
  have hc : c = 1 ∨ c = 2 ∨ c = 3 := by omega
  unfold dst
  rcases hc with rfl | rfl | rfl
  · exact gap3_1 hm (Or.inl h)
  · exact gap3_1 hm (Or.inr (Or.inl h))
  · exact gap3_1 hm (Or.inr (Or.inr h))
theorem gap_mono {mt s t : Nat} (hm : okMet mt) (h : s ≤ t) : gap3 mt s 0 0 ≤ gap3 mt t 0 0 := gap3_1 hm (Or.inl h)
theorem pk_sge {a b : Nat} {A C : Prop} (f : b ≤ a → A) (g : a < b → C) (ha : a < 2 ^ 30) (hb : b < 2 ^ 30) : (0 ≤ nI a - nI b → A) ∧ (¬ 0 ≤ nI a - nI b → C) := by
  by_cases h : b ≤ a
  · rw [nI_sub h]
    exact ⟨fun _ => f h, fun c => absurd (nI_pos' (by omega)) c⟩
  · have := pk_sneg (a := a) (b := b) hb (by omega)
    exact ⟨fun c => absurd this (Int32.not_lt.mpr c), fun _ => g (by omega)⟩
theorem nI_p {n : Nat} (h : 0 < n) : nI n - 1 = nI (n - 1) := by
  have := nI_pred (n - 1)
  rwa [show n - 1 + 1 = n by omega] at this
/-- a row of places -/
def ordP (m : MI) (n : Nat) (e : Nat → Nat) : Prop := (∀ k, k < n → m 11 0 k = nI (e k) ∧ e k < n) ∧ ∀ i j, i < j → j < n → e i ≠ e j
def K11 (m m9 : MI) : Prop := ∀ f i k, ¬ f = 11 → m9 f i k = m f i k
theorem K11.tr {a b c : MI} (h : K11 a b) (k : K11 b c) : K11 a c := fun f i j h1 => (k f i j h1).trans (h f i j h1)
def setEq (e e9 : Nat → Nat) (fr to : Nat) : Prop := (∀ k, fr ≤ k → k < to → ∃ j, fr ≤ j ∧ j < to ∧ e9 k = e j) ∧ ∀ k, k < fr ∨ to ≤ k → e9 k = e k
theorem setEq.rf {e : Nat → Nat} {fr to : Nat} : setEq e e fr to := ⟨fun k h1 h2 => ⟨k, h1, h2, rfl⟩, fun _ _ => rfl⟩
theorem setEq.tr {a b c : Nat → Nat} {fr to : Nat} (h : setEq a b fr to) (k : setEq b c fr to) : setEq a c fr to := by
  refine ⟨fun i h1 h2 => ?_, fun i hi => (k.2 i hi).trans (h.2 i hi)⟩
  obtain ⟨j, j1, j2, j3⟩ := k.1 i h1 h2
  obtain ⟨l, l1, l2, l3⟩ := h.1 j j1 j2
  exact ⟨l, l1, l2, j3.trans l3⟩
def srt (key : Nat → Nat) (e : Nat → Nat) (fr to : Nat) : Prop := ∀ i j, fr ≤ i → i < j → j < to → key (e i) ≤ key (e j)
/-- a tree in a stretch of the row -/
def kdt (key : Nat → Nat → Nat) (e : Nat → Nat) : Nat → Nat → Nat → Nat → Prop
  | 0, _, _, _ => True
  | j + 1, fr, to, dp => to ≤ fr ∨ ((∀ i, fr ≤ i → i < (fr + to) / 2 → key (e i) (1 + dp % 3) ≤ key (e ((fr + to) / 2)) (1 + dp % 3)) ∧ (∀ i, (fr + to) / 2 < i → i < to → key (e ((fr + to) / 2)) (1 + dp % 3) ≤ key (e i) (1 + dp % 3)) ∧ kdt key e j fr ((fr + to) / 2) (dp + 1) ∧ kdt key e j ((fr + to) / 2 + 1) to (dp + 1))
theorem kdt_cong {key : Nat → Nat → Nat} {e e9 : Nat → Nat} : ∀ (j fr to dp : Nat), (∀ k, fr ≤ k → k < to → e9 k = e k) → kdt key e j fr to dp → kdt key e9 j fr to dp
  | 0, _, _, _, _, _ => trivial
  | j + 1, fr, to, dp, h, k => by
    rcases k with k | ⟨k1, k2, k3, k4⟩
    · exact Or.inl k
    · by_cases hc : to ≤ fr
      · exact Or.inl hc
      · refine Or.inr ⟨fun i h1 h2 => ?_, fun i h1 h2 => ?_, kdt_cong j _ _ _ (fun k h1 h2 => h k (by omega) (by omega)) k3, kdt_cong j _ _ _ (fun k h1 h2 => h k (by omega) (by omega)) k4⟩
        · rw [h i (by omega) (by omega), h _ (by omega) (by omega)]; exact k1 i h1 h2
        · rw [h i (by omega) (by omega), h _ (by omega) (by omega)]; exact k2 i h1 h2
theorem kdt_small {key : Nat → Nat → Nat} {e : Nat → Nat} : ∀ (j fr to dp : Nat), to ≤ fr + 1 → kdt key e j fr to dp
  | 0, _, _, _, _ => trivial
  | j + 1, fr, to, dp, h => by
    by_cases hc : to ≤ fr
    · exact Or.inl hc
    · exact Or.inr ⟨fun i h1 h2 => by omega, fun i h1 h2 => by omega, kdt_small j _ _ _ (by omega), kdt_small j _ _ _ (by omega)⟩
/-- the nearest of some -/
def isBest (g : Nat → Nat) (S : Nat → Prop) (b : Nat) : Prop := S b ∧ ∀ c, S c → g b < g c ∨ (g b = g c ∧ b ≤ c)
def BS (g : Nat → Nat) (n : Nat) (S : Nat → Prop) (v : Int32) : Prop := (v = -1 ∧ ∀ c, ¬ S c) ∨ ∃ b, b < n ∧ v = nI b ∧ isBest g S b
theorem isBest.cong {g : Nat → Nat} {S T : Nat → Prop} {b : Nat} (h : isBest g S b) (hs : ∀ c, S c ↔ T c) : isBest g T b := ⟨(hs b).mp h.1, fun c hc => h.2 c ((hs c).mpr hc)⟩
theorem isBest.more {g : Nat → Nat} {S T : Nat → Prop} {b : Nat} (h : isBest g S b) (h1 : ∀ c, S c → T c) (h2 : ∀ c, T c → S c ∨ g b < g c) : isBest g T b := ⟨h1 b h.1, fun c hc => by
  rcases h2 c hc with k | k
  · exact h.2 c k
  · exact Or.inl k⟩
section FIND
variable {X : MX} {d : Nat} {x : Int64 × UInt64} {m : MI} {Q : MRes → Prop} {a : AS} {B : Nat} {n : Nat} {e : Nat → Nat}
theorem sp_measure1 {mt p q : Nat} (hm : okMet mt) (h1 : p ≤ 99 ∧ q ≤ 99) (hQ : Q (.inl (some (vi (nI (gap3 mt (adf p q) 0 0)))), G x m)) : Cl X d 60 [vi (nI mt), vi (nI p - nI q), vi 0, vi 0] (G x m) Q := by
  have e0 : (0 : Int32) = nI 0 - nI 0 := by decide +kernel
  rw [e0]
  exact sp_measure hm h1 ⟨by omega, by omega⟩ ⟨by omega, by omega⟩ hQ
theorem sp_list {n : Nat} (hn : n ≤ 10) (hQ : ∀ m9, ordP m9 n (fun k => k) → K11 m m9 → Q (.inl none, G x m9)) : Cl X d 101 [vp 10 0, vi (nI n)] (G x m) Q := by
  refine vc_X2_listAll ?_
  have key : ∀ k, k ≤ n → ∀ m9, (∀ j, j < k → m9 11 0 j = nI j) → K11 m m9 → Wp X d 101 (2, ([some (vp 10 0), some (vi (nI n)), some (vi (nI k))], ([], G x m9))) Q := by
    refine lup (fun k hk ih m9 hA hK => ?_)
    refine vl_X2_listAll_2 ?_
    rw [nI_clamp (n := k) (by omega)]
    refine pk_le n k (fun hc => ?_) (fun hc => ⟨inb_n k 10 (by omega), fun m2 e2 t3 e3 => ?_⟩)
    · exact hQ m9 ⟨fun j hj => ⟨hA j (by omega), hj⟩, fun i j h1 h2 => by show i ≠ j; omega⟩ hK
    · rw [e3, nI_1]
      refine ih hc m2 (fun j hj => ?_) (hK.tr (fun f i k h1 => by rw [e2, mup_no (by omega)]))
      rw [e2]
      by_cases hjk : j = k
      · rw [hjk, mup_eq]
      · rw [mup_no (by omega)]; exact hA j (by omega)
  exact key 0 (by omega) m (fun j hj => by omega) (fun _ _ _ _ => rfl)
theorem sp_sort {fr to c : Nat} (h : relS m 0 a) (ho : okA B a) (hn : n = (aC a).length) (he : ordP m n e) (ht : to ≤ n) (hf : fr ≤ to) (hc1 : 1 ≤ c) (hc3 : c ≤ 3)
    (hQ : ∀ m9 e9, ordP m9 n e9 → setEq e e9 fr to → srt (fun i => rowD (aC a) i c) e9 fr to → K11 m m9 → Q (.inl none, G x m9)) : Cl X d 103 [vp 4 0, vp 11 0, vi (nI fr), vi (nI to), vi (nI c)] (G x m) Q := by
  have hl := ho.len
  refine vc_X2_sort (fun t1 e1 => ?_)
  rw [nI_1] at e1
  rw [e1]
  have R : ∀ m9, K11 m m9 → ∀ i, i < n → m9 5 (10 * 0 + i) c = nI (rowD (aC a) i c) := fun m9 hK i hi => by
    rw [hK 5 _ c (by omega)]
    exact h.1.2.2 i (by omega) c (by omega)
  have RB : ∀ i, i < n → rowD (aC a) i c ≤ 99 := fun i hi => (ho.rpC h (k := i) (by omega) c hc1 hc3).2
  have outer : ∀ k, k ≤ n → ∀ m9 e9 o6 o7, fr < k → ordP m9 n e9 → setEq e e9 fr to → srt (fun i => rowD (aC a) i c) e9 fr (min k to) → K11 m m9 → Wp X d 103 (5, ([some (vp 4 0), some (vp 11 0), some (vi (nI fr)), some (vi (nI to)), some (vi (nI c)), some (vi (nI k)), o6, o7], ([], G x m9))) Q := by
    refine lup (fun k hk ih m9 e9 o6 o7 hfk hO hE hS hK => ?_)
    refine vl_X2_sort_5 (pk_le to k (fun hc => ?_) (fun hc => ?_))
    · rw [Nat.min_eq_right hc] at hS
      exact hQ m9 e9 hO hE hS hK
    · have inner : ∀ t m8 e8 o7, fr ≤ t → t ≤ k → ordP m8 n e8 → setEq e e8 fr to → (∀ i j, fr ≤ i → i < j → j ≤ k → j ≠ t → rowD (aC a) (e8 i) c ≤ rowD (aC a) (e8 j) c) → K11 m m8 → Wp X d 103 (15, ([some (vp 4 0), some (vp 11 0), some (vi (nI fr)), some (vi (nI to)), some (vi (nI c)), some (vi (nI k)), some (vi (nI t)), o7], ([], G x m8))) Q := by
        intro t
        induction t with
        | zero =>
          intro m8 e8 o7 ht1 ht2 hO8 hE8 hI8 hK8
          obtain rfl : fr = 0 := by omega
          refine vl_X2_sort_15 (pk_le 0 0 (fun _ t2 e2 => ?_) (fun hc => by omega))
          rw [e2, nI_1]
          refine ih (by omega) m8 e8 _ _ (by omega) hO8 hE8 (fun i j h1 h2 h3 => hI8 i j h1 h2 (by omega) (by omega)) hK8
        | succ t iht =>
          intro m8 e8 o7 ht1 ht2 hO8 hE8 hI8 hK8
          refine vl_X2_sort_15 ?_
          have x1 := hO8.1 (t + 1) (by omega)
          have x0 := hO8.1 t (by omega)
          have r1 := RB _ x1.2
          have r0 := RB _ x0.2
          rw [nI_pred, nI_clamp (n := t) (by omega), nI_clamp (n := t + 1) (by omega), nI_clamp (n := c) (by omega), x1.1, x0.1, nI_clamp (n := e8 (t + 1)) (by omega), nI_clamp (n := e8 t) (by omega), R m8 hK8 _ x1.2, R m8 hK8 _ x0.2]
          refine pk_le (t + 1) fr (fun hc2 t2 e2 => ?_) (fun hc2 => ⟨inb_n t 10 (by omega), inb_n (e8 t) 10 (by omega), inb_n c 6 (by omega), inb_n (t + 1) 10 (by omega), inb_n (e8 (t + 1)) 10 (by omega), inb_n c 6 (by omega), pk_le (rowD (aC a) (e8 t) c) (rowD (aC a) (e8 (t + 1)) c) (fun hc3 t4 e4 => ?_) (fun hc3 => ⟨inb_n (t + 1) 10 (by omega), fun t5 e5 => ⟨inb_n t 10 (by omega), inb_n (t + 1) 10 (by omega), fun m6 e6 => ⟨inb_n t 10 (by omega), fun m7 e7 t8 e8' => ?_⟩⟩⟩)⟩)
          · rw [e2, nI_1]
            refine ih (by omega) m8 e8 _ _ (by omega) hO8 hE8 (fun i j h1 h2 h3 => hI8 i j h1 h2 (by omega) (by omega)) hK8
          · rw [e4, nI_1]
            refine ih (by omega) m8 e8 _ _ (by omega) hO8 hE8 (fun i j h1 h2 h3 => ?_) hK8
            by_cases hj : j = t + 1
            · subst hj
              by_cases hi : i = t
              · subst hi; exact hc3
              · exact Nat.le_trans (hI8 i t h1 (by omega) (by omega) (by omega)) hc3
            · exact hI8 i j h1 h2 (by omega) hj
          · rw [pk_m1] at e8'
            rw [e8', e5]
            let w : Nat → Nat := fun k => if k = t then e8 (t + 1) else if k = t + 1 then e8 t else e8 k
            have w0 : w t = e8 (t + 1) := if_pos rfl
            have w1 : w (t + 1) = e8 t := by show (if t + 1 = t then _ else _) = _; rw [if_neg (by omega), if_pos rfl]
            have w2 : ∀ k, k ≠ t → k ≠ t + 1 → w k = e8 k := fun k h1 h2 => by show (if k = t then _ else _) = _; rw [if_neg h1, if_neg h2]
            have hE : setEq e8 w fr to := by
              refine ⟨fun i h1 h2 => ?_, fun i hi => w2 i (by omega) (by omega)⟩
              by_cases hi : i = t
              · exact ⟨t + 1, by omega, by omega, by rw [hi, w0]⟩
              · by_cases hi2 : i = t + 1
                · exact ⟨t, by omega, by omega, by rw [hi2, w1]⟩
                · exact ⟨i, h1, h2, w2 i hi hi2⟩
            refine iht m7 w _ (by omega) (by omega) ⟨fun i hi => ?_, fun i j h1 h2 => ?_⟩ (hE8.tr hE) (fun i j h1 h2 h3 h4 => ?_) (hK8.tr (fun f i k h1 => by rw [e7, mup_no (by omega), e6, mup_no (by omega)]))
            · by_cases hit : i = t
              · rw [hit, w0, e7, mup_eq, e5]; exact ⟨rfl, x1.2⟩
              · by_cases hit2 : i = t + 1
                · rw [hit2, w1, e7, mup_no (by omega), e6, mup_eq]; exact ⟨rfl, x0.2⟩
                · rw [w2 i hit hit2, e7, mup_no (by omega), e6, mup_no (by omega)]; exact hO8.1 i hi
            · have hne := hO8.2
              by_cases hi : i = t
              · by_cases hj : j = t + 1
                · rw [hi, hj, w0, w1]; exact fun z => hne t (t + 1) (by omega) (by omega) z.symm
                · rw [hi, w0, w2 j (by omega) hj]; exact hne (t + 1) j (by omega) h2
              · by_cases hi2 : i = t + 1
                · rw [hi2, w1, w2 j (by omega) (by omega)]; exact hne t j (by omega) h2
                · rw [w2 i hi hi2]
                  by_cases hj : j = t
                  · rw [hj, w0]; exact hne i (t + 1) (by omega) (by omega)
                  · by_cases hj2 : j = t + 1
                    · rw [hj2, w1]; exact hne i t (by omega) (by omega)
                    · rw [w2 j hj hj2]; exact hne i j h1 h2
            · by_cases hj : j = t + 1
              · rw [hj, w1]
                by_cases hi : i = t
                · rw [hi, w0]; omega
                · rw [w2 i hi (by omega)]; exact hI8 i t h1 (by omega) (by omega) (by omega)
              · rw [w2 j (by omega) hj]
                by_cases hi : i = t
                · rw [hi, w0]; exact hI8 (t + 1) j (by omega) (by omega) h3 (by omega)
                · by_cases hi2 : i = t + 1
                  · rw [hi2, w1]; exact hI8 t j (by omega) (by omega) h3 (by omega)
                  · rw [w2 i hi hi2]; exact hI8 i j h1 h2 h3 hj
      refine inner k m9 e9 o7 (by omega) (by omega) hO hE (fun i j h1 h2 h3 h4 => hS i j h1 h2 (by omega)) hK
  by_cases hfn : fr + 1 ≤ n
  · exact outer (fr + 1) hfn m e none none (by omega) he setEq.rf (fun i j h1 h2 h3 => by omega) (fun _ _ _ _ => rfl)
  · refine vl_X2_sort_5 (pk_le to (fr + 1) (fun hc => ?_) (fun hc => by omega))
    exact hQ m e he setEq.rf (fun i j h1 h2 h3 => by omega) (fun _ _ _ _ => rfl)
theorem part_I {dp : Nat} (h : dp ≤ 100) : 1 + (nI dp - nI dp / 3 * 3) = nI (1 + dp % 3) := by
  rw [show (3 : Int32) = nI 3 from rfl, pk_rem (by omega) (by omega) (by omega)]
  exact nI_add 1 _
theorem mid_I {p q : Nat} (h : p + q < 2 ^ 31) : (nI p + nI q) / 2 = nI ((p + q) / 2) := by
  rw [nI_add, show (2 : Int32) = nI 2 from rfl, pk_div h (by omega) (by omega)]
theorem sp_divide (ho : okA B a) (hn : n = (aC a).length) : ∀ (j : Nat) {m : MI} {e : Nat → Nat} {Q : MRes → Prop} {fr to dp : Nat}, relS m 0 a → ordP m n e → to ≤ n → fr ≤ to → to - fr ≤ j → j + dp ≤ 10 →
    (∀ m9 e9, ordP m9 n e9 → setEq e e9 fr to → kdt (rowD (aC a)) e9 j fr to dp → K11 m m9 → Q (.inl none, G x m9)) → Cl X (d + 1 + j) 102 [vp 4 0, vp 11 0, vi (nI fr), vi (nI to), vi (nI dp)] (G x m) Q
  | 0, m, e, Q, fr, to, dp, h, he, ht, hf, hj, hd, hQ => by
    have hl := ho.len
    refine vc_X2_divide ⟨fun _ => hQ m e he setEq.rf trivial (fun _ _ _ _ => rfl), fun c => ?_⟩
    exfalso
    apply c
    rw [nI_sub hf]
    exact nI_lt (b := 2) (by omega) (by omega)
  | j + 1, m, e, Q, fr, to, dp, h, he, ht, hf, hj, hd, hQ => by
    have hl := ho.len
    have e1 : (nI to - nI fr < 2 → Q (.inl none, G x m)) ∧ (¬ nI to - nI fr < 2 → ((nI dp ≤ 10 → Cl X (d + 1 + j) 103 [vp 4 0, vp 11 0, vi (nI fr), vi (nI to), vi (1 + (nI dp - nI dp / 3 * 3))] (G x m) (fun r => ∃ (m4 : MI), r = (.inl none, G x m4) ∧ (∀ t5 : Int32, t5 = (nI fr + nI to) / 2 → Cl X (d + 1 + j) 102 [vp 4 0, vp 11 0, vi (nI fr), vi t5, vi (nI dp + 1)] (G x m4) (fun r => ∃ (m7 : MI), r = (.inl none, G x m7) ∧ Cl X (d + 1 + j) 102 [vp 4 0, vp 11 0, vi (t5 + 1), vi (nI to), vi (nI dp + 1)] (G x m7) (fun r => ∃ (m9 : MI), r = (.inl none, G x m9) ∧ Q (.inl none, G x m9)))))) ∧ (¬ nI dp ≤ 10 → Q (.inl none, G x m)))) := by
      rw [nI_sub hf]
      refine pk_lt (to - fr) 2 (fun c => hQ m e he setEq.rf (kdt_small _ _ _ _ (by omega)) (fun _ _ _ _ => rfl)) (fun c => pk_le dp 10 (fun _ => ?_) (fun c2 => by omega))
      rw [part_I (by omega)]
      refine sp_sort h ho hn he ht hf (c := 1 + dp % 3) (by omega) (by omega) (fun m4 e4 hO4 hE4 hS4 hK4 => ⟨_, rfl, fun t5 e5 => ?_⟩)
      rw [mid_I (by omega)] at e5
      rw [e5, nI_1, nI_1]
      have R : ∀ m9, K11 m m9 → relS m9 0 a := fun m9 hK => h.on hl.1 hl.2.1 (fun f i k hi => hK f i k (by unfold inSt at hi; omega))
      refine sp_divide ho hn j (R m4 hK4) hO4 (by omega) (by omega) (by omega) (by omega) (fun m7 e7 hO7 hE7 hT7 hK7 => ⟨_, rfl, ?_⟩)
      refine sp_divide ho hn j (R m7 (hK4.tr hK7)) hO7 ht (by omega) (by omega) (by omega) (fun m9 e9 hO9 hE9 hT9 hK9 => ⟨_, rfl, ?_⟩)
      have hm1 : fr ≤ (fr + to) / 2 := by omega
      have hm2 : (fr + to) / 2 < to := by omega
      generalize hmid : (fr + to) / 2 = mid at *
      have em : e9 mid = e4 mid := by rw [hE9.2 mid (by omega), hE7.2 mid (by omega)]
      refine hQ m9 e9 hO9 ?_ (Or.inr ⟨fun i h1 h2 => ?_, fun i h1 h2 => ?_, ?_, ?_⟩) ((hK4.tr hK7).tr hK9)
      · refine hE4.tr (setEq.tr (b := e7) ⟨fun k h1 h2 => ?_, fun k hk => hE7.2 k (by omega)⟩ ⟨fun k h1 h2 => ?_, fun k hk => hE9.2 k (by omega)⟩)
        · by_cases hk : k < mid
          · obtain ⟨i, i1, i2, i3⟩ := hE7.1 k h1 hk
            exact ⟨i, i1, by omega, i3⟩
          · exact ⟨k, h1, h2, hE7.2 k (by omega)⟩
        · by_cases hk : mid + 1 ≤ k
          · obtain ⟨i, i1, i2, i3⟩ := hE9.1 k hk h2
            exact ⟨i, by omega, i2, i3⟩
          · exact ⟨k, h1, h2, hE9.2 k (by omega)⟩
      · rw [hmid] at *
        rw [em, hE9.2 i (by omega)]
        obtain ⟨i7, j1, j2, j3⟩ := hE7.1 i h1 h2
        rw [j3]
        exact hS4 i7 mid j1 j2 (by omega)
      · rw [hmid] at *
        rw [em]
        obtain ⟨i9, j1, j2, j3⟩ := hE9.1 i (by omega) h2
        rw [j3, hE7.2 i9 (by omega)]
        exact hS4 mid i9 (by omega) (by omega) j2
      · rw [hmid]
        exact kdt_cong j _ _ _ (fun k h1 h2 => hE9.2 k (by omega)) hT7
      · rw [hmid]
        exact hT9
    exact vc_X2_divide e1
theorem sp_nearer30 {u : Row} {S : Nat → Prop} {v : Int32} {c : Nat} (h : relS m 0 a) (ho : okA B a) (hn : n = (aC a).length) (hu : rparts m 30 0 u) (hv : BS (fun k => dst (aMet a) u (rowD (aC a) k)) n S v) (hc : c < n) (hQ : ∀ b, b < n → isBest (fun k => dst (aMet a) u (rowD (aC a) k)) (fun k => S k ∨ k = c) b → Q (.inl (some (vi (nI b))), G x m)) : Cl X (d + 2) 105 [vp 1 0, vp 30 0, vi v, vi (nI c)] (G x m) Q := by
  have hl := ho.len
  refine vc_X2_nearer_30 ?_
  rcases hv with ⟨rfl, hS⟩ | ⟨b, hb, rfl, hS⟩
  · exact ⟨fun z => absurd z (by decide), fun _ => hQ c hc ⟨Or.inr rfl, fun k hk => by
      rcases hk with hk | hk
      · exact absurd hk (hS k)
      · exact Or.inr ⟨by rw [hk], by omega⟩⟩⟩
  · refine ⟨fun _ => ?_, fun z => absurd (nI_pos' (by omega)) z⟩
    rw [nI_clamp (n := b) (by omega), nI_clamp (n := c) (by omega)]
    have bd : ∀ k, k < n → dst (aMet a) u (rowD (aC a) k) ≤ 29403 := fun k hk => gap3_le (adf_le (hu 1 (by omega) (by omega)).2 (ho.rpC h (k := k) (by omega) 1 (by omega) (by omega)).2) (adf_le (hu 2 (by omega) (by omega)).2 (ho.rpC h (k := k) (by omega) 2 (by omega) (by omega)).2) (adf_le (hu 3 (by omega) (by omega)).2 (ho.rpC h (k := k) (by omega) 3 (by omega) (by omega)).2)
    refine ⟨inb_n b 10 (by omega), sp_betw30 hl.2.2 h.2.2.2.1 hu (ho.rpC h (by omega)) ⟨_, _, rfl, inb_n c 10 (by omega), sp_betw30 hl.2.2 h.2.2.2.1 hu (ho.rpC h (by omega)) ⟨_, _, rfl, ?_⟩⟩⟩
    have b1 := bd b hb
    have b2 := bd c hc
    have keep : (dst (aMet a) u (rowD (aC a) b) < dst (aMet a) u (rowD (aC a) c) ∨ (dst (aMet a) u (rowD (aC a) b) = dst (aMet a) u (rowD (aC a) c) ∧ b ≤ c)) → isBest (fun k => dst (aMet a) u (rowD (aC a) k)) (fun k => S k ∨ k = c) b := fun z => ⟨Or.inl hS.1, fun k hk => by
      rcases hk with hk | rfl
      · exact hS.2 k hk
      · exact z⟩
    have swap : (dst (aMet a) u (rowD (aC a) c) < dst (aMet a) u (rowD (aC a) b) ∨ (dst (aMet a) u (rowD (aC a) c) = dst (aMet a) u (rowD (aC a) b) ∧ c ≤ b)) → isBest (fun k => dst (aMet a) u (rowD (aC a) k)) (fun k => S k ∨ k = c) c := fun z => ⟨Or.inr rfl, fun k hk => by
      rcases hk with hk | rfl
      · have := hS.2 k hk
        show dst (aMet a) u (rowD (aC a) c) < dst (aMet a) u (rowD (aC a) k) ∨ (dst (aMet a) u (rowD (aC a) c) = dst (aMet a) u (rowD (aC a) k) ∧ c ≤ k)
        have this : dst (aMet a) u (rowD (aC a) b) < dst (aMet a) u (rowD (aC a) k) ∨ (dst (aMet a) u (rowD (aC a) b) = dst (aMet a) u (rowD (aC a) k) ∧ b ≤ k) := this
        omega
      · exact Or.inr ⟨rfl, Nat.le_refl _⟩⟩
    refine pk_lt (dst (aMet a) u (rowD (aC a) c)) (dst (aMet a) u (rowD (aC a) b)) (fun z => hQ c hc (swap (Or.inl z))) (fun z => pk_eqn (fun z2 => pk_le b c (fun z3 => hQ b hb (keep (Or.inr ⟨z2.symm, z3⟩))) (fun z3 => hQ c hc (swap (Or.inr ⟨z2, by omega⟩)))) (fun z2 => hQ b hb (keep (Or.inl (by omega)))) (by omega) (by omega))
theorem sp_search30 {u : Row} (h : relS m 0 a) (ho : okA B a) (hn : n = (aC a).length) (hu : rparts m 30 0 u) (he : ordP m n e) : ∀ (j : Nat) {Q : MRes → Prop} {S : Nat → Prop} {v : Int32} {fr to dp : Nat}, fr ≤ n → to ≤ n → to - fr ≤ j → j + dp ≤ 10 → kdt (rowD (aC a)) e j fr to dp → BS (fun k => dst (aMet a) u (rowD (aC a) k)) n S v →
    (∀ v9, BS (fun k => dst (aMet a) u (rowD (aC a) k)) n (fun k => S k ∨ ∃ i, fr ≤ i ∧ i < to ∧ k = e i) v9 → Q (.inl (some (vi v9)), G x m)) → Cl X (d + j + 3) 104 [vp 1 0, vp 11 0, vp 30 0, vi (nI fr), vi (nI to), vi (nI dp), vi v] (G x m) Q
  | 0, Q, S, v, fr, to, dp, hr, ht, hj, hd, hT, hv, hQ => by
    have hl := ho.len
    refine vc_X2_search_11_30 (pk_le to fr (fun c => hQ v ?_) (fun c => by omega))
    rcases hv with ⟨h1, h2⟩ | ⟨b, h1, h2, h3⟩
    · refine Or.inl ⟨h1, fun c z => ?_⟩
      rcases z with z | ⟨i, i1, i2, _⟩
      · exact h2 c z
      · omega
    · refine Or.inr ⟨b, h1, h2, h3.cong (fun k => ⟨Or.inl, fun z => ?_⟩)⟩
      rcases z with z | ⟨i, i1, i2, _⟩
      · exact z
      · omega
  | j + 1, Q, S, v, fr, to, dp, hr, ht, hj, hd, hT, hv, hQ => by
    have hl := ho.len
    by_cases hft : to ≤ fr
    · refine vc_X2_search_11_30 ⟨fun _ => hQ v ?_, fun c => absurd (nI_le hft (by omega)) c⟩
      rcases hv with ⟨h1, h2⟩ | ⟨b, h1, h2, h3⟩
      · refine Or.inl ⟨h1, fun c z => ?_⟩
        rcases z with z | ⟨i, i1, i2, _⟩
        · exact h2 c z
        · omega
      · refine Or.inr ⟨b, h1, h2, h3.cong (fun k => ⟨Or.inl, fun z => ?_⟩)⟩
        rcases z with z | ⟨i, i1, i2, _⟩
        · exact z
        · omega
    · refine vc_X2_search_11_30 ⟨fun c => absurd c (nI_ge (by omega) (by omega)), fun _ => ⟨fun _ t3 e3 => ?_, fun c => absurd (nI_le (b := 10) (by omega) (by omega)) c⟩⟩
      rcases hT with hT | ⟨k1, k2, k3, k4⟩
      · omega
      rw [mid_I (by omega)] at e3
      have hmid : (fr + to) / 2 < n := by omega
      have hm1 : fr ≤ (fr + to) / 2 := by omega
      have hm2 : (fr + to) / 2 < to := by omega
      generalize hm9 : (fr + to) / 2 = mid at *
      have xm := he.1 mid hmid
      rw [e3, nI_clamp (n := mid) (by omega)]
      refine ⟨inb_n mid 10 (by omega), fun t4 e4 t5 e5 => ?_⟩
      rw [xm.1] at e4
      rw [part_I (by omega)] at e5
      have hc1 : 1 ≤ 1 + dp % 3 := by omega
      have hc3 : 1 + dp % 3 ≤ 3 := by omega
      generalize hc9 : 1 + dp % 3 = c at *
      rw [e4, e5, nI_clamp (n := e mid) (by omega), nI_clamp (n := c) (by omega), (hu c hc1 hc3).1, h.1.2.2 (e mid) (by omega) c (by omega)]
      refine ⟨inb_n c 6 (by omega), inb_n (e mid) 10 (by omega), inb_n c 6 (by omega), fun t6 e6 => ?_⟩
      have u9 := (hu c hc1 hc3).2
      have w9 : ∀ k, k < n → rowD (aC a) k c ≤ 99 := fun k hk => (ho.rpC h (k := k) (by omega) c hc1 hc3).2
      have wm := w9 _ xm.2
      have bd : ∀ k, k < n → dst (aMet a) u (rowD (aC a) k) ≤ 29403 := fun k hk => gap3_le (adf_le (hu 1 (by omega) (by omega)).2 (ho.rpC h (k := k) (by omega) 1 (by omega) (by omega)).2) (adf_le (hu 2 (by omega) (by omega)).2 (ho.rpC h (k := k) (by omega) 2 (by omega) (by omega)).2) (adf_le (hu 3 (by omega) (by omega)).2 (ho.rpC h (k := k) (by omega) 3 (by omega) (by omega)).2)
      have gb : gap3 (aMet a) (adf (u c) (rowD (aC a) (e mid) c)) 0 0 ≤ 29403 := gap3_le (adf_le u9 wm) (by omega) (by omega)
      rw [e6, nI_1, nI_1]
      refine sp_nearer30 h ho hn hu hv xm.2 (fun b7 hb7 hB7 => ⟨_, _, rfl, ?_⟩)
      refine pk_sge (fun hge => ?_) (fun hlt => ?_) (by omega) (by omega)
      · refine sp_search30 h ho hn hu he j (by omega) ht (by omega) (by omega) k4 (Or.inr ⟨b7, hb7, rfl, hB7⟩) (fun v10 hv10 => ⟨_, _, rfl, ?_⟩)
        rcases hv10 with ⟨_, z⟩ | ⟨b, hb, rfl, hB⟩
        · exact absurd (Or.inl (Or.inr rfl)) (z (e mid))
        rw [h.2.2.2.1]
        refine sp_measure1 hl.2.2 ⟨u9, wm⟩ ⟨_, _, rfl, ?_⟩
        rw [nI_clamp (n := b) (by omega)]
        refine ⟨inb_n b 10 (by omega), sp_betw30 hl.2.2 h.2.2.2.1 hu (ho.rpC h (by omega)) ⟨_, _, rfl, ?_⟩⟩
        have bb := bd b hb
        refine pk_lt (dst (aMet a) u (rowD (aC a) b)) (gap3 (aMet a) (adf (u c) (rowD (aC a) (e mid) c)) 0 0) (fun z => hQ _ (Or.inr ⟨b, hb, rfl, hB.more (fun k hk => ?_) (fun k hk => ?_)⟩)) (fun z => pk_sge (fun _ => sp_search30 h ho hn hu he j (by omega) (by omega) (by omega) (by omega) k3 (Or.inr ⟨b, hb, rfl, hB⟩) (fun v9 hv9 => ⟨_, _, rfl, hQ v9 ?_⟩)) (fun z2 => by omega) (by omega) (by omega))
        · rcases hk with (hk | hk) | ⟨i, i1, i2, i3⟩
          · exact Or.inl hk
          · exact Or.inr ⟨mid, by omega, by omega, hk⟩
          · exact Or.inr ⟨i, by omega, i2, i3⟩
        · rcases hk with hk | ⟨i, i1, i2, i3⟩
          · exact Or.inl (Or.inl (Or.inl hk))
          · by_cases c1 : i = mid
            · exact Or.inl (Or.inl (Or.inr (by rw [i3, c1])))
            · by_cases c2 : mid < i
              · exact Or.inl (Or.inr ⟨i, by omega, i2, i3⟩)
              · refine Or.inr (Nat.lt_of_lt_of_le z ?_)
                rw [i3]
                have kk := k1 i i1 (by omega)
                refine gap_part hl.2.2 hc1 hc3 ?_
                unfold adf
                rw [if_neg (by omega), if_neg (by omega)]
                omega
        · have eqv : ∀ k, (((S k ∨ k = e mid) ∨ ∃ i, mid + 1 ≤ i ∧ i < to ∧ k = e i) ∨ ∃ i, fr ≤ i ∧ i < mid ∧ k = e i) ↔ (S k ∨ ∃ i, fr ≤ i ∧ i < to ∧ k = e i) := fun k => by
            constructor
            · rintro (((hk | hk) | ⟨i, i1, i2, i3⟩) | ⟨i, i1, i2, i3⟩)
              · exact Or.inl hk
              · exact Or.inr ⟨mid, by omega, by omega, hk⟩
              · exact Or.inr ⟨i, by omega, i2, i3⟩
              · exact Or.inr ⟨i, i1, by omega, i3⟩
            · rintro (hk | ⟨i, i1, i2, i3⟩)
              · exact Or.inl (Or.inl (Or.inl hk))
              · by_cases c1 : i = mid
                · exact Or.inl (Or.inl (Or.inr (by rw [i3, c1])))
                · by_cases c2 : mid < i
                  · exact Or.inl (Or.inr ⟨i, by omega, i2, i3⟩)
                  · exact Or.inr ⟨i, i1, by omega, i3⟩
          rcases hv9 with ⟨_, z9⟩ | ⟨b9, q1, q2, q3⟩
          · exact absurd (Or.inl (Or.inl (Or.inr rfl))) (z9 (e mid))
          · exact Or.inr ⟨b9, q1, q2, q3.cong eqv⟩
      · refine sp_search30 h ho hn hu he j (by omega) (by omega) (by omega) (by omega) k3 (Or.inr ⟨b7, hb7, rfl, hB7⟩) (fun v10 hv10 => ⟨_, _, rfl, ?_⟩)
        rcases hv10 with ⟨_, z⟩ | ⟨b, hb, rfl, hB⟩
        · exact absurd (Or.inl (Or.inr rfl)) (z (e mid))
        rw [h.2.2.2.1]
        refine sp_measure1 hl.2.2 ⟨u9, wm⟩ ⟨_, _, rfl, ?_⟩
        rw [nI_clamp (n := b) (by omega)]
        refine ⟨inb_n b 10 (by omega), sp_betw30 hl.2.2 h.2.2.2.1 hu (ho.rpC h (by omega)) ⟨_, _, rfl, ?_⟩⟩
        have bb := bd b hb
        refine pk_lt (dst (aMet a) u (rowD (aC a) b)) (gap3 (aMet a) (adf (u c) (rowD (aC a) (e mid) c)) 0 0) (fun z => hQ _ (Or.inr ⟨b, hb, rfl, hB.more (fun k hk => ?_) (fun k hk => ?_)⟩)) (fun z => pk_sge (fun z2 => by omega) (fun _ => sp_search30 h ho hn hu he j (by omega) ht (by omega) (by omega) k4 (Or.inr ⟨b, hb, rfl, hB⟩) (fun v9 hv9 => ⟨_, _, rfl, hQ v9 ?_⟩)) (by omega) (by omega))
        · rcases hk with (hk | hk) | ⟨i, i1, i2, i3⟩
          · exact Or.inl hk
          · exact Or.inr ⟨mid, by omega, by omega, hk⟩
          · exact Or.inr ⟨i, i1, by omega, i3⟩
        · rcases hk with hk | ⟨i, i1, i2, i3⟩
          · exact Or.inl (Or.inl (Or.inl hk))
          · by_cases c1 : i = mid
            · exact Or.inl (Or.inl (Or.inr (by rw [i3, c1])))
            · by_cases c2 : i < mid
              · exact Or.inl (Or.inr ⟨i, i1, c2, i3⟩)
              · refine Or.inr (Nat.lt_of_lt_of_le z ?_)
                rw [i3]
                have kk := k2 i (by omega) i2
                refine gap_part hl.2.2 hc1 hc3 ?_
                unfold adf
                rw [if_pos (by omega), if_pos (by omega)]
                omega
        · have eqv : ∀ k, (((S k ∨ k = e mid) ∨ ∃ i, fr ≤ i ∧ i < mid ∧ k = e i) ∨ ∃ i, mid + 1 ≤ i ∧ i < to ∧ k = e i) ↔ (S k ∨ ∃ i, fr ≤ i ∧ i < to ∧ k = e i) := fun k => by
            constructor
            · rintro (((hk | hk) | ⟨i, i1, i2, i3⟩) | ⟨i, i1, i2, i3⟩)
              · exact Or.inl hk
              · exact Or.inr ⟨mid, by omega, by omega, hk⟩
              · exact Or.inr ⟨i, i1, by omega, i3⟩
              · exact Or.inr ⟨i, by omega, i2, i3⟩
            · rintro (hk | ⟨i, i1, i2, i3⟩)
              · exact Or.inl (Or.inl (Or.inl hk))
              · by_cases c1 : i = mid
                · exact Or.inl (Or.inl (Or.inr (by rw [i3, c1])))
                · by_cases c2 : i < mid
                  · exact Or.inl (Or.inr ⟨i, i1, c2, i3⟩)
                  · exact Or.inr ⟨i, by omega, i2, i3⟩
          rcases hv9 with ⟨_, z9⟩ | ⟨b9, q1, q2, q3⟩
          · exact absurd (Or.inl (Or.inl (Or.inr rfl))) (z9 (e mid))
          · exact Or.inr ⟨b9, q1, q2, q3.cong eqv⟩
theorem sp_tree30 {u : Row} (h : relS m 0 a) (ho : okA B a) (hu : rparts m 30 0 u) (hQ : ∀ m9, K11 m m9 → Q (.inl (some (vi (nrV (fun k => dst (aMet a) u (rowD (aC a) k)) (aC a).length))), G x m9)) : Cl X (d + 14) 100 [vp 10 0, vp 1 0, vp 30 0] (G x m) Q := by
  have hl := ho.len
  refine vc_X2_nearestByTree_30 (fun t1 e1 => ?_)
  rw [h.1.1] at e1
  rw [e1]
  have R : ∀ m9, K11 m m9 → relS m9 0 a := fun m9 hK => h.on hl.1 hl.2.1 (fun f i k hi => hK f i k (by unfold inSt at hi; omega))
  refine sp_list hl.1 (fun m3 hO3 hK3 => ⟨_, rfl, ?_⟩)
  refine sp_divide (n := (aC a).length) (d := d + 2) (fr := 0) (dp := 0) ho rfl 10 (R m3 hK3) hO3 (Nat.le_refl _) (by omega) (by omega) (by omega) (fun m5 e5 hO5 hE5 hT5 hK5 => ⟨_, rfl, ?_⟩)
  have K5 := hK3.tr hK5
  refine sp_search30 (d := d) (fr := 0) (dp := 0) (R m5 K5) ho rfl (fun o h1 h3 => ⟨by rw [K5 30 0 o (by omega)]; exact (hu o h1 h3).1, (hu o h1 h3).2⟩) hO5 10 (S := fun _ => False) (by omega) (Nat.le_refl _) (by omega) (by omega) hT5 (Or.inl ⟨rfl, fun _ z => z⟩) (fun v9 hv9 => ⟨_, _, rfl, ?_⟩)
  have e9 : v9 = nrV (fun k => dst (aMet a) u (rowD (aC a) k)) (aC a).length := by
    rcases hv9 with ⟨z1, z2⟩ | ⟨b, q1, q2, q3⟩
    · have h0 : (aC a).length = 0 := by
        by_cases hc : (aC a).length = 0
        · exact hc
        · exact absurd (Or.inr ⟨0, by omega, by omega, rfl⟩) (z2 (e5 0))
      rw [z1]
      exact (if_pos h0).symm
    · rw [q2]
      have all : ∀ k, k < (aC a).length → ∃ i, 0 ≤ i ∧ i < (aC a).length ∧ k = e5 i := fun k hk => by
        obtain ⟨i, i1, i2⟩ := fb_onto (fun i hi => (hO5.1 i hi).2) hO5.2 hk
        exact ⟨i, by omega, i1, i2.symm⟩
      have e8 : nrs (fun k => dst (aMet a) u (rowD (aC a) k)) (aC a).length = b := nrs_eq q1 (fun k hk => by
        rcases q3.2 k (Or.inr (all k hk)) with z | z
        · exact Nat.le_of_lt z
        · exact Nat.le_of_eq z.1) (fun k hk => by
        rcases q3.2 k (Or.inr (all k (by omega))) with z | z
        · exact z
        · omega)
      rw [← e8]
      exact (if_neg (by omega)).symm
  rw [e9]
  exact hQ m5 K5
theorem sp_nearer7 {q : Nat} {u : Row} {S : Nat → Prop} {v : Int32} {c : Nat} (h : relS m 0 a) (ho : okA B a) (hn : n = (aC a).length) (hu : rparts m 7 q u) (hv : BS (fun k => dst (aMet a) u (rowD (aC a) k)) n S v) (hc : c < n) (hQ : ∀ b, b < n → isBest (fun k => dst (aMet a) u (rowD (aC a) k)) (fun k => S k ∨ k = c) b → Q (.inl (some (vi (nI b))), G x m)) : Cl X (d + 2) 105 [vp 1 0, vp 7 q, vi v, vi (nI c)] (G x m) Q := by
  have hl := ho.len
  refine vc_X2_nearer_7 ?_
  rcases hv with ⟨rfl, hS⟩ | ⟨b, hb, rfl, hS⟩
  · exact ⟨fun z => absurd z (by decide), fun _ => hQ c hc ⟨Or.inr rfl, fun k hk => by
      rcases hk with hk | hk
      · exact absurd hk (hS k)
      · exact Or.inr ⟨by rw [hk], by omega⟩⟩⟩
  · refine ⟨fun _ => ?_, fun z => absurd (nI_pos' (by omega)) z⟩
    rw [nI_clamp (n := b) (by omega), nI_clamp (n := c) (by omega)]
    have bd : ∀ k, k < n → dst (aMet a) u (rowD (aC a) k) ≤ 29403 := fun k hk => gap3_le (adf_le (hu 1 (by omega) (by omega)).2 (ho.rpC h (k := k) (by omega) 1 (by omega) (by omega)).2) (adf_le (hu 2 (by omega) (by omega)).2 (ho.rpC h (k := k) (by omega) 2 (by omega) (by omega)).2) (adf_le (hu 3 (by omega) (by omega)).2 (ho.rpC h (k := k) (by omega) 3 (by omega) (by omega)).2)
    refine ⟨inb_n b 10 (by omega), sp_betw7 hl.2.2 h.2.2.2.1 hu (ho.rpC h (by omega)) ⟨_, _, rfl, inb_n c 10 (by omega), sp_betw7 hl.2.2 h.2.2.2.1 hu (ho.rpC h (by omega)) ⟨_, _, rfl, ?_⟩⟩⟩
    have b1 := bd b hb
    have b2 := bd c hc
    have keep : (dst (aMet a) u (rowD (aC a) b) < dst (aMet a) u (rowD (aC a) c) ∨ (dst (aMet a) u (rowD (aC a) b) = dst (aMet a) u (rowD (aC a) c) ∧ b ≤ c)) → isBest (fun k => dst (aMet a) u (rowD (aC a) k)) (fun k => S k ∨ k = c) b := fun z => ⟨Or.inl hS.1, fun k hk => by
      rcases hk with hk | rfl
      · exact hS.2 k hk
      · exact z⟩
    have swap : (dst (aMet a) u (rowD (aC a) c) < dst (aMet a) u (rowD (aC a) b) ∨ (dst (aMet a) u (rowD (aC a) c) = dst (aMet a) u (rowD (aC a) b) ∧ c ≤ b)) → isBest (fun k => dst (aMet a) u (rowD (aC a) k)) (fun k => S k ∨ k = c) c := fun z => ⟨Or.inr rfl, fun k hk => by
      rcases hk with hk | rfl
      · have := hS.2 k hk
        show dst (aMet a) u (rowD (aC a) c) < dst (aMet a) u (rowD (aC a) k) ∨ (dst (aMet a) u (rowD (aC a) c) = dst (aMet a) u (rowD (aC a) k) ∧ c ≤ k)
        have this : dst (aMet a) u (rowD (aC a) b) < dst (aMet a) u (rowD (aC a) k) ∨ (dst (aMet a) u (rowD (aC a) b) = dst (aMet a) u (rowD (aC a) k) ∧ b ≤ k) := this
        omega
      · exact Or.inr ⟨rfl, Nat.le_refl _⟩⟩
    refine pk_lt (dst (aMet a) u (rowD (aC a) c)) (dst (aMet a) u (rowD (aC a) b)) (fun z => hQ c hc (swap (Or.inl z))) (fun z => pk_eqn (fun z2 => pk_le b c (fun z3 => hQ b hb (keep (Or.inr ⟨z2.symm, z3⟩))) (fun z3 => hQ c hc (swap (Or.inr ⟨z2, by omega⟩)))) (fun z2 => hQ b hb (keep (Or.inl (by omega)))) (by omega) (by omega))
theorem sp_search7 {q : Nat} {u : Row} (h : relS m 0 a) (ho : okA B a) (hn : n = (aC a).length) (hu : rparts m 7 q u) (he : ordP m n e) : ∀ (j : Nat) {Q : MRes → Prop} {S : Nat → Prop} {v : Int32} {fr to dp : Nat}, fr ≤ n → to ≤ n → to - fr ≤ j → j + dp ≤ 10 → kdt (rowD (aC a)) e j fr to dp → BS (fun k => dst (aMet a) u (rowD (aC a) k)) n S v →
    (∀ v9, BS (fun k => dst (aMet a) u (rowD (aC a) k)) n (fun k => S k ∨ ∃ i, fr ≤ i ∧ i < to ∧ k = e i) v9 → Q (.inl (some (vi v9)), G x m)) → Cl X (d + j + 3) 104 [vp 1 0, vp 11 0, vp 7 q, vi (nI fr), vi (nI to), vi (nI dp), vi v] (G x m) Q
  | 0, Q, S, v, fr, to, dp, hr, ht, hj, hd, hT, hv, hQ => by
    have hl := ho.len
    refine vc_X2_search_11_7 (pk_le to fr (fun c => hQ v ?_) (fun c => by omega))
    rcases hv with ⟨h1, h2⟩ | ⟨b, h1, h2, h3⟩
    · refine Or.inl ⟨h1, fun c z => ?_⟩
      rcases z with z | ⟨i, i1, i2, _⟩
      · exact h2 c z
      · omega
    · refine Or.inr ⟨b, h1, h2, h3.cong (fun k => ⟨Or.inl, fun z => ?_⟩)⟩
      rcases z with z | ⟨i, i1, i2, _⟩
      · exact z
      · omega
  | j + 1, Q, S, v, fr, to, dp, hr, ht, hj, hd, hT, hv, hQ => by
    have hl := ho.len
    by_cases hft : to ≤ fr
    · refine vc_X2_search_11_7 ⟨fun _ => hQ v ?_, fun c => absurd (nI_le hft (by omega)) c⟩
      rcases hv with ⟨h1, h2⟩ | ⟨b, h1, h2, h3⟩
      · refine Or.inl ⟨h1, fun c z => ?_⟩
        rcases z with z | ⟨i, i1, i2, _⟩
        · exact h2 c z
        · omega
      · refine Or.inr ⟨b, h1, h2, h3.cong (fun k => ⟨Or.inl, fun z => ?_⟩)⟩
        rcases z with z | ⟨i, i1, i2, _⟩
        · exact z
        · omega
    · refine vc_X2_search_11_7 ⟨fun c => absurd c (nI_ge (by omega) (by omega)), fun _ => ⟨fun _ t3 e3 => ?_, fun c => absurd (nI_le (b := 10) (by omega) (by omega)) c⟩⟩
      rcases hT with hT | ⟨k1, k2, k3, k4⟩
      · omega
      rw [mid_I (by omega)] at e3
      have hmid : (fr + to) / 2 < n := by omega
      have hm1 : fr ≤ (fr + to) / 2 := by omega
      have hm2 : (fr + to) / 2 < to := by omega
      generalize hm9 : (fr + to) / 2 = mid at *
      have xm := he.1 mid hmid
      rw [e3, nI_clamp (n := mid) (by omega)]
      refine ⟨inb_n mid 10 (by omega), fun t4 e4 t5 e5 => ?_⟩
      rw [xm.1] at e4
      rw [part_I (by omega)] at e5
      have hc1 : 1 ≤ 1 + dp % 3 := by omega
      have hc3 : 1 + dp % 3 ≤ 3 := by omega
      generalize hc9 : 1 + dp % 3 = c at *
      rw [e4, e5, nI_clamp (n := e mid) (by omega), nI_clamp (n := c) (by omega), (hu c hc1 hc3).1, h.1.2.2 (e mid) (by omega) c (by omega)]
      refine ⟨inb_n c 6 (by omega), inb_n (e mid) 10 (by omega), inb_n c 6 (by omega), fun t6 e6 => ?_⟩
      have u9 := (hu c hc1 hc3).2
      have w9 : ∀ k, k < n → rowD (aC a) k c ≤ 99 := fun k hk => (ho.rpC h (k := k) (by omega) c hc1 hc3).2
      have wm := w9 _ xm.2
      have bd : ∀ k, k < n → dst (aMet a) u (rowD (aC a) k) ≤ 29403 := fun k hk => gap3_le (adf_le (hu 1 (by omega) (by omega)).2 (ho.rpC h (k := k) (by omega) 1 (by omega) (by omega)).2) (adf_le (hu 2 (by omega) (by omega)).2 (ho.rpC h (k := k) (by omega) 2 (by omega) (by omega)).2) (adf_le (hu 3 (by omega) (by omega)).2 (ho.rpC h (k := k) (by omega) 3 (by omega) (by omega)).2)
      have gb : gap3 (aMet a) (adf (u c) (rowD (aC a) (e mid) c)) 0 0 ≤ 29403 := gap3_le (adf_le u9 wm) (by omega) (by omega)
      rw [e6, nI_1, nI_1]
      refine sp_nearer7 h ho hn hu hv xm.2 (fun b7 hb7 hB7 => ⟨_, _, rfl, ?_⟩)
      refine pk_sge (fun hge => ?_) (fun hlt => ?_) (by omega) (by omega)
      · refine sp_search7 h ho hn hu he j (by omega) ht (by omega) (by omega) k4 (Or.inr ⟨b7, hb7, rfl, hB7⟩) (fun v10 hv10 => ⟨_, _, rfl, ?_⟩)
        rcases hv10 with ⟨_, z⟩ | ⟨b, hb, rfl, hB⟩
        · exact absurd (Or.inl (Or.inr rfl)) (z (e mid))
        rw [h.2.2.2.1]
        refine sp_measure1 hl.2.2 ⟨u9, wm⟩ ⟨_, _, rfl, ?_⟩
        rw [nI_clamp (n := b) (by omega)]
        refine ⟨inb_n b 10 (by omega), sp_betw7 hl.2.2 h.2.2.2.1 hu (ho.rpC h (by omega)) ⟨_, _, rfl, ?_⟩⟩
        have bb := bd b hb
        refine pk_lt (dst (aMet a) u (rowD (aC a) b)) (gap3 (aMet a) (adf (u c) (rowD (aC a) (e mid) c)) 0 0) (fun z => hQ _ (Or.inr ⟨b, hb, rfl, hB.more (fun k hk => ?_) (fun k hk => ?_)⟩)) (fun z => pk_sge (fun _ => sp_search7 h ho hn hu he j (by omega) (by omega) (by omega) (by omega) k3 (Or.inr ⟨b, hb, rfl, hB⟩) (fun v9 hv9 => ⟨_, _, rfl, hQ v9 ?_⟩)) (fun z2 => by omega) (by omega) (by omega))
        · rcases hk with (hk | hk) | ⟨i, i1, i2, i3⟩
          · exact Or.inl hk
          · exact Or.inr ⟨mid, by omega, by omega, hk⟩
          · exact Or.inr ⟨i, by omega, i2, i3⟩
        · rcases hk with hk | ⟨i, i1, i2, i3⟩
          · exact Or.inl (Or.inl (Or.inl hk))
          · by_cases c1 : i = mid
            · exact Or.inl (Or.inl (Or.inr (by rw [i3, c1])))
            · by_cases c2 : mid < i
              · exact Or.inl (Or.inr ⟨i, by omega, i2, i3⟩)
              · refine Or.inr (Nat.lt_of_lt_of_le z ?_)
                rw [i3]
                have kk := k1 i i1 (by omega)
                refine gap_part hl.2.2 hc1 hc3 ?_
                unfold adf
                rw [if_neg (by omega), if_neg (by omega)]
                omega
        · have eqv : ∀ k, (((S k ∨ k = e mid) ∨ ∃ i, mid + 1 ≤ i ∧ i < to ∧ k = e i) ∨ ∃ i, fr ≤ i ∧ i < mid ∧ k = e i) ↔ (S k ∨ ∃ i, fr ≤ i ∧ i < to ∧ k = e i) := fun k => by
            constructor
            · rintro (((hk | hk) | ⟨i, i1, i2, i3⟩) | ⟨i, i1, i2, i3⟩)
              · exact Or.inl hk
              · exact Or.inr ⟨mid, by omega, by omega, hk⟩
              · exact Or.inr ⟨i, by omega, i2, i3⟩
              · exact Or.inr ⟨i, i1, by omega, i3⟩
            · rintro (hk | ⟨i, i1, i2, i3⟩)
              · exact Or.inl (Or.inl (Or.inl hk))
              · by_cases c1 : i = mid
                · exact Or.inl (Or.inl (Or.inr (by rw [i3, c1])))
                · by_cases c2 : mid < i
                  · exact Or.inl (Or.inr ⟨i, by omega, i2, i3⟩)
                  · exact Or.inr ⟨i, i1, by omega, i3⟩
          rcases hv9 with ⟨_, z9⟩ | ⟨b9, q1, q2, q3⟩
          · exact absurd (Or.inl (Or.inl (Or.inr rfl))) (z9 (e mid))
          · exact Or.inr ⟨b9, q1, q2, q3.cong eqv⟩
      · refine sp_search7 h ho hn hu he j (by omega) (by omega) (by omega) (by omega) k3 (Or.inr ⟨b7, hb7, rfl, hB7⟩) (fun v10 hv10 => ⟨_, _, rfl, ?_⟩)
        rcases hv10 with ⟨_, z⟩ | ⟨b, hb, rfl, hB⟩
        · exact absurd (Or.inl (Or.inr rfl)) (z (e mid))
        rw [h.2.2.2.1]
        refine sp_measure1 hl.2.2 ⟨u9, wm⟩ ⟨_, _, rfl, ?_⟩
        rw [nI_clamp (n := b) (by omega)]
        refine ⟨inb_n b 10 (by omega), sp_betw7 hl.2.2 h.2.2.2.1 hu (ho.rpC h (by omega)) ⟨_, _, rfl, ?_⟩⟩
        have bb := bd b hb
        refine pk_lt (dst (aMet a) u (rowD (aC a) b)) (gap3 (aMet a) (adf (u c) (rowD (aC a) (e mid) c)) 0 0) (fun z => hQ _ (Or.inr ⟨b, hb, rfl, hB.more (fun k hk => ?_) (fun k hk => ?_)⟩)) (fun z => pk_sge (fun z2 => by omega) (fun _ => sp_search7 h ho hn hu he j (by omega) ht (by omega) (by omega) k4 (Or.inr ⟨b, hb, rfl, hB⟩) (fun v9 hv9 => ⟨_, _, rfl, hQ v9 ?_⟩)) (by omega) (by omega))
        · rcases hk with (hk | hk) | ⟨i, i1, i2, i3⟩
          · exact Or.inl hk
          · exact Or.inr ⟨mid, by omega, by omega, hk⟩
          · exact Or.inr ⟨i, i1, by omega, i3⟩
        · rcases hk with hk | ⟨i, i1, i2, i3⟩
          · exact Or.inl (Or.inl (Or.inl hk))
          · by_cases c1 : i = mid
            · exact Or.inl (Or.inl (Or.inr (by rw [i3, c1])))
            · by_cases c2 : i < mid
              · exact Or.inl (Or.inr ⟨i, i1, c2, i3⟩)
              · refine Or.inr (Nat.lt_of_lt_of_le z ?_)
                rw [i3]
                have kk := k2 i (by omega) i2
                refine gap_part hl.2.2 hc1 hc3 ?_
                unfold adf
                rw [if_pos (by omega), if_pos (by omega)]
                omega
        · have eqv : ∀ k, (((S k ∨ k = e mid) ∨ ∃ i, fr ≤ i ∧ i < mid ∧ k = e i) ∨ ∃ i, mid + 1 ≤ i ∧ i < to ∧ k = e i) ↔ (S k ∨ ∃ i, fr ≤ i ∧ i < to ∧ k = e i) := fun k => by
            constructor
            · rintro (((hk | hk) | ⟨i, i1, i2, i3⟩) | ⟨i, i1, i2, i3⟩)
              · exact Or.inl hk
              · exact Or.inr ⟨mid, by omega, by omega, hk⟩
              · exact Or.inr ⟨i, i1, by omega, i3⟩
              · exact Or.inr ⟨i, by omega, i2, i3⟩
            · rintro (hk | ⟨i, i1, i2, i3⟩)
              · exact Or.inl (Or.inl (Or.inl hk))
              · by_cases c1 : i = mid
                · exact Or.inl (Or.inl (Or.inr (by rw [i3, c1])))
                · by_cases c2 : i < mid
                  · exact Or.inl (Or.inr ⟨i, i1, c2, i3⟩)
                  · exact Or.inr ⟨i, by omega, i2, i3⟩
          rcases hv9 with ⟨_, z9⟩ | ⟨b9, q1, q2, q3⟩
          · exact absurd (Or.inl (Or.inl (Or.inr rfl))) (z9 (e mid))
          · exact Or.inr ⟨b9, q1, q2, q3.cong eqv⟩
theorem sp_tree7 {q : Nat} {u : Row} (h : relS m 0 a) (ho : okA B a) (hu : rparts m 7 q u) (hQ : ∀ m9, K11 m m9 → Q (.inl (some (vi (nrV (fun k => dst (aMet a) u (rowD (aC a) k)) (aC a).length))), G x m9)) : Cl X (d + 14) 100 [vp 10 0, vp 1 0, vp 7 q] (G x m) Q := by
  have hl := ho.len
  refine vc_X2_nearestByTree_7 (fun t1 e1 => ?_)
  rw [h.1.1] at e1
  rw [e1]
  have R : ∀ m9, K11 m m9 → relS m9 0 a := fun m9 hK => h.on hl.1 hl.2.1 (fun f i k hi => hK f i k (by unfold inSt at hi; omega))
  refine sp_list hl.1 (fun m3 hO3 hK3 => ⟨_, rfl, ?_⟩)
  refine sp_divide (n := (aC a).length) (d := d + 2) (fr := 0) (dp := 0) ho rfl 10 (R m3 hK3) hO3 (Nat.le_refl _) (by omega) (by omega) (by omega) (fun m5 e5 hO5 hE5 hT5 hK5 => ⟨_, rfl, ?_⟩)
  have K5 := hK3.tr hK5
  refine sp_search7 (d := d) (fr := 0) (dp := 0) (R m5 K5) ho rfl (fun o h1 h3 => ⟨by rw [K5 7 q o (by omega)]; exact (hu o h1 h3).1, (hu o h1 h3).2⟩) hO5 10 (S := fun _ => False) (by omega) (Nat.le_refl _) (by omega) (by omega) hT5 (Or.inl ⟨rfl, fun _ z => z⟩) (fun v9 hv9 => ⟨_, _, rfl, ?_⟩)
  have e9 : v9 = nrV (fun k => dst (aMet a) u (rowD (aC a) k)) (aC a).length := by
    rcases hv9 with ⟨z1, z2⟩ | ⟨b, q1, q2, q3⟩
    · have h0 : (aC a).length = 0 := by
        by_cases hc : (aC a).length = 0
        · exact hc
        · exact absurd (Or.inr ⟨0, by omega, by omega, rfl⟩) (z2 (e5 0))
      rw [z1]
      exact (if_pos h0).symm
    · rw [q2]
      have all : ∀ k, k < (aC a).length → ∃ i, 0 ≤ i ∧ i < (aC a).length ∧ k = e5 i := fun k hk => by
        obtain ⟨i, i1, i2⟩ := fb_onto (fun i hi => (hO5.1 i hi).2) hO5.2 hk
        exact ⟨i, by omega, i1, i2.symm⟩
      have e8 : nrs (fun k => dst (aMet a) u (rowD (aC a) k)) (aC a).length = b := nrs_eq q1 (fun k hk => by
        rcases q3.2 k (Or.inr (all k hk)) with z | z
        · exact Nat.le_of_lt z
        · exact Nat.le_of_eq z.1) (fun k hk => by
        rcases q3.2 k (Or.inr (all k (by omega))) with z | z
        · exact z
        · omega)
      rw [← e8]
      exact (if_neg (by omega)).symm
  rw [e9]
  exact hQ m5 K5
theorem K11.fq {m m9 : MI} (h : K11 m m9) : FQ m m9 := fun f i k hf => h f i k (by unfold kC inSt tH at hf; omega)
theorem sp_closS (h : relS m 0 a) (ho : okA B a) (hQ : ∀ m9, K11 m m9 → Q (.inl (some (vi (nI (clsV a)))), G x m9)) : Cl X (d + 2) 106 [vp 10 0, vp 1 0] (G x m) Q := by
  have hl := ho.len
  refine vc_X2_closestBySorting (fun t1 e1 => ?_)
  rw [h.1.1] at e1
  rw [e1]
  refine sp_list hl.1 (fun m3 hO3 hK3 => ⟨_, rfl, ?_⟩)
  have R : ∀ m9, K11 m m9 → relS m9 0 a := fun m9 hK => h.on hl.1 hl.2.1 (fun f i k hi => hK f i k (by unfold inSt at hi; omega))
  refine sp_sort (fr := 0) (c := 1) (R m3 hK3) ho rfl hO3 (Nat.le_refl _) (by omega) (by omega) (by omega) (fun m5 e5 hO5 hE5 hS5 hK5 => ⟨_, rfl, ?_⟩)
  have K5 := hK3.tr hK5
  have h5 := R m5 K5
  generalize hn : (aC a).length = n at *
  have fin : ∀ V, isCl (fun i j => dCC a (e5 i) (e5 j)) (prs n) V → V = clsV a := fun V hV => by
    refine isCl.one (g := dCC a) (S := prs n) ⟨hV.1, fun i j hij => ?_, ?_⟩ (by rw [← hn]; exact mnP_is (dCC a) (aC a).length)
    · unfold prs at hij
      obtain ⟨p, p1, p2⟩ := fb_onto (fun i hi => (hO5.1 i hi).2) hO5.2 (show i < n by omega)
      obtain ⟨q, q1, q2⟩ := fb_onto (fun i hi => (hO5.1 i hi).2) hO5.2 (show j < n by omega)
      have hpq : p ≠ q := fun z => by rw [z, q2] at p2; omega
      rcases Nat.lt_or_ge p q with c | c
      · have : V ≤ dCC a (e5 p) (e5 q) := hV.2.1 p q ⟨c, q1⟩
        rw [p2, q2] at this
        exact this
      · have : V ≤ dCC a (e5 q) (e5 p) := hV.2.1 q p ⟨by omega, p1⟩
        rw [p2, q2] at this
        show V ≤ dst (aMet a) (rowD (aC a) i) (rowD (aC a) j)
        rw [dst_comm]
        exact this
    · rcases hV.2.2 with z | ⟨p, q, hpq, z⟩
      · exact Or.inl z
      · unfold prs at hpq
        have hne := hO5.2 p q hpq.1 hpq.2
        have hp := (hO5.1 p (by omega)).2
        have hq := (hO5.1 q (by omega)).2
        rcases Nat.lt_or_ge (e5 p) (e5 q) with c | c
        · exact Or.inr ⟨e5 p, e5 q, ⟨c, hq⟩, z⟩
        · refine Or.inr ⟨e5 q, e5 p, ⟨by omega, hp⟩, ?_⟩
          rw [z]
          exact dst_comm _ _ _
  have outer : ∀ i, i ≤ n → ∀ V o6 o7 o8, isCl (fun i j => dCC a (e5 i) (e5 j)) (fun p q => prs n p q ∧ p < i) V → Wp X (d + 2) 106 (39, ([some (vp 10 0), some (vp 1 0), some (vp 4 0), some (vi (nI n)), some (vi (nI V)), some (vi (nI i)), o6, o7, o8], ([], G x m5))) Q := by
    refine lup (fun i hi ih V o6 o7 o8 hV => ?_)
    refine vl_X2_closestBySorting_39 (pk_le n i (fun hc => ?_) (fun hc => ?_))
    · rw [fin V (hV.cong (fun p q => by unfold prs; omega))]
      exact hQ m5 K5
    · have xi := hO5.1 i hc
      rw [nI_clamp (n := i) (by omega), xi.1, nI_clamp (n := e5 i) (by omega)]
      refine ⟨inb_n i 10 (by omega), inb_n (e5 i) 10 (by omega), fun t2 e2 => ?_⟩
      rw [e2, nI_1]
      have inner : ∀ j, j ≤ n → ∀ V o8, i < j → isCl (fun i j => dCC a (e5 i) (e5 j)) (fun p q => prs n p q ∧ (p < i ∨ (p = i ∧ q < j))) V → Wp X (d + 2) 106 (62, ([some (vp 10 0), some (vp 1 0), some (vp 4 0), some (vi (nI n)), some (vi (nI V)), some (vi (nI i)), some (vp 5 (10 * 0 + (m5 11 0 (nI i).toNatClampNeg).toNatClampNeg)), some (vi (nI j)), o8], ([], G x m5))) Q := by
        refine lup (fun j hj ihj V o8 hij hV => ?_)
        refine vl_X2_closestBySorting_62 ?_
        refine pk_le n j (fun hc2 t2 e2 => ?_) (fun hc2 => ?_)
        · rw [e2, nI_1]
          exact ih hc V _ _ _ (hV.cong (fun p q => by unfold prs; omega))
        · have xj := hO5.1 j hc2
          have w9 : ∀ k, k < n → rowD (aC a) k 1 ≤ 99 := fun k hk => (ho.rpC h5 (k := k) (by omega) 1 (by omega) (by omega)).2
          have wi := w9 _ xi.2
          have wj := w9 _ xj.2
          have gb : gap3 (aMet a) (adf (rowD (aC a) (e5 j) 1) (rowD (aC a) (e5 i) 1)) 0 0 ≤ 29403 := gap3_le (adf_le wj wi) (by omega) (by omega)
          have ci : (m5 11 0 (nI i).toNatClampNeg).toNatClampNeg = e5 i := by rw [nI_clamp (n := i) (by omega), xi.1, nI_clamp (n := e5 i) (by omega)]
          have cj : (m5 11 0 (nI j).toNatClampNeg).toNatClampNeg = e5 j := by rw [nI_clamp (n := j) (by omega), xj.1, nI_clamp (n := e5 j) (by omega)]
          have bj : inb (m5 11 0 (nI j).toNatClampNeg) 10 = true := by rw [nI_clamp (n := j) (by omega), xj.1]; exact inb_n (e5 j) 10 (by omega)
          refine ⟨inb_n j 10 (by omega), bj, ?_⟩
          have hv := hV.1
          have ihj := ihj hc2
          have ih := ih hc
          rw [ci] at ihj ⊢
          rw [cj, h5.1.2.2 (e5 j) (by omega) 1 (by omega), h5.1.2.2 (e5 i) (by omega) 1 (by omega), h5.2.2.2.1]
          refine sp_measure1 hl.2.2 ⟨wj, wi⟩ ⟨_, _, rfl, pk_lt (gap3 (aMet a) (adf (rowD (aC a) (e5 j) 1) (rowD (aC a) (e5 i) 1)) 0 0) V (fun z => ?_) (fun z t10 e10 => ?_)⟩
          · refine sp_betw5 hl.2.2 h5.2.2.2.1 (ho.rpC h5 (by omega)) (ho.rpC h5 (by omega)) ⟨_, _, rfl, fun t8 e8 t9 e9 => ?_⟩
            have hb : dst (aMet a) (rowD (aC a) (e5 i)) (rowD (aC a) (e5 j)) ≤ 29403 := ho.dCC (by omega) (by omega)
            rw [mn_nI (by omega) (by omega)] at e8
            rw [e8, e9, nI_1]
            exact ihj _ _ (by omega) (hV.add i j (fun p q => by unfold prs; omega))
          · rw [e10, nI_1]
            refine ih V _ _ _ (hV.more (fun p q t => by unfold prs at t ⊢; omega) (fun p q t => ?_))
            by_cases hs : prs n p q ∧ (p < i ∨ (p = i ∧ q < j))
            · exact Or.inl hs
            · refine Or.inr (Nat.le_trans z ?_)
              obtain ⟨hpq, hpi⟩ := t
              unfold prs at hs hpq
              obtain rfl : p = i := by omega
              have m1 : rowD (aC a) (e5 p) 1 ≤ rowD (aC a) (e5 j) 1 := hS5 p j (by omega) hij (by omega)
              have m2 : rowD (aC a) (e5 j) 1 ≤ rowD (aC a) (e5 q) 1 := by
                by_cases hjq : j = q
                · rw [hjq]; exact Nat.le_refl _
                · exact hS5 j q (by omega) (by omega) (by omega)
              refine gap_part hl.2.2 (c := 1) (by omega) (by omega) ?_
              unfold adf
              rw [if_neg (by omega)]
              by_cases hlt : rowD (aC a) (e5 p) 1 < rowD (aC a) (e5 q) 1
              · rw [if_pos hlt]; omega
              · rw [if_neg hlt]; omega
      have e0 := inner (i + 1) hc V o8 (by omega) (hV.cong (fun p q => by unfold prs; omega))
      rw [nI_clamp (n := i) (by omega), xi.1, nI_clamp (n := e5 i) (by omega)] at e0
      exact e0
  exact outer 0 (by omega) _ _ _ _ (isCl.nil (fun p q => by omega))
end FIND
section FIND2
variable {X : MX} {d : Nat} {x : Int64 × UInt64} {m : MI} {Q : MRes → Prop} {B : Nat} {o : OS}
theorem cw_nearest {p q r : Int32} (h : CoR m o) (ok : okO B o) (hQ : cq m (whyNr (oA o) p q r) (nI (rowD (aC (oA o)) (nrW (oA o) p q r) 0)) Q x) : Cl X (d + 16) 302 [vp 0 0, vi p, vi q, vi r, vp 43 0] (G x m) Q := by
  have hl := ok.1.len
  unfold cq whyNr at hQ
  refine vc_L_nearest (vc_X10_nearest (sp_isC (fun hc => ⟨_, _, rfl, fun _ => ?_, fun c => absurd (by decide) c⟩) (fun hc => ⟨_, _, rfl, fun c => absurd rfl c, fun _ => Or.inr ⟨_, _, _, rfl, fun _ => hQ.2 1 (by omega) (if_neg hc) m FQ.rf, fun c => absurd c (by decide), fun c => absurd rfl c.1⟩⟩)))
  rw [if_pos hc] at hQ
  refine sp_want hc (fun m5 hp F5 => ⟨_, rfl, ?_⟩)
  have h5 := F5.cor h ok
  refine sp_tree30 h5.1 ok.1 hp (fun m7 K7 => ⟨_, _, rfl, ?_⟩)
  have F7 := F5.tr K7.fq
  have h7 := F7.cor h ok
  by_cases c : (aC (oA o)).length = 0
  · rw [show nrV (fun k => dst (aMet (oA o)) (wR (clN p) (clN q) (clN r)) (rowD (aC (oA o)) k)) (aC (oA o)).length = -1 from if_pos c]
    exact ⟨fun c => absurd c (by decide), fun _ => Or.inr ⟨_, _, _, rfl, fun c => absurd c (by decide), fun _ => hQ.2 2 (by omega) (if_pos c) m7 F7, fun c => absurd rfl c.2⟩⟩
  · rw [show nrV (fun k => dst (aMet (oA o)) (wR (clN p) (clN q) (clN r)) (rowD (aC (oA o)) k)) (aC (oA o)).length = nI (nrW (oA o) p q r) from if_neg c]
    have hs : nrW (oA o) p q r < (aC (oA o)).length := (nrs_spec _ _ (by omega)).1
    generalize nrW (oA o) p q r = z at *
    rw [nI_clamp (n := z) (by omega), h7.1.1.2.2 z hs 0 (by omega)]
    exact ⟨fun _ => ⟨inb_n z 10 (by omega), Or.inl ⟨_, _, rfl, hQ.1 (if_neg c) m7 F7⟩⟩, fun c => absurd (nI_pos' (by omega)) c⟩
theorem cw_closest2 (h : CoR m o) (ok : okO B o) (hQ : cq m (whyCl (oA o)) (nI (clsV (oA o))) Q x) : Cl X (d + 4) 305 [vp 0 0, vp 43 0] (G x m) Q := by
  have hl := ok.1.len
  unfold cq whyCl at hQ
  refine vc_L_closestDistanceBySorting (vc_X10_closestDistanceBySorting ?_)
  rw [h.1.1.1]
  exact pk_le 2 (aC (oA o)).length (fun c => sp_closS h.1 ok.1 (fun m9 K9 => ⟨_, _, rfl, Or.inl ⟨_, _, rfl, hQ.1 (if_pos c) m9 K9.fq⟩⟩)) (fun c => Or.inr ⟨_, _, _, rfl, fun _ => hQ.2 1 (by omega) (if_neg (by omega)) m FQ.rf, fun c => absurd rfl c⟩)
end FIND2
