/-! ===== THE CLASS: DISTANCES, THE NEAREST COLOUR (wip/whole/gen_near.py) ===== -/
def rparts (m : MI) (f i : Nat) (u : Row) : Prop := ∀ o, 1 ≤ o → o ≤ 3 → m f i o = nI (u o) ∧ u o ≤ 99
/-- the first least of g below n -/
def nrs (g : Nat → Nat) : Nat → Nat
  | 0 => 0
  | n + 1 => if n = 0 then 0 else if g n < g (nrs g n) then n else nrs g n
theorem nrs_1 (g : Nat → Nat) : nrs g 1 = 0 := rfl
theorem nrs_s (g : Nat → Nat) {n : Nat} (h : 0 < n) : nrs g (n + 1) = if g n < g (nrs g n) then n else nrs g n := by
  show (if n = 0 then 0 else _) = _
  rw [if_neg (by omega)]
theorem nrs_spec (g : Nat → Nat) : ∀ n, 0 < n → nrs g n < n ∧ (∀ k, k < n → g (nrs g n) ≤ g k) ∧ ∀ k, k < nrs g n → g (nrs g n) < g k
  | 0, h => absurd h (Nat.lt_irrefl 0)
  | n + 1, _ => by
    by_cases h0 : n = 0
    · subst h0
      rw [nrs_1]
      exact ⟨by omega, (fun k hk => by rw [show k = 0 by omega]; exact Nat.le_refl _), fun k hk => absurd hk (Nat.not_lt_zero k)⟩
    · obtain ⟨a, b, c⟩ := nrs_spec g n (by omega)
      rw [nrs_s g (by omega)]
      by_cases h : g n < g (nrs g n)
      · rw [if_pos h]
        refine ⟨by omega, fun k hk => ?_, fun k hk => ?_⟩
        · rcases Nat.lt_succ_iff_lt_or_eq.mp hk with h1 | h1
          · exact Nat.le_of_lt (Nat.lt_of_lt_of_le h (b k h1))
          · rw [h1]; exact Nat.le_refl _
        · exact Nat.lt_of_lt_of_le h (b k hk)
      · rw [if_neg h]
        refine ⟨by omega, fun k hk => ?_, c⟩
        rcases Nat.lt_succ_iff_lt_or_eq.mp hk with h1 | h1
        · exact b k h1
        · rw [h1]; exact Nat.not_lt.mp h
theorem nrs_eq {g : Nat → Nat} {n i : Nat} (hi : i < n) (h1 : ∀ k, k < n → g i ≤ g k) (h2 : ∀ k, k < i → g i < g k) : nrs g n = i := by
  obtain ⟨a, b, c⟩ := nrs_spec g n (by omega)
  rcases Nat.lt_trichotomy (nrs g n) i with h | h | h
  · have := h2 _ h; have := b i hi; omega
  · exact h
  · have := c _ h; have := h1 _ a; omega
theorem nrs_cong {g g9 : Nat → Nat} {n : Nat} (h : ∀ k, k < n → g k = g9 k) : nrs g n = nrs g9 n := by
  by_cases h0 : n = 0
  · subst h0; rfl
  · obtain ⟨a, b, c⟩ := nrs_spec g9 n (by omega)
    refine nrs_eq a (fun k hk => ?_) (fun k hk => ?_)
    · rw [h _ a, h k hk]; exact b k hk
    · rw [h _ a, h k (by omega)]; exact c k hk
def nrV (g : Nat → Nat) (n : Nat) : Int32 := if n = 0 then -1 else nI (nrs g n)

section NEAR7
variable {X : MX} {d : Nat} {x : Int64 × UInt64} {m : MI} {Q : MRes → Prop} {s mt : Nat}
theorem sp_betw7 {i j : Nat} {u w : Row} (hm : okMet mt) (h3 : m 1 s 3 = nI mt) (hu : rparts m 7 i u) (hw : rparts m 5 j w) (hQ : Q (.inl (some (vi (nI (dst mt u w)))), G x m)) : Cl X (d + 1) 85 [vp 1 s, vp 7 i, vp 5 j] (G x m) Q := by
  refine vc_X7_between_7_5 ?_
  obtain ⟨u1, u1'⟩ := hu 1 (by omega) (by omega)
  obtain ⟨u2, u2'⟩ := hu 2 (by omega) (by omega)
  obtain ⟨u3, u3'⟩ := hu 3 (by omega) (by omega)
  obtain ⟨w1, w1'⟩ := hw 1 (by omega) (by omega)
  obtain ⟨w2, w2'⟩ := hw 2 (by omega) (by omega)
  obtain ⟨w3, w3'⟩ := hw 3 (by omega) (by omega)
  rw [h3, u1, u2, u3, w1, w2, w3]
  exact sp_measure hm ⟨u1', w1'⟩ ⟨u2', w2'⟩ ⟨u3', w3'⟩ ⟨_, _, rfl, hQ⟩
theorem sp_near7 {i : Nat} {u : Row} {l : List Row} {nx : Nat} (hm : okMet mt) (h3 : m 1 s 3 = nI mt) (hu : rparts m 7 i u) (hT : relT m 2 5 10 s l nx) (hl : l.length ≤ 10) (hw : ∀ k, k < l.length → rparts m 5 (10 * s + k) (rowD l k))
    (hQ : Q (.inl (some (vi (nrV (fun k => dst mt u (rowD l k)) l.length))), G x m)) : Cl X (d + 2) 87 [vp 1 s, vp 7 i] (G x m) Q := by
  refine vc_X7_nearestTo_7 ?_
  have hb : ∀ k, k < l.length → dst mt u (rowD l k) ≤ 29403 := fun k hk => gap3_le (adf_le (hu 1 (by omega) (by omega)).2 (hw k hk 1 (by omega) (by omega)).2) (adf_le (hu 2 (by omega) (by omega)).2 (hw k hk 2 (by omega) (by omega)).2) (adf_le (hu 3 (by omega) (by omega)).2 (hw k hk 3 (by omega) (by omega)).2)
  generalize hg : (fun k => dst mt u (rowD l k)) = g at hQ
  have hgk : ∀ k, g k = dst mt u (rowD l k) := fun k => by rw [← hg]
  have key : ∀ (j k : Nat) (o : Option MV), k + j = l.length → Wp X (d + 2) 87 (8, ([some (vp 1 s), some (vp 7 i), some (vi (nrV g k)), some (vi (if k = 0 then 1000000000 else nI (g (nrs g k)))), some (vi (nI k)), o], ([], G x m))) Q := by
    intro j
    induction j with
    | zero =>
      intro k o hk
      refine vl_X7_nearestTo_7_8 ?_
      rw [hT.1]
      refine pk_le l.length k (fun _ => ?_) (fun hc => by omega)
      obtain rfl : k = l.length := by omega
      exact hQ
    | succ j ih =>
      intro k o hk
      refine vl_X7_nearestTo_7_8 ?_
      rw [hT.1]
      refine pk_le l.length k (fun hc => by omega) (fun hc => ?_)
      rw [nI_clamp (n := k) (by omega)]
      refine ⟨inb_n k 10 (by omega), sp_betw7 hm h3 hu (hw k hc) ⟨_, _, rfl, ?_⟩⟩
      rw [← hgk k]
      have hbk := hb k hc
      rw [← hgk k] at hbk
      by_cases h0 : k = 0
      · subst h0
        rw [if_pos rfl]
        refine ⟨fun hle => absurd hle ?_, fun _ t6 ht6 => ?_⟩
        · rw [show (1000000000 : Int32) = nI 1000000000 from rfl]
          exact nI_ge (by omega) (Nat.le_of_ble_eq_true rfl)
        · have e := ih 1 (some (vi (nI (g 0)))) (by omega)
          rw [ht6, nI_1]
          exact e
      · rw [if_neg h0]
        have hn : nrV g k = nI (nrs g k) := if_neg h0
        rw [hn]
        have hlt := (nrs_spec g k (by omega)).1
        have hbn := hb (nrs g k) (by omega)
        rw [← hgk] at hbn
        have e := fun o => ih (k + 1) o (by omega)
        rw [if_neg (by omega), show nrV g (k + 1) = nI (nrs g (k + 1)) from if_neg (by omega), nrs_s g (by omega)] at e
        refine pk_le (g (nrs g k)) (g k) (fun hle t5 ht5 => ?_) (fun hlt2 t6 ht6 => ?_)
        · rw [ht5, nI_1]
          have e := e (some (vi (nI (g k))))
          rw [if_neg (by omega)] at e
          exact e
        · rw [ht6, nI_1]
          have e := e (some (vi (nI (g k))))
          rw [if_pos hlt2] at e
          exact e
  exact key l.length 0 none (by omega)
end NEAR7

section NEAR30
variable {X : MX} {d : Nat} {x : Int64 × UInt64} {m : MI} {Q : MRes → Prop} {s mt : Nat}
theorem sp_betw30 {j : Nat} {u w : Row} (hm : okMet mt) (h3 : m 1 s 3 = nI mt) (hu : rparts m 30 0 u) (hw : rparts m 5 j w) (hQ : Q (.inl (some (vi (nI (dst mt u w)))), G x m)) : Cl X (d + 1) 85 [vp 1 s, vp 30 0, vp 5 j] (G x m) Q := by
  refine vc_X7_between_30_5 ?_
  obtain ⟨u1, u1'⟩ := hu 1 (by omega) (by omega)
  obtain ⟨u2, u2'⟩ := hu 2 (by omega) (by omega)
  obtain ⟨u3, u3'⟩ := hu 3 (by omega) (by omega)
  obtain ⟨w1, w1'⟩ := hw 1 (by omega) (by omega)
  obtain ⟨w2, w2'⟩ := hw 2 (by omega) (by omega)
  obtain ⟨w3, w3'⟩ := hw 3 (by omega) (by omega)
  rw [h3, u1, u2, u3, w1, w2, w3]
  exact sp_measure hm ⟨u1', w1'⟩ ⟨u2', w2'⟩ ⟨u3', w3'⟩ ⟨_, _, rfl, hQ⟩
theorem sp_near30 {u : Row} {l : List Row} {nx : Nat} (hm : okMet mt) (h3 : m 1 s 3 = nI mt) (hu : rparts m 30 0 u) (hT : relT m 2 5 10 s l nx) (hl : l.length ≤ 10) (hw : ∀ k, k < l.length → rparts m 5 (10 * s + k) (rowD l k))
    (hQ : Q (.inl (some (vi (nrV (fun k => dst mt u (rowD l k)) l.length))), G x m)) : Cl X (d + 2) 87 [vp 1 s, vp 30 0] (G x m) Q := by
  refine vc_X7_nearestTo_30 ?_
  have hb : ∀ k, k < l.length → dst mt u (rowD l k) ≤ 29403 := fun k hk => gap3_le (adf_le (hu 1 (by omega) (by omega)).2 (hw k hk 1 (by omega) (by omega)).2) (adf_le (hu 2 (by omega) (by omega)).2 (hw k hk 2 (by omega) (by omega)).2) (adf_le (hu 3 (by omega) (by omega)).2 (hw k hk 3 (by omega) (by omega)).2)
  generalize hg : (fun k => dst mt u (rowD l k)) = g at hQ
  have hgk : ∀ k, g k = dst mt u (rowD l k) := fun k => by rw [← hg]
  have key : ∀ (j k : Nat) (o : Option MV), k + j = l.length → Wp X (d + 2) 87 (8, ([some (vp 1 s), some (vp 30 0), some (vi (nrV g k)), some (vi (if k = 0 then 1000000000 else nI (g (nrs g k)))), some (vi (nI k)), o], ([], G x m))) Q := by
    intro j
    induction j with
    | zero =>
      intro k o hk
      refine vl_X7_nearestTo_30_8 ?_
      rw [hT.1]
      refine pk_le l.length k (fun _ => ?_) (fun hc => by omega)
      obtain rfl : k = l.length := by omega
      exact hQ
    | succ j ih =>
      intro k o hk
      refine vl_X7_nearestTo_30_8 ?_
      rw [hT.1]
      refine pk_le l.length k (fun hc => by omega) (fun hc => ?_)
      rw [nI_clamp (n := k) (by omega)]
      refine ⟨inb_n k 10 (by omega), sp_betw30 hm h3 hu (hw k hc) ⟨_, _, rfl, ?_⟩⟩
      rw [← hgk k]
      have hbk := hb k hc
      rw [← hgk k] at hbk
      by_cases h0 : k = 0
      · subst h0
        rw [if_pos rfl]
        refine ⟨fun hle => absurd hle ?_, fun _ t6 ht6 => ?_⟩
        · rw [show (1000000000 : Int32) = nI 1000000000 from rfl]
          exact nI_ge (by omega) (Nat.le_of_ble_eq_true rfl)
        · have e := ih 1 (some (vi (nI (g 0)))) (by omega)
          rw [ht6, nI_1]
          exact e
      · rw [if_neg h0]
        have hn : nrV g k = nI (nrs g k) := if_neg h0
        rw [hn]
        have hlt := (nrs_spec g k (by omega)).1
        have hbn := hb (nrs g k) (by omega)
        rw [← hgk] at hbn
        have e := fun o => ih (k + 1) o (by omega)
        rw [if_neg (by omega), show nrV g (k + 1) = nI (nrs g (k + 1)) from if_neg (by omega), nrs_s g (by omega)] at e
        refine pk_le (g (nrs g k)) (g k) (fun hle t5 ht5 => ?_) (fun hlt2 t6 ht6 => ?_)
        · rw [ht5, nI_1]
          have e := e (some (vi (nI (g k))))
          rw [if_neg (by omega)] at e
          exact e
        · rw [ht6, nI_1]
          have e := e (some (vi (nI (g k))))
          rw [if_pos hlt2] at e
          exact e
  exact key l.length 0 none (by omega)
end NEAR30

section NEAR5
variable {X : MX} {d : Nat} {x : Int64 × UInt64} {m : MI} {Q : MRes → Prop} {s mt : Nat}
theorem sp_betw5 {i j : Nat} {u w : Row} (hm : okMet mt) (h3 : m 1 s 3 = nI mt) (hu : rparts m 5 i u) (hw : rparts m 5 j w) (hQ : Q (.inl (some (vi (nI (dst mt u w)))), G x m)) : Cl X (d + 1) 85 [vp 1 s, vp 5 i, vp 5 j] (G x m) Q := by
  refine vc_X7_between_5_5 ?_
  obtain ⟨u1, u1'⟩ := hu 1 (by omega) (by omega)
  obtain ⟨u2, u2'⟩ := hu 2 (by omega) (by omega)
  obtain ⟨u3, u3'⟩ := hu 3 (by omega) (by omega)
  obtain ⟨w1, w1'⟩ := hw 1 (by omega) (by omega)
  obtain ⟨w2, w2'⟩ := hw 2 (by omega) (by omega)
  obtain ⟨w3, w3'⟩ := hw 3 (by omega) (by omega)
  rw [h3, u1, u2, u3, w1, w2, w3]
  exact sp_measure hm ⟨u1', w1'⟩ ⟨u2', w2'⟩ ⟨u3', w3'⟩ ⟨_, _, rfl, hQ⟩
end NEAR5
