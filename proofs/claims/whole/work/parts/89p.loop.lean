/-! ===== THE LAW'S LOOP (wip/whole/gen_loop.py) ===== -/
section LOOP
variable {X : MX} {d : Nat} {Q : MRes → Prop}
theorem lb_of {j : Nat} (h : 6 * j + 6 ≤ X.1) (hL : X.1 ≤ 3072) : LB X (nI (6 * j)) := by
  have g : ∀ k, k ≤ 5 → inb (nI (6 * j) + nI k) X.1 = true := fun k hk => by
    rw [nI_add]
    exact inb_n (6 * j + k) X.1 (by omega)
  exact ⟨g 1 (by omega), g 2 (by omega), g 3 (by omega), g 4 (by omega), g 5 (by omega)⟩
theorem law_loop (hL : X.1 ≤ 3072) (hQ : ∀ (m : MI) (x : Int64 × UInt64) (u : Nat × Nat), u.1 ≤ 603072 → u.2 ≤ 7194729 → Q (.inl (some (vi 1)), Gu u x m)) : ∀ n j (m : MI) (x : Int64 × UInt64) (u : Nat × Nat) (o6 o7 o8 : Option MV), j + n = 513 → LI (j + 1) m u → Wp X (d + 17) 322 (28, ([some (vs 0 0), some (vp 0 0), some (vp 31 0), some (vp 43 0), some (vp 44 0), some (vi (nI (6 * j))), o6, o7, o8], ([], Gu u x m))) Q := by
  have fin : ∀ j (m : MI) (x : Int64 × UInt64) (u : Nat × Nat), j ≤ 513 → LI (j + 1) m u → Q (.inl (some (vi 1)), Gu u x m) := fun j m x u hj h => by
    obtain ⟨o, _, _, _, _, hu⟩ := h
    exact hQ m x u (by omega) (by omega)
  intro n
  induction n with
  | zero =>
    intro j m x u o6 o7 o8 hj h
    refine vl_law_28 ⟨fun _ => fin j m x u (by omega) h, fun c => absurd ?_ c⟩
    by_cases h6 : X.1 < 6
    · have h6' : X.1 = 0 ∨ X.1 = 1 ∨ X.1 = 2 ∨ X.1 = 3 ∨ X.1 = 4 ∨ X.1 = 5 := by omega
      have z : (0 : Int32) ≤ nI (6 * j) := nI_pos' (by omega)
      refine Int32.lt_of_lt_of_le ?_ z
      rcases h6' with e | e | e | e | e | e <;> rw [e] <;> decide
    · show nI X.1 - nI 6 < nI (6 * j)
      rw [nI_sub (by omega)]
      exact nI_lt (by omega) (by omega)
  | succ n ih =>
    intro j m x u o6 o7 o8 hj h
    refine vl_law_28 ⟨fun _ => fin j m x u (by omega) h, fun c => ?_⟩
    have h6 : 6 * j + 6 ≤ X.1 := by
      rcases Nat.lt_or_ge X.1 (6 * j + 6) with z | z
      · exfalso
        apply c
        by_cases h6 : X.1 < 6
        · have h6' : X.1 = 0 ∨ X.1 = 1 ∨ X.1 = 2 ∨ X.1 = 3 ∨ X.1 = 4 ∨ X.1 = 5 := by omega
          have z : (0 : Int32) ≤ nI (6 * j) := nI_pos' (by omega)
          refine Int32.lt_of_lt_of_le ?_ z
          rcases h6' with e | e | e | e | e | e <;> rw [e] <;> decide
        · show nI X.1 - nI 6 < nI (6 * j)
          rw [nI_sub (by omega)]
          exact nI_lt (by omega) (by omega)
      · exact z
    have b := lb_of h6 hL
    have hi : j + 1 ≤ 600 := by omega
    have W : ∀ (w6 w7 w8 : Option MV) (m9 : MI) (x9 : Int64 × UInt64) (u9 : Nat × Nat), LI (j + 1 + 1) m9 u9 → Wp X (d + 17) 322 (2999, ([some (vs 0 0), some (vp 0 0), some (vp 31 0), some (vp 43 0), some (vp 44 0), some (vi (nI (6 * j))), w6, w7, w8], ([], Gu u9 x9 m9))) Q := fun w6 w7 w8 m9 x9 u9 h9 => by
      refine vl_law_2999 (fun t1 e1 => ?_)
      have e : t1 = nI (6 * (j + 1)) := by
        rw [e1, show (6 : Int32) = nI 6 from rfl, nI_add]
        rfl
      rw [e]
      exact ih (j + 1) m9 x9 u9 w6 w7 w8 (by omega) h9
    have lcs_t : Wp X (d + 17) 322 (2999, ([some (vs 0 0), some (vp 0 0), some (vp 31 0), some (vp 43 0), some (vp 44 0), some (vi (nI (6 * j))), o6, o7, o8], ([], Gu u x m))) Q := W _ _ _ _ _ _ (by
      obtain ⟨o, h1, h2, ok, hz, hu⟩ := h
      exact ⟨o, h1, h2, ok.mono (by omega), hz, by omega, by omega⟩)
    refine ⟨inb_n (6 * j) X.1 (by omega), fun _ => lcs_284 h hi b W, fun _ => lcs_376 h hi b W, fun _ => lcs_480 h hi b W, fun _ => lcs_536 h hi b W, fun _ => lcs_592 h hi b W, fun _ => lcs_650 h hi b W, fun _ => lcs_718 h hi b W, fun _ => lcs_731 h hi b W, fun _ => lcs_799 h hi b W, fun _ => lcs_855 h hi b W, fun _ => lcs_868 h hi b W, fun _ => lcs_924 h hi b W, fun _ => lcs_980 h hi b W, fun _ => lcs_1036 h hi b W, fun _ => lcs_1092 h hi b W, fun _ => lcs_1148 h hi b W, fun _ => lcs_1204 h hi b W, fun _ => lcs_1260 h hi b W, fun _ => lcs_1316 h hi b W, fun _ => lcs_1329 h hi b W, fun _ => lcs_1385 h hi b W, fun _ => lcs_1441 h hi b W, fun _ => lcs_1497 h hi b W, fun _ => lcs_1565 h hi b W, fun _ => lcs_1640 h hi b W, fun _ => lcs_1696 h hi b W, fun _ => lcs_1764 h hi b W, fun _ => lcs_1844 h hi b W, fun _ => lcs_1924 h hi b W, fun _ => lcs_1968 h hi b W, fun _ => lcs_2012 h hi b W, fun _ => lcs_2025 h hi b W, fun _ => lcs_2038 h hi b W, fun _ => lcs_2051 h hi b W, fun _ => lcs_2107 h hi b W, fun _ => lcs_2163 h hi b W, fun _ => lcs_2219 h hi b W, fun _ => lcs_2287 h hi b W, fun _ => lcs_2300 h hi b W, fun _ => lcs_2313 h hi b W, fun _ => lcs_2326 h hi b W, fun _ => lcs_2339 h hi b W, fun _ => lcs_2352 h hi b W, fun _ => lcs_2417 h hi b W, fun _ => lcs_2483 h hi b W, fun _ => lcs_2496 h hi b W, fun _ => lcs_2552 h hi b W, fun _ => lcs_2608 h hi b W, fun _ => lcs_2664 h hi b W, fun _ => lcs_2722 h hi b W, fun _ => lcs_2766 h hi b W, fun _ => lcs_2810 h hi b W, fun _ => lcs_2854 h hi b W, fun _ => lcs_2898 h hi b W, fun _ => lcs_2942 h hi b W, fun _ => lcs_2955 h hi b W, fun _ => lcs_t⟩
end LOOP
