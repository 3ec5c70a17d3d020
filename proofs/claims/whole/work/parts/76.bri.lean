/-! ===== BRIGHTNESS, NUMBERS WITH A POINT ===== -/
theorem d_mask {a : UInt64} (h : a.toNat % 2 ^ 63 < 2047 * 2 ^ 52) : decide (a &&& 0x7fffffffffffffff ≤ 0x7ff0000000000000) = true := by
  refine decide_eq_true (UInt64.le_iff_toNat_le.mpr ?_)
  have e : (a &&& 0x7fffffffffffffff).toNat = a.toNat % 2 ^ 63 := by
    rw [UInt64.toNat_and]
    exact Nat.and_two_pow_sub_one_eq_mod a.toNat 63
  rw [e]
  have e2 : (0x7ff0000000000000 : UInt64).toNat = 2047 * 2 ^ 52 := by decide +kernel
  rw [e2]
  omega
theorem dm_ok {s c : Nat} (hs : s ≤ 2970) (h0 : 0 < c) (hc : c ≤ 10) : decide (FP.ddiv (FP.i2d (nI s)) (FP.i2d (nI (3 * c))) &&& 0x7fffffffffffffff ≤ 0x7ff0000000000000) = true := by
  have h1 := Jvm.FP.Core.i2d_mag (nI s)
  have hv : (nI (3 * c)).toInt ≠ 0 := by rw [nI_toInt (by omega)]; omega
  have h2 := Jvm.FP.Core.i2d_big hv
  have h3 := Jvm.FP.Core.ddiv_mag (K := 1056) (L := 1023) h1 h2.1 h2.2 (by omega) (by omega)
  exact d_mask (Nat.lt_of_lt_of_le h3 (by decide))
theorem fm_ok0 : ∀ c, c < 10 → ∀ s, s < 11 → FP.fdiv (FP.i2f (nI s)) (FP.i2f (nI (c + 1))) &&& 0x7fffffff ≤ 0x7f800000 ∧ FP.f2d (FP.fdiv (FP.i2f (nI s)) (FP.i2f (nI (c + 1)))) &&& 0x7fffffffffffffff ≤ 0x7ff0000000000000 := by decide +kernel
theorem fm_ok {s c : Nat} (hs : s ≤ 10) (h0 : 0 < c) (hc : c ≤ 10) : decide (FP.fdiv (FP.i2f (nI s)) (FP.i2f (nI c)) &&& 0x7fffffff ≤ 0x7f800000) = true ∧ decide (FP.f2d (FP.fdiv (FP.i2f (nI s)) (FP.i2f (nI c))) &&& 0x7fffffffffffffff ≤ 0x7ff0000000000000) = true := by
  have e := fm_ok0 (c - 1) (by omega) s (by omega)
  rw [show c - 1 + 1 = c by omega] at e
  exact ⟨decide_eq_true e.1, decide_eq_true e.2⟩
