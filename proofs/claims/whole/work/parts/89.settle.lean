/-! ===== A SETTLEMENT CARRIED OUT ===== -/
def TRs (S : SP) (lo hi i : Nat) : Bool := decide (lo ≤ i ∧ i < hi ∧ S.cv i < S.n)
def TCs (S : SP) (hi p : Nat) : Bool := decide (0 < fb_ct (fun j => decide (S.cv j = p ∧ p < S.n)) hi)
theorem TCs_is {S : SP} {hi p : Nat} : TCs S hi p = true ↔ ∃ j, j < hi ∧ S.cv j = p ∧ p < S.n := by
  unfold TCs
  rw [decide_eq_true_iff, fb_ct_pos]
  constructor
  · rintro ⟨j, j1, j2⟩; exact ⟨j, j1, of_decide_eq_true j2⟩
  · rintro ⟨j, j1, j2⟩; exact ⟨j, j1, decide_eq_true j2⟩
theorem rmv_cong {l : List Row} {T T9 : Nat → Bool} (h : ∀ p, p < l.length → T p = T9 p) : rmv l T = rmv l T9 := by
  unfold rmv
  refine List.filter_congr (fun r _ => ?_)
  have e : (∀ p, p < l.length → T p = true → r 0 ≠ rowD l p 0) ↔ (∀ p, p < l.length → T9 p = true → r 0 ≠ rowD l p 0) := by
    constructor
    · intro z p hp ht; exact z p hp (by rw [h p hp]; exact ht)
    · intro z p hp ht; exact z p hp (by rw [← h p hp]; exact ht)
  exact decide_eq_decide.mpr e
abbrev asS (a : AS) (TR TC : Nat → Bool) (w c : Nat) : AS := ((rmv (aC a) TC, rmv (aR a) TR), ((aXC a, (aXR a, (aDay a, aMet a))), (aCo a + nI w, aRt a + nI c)))
abbrev asSet (a : AS) : AS := asS a (TRs (spA a) 0 (spA a).r) (TCs (spA a) (spA a).r) ((spA a).sumW (spA a).r) ((spA a).cnt (spA a).r)
theorem okA_rmv {B : Nat} {a : AS} (h : okA B a) (TR TC : Nat → Bool) (w c : Nat) : okA B (asS a TR TC w c) := by
  obtain ⟨⟨h1, h2, h3, h4, h5, h6⟩, ⟨h7, h8⟩, h9, h10⟩ := h
  exact ⟨⟨Nat.le_trans (rmv_len _ _) h1, Nat.le_trans (rmv_len _ _) h2, h3, h4, h5, h6⟩, ⟨fun r hr => h7 r (List.mem_filter.mp hr).1, dis_rmv h8 TC⟩, fun r hr => h9 r (List.mem_filter.mp hr).1, dis_rmv h10 TR⟩
theorem okA.disC {B : Nat} {a : AS} (h : okA B a) : dis (aC a) := h.2.1.2
theorem okA.disR {B : Nat} {a : AS} (h : okA B a) : dis (aR a) := h.2.2.2
theorem okA.idC {B : Nat} {a : AS} (h : okA B a) (hB : B < 2 ^ 29) : ∀ r ∈ aC a, r 0 < 2 ^ 30 := fun r hr => by
  have h1 := (h.2.1.1 r hr).1
  have h2 : aXC a ≤ B := h.1.2.2.1
  unfold okC at h1
  omega
theorem okA.idR {B : Nat} {a : AS} (h : okA B a) (hB : B < 2 ^ 29) : ∀ r ∈ aR a, r 0 < 2 ^ 30 := fun r hr => by
  have h1 := h.2.2.1 r hr
  have h2 : aXR a ≤ B := h.1.2.2.2.1
  unfold okRp at h1
  omega
theorem sumW_s {S : SP} (k : Nat) : S.sumW (k + 1) = S.sumW k + (if S.cv k < S.n then S.w k else 0) := rfl
theorem cnt_s {S : SP} (k : Nat) : S.cnt (k + 1) = S.cnt k + (if S.cv k < S.n then 1 else 0) := rfl
theorem sumW_m {S : SP} {k : Nat} (h : k ≤ S.r) : S.sumW k ≤ S.sumW S.r := by
  have := fb_sm_mono (fun j => if S.cv j < S.n then S.w j else 0) k (S.r - k)
  rwa [show k + (S.r - k) = S.r by omega] at this
theorem cnt_m {S : SP} {k : Nat} (h : k ≤ S.r) : S.cnt k ≤ S.cnt S.r := by
  have := fb_sm_mono (fun j => if S.cv j < S.n then 1 else 0) k (S.r - k)
  rwa [show k + (S.r - k) = S.r by omega] at this
theorem cnt_le {S : SP} : ∀ k, S.cnt k ≤ k
  | 0 => Nat.le_refl _
  | k + 1 => by
    have := cnt_le (S := S) k
    rw [cnt_s]
    split <;> omega
section CARRY
variable {X : MX} {d : Nat} {x : Int64 × UInt64} {m : MI} {Q : MRes → Prop} {B : Nat} {a : AS} {fl : Bool} {H : List AS}
theorem sp_carry (h : relS m 0 a) (ho : okA B a) (L : ldd m (spA a)) (hC : ∀ k, k < (spA a).r → m 19 0 k = cvV (spA a) k) (hQ : ∀ m9, relS m9 0 (asSet a) → Fr (inSt 0) m m9 → Q (.inl (some (vi (nI ((spA a).cnt (spA a).r)))), G x m9)) : Cl X (d + 1) 118 [vp 12 0, vp 1 0] (G x m) Q := by
  have hl := ho.len
  have hS := spA_ok ho
  have h10 : (spA a).n ≤ 10 := hS.1
  have h6 : (spA a).r ≤ 6 := hS.2.1
  have hpn := p2 h10
  have er : (spA a).r = (aR a).length := rfl
  have en : (spA a).n = (aC a).length := rfl
  have K : ∀ m9, Fr (inSt 0) m m9 → (∀ k, k < (spA a).r → m9 19 0 k = cvV (spA a) k) ∧ (∀ k, k < (spA a).r → m9 15 0 k = nI ((spA a).w k)) ∧ m9 12 0 6 = nI (spA a).n := fun m9 hF => by
    refine ⟨fun k hk => ?_, fun k hk => ?_, ?_⟩
    · rw [hF 19 0 k (by unfold inSt; omega)]; exact hC k hk
    · rw [hF 15 0 k (by unfold inSt; omega)]; exact L.2.2.1 k hk
    · rw [hF 12 0 6 (by unfold inSt; omega)]; exact L.1.2
  refine vc_X6_carryOut (fun t1 e1 => ?_)
  rw [L.1.1] at e1
  rw [e1]
  have cols : ∀ u, u < 2 ^ (spA a).n → (∀ p, u.testBit p = true ↔ ∃ j, j < (spA a).r ∧ (spA a).cv j = p ∧ p < (spA a).n) → ∀ p, p ≤ (spA a).n → ∀ m9, relS m9 0 (asS a (TRs (spA a) 0 (spA a).r) (fun q => decide (p ≤ q) && u.testBit q) ((spA a).sumW (spA a).r) ((spA a).cnt (spA a).r)) → Fr (inSt 0) m m9 → Wp X (d + 1) 118 (76, ([some (vp 12 0), some (vp 1 0), some (vi (nI u)), some (vi (nI ((spA a).cnt (spA a).r))), some (vi (nI p - 1))], ([], G x m9))) Q := by
    intro u hu hb p
    induction p with
    | zero =>
      intro hp m9 h9 hF
      refine vl_X6_carryOut_76 ⟨fun _ => ?_, fun c => absurd (show nI 0 - 1 < 0 by decide +kernel) c⟩
      have e : rmv (aC a) (fun q => decide (0 ≤ q) && u.testBit q) = rmv (aC a) (TCs (spA a) (spA a).r) := rmv_cong (fun q hq => by
        rw [decide_eq_true (Nat.zero_le q), Bool.true_and]
        rw [Bool.eq_iff_iff, hb q, TCs_is])
      unfold asS at h9
      rw [e] at h9
      exact hQ m9 h9 hF
    | succ p ih =>
      intro hp m9 h9 hF
      rw [nIm]
      have hpn : p < (aC a).length := hp
      refine vl_X6_carryOut_76 ⟨fun c => absurd c (nI_pos (by omega)), fun _ => bit_c (by omega) (by omega) (fun hb0 t3 e3 => ?_) (fun hb1 => ?_)⟩
      · rw [e3, neg1]
        have e : rmv (aC a) (fun q => decide (p + 1 ≤ q) && u.testBit q) = rmv (aC a) (fun q => decide (p ≤ q) && u.testBit q) := rmv_cong (fun q hq => by
          by_cases hqp : q = p
          · rw [hqp, hb0, Bool.and_false, Bool.and_false]
          · rw [show decide (p + 1 ≤ q) = decide (p ≤ q) from decide_eq_decide.mpr (by omega)])
        unfold asS at h9
        rw [e] at h9
        exact ih (by omega) m9 h9 hF
      · obtain ⟨i1, i2⟩ := rmv_idx ho.disC hpn (T := fun q => decide (p + 1 ≤ q) && u.testBit q) (fun q hq => by rw [decide_eq_false (by omega), Bool.false_and])
        have ee := rmv_er ho.disC hpn i1 (by rw [i2])
        have e : rmv (aC a) (fun q => (decide (p + 1 ≤ q) && u.testBit q) || decide (q = p)) = rmv (aC a) (fun q => decide (p ≤ q) && u.testBit q) := rmv_cong (fun q hq => by
          by_cases hqp : q = p
          · rw [hqp, hb1, decide_eq_true (rfl : p = p), decide_eq_true (Nat.le_refl p), Bool.or_true]; rfl
          · rw [show decide (p + 1 ≤ q) = decide (p ≤ q) from decide_eq_decide.mpr (by omega), decide_eq_false hqp, Bool.or_false])
        have hlen := rmv_len (aC a) (fun q => decide (p + 1 ≤ q) && u.testBit q)
        have hlenR := rmv_len (aR a) (TRs (spA a) 0 (spA a).r)
        refine sp_rmC h9.1 (by show (rmv _ _).length ≤ 10; omega) i1 (fun m8 hT hF8 => ⟨_, rfl, fun t6 e6 => ?_⟩)
        rw [e6, neg1]
        have h8 := h9.setC (by show (rmv _ _).length ≤ 6; omega) hF8 hT
        have h8' : relS m8 0 (asS a (TRs (spA a) 0 (spA a).r) (fun q => decide (p ≤ q) && u.testBit q) ((spA a).sumW (spA a).r) ((spA a).cnt (spA a).r)) := by
          have e9 : ((rmv (aC a) (fun q => decide (p + 1 ≤ q) && u.testBit q)).eraseIdx p) = rmv (aC a) (fun q => decide (p ≤ q) && u.testBit q) := ee.trans e
          have h8 : relS m8 0 (((rmv (aC a) (fun q => decide (p + 1 ≤ q) && u.testBit q)).eraseIdx p, rmv (aR a) (TRs (spA a) 0 (spA a).r)), ((aXC a, (aXR a, (aDay a, aMet a))), (aCo a + nI ((spA a).sumW (spA a).r), aRt a + nI ((spA a).cnt (spA a).r)))) := h8
          rw [e9] at h8
          exact h8
        exact ih (by omega) m8 h8' (hF.tr (hF8.mono (fun f i t => tC_S t)))
  have reps : ∀ k, k ≤ (spA a).r → ∀ u m9, u < 2 ^ (spA a).n → (∀ p, u.testBit p = true ↔ ∃ j, k ≤ j ∧ j < (spA a).r ∧ (spA a).cv j = p ∧ p < (spA a).n) → relS m9 0 (asS a (TRs (spA a) k (spA a).r) (fun _ => false) ((spA a).sumW (spA a).r - (spA a).sumW k) ((spA a).cnt (spA a).r - (spA a).cnt k)) → Fr (inSt 0) m m9 → Wp X (d + 1) 118 (12, ([some (vp 12 0), some (vp 1 0), some (vi (nI u)), some (vi (nI ((spA a).cnt (spA a).r - (spA a).cnt k))), some (vi (nI k - 1))], ([], G x m9))) Q := by
    intro k
    induction k with
    | zero =>
      intro hk u m9 hu hb h9 hF
      obtain ⟨k1, k2, k3⟩ := K m9 hF
      refine vl_X6_carryOut_12 ⟨fun _ t2 e2 => ?_, fun c => absurd (show nI 0 - 1 < 0 by decide +kernel) c⟩
      rw [k3] at e2
      rw [e2]
      have e0 : (spA a).cnt 0 = 0 := rfl
      have e00 : (spA a).sumW 0 = 0 := rfl
      rw [e0, Nat.sub_zero]
      rw [e0, e00, Nat.sub_zero, Nat.sub_zero] at h9
      have en2 : rmv (aC a) (fun _ => false) = rmv (aC a) (fun q => decide ((spA a).n ≤ q) && u.testBit q) := rmv_cong (fun q hq => by
        rw [decide_eq_false (by rw [en]; omega), Bool.false_and])
      unfold asS at h9
      rw [en2] at h9
      exact cols u hu (fun p => by rw [hb p]; constructor
                                   · rintro ⟨j, _, j2, j3⟩; exact ⟨j, j2, j3⟩
                                   · rintro ⟨j, j2, j3⟩; exact ⟨j, Nat.zero_le _, j2, j3⟩) (spA a).n (Nat.le_refl _) m9 h9 hF
    | succ k ih =>
      intro hk u m9 hu hb h9 hF
      obtain ⟨k1, k2, k3⟩ := K m9 hF
      have hkr : k < (aR a).length := hk
      have sm := sumW_m (S := spA a) hk
      have cm := cnt_m (S := spA a) hk
      have sm0 := sumW_m (S := spA a) (k := k) (by omega)
      have cm0 := cnt_m (S := spA a) (k := k) (by omega)
      rw [nIm]
      refine vl_X6_carryOut_12 ⟨fun c => absurd c (nI_pos (by omega)), fun _ => ⟨inb_n k 6 (by omega), ?_⟩⟩
      rw [nI_clamp (n := k) (by omega), k1 k (by omega), k2 k (by omega)]
      refine cvV_c h10 k (fun c t4 e4 => ?_) (fun c => ⟨inb_n k 6 (by omega), fun t5 e5 t6 e6 => ⟨inb_n k 6 (by omega), ?_⟩⟩)
      · rw [e4, neg1]
        have e1 : (spA a).cnt (k + 1) = (spA a).cnt k := by rw [cnt_s, if_neg c]; rfl
        have e2 : (spA a).sumW (k + 1) = (spA a).sumW k := by rw [sumW_s, if_neg c]; rfl
        rw [e1]
        rw [e1, e2] at h9
        have e3 : rmv (aR a) (TRs (spA a) (k + 1) (spA a).r) = rmv (aR a) (TRs (spA a) k (spA a).r) := rmv_cong (fun q hq => decide_eq_decide.mpr (by
          constructor
          · intro z; omega
          · intro z
            by_cases hqk : q = k
            · rw [hqk] at z; exact absurd z.2.2 c
            · omega))
        unfold asS at h9
        rw [e3] at h9
        exact ih (by omega) u m9 hu (fun p => by rw [hb p]; constructor
                                                 · rintro ⟨j, j1, j2⟩; exact ⟨j, by omega, j2⟩
                                                 · rintro ⟨j, j1, j2, j3⟩
                                                   by_cases hjk : j = k
                                                   · rw [hjk] at j3; omega
                                                   · exact ⟨j, by omega, j2, j3⟩) h9 hF
      · rw [show cvV (spA a) k = nI ((spA a).cv k) from if_pos c, shl1 (by omega), fa_or] at e5
        have e1 : (spA a).cnt (k + 1) = (spA a).cnt k + 1 := by rw [cnt_s, if_pos c]
        have e2 : (spA a).sumW (k + 1) = (spA a).sumW k + (spA a).w k := by rw [sumW_s, if_pos c]
        rw [nI_1, show (spA a).cnt (spA a).r - (spA a).cnt (k + 1) + 1 = (spA a).cnt (spA a).r - (spA a).cnt k by omega] at e6
        obtain ⟨i1, i2⟩ := rmv_idx ho.disR hkr (T := TRs (spA a) (k + 1) (spA a).r) (fun q hq => decide_eq_false (by omega))
        have ee := rmv_er ho.disR hkr i1 (by rw [i2])
        have e3 : rmv (aR a) (fun p => TRs (spA a) (k + 1) (spA a).r p || decide (p = k)) = rmv (aR a) (TRs (spA a) k (spA a).r) := rmv_cong (fun q hq => by
          rw [Bool.eq_iff_iff, Bool.or_eq_true]
          unfold TRs
          rw [decide_eq_true_iff, decide_eq_true_iff, decide_eq_true_iff]
          constructor
          · rintro (z | z)
            · omega
            · rw [z]; exact ⟨Nat.le_refl _, by omega, c⟩
          · intro z
            by_cases hqk : q = k
            · exact Or.inr hqk
            · exact Or.inl (by omega))
        have hlenR := rmv_len (aR a) (TRs (spA a) (k + 1) (spA a).r)
        have hlenC := rmv_len (aC a) (fun _ => false)
        refine sp_earn h9 (fun m8 h8 hF8 => ⟨_, rfl, ?_⟩)
        refine sp_rmR h8.2.1 (by show (rmv _ _).length ≤ 6; omega) i1 (fun m7 hT7 hF7 => ⟨_, rfl, fun t11 e11 => ?_⟩)
        rw [e11, neg1, e5, e6]
        have h7 := h8.setR (by show (rmv _ _).length ≤ 10; omega) hF7 hT7
        have h7' : relS m7 0 (asS a (TRs (spA a) k (spA a).r) (fun _ => false) ((spA a).sumW (spA a).r - (spA a).sumW k) ((spA a).cnt (spA a).r - (spA a).cnt k)) := by
          have h7 : relS m7 0 ((rmv (aC a) (fun _ => false), (rmv (aR a) (TRs (spA a) (k + 1) (spA a).r)).eraseIdx k), ((aXC a, (aXR a, (aDay a, aMet a))), (aCo a + nI ((spA a).sumW (spA a).r - (spA a).sumW (k + 1)) + nI ((spA a).w k), aRt a + nI ((spA a).cnt (spA a).r - (spA a).cnt (k + 1)) + 1))) := h7
          rw [ee, e3, Int32.add_assoc, nI_add, Int32.add_assoc, nI_1, show (spA a).sumW (spA a).r - (spA a).sumW (k + 1) + (spA a).w k = (spA a).sumW (spA a).r - (spA a).sumW k by omega, show (spA a).cnt (spA a).r - (spA a).cnt (k + 1) + 1 = (spA a).cnt (spA a).r - (spA a).cnt k by omega] at h7
          exact h7
        refine ih (by omega) _ m7 (Nat.or_lt_two_pow hu (Nat.pow_lt_pow_right (by omega) c)) (fun p => ?_) h7' ((hF.tr (hF8.mono (fun f i t => t1_S t))).tr (hF7.mono (fun f i t => tR_S t)))
        rw [bit_or, Bool.or_eq_true, decide_eq_true_iff, hb p]
        constructor
        · rintro (⟨j, j1, j2⟩ | z)
          · exact ⟨j, by omega, j2⟩
          · exact ⟨k, Nat.le_refl _, by omega, z.symm, by rw [z]; exact c⟩
        · rintro ⟨j, j1, j2, j3, j4⟩
          by_cases hjk : j = k
          · rw [hjk] at j3; exact Or.inr j3.symm
          · exact Or.inl ⟨j, by omega, j2, j3, j4⟩
  have hb0 : ∀ p, Nat.testBit 0 p = true ↔ ∃ j, (spA a).r ≤ j ∧ j < (spA a).r ∧ (spA a).cv j = p ∧ p < (spA a).n := fun p => by
    rw [Nat.zero_testBit]
    constructor
    · intro c; cases c
    · rintro ⟨j, j1, j2, _⟩; omega
  have h00 : relS m 0 (asS a (TRs (spA a) (spA a).r (spA a).r) (fun _ => false) ((spA a).sumW (spA a).r - (spA a).sumW (spA a).r) ((spA a).cnt (spA a).r - (spA a).cnt (spA a).r)) := by
    have e1 : rmv (aR a) (TRs (spA a) (spA a).r (spA a).r) = aR a := by
      rw [rmv_cong (l := aR a) (T := TRs (spA a) (spA a).r (spA a).r) (T9 := fun _ => false) (fun q hq => decide_eq_false (by omega))]
      exact rmv_nil _
    unfold asS
    rw [Nat.sub_self, Nat.sub_self, e1, rmv_nil, nI_0, Int32.add_zero, Int32.add_zero]
    exact h
  have z := reps (spA a).r (Nat.le_refl _) 0 m (Nat.pow_pos (by omega)) hb0 h00 Fr.rf
  rw [Nat.sub_self] at z
  exact z
theorem sp_settle (h : relS m 0 a) (ho : okA B a) (hz : ∀ s, m 18 0 s = 0) (hH : HyP fl m H) (hl : ∀ b ∈ H, lenOk b) (hQ : ∀ m9, relS m9 0 (asSet a) → HyP fl m9 (hpush a H) → Fr (tO fl) m m9 → Q (.inl (some (vi (nI ((spA a).cnt (spA a).r)))), G x m9)) : Cl X (d + 4) 7 [vp 0 0] (G x m) Q := by
  have hn := ho.len
  refine vc_X10_settle (sp_solve h ho hz (fun m2 L2 C2 K2 => ⟨_, rfl, ?_⟩))
  have h2 : relS m2 0 a := h.on hn.1 hn.2.1 (fun f i k hi => K2 f i k (by unfold inSt at hi; omega))
  have hH2 : HyP fl m2 H := hH.on hl (K2 0 0 11 (by omega)) (fun f i k ht => K2 f i k (by unfold tH at ht; omega))
  have F2 : Fr (tO fl) m m2 := fun f i k ht => K2 f i k (by unfold tO at ht; omega)
  refine sp_rem h2 hn hH2 hl (fun m4 hH4 hF4 => ⟨_, rfl, ?_⟩)
  have h4 : relS m4 0 a := h2.on hn.1 hn.2.1 (fun f i k hi => hF4 f i k (by unfold inSt at hi; unfold tH; omega))
  have L4 : ldd m4 (spA a) := L2.on (fun f i k hf => hF4 f i k (by unfold tH; omega))
  refine sp_carry h4 ho L4 (fun k hk => by rw [hF4 19 0 k (by unfold tH; omega)]; exact C2 k hk) (fun m6 h6 hF6 => ⟨_, _, rfl, ?_⟩)
  exact hQ m6 h6 (hH4.st (hl_push (ho := hn) hl) hF6) ((F2.tr (hF4.mono (fun f i hi => Or.inr (Or.inr hi)))).tr (hF6.mono (fun f i hi => Or.inl hi)))
def t37 (f _i _k : Nat) : Prop := f = 36 ∨ f = 37 ∨ f = 38 ∨ f = 32
theorem sp_settleAll (h : relR (m 32 0) a) (ho : okA B a) (hB : B < 2 ^ 29) (hQ : ∀ m9, relR (m9 32 0) (asSet a) → Fk t37 m m9 → Q (.inl (some (vi (nI ((spA a).cnt (spA a).r)))), G x m9)) : Cl X (d + 6) 185 [vp 31 0] (G x m) Q := by
  have hl := ho.len
  have hS := spA_ok ho
  have h10 : (spA a).n ≤ 10 := hS.1
  have h6 : (spA a).r ≤ 6 := hS.2.1
  have er : (spA a).r = (aR a).length := rfl
  have en : (spA a).n = (aC a).length := rfl
  refine vc_X11_settleAll (sp_settling h ho (fun m2 T2 F2 => ⟨_, _, rfl, ?_⟩))
  have F20 : Fk t37 m m2 := F2.mono (fun f i k t => Or.inl t)
  have giving : ∀ j k, k + j = (spA a).r → ∀ m9 l1, relR (m9 32 0) (asS a (TRs (spA a) 0 k) (TCs (spA a) k) ((spA a).sumW k) ((spA a).cnt k)) → (∀ i, i < (spA a).r → (spA a).cv i < (spA a).n → m9 37 0 ((spA a).cnt i) = nI (rowD (aR a) i 0) ∧ m9 38 0 ((spA a).cnt i) = nI (rowD (aC a) ((spA a).cv i) 0)) → Fk t37 m m9 → Wp X (d + 6) 185 (69, ([some (vp 31 0), some (vi l1), some (vi (nI ((spA a).cnt (spA a).r))), some (vi (nI ((spA a).cnt k)))], ([], G x m9))) Q := by
    intro j
    induction j with
    | zero =>
      intro k hk m9 l1 h9 hg hF
      obtain rfl : k = (spA a).r := by omega
      have cl := cnt_le (S := spA a) (spA a).r
      refine vl_X11_settleAll_69 (pk_le ((spA a).cnt (spA a).r) ((spA a).cnt (spA a).r) (fun _ => hQ m9 h9 hF) (fun c => absurd c (Nat.lt_irrefl _)))
    | succ j ih =>
      intro k hk m9 l1 h9 hg hF
      have hkr : k < (spA a).r := by omega
      by_cases c : (spA a).cv k < (spA a).n
      · have e1 : (spA a).cnt (k + 1) = (spA a).cnt k + 1 := by rw [cnt_s, if_pos c]
        have e2 : (spA a).sumW (k + 1) = (spA a).sumW k + (spA a).w k := by rw [sumW_s, if_pos c]
        have cl := cnt_le (S := spA a) k
        have cm := cnt_m (S := spA a) (k := k + 1) (by omega)
        have clr := cnt_le (S := spA a) (spA a).r
        have hg9 := hg k hkr c
        have ih := ih (k + 1) (by omega)
        refine vl_X11_settleAll_69 (pk_le ((spA a).cnt (spA a).r) ((spA a).cnt k) (fun c9 => by omega) (fun _ => ⟨inb_n ((spA a).cnt k) 6 (by omega), inb_n ((spA a).cnt k) 6 (by omega), ?_⟩))
        rw [nI_clamp (n := (spA a).cnt k) (by omega), hg9.1, hg9.2]
        have TR0 : TRs (spA a) 0 k k = false := decide_eq_false (by omega)
        have TC0 : TCs (spA a) k ((spA a).cv k) = false := by
          cases hb : TCs (spA a) k ((spA a).cv k) with
          | false => rfl
          | true =>
            obtain ⟨j9, j1, j2, j3⟩ := TCs_is.mp hb
            exact absurd j2 (cv_new c j1)
        obtain ⟨pr1, pr2⟩ := rmv_pos ho.disR (ho.idR hB) (T := TRs (spA a) 0 k) hkr TR0
        obtain ⟨pc1, pc2⟩ := rmv_pos ho.disC (ho.idC hB) (T := TCs (spA a) k) c TC0
        have lb : lenOk (asS a (TRs (spA a) 0 k) (TCs (spA a) k) ((spA a).sumW k) ((spA a).cnt k)) := (okA_rmv ho _ _ _ _).len
        refine sp_gives h9 lb pr1 pc1 (fun m8 h8 F8 => ⟨_, _, rfl, fun t4 e4 => ?_⟩)
        rw [e4, nI_1, ← e1]
        have eR := rmv_er ho.disR hkr pr1 (by rw [pr2])
        have eC := rmv_er ho.disC c pc1 (by rw [pc2])
        have eR2 : rmv (aR a) (fun p => TRs (spA a) 0 k p || decide (p = k)) = rmv (aR a) (TRs (spA a) 0 (k + 1)) := rmv_cong (fun q hq => by
          rw [Bool.eq_iff_iff, Bool.or_eq_true]
          unfold TRs
          rw [decide_eq_true_iff, decide_eq_true_iff, decide_eq_true_iff]
          constructor
          · rintro (z | z)
            · omega
            · rw [z]; exact ⟨Nat.zero_le _, by omega, c⟩
          · intro z
            by_cases hqk : q = k
            · exact Or.inr hqk
            · exact Or.inl (by omega))
        have eC2 : rmv (aC a) (fun p => TCs (spA a) k p || decide (p = (spA a).cv k)) = rmv (aC a) (TCs (spA a) (k + 1)) := rmv_cong (fun q hq => by
          rw [Bool.eq_iff_iff, Bool.or_eq_true, decide_eq_true_iff, TCs_is, TCs_is]
          constructor
          · rintro (⟨j9, j1, j2⟩ | z)
            · exact ⟨j9, by omega, j2⟩
            · exact ⟨k, by omega, z.symm, by rw [z]; exact c⟩
          · rintro ⟨j9, j1, j2, j3⟩
            by_cases hjk : j9 = k
            · rw [hjk] at j2; exact Or.inr j2.symm
            · exact Or.inl ⟨j9, by omega, j2, j3⟩)
        have h8' : relR (m8 32 0) (asS a (TRs (spA a) 0 (k + 1)) (TCs (spA a) (k + 1)) ((spA a).sumW (k + 1)) ((spA a).cnt (k + 1))) := by
          have h8 : relR (m8 32 0) (((rmv (aC a) (TCs (spA a) k)).eraseIdx (posI (rmv (aC a) (TCs (spA a) k)) (nI (rowD (aC a) ((spA a).cv k) 0))), (rmv (aR a) (TRs (spA a) 0 k)).eraseIdx (posI (rmv (aR a) (TRs (spA a) 0 k)) (nI (rowD (aR a) k 0)))), ((aXC a, (aXR a, (aDay a, aMet a))), (aCo a + nI ((spA a).sumW k) + nI (rowD (rmv (aR a) (TRs (spA a) 0 k)) (posI (rmv (aR a) (TRs (spA a) 0 k)) (nI (rowD (aR a) k 0))) 5), aRt a + nI ((spA a).cnt k) + 1))) := h8
          rw [pr2, eR, eR2, eC, eC2, Int32.add_assoc, nI_add, Int32.add_assoc, nI_1] at h8
          unfold asS
          rw [e1, e2]
          exact h8
        refine ih m8 _ h8' (fun i hi hc => ?_) (hF.tr (F8.mono (fun f i k t => Or.inr (Or.inr (Or.inr t)))))
        rw [F8 37 0 _ (by unfold t32; omega), F8 38 0 _ (by unfold t32; omega)]
        exact hg i hi hc
      · have e1 : (spA a).cnt (k + 1) = (spA a).cnt k := by rw [cnt_s, if_neg c]; rfl
        have e2 : (spA a).sumW (k + 1) = (spA a).sumW k := by rw [sumW_s, if_neg c]; rfl
        have eR2 : rmv (aR a) (TRs (spA a) 0 k) = rmv (aR a) (TRs (spA a) 0 (k + 1)) := rmv_cong (fun q hq => decide_eq_decide.mpr (by
          constructor
          · intro z; omega
          · intro z
            by_cases hqk : q = k
            · rw [hqk] at z; exact absurd z.2.2 c
            · omega))
        have eC2 : rmv (aC a) (TCs (spA a) k) = rmv (aC a) (TCs (spA a) (k + 1)) := rmv_cong (fun q hq => by
          rw [Bool.eq_iff_iff, TCs_is, TCs_is]
          constructor
          · rintro ⟨j9, j1, j2⟩; exact ⟨j9, by omega, j2⟩
          · rintro ⟨j9, j1, j2, j3⟩
            by_cases hjk : j9 = k
            · rw [hjk] at j2; omega
            · exact ⟨j9, by omega, j2, j3⟩)
        have h9' : relR (m9 32 0) (asS a (TRs (spA a) 0 (k + 1)) (TCs (spA a) (k + 1)) ((spA a).sumW (k + 1)) ((spA a).cnt (k + 1))) := by
          unfold asS at h9 ⊢
          rw [e1, e2, ← eR2, ← eC2]
          exact h9
        rw [← e1]
        exact ih (k + 1) (by omega) m9 l1 h9' hg hF
  have collect : ∀ k, k ≤ (spA a).r → ∀ m9, relR (m9 32 0) a → tbM m9 (spA a) (spA a).r → (∀ i, i < k → (spA a).cv i < (spA a).n → m9 37 0 ((spA a).cnt i) = nI (rowD (aR a) i 0) ∧ m9 38 0 ((spA a).cnt i) = nI (rowD (aC a) ((spA a).cv i) 0)) → Fk t37 m m9 → ∀ l1, Wp X (d + 6) 185 (9, ([some (vp 31 0), some (vi l1), some (vi (nI ((spA a).cnt k))), some (vi (nI k))], ([], G x m9))) Q := by
    refine lup (fun k hk ih m9 h9 hT hg hF l1 => ?_)
    refine vl_X11_settleAll_9 ?_
    rw [h9.1.2.1]
    have cl := cnt_le (S := spA a) k
    refine pk_le (aR a).length k (fun hc => ?_) (fun hc => sp_settled h9 ho hT hc ⟨_, _, rfl, ?_⟩)
    · obtain rfl : k = (spA a).r := by rw [er] at hk ⊢; omega
      refine giving (spA a).r 0 (by omega) m9 l1 ?_ hg hF
      show relR (m9 32 0) ((rmv (aC a) (TCs (spA a) 0), rmv (aR a) (TRs (spA a) 0 0)), ((aXC a, (aXR a, (aDay a, aMet a))), (aCo a + nI 0, aRt a + nI 0)))
      rw [rmv_cong (l := aR a) (T := TRs (spA a) 0 0) (T9 := fun _ => false) (fun q hq => decide_eq_false (by omega)), rmv_cong (l := aC a) (T := TCs (spA a) 0) (T9 := fun _ => false) (fun q hq => by
        cases hb : TCs (spA a) 0 q with
        | false => rfl
        | true =>
          obtain ⟨j9, j1, _⟩ := TCs_is.mp hb
          omega), rmv_nil, rmv_nil, nI_0, Int32.add_zero, Int32.add_zero]
      exact h9
    · have hkr : k < (spA a).r := hc
      have ih := ih hkr
      unfold cvV
      by_cases c : (spA a).cv k < (spA a).n
      · have c' : (spA a).cv k < (aC a).length := c
        rw [if_pos c]
        have e1 : (spA a).cnt (k + 1) = (spA a).cnt k + 1 := by rw [cnt_s, if_pos c]
        refine ⟨fun _ => sp_r (k := k) (o := 0) (by omega) (by omega) ⟨_, _, rfl, inb_n ((spA a).cnt k) 6 (by omega), fun m7 e7 => ?_⟩, fun c9 => absurd (nI_pos' (by omega)) c9⟩
        rw [h9.2.2 k hc 0 (by omega), nI_clamp (n := (spA a).cnt k) (by omega)] at e7
        have R7 : m7 32 0 = m9 32 0 := funext fun k => by rw [e7, mup_no (by omega)]
        have h7 : relR (m7 32 0) a := by rw [R7]; exact h9
        have T7 : tbM m7 (spA a) (spA a).r := fun t9 ht9 s hs => by rw [e7, mup_no (by omega)]; exact hT t9 ht9 s hs
        refine sp_settled h7 ho T7 hc ⟨_, _, rfl, ?_⟩
        unfold cvV
        rw [if_pos c]
        refine sp_c (k := (spA a).cv k) (o := 0) (by omega) (by omega) ⟨_, _, rfl, inb_n ((spA a).cnt k) 6 (by omega), fun m12 e12 t13 e13 t14 e14 => ?_⟩
        rw [h7.2.1 _ c' 0 (by omega), nI_clamp (n := (spA a).cnt k) (by omega)] at e12
        rw [e13, e14, nI_1, nI_1, ← e1]
        have R12 : m12 32 0 = m9 32 0 := by rw [← R7]; exact funext fun k => by rw [e12, mup_no (by omega)]
        refine ih m12 (by rw [R12]; exact h9) (fun t9 ht9 s hs => by rw [e12, mup_no (by omega)]; exact T7 t9 ht9 s hs) (fun i hi hci => ?_) (hF.tr (by rw [e12, e7]; exact Fk.ups (Fk.up (Or.inr (Or.inl rfl))) (Or.inr (Or.inr (Or.inl rfl))))) l1
        by_cases hik : i = k
        · rw [hik, e12, mup_no (by omega), mup_eq, e7, mup_eq]
          exact ⟨rfl, rfl⟩
        · have hlt : (spA a).cnt i < (spA a).cnt k := by
            have h1 : (spA a).cnt (i + 1) = (spA a).cnt i + 1 := by rw [cnt_s, if_pos hci]
            have h2 := fb_sm_mono (fun j => if (spA a).cv j < (spA a).n then 1 else 0) (i + 1) (k - (i + 1))
            rw [show i + 1 + (k - (i + 1)) = k by omega] at h2
            have h3 : (spA a).cnt (i + 1) ≤ (spA a).cnt k := h2
            omega
          have := hg i (by omega) hci
          rw [e12, mup_no (by omega), mup_no (by omega), e7, mup_no (by omega), mup_no (by omega)]
          exact this
      · rw [if_neg c]
        have e1 : (spA a).cnt (k + 1) = (spA a).cnt k := by rw [cnt_s, if_neg c]; rfl
        refine ⟨fun c9 => absurd c9 (by decide), fun _ t15 e15 => ?_⟩
        rw [e15, nI_1, ← e1]
        refine ih m9 h9 hT (fun i hi hci => ?_) hF l1
        by_cases hik : i = k
        · rw [hik] at hci; exact absurd hci c
        · exact hg i (by omega) hci
  have R2 : relR (m2 32 0) a := by
    rw [show m2 32 0 = m 32 0 from funext fun k => F2 32 0 k (by unfold t36; omega)]; exact h
  exact collect 0 (by omega) m2 R2 T2 (fun i hi => by omega) F20 _
end CARRY
section SETTLE2
variable {X : MX} {d : Nat} {x : Int64 × UInt64} {m : MI} {Q : MRes → Prop} {B : Nat} {o : OS}
theorem MoR.st2 {m m9 : MI} {o : OS} {a9 : AS} {H9 : List AS} (h : MoR m o) (hR : relR (m9 32 0) a9) (hH : relMH m9 H9) (K : ∀ f i k, (f = 34 ∨ f = 39 ∨ f = 40 ∨ (f = 31 ∧ ¬ k = 5 ∧ ¬ k = 6)) → m9 f i k = m f i k) : MoR m9 (a9, (H9, o.2.2)) := by
  obtain ⟨h1, h2, h3, h4, h5, h6, h7, h8⟩ := h
  have e34 : m9 34 0 = m 34 0 := funext fun k => K 34 0 k (by omega)
  refine ⟨hR, hH, ?_, ⟨?_, fun k hk => ?_⟩, ⟨?_, fun k hk => ?_⟩, ?_, ?_, ?_⟩
  · unfold snM
    rw [K 31 0 10 (by omega), e34]
    exact h3
  · rw [K 31 0 18 (by omega)]; exact h4.1
  · rw [K 40 0 k (by omega)]; exact h4.2 k hk
  · rw [K 31 0 14 (by omega)]; exact h5.1
  · rw [K 39 0 k (by omega)]; exact h5.2 k hk
  · rw [K 31 0 7 (by omega)]; exact h6
  · rw [K 31 0 8 (by omega)]; exact h7
  · rw [K 31 0 9 (by omega)]; exact h8
theorem cw_settle (h : CoR m o) (ok : okO B o) (hz : ∀ s, m 18 0 s = 0) (hQ : ∀ m9, CoR m9 (osPush o (asSet (oA o))) → FC m m9 → Q (.inl (some (vi (nI ((spA (oA o)).cnt (spA (oA o)).r)))), G x m9)) : Cl X (d + 4) 7 [vp 0 0] (G x m) Q :=
  sp_settle h.1 ok.1 hz h.2.1 ok.hl (fun m9 hS hH hF => hQ m9 (h.push ok hS hH hF) (tO_fc hF))
theorem mw_settle (h : MoR m o) (ok : okO B o) (hB : B < 2 ^ 29) (hQ : ∀ m9, MoR m9 (osPush o (asSet (oA o))) → FM m m9 → Q (.inl (some (vi (nI ((spA (oA o)).cnt (spA (oA o)).r)))), G x m9)) : Cl X (d + 7) 184 [vp 31 0] (G x m) Q := by
  refine vc_X11_settle (mbeg h (fun m2 h2 h5 hb F2 => ⟨_, rfl, sp_settleAll h2.1 ok.1 hB (fun m4 h4 F4 => ⟨_, _, rfl, ?_⟩)⟩))
  have K4 : ∀ f i k, ¬ (f = 36 ∨ f = 37 ∨ f = 38 ∨ f = 32) → m4 f i k = m2 f i k := F4
  have hBf : relR (m4 33 0) (oA o) := h.1.on ok.1.len (fun k hk => by rw [K4 33 0 k (by omega), hb k hk])
  have hM : relMH m4 (oH o) := h2.2.1.on (K4 31 0 6 (by omega)) (fun k => K4 35 0 k (by omega))
  refine sp_commit hBf ok.1.len hM ok.hl (fun m9 hH hF => ⟨_, _, rfl, ?_⟩)
  have e32 : m9 32 0 = m4 32 0 := funext fun k => hF 32 0 k (by unfold tCm; omega)
  have A9 : ∀ f i k, ¬ (f = 36 ∨ f = 37 ∨ f = 38 ∨ f = 32 ∨ f = 33 ∨ f = 35 ∨ (f = 31 ∧ (k = 5 ∨ k = 6))) → m9 f i k = m f i k := fun f i k hf => by
    rw [hF f i k (by unfold tCm; omega), K4 f i k (by omega), F2 f i k (by unfold tBg; omega)]
  exact hQ m9 (h.st2 (by rw [e32]; exact h4) hH (fun f i k hf => A9 f i k (by omega))) (fun f i k hf => A9 f i k (by omega))
end SETTLE2
