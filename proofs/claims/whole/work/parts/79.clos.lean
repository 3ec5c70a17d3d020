/-! ===== NEAREST BY LOOKING, CLOSEST PAIR ===== -/
/-- a least over some pairs -/
def isCl (g : Nat → Nat → Nat) (S : Nat → Nat → Prop) (V : Nat) : Prop := V ≤ 1000000000 ∧ (∀ i j, S i j → V ≤ g i j) ∧ (V = 1000000000 ∨ ∃ i j, S i j ∧ V = g i j)
theorem isCl.one {g : Nat → Nat → Nat} {S : Nat → Nat → Prop} {V W : Nat} (h : isCl g S V) (k : isCl g S W) : V = W := by
  obtain ⟨h1, h2, h3⟩ := h
  obtain ⟨k1, k2, k3⟩ := k
  have a : V ≤ W := by
    rcases k3 with rfl | ⟨i, j, hs, rfl⟩
    · exact h1
    · exact h2 i j hs
  have b : W ≤ V := by
    rcases h3 with rfl | ⟨i, j, hs, rfl⟩
    · exact k1
    · exact k2 i j hs
  omega
theorem isCl.cong {g : Nat → Nat → Nat} {S T : Nat → Nat → Prop} {V : Nat} (h : isCl g S V) (hs : ∀ i j, S i j ↔ T i j) : isCl g T V :=
  ⟨h.1, fun i j t => h.2.1 i j ((hs i j).mpr t), by
    rcases h.2.2 with e | ⟨i, j, s, e⟩
    · exact Or.inl e
    · exact Or.inr ⟨i, j, (hs i j).mp s, e⟩⟩
theorem isCl.nil {g : Nat → Nat → Nat} {S : Nat → Nat → Prop} (h : ∀ i j, ¬ S i j) : isCl g S 1000000000 := ⟨Nat.le_refl _, fun i j t => absurd t (h i j), Or.inl rfl⟩
theorem isCl.add {g : Nat → Nat → Nat} {S T : Nat → Nat → Prop} {V : Nat} (h : isCl g S V) (p q : Nat) (hs : ∀ i j, T i j ↔ (S i j ∨ (i = p ∧ j = q))) : isCl g T (min V (g p q)) := by
  obtain ⟨h1, h2, h3⟩ := h
  refine ⟨by omega, fun i j t => ?_, ?_⟩
  · rcases (hs i j).mp t with s | ⟨rfl, rfl⟩
    · have := h2 i j s; omega
    · omega
  · by_cases hc : V ≤ g p q
    · rw [Nat.min_eq_left hc]
      rcases h3 with e | ⟨i, j, s, e⟩
      · exact Or.inl e
      · exact Or.inr ⟨i, j, (hs i j).mpr (Or.inl s), e⟩
    · rw [Nat.min_eq_right (by omega)]
      exact Or.inr ⟨p, q, (hs p q).mpr (Or.inr ⟨rfl, rfl⟩), rfl⟩
/-- more pairs, none of them below -/
theorem isCl.more {g : Nat → Nat → Nat} {S T : Nat → Nat → Prop} {V : Nat} (h : isCl g S V) (h1 : ∀ i j, S i j → T i j) (h2 : ∀ i j, T i j → S i j ∨ V ≤ g i j) : isCl g T V :=
  ⟨h.1, fun i j t => by
    rcases h2 i j t with s | s
    · exact h.2.1 i j s
    · exact s, by
    rcases h.2.2 with e | ⟨i, j, s, e⟩
    · exact Or.inl e
    · exact Or.inr ⟨i, j, h1 i j s, e⟩⟩
def mnQ (g : Nat → Nat → Nat) (a : Nat) : Nat → Nat → Nat
  | 0, v => v
  | b + 1, v => min (mnQ g a b v) (g b a)
def mnP (g : Nat → Nat → Nat) : Nat → Nat
  | 0 => 1000000000
  | a + 1 => mnQ g a a (mnP g a)
def prs (n i j : Nat) : Prop := i < j ∧ j < n
theorem mnQ_is (g : Nat → Nat → Nat) (a : Nat) {v : Nat} (h : isCl g (prs a) v) : ∀ b, b ≤ a → isCl g (fun i j => i < j ∧ (j < a ∨ (j = a ∧ i < b))) (mnQ g a b v)
  | 0, _ => h.cong (fun i j => by unfold prs; omega)
  | b + 1, hb => (mnQ_is g a h b (by omega)).add b a (fun i j => by omega)
theorem mnP_is (g : Nat → Nat → Nat) : ∀ n, isCl g (prs n) (mnP g n)
  | 0 => isCl.nil (fun i j => by unfold prs; omega)
  | n + 1 => (mnQ_is g n (mnP_is g n) n (Nat.le_refl n)).cong (fun i j => by unfold prs; omega)
def clsV (a : AS) : Nat := mnP (dCC a) (aC a).length
def whyCl (a : AS) : Nat := if 2 ≤ (aC a).length then 0 else 1
theorem okA.dCC {B i j : Nat} {a : AS} (ho : okA B a) (hi : i < (aC a).length) (hj : j < (aC a).length) : dCC a i j ≤ 29403 := by
  have h1 := (ho.c hi).1
  have h2 := (ho.c hj).1
  unfold okC at h1 h2
  exact gap3_le (adf_le (by omega) (by omega)) (adf_le (by omega) (by omega)) (adf_le (by omega) (by omega))
def wR (p q r : Nat) : Row := mkR 0 p q r 0 0
def whyNr (a : AS) (p q r : Int32) : Nat := if isP3 p q r then (if (aC a).length = 0 then 2 else 0) else 1
def nrW (a : AS) (p q r : Int32) : Nat := nrs (fun k => dst (aMet a) (wR (clN p) (clN q) (clN r)) (rowD (aC a) k)) (aC a).length
section CLOS
variable {X : MX} {d : Nat} {x : Int64 × UInt64} {m : MI} {Q : MRes → Prop} {B : Nat} {o : OS} {a : AS}
theorem sp_clos (h : relS m 0 a) (ho : okA B a) (hQ : Q (.inl (some (vi (nI (clsV a)))), G x m)) : Cl X (d + 2) 88 [vp 1 0] (G x m) Q := by
  have hl := ho.len
  refine vc_X7_closestOfPairs ?_
  have outer : ∀ i, i ≤ (aC a).length → ∀ V o3, isCl (dCC a) (fun p q => prs (aC a).length p q ∧ p < i) V → Wp X (d + 2) 88 (5, ([some (vp 1 0), some (vi (nI V)), some (vi (nI i)), o3], ([], G x m))) Q := by
    refine lup (fun i hi ih V o3 hV => ?_)
    refine vl_X7_closestOfPairs_5 ?_
    rw [h.1.1]
    refine pk_le (aC a).length i (fun hc => ?_) (fun hc t2 e2 => ?_)
    · have e := (hV.cong (fun p q => by unfold prs; omega)).one (mnP_is (dCC a) (aC a).length)
      rw [e]
      exact hQ
    · rw [e2, nI_1]
      have inner : ∀ j, j ≤ (aC a).length → i < j → ∀ V, isCl (dCC a) (fun p q => prs (aC a).length p q ∧ (p < i ∨ (p = i ∧ q < j))) V → Wp X (d + 2) 88 (20, ([some (vp 1 0), some (vi (nI V)), some (vi (nI i)), some (vi (nI j))], ([], G x m))) Q := by
        refine lup (fun j hj ihj hij V hV => ?_)
        refine vl_X7_closestOfPairs_20 ?_
        rw [h.1.1, nI_clamp (n := i) (by omega), nI_clamp (n := j) (by omega)]
        refine pk_le (aC a).length j (fun hc2 t2 e2 => ?_) (fun hc2 => ⟨inb_n i 10 (by omega), inb_n j 10 (by omega), sp_betw5 hl.2.2 h.2.2.2.1 (ho.rpC h hc) (ho.rpC h hc2) ⟨_, _, rfl, fun t5 e5 t6 e6 => ?_⟩⟩)
        · rw [e2, nI_1]
          exact ih hc V _ (hV.cong (fun p q => by unfold prs; omega))
        · have hb : dst (aMet a) (rowD (aC a) i) (rowD (aC a) j) ≤ 29403 := ho.dCC hc hc2
          have hv := hV.1
          rw [mn_nI (by omega) (by omega)] at e5
          rw [e5, e6, nI_1]
          exact ihj hc2 (by omega) _ (hV.add i j (fun p q => by unfold prs; omega))
      exact inner (i + 1) hc (by omega) V (hV.cong (fun p q => by unfold prs; omega))
  exact outer 0 (by omega) _ none (isCl.nil (fun p q => by omega))
theorem cw_closest (h : CoR m o) (ok : okO B o) (hQ : cq m (whyCl (oA o)) (nI (clsV (oA o))) Q x) : Cl X (d + 4) 304 [vp 0 0, vp 43 0] (G x m) Q := by
  have hl := ok.1.len
  unfold cq whyCl at hQ
  refine vc_L_closestDistance (vc_X10_closestDistance ?_)
  rw [h.1.1.1]
  exact pk_le 2 (aC (oA o)).length (fun c => sp_clos h.1 ok.1 ⟨_, _, rfl, Or.inl ⟨_, _, rfl, hQ.1 (if_pos c) m FQ.rf⟩⟩) (fun c => Or.inr ⟨_, _, _, rfl, fun _ => hQ.2 1 (by omega) (if_neg (by omega)) m FQ.rf, fun c => absurd rfl c⟩)
theorem mclos (h : MoR m o) (ok : okO B o) (hQ : mq m o (whyCl (oA o)) (nI (clsV (oA o))) Q x) : Cl X (d + 2) 222 [vp 31 0] (G x m) Q := by
  have hl := ok.1.len
  unfold mq whyCl at hQ
  refine vc_X11_closest ?_
  rw [h.1.1.1]
  refine pk_le (aC (oA o)).length 1 (fun c => ?_) (fun c => ?_)
  · rw [if_neg (by omega)] at hQ
    exact mchk0 h (fun m3 h3 e5 F3 => ⟨_, _, rfl, fun c => absurd c (by decide), fun _ => hQ m3 _ e5 (fun c => by omega) h3 F3⟩)
  · rw [if_pos (by omega)] at hQ
    refine mchk1 h (fun m3 h3 e5 F3 => ⟨_, _, rfl, fun _ => ?_, fun c => absurd (by decide) c⟩)
    have e50 := h3.1.1.2.2.2.2.2.1
    have outer : ∀ i, i ≤ (aC (oA o)).length → ∀ V o3, isCl (dCC (oA o)) (prs i) V → Wp X (d + 2) 222 (29, ([some (vp 31 0), some (vi (nI V)), some (vi (nI i)), o3], ([], G x m3))) Q := by
      refine lup (fun i hi ih V o3 hV => ?_)
      refine vl_X11_closest_29 ?_
      rw [h3.1.1.1]
      refine pk_le (aC (oA o)).length i (fun hc => ?_) (fun hc => ?_)
      · obtain rfl : i = (aC (oA o)).length := by omega
        have e := hV.one (mnP_is (dCC (oA o)) (aC (oA o)).length)
        exact hQ m3 _ e5 (fun _ => by rw [e]; rfl) h3 F3
      · have inner : ∀ j, j ≤ i → ∀ V, isCl (dCC (oA o)) (fun p q => p < q ∧ (q < i ∨ (q = i ∧ p < j))) V → Wp X (d + 2) 222 (41, ([some (vp 31 0), some (vi (nI V)), some (vi (nI i)), some (vi (nI j))], ([], G x m3))) Q := by
          refine lup (fun j hj ihj V hV => ?_)
          refine vl_X11_closest_41 (pk_le i j (fun hc2 t2 e2 => ?_) (fun hc2 => ?_))
          · rw [e2, nI_1]
            exact ih hc V _ (hV.cong (fun p q => by unfold prs; omega))
          · have hv := hV.1
            have hb := ok.1.dCC (i := j) (j := i) (by omega) hc
            refine sp_crow ⟨_, _, rfl, sp_crow ⟨_, _, rfl, sp_apart (by omega) (by omega) hl.2.2 e50 (ok.1.ptC h3.1 hc) (ok.1.ptC h3.1 (k := j) (by omega)) ⟨_, _, rfl, ?_⟩⟩⟩
            rw [dst_comm]
            have hV2 := hV.add j i (T := fun p q => p < q ∧ (q < i ∨ (q = i ∧ p < j + 1))) (fun p q => by omega)
            refine pk_le V (dCC (oA o) j i) (fun c3 t10 e10 => ?_) (fun c3 => ?_)
            · rw [Nat.min_eq_left c3] at hV2
              rw [e10, nI_1]
              exact ihj hc2 V hV2
            · rw [Nat.min_eq_right (by omega)] at hV2
              refine sp_crow ⟨_, _, rfl, sp_crow ⟨_, _, rfl, sp_apart (by omega) (by omega) hl.2.2 e50 (ok.1.ptC h3.1 hc) (ok.1.ptC h3.1 (k := j) (by omega)) ⟨_, _, rfl, fun t17 e17 => ?_⟩⟩⟩
              rw [dst_comm, e17, nI_1]
              exact ihj hc2 _ hV2
        exact inner 0 (by omega) V (hV.cong (fun p q => by unfold prs; omega))
    exact outer 0 (by omega) _ none (isCl.nil (fun p q => by unfold prs; omega))
theorem mw_closest (h : MoR m o) (ok : okO B o) (hQ : mq m o (whyCl (oA o)) (nI (clsV (oA o))) Q x) : Cl X (d + 3) 223 [vp 31 0] (G x m) Q :=
  vc_X11_closestDistance (mclos h ok (fun m9 v h1 h2 h3 h4 => ⟨_, _, rfl, hQ m9 v h1 h2 h3 h4⟩))
theorem mw_closest2 (h : MoR m o) (ok : okO B o) (hQ : mq m o (whyCl (oA o)) (nI (clsV (oA o))) Q x) : Cl X (d + 3) 224 [vp 31 0] (G x m) Q :=
  vc_X11_closestDistanceBySorting (mclos h ok (fun m9 v h1 h2 h3 h4 => ⟨_, _, rfl, hQ m9 v h1 h2 h3 h4⟩))
/-- nearest to told parts -/
theorem sp_want {p q r : Int32} (hc : isP3 p q r) (hQ : ∀ m9, rparts m9 30 0 (wR (clN p) (clN q) (clN r)) → FQ m m9 → Q (.inl none, G x m9)) : Cl X d 63 [vp 0 0, vi p, vi q, vi r] (G x m) Q := by
  refine vc_X10_want (fun m1 e1 m2 e2 m3 e3 => hQ m3 (fun o h1 h3 => ?_) (fun f i k hf => ?_))
  · have a1 := inR_cl hc.1
    have a2 := inR_cl hc.2.1
    have a3 := inR_cl hc.2.2
    have ho : o = 1 ∨ o = 2 ∨ o = 3 := by omega
    rcases ho with rfl | rfl | rfl
    · refine ⟨?_, a1.2.2⟩
      rw [e3, mup_no (by omega), e2, mup_no (by omega), e1, mup_eq]; exact a1.1
    · refine ⟨?_, a2.2.2⟩
      rw [e3, mup_no (by omega), e2, mup_eq]; exact a2.1
    · refine ⟨?_, a3.2.2⟩
      rw [e3, mup_eq]; exact a3.1
  · have hf30 : ¬ f = 30 := by unfold kC inSt tH at hf; omega
    rw [e3, mup_no (by omega), e2, mup_no (by omega), e1, mup_no (by omega)]
theorem FQ.cor {m m9 : MI} (h : CoR m o) (ok : okO B o) (hF : FQ m m9) : CoR m9 o := h.on ok (fun f i k hk => hF f i k (Or.inl hk))
theorem cw_looking {p q r : Int32} (h : CoR m o) (ok : okO B o) (hQ : cq m (whyNr (oA o) p q r) (nI (rowD (aC (oA o)) (nrW (oA o) p q r) 0)) Q x) : Cl X (d + 4) 303 [vp 0 0, vi p, vi q, vi r, vp 43 0] (G x m) Q := by
  have hl := ok.1.len
  unfold cq whyNr at hQ
  refine vc_L_nearestByLooking (vc_X10_nearestByLooking (sp_isC (fun hc => ⟨_, _, rfl, fun _ => ?_, fun c => absurd (by decide) c⟩) (fun hc => ⟨_, _, rfl, fun c => absurd rfl c, fun _ => Or.inr ⟨_, _, _, rfl, fun _ => hQ.2 1 (by omega) (if_neg hc) m FQ.rf, fun c => absurd c (by decide), fun c => absurd rfl c.1⟩⟩)))
  rw [if_pos hc] at hQ
  refine sp_want hc (fun m5 hp F5 => ⟨_, rfl, ?_⟩)
  have h5 := F5.cor h ok
  refine sp_near30 hl.2.2 h5.1.2.2.2.1 hp h5.1.1 hl.1 (fun k hk => ok.1.rpC h5.1 hk) ⟨_, _, rfl, ?_⟩
  by_cases c : (aC (oA o)).length = 0
  · rw [show nrV (fun k => dst (aMet (oA o)) (wR (clN p) (clN q) (clN r)) (rowD (aC (oA o)) k)) (aC (oA o)).length = -1 from if_pos c]
    exact ⟨fun c => absurd c (by decide), fun _ => Or.inr ⟨_, _, _, rfl, fun c => absurd c (by decide), fun _ => hQ.2 2 (by omega) (if_pos c) m5 F5, fun c => absurd rfl c.2⟩⟩
  · rw [show nrV (fun k => dst (aMet (oA o)) (wR (clN p) (clN q) (clN r)) (rowD (aC (oA o)) k)) (aC (oA o)).length = nI (nrW (oA o) p q r) from if_neg c]
    have hs : nrW (oA o) p q r < (aC (oA o)).length := (nrs_spec _ _ (by omega)).1
    generalize nrW (oA o) p q r = z at *
    rw [nI_clamp (n := z) (by omega), h5.1.1.2.2 z hs 0 (by omega)]
    exact ⟨fun _ => ⟨inb_n z 10 (by omega), Or.inl ⟨_, _, rfl, hQ.1 (if_neg c) m5 F5⟩⟩, fun c => absurd (nI_pos' (by omega)) c⟩
theorem sp_far {k : Nat} {u : Row} (h : relR (m 32 0) a) (ho : okA B a) (hk : k < (aC a).length) (hu : u 1 ≤ 99 ∧ u 2 ≤ 99 ∧ u 3 ≤ 99) (hQ : Q (.inl (some (vi (nI (dst (aMet a) u (rowD (aC a) k))))), G x m)) : Cl X (d + 2) 219 [vp 31 0, vi (nI k), vi (nI (u 1)), vi (nI (u 2)), vi (nI (u 3))] (G x m) Q := by
  have hl := ho.len
  rw [dst_comm] at hQ
  obtain ⟨p1, b1⟩ := ho.ptC h hk 1 (by omega) (by omega)
  obtain ⟨p2, b2⟩ := ho.ptC h hk 2 (by omega) (by omega)
  obtain ⟨p3, b3⟩ := ho.ptC h hk 3 (by omega) (by omega)
  refine vc_X11_farFrom (sp_c (k := k) (o := 1) (by omega) (by omega) ⟨_, _, rfl, ?_⟩)
  rw [p1]
  refine sp_size (by omega) (by omega) ⟨_, _, rfl, sp_c (k := k) (o := 2) (by omega) (by omega) ⟨_, _, rfl, ?_⟩⟩
  rw [p2]
  refine sp_size (by omega) (by omega) ⟨_, _, rfl, sp_c (k := k) (o := 3) (by omega) (by omega) ⟨_, _, rfl, ?_⟩⟩
  rw [p3]
  refine sp_size (by omega) (by omega) ⟨_, _, rfl, ?_⟩
  rw [h.1.2.2.2.2.2.1]
  unfold dst at hQ
  have l1 := adf_le b1 hu.1
  have l2 := adf_le b2 hu.2.1
  have l3 := adf_le b3 hu.2.2
  generalize adf (rowD (aC a) k 1) (u 1) = e at l1 hQ ⊢
  generalize adf (rowD (aC a) k 2) (u 2) = f at l2 hQ ⊢
  generalize adf (rowD (aC a) k 3) (u 3) = g at l3 hQ ⊢
  have hm := hl.2.2
  generalize aMet a = mt at hm hQ ⊢
  rcases hm with rfl | rfl | rfl
  · refine ⟨fun c => absurd rfl c, fun _ => ?_⟩
    rw [nI_add, nI_add]
    exact hQ
  · refine ⟨fun _ => ⟨fun c => absurd rfl c, fun _ => ?_⟩, fun c => absurd (by decide) c⟩
    rw [pk_mul, pk_mul, pk_mul, nI_add, nI_add]
    exact hQ
  · refine ⟨fun _ => ⟨fun _ => ?_, fun c => absurd (by decide) c⟩, fun c => absurd (by decide) c⟩
    have eg : gap3 103 e f g = max e (max f g) := rfl
    rw [eg] at hQ
    refine pk_lt e f (fun c1 => pk_lt f g (fun c2 => ?_) (fun c2 => ?_)) (fun c1 => pk_lt e g (fun c2 => pk_lt f g (fun c3 => ?_) (fun c3 => by omega)) (fun c2 => ?_))
    · rw [show max e (max f g) = g by omega] at hQ; exact hQ
    · rw [show max e (max f g) = f by omega] at hQ; exact hQ
    · rw [show max e (max f g) = g by omega] at hQ; exact hQ
    · rw [show max e (max f g) = e by omega] at hQ; exact hQ
theorem mnearW {p q r : Int32} (h : MoR m o) (ok : okO B o) (hQ : mq m o (whyNr (oA o) p q r) (nI (rowD (aC (oA o)) (nrW (oA o) p q r) 0)) Q x) : Cl X (d + 3) 218 [vp 31 0, vi p, vi q, vi r] (G x m) Q := by
  have hl := ok.1.len
  unfold mq whyNr at hQ
  have thr : ∀ (w : Int32) m5, m5 = mup m 31 0 5 w → MoR m5 o ∧ FM m m5 ∧ m5 31 0 5 = w := fun w m5 e5 => by
    obtain ⟨h9, F9⟩ := th_on h (m9 := m5) (by rw [e5]; exact Fk.up ⟨rfl, rfl⟩)
    exact ⟨h9, F9, by rw [e5, mup_eq]⟩
  refine vc_X11_near (sp_areP (fun hc => ⟨_, _, rfl, fun _ => ?_, fun c => absurd (by decide) c⟩) (fun hc => ⟨_, _, rfl, fun c => absurd rfl c, fun _ m9 e9 => ?_⟩))
  · rw [if_pos hc] at hQ
    rw [h.1.1.1]
    refine pk_eqn (b := 0) (fun c m7 e7 => ?_) (fun c m5 e5 => ?_) (by omega) (by omega)
    · rw [if_pos c] at hQ
      obtain ⟨h7, F7, e75⟩ := thr 2 m7 e7
      rw [e75]
      exact ⟨fun c => absurd c (by decide), fun _ => hQ m7 _ e75 (fun c => by omega) h7 F7⟩
    · rw [if_neg c] at hQ
      obtain ⟨h5, F5, e55⟩ := thr 0 m5 e5
      rw [e55]
      refine ⟨fun _ => ?_, fun c => absurd (by decide) c⟩
      have a1 := inR_cl hc.1
      have a2 := inR_cl hc.2.1
      have a3 := inR_cl hc.2.2
      unfold nrW at hQ
      have hu : wR (clN p) (clN q) (clN r) 1 ≤ 99 ∧ wR (clN p) (clN q) (clN r) 2 ≤ 99 ∧ wR (clN p) (clN q) (clN r) 3 ≤ 99 := ⟨a1.2.2, a2.2.2, a3.2.2⟩
      have x1 : p = nI (wR (clN p) (clN q) (clN r) 1) := a1.1
      have x2 : q = nI (wR (clN p) (clN q) (clN r) 2) := a2.1
      have x3 : r = nI (wR (clN p) (clN q) (clN r) 3) := a3.1
      generalize wR (clN p) (clN q) (clN r) = u at *
      have hb : ∀ k, k < (aC (oA o)).length → dst (aMet (oA o)) u (rowD (aC (oA o)) k) ≤ 29403 := fun k hk => by
        have := (ok.1.c hk).1
        unfold okC at this
        exact gap3_le (adf_le (by omega) (by omega)) (adf_le (by omega) (by omega)) (adf_le (by omega) (by omega))
      generalize hg : (fun k => dst (aMet (oA o)) u (rowD (aC (oA o)) k)) = g at hQ
      have hgk : ∀ k, g k = dst (aMet (oA o)) u (rowD (aC (oA o)) k) := fun k => by rw [← hg]
      have key : ∀ k, k ≤ (aC (oA o)).length → ∀ o7, Wp X (d + 3) 218 (50, ([some (vp 31 0), some (vi (nI (u 1))), some (vi (nI (u 2))), some (vi (nI (u 3))), some (vi (nrV g k)), some (vi (if k = 0 then 1000000000 else nI (g (nrs g k)))), some (vi (nI k)), o7], ([], G x m5))) Q := by
        refine lup (fun k hk ih o7 => ?_)
        refine vl_X11_near_50 ?_
        rw [h5.1.1.1]
        refine pk_le (aC (oA o)).length k (fun hc => ?_) (fun hc => ?_)
        · obtain rfl : k = (aC (oA o)).length := by omega
          rw [show nrV g (aC (oA o)).length = nI (nrs g (aC (oA o)).length) from if_neg c]
          have hs := (nrs_spec g (aC (oA o)).length (by omega)).1
          exact sp_c (k := nrs g (aC (oA o)).length) (o := 0) (by omega) (by omega) ⟨_, _, rfl, hQ m5 _ e55 (fun _ => h5.1.2.1 _ hs 0 (by omega)) h5 F5⟩
        · refine sp_far h5.1 ok.1 hc hu ⟨_, _, rfl, ?_⟩
          rw [← hgk k]
          have hbk := hb k hc
          rw [← hgk k] at hbk
          have ih := fun o7 => ih hc o7
          by_cases h0 : k = 0
          · subst h0
            rw [if_pos rfl]
            have e := ih (some (vi (nI (g 0))))
            rw [if_neg (by omega), show nrV g (0 + 1) = nI 0 from rfl, nrs_1] at e
            refine ⟨fun _ t6 ht6 => ?_, fun hle => absurd (nI_lt (a := g 0) (b := 1000000000) (by omega) (by omega)) hle⟩
            rw [ht6, nI_1]
            exact e
          · rw [if_neg h0]
            have hn : nrV g k = nI (nrs g k) := if_neg h0
            rw [hn]
            have hlt := (nrs_spec g k (by omega)).1
            have hbn := hb (nrs g k) (by omega)
            rw [← hgk] at hbn
            have e := fun o7 => ih o7
            rw [if_neg (by omega), show nrV g (k + 1) = nI (nrs g (k + 1)) from if_neg (by omega), nrs_s g (by omega)] at e
            refine pk_lt (g k) (g (nrs g k)) (fun hlt2 t6 ht6 => ?_) (fun hle t5 ht5 => ?_)
            · rw [ht6, nI_1]
              have e := e (some (vi (nI (g k))))
              rw [if_pos hlt2] at e
              exact e
            · rw [ht5, nI_1]
              have e := e (some (vi (nI (g k))))
              rw [if_neg (by omega)] at e
              exact e
      rw [x1, x2, x3]
      exact key 0 (by omega) none
  · rw [if_neg hc] at hQ
    obtain ⟨h9, F9, e95⟩ := thr 1 m9 e9
    rw [e95]
    exact ⟨fun c => absurd c (by decide), fun _ => hQ m9 _ e95 (fun c => by omega) h9 F9⟩
theorem mw_nearest {p q r : Int32} (h : MoR m o) (ok : okO B o) (hQ : mq m o (whyNr (oA o) p q r) (nI (rowD (aC (oA o)) (nrW (oA o) p q r) 0)) Q x) : Cl X (d + 4) 220 [vp 31 0, vi p, vi q, vi r] (G x m) Q :=
  vc_X11_nearest (mnearW h ok (fun m9 v h1 h2 h3 h4 => ⟨_, _, rfl, hQ m9 v h1 h2 h3 h4⟩))
theorem mw_looking {p q r : Int32} (h : MoR m o) (ok : okO B o) (hQ : mq m o (whyNr (oA o) p q r) (nI (rowD (aC (oA o)) (nrW (oA o) p q r) 0)) Q x) : Cl X (d + 4) 221 [vp 31 0, vi p, vi q, vi r] (G x m) Q :=
  vc_X11_nearestByLooking (mnearW h ok (fun m9 v h1 h2 h3 h4 => ⟨_, _, rfl, hQ m9 v h1 h2 h3 h4⟩))
end CLOS
