/-! ===== THE MODEL: COPIES, HISTORY, CHANGES ===== -/
def Fk (T : Nat → Nat → Nat → Prop) (m m9 : MI) : Prop := ∀ f i k, ¬ T f i k → m9 f i k = m f i k
theorem Fk.rf {T : Nat → Nat → Nat → Prop} {m : MI} : Fk T m m := fun _ _ _ _ => rfl
theorem Fk.tr {T : Nat → Nat → Nat → Prop} {a b c : MI} (h : Fk T a b) (k : Fk T b c) : Fk T a c := fun f i j hn => (k f i j hn).trans (h f i j hn)
theorem Fk.mono {T U : Nat → Nat → Nat → Prop} {a b : MI} (h : Fk T a b) (hs : ∀ f i k, T f i k → U f i k) : Fk U a b := fun f i j hn => h f i j (fun t => hn (hs f i j t))
theorem Fk.up {T : Nat → Nat → Nat → Prop} {f i k : Nat} {v : Int32} {m : MI} (h : T f i k) : Fk T m (mup m f i k v) := fun f9 i9 k9 hn => mup_no (fun z => hn (by rw [z.1, z.2.1, z.2.2]; exact h))
theorem Fk.ups {T : Nat → Nat → Nat → Prop} {f i k : Nat} {v : Int32} {m m2 : MI} (h : Fk T m m2) (ht : T f i k) : Fk T m (mup m2 f i k v) := h.tr (Fk.up ht)
def t32 (f _i _k : Nat) : Prop := f = 32
def tBg (f _i k : Nat) : Prop := f = 33 ∨ (f = 31 ∧ k = 5)
def tCm (f _i k : Nat) : Prop := f = 35 ∨ (f = 31 ∧ k = 6)
def tTh (f _i k : Nat) : Prop := f = 31 ∧ k = 5
def cpM (m : MI) (A B p q n : Nat) : MI := fun f i k => if f = B ∧ i = 0 ∧ q ≤ k ∧ k < q + n then m A 0 (p + (k - q)) else m f i k
theorem cpM_0 (m : MI) (A B p q : Nat) : cpM m A B p q 0 = m := by
  funext f i k
  unfold cpM
  rw [if_neg (by omega)]
theorem cpM_s (m : MI) (A B p q n : Nat) (h : A ≠ B ∨ q + 136 ≤ p) (hn : n < 136) : mup (cpM m A B p q n) B 0 (q + n) (cpM m A B p q n A 0 (p + n)) = cpM m A B p q (n + 1) := by
  funext f i k
  rw [mup_if]
  have e : cpM m A B p q n A 0 (p + n) = m A 0 (p + n) := by
    unfold cpM
    rw [if_neg (by omega)]
  rw [e]
  unfold cpM
  by_cases h1 : f = B ∧ i = 0 ∧ k = q + n
  · rw [if_pos h1, if_pos (by omega)]
    rw [show p + (k - q) = p + n by omega]
  · rw [if_neg h1]
    by_cases h2 : f = B ∧ i = 0 ∧ q ≤ k ∧ k < q + n
    · rw [if_pos h2, if_pos (by omega)]
    · rw [if_neg h2, if_neg (by omega)]
theorem cpM_in {m : MI} {A B p q k : Nat} (hk : k < 136) : cpM m A B p q 136 B 0 (q + k) = m A 0 (p + k) := by
  unfold cpM
  rw [if_pos (by omega), Nat.add_sub_cancel_left]
theorem cpM_no {m : MI} {A B p q f i k : Nat} (h : ¬ (f = B ∧ q ≤ k ∧ k < q + 136)) : cpM m A B p q 136 f i k = m f i k := by
  unfold cpM
  rw [if_neg (by omega)]
section MCPY
variable {X : MX} {d : Nat} {x : Int64 × UInt64} {m : MI} {Q : MRes → Prop}
theorem sp_cp_32_33 {p q : Nat} (hp : p + 136 ≤ 136) (hq : q + 136 ≤ 136) (hQ : Q (.inl none, G x (cpM m 32 33 p q 136))) : Cl X d 148 [vp 32 0, vi (nI p), vp 33 0, vi (nI q)] (G x m) Q := by
  refine vc_X11_copy_32_33 ?_
  have key : ∀ k, k ≤ 136 → Wp X d 148 (3, ([some (vp 32 0), some (vi (nI p)), some (vp 33 0), some (vi (nI q)), some (vi (nI k))], ([], G x (cpM m 32 33 p q k)))) Q := by
    refine lup (fun k hk ih => ?_)
    refine vl_X11_copy_32_33_3 ?_
    rw [nI_add, nI_add, nI_clamp (n := p + k) (by omega), nI_clamp (n := q + k) (by omega)]
    refine pk_le 136 k (fun hc => ?_) (fun hc => ?_)
    · obtain rfl : k = 136 := by omega
      exact hQ
    · refine ⟨inb_n (p + k) 136 (by omega), inb_n (q + k) 136 (by omega), fun m2 e2 t3 e3 => ?_⟩
      rw [e3, nI_1, e2, cpM_s m 32 33 p q k (by omega) hc]
      exact ih hc
  have e := key 0 (by omega)
  rw [cpM_0] at e
  exact e
theorem sp_cp_32_34 {p q : Nat} (hp : p + 136 ≤ 136) (hq : q + 136 ≤ 136) (hQ : Q (.inl none, G x (cpM m 32 34 p q 136))) : Cl X d 148 [vp 32 0, vi (nI p), vp 34 0, vi (nI q)] (G x m) Q := by
  refine vc_X11_copy_32_34 ?_
  have key : ∀ k, k ≤ 136 → Wp X d 148 (3, ([some (vp 32 0), some (vi (nI p)), some (vp 34 0), some (vi (nI q)), some (vi (nI k))], ([], G x (cpM m 32 34 p q k)))) Q := by
    refine lup (fun k hk ih => ?_)
    refine vl_X11_copy_32_34_3 ?_
    rw [nI_add, nI_add, nI_clamp (n := p + k) (by omega), nI_clamp (n := q + k) (by omega)]
    refine pk_le 136 k (fun hc => ?_) (fun hc => ?_)
    · obtain rfl : k = 136 := by omega
      exact hQ
    · refine ⟨inb_n (p + k) 136 (by omega), inb_n (q + k) 136 (by omega), fun m2 e2 t3 e3 => ?_⟩
      rw [e3, nI_1, e2, cpM_s m 32 34 p q k (by omega) hc]
      exact ih hc
  have e := key 0 (by omega)
  rw [cpM_0] at e
  exact e
theorem sp_cp_33_32 {p q : Nat} (hp : p + 136 ≤ 136) (hq : q + 136 ≤ 136) (hQ : Q (.inl none, G x (cpM m 33 32 p q 136))) : Cl X d 148 [vp 33 0, vi (nI p), vp 32 0, vi (nI q)] (G x m) Q := by
  refine vc_X11_copy_33_32 ?_
  have key : ∀ k, k ≤ 136 → Wp X d 148 (3, ([some (vp 33 0), some (vi (nI p)), some (vp 32 0), some (vi (nI q)), some (vi (nI k))], ([], G x (cpM m 33 32 p q k)))) Q := by
    refine lup (fun k hk ih => ?_)
    refine vl_X11_copy_33_32_3 ?_
    rw [nI_add, nI_add, nI_clamp (n := p + k) (by omega), nI_clamp (n := q + k) (by omega)]
    refine pk_le 136 k (fun hc => ?_) (fun hc => ?_)
    · obtain rfl : k = 136 := by omega
      exact hQ
    · refine ⟨inb_n (p + k) 136 (by omega), inb_n (q + k) 136 (by omega), fun m2 e2 t3 e3 => ?_⟩
      rw [e3, nI_1, e2, cpM_s m 33 32 p q k (by omega) hc]
      exact ih hc
  have e := key 0 (by omega)
  rw [cpM_0] at e
  exact e
theorem sp_cp_33_35 {p q : Nat} (hp : p + 136 ≤ 136) (hq : q + 136 ≤ 1088) (hQ : Q (.inl none, G x (cpM m 33 35 p q 136))) : Cl X d 148 [vp 33 0, vi (nI p), vp 35 0, vi (nI q)] (G x m) Q := by
  refine vc_X11_copy_33_35 ?_
  have key : ∀ k, k ≤ 136 → Wp X d 148 (3, ([some (vp 33 0), some (vi (nI p)), some (vp 35 0), some (vi (nI q)), some (vi (nI k))], ([], G x (cpM m 33 35 p q k)))) Q := by
    refine lup (fun k hk ih => ?_)
    refine vl_X11_copy_33_35_3 ?_
    rw [nI_add, nI_add, nI_clamp (n := p + k) (by omega), nI_clamp (n := q + k) (by omega)]
    refine pk_le 136 k (fun hc => ?_) (fun hc => ?_)
    · obtain rfl : k = 136 := by omega
      exact hQ
    · refine ⟨inb_n (p + k) 136 (by omega), inb_n (q + k) 1088 (by omega), fun m2 e2 t3 e3 => ?_⟩
      rw [e3, nI_1, e2, cpM_s m 33 35 p q k (by omega) hc]
      exact ih hc
  have e := key 0 (by omega)
  rw [cpM_0] at e
  exact e
theorem sp_cp_34_32 {p q : Nat} (hp : p + 136 ≤ 136) (hq : q + 136 ≤ 136) (hQ : Q (.inl none, G x (cpM m 34 32 p q 136))) : Cl X d 148 [vp 34 0, vi (nI p), vp 32 0, vi (nI q)] (G x m) Q := by
  refine vc_X11_copy_34_32 ?_
  have key : ∀ k, k ≤ 136 → Wp X d 148 (3, ([some (vp 34 0), some (vi (nI p)), some (vp 32 0), some (vi (nI q)), some (vi (nI k))], ([], G x (cpM m 34 32 p q k)))) Q := by
    refine lup (fun k hk ih => ?_)
    refine vl_X11_copy_34_32_3 ?_
    rw [nI_add, nI_add, nI_clamp (n := p + k) (by omega), nI_clamp (n := q + k) (by omega)]
    refine pk_le 136 k (fun hc => ?_) (fun hc => ?_)
    · obtain rfl : k = 136 := by omega
      exact hQ
    · refine ⟨inb_n (p + k) 136 (by omega), inb_n (q + k) 136 (by omega), fun m2 e2 t3 e3 => ?_⟩
      rw [e3, nI_1, e2, cpM_s m 34 32 p q k (by omega) hc]
      exact ih hc
  have e := key 0 (by omega)
  rw [cpM_0] at e
  exact e
theorem sp_cp_35_32 {p q : Nat} (hp : p + 136 ≤ 1088) (hq : q + 136 ≤ 136) (hQ : Q (.inl none, G x (cpM m 35 32 p q 136))) : Cl X d 148 [vp 35 0, vi (nI p), vp 32 0, vi (nI q)] (G x m) Q := by
  refine vc_X11_copy_35_32 ?_
  have key : ∀ k, k ≤ 136 → Wp X d 148 (3, ([some (vp 35 0), some (vi (nI p)), some (vp 32 0), some (vi (nI q)), some (vi (nI k))], ([], G x (cpM m 35 32 p q k)))) Q := by
    refine lup (fun k hk ih => ?_)
    refine vl_X11_copy_35_32_3 ?_
    rw [nI_add, nI_add, nI_clamp (n := p + k) (by omega), nI_clamp (n := q + k) (by omega)]
    refine pk_le 136 k (fun hc => ?_) (fun hc => ?_)
    · obtain rfl : k = 136 := by omega
      exact hQ
    · refine ⟨inb_n (p + k) 1088 (by omega), inb_n (q + k) 136 (by omega), fun m2 e2 t3 e3 => ?_⟩
      rw [e3, nI_1, e2, cpM_s m 35 32 p q k (by omega) hc]
      exact ih hc
  have e := key 0 (by omega)
  rw [cpM_0] at e
  exact e
theorem sp_cp_35_35 {p q : Nat} (hp : p + 136 ≤ 1088) (hq : q + 136 ≤ 1088) (hd : q + 136 ≤ p) (hQ : Q (.inl none, G x (cpM m 35 35 p q 136))) : Cl X d 148 [vp 35 0, vi (nI p), vp 35 0, vi (nI q)] (G x m) Q := by
  refine vc_X11_copy_35_35 ?_
  have key : ∀ k, k ≤ 136 → Wp X d 148 (3, ([some (vp 35 0), some (vi (nI p)), some (vp 35 0), some (vi (nI q)), some (vi (nI k))], ([], G x (cpM m 35 35 p q k)))) Q := by
    refine lup (fun k hk ih => ?_)
    refine vl_X11_copy_35_35_3 ?_
    rw [nI_add, nI_add, nI_clamp (n := p + k) (by omega), nI_clamp (n := q + k) (by omega)]
    refine pk_le 136 k (fun hc => ?_) (fun hc => ?_)
    · obtain rfl : k = 136 := by omega
      exact hQ
    · refine ⟨inb_n (p + k) 1088 (by omega), inb_n (q + k) 1088 (by omega), fun m2 e2 t3 e3 => ?_⟩
      rw [e3, nI_1, e2, cpM_s m 35 35 p q k (by omega) hc]
      exact ih hc
  have e := key 0 (by omega)
  rw [cpM_0] at e
  exact e
end MCPY
