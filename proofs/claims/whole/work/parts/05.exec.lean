/-- the making of object number k: family and size fit, references begin with null, ints with 0 -/
def mnew (g : MG) (kind ci n : Nat) : Option (MP × MG) :=
  let p := pj g.1.1
  let q := fam p.1
  bif Nat.blt g.1.1 apn && (Nat.beq q.1 kind && (Nat.beq q.2.1 ci && Nat.beq q.2.2 n)) then
    some (p, ((g.1.1 + 1, ((g.1.2.1.1 + 1, g.1.2.1.2 + n), rset g.1.2.2 p.1 p.2 (fun j => bif Nat.blt j n then none else RM p.1 p.2 j))), ((bif Nat.beq kind 5 then 0 else g.2.1.1, bif Nat.beq kind 6 then 0 else g.2.1.2), mzero g.2.2 p.1 p.2)))
  else none
/-- the making of n rows of m ints, and of the row that holds them -/
def mnew2 (g : MG) (n m : Nat) : Option (MP × MG) :=
  let p := pj g.1.1
  let q := fam p.1
  bif Nat.blt (g.1.1 + n) apn && (Nat.beq q.1 3 && (Nat.beq q.2.2 n && (List.range n).all (fun j =>
      let r := pj (g.1.1 + 1 + j)
      let z := fam r.1
      Nat.beq z.1 1 && (Nat.beq z.2.2 m && (match RM p.1 p.2 j with
        | some w => Nat.beq w.1 r.1 && Nat.beq w.2 r.2
        | none => false))))) then
    some (p, ((g.1.1 + 1 + n, ((g.1.2.1.1 + 1 + n, g.1.2.1.2 + n + n * m), rset g.1.2.2 p.1 p.2 (RM p.1 p.2))), (g.2.1, (List.range n).foldl (fun h j => mzero h (pj (g.1.1 + 1 + j)).1 (pj (g.1.1 + 1 + j)).2) g.2.2)))
  else none
def sl (X : MX) (pc len : Nat) (i : Instr) (o1 o2 o3 o4 : Nat) (ls : ML) (st : List MV) (g : MG) : Option MA := match i with
  | .getfield _ => match st with
    | .inr (.inl p) :: r => bif Nat.blt o1 100 && (Nat.beq (fam p.1).1 0 && (Nat.beq (fam p.1).2.1 o1 && Nat.blt o2 (fam p.1).2.2)) then
        (bif Nat.beq o3 1 then (match g.1.2.2 p.1 p.2 o2 with
          | some w => go (pc + len) ls (.inr (.inl w) :: r) g
          | none => none) else go (pc + len) ls (.inl (g.2.2 p.1 p.2 o2) :: r) g) else none
    | .inr (.inr (.inl (k, n))) :: r =>
        bif Nat.beq o1 100 && Nat.beq k 2 then go (pc + len) ls (vs 3 n :: r) g
        else bif Nat.beq o1 101 && Nat.beq k 2 then go (pc + len) ls (vi (Int32.ofNat n) :: r) g
        else bif Nat.beq o1 102 && Nat.beq k 3 then go (pc + len) ls (vs 4 n :: r) g
        else bif Nat.beq o1 103 && Nat.beq k 3 then go (pc + len) ls (vi 0 :: r) g
        else none
    | _ => none
  | .putfield _ => match st with
    | .inl x :: .inr (.inl p) :: r => bif Nat.beq (fam p.1).1 0 && (Nat.beq (fam p.1).2.1 o1 && (Nat.blt o2 (fam p.1).2.2 && Nat.blt o3 4 && !(Nat.beq o3 1))) then
        gif (okT o3 x) (pc + len) ls r (g.1, (g.2.1, mup g.2.2 p.1 p.2 o2 x)) else none
    | .inr (.inl w) :: .inr (.inl p) :: r => bif Nat.beq (fam p.1).1 0 && (Nat.beq (fam p.1).2.1 o1 && (Nat.blt o2 (fam p.1).2.2 && Nat.beq o3 5)) then
        go (pc + len) ls r ((g.1.1, (g.1.2.1, rup g.1.2.2 p.1 p.2 o2 (some w))), g.2) else none
    | _ => none
  | .getstatic _ => bif Nat.beq o1 20 then go (pc + len) ls (vi 1 :: st) g else bif Nat.beq o1 1 || (Nat.beq o1 5 || Nat.beq o1 9) then go (pc + len) ls (vs o1 0 :: st) g else none
  | .arraylength => match st with
    | .inr (.inl p) :: r => bif Nat.blt 0 (fam p.1).1 && Nat.blt (fam p.1).1 7 then go (pc + len) ls (vi (Int32.ofNat (fam p.1).2.2) :: r) g else none
    | .inr (.inr (.inl (k, n))) :: r => bif Nat.beq k 0 then go (pc + len) ls (vi (Int32.ofNat X.1) :: r) g
        else bif Nat.beq k 1 then go (pc + len) ls (vi 10 :: r) g
        else bif Nat.beq k 4 then go (pc + len) ls (vi (Int32.ofNat (formLen n)) :: r) g else none
    | _ => none
  | .iaload => match st with
    | .inl j :: .inr (.inl p) :: r => bif Nat.beq (fam p.1).1 1 then gif (inb j (fam p.1).2.2) (pc + len) ls (.inl (g.2.2 p.1 p.2 j.toNatClampNeg) :: r) g else none
    | .inl j :: .inr (.inr (.inl (k, _))) :: r => bif Nat.beq k 0 then gif (inb j X.1) (pc + len) ls (.inl (X.2 j.toNatClampNeg) :: r) g
        else bif Nat.beq k 5 then gif (inb j 10) (pc + len) ls (.inl (Int32.ofNat (swMap.getD j.toNatClampNeg 0)) :: r) g else none
    | _ => none
  | .caload => match st with
    | .inl j :: .inr (.inl p) :: r => bif Nat.beq (fam p.1).1 2 then gif (inb j (fam p.1).2.2) (pc + len) ls (.inl (g.2.2 p.1 p.2 j.toNatClampNeg) :: r) g else none
    | _ => none
  | .baload => match st with
    | .inl j :: .inr (.inr (.inl (k, n))) :: r => bif Nat.beq k 4 then gif (inb j (formLen n)) (pc + len) ls (.inl (Int32.ofNat ((formCh n).getD j.toNatClampNeg 0)) :: r) g else none
    | _ => none
  | .aaload => match st with
    | .inl j :: .inr (.inl p) :: r => bif Nat.beq (fam p.1).1 3 || Nat.beq (fam p.1).1 4 then (match g.1.2.2 p.1 p.2 j.toNatClampNeg with
        | some w => gif (inb j (fam p.1).2.2) (pc + len) ls (.inr (.inl w) :: r) g
        | none => none) else none
    | .inl j :: .inr (.inr (.inl (k, _))) :: r => bif Nat.beq k 1 then gif (inb j 10) (pc + len) ls (vs 2 j.toNatClampNeg :: r) g else none
    | _ => none
  | .iastore => match st with
    | .inl x :: .inl j :: .inr (.inl p) :: r => bif Nat.beq (fam p.1).1 1 then gif (inb j (fam p.1).2.2) (pc + len) ls r (g.1, (g.2.1, mup g.2.2 p.1 p.2 j.toNatClampNeg x)) else none
    | _ => none
  | .castore => match st with
    | .inl x :: .inl j :: .inr (.inl p) :: r => bif Nat.beq (fam p.1).1 2 then gif (okT 3 x && inb j (fam p.1).2.2) (pc + len) ls r (g.1, (g.2.1, mup g.2.2 p.1 p.2 j.toNatClampNeg x)) else none
    | _ => none
  | .aastore => match st with
    | .inr (.inl w) :: .inl j :: .inr (.inl p) :: r => bif Nat.beq (fam p.1).1 4 && (Nat.beq (fam w.1).1 0 && Nat.beq (fam w.1).2.1 1) then gif (inb j (fam p.1).2.2) (pc + len) ls r ((g.1.1, (g.1.2.1, rup g.1.2.2 p.1 p.2 j.toNatClampNeg (some w))), g.2) else none
    | _ => none
  | .laload => match st with
    | .inl j :: .inr (.inl p) :: r => bif Nat.beq (fam p.1).1 5 then gif (inb j 1) (pc + len) ls (vx (.long g.2.1.1) :: r) g else none
    | _ => none
  | .lastore => match st with
    | .inr (.inr (.inr (.long x))) :: .inl j :: .inr (.inl p) :: r => bif Nat.beq (fam p.1).1 5 then gif (inb j 1) (pc + len) ls r (g.1, ((x, g.2.1.2), g.2.2)) else none
    | _ => none
  | .daload => match st with
    | .inl j :: .inr (.inl p) :: r => bif Nat.beq (fam p.1).1 6 then gif (inb j 1) (pc + len) ls (vx (.double g.2.1.2) :: r) g else none
    | _ => none
  | .dastore => match st with
    | .inr (.inr (.inr (.double x))) :: .inl j :: .inr (.inl p) :: r => bif Nat.beq (fam p.1).1 6 then gif (inb j 1) (pc + len) ls r (g.1, ((g.2.1.1, x), g.2.2)) else none
    | _ => none
  | .new _ => bif Nat.beq o1 0 then (match mnew g 0 o2 (fam (pj g.1.1).1).2.2 with
        | some (p, g') => go (pc + len) ls (.inr (.inl p) :: st) g'
        | none => none)
      else bif Nat.beq o1 1 && Nat.ble (mcats st) 8 then some (.inr (.inr (.inr (.inr (o2, ga g (1, 6)))))) else none
  | .newarray t => match st with
    | .inl j :: r => (match mnew g (match t with
          | .int => 1
          | .char => 2
          | .long => 5
          | .double => 6
          | _ => 77) 0 (fam (pj g.1.1).1).2.2 with
        | some (p, g') => gif (decide (j = Int32.ofNat (fam (pj g.1.1).1).2.2)) (pc + len) ls (.inr (.inl p) :: r) g'
        | none => none)
    | _ => none
  | .anewarray _ => match st with
    | .inl j :: r => (match mnew g 4 0 (fam (pj g.1.1).1).2.2 with
        | some (p, g') => gif (decide (j = Int32.ofNat (fam (pj g.1.1).1).2.2)) (pc + len) ls (.inr (.inl p) :: r) g'
        | none => none)
    | _ => none
  | .multianewarray _ _ => match st with
    | .inl jm :: .inl jn :: r => (match mnew2 g (fam (pj g.1.1).1).2.2 (fam (pj (g.1.1 + 1)).1).2.2 with
        | some (p, g') => gif (decide (jn = Int32.ofNat (fam (pj g.1.1).1).2.2) && decide (jm = Int32.ofNat (fam (pj (g.1.1 + 1)).1).2.2)) (pc + len) ls (.inr (.inl p) :: r) g'
        | none => none)
    | _ => none
  | i => sp pc len i o1 o2 o3 o4 ls st g
/-- is the receiver one that the method's class has -/
def rcv (mi : Nat) (v : MV) : Bool := match v with
  | .inr (.inl p) => Nat.beq (fam p.1).1 0 && Nat.beq (fam p.1).2.1 (mcls mi)
  | .inr (.inr (.inl (k, _))) => Nat.beq k 2 && Nat.beq (mcls mi) 15 || Nat.beq k 3 && Nat.beq (mcls mi) 12
  | _ => false
def call (mi : Nat) (as : List MV) (pc : Nat) (ls : ML) (r : List MV) (g : MG) : Option MA := bif Nat.ble (mcats r) 8 then some (.inr (.inr (.inl (mi, (as, (pc, (ls, (r, g)))))))) else none
def inv (pc len o1 o2 o3 : Nat) (ls : ML) (st : List MV) (g : MG) : Option MA :=
  bif Nat.beq o3 1 || Nat.beq o3 8 then (bif Nat.ble o2 st.length then call o1 (st.take o2).reverse (pc + len) ls (st.drop o2) g else none)
  else bif Nat.beq o3 3 then (match st with
    | .inr (.inl _) :: r => bif Nat.ble (mcats r) 8 then go (pc + len) ls r g else none
    | _ => none)
  else bif Nat.beq o3 5 then (match st with
    | .inl y :: .inl x :: r => bif Nat.ble (mcats r) 8 then go (pc + len) ls (vi (if x < y then y else x) :: r) g else none
    | _ => none)
  else bif Nat.beq o3 6 then (match st with
    | .inl y :: .inl x :: r => bif Nat.ble (mcats r) 8 then go (pc + len) ls (vi (if x < y then x else y) :: r) g else none
    | _ => none)
  else bif Nat.beq o3 7 then (match st with
    | .inl x :: r => bif Nat.ble (mcats r) 8 then go (pc + len) ls (vi (if x < 0 then -x else x) :: r) g else none
    | _ => none)
  else bif Nat.beq o3 0 || (Nat.beq o3 2 || Nat.beq o3 4) then (match st[o2]? with
    | some v => bif rcv o1 v then call o1 (v :: (st.take o2).reverse) (pc + len) ls (st.drop (o2 + 1)) g else none
    | none => none)
  else none
def stepI (X : MX) (mi pc : Nat) (i : Instr) (len o1 o2 o3 o4 : Nat) (ls : ML) (st : List MV) (g : MG) : Option MA := match i with
  | .invokevirtual _ => inv pc len o1 o2 o3 ls st g
  | .invokestatic _ => inv pc len o1 o2 o3 ls st g
  | .invokespecial _ => inv pc len o1 o2 o3 ls st g
  | .ireturn => match st with
    | [.inl x] => bif Nat.beq (rtag (mret mi)) 9 then none else bif okT (rtag (mret mi)) x then some (.inr (.inr (.inr (.inl (some (.inl x), g))))) else none
    | _ => none
  | .return_ => match st with
    | [] => (mret mi).elim (some (.inr (.inr (.inr (.inl (none, g)))))) (fun _ => none)
    | _ => none
  | .dreturn => match st, mret mi with
    | [.inr (.inr (.inr (.double x)))], some .double => some (.inr (.inr (.inr (.inl (some (vx (.double x)), g)))))
    | _, _ => none
  | .freturn => match st, mret mi with
    | [.inr (.inr (.inr (.float x)))], some .float => some (.inr (.inr (.inr (.inl (some (vx (.float x)), g)))))
    | _, _ => none
  | i => sl X pc len i o1 o2 o3 o4 ls st g
def step (X : MX) (mi : Nat) (S : MS) : Option MA := match tb mi S.1 with
  | some (i, (len, (o1, (o2, (o3, o4))))) => stepI X mi S.1 i len o1 o2 o3 o4 S.2.1 S.2.2.1 S.2.2.2
  | none => none
/-- the handler that takes an exception of kind kd thrown at pc: its pc, the local that it stores to -/
def hfind (l : List (Nat × (Nat × (Nat × (Nat × Nat))))) (pc kd : Nat) : Option (Nat × Nat) := match l with
  | [] => none
  | (a, (b, (h, (s, k)))) :: r => bif Nat.ble a pc && (Nat.blt pc b && Nat.beq k kd) then some (h, s) else hfind r pc kd
def alen (mi h : Nat) : Nat := match tb mi h with
  | some e => e.2.1
  | none => 0
/-- a value's locals: one place, or two -/
def entL : List MV → ML
  | [] => []
  | v :: r => bif Nat.beq (mcat v) 2 then some v :: none :: entL r else some v :: entL r
def entry (mi : Nat) (as : List MV) (g : MG) : MS := (0, (entL as ++ List.replicate (mnl mi - (entL as).length) none, ([], g0 g)))
/-- arguments that fit: each of one place -/
def entOk (as : List MV) (mi : Nat) : Bool := Nat.ble (entL as).length (mnl mi) && as.all (fun v => Nat.beq (mcat v) 1)
def exec (X : MX) : Nat → Nat → Nat → MS → Option MRes
  | 0, _, _, _ => none
  | n + 1, d, mi, S => match step X mi S with
    | none => none
    | some (.inl S') => exec X n d mi S'
    | some (.inr (.inl (b, S'))) => bif b then exec X n d mi S' else none
    | some (.inr (.inr (.inl (mi', (as, S'))))) => match d with
      | 0 => none
      | d' + 1 => bif entOk as mi' then (match exec X n d' mi' (entry mi' as S'.2.2.2) with
        | none => none
        | some (.inl v, g') => exec X n d mi (S'.1, (S'.2.1, (v.toList ++ S'.2.2.1, ga g' S'.2.2.2.1.2.1)))
        | some (.inr kd, g') => match hfind (mhd mi) S.1 kd with
          | none => some (.inr kd, ga g' S'.2.2.2.1.2.1)
          | some (h, s) => match mstore S'.2.1 s (vi 0) with
            | none => none
            | some l => exec X n d mi (h + alen mi h, (l.set s none, ([], ga g' S'.2.2.2.1.2.1)))) else none
    | some (.inr (.inr (.inr (.inl (v, g))))) => some (.inl v, g)
    | some (.inr (.inr (.inr (.inr (kd, g))))) => bif (mhd mi).isEmpty then some (.inr kd, g) else none
def runN (X : MX) (mi : Nat) : Nat → MS → Bool → Option (Bool × MS)
  | 0, S, b => some (b, S)
  | n + 1, S, b => match step X mi S with
    | some (.inl S') => runN X mi n S' b
    | some (.inr (.inl (c, S'))) => runN X mi n S' (c && b)
    | _ => none
def Wp (X : MX) (d mi : Nat) (S : MS) (Q : MRes → Prop) : Prop := ∃ (n : Nat) (r : MRes), exec X n d mi S = some r ∧ Q r
