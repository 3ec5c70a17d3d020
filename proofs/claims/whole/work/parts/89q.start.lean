/-! ===== THE OFFICE AND THE MODEL ARE MADE ===== -/
def X0 : MX := (0, fun _ => 0)
def okR (p w : MP) (k : Nat) : Bool := match RM p.1 p.2 k with
  | some q => Nat.beq q.1 w.1 && Nat.beq q.2 w.2
  | none => false
def okI (i : Instr) (o2 : Nat) (st : List MV) : Bool := match i with
  | .putfield _ => (match st with
    | .inr (.inl w) :: .inr (.inl p) :: _ => okR p w o2
    | _ => true)
  | .aastore => (match st with
    | .inr (.inl w) :: .inl j :: .inr (.inl p) :: _ => okR p w j.toNatClampNeg
    | _ => true)
  | .arraylength => (match st with
    | .inr (.inl _) :: _ => true
    | _ => false)
  | .iaload => (match st with
    | .inl _ :: .inr (.inl _) :: _ => true
    | _ => false)
  | _ => true
def okZ (mi : Nat) (S : MS) : Bool := match tb mi S.1 with
  | some (i, (_, (_, (o2, _)))) => okI i o2 S.2.2.1
  | none => true
def exZ : Nat → Nat → Nat → MS → Option MRes
  | 0, _, _, _ => none
  | n + 1, d, mi, S => bif okZ mi S then (match step X0 mi S with
    | none => none
    | some (.inl S') => exZ n d mi S'
    | some (.inr (.inl (b, S'))) => bif b then exZ n d mi S' else none
    | some (.inr (.inr (.inl (mi', (as, S'))))) => match d with
      | 0 => none
      | d' + 1 => bif entOk as mi' then (match exZ n d' mi' (entry mi' as S'.2.2.2) with
        | some (.inl v, g') => exZ n d mi (S'.1, (S'.2.1, (v.toList ++ S'.2.2.1, ga g' S'.2.2.2.1.2.1)))
        | _ => none) else none
    | some (.inr (.inr (.inr (.inl (v, g))))) => some (.inl v, g)
    | some (.inr (.inr (.inr (.inr _)))) => none) else none
def preZ : Nat → MS → Option MS
  | 0, _ => none
  | n + 1, S => bif Nat.beq S.1 28 then some S else bif okZ lawI S then (match step X0 lawI S with
    | some (.inl S') => preZ n S'
    | some (.inr (.inl (b, S'))) => bif b then preZ n S' else none
    | some (.inr (.inr (.inl (mi', (as, S'))))) => bif entOk as mi' then (match exZ 100000 15 mi' (entry mi' as S'.2.2.2) with
        | some (.inl v, g') => preZ n (S'.1, (S'.2.1, (v.toList ++ S'.2.2.1, ga g' S'.2.2.2.1.2.1)))
        | _ => none) else none
    | _ => none) else none
def g_st2 : MG := ((0, ((0, 0), RM)), ((0, 0), fun _ _ _ => 0))
def S_st : MS := entry lawI [vs 0 0] g_st2
