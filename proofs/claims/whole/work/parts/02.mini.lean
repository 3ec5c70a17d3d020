/-! ===== THE SMALL MACHINE: values, state, one step, runs ===== -/
/-- a place: family of objects, number in it -/
abbrev MP : Type := Nat × Nat
/-- a value: an int; an object of the run; a thing that was there before (kind, number); any other value of the machine -/
abbrev MV : Type := Int32 ⊕ (MP ⊕ (MP ⊕ Value))
abbrev ML : Type := List (Option MV)
abbrev MR : Type := Nat → Nat → Nat → Option MP
abbrev MI : Type := Nat → Nat → Nat → Int32
/-- objects made, cells and slots used, references held -/
abbrev MC : Type := Nat × ((Nat × Nat) × MR)
/-- .. and the long and the double of the law's own rows, and the ints held -/
abbrev MG : Type := MC × ((Int64 × UInt64) × MI)
/-- pc, locals, stack, world -/
abbrev MS : Type := Nat × (ML × (List MV × MG))
/-- go on | go on if | call (method, arguments, the state behind it) | return | throw -/
abbrev MA : Type := MS ⊕ ((Bool × MS) ⊕ ((Nat × (List MV × MS)) ⊕ ((Option MV × MG) ⊕ (Nat × MG))))
abbrev MRes : Type := (Option MV ⊕ Nat) × MG
/-- an entry of a method's table: instruction, length, four numbers -/
abbrev ME : Type := Instr × (Nat × (Nat × (Nat × (Nat × Nat))))
abbrev vi (x : Int32) : MV := .inl x
abbrev vp (f i : Nat) : MV := .inr (.inl (f, i))
abbrev vs (k i : Nat) : MV := .inr (.inr (.inl (k, i)))
abbrev vx (v : Value) : MV := .inr (.inr (.inr v))
def mup (m : MI) (f i k : Nat) (v : Int32) : MI := fun f' i' k' => bif (Nat.beq f' f && (Nat.beq i' i && Nat.beq k' k)) then v else m f' i' k'
def mzero (m : MI) (f i : Nat) : MI := fun f' i' k' => bif (Nat.beq f' f && Nat.beq i' i) then 0 else m f' i' k'
def rup (m : MR) (f i k : Nat) (v : Option MP) : MR := fun f' i' k' => bif (Nat.beq f' f && (Nat.beq i' i && Nat.beq k' k)) then v else m f' i' k'
def rset (m : MR) (f i : Nat) (v : Nat → Option MP) : MR := fun f' i' k' => bif (Nat.beq f' f && Nat.beq i' i) then v k' else m f' i' k'
def inb (i : Int32) (n : Nat) : Bool := decide (¬ (i < 0 ∨ n ≤ i.toNatClampNeg))
def mcat : MV → Nat
  | .inr (.inr (.inr v)) => v.category
  | _ => 1
def mcats : List MV → Nat
  | [] => 0
  | v :: r => mcat v + mcats r
def isv : MV → Bool
  | .inl _ => true
  | _ => false
def isp : MV → Bool
  | .inr (.inl _) => true
  | _ => false
def isr : MV → Bool
  | .inr (.inl _) => true
  | .inr (.inr (.inl p)) => Nat.blt p.1 9
  | _ => false
def ga (g : MG) (u : Nat × Nat) : MG := ((g.1.1, ((u.1 + g.1.2.1.1, u.2 + g.1.2.1.2), g.1.2.2)), g.2)
def g0 (g : MG) : MG := ((g.1.1, ((0, 0), g.1.2.2)), g.2)
def cmpB (c : Jvm.ClassFile.Cond) (x y : Int32) : Bool := match c with
  | .eq => decide (x = y)
  | .ne => decide (¬ x = y)
  | .lt => decide (x < y)
  | .ge => decide (y ≤ x)
  | .gt => decide (y < x)
  | .le => decide (x ≤ y)
