/-! ===== ONE STEP, AND RUNS ===== -/
/-- the script: its length, its ints -/
abbrev MX : Type := Nat × (Nat → Int32)
def go (pc : Nat) (ls : ML) (st : List MV) (g : MG) : Option MA := some (.inl (pc, (ls, (st, g))))
def gif (b : Bool) (pc : Nat) (ls : ML) (st : List MV) (g : MG) : Option MA := some (.inr (.inl (b, (pc, (ls, (st, g))))))
def mload (ls : ML) (i : Nat) : Option MV := match ls[i]? with
  | some (some v) => some v
  | _ => none
/-- a store: slot i, and slot i + 1 for a value of two, which stand at the end -/
def mstore (ls : ML) (i : Nat) (v : MV) : Option ML :=
  bif Nat.beq (mcat v) 2 then (bif Nat.beq (i + 2) ls.length then some ((ls.set i (some v)).set (i + 1) none) else none)
  else bif Nat.blt (i + 1) ls.length then some (ls.set i (some v))
  else bif Nat.beq (i + 1) ls.length then (match i with
    | 0 => some (ls.set i (some v))
    | j + 1 => match ls[j]? with
      | some (some w) => bif Nat.beq (mcat w) 2 then none else some (ls.set i (some v))
      | _ => some (ls.set i (some v)))
  else none
def swt (pc : Nat) (d lo hi : Int) (os : Array Int) (x : Int32) : Nat :=
  if x.toInt < lo ∨ hi < x.toInt then ((pc : Int) + d).toNat else ((pc : Int) + os.getD (x.toInt - lo).toNat 0).toNat
def alu (i : Instr) (x y : Int32) : Option (Bool × Int32) := match i with
  | .iadd => some (true, x + y)
  | .isub => some (true, x - y)
  | .imul => some (true, x * y)
  | .idiv => some (decide (¬ y = 0), x / y)
  | .irem => some (decide (¬ y = 0), x - x / y * y)
  | .iand => some (true, x &&& y)
  | .ior => some (true, x ||| y)
  | .ixor => some (true, x ^^^ y)
  | .ishl => some (true, x <<< (y &&& 31))
  | .ishr => some (true, x >>> (y &&& 31))
  | .iushr => some (true, (x.toUInt32 >>> (y.toUInt32 &&& Int32.toUInt32 31)).toInt32)
  | _ => none
/-- lengths and signs of the ten forms -/
def formLen (i : Nat) : Nat := [12, 16, 6, 9, 8, 10, 6, 7, 3, 5].getD i 0
def formCh (i : Nat) : List Nat := [[102, 105, 110, 100, 32, 35, 47, 35, 47, 35, 32, 35], [114, 101, 112, 111, 114, 116, 32, 35, 47, 35, 47, 35, 32, 35, 32, 35], [100, 114, 111, 112, 32, 35], [100, 105, 115, 99, 97, 114, 100, 32, 35], [109, 101, 116, 114, 105, 99, 32, 64], [114, 101, 116, 117, 114, 110, 32, 35, 32, 35], [115, 101, 116, 116, 108, 101], [109, 105, 120, 32, 35, 32, 35], [100, 97, 121], [100, 97, 121, 32, 35]].getD i []
def swMap : List Nat := [1, 2, 3, 4, 5, 6, 7, 8, 9, 10]
/-- what a field of a small type may hold -/
def okT (t : Nat) (x : Int32) : Bool := bif Nat.beq t 2 then decide (x = 0 ∨ x = 1) else bif Nat.beq t 3 then decide (0 ≤ x ∧ x ≤ 65535) else bif Nat.beq t 4 then decide (-128 ≤ x ∧ x ≤ 127) else true
def rtag (t : Option FieldType) : Nat := match t with
  | some .boolean => 2
  | some .char => 3
  | some .byte => 4
  | some .int => 0
  | _ => 9
def sp (pc len : Nat) (i : Instr) (o1 o2 o3 o4 : Nat) (ls : ML) (st : List MV) (g : MG) : Option MA := match i with
  | .aload_n k => (mload ls k).elim none (fun v => bif isr v then go (pc + len) ls (v :: st) g else none)
  | .aload k => (mload ls k).elim none (fun v => bif isr v then go (pc + len) ls (v :: st) g else none)
  | .iload_n k => (mload ls k).elim none (fun v => bif isv v then go (pc + len) ls (v :: st) g else none)
  | .iload k => (mload ls k).elim none (fun v => bif isv v then go (pc + len) ls (v :: st) g else none)
  | .fload k => (mload ls k).elim none (fun v => match v with
    | .inr (.inr (.inr (.float x))) => go (pc + len) ls (vx (.float x) :: st) g
    | _ => none)
  | .dload k => (mload ls k).elim none (fun v => match v with
    | .inr (.inr (.inr (.double x))) => go (pc + len) ls (vx (.double x) :: st) g
    | _ => none)
  | .istore_n k => match st with
    | .inl x :: r => (mstore ls k (.inl x)).elim none (fun l => go (pc + len) l r g)
    | _ => none
  | .istore k => match st with
    | .inl x :: r => (mstore ls k (.inl x)).elim none (fun l => go (pc + len) l r g)
    | _ => none
  | .astore_n k => match st with
    | .inr (.inl p) :: r => (mstore ls k (.inr (.inl p))).elim none (fun l => go (pc + len) l r g)
    | .inr (.inr (.inl p)) :: r => bif Nat.blt p.1 9 then (mstore ls k (.inr (.inr (.inl p)))).elim none (fun l => go (pc + len) l r g) else none
    | _ => none
  | .astore k => match st with
    | .inr (.inl p) :: r => (mstore ls k (.inr (.inl p))).elim none (fun l => go (pc + len) l r g)
    | .inr (.inr (.inl p)) :: r => bif Nat.blt p.1 9 then (mstore ls k (.inr (.inr (.inl p)))).elim none (fun l => go (pc + len) l r g) else none
    | _ => none
  | .fstore k => match st with
    | .inr (.inr (.inr (.float x))) :: r => (mstore ls k (vx (.float x))).elim none (fun l => go (pc + len) l r g)
    | _ => none
  | .dstore k => match st with
    | .inr (.inr (.inr (.double x))) :: r => (mstore ls k (vx (.double x))).elim none (fun l => go (pc + len) l r g)
    | _ => none
  | .iinc k n => match mload ls k with
    | some (.inl x) => (mstore ls k (.inl (x + Int32.ofInt n))).elim none (fun l => go (pc + len) l st g)
    | _ => none
  | .iconst n => go (pc + len) ls (vi (Int32.ofInt n) :: st) g
  | .bipush n => go (pc + len) ls (vi (Int8.ofInt n).toInt32 :: st) g
  | .sipush n => go (pc + len) ls (vi (Int16.ofInt n).toInt32 :: st) g
  | .ldc _ => bif Nat.beq o3 0 then go (pc + len) ls (vi (Int32.ofNat o1) :: st) g else none
  | .ldc_w _ => bif Nat.beq o3 0 then go (pc + len) ls (vi (Int32.ofNat o1) :: st) g else none
  | .lconst n => go (pc + len) ls (vx (.long (Int64.ofNat (n : Nat))) :: st) g
  | .fconst n => bif Nat.beq (n : Nat) 0 then go (pc + len) ls (vx (.float 0) :: st) g else none
  | .dconst n => bif Nat.beq (n : Nat) 0 then go (pc + len) ls (vx (.double 0) :: st) g else none
  | .dup => match st with
    | v :: r => bif Nat.beq (mcat v) 1 then go (pc + len) ls (v :: v :: r) g else none
    | _ => none
  | .dup2 => match st with
    | v :: w :: r => bif Nat.beq (mcat v) 1 && Nat.beq (mcat w) 1 then go (pc + len) ls (v :: w :: v :: w :: r) g else none
    | _ => none
  | .pop => match st with
    | v :: r => bif Nat.beq (mcat v) 1 then go (pc + len) ls r g else none
    | _ => none
  | .ineg => match st with
    | .inl x :: r => go (pc + len) ls (vi (-x) :: r) g
    | _ => none
  | .i2c => match st with
    | .inl x :: r => go (pc + len) ls (vi (x.toUInt32 % 65536).toInt32 :: r) g
    | _ => none
  | .i2l => match st with
    | .inl x :: r => go (pc + len) ls (vx (.long x.toInt64) :: r) g
    | _ => none
  | .i2f => match st with
    | .inl x :: r => go (pc + len) ls (vx (.float (FP.i2f x)) :: r) g
    | _ => none
  | .i2d => match st with
    | .inl x :: r => go (pc + len) ls (vx (.double (FP.i2d x)) :: r) g
    | _ => none
  | .f2d => match st with
    | .inr (.inr (.inr (.float x))) :: r => gif (decide (FP.f2d x &&& 0x7fffffffffffffff ≤ 0x7ff0000000000000)) (pc + len) ls (vx (.double (FP.f2d x)) :: r) g
    | _ => none
  | .fdiv => match st with
    | .inr (.inr (.inr (.float y))) :: .inr (.inr (.inr (.float x))) :: r => gif (decide (FP.fdiv x y &&& 0x7fffffff ≤ 0x7f800000)) (pc + len) ls (vx (.float (FP.fdiv x y)) :: r) g
    | _ => none
  | .ddiv => match st with
    | .inr (.inr (.inr (.double y))) :: .inr (.inr (.inr (.double x))) :: r => gif (decide (FP.ddiv x y &&& 0x7fffffffffffffff ≤ 0x7ff0000000000000)) (pc + len) ls (vx (.double (FP.ddiv x y)) :: r) g
    | _ => none
  | .lcmp => match st with
    | .inr (.inr (.inr (.long y))) :: .inr (.inr (.inr (.long x))) :: r => go (pc + len) ls (vi (lg_cmp x y) :: r) g
    | _ => none
  | .fcmp c => match st with
    | .inr (.inr (.inr (.float y))) :: .inr (.inr (.inr (.float x))) :: r => go (pc + len) ls (vi (Op.cmpValue (FP.fcmp x y) c) :: r) g
    | _ => none
  | .dcmp c => match st with
    | .inr (.inr (.inr (.double y))) :: .inr (.inr (.inr (.double x))) :: r => go (pc + len) ls (vi (Op.cmpValue (FP.dcmp x y) c) :: r) g
    | _ => none
  | .goto _ => go o1 ls st g
  | .ifCond c _ => match st with
    | .inl x :: r => go (bif cmpB c x 0 then o1 else pc + len) ls r g
    | _ => none
  | .if_icmp c _ => match st with
    | .inl y :: .inl x :: r => go (bif cmpB c x y then o1 else pc + len) ls r g
    | _ => none
  | .tableswitch d lo hi os => match st with
    | .inl x :: r => go (swt pc d lo hi os x) ls r g
    | _ => none
  | i => match st with
    | .inl y :: .inl x :: r => match alu i x y with
      | some (b, v) => gif b (pc + len) ls (vi v :: r) g
      | none => none
    | _ => none
