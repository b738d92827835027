/-! A plain machine of this claim's own: it walks the same bytecode over cells that are rows of numbers. Part 05 shows that the machine of the library does what it does. -/
abbrev MI : Type := Nat → Nat → Int32
abbrev ML : Type := Nat → Nat → Int64
abbrev MP : Type := Nat → Nat → Option Nat
/-- what lies at an address (kind, length), the next address (while it is known), cells made, slots made -/
abbrev Wd : Type := (Nat → Option (Nat × Nat)) × Option Nat × Nat × Nat
abbrev Rs : Type := (Option Value ⊕ Nat) × Wd × MI × ML × MP
abbrev Nx : Type := Nat × List Value × List Value × Wd × MI × ML × MP
abbrev Cl : Type := Nat × List Value × List Value
abbrev SR : Type := Nx ⊕ Rs ⊕ Cl
def unk : Value := .float 0
def fix1 (v : Value) : Value := if v.category = 2 then unk else v
def updI (I : MI) (a k : Nat) (x : Int32) : MI := fun b j => if b = a ∧ j = k then x else I b j
def updL (I : ML) (a k : Nat) (x : Int64) : ML := fun b j => if b = a ∧ j = k then x else I b j
def updP (I : MP) (a k : Nat) (x : Option Nat) : MP := fun b j => if b = a ∧ j = k then x else I b j
/-- a new row -/
def rowI (I : MI) (a : Nat) : MI := fun b j => if b = a then 0 else I b j
def rowL (I : ML) (a : Nat) : ML := fun b j => if b = a then 0 else I b j
def rowP (I : MP) (a : Nat) : MP := fun b j => if b = a then none else I b j
def newT (w : Wd) (a k n sl : Nat) : Wd := (fun b => if b = a then some (k, n) else w.1 b, some (a + 1), w.2.2.1 + 1, w.2.2.2 + sl)
def thrT (w : Wd) : Wd := (w.1, none, w.2.2.1 + 1, w.2.2.2 + 6)
/-- System.arraycopy of ints -/
def cpyI (I : MI) (a0 sp a1 dp n : Nat) : MI := fun b j => if b = a1 then (if dp ≤ j ∧ j < dp + n then I a0 (sp + (j - dp)) else I b j) else I b j
-- the tables
def mE (m : Nat) : MT := mTab.getD m (yX0_init, ⟨#[]⟩, 0, none, [], 0, 0, 0, 0, false, 0, 0, 0, 0)
def mN (m : Nat) : MethodName := (mE m).1
def mB (m : Nat) : ByteArray := (mE m).2.1
def mL (m : Nat) : Nat := (mE m).2.2.1
def mR (m : Nat) : Option FieldType := (mE m).2.2.2.1
def mH (m : Nat) : List (Nat × Nat × Nat × Nat) := (mE m).2.2.2.2.1
def mO (m : Nat) : Nat := (mE m).2.2.2.2.2.1
def mF (m : Nat) : Nat := (mE m).2.2.2.2.2.2.1
def mW (m : Nat) : Nat := (mE m).2.2.2.2.2.2.2.1
def mA (m : Nat) : Nat := (mE m).2.2.2.2.2.2.2.2.1
def mS (m : Nat) : Bool := (mE m).2.2.2.2.2.2.2.2.2.1
def mI4 (m : Nat) : Nat × Nat × Nat × Nat := (mE m).2.2.2.2.2.2.2.2.2.2
/-- a field: class, place, kind, nest or not -/
def fR (o i : Nat) : Option (Nat × Nat) := (fT.find? (fun e => e.1 == o && e.2.1 == i)).map (fun e => (e.2.2.1, e.2.2.2.1))
/-- a call: method, kind -/
def cR (o i : Nat) : Option (Nat × Nat) := (cT.find? (fun e => e.1 == o && e.2.1 == i)).map (fun e => (e.2.2.1, e.2.2.2.1))
def nR (o i : Nat) : Option Nat := (nT.find? (fun e => e.1 == o && e.2.1 == i)).map (fun e => e.2.2.1)
def kR (o i : Nat) : Option Int32 := (kT.find? (fun e => e.1 == o && e.2.1 == i)).map (fun e => e.2.2.1)
def lR (o i : Nat) : Option Int64 := (lT.find? (fun e => e.1 == o && e.2.1 == i)).map (fun e => e.2.2.1)
def sR (o i : Nat) : Bool := sT.any (fun e => e.1 == o && e.2.1 == i)
-- locals
def lget (ls : List Value) (i : Nat) : Option Value := match ls[i]? with
  | some v => if v = unk then none else some v
  | none => none
def lfix (ls : List Value) (i : Nat) : List Value := match i with
  | 0 => ls
  | j + 1 => ls.modify j fix1
def lset1 (ls : List Value) (i : Nat) (v : Value) : List Value := (lfix ls i).set i v
def lset2 (ls : List Value) (i : Nat) (v : Value) : List Value := ((lfix ls i).set i v).set (i + 1) unk
def entA : List Value → List Value
  | [] => []
  | v :: vs => if v.category = 2 then v :: unk :: entA vs else v :: entA vs
def ent (vs : List Value) (n : Nat) : List Value := entA vs ++ List.replicate (n - (entA vs).length) unk
-- instructions that touch nothing but locals and operands
abbrev A3 : Type := Nat × List Value × List Value
def aI2 (pc : Nat) (ls st : List Value) (f : Int32 → Int32 → Int32) : Option A3 := match st with
  | .int y :: .int x :: r => some (pc + 1, ls, .int (f x y) :: r)
  | _ => none
def aL2 (pc : Nat) (ls st : List Value) (f : Int64 → Int64 → Int64) : Option A3 := match st with
  | .long y :: .long x :: r => some (pc + 1, ls, .long (f x y) :: r)
  | _ => none
def aLS (pc : Nat) (ls st : List Value) (f : Int64 → Int32 → Int64) : Option A3 := match st with
  | .int y :: .long x :: r => some (pc + 1, ls, .long (f x y) :: r)
  | _ => none
def aLd (pc' : Nat) (ls st : List Value) (i : Nat) (q : Value → Bool) : Option A3 := match lget ls i with
  | some v => if q v then some (pc', ls, v :: st) else none
  | none => none
def isI (v : Value) : Bool := match v with | .int _ => true | _ => false
def isJ (v : Value) : Bool := match v with | .long _ => true | _ => false
def isD (v : Value) : Bool := match v with | .double _ => true | _ => false
def isA (v : Value) : Bool := match v with | .ref _ => true | .null => true | _ => false
def aSt (pc' : Nat) (ls st : List Value) (i : Nat) (q : Value → Bool) : Option A3 := match st with
  | v :: r => if q v ∧ i < ls.length then some (pc', lset1 ls i v, r) else none
  | _ => none
def aSt2 (pc' : Nat) (ls st : List Value) (i : Nat) (q : Value → Bool) : Option A3 := match st with
  | v :: r => if q v ∧ i + 1 < ls.length then some (pc', lset2 ls i v, r) else none
  | _ => none
def jmp (pc : Nat) (off : Int) (ls st : List Value) : Option A3 := if 0 ≤ (pc : Int) + off then some (((pc : Int) + off).toNat, ls, st) else none
def aIf (pc : Nat) (off : Int) (ls r : List Value) (b : Prop) (d : Decidable b) : Option A3 := if 0 ≤ (pc : Int) + off then (if b then some (((pc : Int) + off).toNat, ls, r) else some (pc + 3, ls, r)) else none
def i1 (pc : Nat) (off : Int) (ls st : List Value) (q : Int32 → Prop) (d : ∀ x, Decidable (q x)) : Option A3 := match st with
  | .int x :: r => aIf pc off ls r (q x) (d x)
  | _ => none
def i2 (pc : Nat) (off : Int) (ls st : List Value) (q : Int32 → Int32 → Prop) (d : ∀ x y, Decidable (q x y)) : Option A3 := match st with
  | .int y :: .int x :: r => aIf pc off ls r (q x y) (d x y)
  | _ => none
def stA (o pc : Nat) (i : Instr) (len : Nat) (ls st : List Value) : Option A3 := match i with
  | .aconst_null => if len = 1 then some (pc + 1, ls, .null :: st) else none
  | .iconst n => if len = 1 then some (pc + 1, ls, .int (Int32.ofInt n) :: st) else none
  | .bipush n => if len = 2 then some (pc + 2, ls, .int (Int8.ofInt n).toInt32 :: st) else none
  | .sipush n => if len = 3 then some (pc + 3, ls, .int (Int16.ofInt n).toInt32 :: st) else none
  | .lconst n => if len = 1 then some (pc + 1, ls, .long (Int64.ofNat (n : Nat)) :: st) else none
  | .dconst n => if len = 1 ∧ n = 0 then some (pc + 1, ls, .double FP.dconst0 :: st) else none
  | .ldc x => if len = 2 then (match kR o x with | some v => some (pc + 2, ls, .int v :: st) | none => none) else none
  | .ldc2_w x => if len = 3 then (match lR o x with | some v => some (pc + 3, ls, .long v :: st) | none => none) else none
  | .iload_n k => if len = 1 then aLd (pc + 1) ls st k isI else none
  | .iload k => if len = 2 then aLd (pc + 2) ls st k isI else none
  | .lload_n k => if len = 1 then aLd (pc + 1) ls st k isJ else none
  | .lload k => if len = 2 then aLd (pc + 2) ls st k isJ else none
  | .dload_n k => if len = 1 then aLd (pc + 1) ls st k isD else none
  | .dload k => if len = 2 then aLd (pc + 2) ls st k isD else none
  | .aload_n k => if len = 1 then aLd (pc + 1) ls st k isA else none
  | .aload k => if len = 2 then aLd (pc + 2) ls st k isA else none
  | .istore_n k => if len = 1 then aSt (pc + 1) ls st k isI else none
  | .istore k => if len = 2 then aSt (pc + 2) ls st k isI else none
  | .astore_n k => if len = 1 then aSt (pc + 1) ls st k isA else none
  | .astore k => if len = 2 then aSt (pc + 2) ls st k isA else none
  | .lstore_n k => if len = 1 then aSt2 (pc + 1) ls st k isJ else none
  | .lstore k => if len = 2 then aSt2 (pc + 2) ls st k isJ else none
  | .dstore k => if len = 2 then aSt2 (pc + 2) ls st k isD else none
  | .iinc k n => if len = 3 then (match lget ls k with | some (.int x) => some (pc + 3, lset1 ls k (.int (x + Int32.ofInt n)), st) | _ => none) else none
  | .iadd => if len = 1 then aI2 pc ls st (· + ·) else none
  | .isub => if len = 1 then aI2 pc ls st (· - ·) else none
  | .imul => if len = 1 then aI2 pc ls st (· * ·) else none
  | .iand => if len = 1 then aI2 pc ls st (· &&& ·) else none
  | .ior => if len = 1 then aI2 pc ls st (· ||| ·) else none
  | .ixor => if len = 1 then aI2 pc ls st (· ^^^ ·) else none
  | .ishl => if len = 1 then aI2 pc ls st (fun x y => x <<< (y &&& 31)) else none
  | .ishr => if len = 1 then aI2 pc ls st (fun x y => x >>> (y &&& 31)) else none
  | .idiv => if len = 1 then (match st with | .int y :: .int x :: r => if y = 0 then none else some (pc + 1, ls, .int (x / y) :: r) | _ => none) else none
  | .irem => if len = 1 then (match st with | .int y :: .int x :: r => if y = 0 then none else some (pc + 1, ls, .int (x - x / y * y) :: r) | _ => none) else none
  | .ladd => if len = 1 then aL2 pc ls st (· + ·) else none
  | .lmul => if len = 1 then aL2 pc ls st (· * ·) else none
  | .land => if len = 1 then aL2 pc ls st (· &&& ·) else none
  | .lor => if len = 1 then aL2 pc ls st (· ||| ·) else none
  | .lshl => if len = 1 then aLS pc ls st (fun x y => x <<< (y.toInt64 &&& 63)) else none
  | .lshr => if len = 1 then aLS pc ls st (fun x y => x >>> (y.toInt64 &&& 63)) else none
  | .lcmp => if len = 1 then (match st with | .long y :: .long x :: r => some (pc + 1, ls, .int (lg_cmp x y) :: r) | _ => none) else none
  | .i2l => if len = 1 then (match st with | .int x :: r => some (pc + 1, ls, .long x.toInt64 :: r) | _ => none) else none
  | .l2i => if len = 1 then (match st with | .long x :: r => some (pc + 1, ls, .int x.toInt32 :: r) | _ => none) else none
  | .i2d => if len = 1 then (match st with | .int x :: r => some (pc + 1, ls, .double (FP.i2d x) :: r) | _ => none) else none
  | .ddiv => if len = 1 then (match st with | .double y :: .double x :: r => if FP.ddiv x y &&& 0x7fffffffffffffff ≤ 0x7ff0000000000000 then some (pc + 1, ls, .double (FP.ddiv x y) :: r) else none | _ => none) else none
  | .dcmp op => if len = 1 then (match st with | .double y :: .double x :: r => some (pc + 1, ls, .int (Op.cmpValue (FP.dcmp x y) op) :: r) | _ => none) else none
  | .dup => if len = 1 then (match st with | v :: r => if v.category = 1 then some (pc + 1, ls, v :: v :: r) else none | _ => none) else none
  | .pop => if len = 1 then (match st with | v :: r => if v.category = 1 then some (pc + 1, ls, r) else none | _ => none) else none
  | .dup2 => if len = 1 then (match st with | v :: u :: r => if v.category = 1 ∧ u.category = 1 then some (pc + 1, ls, v :: u :: v :: u :: r) else none | _ => none) else none
  | .goto off => if len = 3 then jmp pc off ls st else none
  | .ifCond .eq off => if len = 3 then i1 pc off ls st (fun x => x = 0) (fun x => inferInstanceAs (Decidable (x = 0))) else none
  | .ifCond .ne off => if len = 3 then i1 pc off ls st (fun x => x ≠ 0) (fun x => inferInstanceAs (Decidable (x ≠ 0))) else none
  | .ifCond .lt off => if len = 3 then i1 pc off ls st (fun x => x < 0) (fun x => inferInstanceAs (Decidable (x < 0))) else none
  | .ifCond .ge off => if len = 3 then i1 pc off ls st (fun x => 0 ≤ x) (fun x => inferInstanceAs (Decidable (0 ≤ x))) else none
  | .ifCond .gt off => if len = 3 then i1 pc off ls st (fun x => 0 < x) (fun x => inferInstanceAs (Decidable (0 < x))) else none
  | .ifCond .le off => if len = 3 then i1 pc off ls st (fun x => x ≤ 0) (fun x => inferInstanceAs (Decidable (x ≤ 0))) else none
  | .if_icmp .eq off => if len = 3 then i2 pc off ls st (fun x y => x = y) (fun x y => inferInstanceAs (Decidable (x = y))) else none
  | .if_icmp .ne off => if len = 3 then i2 pc off ls st (fun x y => x ≠ y) (fun x y => inferInstanceAs (Decidable (x ≠ y))) else none
  | .if_icmp .lt off => if len = 3 then i2 pc off ls st (fun x y => x < y) (fun x y => inferInstanceAs (Decidable (x < y))) else none
  | .if_icmp .ge off => if len = 3 then i2 pc off ls st (fun x y => y ≤ x) (fun x y => inferInstanceAs (Decidable (y ≤ x))) else none
  | .if_icmp .gt off => if len = 3 then i2 pc off ls st (fun x y => y < x) (fun x y => inferInstanceAs (Decidable (y < x))) else none
  | .if_icmp .le off => if len = 3 then i2 pc off ls st (fun x y => x ≤ y) (fun x y => inferInstanceAs (Decidable (x ≤ y))) else none
  | .ifnull off => if len = 3 then (match st with | .null :: r => jmp pc off ls r | .ref _ :: r => some (pc + 3, ls, r) | _ => none) else none
  | .ifnonnull off => if len = 3 then (match st with | .ref _ :: r => jmp pc off ls r | .null :: r => some (pc + 3, ls, r) | _ => none) else none
  | .tableswitch dflt lo hi offs => (match st with
    | .int x :: r => if x.toInt < lo ∨ hi < x.toInt then jmp pc dflt ls r else (match offs[(x.toInt - lo).toNat]? with | some off => jmp pc off ls r | none => none)
    | _ => none)
  | .lookupswitch dflt ps => (match st with
    | .int x :: r => if (ps.toList.zip (ps.toList.drop 1)).all (fun (a, next) => a.1 < next.1) = true then jmp pc (Op.lookupswitch.offset ps.toList dflt x.toInt) ls r else none
    | _ => none)
  | _ => none
-- instructions that touch cells
abbrev M6 : Type := Nat × List Value × Wd × MI × ML × MP
def fv (I : MI) (L : ML) (P : MP) (t a k : Nat) : Value := match t with
  | 0 => .int (I a k)
  | 1 => .int (I a k &&& 1)
  | 2 => .long (L a k)
  | _ => va_rf (P a k)
def inB (x : Int32) (n : Nat) : Bool := !(decide (x < 0) || decide (n ≤ x.toNatClampNeg))
/-- may a final field be written here: in a constructor of its class -/
def finOk (m ci k : Nat) : Bool := !(tN_ ci k).2.2.2 || ((mN m).name == "<init>" && mO m == ci)
def putV (w : Wd) (I : MI) (L : ML) (P : MP) (t a k : Nat) (v : Value) : Option (MI × ML × MP) := match t, v with
  | 0, .int x => some (updI I a k x, L, P)
  | 1, .int x => if x &&& 1 = x then some (updI I a k x, L, P) else none
  | 2, .long x => some (I, updL L a k x, P)
  | 3, .ref q => some (I, L, updP P a k (some q))
  | 3, .null => some (I, L, updP P a k none)
  | _, _ => none
def stM (m pc : Nat) (i : Instr) (len : Nat) (st : List Value) (w : Wd) (I : MI) (L : ML) (P : MP) : Option M6 := match i with
  | .getfield x => if len = 3 then (match st with
    | .ref a :: r => (match fR (mO m) x with
      | some (ci, k) => if w.1 a = some (ci, 0) then some (pc + 3, fv I L P (fK ci k) a k :: r, w, I, L, P) else none
      | none => none)
    | _ => none) else none
  | .putfield x => if len = 3 then (match st with
    | v :: .ref a :: r => (match fR (mO m) x with
      | some (ci, k) => if w.1 a = some (ci, 0) ∧ finOk m ci k = true then (match putV w I L P (fK ci k) a k v with
        | some (I', L', P') => some (pc + 3, r, w, I', L', P')
        | none => none) else none
      | none => none)
    | _ => none) else none
  | .iaload => if len = 1 then (match st with
    | .int x :: .ref a :: r => (match w.1 a with
      | some (k, n) => if (k = 8 ∨ k = 14) ∧ inB x n = true then some (pc + 1, .int (I a x.toNatClampNeg) :: r, w, I, L, P) else none
      | none => none)
    | _ => none) else none
  | .aaload => if len = 1 then (match st with
    | .int x :: .ref a :: r => (match w.1 a with
      | some (k, n) => if (10 ≤ k ∧ k < 14) ∧ inB x n = true then some (pc + 1, va_rf (P a x.toNatClampNeg) :: r, w, I, L, P) else none
      | none => none)
    | _ => none) else none
  | .iastore => if len = 1 then (match st with
    | .int v :: .int x :: .ref a :: r => (match w.1 a with
      | some (k, n) => if k = 8 ∧ inB x n = true then some (pc + 1, r, w, updI I a x.toNatClampNeg v, L, P) else none
      | none => none)
    | _ => none) else none
  | .aastore => if len = 1 then (match st with
    | .ref v :: .int x :: .ref a :: r => (match w.1 a with
      | some (k, n) => if (10 ≤ k ∧ k < 14) ∧ w.1 v = some (k - 10, 0) ∧ inB x n = true then some (pc + 1, r, w, I, L, updP P a x.toNatClampNeg (some v)) else none
      | none => none)
    | _ => none) else none
  | .arraylength => if len = 1 then (match st with
    | .ref a :: r => (match w.1 a with
      | some (k, n) => if 8 ≤ k ∧ k < 15 then some (pc + 1, .int (Int32.ofNat n) :: r, w, I, L, P) else none
      | none => none)
    | _ => none) else none
  | .new x => if len = 3 then (match nR (mO m) x, w.2.1 with
    | some ci, some q => if ci < 8 then some (pc + 3, .ref q :: st, newT w q ci 0 (nF ci), rowI I q, rowL L q, rowP P q) else none
    | _, _ => none) else none
  | .newarray .int => if len = 2 then (match st, w.2.1 with
    | .int n :: r, some q => if ¬ n < 0 ∧ n.toNatClampNeg ≤ 65536 then some (pc + 2, .ref q :: r, newT w q 8 n.toNatClampNeg n.toNatClampNeg, rowI I q, L, P) else none
    | _, _ => none) else none
  | .anewarray x => if len = 3 then (match nR (mO m) x, st, w.2.1 with
    | some ci, .int n :: r, some q => if ci < 4 ∧ ¬ n < 0 ∧ n.toNatClampNeg ≤ 65536 then some (pc + 3, .ref q :: r, newT w q (10 + ci) n.toNatClampNeg n.toNatClampNeg, I, L, rowP P q) else none
    | _, _, _ => none) else none
  | .invokespecial x => if len = 3 then (match cR (mO m) x, st with
    | some (_, 7), .ref a :: r => if 1 ≤ mF m ∧ 2 * r.length + 12 ≤ mW m then some (pc + 3, r, w, I, L, P) else none
    | _, _ => none) else none
  | .invokestatic x => if len = 3 then (match cR (mO m) x, st with
    | some (_, 8), .int y :: .int x :: r => if 1 ≤ mF m ∧ 2 * r.length + 13 ≤ mW m then some (pc + 3, .int (if y < x then y else x) :: r, w, I, L, P) else none
    | some (_, 9), .int n :: .int dp :: .ref a1 :: .int sp :: .ref a0 :: r => (match w.1 a0, w.1 a1 with
      | some (8, n0), some (8, n1) => if 1 ≤ mF m ∧ 2 * r.length + 18 ≤ mW m ∧ ¬ sp < 0 ∧ ¬ dp < 0 ∧ ¬ n < 0 ∧ sp.toNatClampNeg + n.toNatClampNeg ≤ n0 ∧ dp.toNatClampNeg + n.toNatClampNeg ≤ n1 then
          some (pc + 3, r, w, cpyI I a0 sp.toNatClampNeg a1 dp.toNatClampNeg n.toNatClampNeg, L, P) else none
      | _, _ => none)
    | _, _ => none) else none
  | _ => none
/-- a call: the method, its arguments (the receiver first), the rest; the room that it wants -/
def cls1 (m y : Nat) (st : List Value) (w : Wd) (virt : Bool) : Option Cl :=
  let n := if mS y then mA y else mA y + 1
  let as := (st.take n).reverse
  let r := st.drop n
  if as.length = n ∧ mF y + 1 ≤ mF m ∧ 8 + (mL y + 11) + mW y ≤ mW m ∧ 2 * r.length ≤ 8 ∧ (entA as).length ≤ mL y ∧ y < mTab.length then
    (match mS y, as with
    | true, _ => some (y, as, r)
    | false, .ref b :: _ => if virt = false ∨ w.1 b = some (mO y, 0) then some (y, as, r) else none
    | _, _ => none)
  else none
def stC (m : Nat) (i : Instr) (len : Nat) (st : List Value) (w : Wd) : Option Cl := match i with
  | .invokevirtual x => if len = 3 then (match cR (mO m) x with
    | some (y, 0) => if mS y = false then cls1 m y st w true else none
    | some (y, 1) => if mS y = false then cls1 m y st w true else none
    | _ => none) else none
  | .invokespecial x => if len = 3 then (match cR (mO m) x with
    | some (y, 5) => if mS y = false then cls1 m y st w false else none
    | some (y, 6) => if mS y = false then cls1 m y st w false else none
    | _ => none) else none
  | .invokestatic x => if len = 3 then (match cR (mO m) x with
    | some (y, 2) => if mS y = true then cls1 m y st w false else none
    | some (y, 3) => if mS y = true then cls1 m y st w false else none
    | some (y, 4) => if mS y = true then cls1 m y st w false else none
    | _ => none) else none
  | _ => none
/-- an end -/
def stR (m : Nat) (i : Instr) (len : Nat) (st : List Value) : Option (Option Value) := match i with
  | .return_ => if len = 1 ∧ st = [] ∧ mR m = none then some none else none
  | .ireturn => if len = 1 then (match st with
    | [.int x] => if mR m = some .int ∨ (mR m = some .boolean ∧ x &&& 1 = x) then some (some (.int x)) else none
    | _ => none) else none
  | .lreturn => if len = 1 then (match st with | [.long x] => if mR m = some .long then some (some (.long x)) else none | _ => none) else none
  | .dreturn => if len = 1 then (match st with | [.double x] => if mR m = some .double then some (some (.double x)) else none | _ => none) else none
  | .areturn => if len = 1 then (match st with
    | [.ref a] => (match mR m with | some (.object _) => some (some (.ref a)) | _ => none)
    | [.null] => (match mR m with | some (.object _) => some (some .null) | _ => none)
    | _ => none) else none
  | _ => none
/-- 'throw new E("text")' -/
def stT (m pc : Nat) (i : Instr) (len : Nat) (st : List Value) : Option Nat := match i with
  | .new x => (match nR (mO m) x, decode (mB m) (pc + 3), decode (mB m) (pc + 4), decode (mB m) (pc + 6), decode (mB m) (pc + 9) with
    | some e, .ok (.dup, 1), .ok (.ldc s, 2), .ok (.invokespecial y, 3), .ok (.athrow, 1) =>
      if len = 3 ∧ 100 ≤ e ∧ e < 103 ∧ sR (mO m) s = true ∧ mH m = [] ∧ mO m = 6 ∧ y = (if e = 100 then 110 else if e = 101 then 67 else 149) ∧ 6 ≤ mF m ∧ 2 * st.length + 82 ≤ mW m then some (e - 100) else none
    | _, _, _, _, _ => none)
  | _ => none
def stp (m pc : Nat) (ls st : List Value) (w : Wd) (I : MI) (L : ML) (P : MP) : Option SR := match decode (mB m) pc with
  | .error _ => none
  | .ok (i, len) => (match stA (mO m) pc i len ls st with
    | some (pc', ls', st') => some (.inl (pc', ls', st', w, I, L, P))
    | none => (match stM m pc i len st w I L P with
      | some (pc', st', w', I', L', P') => some (.inl (pc', ls, st', w', I', L', P'))
      | none => (match stC m i len st w with
        | some c => some (.inr (.inr c))
        | none => (match stR m i len st with
          | some v => some (.inr (.inl (.inl v, w, I, L, P)))
          | none => (match stT m pc i len st with
            | some e => some (.inr (.inl (.inr e, thrT w, I, L, P)))
            | none => none)))))
/-- who catches e at pc: where it goes on behind the store of the exception, and in which local that lies -/
def hnd (m pc e : Nat) : Option (Nat × Nat) := match (mH m).find? (fun h => decide (h.1 ≤ pc) && decide (pc < h.2.1) && nR (mO m) h.2.2.2 == some (100 + e)) with
  | some h => (match decode (mB m) h.2.2.1 with
    | .ok (.astore_n k, 1) => some (h.2.2.1 + 1, k)
    | .ok (.astore k, 2) => some (h.2.2.1 + 2, k)
    | _ => none)
  | none => none
def exec : Nat → Nat → Nat → List Value → List Value → Wd → MI → ML → MP → Option Rs
  | 0, _, _, _, _, _, _, _, _ => none
  | n + 1, m, pc, ls, st, w, I, L, P => match stp m pc ls st w I L P with
    | none => none
    | some (.inl (pc', ls', st', w', I', L', P')) => exec n m pc' ls' st' w' I' L' P'
    | some (.inr (.inl r)) => some r
    | some (.inr (.inr (y, as, r))) => (match exec n y 0 (ent as (mL y)) [] w I L P with
      | none => none
      | some (.inl v, w', I', L', P') => exec n m (pc + 3) ls (v.toList ++ r) w' I' L' P'
      | some (.inr e, w', I', L', P') => (match mH m with
        | [] => some (.inr e, w', I', L', P')
        | _ :: _ => (match hnd m pc e with
          | some (pc', k) => if k < ls.length then exec n m pc' (lset1 ls k unk) [] w' I' L' P' else none
          | none => none)))
