-- one equation an instruction
def kC (o : Option Rs) (f : Option Value → Wd → MI → ML → MP → Option Rs) : Option Rs := match o with
  | none => none
  | some (.inl v, w, I, L, P) => f v w I L P
  | some (.inr e, w, I, L, P) => some (.inr e, w, I, L, P)
theorem kC_ret {v : Option Value} {w : Wd} {I : MI} {L : ML} {P : MP} {f : Option Value → Wd → MI → ML → MP → Option Rs} : kC (some (.inl v, w, I, L, P)) f = f v w I L P := rfl
theorem kC_thr {x : Nat} {w : Wd} {I : MI} {L : ML} {P : MP} {f : Option Value → Wd → MI → ML → MP → Option Rs} : kC (some (.inr x, w, I, L, P)) f = some (.inr x, w, I, L, P) := rfl
def tagU (T : Nat → Option (Nat × Nat)) (a k n : Nat) : Nat → Option (Nat × Nat) := fun b => if b = a then some (k, n) else T b
def inA (w : Wd) (a k : Nat) (x : Int32) : Prop := match w.1 a with | some (k', n) => k' = k ∧ inB x n = true | none => False
def isAr (w : Wd) (a k : Nat) : Prop := match w.1 a with | some (k', _) => k' = k | none => False
def alen (w : Wd) (a : Nat) : Int32 := match w.1 a with | some (_, n) => Int32.ofNat n | none => 0
theorem inA_inv {w : Wd} {a k : Nat} {x : Int32} (h : inA w a k x) : ∃ n, w.1 a = some (k, n) ∧ inB x n = true := by
  unfold inA at h; split at h
  · next k' n hw => obtain ⟨rfl, h2⟩ := h; exact ⟨n, hw, h2⟩
  · cases h
theorem isAr_inv {w : Wd} {a k : Nat} (h : isAr w a k) : ∃ n, w.1 a = some (k, n) := by
  unfold isAr at h; split at h
  · next k' n hw => subst h; exact ⟨n, hw⟩
  · cases h
def selT (x : Int32) : List (Int32 × Nat) → Nat → Nat
  | [], d => d
  | (k, t) :: r, d => if x = k then t else selT x r d
def rmk (m y : Nat) : Bool := decide (mF y + 1 ≤ mF m) && decide (8 + (mL y + 11) + mW y ≤ mW m) && decide (y < mTab.length)
section GI
variable {m pc o : Nat} {ls ls' st r : List Value} {w : Wd} {I : MI} {L : ML} {P : MP}
theorem go_B {pc' : Nat} {st' : List Value} {i : Instr} {len : Nat} (hd : decode (mB m) pc = .ok (i, len)) (h : stA (mO m) pc i len ls st = some (pc', ls', st')) : go m pc ls st w I L P = go m pc' ls' st' w I L P := go_A hd h
theorem go_anull  (hd : decode (mB m) pc = .ok (.aconst_null, 1))  : go m pc ls (st) w I L P = go m (pc + 1) ls (.null :: st) w I L P := go_A (n := (pc + 1, ls, .null :: st)) hd rfl
theorem go_ic {n : Int} {v : Int32} (hd : decode (mB m) pc = .ok (.iconst n, 1)) (hv : Int32.ofInt n = v) : go m pc ls (st) w I L P = go m (pc + 1) ls (.int v :: st) w I L P := hv ▸ go_B hd rfl
theorem go_bi {n : Int} {v : Int32} (hd : decode (mB m) pc = .ok (.bipush n, 2)) (hv : (Int8.ofInt n).toInt32 = v) : go m pc ls (st) w I L P = go m (pc + 2) ls (.int v :: st) w I L P := hv ▸ go_B hd rfl
theorem go_si {n : Int} {v : Int32} (hd : decode (mB m) pc = .ok (.sipush n, 3)) (hv : (Int16.ofInt n).toInt32 = v) : go m pc ls (st) w I L P = go m (pc + 3) ls (.int v :: st) w I L P := hv ▸ go_B hd rfl
theorem go_lc {n : Fin 2} {v : Int64} (hd : decode (mB m) pc = .ok (.lconst n, 1)) (hv : Int64.ofNat (n : Nat) = v) : go m pc ls (st) w I L P = go m (pc + 1) ls (.long v :: st) w I L P := hv ▸ go_B hd rfl
theorem go_dc  (hd : decode (mB m) pc = .ok (.dconst 0, 1))  : go m pc ls (st) w I L P = go m (pc + 1) ls (.double FP.dconst0 :: st) w I L P := go_A (n := (pc + 1, ls, .double FP.dconst0 :: st)) hd rfl
theorem go_ldc {x : Nat} {v : Int32} (hd : decode (mB m) pc = .ok (.ldc x, 2)) (ho : mO m = o) (hv : kR o x = some v) : go m pc ls (st) w I L P = go m (pc + 2) ls (.int v :: st) w I L P := by subst ho; exact go_A (n := (pc + 2, ls, .int v :: st)) hd (by simp only [stA, hv]; rfl)
theorem go_ldc2 {x : Nat} {v : Int64} (hd : decode (mB m) pc = .ok (.ldc2_w x, 3)) (ho : mO m = o) (hv : lR o x = some v) : go m pc ls (st) w I L P = go m (pc + 3) ls (.long v :: st) w I L P := by subst ho; exact go_A (n := (pc + 3, ls, .long v :: st)) hd (by simp only [stA, hv]; rfl)
theorem go_iload_n {k : Fin 4} {x : Int32} (hd : decode (mB m) pc = .ok (.iload_n k, 1)) (hg : ls[(k : Nat)]? = some (.int x)) : go m pc ls (st) w I L P = go m (pc + 1) ls (.int x :: st) w I L P := go_A (n := (pc + 1, ls, .int x :: st)) hd (by simp only [stA, aLd, lget, hg]; rfl)
theorem go_lload_n {k : Fin 4} {x : Int64} (hd : decode (mB m) pc = .ok (.lload_n k, 1)) (hg : ls[(k : Nat)]? = some (.long x)) : go m pc ls (st) w I L P = go m (pc + 1) ls (.long x :: st) w I L P := go_A (n := (pc + 1, ls, .long x :: st)) hd (by simp only [stA, aLd, lget, hg]; rfl)
theorem go_dload_n {k : Fin 4} {x : UInt64} (hd : decode (mB m) pc = .ok (.dload_n k, 1)) (hg : ls[(k : Nat)]? = some (.double x)) : go m pc ls (st) w I L P = go m (pc + 1) ls (.double x :: st) w I L P := go_A (n := (pc + 1, ls, .double x :: st)) hd (by simp only [stA, aLd, lget, hg]; rfl)
theorem go_aload_n {k : Fin 4} {x : Nat} (hd : decode (mB m) pc = .ok (.aload_n k, 1)) (hg : ls[(k : Nat)]? = some (.ref x)) : go m pc ls (st) w I L P = go m (pc + 1) ls (.ref x :: st) w I L P := go_A (n := (pc + 1, ls, .ref x :: st)) hd (by simp only [stA, aLd, lget, hg]; rfl)
theorem go_aload_nN {k : Fin 4} (hd : decode (mB m) pc = .ok (.aload_n k, 1)) (hg : ls[(k : Nat)]? = some .null) : go m pc ls (st) w I L P = go m (pc + 1) ls (.null :: st) w I L P := go_A (n := (pc + 1, ls, .null :: st)) hd (by simp only [stA, aLd, lget, hg]; rfl)
theorem go_iload {k : Nat} {x : Int32} (hd : decode (mB m) pc = .ok (.iload k, 2)) (hg : ls[(k : Nat)]? = some (.int x)) : go m pc ls (st) w I L P = go m (pc + 2) ls (.int x :: st) w I L P := go_A (n := (pc + 2, ls, .int x :: st)) hd (by simp only [stA, aLd, lget, hg]; rfl)
theorem go_lload {k : Nat} {x : Int64} (hd : decode (mB m) pc = .ok (.lload k, 2)) (hg : ls[(k : Nat)]? = some (.long x)) : go m pc ls (st) w I L P = go m (pc + 2) ls (.long x :: st) w I L P := go_A (n := (pc + 2, ls, .long x :: st)) hd (by simp only [stA, aLd, lget, hg]; rfl)
theorem go_dload {k : Nat} {x : UInt64} (hd : decode (mB m) pc = .ok (.dload k, 2)) (hg : ls[(k : Nat)]? = some (.double x)) : go m pc ls (st) w I L P = go m (pc + 2) ls (.double x :: st) w I L P := go_A (n := (pc + 2, ls, .double x :: st)) hd (by simp only [stA, aLd, lget, hg]; rfl)
theorem go_aload {k : Nat} {x : Nat} (hd : decode (mB m) pc = .ok (.aload k, 2)) (hg : ls[(k : Nat)]? = some (.ref x)) : go m pc ls (st) w I L P = go m (pc + 2) ls (.ref x :: st) w I L P := go_A (n := (pc + 2, ls, .ref x :: st)) hd (by simp only [stA, aLd, lget, hg]; rfl)
theorem go_aloadN {k : Nat} (hd : decode (mB m) pc = .ok (.aload k, 2)) (hg : ls[(k : Nat)]? = some .null) : go m pc ls (st) w I L P = go m (pc + 2) ls (.null :: st) w I L P := go_A (n := (pc + 2, ls, .null :: st)) hd (by simp only [stA, aLd, lget, hg]; rfl)
theorem go_istore_n {k : Fin 4} {x : Int32} (hd : decode (mB m) pc = .ok (.istore_n k, 1)) (hl : (k : Nat) < ls.length) (hs : lset1 ls k (.int x) = ls') : go m pc ls (.int x :: r) w I L P = go m (pc + 1) ls' r w I L P := by subst hs; exact go_A (n := (pc + 1, lset1 ls k (.int x), r)) hd (by simp only [stA, aSt]; rw [if_pos trivial, if_pos ⟨rfl, hl⟩])
theorem go_astore_n {k : Fin 4} {x : Nat} (hd : decode (mB m) pc = .ok (.astore_n k, 1)) (hl : (k : Nat) < ls.length) (hs : lset1 ls k (.ref x) = ls') : go m pc ls (.ref x :: r) w I L P = go m (pc + 1) ls' r w I L P := by subst hs; exact go_A (n := (pc + 1, lset1 ls k (.ref x), r)) hd (by simp only [stA, aSt]; rw [if_pos trivial, if_pos ⟨rfl, hl⟩])
theorem go_astore_nN {k : Fin 4}  (hd : decode (mB m) pc = .ok (.astore_n k, 1)) (hl : (k : Nat) < ls.length) (hs : lset1 ls k (.null) = ls') : go m pc ls (.null :: r) w I L P = go m (pc + 1) ls' r w I L P := by subst hs; exact go_A (n := (pc + 1, lset1 ls k (.null), r)) hd (by simp only [stA, aSt]; rw [if_pos trivial, if_pos ⟨rfl, hl⟩])
theorem go_lstore_n {k : Fin 4} {x : Int64} (hd : decode (mB m) pc = .ok (.lstore_n k, 1)) (hl : (k : Nat) + 1 < ls.length) (hs : lset2 ls k (.long x) = ls') : go m pc ls (.long x :: r) w I L P = go m (pc + 1) ls' r w I L P := by subst hs; exact go_A (n := (pc + 1, lset2 ls k (.long x), r)) hd (by simp only [stA, aSt2]; rw [if_pos trivial, if_pos ⟨rfl, hl⟩])
theorem go_istore {k : Nat} {x : Int32} (hd : decode (mB m) pc = .ok (.istore k, 2)) (hl : (k : Nat) < ls.length) (hs : lset1 ls k (.int x) = ls') : go m pc ls (.int x :: r) w I L P = go m (pc + 2) ls' r w I L P := by subst hs; exact go_A (n := (pc + 2, lset1 ls k (.int x), r)) hd (by simp only [stA, aSt]; rw [if_pos trivial, if_pos ⟨rfl, hl⟩])
theorem go_astore {k : Nat} {x : Nat} (hd : decode (mB m) pc = .ok (.astore k, 2)) (hl : (k : Nat) < ls.length) (hs : lset1 ls k (.ref x) = ls') : go m pc ls (.ref x :: r) w I L P = go m (pc + 2) ls' r w I L P := by subst hs; exact go_A (n := (pc + 2, lset1 ls k (.ref x), r)) hd (by simp only [stA, aSt]; rw [if_pos trivial, if_pos ⟨rfl, hl⟩])
theorem go_astoreN {k : Nat}  (hd : decode (mB m) pc = .ok (.astore k, 2)) (hl : (k : Nat) < ls.length) (hs : lset1 ls k (.null) = ls') : go m pc ls (.null :: r) w I L P = go m (pc + 2) ls' r w I L P := by subst hs; exact go_A (n := (pc + 2, lset1 ls k (.null), r)) hd (by simp only [stA, aSt]; rw [if_pos trivial, if_pos ⟨rfl, hl⟩])
theorem go_lstore {k : Nat} {x : Int64} (hd : decode (mB m) pc = .ok (.lstore k, 2)) (hl : (k : Nat) + 1 < ls.length) (hs : lset2 ls k (.long x) = ls') : go m pc ls (.long x :: r) w I L P = go m (pc + 2) ls' r w I L P := by subst hs; exact go_A (n := (pc + 2, lset2 ls k (.long x), r)) hd (by simp only [stA, aSt2]; rw [if_pos trivial, if_pos ⟨rfl, hl⟩])
theorem go_dstore {k : Nat} {x : UInt64} (hd : decode (mB m) pc = .ok (.dstore k, 2)) (hl : (k : Nat) + 1 < ls.length) (hs : lset2 ls k (.double x) = ls') : go m pc ls (.double x :: r) w I L P = go m (pc + 2) ls' r w I L P := by subst hs; exact go_A (n := (pc + 2, lset2 ls k (.double x), r)) hd (by simp only [stA, aSt2]; rw [if_pos trivial, if_pos ⟨rfl, hl⟩])
theorem go_iinc {k : Nat} {n : Int} {x v : Int32} (hd : decode (mB m) pc = .ok (.iinc k n, 3)) (hg : ls[k]? = some (.int x)) (hv : x + Int32.ofInt n = v) (hs : lset1 ls k (.int v) = ls') : go m pc ls st w I L P = go m (pc + 3) ls' st w I L P := by subst hv; subst hs; exact go_A (n := (pc + 3, lset1 ls k (.int (x + Int32.ofInt n)), st)) hd (by simp only [stA, lget, hg]; rfl)
theorem go_iadd {x y : Int32} (hd : decode (mB m) pc = .ok (.iadd, 1))  : go m pc ls (.int y :: .int x :: r) w I L P = go m (pc + 1) ls (.int (x + y) :: r) w I L P := go_A (n := (pc + 1, ls, .int (x + y) :: r)) hd rfl
theorem go_isub {x y : Int32} (hd : decode (mB m) pc = .ok (.isub, 1))  : go m pc ls (.int y :: .int x :: r) w I L P = go m (pc + 1) ls (.int (x - y) :: r) w I L P := go_A (n := (pc + 1, ls, .int (x - y) :: r)) hd rfl
theorem go_imul {x y : Int32} (hd : decode (mB m) pc = .ok (.imul, 1))  : go m pc ls (.int y :: .int x :: r) w I L P = go m (pc + 1) ls (.int (x * y) :: r) w I L P := go_A (n := (pc + 1, ls, .int (x * y) :: r)) hd rfl
theorem go_iand {x y : Int32} (hd : decode (mB m) pc = .ok (.iand, 1))  : go m pc ls (.int y :: .int x :: r) w I L P = go m (pc + 1) ls (.int (x &&& y) :: r) w I L P := go_A (n := (pc + 1, ls, .int (x &&& y) :: r)) hd rfl
theorem go_ior {x y : Int32} (hd : decode (mB m) pc = .ok (.ior, 1))  : go m pc ls (.int y :: .int x :: r) w I L P = go m (pc + 1) ls (.int (x ||| y) :: r) w I L P := go_A (n := (pc + 1, ls, .int (x ||| y) :: r)) hd rfl
theorem go_ixor {x y : Int32} (hd : decode (mB m) pc = .ok (.ixor, 1))  : go m pc ls (.int y :: .int x :: r) w I L P = go m (pc + 1) ls (.int (x ^^^ y) :: r) w I L P := go_A (n := (pc + 1, ls, .int (x ^^^ y) :: r)) hd rfl
theorem go_ishl {x y : Int32} (hd : decode (mB m) pc = .ok (.ishl, 1))  : go m pc ls (.int y :: .int x :: r) w I L P = go m (pc + 1) ls (.int (x <<< (y &&& 31)) :: r) w I L P := go_A (n := (pc + 1, ls, .int (x <<< (y &&& 31)) :: r)) hd rfl
theorem go_ishr {x y : Int32} (hd : decode (mB m) pc = .ok (.ishr, 1))  : go m pc ls (.int y :: .int x :: r) w I L P = go m (pc + 1) ls (.int (x >>> (y &&& 31)) :: r) w I L P := go_A (n := (pc + 1, ls, .int (x >>> (y &&& 31)) :: r)) hd rfl
theorem go_idiv {x y : Int32} (hd : decode (mB m) pc = .ok (.idiv, 1)) (hy : ¬ y = 0) : go m pc ls (.int y :: .int x :: r) w I L P = go m (pc + 1) ls (.int (x / y) :: r) w I L P := go_A (n := (pc + 1, ls, .int (x / y) :: r)) hd (by simp only [stA, if_neg hy]; rfl)
theorem go_irem {x y : Int32} (hd : decode (mB m) pc = .ok (.irem, 1)) (hy : ¬ y = 0) : go m pc ls (.int y :: .int x :: r) w I L P = go m (pc + 1) ls (.int (x - x / y * y) :: r) w I L P := go_A (n := (pc + 1, ls, .int (x - x / y * y) :: r)) hd (by simp only [stA, if_neg hy]; rfl)
theorem go_ladd {x y : Int64} (hd : decode (mB m) pc = .ok (.ladd, 1))  : go m pc ls (.long y :: .long x :: r) w I L P = go m (pc + 1) ls (.long (x + y) :: r) w I L P := go_A (n := (pc + 1, ls, .long (x + y) :: r)) hd rfl
theorem go_lmul {x y : Int64} (hd : decode (mB m) pc = .ok (.lmul, 1))  : go m pc ls (.long y :: .long x :: r) w I L P = go m (pc + 1) ls (.long (x * y) :: r) w I L P := go_A (n := (pc + 1, ls, .long (x * y) :: r)) hd rfl
theorem go_land {x y : Int64} (hd : decode (mB m) pc = .ok (.land, 1))  : go m pc ls (.long y :: .long x :: r) w I L P = go m (pc + 1) ls (.long (x &&& y) :: r) w I L P := go_A (n := (pc + 1, ls, .long (x &&& y) :: r)) hd rfl
theorem go_lor {x y : Int64} (hd : decode (mB m) pc = .ok (.lor, 1))  : go m pc ls (.long y :: .long x :: r) w I L P = go m (pc + 1) ls (.long (x ||| y) :: r) w I L P := go_A (n := (pc + 1, ls, .long (x ||| y) :: r)) hd rfl
theorem go_lshl {x : Int64} {y : Int32} (hd : decode (mB m) pc = .ok (.lshl, 1))  : go m pc ls (.int y :: .long x :: r) w I L P = go m (pc + 1) ls (.long (x <<< (y.toInt64 &&& 63)) :: r) w I L P := go_A (n := (pc + 1, ls, .long (x <<< (y.toInt64 &&& 63)) :: r)) hd rfl
theorem go_lshr {x : Int64} {y : Int32} (hd : decode (mB m) pc = .ok (.lshr, 1))  : go m pc ls (.int y :: .long x :: r) w I L P = go m (pc + 1) ls (.long (x >>> (y.toInt64 &&& 63)) :: r) w I L P := go_A (n := (pc + 1, ls, .long (x >>> (y.toInt64 &&& 63)) :: r)) hd rfl
theorem go_lcmp {x y : Int64} (hd : decode (mB m) pc = .ok (.lcmp, 1))  : go m pc ls (.long y :: .long x :: r) w I L P = go m (pc + 1) ls (.int (lg_cmp x y) :: r) w I L P := go_A (n := (pc + 1, ls, .int (lg_cmp x y) :: r)) hd rfl
theorem go_i2l {x : Int32} (hd : decode (mB m) pc = .ok (.i2l, 1))  : go m pc ls (.int x :: r) w I L P = go m (pc + 1) ls (.long x.toInt64 :: r) w I L P := go_A (n := (pc + 1, ls, .long x.toInt64 :: r)) hd rfl
theorem go_l2i {x : Int64} (hd : decode (mB m) pc = .ok (.l2i, 1))  : go m pc ls (.long x :: r) w I L P = go m (pc + 1) ls (.int x.toInt32 :: r) w I L P := go_A (n := (pc + 1, ls, .int x.toInt32 :: r)) hd rfl
theorem go_i2d {x : Int32} (hd : decode (mB m) pc = .ok (.i2d, 1))  : go m pc ls (.int x :: r) w I L P = go m (pc + 1) ls (.double (FP.i2d x) :: r) w I L P := go_A (n := (pc + 1, ls, .double (FP.i2d x) :: r)) hd rfl
theorem go_ddiv {x y : UInt64} (hd : decode (mB m) pc = .ok (.ddiv, 1)) (hn : FP.ddiv x y &&& 0x7fffffffffffffff ≤ 0x7ff0000000000000) : go m pc ls (.double y :: .double x :: r) w I L P = go m (pc + 1) ls (.double (FP.ddiv x y) :: r) w I L P := go_A (n := (pc + 1, ls, .double (FP.ddiv x y) :: r)) hd (by simp only [stA, if_pos hn]; rfl)
theorem go_dcmp {x y : UInt64} {op : CmpOp} (hd : decode (mB m) pc = .ok (.dcmp op, 1))  : go m pc ls (.double y :: .double x :: r) w I L P = go m (pc + 1) ls (.int (Op.cmpValue (FP.dcmp x y) op) :: r) w I L P := go_A (n := (pc + 1, ls, .int (Op.cmpValue (FP.dcmp x y) op) :: r)) hd rfl
theorem go_dup {v : Value} (hd : decode (mB m) pc = .ok (.dup, 1)) (hv : v.category = 1) : go m pc ls (v :: r) w I L P = go m (pc + 1) ls (v :: v :: r) w I L P := go_A (n := (pc + 1, ls, v :: v :: r)) hd (by simp only [stA, if_pos hv]; rfl)
theorem go_pop {v : Value} (hd : decode (mB m) pc = .ok (.pop, 1)) (hv : v.category = 1) : go m pc ls (v :: r) w I L P = go m (pc + 1) ls (r) w I L P := go_A (n := (pc + 1, ls, r)) hd (by simp only [stA, if_pos hv]; rfl)
theorem go_dup2 {v u : Value} (hd : decode (mB m) pc = .ok (.dup2, 1)) (hv : v.category = 1) (hu : u.category = 1) : go m pc ls (v :: u :: r) w I L P = go m (pc + 1) ls (v :: u :: v :: u :: r) w I L P := go_A (n := (pc + 1, ls, v :: u :: v :: u :: r)) hd (by simp only [stA, if_pos (And.intro hv hu)]; rfl)
theorem jmp_at {off : Int} {t : Nat} (ht : (pc : Int) + off = (t : Int)) : jmp pc off ls st = some (t, ls, st) := by unfold jmp; rw [ht, if_pos (by omega)]; rfl
theorem go_goto {off : Int} {t : Nat} (hd : decode (mB m) pc = .ok (.goto off, 3)) (ht : (pc : Int) + off = (t : Int)) : go m pc ls st w I L P = go m t ls st w I L P := go_A (n := (t, ls, st)) hd (by simp only [stA, jmp_at ht]; rfl)
theorem aIf_at {off : Int} {t : Nat} {b : Prop} {d : Decidable b} (ht : (pc : Int) + off = (t : Int)) : aIf pc off ls r b d = some (if b then (t, ls, r) else (pc + 3, ls, r)) := by unfold aIf; rw [ht, if_pos (by omega)]; by_cases hb : b <;> simp [hb]
theorem go_ifeq {x : Int32} {off : Int} {t : Nat} (hd : decode (mB m) pc = .ok (.ifCond .eq off, 3)) (ht : (pc : Int) + off = (t : Int)) : go m pc ls (.int x :: r) w I L P = if x = 0 then go m t ls r w I L P else go m (pc + 3) ls r w I L P := by
  rw [go_A hd (n := if x = 0 then (t, ls, r) else (pc + 3, ls, r)) (by simp only [stA, i1, aIf_at ht]; rfl)]
  by_cases hb : x = 0
  · rw [if_pos hb, if_pos hb]
  · rw [if_neg hb, if_neg hb]
theorem go_ifne {x : Int32} {off : Int} {t : Nat} (hd : decode (mB m) pc = .ok (.ifCond .ne off, 3)) (ht : (pc : Int) + off = (t : Int)) : go m pc ls (.int x :: r) w I L P = if x ≠ 0 then go m t ls r w I L P else go m (pc + 3) ls r w I L P := by
  rw [go_A hd (n := if x ≠ 0 then (t, ls, r) else (pc + 3, ls, r)) (by simp only [stA, i1, aIf_at ht]; rfl)]
  by_cases hb : x ≠ 0
  · rw [if_pos hb, if_pos hb]
  · rw [if_neg hb, if_neg hb]
theorem go_iflt {x : Int32} {off : Int} {t : Nat} (hd : decode (mB m) pc = .ok (.ifCond .lt off, 3)) (ht : (pc : Int) + off = (t : Int)) : go m pc ls (.int x :: r) w I L P = if x < 0 then go m t ls r w I L P else go m (pc + 3) ls r w I L P := by
  rw [go_A hd (n := if x < 0 then (t, ls, r) else (pc + 3, ls, r)) (by simp only [stA, i1, aIf_at ht]; rfl)]
  by_cases hb : x < 0
  · rw [if_pos hb, if_pos hb]
  · rw [if_neg hb, if_neg hb]
theorem go_ifge {x : Int32} {off : Int} {t : Nat} (hd : decode (mB m) pc = .ok (.ifCond .ge off, 3)) (ht : (pc : Int) + off = (t : Int)) : go m pc ls (.int x :: r) w I L P = if 0 ≤ x then go m t ls r w I L P else go m (pc + 3) ls r w I L P := by
  rw [go_A hd (n := if 0 ≤ x then (t, ls, r) else (pc + 3, ls, r)) (by simp only [stA, i1, aIf_at ht]; rfl)]
  by_cases hb : 0 ≤ x
  · rw [if_pos hb, if_pos hb]
  · rw [if_neg hb, if_neg hb]
theorem go_ifgt {x : Int32} {off : Int} {t : Nat} (hd : decode (mB m) pc = .ok (.ifCond .gt off, 3)) (ht : (pc : Int) + off = (t : Int)) : go m pc ls (.int x :: r) w I L P = if 0 < x then go m t ls r w I L P else go m (pc + 3) ls r w I L P := by
  rw [go_A hd (n := if 0 < x then (t, ls, r) else (pc + 3, ls, r)) (by simp only [stA, i1, aIf_at ht]; rfl)]
  by_cases hb : 0 < x
  · rw [if_pos hb, if_pos hb]
  · rw [if_neg hb, if_neg hb]
theorem go_ifle {x : Int32} {off : Int} {t : Nat} (hd : decode (mB m) pc = .ok (.ifCond .le off, 3)) (ht : (pc : Int) + off = (t : Int)) : go m pc ls (.int x :: r) w I L P = if x ≤ 0 then go m t ls r w I L P else go m (pc + 3) ls r w I L P := by
  rw [go_A hd (n := if x ≤ 0 then (t, ls, r) else (pc + 3, ls, r)) (by simp only [stA, i1, aIf_at ht]; rfl)]
  by_cases hb : x ≤ 0
  · rw [if_pos hb, if_pos hb]
  · rw [if_neg hb, if_neg hb]
theorem go_icmpeq {x y : Int32} {off : Int} {t : Nat} (hd : decode (mB m) pc = .ok (.if_icmp .eq off, 3)) (ht : (pc : Int) + off = (t : Int)) : go m pc ls (.int y :: .int x :: r) w I L P = if x = y then go m t ls r w I L P else go m (pc + 3) ls r w I L P := by
  rw [go_A hd (n := if x = y then (t, ls, r) else (pc + 3, ls, r)) (by simp only [stA, i2, aIf_at ht]; rfl)]
  by_cases hb : x = y
  · rw [if_pos hb, if_pos hb]
  · rw [if_neg hb, if_neg hb]
theorem go_icmpne {x y : Int32} {off : Int} {t : Nat} (hd : decode (mB m) pc = .ok (.if_icmp .ne off, 3)) (ht : (pc : Int) + off = (t : Int)) : go m pc ls (.int y :: .int x :: r) w I L P = if x ≠ y then go m t ls r w I L P else go m (pc + 3) ls r w I L P := by
  rw [go_A hd (n := if x ≠ y then (t, ls, r) else (pc + 3, ls, r)) (by simp only [stA, i2, aIf_at ht]; rfl)]
  by_cases hb : x ≠ y
  · rw [if_pos hb, if_pos hb]
  · rw [if_neg hb, if_neg hb]
theorem go_icmplt {x y : Int32} {off : Int} {t : Nat} (hd : decode (mB m) pc = .ok (.if_icmp .lt off, 3)) (ht : (pc : Int) + off = (t : Int)) : go m pc ls (.int y :: .int x :: r) w I L P = if x < y then go m t ls r w I L P else go m (pc + 3) ls r w I L P := by
  rw [go_A hd (n := if x < y then (t, ls, r) else (pc + 3, ls, r)) (by simp only [stA, i2, aIf_at ht]; rfl)]
  by_cases hb : x < y
  · rw [if_pos hb, if_pos hb]
  · rw [if_neg hb, if_neg hb]
theorem go_icmpge {x y : Int32} {off : Int} {t : Nat} (hd : decode (mB m) pc = .ok (.if_icmp .ge off, 3)) (ht : (pc : Int) + off = (t : Int)) : go m pc ls (.int y :: .int x :: r) w I L P = if y ≤ x then go m t ls r w I L P else go m (pc + 3) ls r w I L P := by
  rw [go_A hd (n := if y ≤ x then (t, ls, r) else (pc + 3, ls, r)) (by simp only [stA, i2, aIf_at ht]; rfl)]
  by_cases hb : y ≤ x
  · rw [if_pos hb, if_pos hb]
  · rw [if_neg hb, if_neg hb]
theorem go_icmpgt {x y : Int32} {off : Int} {t : Nat} (hd : decode (mB m) pc = .ok (.if_icmp .gt off, 3)) (ht : (pc : Int) + off = (t : Int)) : go m pc ls (.int y :: .int x :: r) w I L P = if y < x then go m t ls r w I L P else go m (pc + 3) ls r w I L P := by
  rw [go_A hd (n := if y < x then (t, ls, r) else (pc + 3, ls, r)) (by simp only [stA, i2, aIf_at ht]; rfl)]
  by_cases hb : y < x
  · rw [if_pos hb, if_pos hb]
  · rw [if_neg hb, if_neg hb]
theorem go_icmple {x y : Int32} {off : Int} {t : Nat} (hd : decode (mB m) pc = .ok (.if_icmp .le off, 3)) (ht : (pc : Int) + off = (t : Int)) : go m pc ls (.int y :: .int x :: r) w I L P = if x ≤ y then go m t ls r w I L P else go m (pc + 3) ls r w I L P := by
  rw [go_A hd (n := if x ≤ y then (t, ls, r) else (pc + 3, ls, r)) (by simp only [stA, i2, aIf_at ht]; rfl)]
  by_cases hb : x ≤ y
  · rw [if_pos hb, if_pos hb]
  · rw [if_neg hb, if_neg hb]
theorem go_ifnullN {off : Int} {t : Nat} (hd : decode (mB m) pc = .ok (.ifnull off, 3)) (ht : (pc : Int) + off = (t : Int)) : go m pc ls (.null :: r) w I L P = go m t ls r w I L P := go_A (n := (t, ls, r)) hd (by simp only [stA, jmp_at ht]; rfl)
theorem go_ifnullR {off : Int} {a : Nat} (hd : decode (mB m) pc = .ok (.ifnull off, 3)) : go m pc ls (.ref a :: r) w I L P = go m (pc + 3) ls r w I L P := go_A (n := (pc + 3, ls, r)) hd rfl
theorem go_ifnonnullR {off : Int} {t a : Nat} (hd : decode (mB m) pc = .ok (.ifnonnull off, 3)) (ht : (pc : Int) + off = (t : Int)) : go m pc ls (.ref a :: r) w I L P = go m t ls r w I L P := go_A (n := (t, ls, r)) hd (by simp only [stA, jmp_at ht]; rfl)
theorem go_ifnonnullN {off : Int} (hd : decode (mB m) pc = .ok (.ifnonnull off, 3)) : go m pc ls (.null :: r) w I L P = go m (pc + 3) ls r w I L P := go_A (n := (pc + 3, ls, r)) hd rfl
theorem go_getI {x a ci k : Nat} (hd : decode (mB m) pc = .ok (.getfield x, 3)) (ho : mO m = o) (hf : fR o x = some (ci, k)) (hk : fK ci k = 0) (hT : w.1 a = some (ci, 0)) : go m pc ls (.ref a :: r) w I L P = go m (pc + 3) ls (.int (I a k) :: r) w I L P := by
  subst ho
  exact go_M (n := (pc + 3, .int (I a k) :: r, w, I, L, P)) hd rfl (by simp only [stM, hf, hT, hk, fv]; rfl)
theorem go_getZ {x a ci k : Nat} (hd : decode (mB m) pc = .ok (.getfield x, 3)) (ho : mO m = o) (hf : fR o x = some (ci, k)) (hk : fK ci k = 1) (hT : w.1 a = some (ci, 0)) : go m pc ls (.ref a :: r) w I L P = go m (pc + 3) ls (.int (I a k &&& 1) :: r) w I L P := by
  subst ho
  exact go_M (n := (pc + 3, .int (I a k &&& 1) :: r, w, I, L, P)) hd rfl (by simp only [stM, hf, hT, hk, fv]; rfl)
theorem go_getJ {x a ci k : Nat} (hd : decode (mB m) pc = .ok (.getfield x, 3)) (ho : mO m = o) (hf : fR o x = some (ci, k)) (hk : fK ci k = 2) (hT : w.1 a = some (ci, 0)) : go m pc ls (.ref a :: r) w I L P = go m (pc + 3) ls (.long (L a k) :: r) w I L P := by
  subst ho
  exact go_M (n := (pc + 3, .long (L a k) :: r, w, I, L, P)) hd rfl (by simp only [stM, hf, hT, hk, fv]; rfl)
theorem go_getR {x a ci k : Nat} (hd : decode (mB m) pc = .ok (.getfield x, 3)) (ho : mO m = o) (hf : fR o x = some (ci, k)) (hk : fK ci k = 3) (hT : w.1 a = some (ci, 0)) : go m pc ls (.ref a :: r) w I L P = go m (pc + 3) ls (va_rf (P a k) :: r) w I L P := by
  subst ho
  exact go_M (n := (pc + 3, va_rf (P a k) :: r, w, I, L, P)) hd rfl (by simp only [stM, hf, hT, hk, fv]; rfl)
theorem go_putI {x a ci k : Nat} {v : Int32} (hd : decode (mB m) pc = .ok (.putfield x, 3)) (ho : mO m = o) (hf : fR o x = some (ci, k)) (hk : fK ci k = 0) (hfin : finOk m ci k = true)  (hT : w.1 a = some (ci, 0)) : go m pc ls (.int v :: .ref a :: r) w I L P = go m (pc + 3) ls r w (updI I a k v) L P := by
  subst ho
  exact go_M (n := (pc + 3, r, w, updI I a k v, L, P)) hd rfl (by simp only [stM, hf, hk, putV, if_pos (And.intro hT hfin)]; rfl)
theorem go_putZ {x a ci k : Nat} {v : Int32} (hd : decode (mB m) pc = .ok (.putfield x, 3)) (ho : mO m = o) (hf : fR o x = some (ci, k)) (hk : fK ci k = 1) (hfin : finOk m ci k = true) (hz : v &&& 1 = v) (hT : w.1 a = some (ci, 0)) : go m pc ls (.int v :: .ref a :: r) w I L P = go m (pc + 3) ls r w (updI I a k v) L P := by
  subst ho
  exact go_M (n := (pc + 3, r, w, updI I a k v, L, P)) hd rfl (by simp only [stM, hf, hk, putV, if_pos hz, if_pos (And.intro hT hfin)]; rfl)
theorem go_putJ {x a ci k : Nat} {v : Int64} (hd : decode (mB m) pc = .ok (.putfield x, 3)) (ho : mO m = o) (hf : fR o x = some (ci, k)) (hk : fK ci k = 2) (hfin : finOk m ci k = true)  (hT : w.1 a = some (ci, 0)) : go m pc ls (.long v :: .ref a :: r) w I L P = go m (pc + 3) ls r w I (updL L a k v) P := by
  subst ho
  exact go_M (n := (pc + 3, r, w, I, updL L a k v, P)) hd rfl (by simp only [stM, hf, hk, putV, if_pos (And.intro hT hfin)]; rfl)
theorem go_putR {x a ci k : Nat} {v : Nat} (hd : decode (mB m) pc = .ok (.putfield x, 3)) (ho : mO m = o) (hf : fR o x = some (ci, k)) (hk : fK ci k = 3) (hfin : finOk m ci k = true)  (hT : w.1 a = some (ci, 0)) : go m pc ls (.ref v :: .ref a :: r) w I L P = go m (pc + 3) ls r w I L (updP P a k (some v)) := by
  subst ho
  exact go_M (n := (pc + 3, r, w, I, L, updP P a k (some v))) hd rfl (by simp only [stM, hf, hk, putV, if_pos (And.intro hT hfin)]; rfl)
theorem go_putN {x a ci k : Nat}  (hd : decode (mB m) pc = .ok (.putfield x, 3)) (ho : mO m = o) (hf : fR o x = some (ci, k)) (hk : fK ci k = 3) (hfin : finOk m ci k = true)  (hT : w.1 a = some (ci, 0)) : go m pc ls (.null :: .ref a :: r) w I L P = go m (pc + 3) ls r w I L (updP P a k none) := by
  subst ho
  exact go_M (n := (pc + 3, r, w, I, L, updP P a k none)) hd rfl (by simp only [stM, hf, hk, putV, if_pos (And.intro hT hfin)]; rfl)
theorem go_iald {x : Int32} {a : Nat}  (hd : decode (mB m) pc = .ok (.iaload, 1)) (h : inA w a 8 x) : go m pc ls (.int x :: .ref a :: r) w I L P = go m (pc + 1) ls (.int (I a x.toNatClampNeg) :: r) w I L P := by
  obtain ⟨n, h1, h2⟩ := inA_inv h
  exact go_M (n := (pc + 1, .int (I a x.toNatClampNeg) :: r, w, I, L, P)) hd rfl (by simp only [stM, h1, h2]; rfl)
theorem go_iald14 {x : Int32} {a : Nat}  (hd : decode (mB m) pc = .ok (.iaload, 1)) (h : inA w a 14 x) : go m pc ls (.int x :: .ref a :: r) w I L P = go m (pc + 1) ls (.int (I a x.toNatClampNeg) :: r) w I L P := by
  obtain ⟨n, h1, h2⟩ := inA_inv h
  exact go_M (n := (pc + 1, .int (I a x.toNatClampNeg) :: r, w, I, L, P)) hd rfl (by simp only [stM, h1, h2]; rfl)
theorem go_aald10 {x : Int32} {a : Nat}  (hd : decode (mB m) pc = .ok (.aaload, 1)) (h : inA w a 10 x) : go m pc ls (.int x :: .ref a :: r) w I L P = go m (pc + 1) ls (va_rf (P a x.toNatClampNeg) :: r) w I L P := by
  obtain ⟨n, h1, h2⟩ := inA_inv h
  exact go_M (n := (pc + 1, va_rf (P a x.toNatClampNeg) :: r, w, I, L, P)) hd rfl (by simp only [stM, h1, h2]; rfl)
theorem go_aald11 {x : Int32} {a : Nat}  (hd : decode (mB m) pc = .ok (.aaload, 1)) (h : inA w a 11 x) : go m pc ls (.int x :: .ref a :: r) w I L P = go m (pc + 1) ls (va_rf (P a x.toNatClampNeg) :: r) w I L P := by
  obtain ⟨n, h1, h2⟩ := inA_inv h
  exact go_M (n := (pc + 1, va_rf (P a x.toNatClampNeg) :: r, w, I, L, P)) hd rfl (by simp only [stM, h1, h2]; rfl)
theorem go_aald12 {x : Int32} {a : Nat}  (hd : decode (mB m) pc = .ok (.aaload, 1)) (h : inA w a 12 x) : go m pc ls (.int x :: .ref a :: r) w I L P = go m (pc + 1) ls (va_rf (P a x.toNatClampNeg) :: r) w I L P := by
  obtain ⟨n, h1, h2⟩ := inA_inv h
  exact go_M (n := (pc + 1, va_rf (P a x.toNatClampNeg) :: r, w, I, L, P)) hd rfl (by simp only [stM, h1, h2]; rfl)
theorem go_aald13 {x : Int32} {a : Nat}  (hd : decode (mB m) pc = .ok (.aaload, 1)) (h : inA w a 13 x) : go m pc ls (.int x :: .ref a :: r) w I L P = go m (pc + 1) ls (va_rf (P a x.toNatClampNeg) :: r) w I L P := by
  obtain ⟨n, h1, h2⟩ := inA_inv h
  exact go_M (n := (pc + 1, va_rf (P a x.toNatClampNeg) :: r, w, I, L, P)) hd rfl (by simp only [stM, h1, h2]; rfl)
theorem go_iast {x : Int32} {a : Nat} {v : Int32} (hd : decode (mB m) pc = .ok (.iastore, 1)) (h : inA w a 8 x) : go m pc ls (.int v :: .int x :: .ref a :: r) w I L P = go m (pc + 1) ls (r) w (updI I a x.toNatClampNeg v) L P := by
  obtain ⟨n, h1, h2⟩ := inA_inv h
  exact go_M (n := (pc + 1, r, w, updI I a x.toNatClampNeg v, L, P)) hd rfl (by simp only [stM, h1, h2]; rfl)
theorem go_aast10 {x : Int32} {a v : Nat} (hd : decode (mB m) pc = .ok (.aastore, 1)) (h : inA w a 10 x) (hv : w.1 v = some (0, 0)) : go m pc ls (.ref v :: .int x :: .ref a :: r) w I L P = go m (pc + 1) ls r w I L (updP P a x.toNatClampNeg (some v)) := by
  obtain ⟨n, h1, h2⟩ := inA_inv h
  exact go_M (n := (pc + 1, r, w, I, L, updP P a x.toNatClampNeg (some v))) hd rfl (by simp only [stM, h1, h2, hv]; rfl)
theorem go_aast11 {x : Int32} {a v : Nat} (hd : decode (mB m) pc = .ok (.aastore, 1)) (h : inA w a 11 x) (hv : w.1 v = some (1, 0)) : go m pc ls (.ref v :: .int x :: .ref a :: r) w I L P = go m (pc + 1) ls r w I L (updP P a x.toNatClampNeg (some v)) := by
  obtain ⟨n, h1, h2⟩ := inA_inv h
  exact go_M (n := (pc + 1, r, w, I, L, updP P a x.toNatClampNeg (some v))) hd rfl (by simp only [stM, h1, h2, hv]; rfl)
theorem go_aast12 {x : Int32} {a v : Nat} (hd : decode (mB m) pc = .ok (.aastore, 1)) (h : inA w a 12 x) (hv : w.1 v = some (2, 0)) : go m pc ls (.ref v :: .int x :: .ref a :: r) w I L P = go m (pc + 1) ls r w I L (updP P a x.toNatClampNeg (some v)) := by
  obtain ⟨n, h1, h2⟩ := inA_inv h
  exact go_M (n := (pc + 1, r, w, I, L, updP P a x.toNatClampNeg (some v))) hd rfl (by simp only [stM, h1, h2, hv]; rfl)
theorem go_aast13 {x : Int32} {a v : Nat} (hd : decode (mB m) pc = .ok (.aastore, 1)) (h : inA w a 13 x) (hv : w.1 v = some (3, 0)) : go m pc ls (.ref v :: .int x :: .ref a :: r) w I L P = go m (pc + 1) ls r w I L (updP P a x.toNatClampNeg (some v)) := by
  obtain ⟨n, h1, h2⟩ := inA_inv h
  exact go_M (n := (pc + 1, r, w, I, L, updP P a x.toNatClampNeg (some v))) hd rfl (by simp only [stM, h1, h2, hv]; rfl)
theorem go_alen8 {a : Nat} (hd : decode (mB m) pc = .ok (.arraylength, 1)) (h : isAr w a 8) : go m pc ls (.ref a :: r) w I L P = go m (pc + 1) ls (.int (alen w a) :: r) w I L P := by
  obtain ⟨n, h1⟩ := isAr_inv h
  exact go_M (n := (pc + 1, .int (alen w a) :: r, w, I, L, P)) hd rfl (by simp only [stM, h1, alen]; rfl)
theorem go_alen9 {a : Nat} (hd : decode (mB m) pc = .ok (.arraylength, 1)) (h : isAr w a 9) : go m pc ls (.ref a :: r) w I L P = go m (pc + 1) ls (.int (alen w a) :: r) w I L P := by
  obtain ⟨n, h1⟩ := isAr_inv h
  exact go_M (n := (pc + 1, .int (alen w a) :: r, w, I, L, P)) hd rfl (by simp only [stM, h1, alen]; rfl)
theorem go_alen10 {a : Nat} (hd : decode (mB m) pc = .ok (.arraylength, 1)) (h : isAr w a 10) : go m pc ls (.ref a :: r) w I L P = go m (pc + 1) ls (.int (alen w a) :: r) w I L P := by
  obtain ⟨n, h1⟩ := isAr_inv h
  exact go_M (n := (pc + 1, .int (alen w a) :: r, w, I, L, P)) hd rfl (by simp only [stM, h1, alen]; rfl)
theorem go_alen11 {a : Nat} (hd : decode (mB m) pc = .ok (.arraylength, 1)) (h : isAr w a 11) : go m pc ls (.ref a :: r) w I L P = go m (pc + 1) ls (.int (alen w a) :: r) w I L P := by
  obtain ⟨n, h1⟩ := isAr_inv h
  exact go_M (n := (pc + 1, .int (alen w a) :: r, w, I, L, P)) hd rfl (by simp only [stM, h1, alen]; rfl)
theorem go_alen12 {a : Nat} (hd : decode (mB m) pc = .ok (.arraylength, 1)) (h : isAr w a 12) : go m pc ls (.ref a :: r) w I L P = go m (pc + 1) ls (.int (alen w a) :: r) w I L P := by
  obtain ⟨n, h1⟩ := isAr_inv h
  exact go_M (n := (pc + 1, .int (alen w a) :: r, w, I, L, P)) hd rfl (by simp only [stM, h1, alen]; rfl)
theorem go_alen13 {a : Nat} (hd : decode (mB m) pc = .ok (.arraylength, 1)) (h : isAr w a 13) : go m pc ls (.ref a :: r) w I L P = go m (pc + 1) ls (.int (alen w a) :: r) w I L P := by
  obtain ⟨n, h1⟩ := isAr_inv h
  exact go_M (n := (pc + 1, .int (alen w a) :: r, w, I, L, P)) hd rfl (by simp only [stM, h1, alen]; rfl)
theorem go_alen14 {a : Nat} (hd : decode (mB m) pc = .ok (.arraylength, 1)) (h : isAr w a 14) : go m pc ls (.ref a :: r) w I L P = go m (pc + 1) ls (.int (alen w a) :: r) w I L P := by
  obtain ⟨n, h1⟩ := isAr_inv h
  exact go_M (n := (pc + 1, .int (alen w a) :: r, w, I, L, P)) hd rfl (by simp only [stM, h1, alen]; rfl)
theorem go_new {x q ci kc ks nf : Nat} {T : Nat → Option (Nat × Nat)} (hd : decode (mB m) pc = .ok (.new x, 3)) (ho : mO m = o) (hn : nR o x = some ci) (h8 : ci < 8) (hf : nF ci = nf) : go m pc ls st (T, some q, kc, ks) I L P = go m (pc + 3) ls (.ref q :: st) (tagU T q ci 0, some (q + 1), kc + 1, ks + nf) (rowI I q) (rowL L q) (rowP P q) := by
  subst ho; subst hf
  exact go_M (n := (pc + 3, .ref q :: st, newT (T, some q, kc, ks) q ci 0 (nF ci), rowI I q, rowL L q, rowP P q)) hd rfl (by simp only [stM, hn, if_pos h8]; rfl)
theorem go_newI {x : Int32} {q kc ks : Nat} {T : Nat → Option (Nat × Nat)} (hd : decode (mB m) pc = .ok (.newarray .int, 2)) (h : ¬ x < 0 ∧ x.toNatClampNeg ≤ 65536) : go m pc ls (.int x :: r) (T, some q, kc, ks) I L P = go m (pc + 2) ls (.ref q :: r) (tagU T q 8 x.toNatClampNeg, some (q + 1), kc + 1, ks + x.toNatClampNeg) (rowI I q) L P := by
  exact go_M (n := (pc + 2, .ref q :: r, newT (T, some q, kc, ks) q 8 x.toNatClampNeg x.toNatClampNeg, rowI I q, L, P)) hd rfl (by simp only [stM, if_pos h]; rfl)
theorem go_newR {x : Int32} {j q kc ks ci : Nat} {T : Nat → Option (Nat × Nat)} (hd : decode (mB m) pc = .ok (.anewarray j, 3)) (ho : mO m = o) (hn : nR o j = some ci) (h : ci < 4 ∧ ¬ x < 0 ∧ x.toNatClampNeg ≤ 65536) : go m pc ls (.int x :: r) (T, some q, kc, ks) I L P = go m (pc + 3) ls (.ref q :: r) (tagU T q (10 + ci) x.toNatClampNeg, some (q + 1), kc + 1, ks + x.toNatClampNeg) I L (rowP P q) := by
  subst ho
  exact go_M (n := (pc + 3, .ref q :: r, newT (T, some q, kc, ks) q (10 + ci) x.toNatClampNeg x.toNatClampNeg, I, L, rowP P q)) hd rfl (by simp only [stM, hn, if_pos h]; rfl)
theorem go_obj {x y a : Nat} (hd : decode (mB m) pc = .ok (.invokespecial x, 3)) (ho : mO m = o) (hc : cR o x = some (y, 7)) (h : 1 ≤ mF m ∧ 2 * r.length + 12 ≤ mW m) : go m pc ls (.ref a :: r) w I L P = go m (pc + 3) ls r w I L P := by
  subst ho
  exact go_M (n := (pc + 3, r, w, I, L, P)) hd rfl (by simp only [stM, hc, if_pos h]; rfl)
theorem go_min {j y' : Nat} {x y : Int32} (hd : decode (mB m) pc = .ok (.invokestatic j, 3)) (ho : mO m = o) (hc : cR o j = some (y', 8)) (h : 1 ≤ mF m ∧ 2 * r.length + 13 ≤ mW m) : go m pc ls (.int y :: .int x :: r) w I L P = go m (pc + 3) ls (.int (if y < x then y else x) :: r) w I L P := by
  subst ho
  exact go_M (n := (pc + 3, .int (if y < x then y else x) :: r, w, I, L, P)) hd rfl (by simp only [stM, hc, if_pos h]; rfl)
def cpOk (w : Wd) (a0 a1 : Nat) (sp dp n : Int32) : Prop := ∃ n0 n1, w.1 a0 = some (8, n0) ∧ w.1 a1 = some (8, n1) ∧ ¬ sp < 0 ∧ ¬ dp < 0 ∧ ¬ n < 0 ∧ sp.toNatClampNeg + n.toNatClampNeg ≤ n0 ∧ dp.toNatClampNeg + n.toNatClampNeg ≤ n1
theorem go_cpy {j y' a0 a1 : Nat} {sp dp n : Int32} (hd : decode (mB m) pc = .ok (.invokestatic j, 3)) (ho : mO m = o) (hc : cR o j = some (y', 9)) (h : 1 ≤ mF m ∧ 2 * r.length + 18 ≤ mW m) (hk : cpOk w a0 a1 sp dp n) : go m pc ls (.int n :: .int dp :: .ref a1 :: .int sp :: .ref a0 :: r) w I L P = go m (pc + 3) ls r w (cpyI I a0 sp.toNatClampNeg a1 dp.toNatClampNeg n.toNatClampNeg) L P := by
  subst ho
  obtain ⟨n0, n1, h1, h2, h3⟩ := hk
  exact go_M (n := (pc + 3, r, w, cpyI I a0 sp.toNatClampNeg a1 dp.toNatClampNeg n.toNatClampNeg, L, P)) hd rfl (by simp only [stM, hc, h1, h2]; rw [if_pos trivial, if_pos ⟨h.1, h.2, h3⟩])
-- ends
theorem go_retV (hd : decode (mB m) pc = .ok (.return_, 1)) (hr : mR m = none) : go m pc ls [] w I L P = some (.inl none, w, I, L, P) := go_R hd rfl rfl rfl (by simp [stR, hr])
theorem go_retI {x : Int32} (hd : decode (mB m) pc = .ok (.ireturn, 1)) (hr : mR m = some .int) : go m pc ls [.int x] w I L P = some (.inl (some (.int x)), w, I, L, P) := go_R hd rfl rfl rfl (by simp [stR, hr])
theorem go_retZ {x : Int32} (hd : decode (mB m) pc = .ok (.ireturn, 1)) (hr : mR m = some .boolean) (hx : x &&& 1 = x) : go m pc ls [.int x] w I L P = some (.inl (some (.int x)), w, I, L, P) := go_R hd rfl rfl rfl (by simp [stR, hr, hx])
theorem go_retJ {x : Int64} (hd : decode (mB m) pc = .ok (.lreturn, 1)) (hr : mR m = some .long) : go m pc ls [.long x] w I L P = some (.inl (some (.long x)), w, I, L, P) := go_R hd rfl rfl rfl (by simp [stR, hr])
theorem go_retD {x : UInt64} (hd : decode (mB m) pc = .ok (.dreturn, 1)) (hr : mR m = some .double) : go m pc ls [.double x] w I L P = some (.inl (some (.double x)), w, I, L, P) := go_R hd rfl rfl rfl (by simp [stR, hr])
theorem go_retR {a : Nat} {C : String} (hd : decode (mB m) pc = .ok (.areturn, 1)) (hr : mR m = some (.object C)) : go m pc ls [.ref a] w I L P = some (.inl (some (.ref a)), w, I, L, P) := go_R hd rfl rfl rfl (by simp [stR, hr])
theorem go_retN {C : String} (hd : decode (mB m) pc = .ok (.areturn, 1)) (hr : mR m = some (.object C)) : go m pc ls [.null] w I L P = some (.inl (some .null), w, I, L, P) := go_R hd rfl rfl rfl (by simp [stR, hr])
theorem go_thr {ik is x e : Nat} (d0 : decode (mB m) pc = .ok (.new ik, 3)) (ho : mO m = 6) (hn : nR 6 ik = some e) (he : e = 100 + x) (hx : x < 3) (d3 : decode (mB m) (pc + 3) = .ok (.dup, 1)) (d4 : decode (mB m) (pc + 4) = .ok (.ldc is, 2)) (d6 : decode (mB m) (pc + 6) = .ok (.invokespecial (xIx x), 3)) (d9 : decode (mB m) (pc + 9) = .ok (.athrow, 1)) (hs : sR 6 is = true) (hh : mH m = []) (hf : 6 ≤ mF m) (hw : 2 * st.length + 82 ≤ mW m) : go m pc ls st w I L P = some (.inr x, thrT w, I, L, P) := by
  subst he
  have h8 : ¬ 100 + x < 8 := by omega
  refine go_T d0 rfl ?_ rfl rfl ?_
  · simp only [stM, ho, hn]
    cases w.2.1 <;> simp [h8]
  · simp only [stT, ho, hn, d3, d4, d6, d9, hs, hh]
    have h7 : xIx x = (if 100 + x = 100 then 110 else if 100 + x = 101 then 67 else 149) := by
      have h9 : x = 0 ∨ x = 1 ∨ x = 2 := by omega
      rcases h9 with rfl | rfl | rfl <;> rfl
    rw [if_pos ⟨trivial, by omega, by omega, trivial, trivial, trivial, h7, hf, hw⟩]
    congr 1; omega
-- calls
theorem cls1_v {y b : Nat} {bs rs : List Value} (hs : mS y = false) (hst : st = bs.reverse ++ .ref b :: rs) (hn : bs.length = mA y) (hrm : rmk m y = true) (hr : rs.length ≤ 4) (hen : (entA (.ref b :: bs)).length ≤ mL y) (virt : Bool) (hT : virt = false ∨ w.1 b = some (mO y, 0)) : cls1 m y st w virt = some (y, .ref b :: bs, rs) := by
  unfold rmk at hrm
  simp only [Bool.and_eq_true, decide_eq_true_eq] at hrm
  unfold cls1
  have e1 : (st.take (mA y + 1)).reverse = .ref b :: bs := by
    rw [hst, List.append_cons, List.take_append_of_le_length (by simp; omega), List.take_of_length_le (by simp; omega)]
    simp
  have e2 : st.drop (mA y + 1) = rs := by
    rw [hst, List.append_cons, List.drop_append_of_le_length (by simp; omega), List.drop_of_length_le (by simp; omega)]
    simp
  simp only [hs, Bool.false_eq_true, if_false, e1, e2]
  rw [if_pos ⟨by simp; omega, hrm.1.1, hrm.1.2, by omega, hen, hrm.2⟩]
  simp only [if_pos hT]
theorem cls1_s {y : Nat} {as rs : List Value} (hs : mS y = true) (hst : st = as.reverse ++ rs) (hn : as.length = mA y) (hrm : rmk m y = true) (hr : rs.length ≤ 4) (hen : (entA as).length ≤ mL y) (virt : Bool) : cls1 m y st w virt = some (y, as, rs) := by
  unfold rmk at hrm
  simp only [Bool.and_eq_true, decide_eq_true_eq] at hrm
  unfold cls1
  have e1 : (st.take (mA y)).reverse = as := by
    rw [hst, List.take_append_of_le_length (by simp; omega), List.take_of_length_le (by simp; omega)]
    simp
  have e2 : st.drop (mA y) = rs := by
    rw [hst, List.drop_append_of_le_length (by simp; omega), List.drop_of_length_le (by simp; omega)]
    simp
  simp only [hs, if_true, e1, e2]
  rw [if_pos ⟨by omega, hrm.1.1, hrm.1.2, by omega, hen, hrm.2⟩]
theorem go_Cn {i : Instr} {len y : Nat} {as rs : List Value} (hd : decode (mB m) pc = .ok (i, len)) (hA : stA (mO m) pc i len ls st = none) (hM : stM m pc i len st w I L P = none) (h : stC m i len st w = some (y, as, rs)) (hh : mH m = []) : go m pc ls st w I L P = kC (call y as w I L P) (fun v w I L P => go m (pc + 3) ls (v.toList ++ rs) w I L P) := by
  rw [go_C hd hA hM h]
  cases call y as w I L P with
  | none => rfl
  | some o =>
    obtain ⟨o1, w', I', L', P'⟩ := o
    cases o1 with
    | inl v => rfl
    | inr x => simp only [hh]; rfl
theorem go_vir {x y kd b : Nat} {bs rs : List Value} (hd : decode (mB m) pc = .ok (.invokevirtual x, 3)) (ho : mO m = o) (hh : mH m = []) (hc : cR o x = some (y, kd)) (hkd : kd = 0 ∨ kd = 1) (hs : mS y = false) (hst : st = bs.reverse ++ .ref b :: rs) (hn : bs.length = mA y) (hrm : rmk m y = true) (hr : rs.length ≤ 4) (hen : (entA (.ref b :: bs)).length ≤ mL y) (hT : w.1 b = some (mO y, 0)) :
    go m pc ls st w I L P = kC (call y (.ref b :: bs) w I L P) (fun v w I L P => go m (pc + 3) ls (v.toList ++ rs) w I L P) := by
  subst ho
  have h1 := cls1_v (m := m) hs hst hn hrm hr hen true (Or.inr hT)
  rcases hkd with rfl | rfl <;> exact go_Cn hd rfl rfl (by simp only [stC, hc, hs, h1]; rfl) hh
theorem go_spc {x y kd b : Nat} {bs rs : List Value} (hd : decode (mB m) pc = .ok (.invokespecial x, 3)) (ho : mO m = o) (hh : mH m = []) (hc : cR o x = some (y, kd)) (hkd : kd = 5 ∨ kd = 6) (hs : mS y = false) (hst : st = bs.reverse ++ .ref b :: rs) (hn : bs.length = mA y) (hrm : rmk m y = true) (hr : rs.length ≤ 4) (hen : (entA (.ref b :: bs)).length ≤ mL y) :
    go m pc ls st w I L P = kC (call y (.ref b :: bs) w I L P) (fun v w I L P => go m (pc + 3) ls (v.toList ++ rs) w I L P) := by
  subst ho
  have h1 := cls1_v (w := w) (m := m) hs hst hn hrm hr hen false (Or.inl rfl)
  rcases hkd with rfl | rfl <;> exact go_Cn hd rfl (by simp only [stM, hc]; rfl) (by simp only [stC, hc, hs, h1]; rfl) hh
theorem go_sta {x y kd : Nat} {as rs : List Value} (hd : decode (mB m) pc = .ok (.invokestatic x, 3)) (ho : mO m = o) (hh : mH m = []) (hc : cR o x = some (y, kd)) (hkd : kd = 2 ∨ kd = 3 ∨ kd = 4) (hs : mS y = true) (hst : st = as.reverse ++ rs) (hn : as.length = mA y) (hrm : rmk m y = true) (hr : rs.length ≤ 4) (hen : (entA as).length ≤ mL y) :
    go m pc ls st w I L P = kC (call y as w I L P) (fun v w I L P => go m (pc + 3) ls (v.toList ++ rs) w I L P) := by
  subst ho
  have h1 := cls1_s (w := w) (m := m) hs hst hn hrm hr hen false
  rcases hkd with rfl | rfl | rfl <;> exact go_Cn hd rfl (by simp only [stM, hc]; rfl) (by simp only [stC, hc, hs, h1]; rfl) hh
/-- in a method with handlers: what follows a return, what follows a throw -/
theorem go_virH {x y kd b : Nat} {bs rs : List Value} {v : Option Value} {w' : Wd} {I' : MI} {L' : ML} {P' : MP} (hd : decode (mB m) pc = .ok (.invokevirtual x, 3)) (ho : mO m = o) (hc : cR o x = some (y, kd)) (hkd : kd = 0 ∨ kd = 1) (hs : mS y = false) (hst : st = bs.reverse ++ .ref b :: rs) (hn : bs.length = mA y) (hrm : rmk m y = true) (hr : rs.length ≤ 4) (hen : (entA (.ref b :: bs)).length ≤ mL y) (hT : w.1 b = some (mO y, 0))
    (hcall : call y (.ref b :: bs) w I L P = some (.inl v, w', I', L', P')) : go m pc ls st w I L P = go m (pc + 3) ls (v.toList ++ rs) w' I' L' P' := by
  subst ho
  have h1 := cls1_v (m := m) hs hst hn hrm hr hen true (Or.inr hT)
  rcases hkd with rfl | rfl <;> rw [go_C hd rfl rfl (by simp only [stC, hc, hs, h1]; rfl), hcall]
theorem go_virT {x y kd b e pc' k : Nat} {bs rs : List Value} {w' : Wd} {I' : MI} {L' : ML} {P' : MP} (hd : decode (mB m) pc = .ok (.invokevirtual x, 3)) (ho : mO m = o) (hc : cR o x = some (y, kd)) (hkd : kd = 0 ∨ kd = 1) (hs : mS y = false) (hst : st = bs.reverse ++ .ref b :: rs) (hn : bs.length = mA y) (hrm : rmk m y = true) (hr : rs.length ≤ 4) (hen : (entA (.ref b :: bs)).length ≤ mL y) (hT : w.1 b = some (mO y, 0))
    (hmh : mH m ≠ []) (hh : hnd m pc e = some (pc', k)) (hk : k < ls.length) (hcall : call y (.ref b :: bs) w I L P = some (.inr e, w', I', L', P')) : go m pc ls st w I L P = go m pc' (lset1 ls k unk) [] w' I' L' P' := by
  subst ho
  have h1 := cls1_v (m := m) hs hst hn hrm hr hen true (Or.inr hT)
  have key : ∀ i, decode (mB m) pc = .ok (i, 3) → stA (mO m) pc i 3 ls st = none → stM m pc i 3 st w I L P = none → stC m i 3 st w = some (y, .ref b :: bs, rs) → go m pc ls st w I L P = go m pc' (lset1 ls k unk) [] w' I' L' P' := by
    intro i g1 g2 g3 g4
    rw [go_C g1 g2 g3 g4, hcall]
    simp only
    cases hm : mH m with
    | nil => exact absurd hm hmh
    | cons a t => simp only [hh, if_pos hk]
  rcases hkd with rfl | rfl <;> exact key _ hd rfl rfl (by simp only [stC, hc, hs, h1]; rfl)
end GI
theorem isA_ref (a : Nat) : isA (.ref a) = true := rfl
theorem isA_null : isA .null = true := rfl
theorem isA_rf (r : Option Nat) : isA (va_rf r) = true := by cases r <;> rfl
theorem rf_some (a : Nat) : va_rf (some a) = .ref a := rfl
theorem rf_none : va_rf none = .null := rfl
theorem fix1_int (x : Int32) : fix1 (.int x) = .int x := rfl
theorem fix1_ref (a : Nat) : fix1 (.ref a) = .ref a := rfl
theorem fix1_null : fix1 .null = .null := rfl
theorem fix1_unk : fix1 unk = unk := rfl
theorem fix1_long (x : Int64) : fix1 (.long x) = unk := rfl
theorem fix1_double (x : UInt64) : fix1 (.double x) = unk := rfl
theorem fix1_rf (r : Option Nat) : fix1 (va_rf r) = va_rf r := by cases r <;> rfl
