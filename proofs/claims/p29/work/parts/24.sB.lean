
def shN (N : Nat → Int32) (a j : Nat) : Nat → Int32 := fun k => if a ≤ k ∧ k < a + j then N (k + 8) else N k
/-- the first message of a caller leaves -/
def leavesN (N : Nat → Int32) (c as : Nat) : Nat → Int32 := 
  let M := shN N (215 + 40 * c) 24
  let M1 := sN M (207 + 40 * c) (M (207 + 40 * c) + (-1))
  sN M1 (207 + 40 * c + as) (M1 (207 + 40 * c + as) + nI 1)
theorem i64_of (k : Nat) (h : k < 2147483648) : Int64.toInt (nI k).toInt64 = k := by rw [Int32.toInt_toInt64, nI_toInt h]
theorem l2i_le (x y : Int32) : x.toInt64 ≤ y.toInt64 ↔ x ≤ y := by rw [Int64.le_iff_toInt_le, Int32.toInt_toInt64, Int32.toInt_toInt64, Int32.le_iff_toInt_le]
theorem l0_i : (0 : Int64) = (nI 0).toInt64 := by decide
def hdr (N : Nat → Int32) (c : Nat) : Int32 := nI 2 * N (215 + 40 * c) + N (216 + 40 * c)
theorem fin0 (N M : Nat → Int32) (p : Prop) [Decidable p] (k : Nat) : (if p then N else M) k = if p then N k else M k := by split <;> rfl
def losesN (N : Nat → Int32) (c : Nat) : Nat → Int32 :=
  let M1 := sN N 5 (N 5 &&& ((nI 1 <<< (nI c &&& 31)) ^^^ (-1)))
  let M2 := sN M1 (218 + 40 * c) (M1 (218 + 40 * c) + nI 1)
  let M3 := sN M2 (212 + 40 * c) (M2 (212 + 40 * c) + nI 1)
  if M3 (218 + 40 * c) < M3 3 then M3 else leavesN M3 c 4
def snt (N : Nat → Int32) (h : Int32) (c : Nat) : Int32 := if h = 0 then N (219 + 40 * c + Int32.toNatClampNeg (N 7)) else hdr N c
def dnOk (N : Nat → Int32) : Prop := ∃ k, k < 4 ∧ N 7 = nI k
def sbt (N : Nat → Int32) (h : Int32) (c : Nat) : Int32 := (snt N h c >>> ((nI 7 - N 6) &&& 31)) &&& nI 1
theorem n10 : ¬ (nI 1 = 0) := by decide
theorem n00 : (nI 0 = 0) := by decide
def loseIf (N : Nat → Int32) (h lv : Int32) (c : Nat) : Nat → Int32 := if conB N (nI c) ∧ sbt N h c ≠ lv then losesN N c else N
def lvl1 (N : Nat → Int32) (h lv : Int32) (c : Nat) : Int32 := lv &&& (if conB N (nI c) then sbt N h c else nI 1)
def lvl (N : Nat → Int32) (h : Int32) : Int32 := lvl1 N h (lvl1 N h (lvl1 N h (nI 1) 0) 1) 2
def loseAll (N : Nat → Int32) (h lv : Int32) : Nat → Int32 := loseIf (loseIf (loseIf N h lv 0) h lv 1) h lv 2
def bitOfN (N : Nat → Int32) (h : Int32) : Nat → Int32 := 
  let M := loseAll N h (lvl N h)
  sN M 6 (M 6 + nI 1)
theorem shN_lo {N : Nat → Int32} {a j k : Nat} (h : k < a) : shN N a j k = N k := by unfold shN; rw [if_neg (by omega)]
theorem leavesN_lo {N : Nat → Int32} {c as k : Nat} (h : k < 207) : leavesN N c as k = N k := by
  unfold leavesN
  rw [sN_ne (by omega), sN_ne (by omega), shN_lo (by omega)]
theorem losesN_lo {N : Nat → Int32} {c k : Nat} (h : k < 207) (h5 : k ≠ 5) : losesN N c k = N k := by
  unfold losesN
  split
  · rw [sN_ne (by omega), sN_ne (by omega), sN_ne (by omega)]
  · rw [leavesN_lo h, sN_ne (by omega), sN_ne (by omega), sN_ne (by omega)]
theorem loseIf_lo {N : Nat → Int32} {h lv : Int32} {c k : Nat} (hk : k < 207) (h5 : k ≠ 5) : loseIf N h lv c k = N k := by
  unfold loseIf; split
  · exact losesN_lo hk h5
  · rfl
theorem dnOk_loseIf {N : Nat → Int32} {h lv : Int32} {c : Nat} (hN : dnOk N) : dnOk (loseIf N h lv c) := by
  obtain ⟨k, hk, h7⟩ := hN
  exact ⟨k, hk, by rw [loseIf_lo (by omega) (by omega)]; exact h7⟩
def anyc (N : Nat → Int32) : Nat := if conB N (nI 0) then 0 else if conB N (nI 1) then 1 else 2
theorem anyc_lt (N : Nat → Int32) : anyc N < 3 := by
  unfold anyc
  repeat' split
  all_goals omega
def lvIf (N : Nat → Int32) (c as : Nat) : Nat → Int32 := if conB N (nI c) then leavesN N c as else N
def allLeaveN (N : Nat → Int32) (as : Nat) : Nat → Int32 := sN (sN (lvIf (lvIf (lvIf N 0 as) 1 as) 2 as) 5 (nI 0)) 4 (nI 8)
def fin1 (N : Nat → Int32) (c : Nat) : Nat → Int32 := if conB N (nI c) ∧ N (217 + 40 * c) = N 7 then sN (leavesN N c 1) 5 (leavesN N c 1 5 &&& ((nI 1 <<< (nI c &&& 31)) ^^^ (-1))) else N
def fin1v (N : Nat → Int32) (c : Nat) (v : Int32) : Int32 := v + (if conB (fin1 N c) (nI c) then nI 1 else nI 0)
def finN (N : Nat → Int32) : Nat → Int32 := fin1 (fin1 (fin1 N 0) 1) 2
def finV (N : Nat → Int32) : Int32 := fin1v (fin1 (fin1 N 0) 1) 2 (fin1v (fin1 N 0) 1 (fin1v N 0 (nI 0)))
def nextByteN (N : Nat → Int32) : Nat → Int32 :=
  let M := sN (sN N 6 (nI 0)) 13 (nI 0)
  sN M 4 (if M 9 ≤ 0 then (if M 14 ≠ nI 1 then nI 3 else nI 5) else nI 7)
def holdsN (N : Nat → Int32) (t : Nat) : Nat → Int32 := nextByteN (sN N 9 (N (327 + 22 * t + 1)))
def wFrom (N : Nat → Int32) (a : Int32) : Nat → Nat → Int32
  | _, 0 => -1
  | l, f + 1 => if N (327 + 22 * l) = a then nI l else wFrom N a (l + 1) f
theorem wFrom_spec (N : Nat → Int32) (a : Int32) : ∀ f l, wFrom N a l f = -1 ∨ ∃ t, l ≤ t ∧ t < l + f ∧ wFrom N a l f = nI t ∧ N (327 + 22 * t) = a := by
  intro f
  induction f with
  | zero => intro l; exact Or.inl rfl
  | succ f ih =>
    intro l
    unfold wFrom
    split
    · next h => exact Or.inr ⟨l, by omega, by omega, rfl, h⟩
    · rcases ih (l + 1) with h | ⟨t, h1, h2, h3, h4⟩
      · exact Or.inl h
      · exact Or.inr ⟨t, by omega, by omega, h3, h4⟩
def haT (N : Nat → Int32) (n : Nat) : Int32 := wFrom N (hdr N (anyc N) / nI 2) 0 n
def haN (N : Nat → Int32) (n : Nat) : Nat → Int32 :=
  if haT N n = -1 ∨ N (327 + 22 * Int32.toNatClampNeg (haT N n) + 4) = 0 then allLeaveN N 2 else
  holdsN (sN (sN (sN N 8 (haT N n)) 14 (hdr N (anyc N) - hdr N (anyc N) / nI 2 * nI 2)) 7 (nI 0)) (Int32.toNatClampNeg (haT N n))
def haV (N : Nat → Int32) (n : Nat) : Int32 := if haT N n = -1 ∨ N (327 + 22 * Int32.toNatClampNeg (haT N n) + 4) = 0 then nI 1 else nI 0
theorem n20 : ¬ (nI 2 = 0) := by decide
theorem nI_nm1 {t : Nat} (h : t < 100) : ¬ nI t = -1 := by
  intro e
  have := congrArg Int32.toInt e
  rw [nI_toInt (by omega)] at this
  have h2 : (-1 : Int32).toInt = -1 := by decide
  omega
def waN1 (N : Nat → Int32) (t m : Nat) : Nat → Int32 :=
  let M1 := sN N (327 + 22 * t + (6 + m)) (snt N (nI 0) (anyc N))
  let M2 := sN M1 (327 + 22 * t + 2) (nI m + nI 1)
  sN M2 7 (M2 7 + nI 1)
def waN (N : Nat → Int32) (t m : Nat) : Nat → Int32 :=
  if m = 16 then allLeaveN N 3 else
  if finV (waN1 N t m) = 0 then sN (finN (waN1 N t m)) 4 (nI 8) else holdsN (finN (waN1 N t m)) t
def waV (m : Nat) : Int32 := if m = 16 then nI 1 else nI 0
theorem fin1_lo {N : Nat → Int32} {c k : Nat} (h : k < 207) (h5 : k ≠ 5) : fin1 N c k = N k := by
  unfold fin1; split
  · rw [sN_ne (by omega), leavesN_lo h]
  · rfl
theorem finN_lo {N : Nat → Int32} {k : Nat} (h : k < 207) (h5 : k ≠ 5) : finN N k = N k := by
  unfold finN; rw [fin1_lo h h5, fin1_lo h h5, fin1_lo h h5]
def raN1 (N : Nat → Int32) : Nat → Int32 := sN N 7 (N 7 + nI 1)
def raN (N : Nat → Int32) (t : Nat) : Nat → Int32 := if finV (raN1 N) = 0 then sN (finN (raN1 N)) 4 (nI 8) else holdsN (finN (raN1 N)) t
def raV (N : Nat → Int32) : Int32 := if finV (raN1 N) = 0 then nI 1 else nI 0
def beg1 (N : Nat → Int32) (s : Int32) (c : Nat) : Int32 := s ||| (if N (207 + 40 * c) ≤ 0 then nI 0 else nI 1 <<< (nI c &&& 31))
def begS (N : Nat → Int32) (k : Nat) : Int32 := if k = 1 then beg1 N (nI 0) 0 else if k = 2 then beg1 N (beg1 N (nI 0) 0) 1 else beg1 N (beg1 N (beg1 N (nI 0) 0) 1) 2
def begN (N : Nat → Int32) (k : Nat) : Nat → Int32 := sN (sN (sN N 5 (begS N k)) 4 (if begS N k = 0 then nI 0 else nI 1)) 6 (nI 0)
def begV (N : Nat → Int32) (k : Nat) : Int32 := if begS N k = 0 then nI 1 else nI 0
theorem n213 (c : Nat) : 207 + 40 * c + 6 = 213 + 40 * c := by omega
theorem n214 (c : Nat) : 207 + 40 * c + 7 = 214 + 40 * c := by omega
def rbB (N : Nat → Int32) (t m : Nat) : Int32 := if m = 0 then nI 255 else N (327 + 22 * t + (6 + Int32.toNatClampNeg (N (327 + 22 * t + 3))))
def rbV (N : Nat → Int32) (t m : Nat) : Int32 := (rbB N t m >>> ((nI 7 - N 6) &&& 31)) &&& nI 1
def rb2 (N : Nat → Int32) (t m : Nat) : Nat → Int32 := sN (sN N 13 (nI 2 * N 13 + rbV N t m)) 6 (N 6 + nI 1)
def rc1 (N : Nat → Int32) (c : Nat) : Nat → Int32 := if conB N (nI c) then sN (sN N (213 + 40 * c) (N (213 + 40 * c) + nI 1)) (214 + 40 * c) (N 13) else N
def rb3 (N : Nat → Int32) (t m : Nat) : Nat → Int32 := sN (rb2 N t m) (327 + 22 * t + 3) (if nI m ≤ N (327 + 22 * t + 3) + nI 1 then nI 0 else N (327 + 22 * t + 3) + nI 1)
def rbN (N : Nat → Int32) (t m : Nat) : Nat → Int32 := if N 6 + nI 1 ≠ nI 8 then rb2 N t m else sN (rc1 (rc1 (rc1 (rb3 N t m) 0) 1) 2) 4 (nI 6)
def cl (N : Nat → Int32) (k : Nat) : Nat := Int32.toNatClampNeg (N k)
def rd (N : Nat → Int32) (a : Nat) : Prop := ∃ k, k < a ∧ N 8 = nI k
/-- what a slot of the model needs of its row -/
def StepOk (N : Nat → Int32) : Prop := ∃ k n md, 0 < k ∧ k ≤ 3 ∧ N 1 = nI k ∧ n ≤ 6 ∧ N 2 = nI n ∧ md ≤ 8 ∧ N 4 = nI md ∧ (md = 3 ∨ md = 4 → dnOk N) ∧ (3 < md ∧ md < 8 → ∃ t m p, t < 6 ∧ N 8 = nI t ∧ m ≤ 16 ∧ N (327 + 22 * t + 2) = nI m ∧ p < 16 ∧ N (327 + 22 * t + 3) = nI p)
def holdStep (N : Nat → Int32) (t : Nat) : Nat → Int32 := 
  let M := sN (sN N 9 (N 9 - nI 1)) 11 (N 11 + nI 1)
  nextByteN (sN M (327 + 22 * t + 5) (M (327 + 22 * t + 5) + nI 1))
def stepN (N : Nat → Int32) : Nat → Int32 := match cl N 4 with
  | 0 => begN N (cl N 1)
  | 1 => sN (bitOfN N (nI 1)) 4 (if bitOfN N (nI 1) 6 ≠ nI 8 then nI 1 else nI 2)
  | 2 => haN N (cl N 2)
  | 3 => sN (bitOfN N (nI 0)) 4 (if bitOfN N (nI 0) 6 ≠ nI 8 then nI 3 else nI 4)
  | 4 => waN N (cl N 8) (cl N (327 + 22 * cl N 8 + 2))
  | 5 => rbN N (cl N 8) (cl N (327 + 22 * cl N 8 + 2))
  | 6 => raN N (cl N 8)
  | 7 => holdStep N (cl N 8)
  | _ => sN (sN N 4 (nI 0)) 8 (-1)
def stepV (N : Nat → Int32) : Int32 := match cl N 4 with
  | 0 => begV N (cl N 1)
  | 1 => lvl N (nI 1)
  | 2 => haV N (cl N 2)
  | 3 => lvl N (nI 0)
  | 4 => waV (cl N (327 + 22 * cl N 8 + 2))
  | 5 => rbV N (cl N 8) (cl N (327 + 22 * cl N 8 + 2))
  | 6 => raV N
  | 7 => nI 0
  | _ => nI 1
theorem cl_of {N : Nat → Int32} {k j : Nat} (h : N k = nI j) (hj : j < 2147483648) : cl N k = j := by unfold cl; rw [h, cl_nI hj]
def kindV (md : Nat) : Int32 := match md with
  | 1 => nI 2
  | 2 => nI 3
  | 3 => nI 4
  | 4 => nI 5
  | 5 => nI 4
  | 6 => nI 5
  | 7 => nI 6
  | _ => nI 7
def slotKind (N : Nat → Int32) : Int32 := if N 4 = 0 then (if stepN N 4 = 0 then nI 0 else nI 1) else kindV (cl N 4)
def slotN (N : Nat → Int32) : Nat → Int32 :=
  let M := stepN N
  let a := 15 + 3 * (cl M 0 % 64)
  let M3 := sN (sN (sN M a (stepV N)) (a + 1) (M 5)) (a + 2) (slotKind N)
  let M4 := sN M3 12 (stepV N)
  sN (sN M4 10 (M4 10 + (if slotKind N = 0 then nI 0 else nI 1))) 0 (M4 0 + nI 1)
theorem n64 : ¬ (nI 64 = 0) := by decide
def doneN (N : Nat → Int32) : Prop := N 4 = 0 ∧ N 207 + N 247 + N 287 = 0
/-- n slots -/
def slotsN (N : Nat → Int32) : Nat → (Nat → Int32)
  | 0 => N
  | n + 1 => slotN (slotsN N n)
