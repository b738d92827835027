/-! Base of the contracts: whole rows of numbers, indices as naturals. -/
def wr (I : MI) (a : Nat) (N : Nat → Int32) : MI := fun b j => if b = a then N j else I b j
def sN (N : Nat → Int32) (k : Nat) (v : Int32) : Nat → Int32 := fun j => if j = k then v else N j
theorem updI_wr (I : MI) (a k : Nat) (v : Int32) : updI I a k v = wr I a (sN (I a) k v) := by
  funext b j; unfold updI wr sN
  by_cases h : b = a
  · subst h; simp
  · simp [h]
theorem wr_same (I : MI) (a : Nat) (N : Nat → Int32) : (wr I a N) a = N := by funext j; simp [wr]
theorem wr_ne (I : MI) {a b : Nat} (N : Nat → Int32) (h : b ≠ a) : (wr I a N) b = I b := by funext j; simp [wr, h]
theorem wr_wr (I : MI) (a : Nat) (N M : Nat → Int32) : wr (wr I a N) a M = wr I a M := by
  funext b j; unfold wr; by_cases h : b = a <;> simp [h]
theorem wr_id (I : MI) (a : Nat) : wr I a (I a) = I := by funext b j; unfold wr; split <;> simp_all
theorem cl_nI {k : Nat} (h : k < 2147483648) : Int32.toNatClampNeg (nI k) = k := nI_clamp h
theorem inA_nI {w : Wd} {a kd n k : Nat} (h : w.1 a = some (kd, n)) (hk : k < n) (hn : n < 2147483648) : inA w a kd (nI k) := by
  unfold inA; rw [h]
  refine ⟨rfl, ?_⟩
  have h1 := nI_in hk hn
  unfold inB
  simpa using h1
theorem isAr_of {w : Wd} {a kd n : Nat} (h : w.1 a = some (kd, n)) : isAr w a kd := by unfold isAr; rw [h]
theorem alen_of {w : Wd} {a kd n : Nat} (h : w.1 a = some (kd, n)) : alen w a = nI n := by unfold alen; rw [h]; rfl
theorem b01 : (nI 0) &&& 1 = nI 0 := by decide
theorem b11 : (nI 1) &&& 1 = nI 1 := by decide
theorem n212 (c : Nat) : 207 + 40 * c + 5 = 212 + 40 * c := by omega
theorem n215 (c : Nat) : 207 + 40 * c + 8 = 215 + 40 * c := by omega
theorem n216 (c : Nat) : 215 + 40 * c + 1 = 216 + 40 * c := by omega
theorem n217 (c : Nat) : 215 + 40 * c + 2 = 217 + 40 * c := by omega
theorem n218 (c : Nat) : 215 + 40 * c + 3 = 218 + 40 * c := by omega
theorem sN_ne {N : Nat → Int32} {a k : Nat} {v : Int32} (h : k ≠ a) : sN N a v k = N k := by unfold sN; rw [if_neg h]
theorem sN_eq {N : Nat → Int32} {a : Nat} {v : Int32} : sN N a v a = v := by unfold sN; rw [if_pos rfl]
theorem sN_sN {N : Nat → Int32} {a : Nat} {u v : Int32} : sN (sN N a u) a v = sN N a v := by funext j; unfold sN; split <;> rfl
abbrev conB' (v : Int32) (x : Int32) : Prop := (v >>> (x &&& 31)) &&& nI 1 = nI 1
abbrev conB (N : Nat → Int32) (x : Int32) : Prop := conB' (N 5) x
