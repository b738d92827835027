theorem mo_in (a b c : Int64) (w : Wd) (I : MI) (L : ML) (P : MP) : call 124 [.long a, .long b, .long c] w I L P = some (.inl (some (.int (if b ≤ a ∧ a ≤ c then nI 1 else nI 0))), w, I, L, P) := by
  simp only [Model_in_E, Model_in_0, Model_in_6, Model_in_13, Model_in_17, Model_in_18 _ _ _ _ _ _ _ _ _ _ _ b01, Model_in_18 _ _ _ _ _ _ _ _ _ _ _ b11, lg_cmp_lt, lg_cmp_gt]
  by_cases h1 : a < b
  · have : ¬ (b ≤ a ∧ a ≤ c) := fun h => by have := Int64.not_le.mpr h1; exact this h.1
    simp [h1, this]
  · by_cases h2 : c < a
    · have : ¬ (b ≤ a ∧ a ≤ c) := fun h => (Int64.not_le.mpr h2) h.2
      simp [h1, h2, this]
    · have : (b ≤ a ∧ a ≤ c) := ⟨Int64.not_lt.mp h1, Int64.not_lt.mp h2⟩
      simp [h1, h2, this]
theorem mo_of {w : Wd} {P : MP} {mo d : Nat} (h7 : w.1 mo = some (7, 0)) (hd : w.1 d = some (8, 459)) (p0 : P mo 0 = some d) {c k : Nat} (hk : 207 + 40 * c + k < 459) (I : MI) (L : ML) : call 126 [.ref mo, .int (nI c), .int (nI k)] w I L P = some (.inl (some (.int (I d (207 + 40 * c + k)))), w, I, L, P) := by
  have hin := inA_nI hd hk (by omega)
  simp only [Model_of_E, Model_of_0 _ _ _ _ _ _ _ h7, p0, rf_some]
  rw [Model_of_4]
  · simp only [nI_add, pk_mul, cl_nI (show 207 + 40 * c + k < 2147483648 by omega)]
  · simpa only [nI_add, pk_mul] using hin
theorem mo_adds {w : Wd} {P : MP} {mo d : Nat} (h7 : w.1 mo = some (7, 0)) (hd : w.1 d = some (8, 459)) (p0 : P mo 0 = some d) {c k : Nat} (hk : 207 + 40 * c + k < 459) (v : Int32) (I : MI) (L : ML) : call 127 [.ref mo, .int (nI c), .int (nI k), .int v] w I L P = some (.inl none, w, wr I d (sN (I d) (207 + 40 * c + k) (I d (207 + 40 * c + k) + v)), L, P) := by
  have hin := inA_nI hd hk (by omega)
  simp only [Model_adds_E, Model_adds_0 _ _ _ _ _ _ _ _ h7, p0, rf_some]
  rw [Model_adds_4]
  · simp only [nI_add, pk_mul, cl_nI (show 207 + 40 * c + k < 2147483648 by omega), updI_wr]
  · simpa only [nI_add, pk_mul] using hin
def shN (N : Nat → Int32) (a j : Nat) : Nat → Int32 := fun k => if a ≤ k ∧ k < a + j then N (k + 8) else N k
theorem mo_leaves_loop {w : Wd} {P : MP} {mo d : Nat} (h7 : w.1 mo = some (7, 0)) (hd : w.1 d = some (8, 459)) (p0 : P mo 0 = some d) {a : Nat} (ha : a + 32 < 459) (L : ML) (l1 l2 : Value) (N : Nat → Int32) (I : MI) : ∀ j, j ≤ 24 → go 140 15 [.ref mo, l1, l2, .int (nI a), .int (nI (a + (24 - j)))] [] w (wr I d (shN N a (24 - j))) L P = go 140 47 [.ref mo, l1, l2, .int (nI a), .int (nI (a + 24))] [] w (wr I d (shN N a 24)) L P := by
  intro j
  induction j with
  | zero => 
    intro _
    rw [Model_leaves_15, nI_add, if_pos (nI_le (by omega) (by omega))]
  | succ j ih =>
    intro hj
    rw [Model_leaves_15, nI_add, if_neg (nI_ge (by omega) (by omega)), Model_leaves_24 _ _ _ _ _ _ _ _ _ h7, p0, rf_some, Model_leaves_28 _ _ _ _ _ _ _ _ _ _ h7, p0, rf_some, Model_leaves_34]
    · have e1 : a + (24 - (j + 1)) + 1 = a + (24 - j) := by omega
      simp only [fix1_int, nI_add, e1]
      rw [← ih (by omega), cl_nI (by omega), cl_nI (by omega), updI_wr, wr_wr, wr_same]
      congr 2
      funext k
      unfold sN shN
      by_cases hk : k = a + (24 - (j + 1))
      · subst hk
        rw [if_pos rfl, if_neg (by omega), if_pos (by omega)]
      · rw [if_neg hk]
        by_cases h2 : a ≤ k ∧ k < a + (24 - (j + 1))
        · rw [if_pos h2, if_pos (by omega)]
        · rw [if_neg h2, if_neg (by omega)]
    · rw [nI_add]; exact inA_nI hd (by omega) (by omega)
    · exact inA_nI hd (by omega) (by omega)
/-- the first message of a caller leaves -/
def leavesN (N : Nat → Int32) (c as : Nat) : Nat → Int32 := 
  let M := shN N (215 + 40 * c) 24
  let M1 := sN M (207 + 40 * c) (M (207 + 40 * c) + (-1))
  sN M1 (207 + 40 * c + as) (M1 (207 + 40 * c + as) + nI 1)
theorem mo_leaves {w : Wd} {P : MP} {mo d : Nat} (h7 : w.1 mo = some (7, 0)) (hd : w.1 d = some (8, 459)) (p0 : P mo 0 = some d) {c as : Nat} (hc : c < 3) (has : as < 5) (I : MI) (L : ML) : call 140 [.ref mo, .int (nI c), .int (nI as)] w I L P = some (.inl none, w, wr I d (leavesN (I d) c as), L, P) := by
  rw [Model_leaves_E, Model_leaves_0]
  simp only [fix1_int, fix1_unk, nI_add, pk_mul]
  have h0 := mo_leaves_loop h7 hd p0 (a := 207 + 40 * c + 8) (by omega) L (.int (nI c)) (.int (nI as)) (I d) I 24 (by omega)
  have e0 : wr I d (shN (I d) (207 + 40 * c + 8) 0) = I := by
    have : shN (I d) (207 + 40 * c + 8) 0 = I d := by funext k; unfold shN; rw [if_neg (by omega)]
    rw [this, wr_id]
  rw [show 24 - 24 = 0 from rfl, e0, show 207 + 40 * c + 8 + 0 = 207 + 40 * c + 8 from rfl] at h0
  rw [h0, Model_leaves_47 _ _ _ _ _ _ _ _ _ h7]
  rw [mo_adds h7 hd p0 (c := c) (k := 0) (by omega), kC_ret]
  simp only [Option.toList, List.nil_append]
  rw [Model_leaves_54 _ _ _ _ _ _ _ _ _ h7, mo_adds h7 hd p0 (c := c) (k := as) (by omega), kC_ret]
  simp only [Option.toList, List.nil_append]
  rw [Model_leaves_61]
  simp only [wr_wr, wr_same, leavesN, show 207 + 40 * c + 8 = 215 + 40 * c from by omega, Nat.add_zero]
theorem i64_of (k : Nat) (h : k < 2147483648) : Int64.toInt (nI k).toInt64 = k := by rw [Int32.toInt_toInt64, nI_toInt h]
theorem l2i_le (x y : Int32) : x.toInt64 ≤ y.toInt64 ↔ x ≤ y := by rw [Int64.le_iff_toInt_le, Int32.toInt_toInt64, Int32.toInt_toInt64, Int32.le_iff_toInt_le]
theorem l0_i : (0 : Int64) = (nI 0).toInt64 := by decide
theorem mo_told {w : Wd} {P : MP} {mo d : Nat} (h7 : w.1 mo = some (7, 0)) (hd : w.1 d = some (8, 459)) (p0 : P mo 0 = some d) {c p k : Nat} (hk : 207 + 40 * c + 8 + 8 * p + k < 459) (I : MI) (L : ML) : call 128 [.ref mo, .int (nI c), .int (nI p), .int (nI k)] w I L P = some (.inl (some (.int (I d (207 + 40 * c + 8 + 8 * p + k)))), w, I, L, P) := by
  simp (disch := (first | assumption | exact b01 | exact b11 | decide | omega | exact inA_nI hd (by omega) (by omega) | exact inA_nI has (by omega) (by omega) | exact inA_nI hkp (by omega) (by omega) | exact inA_nI htx (by omega) (by omega) | (simp only [nI_add, pk_mul, Nat.reduceAdd, Nat.reduceMul]; first | exact inA_nI hd (by omega) (by omega) | exact inA_nI has (by omega) (by omega) | exact inA_nI hkp (by omega) (by omega) | exact inA_nI htx (by omega) (by omega)))) only [Nat.mul_zero, Nat.add_zero, kC_ret, Option.toList, List.nil_append, List.cons_append, rf_some, fix1_int, fix1_ref, fix1_unk, fix1_null, fix1_long, nI_add, pk_mul, Nat.reduceAdd, Nat.reduceMul, cl_nI, n212, n215, n216, n217, n218, updI_wr, wr_wr, wr_same, Model_told_0, Model_told_4, Model_told_E, p0]
theorem mo_part {w : Wd} {P : MP} {mo d : Nat} (h7 : w.1 mo = some (7, 0)) (hd : w.1 d = some (8, 459)) (p0 : P mo 0 = some d) {c k : Nat} (hk : 327 + 22 * c + k < 459) (I : MI) (L : ML) : call 129 [.ref mo, .int (nI c), .int (nI k)] w I L P = some (.inl (some (.int (I d (327 + 22 * c + k)))), w, I, L, P) := by
  simp (disch := (first | assumption | exact b01 | exact b11 | decide | omega | exact inA_nI hd (by omega) (by omega) | exact inA_nI has (by omega) (by omega) | exact inA_nI hkp (by omega) (by omega) | exact inA_nI htx (by omega) (by omega) | (simp only [nI_add, pk_mul, Nat.reduceAdd, Nat.reduceMul]; first | exact inA_nI hd (by omega) (by omega) | exact inA_nI has (by omega) (by omega) | exact inA_nI hkp (by omega) (by omega) | exact inA_nI htx (by omega) (by omega)))) only [Nat.mul_zero, Nat.add_zero, kC_ret, Option.toList, List.nil_append, List.cons_append, rf_some, fix1_int, fix1_ref, fix1_unk, fix1_null, fix1_long, nI_add, pk_mul, Nat.reduceAdd, Nat.reduceMul, cl_nI, n212, n215, n216, n217, n218, updI_wr, wr_wr, wr_same, Model_part_0, Model_part_4, Model_part_E, p0]
theorem mo_sets {w : Wd} {P : MP} {mo d : Nat} (h7 : w.1 mo = some (7, 0)) (hd : w.1 d = some (8, 459)) (p0 : P mo 0 = some d) {c k : Nat} (hk : 327 + 22 * c + k < 459) (v : Int32) (I : MI) (L : ML) : call 130 [.ref mo, .int (nI c), .int (nI k), .int v] w I L P = some (.inl none, w, wr I d (sN (I d) (327 + 22 * c + k) v), L, P) := by
  simp (disch := (first | assumption | exact b01 | exact b11 | decide | omega | exact inA_nI hd (by omega) (by omega) | exact inA_nI has (by omega) (by omega) | exact inA_nI hkp (by omega) (by omega) | exact inA_nI htx (by omega) (by omega) | (simp only [nI_add, pk_mul, Nat.reduceAdd, Nat.reduceMul]; first | exact inA_nI hd (by omega) (by omega) | exact inA_nI has (by omega) (by omega) | exact inA_nI hkp (by omega) (by omega) | exact inA_nI htx (by omega) (by omega)))) only [Nat.mul_zero, Nat.add_zero, kC_ret, Option.toList, List.nil_append, List.cons_append, rf_some, fix1_int, fix1_ref, fix1_unk, fix1_null, fix1_long, nI_add, pk_mul, Nat.reduceAdd, Nat.reduceMul, cl_nI, n212, n215, n216, n217, n218, updI_wr, wr_wr, wr_same, Model_sets_0, Model_sets_4, Model_sets_E, p0]
theorem mo_isCaller {w : Wd} {P : MP} {mo d : Nat} (h7 : w.1 mo = some (7, 0)) (hd : w.1 d = some (8, 459)) (p0 : P mo 0 = some d) (x : Int32) (I : MI) (L : ML) : call 131 [.ref mo, .int x] w I L P = some (.inl (some (.int (if nI 0 ≤ x ∧ x ≤ I d 1 - nI 1 then nI 1 else nI 0))), w, I, L, P) := by
  simp (disch := (first | assumption | exact b01 | exact b11 | decide | omega | exact inA_nI hd (by omega) (by omega) | exact inA_nI has (by omega) (by omega) | exact inA_nI hkp (by omega) (by omega) | exact inA_nI htx (by omega) (by omega) | (simp only [nI_add, pk_mul, Nat.reduceAdd, Nat.reduceMul]; first | exact inA_nI hd (by omega) (by omega) | exact inA_nI has (by omega) (by omega) | exact inA_nI hkp (by omega) (by omega) | exact inA_nI htx (by omega) (by omega)))) only [Nat.mul_zero, Nat.add_zero, kC_ret, Option.toList, List.nil_append, List.cons_append, rf_some, fix1_int, fix1_ref, fix1_unk, fix1_null, fix1_long, nI_add, pk_mul, Nat.reduceAdd, Nat.reduceMul, cl_nI, n212, n215, n216, n217, n218, updI_wr, wr_wr, wr_same, Model_isCaller_0, Model_isCaller_7, Model_isCaller_E, p0, mo_in, l0_i, l2i_le]
  split
  · exact Model_isCaller_15 _ _ _ _ _ _ _ b11
  · exact Model_isCaller_15 _ _ _ _ _ _ _ b01
theorem mo_isListener {w : Wd} {P : MP} {mo d : Nat} (h7 : w.1 mo = some (7, 0)) (hd : w.1 d = some (8, 459)) (p0 : P mo 0 = some d) (x : Int32) (I : MI) (L : ML) : call 132 [.ref mo, .int x] w I L P = some (.inl (some (.int (if nI 0 ≤ x ∧ x ≤ I d 2 - nI 1 then nI 1 else nI 0))), w, I, L, P) := by
  simp (disch := (first | assumption | exact b01 | exact b11 | decide | omega | exact inA_nI hd (by omega) (by omega) | exact inA_nI has (by omega) (by omega) | exact inA_nI hkp (by omega) (by omega) | exact inA_nI htx (by omega) (by omega) | (simp only [nI_add, pk_mul, Nat.reduceAdd, Nat.reduceMul]; first | exact inA_nI hd (by omega) (by omega) | exact inA_nI has (by omega) (by omega) | exact inA_nI hkp (by omega) (by omega) | exact inA_nI htx (by omega) (by omega)))) only [Nat.mul_zero, Nat.add_zero, kC_ret, Option.toList, List.nil_append, List.cons_append, rf_some, fix1_int, fix1_ref, fix1_unk, fix1_null, fix1_long, nI_add, pk_mul, Nat.reduceAdd, Nat.reduceMul, cl_nI, n212, n215, n216, n217, n218, updI_wr, wr_wr, wr_same, Model_isListener_0, Model_isListener_7, Model_isListener_E, p0, mo_in, l0_i, l2i_le]
  split
  · exact Model_isListener_15 _ _ _ _ _ _ _ b11
  · exact Model_isListener_15 _ _ _ _ _ _ _ b01
theorem mo_isContender1 {w : Wd} {P : MP} {mo d : Nat} (h7 : w.1 mo = some (7, 0)) (hd : w.1 d = some (8, 459)) (p0 : P mo 0 = some d) (x : Int32) (I : MI) (L : ML) (h : conB (I d) x) : call 133 [.ref mo, .int x] w I L P = some (.inl (some (.int (nI 1))), w, I, L, P) := by
  unfold conB conB' at h
  simp (disch := (first | assumption | exact b01 | exact b11 | decide | omega | exact inA_nI hd (by omega) (by omega) | exact inA_nI has (by omega) (by omega) | exact inA_nI hkp (by omega) (by omega) | exact inA_nI htx (by omega) (by omega) | (simp only [nI_add, pk_mul, Nat.reduceAdd, Nat.reduceMul]; first | exact inA_nI hd (by omega) (by omega) | exact inA_nI has (by omega) (by omega) | exact inA_nI hkp (by omega) (by omega) | exact inA_nI htx (by omega) (by omega)))) only [Nat.mul_zero, Nat.add_zero, kC_ret, Option.toList, List.nil_append, List.cons_append, rf_some, fix1_int, fix1_ref, fix1_unk, fix1_null, fix1_long, nI_add, pk_mul, Nat.reduceAdd, Nat.reduceMul, cl_nI, n212, n215, n216, n217, n218, updI_wr, wr_wr, wr_same, Model_isContender_0, Model_isContender_4, Model_isContender_14, Model_isContender_18, Model_isContender_19, Model_isContender_E, p0, h, ne_eq, not_true_eq_false, if_false]
theorem mo_isContender0 {w : Wd} {P : MP} {mo d : Nat} (h7 : w.1 mo = some (7, 0)) (hd : w.1 d = some (8, 459)) (p0 : P mo 0 = some d) (x : Int32) (I : MI) (L : ML) (h : ¬ conB (I d) x) : call 133 [.ref mo, .int x] w I L P = some (.inl (some (.int (nI 0))), w, I, L, P) := by
  unfold conB conB' at h
  simp (disch := (first | assumption | exact b01 | exact b11 | decide | omega | exact inA_nI hd (by omega) (by omega) | exact inA_nI has (by omega) (by omega) | exact inA_nI hkp (by omega) (by omega) | exact inA_nI htx (by omega) (by omega) | (simp only [nI_add, pk_mul, Nat.reduceAdd, Nat.reduceMul]; first | exact inA_nI hd (by omega) (by omega) | exact inA_nI has (by omega) (by omega) | exact inA_nI hkp (by omega) (by omega) | exact inA_nI htx (by omega) (by omega)))) only [Nat.mul_zero, Nat.add_zero, kC_ret, Option.toList, List.nil_append, List.cons_append, rf_some, fix1_int, fix1_ref, fix1_unk, fix1_null, fix1_long, nI_add, pk_mul, Nat.reduceAdd, Nat.reduceMul, cl_nI, n212, n215, n216, n217, n218, updI_wr, wr_wr, wr_same, Model_isContender_0, Model_isContender_4, Model_isContender_14, Model_isContender_18, Model_isContender_19, Model_isContender_E, p0, h, ne_eq, not_false_eq_true, if_true]
def hdr (N : Nat → Int32) (c : Nat) : Int32 := nI 2 * N (215 + 40 * c) + N (216 + 40 * c)
theorem mo_header {w : Wd} {P : MP} {mo d : Nat} (h7 : w.1 mo = some (7, 0)) (hd : w.1 d = some (8, 459)) (p0 : P mo 0 = some d) {c : Nat} (hc : c < 3) (I : MI) (L : ML) : call 139 [.ref mo, .int (nI c)] w I L P = some (.inl (some (.int (hdr (I d) c))), w, I, L, P) := by
  simp (disch := (first | assumption | exact b01 | exact b11 | decide | omega | exact inA_nI hd (by omega) (by omega) | exact inA_nI has (by omega) (by omega) | exact inA_nI hkp (by omega) (by omega) | exact inA_nI htx (by omega) (by omega) | (simp only [nI_add, pk_mul, Nat.reduceAdd, Nat.reduceMul]; first | exact inA_nI hd (by omega) (by omega) | exact inA_nI has (by omega) (by omega) | exact inA_nI hkp (by omega) (by omega) | exact inA_nI htx (by omega) (by omega)))) only [Nat.mul_zero, Nat.add_zero, kC_ret, Option.toList, List.nil_append, List.cons_append, rf_some, fix1_int, fix1_ref, fix1_unk, fix1_null, fix1_long, nI_add, pk_mul, Nat.reduceAdd, Nat.reduceMul, cl_nI, n212, n215, n216, n217, n218, updI_wr, wr_wr, wr_same, Model_header_0, Model_header_8, Model_header_16, Model_header_E, p0, mo_told h7 hd p0]
  rfl
theorem fin0 (N M : Nat → Int32) (p : Prop) [Decidable p] (k : Nat) : (if p then N else M) k = if p then N k else M k := by split <;> rfl
def losesN (N : Nat → Int32) (c : Nat) : Nat → Int32 :=
  let M1 := sN N 5 (N 5 &&& ((nI 1 <<< (nI c &&& 31)) ^^^ (-1)))
  let M2 := sN M1 (218 + 40 * c) (M1 (218 + 40 * c) + nI 1)
  let M3 := sN M2 (212 + 40 * c) (M2 (212 + 40 * c) + nI 1)
  if M3 (218 + 40 * c) < M3 3 then M3 else leavesN M3 c 4
theorem mo_loses {w : Wd} {P : MP} {mo d : Nat} (h7 : w.1 mo = some (7, 0)) (hd : w.1 d = some (8, 459)) (p0 : P mo 0 = some d) {c : Nat} (hc : c < 3) (I : MI) (L : ML) : call 141 [.ref mo, .int (nI c)] w I L P = some (.inl none, w, wr I d (losesN (I d) c), L, P) := by
  simp (disch := (first | assumption | exact b01 | exact b11 | decide | omega | exact inA_nI hd (by omega) (by omega) | exact inA_nI has (by omega) (by omega) | exact inA_nI hkp (by omega) (by omega) | exact inA_nI htx (by omega) (by omega) | (simp only [nI_add, pk_mul, Nat.reduceAdd, Nat.reduceMul]; first | exact inA_nI hd (by omega) (by omega) | exact inA_nI has (by omega) (by omega) | exact inA_nI hkp (by omega) (by omega) | exact inA_nI htx (by omega) (by omega)))) only [Nat.mul_zero, Nat.add_zero, kC_ret, Option.toList, List.nil_append, List.cons_append, rf_some, fix1_int, fix1_ref, fix1_unk, fix1_null, fix1_long, nI_add, pk_mul, Nat.reduceAdd, Nat.reduceMul, cl_nI, n212, n215, n216, n217, n218, updI_wr, wr_wr, wr_same, Model_loses_0, Model_loses_4, Model_loses_18, Model_loses_43, Model_loses_50, Model_loses_E, p0, mo_told h7 hd p0, mo_adds h7 hd p0]
  rw [Model_loses_54 _ _ _ _ _ _ _ _ (inA_nI hd (by omega) (by omega)), cl_nI (by omega)]
  simp only [wr_same]
  unfold losesN
  dsimp only
  split
  · rw [Model_loses_65]
  · rw [Model_loses_59 _ _ _ _ _ _ h7, show nI 4 = nI 4 from rfl, mo_leaves h7 hd p0 hc (by omega), kC_ret]
    simp only [Option.toList, List.nil_append, Model_loses_65, wr_wr, wr_same]
def snt (N : Nat → Int32) (h : Int32) (c : Nat) : Int32 := if h = 0 then N (219 + 40 * c + Int32.toNatClampNeg (N 7)) else hdr N c
def dnOk (N : Nat → Int32) : Prop := ∃ k, k < 4 ∧ N 7 = nI k
theorem mo_sent {w : Wd} {P : MP} {mo d : Nat} (h7 : w.1 mo = some (7, 0)) (hd : w.1 d = some (8, 459)) (p0 : P mo 0 = some d) {c : Nat} (hc : c < 3) (h : Int32) (I : MI) (L : ML) (hN : h = 0 → dnOk (I d)) : call 142 [.ref mo, .int (nI c), .int h] w I L P = some (.inl (some (.int (snt (I d) h c))), w, I, L, P) := by
  rw [Model_sent_E, Model_sent_0]
  unfold snt
  by_cases hh : h = 0
  · obtain ⟨k, hk, hk7⟩ := hN hh
    rw [if_pos hh, if_pos hh, Model_sent_12 _ _ _ _ _ _ _ h7, p0, rf_some, Model_sent_20 _ _ _ _ _ _ _ _ _ _ _ _ (inA_nI hd (by omega) (by omega)) h7, cl_nI (by omega), hk7, nI_add, mo_told h7 hd p0 (c := c) (p := 0) (k := 4 + k) (by omega), kC_ret, cl_nI (by omega)]
    simp only [Option.toList, List.cons_append, List.nil_append, Model_sent_27]
    rw [show 207 + 40 * c + 8 + 8 * 0 + (4 + k) = 219 + 40 * c + k from by omega]
  · rw [if_neg hh, if_neg hh, Model_sent_4 _ _ _ _ _ _ _ h7, mo_header h7 hd p0 hc, kC_ret]
    simp only [Option.toList, List.cons_append, List.nil_append, Model_sent_9, Model_sent_27]
def sbt (N : Nat → Int32) (h : Int32) (c : Nat) : Int32 := (snt N h c >>> ((nI 7 - N 6) &&& 31)) &&& nI 1
theorem n10 : ¬ (nI 1 = 0) := by decide
theorem n00 : (nI 0 = 0) := by decide
theorem mo_bitOf_1 {w : Wd} {P : MP} {mo d : Nat} (h7 : w.1 mo = some (7, 0)) (hd : w.1 d = some (8, 459)) (p0 : P mo 0 = some d) {c : Nat} (hc : c < 3) (h lv : Int32) (I : MI) (L : ML) (hN : h = 0 → dnOk (I d)) : go 143 4 [.ref mo, .int h, .int lv, .int (nI c)] [] w I L P = go 143 4 [.ref mo, .int h, .int (lv &&& (if conB (I d) (nI c) then sbt (I d) h c else nI 1)), .int (nI (c + 1))] [] w I L P := by
  rw [Model_bitOf_4, if_neg (nI_ge hc (by omega)), Model_bitOf_9 _ _ _ _ _ _ _ _ h7]
  by_cases hcon : conB (I d) (nI c)
  · rw [mo_isContender1 h7 hd p0 _ _ _ hcon, kC_ret]
    simp only [Option.toList, List.cons_append, List.nil_append]
    rw [Model_bitOf_15, if_neg n10, Model_bitOf_18 _ _ _ _ _ _ _ _ _ h7, mo_sent h7 hd p0 hc _ _ _ hN, kC_ret]
    simp only [Option.toList, List.cons_append, List.nil_append]
    rw [Model_bitOf_24 _ _ _ _ _ _ _ _ _ _ h7, p0, rf_some, Model_bitOf_30 _ _ _ _ _ _ _ _ _ _ _ _ (inA_nI hd (by omega) (by omega)), Model_bitOf_41, cl_nI (by omega), nI_add, if_pos hcon]
    rfl
  · rw [mo_isContender0 h7 hd p0 _ _ _ hcon, kC_ret]
    simp only [Option.toList, List.cons_append, List.nil_append]
    rw [Model_bitOf_15, if_pos n00, Model_bitOf_40, Model_bitOf_41, nI_add, if_neg hcon]
    rfl
def loseIf (N : Nat → Int32) (h lv : Int32) (c : Nat) : Nat → Int32 := if conB N (nI c) ∧ sbt N h c ≠ lv then losesN N c else N
theorem mo_bitOf_2 {w : Wd} {P : MP} {mo d : Nat} (h7 : w.1 mo = some (7, 0)) (hd : w.1 d = some (8, 459)) (p0 : P mo 0 = some d) {c : Nat} (hc : c < 3) (h lv : Int32) (I : MI) (L : ML) (hN : h = 0 → dnOk (I d)) : go 143 51 [.ref mo, .int h, .int lv, .int (nI c)] [] w I L P = go 143 51 [.ref mo, .int h, .int lv, .int (nI (c + 1))] [] w (wr I d (loseIf (I d) h lv c)) L P := by
  rw [Model_bitOf_51, if_neg (nI_ge hc (by omega)), Model_bitOf_56 _ _ _ _ _ _ _ _ h7]
  unfold loseIf
  by_cases hcon : conB (I d) (nI c)
  · rw [mo_isContender1 h7 hd p0 _ _ _ hcon, kC_ret]
    simp only [Option.toList, List.cons_append, List.nil_append]
    rw [Model_bitOf_61, if_neg n10, Model_bitOf_64 _ _ _ _ _ _ _ _ h7, mo_sent h7 hd p0 hc _ _ _ hN, kC_ret]
    simp only [Option.toList, List.cons_append, List.nil_append]
    rw [Model_bitOf_70 _ _ _ _ _ _ _ _ _ h7, p0, rf_some, Model_bitOf_76 _ _ _ _ _ _ _ _ _ _ _ (inA_nI hd (by omega) (by omega)), cl_nI (by omega)]
    by_cases hs : sbt (I d) h c = lv
    · rw [if_pos (show (snt (I d) h c >>> ((nI 7 - I d 6) &&& 31)) &&& nI 1 = lv from hs), if_neg (by simp [hs]), wr_id, Model_bitOf_92, nI_add]
      rfl
    · rw [if_neg (show ¬ (snt (I d) h c >>> ((nI 7 - I d 6) &&& 31)) &&& nI 1 = lv from hs), if_pos ⟨hcon, hs⟩, Model_bitOf_87 _ _ _ _ _ _ _ _ h7, mo_loses h7 hd p0 hc, kC_ret]
      simp only [Option.toList, List.cons_append, List.nil_append, Model_bitOf_92, nI_add, fix1_int]
  · rw [mo_isContender0 h7 hd p0 _ _ _ hcon, kC_ret]
    simp only [Option.toList, List.cons_append, List.nil_append]
    rw [Model_bitOf_61, if_pos n00, if_neg (by simp [hcon]), wr_id, Model_bitOf_92, nI_add]
    rfl
def lvl1 (N : Nat → Int32) (h lv : Int32) (c : Nat) : Int32 := lv &&& (if conB N (nI c) then sbt N h c else nI 1)
def lvl (N : Nat → Int32) (h : Int32) : Int32 := lvl1 N h (lvl1 N h (lvl1 N h (nI 1) 0) 1) 2
def loseAll (N : Nat → Int32) (h lv : Int32) : Nat → Int32 := loseIf (loseIf (loseIf N h lv 0) h lv 1) h lv 2
def bitOfN (N : Nat → Int32) (h : Int32) : Nat → Int32 := 
  let M := loseAll N h (lvl N h)
  sN M 6 (M 6 + nI 1)
theorem shN_lo {N : Nat → Int32} {a j k : Nat} (h : k < a) : shN N a j k = N k := by unfold shN; rw [if_neg (by omega)]
theorem leavesN_lo {N : Nat → Int32} {c as k : Nat} (h : k < 207) : leavesN N c as k = N k := by
  unfold leavesN
  rw [sN_ne (by omega), sN_ne (by omega), shN_lo (by omega)]
theorem losesN_lo {N : Nat → Int32} {c k : Nat} (h : k < 207) (h5 : k ≠ 5) : losesN N c k = N k := by
  unfold losesN
  split
  · rw [sN_ne (by omega), sN_ne (by omega), sN_ne (by omega)]
  · rw [leavesN_lo h, sN_ne (by omega), sN_ne (by omega), sN_ne (by omega)]
theorem loseIf_lo {N : Nat → Int32} {h lv : Int32} {c k : Nat} (hk : k < 207) (h5 : k ≠ 5) : loseIf N h lv c k = N k := by
  unfold loseIf; split
  · exact losesN_lo hk h5
  · rfl
theorem dnOk_loseIf {N : Nat → Int32} {h lv : Int32} {c : Nat} (hN : dnOk N) : dnOk (loseIf N h lv c) := by
  obtain ⟨k, hk, h7⟩ := hN
  exact ⟨k, hk, by rw [loseIf_lo (by omega) (by omega)]; exact h7⟩
theorem mo_bitOf {w : Wd} {P : MP} {mo d : Nat} (h7 : w.1 mo = some (7, 0)) (hd : w.1 d = some (8, 459)) (p0 : P mo 0 = some d) (h : Int32) (I : MI) (L : ML) (hN : h = 0 → dnOk (I d)) : call 143 [.ref mo, .int h] w I L P = some (.inl (some (.int (lvl (I d) h))), w, wr I d (bitOfN (I d) h), L, P) := by
  rw [Model_bitOf_E, Model_bitOf_0]
  simp only [fix1_int]
  rw [mo_bitOf_1 h7 hd p0 (c := 0) (by omega) _ _ _ _ hN, mo_bitOf_1 h7 hd p0 (c := 1) (by omega) _ _ _ _ hN, mo_bitOf_1 h7 hd p0 (c := 2) (by omega) _ _ _ _ hN, Model_bitOf_4, if_pos (nI_le (by omega) (by omega)), Model_bitOf_49]
  simp only [fix1_int]
  rw [mo_bitOf_2 h7 hd p0 (c := 0) (by omega) _ _ _ _ hN, mo_bitOf_2 h7 hd p0 (c := 1) (by omega) _ _ _ _ (by rw [wr_same]; exact fun q => dnOk_loseIf (hN q)), mo_bitOf_2 h7 hd p0 (c := 2) (by omega) _ _ _ _ (by rw [wr_wr, wr_same, wr_same]; exact fun q => dnOk_loseIf (dnOk_loseIf (hN q))), Model_bitOf_51, if_pos (nI_le (by omega) (by omega)), Model_bitOf_98 _ _ _ _ _ _ _ _ h7, p0, rf_some, Model_bitOf_102 _ _ _ _ _ _ _ _ _ (inA_nI hd (by omega) (by omega)), cl_nI (by omega), updI_wr]
  simp only [wr_wr, wr_same]
  rfl
def anyc (N : Nat → Int32) : Nat := if conB N (nI 0) then 0 else if conB N (nI 1) then 1 else 2
theorem anyc_lt (N : Nat → Int32) : anyc N < 3 := by
  unfold anyc
  repeat' split
  all_goals omega
theorem mo_anyContender {w : Wd} {P : MP} {mo d : Nat} (h7 : w.1 mo = some (7, 0)) (hd : w.1 d = some (8, 459)) (p0 : P mo 0 = some d) (I : MI) (L : ML) : call 144 [.ref mo] w I L P = some (.inl (some (.int (nI (anyc (I d))))), w, I, L, P) := by
  rw [Model_anyContender_E, Model_anyContender_0 _ _ _ _ _ h7]
  unfold anyc
  by_cases h0 : conB (I d) (nI 0)
  · rw [mo_isContender1 h7 hd p0 _ _ _ h0, if_pos h0]
    simp only [kC_ret, Option.toList, List.cons_append, List.nil_append, fix1_int, fix1_ref, fix1_unk, fix1_null, fix1_long]
    rw [Model_anyContender_5, if_neg n10, Model_anyContender_8, Model_anyContender_25]
  · rw [mo_isContender0 h7 hd p0 _ _ _ h0, if_neg h0]
    simp only [kC_ret, Option.toList, List.cons_append, List.nil_append, fix1_int, fix1_ref, fix1_unk, fix1_null, fix1_long]
    rw [Model_anyContender_5, if_pos n00, Model_anyContender_12 _ _ _ _ _ h7]
    by_cases h1 : conB (I d) (nI 1)
    · rw [mo_isContender1 h7 hd p0 _ _ _ h1, if_pos h1]
      simp only [kC_ret, Option.toList, List.cons_append, List.nil_append, fix1_int, fix1_ref, fix1_unk, fix1_null, fix1_long]
      rw [Model_anyContender_17, if_neg n10, Model_anyContender_20, Model_anyContender_25]
    · rw [mo_isContender0 h7 hd p0 _ _ _ h1, if_neg h1]
      simp only [kC_ret, Option.toList, List.cons_append, List.nil_append, fix1_int, fix1_ref, fix1_unk, fix1_null, fix1_long]
      rw [Model_anyContender_17, if_pos n00, Model_anyContender_24, Model_anyContender_25]
def lvIf (N : Nat → Int32) (c as : Nat) : Nat → Int32 := if conB N (nI c) then leavesN N c as else N
theorem mo_allLeave_1 {w : Wd} {P : MP} {mo d : Nat} (h7 : w.1 mo = some (7, 0)) (hd : w.1 d = some (8, 459)) (p0 : P mo 0 = some d) {c as : Nat} (hc : c < 3) (has' : as < 5) (I : MI) (L : ML) : go 145 2 [.ref mo, .int (nI as), .int (nI c)] [] w I L P = go 145 2 [.ref mo, .int (nI as), .int (nI (c + 1))] [] w (wr I d (lvIf (I d) c as)) L P := by
  rw [Model_allLeave_2, if_neg (nI_ge hc (by omega)), Model_allLeave_7 _ _ _ _ _ _ _ h7]
  unfold lvIf
  by_cases hcon : conB (I d) (nI c)
  · rw [mo_isContender1 h7 hd p0 _ _ _ hcon, if_pos hcon]
    simp only [kC_ret, Option.toList, List.cons_append, List.nil_append, fix1_int, fix1_ref, fix1_unk, fix1_null, fix1_long]
    rw [Model_allLeave_12, if_neg n10, Model_allLeave_15 _ _ _ _ _ _ _ h7, mo_leaves h7 hd p0 hc has']
    simp only [kC_ret, Option.toList, List.cons_append, List.nil_append, fix1_int, fix1_ref, fix1_unk, fix1_null, fix1_long]
    rw [Model_allLeave_21, nI_add]
    rfl
  · rw [mo_isContender0 h7 hd p0 _ _ _ hcon, if_neg hcon, wr_id]
    simp only [kC_ret, Option.toList, List.cons_append, List.nil_append, fix1_int, fix1_ref, fix1_unk, fix1_null, fix1_long]
    rw [Model_allLeave_12, if_pos n00, Model_allLeave_21, nI_add]
    rfl
def allLeaveN (N : Nat → Int32) (as : Nat) : Nat → Int32 := sN (sN (lvIf (lvIf (lvIf N 0 as) 1 as) 2 as) 5 (nI 0)) 4 (nI 8)
theorem mo_allLeave {w : Wd} {P : MP} {mo d : Nat} (h7 : w.1 mo = some (7, 0)) (hd : w.1 d = some (8, 459)) (p0 : P mo 0 = some d) {as : Nat} (has' : as < 5) (I : MI) (L : ML) : call 145 [.ref mo, .int (nI as)] w I L P = some (.inl none, w, wr I d (allLeaveN (I d) as), L, P) := by
  rw [Model_allLeave_E, Model_allLeave_0]
  simp only [kC_ret, Option.toList, List.cons_append, List.nil_append, fix1_int, fix1_ref, fix1_unk, fix1_null, fix1_long]
  rw [mo_allLeave_1 h7 hd p0 (c := 0) (by omega) has', mo_allLeave_1 h7 hd p0 (c := 1) (by omega) has', mo_allLeave_1 h7 hd p0 (c := 2) (by omega) has', Model_allLeave_2, if_pos (nI_le (by omega) (by omega)), Model_allLeave_27 _ _ _ _ _ _ _ h7, p0, rf_some, Model_allLeave_31 _ _ _ _ _ _ _ _ (inA_nI hd (by omega) (by omega)) h7, p0, rf_some, Model_allLeave_38 _ _ _ _ _ _ _ _ (inA_nI hd (by omega) (by omega)), cl_nI (by omega), cl_nI (by omega)]
  simp only [updI_wr, wr_wr, wr_same]
  rfl
def fin1 (N : Nat → Int32) (c : Nat) : Nat → Int32 := if conB N (nI c) ∧ N (217 + 40 * c) = N 7 then sN (leavesN N c 1) 5 (leavesN N c 1 5 &&& ((nI 1 <<< (nI c &&& 31)) ^^^ (-1))) else N
def fin1v (N : Nat → Int32) (c : Nat) (v : Int32) : Int32 := v + (if conB (fin1 N c) (nI c) then nI 1 else nI 0)
theorem mo_fin_t {w : Wd} {P : MP} {mo d : Nat} (h7 : w.1 mo = some (7, 0)) (hd : w.1 d = some (8, 459)) (p0 : P mo 0 = some d) {c : Nat} (v : Int32) (I : MI) (L : ML) : go 146 54 [.ref mo, .int v, .int (nI c)] [] w I L P = go 146 4 [.ref mo, .int (v + (if conB (I d) (nI c) then nI 1 else nI 0)), .int (nI (c + 1))] [] w I L P := by
  rw [Model_finishes_54 _ _ _ _ _ _ _ h7]
  by_cases hcon : conB (I d) (nI c)
  · rw [mo_isContender1 h7 hd p0 _ _ _ hcon, if_pos hcon]
    simp only [kC_ret, Option.toList, List.cons_append, List.nil_append, fix1_int, fix1_ref, fix1_unk, fix1_null, fix1_long]
    rw [Model_finishes_60, if_neg n10, Model_finishes_63, Model_finishes_68, nI_add]
    rfl
  · rw [mo_isContender0 h7 hd p0 _ _ _ hcon, if_neg hcon]
    simp only [kC_ret, Option.toList, List.cons_append, List.nil_append, fix1_int, fix1_ref, fix1_unk, fix1_null, fix1_long]
    rw [Model_finishes_60, if_pos n00, Model_finishes_67, Model_finishes_68, nI_add]
    rfl
theorem mo_fin_1 {w : Wd} {P : MP} {mo d : Nat} (h7 : w.1 mo = some (7, 0)) (hd : w.1 d = some (8, 459)) (p0 : P mo 0 = some d) {c : Nat} (hc : c < 3) (v : Int32) (I : MI) (L : ML) : go 146 4 [.ref mo, .int v, .int (nI c)] [] w I L P = go 146 4 [.ref mo, .int (fin1v (I d) c v), .int (nI (c + 1))] [] w (wr I d (fin1 (I d) c)) L P := by
  rw [Model_finishes_4, if_neg (nI_ge hc (by omega)), Model_finishes_9 _ _ _ _ _ _ _ h7]
  unfold fin1v
  by_cases hcon : conB (I d) (nI c)
  · rw [mo_isContender1 h7 hd p0 _ _ _ hcon]
    simp only [kC_ret, Option.toList, List.cons_append, List.nil_append, fix1_int, fix1_ref, fix1_unk, fix1_null, fix1_long]
    rw [Model_finishes_14, if_neg n10, Model_finishes_17 _ _ _ _ _ _ _ h7, mo_told h7 hd p0 (c := c) (p := 0) (k := 2) (by omega)]
    simp only [kC_ret, Option.toList, List.cons_append, List.nil_append, fix1_int, fix1_ref, fix1_unk, fix1_null, fix1_long]
    rw [Model_finishes_24 _ _ _ _ _ _ _ _ h7, p0, rf_some, Model_finishes_28 _ _ _ _ _ _ _ _ _ (inA_nI hd (by omega) (by omega)), cl_nI (by omega), show 207 + 40 * c + 8 + 8 * 0 + 2 = 217 + 40 * c from by omega]
    by_cases he : I d (217 + 40 * c) = I d 7
    · have e1 : fin1 (I d) c = sN (leavesN (I d) c 1) 5 (leavesN (I d) c 1 5 &&& ((nI 1 <<< (nI c &&& 31)) ^^^ (-1))) := by unfold fin1; rw [if_pos ⟨hcon, he⟩]
      rw [if_neg (by simp [he]), Model_finishes_34 _ _ _ _ _ _ _ h7, mo_leaves h7 hd p0 hc (by omega)]
      simp only [kC_ret, Option.toList, List.cons_append, List.nil_append, fix1_int, fix1_ref, fix1_unk, fix1_null, fix1_long]
      rw [Model_finishes_40 _ _ _ _ _ _ _ h7, p0, rf_some, Model_finishes_44 _ _ _ _ _ _ _ _ (inA_nI hd (by omega) (by omega)), cl_nI (by omega), mo_fin_t h7 hd p0]
      simp only [updI_wr, wr_wr, wr_same]
      rw [e1]
    · have e1 : fin1 (I d) c = I d := by unfold fin1; rw [if_neg (by simp [he])]
      rw [if_pos he, mo_fin_t h7 hd p0, e1, wr_id]
  · have e1 : fin1 (I d) c = I d := by unfold fin1; rw [if_neg (by simp [hcon])]
    rw [mo_isContender0 h7 hd p0 _ _ _ hcon, e1, wr_id]
    simp only [kC_ret, Option.toList, List.cons_append, List.nil_append, fix1_int, fix1_ref, fix1_unk, fix1_null, fix1_long]
    rw [Model_finishes_14, if_pos n00, mo_fin_t h7 hd p0]
def finN (N : Nat → Int32) : Nat → Int32 := fin1 (fin1 (fin1 N 0) 1) 2
def finV (N : Nat → Int32) : Int32 := fin1v (fin1 (fin1 N 0) 1) 2 (fin1v (fin1 N 0) 1 (fin1v N 0 (nI 0)))
theorem mo_finishes {w : Wd} {P : MP} {mo d : Nat} (h7 : w.1 mo = some (7, 0)) (hd : w.1 d = some (8, 459)) (p0 : P mo 0 = some d) (I : MI) (L : ML) : call 146 [.ref mo] w I L P = some (.inl (some (.int (finV (I d)))), w, wr I d (finN (I d)), L, P) := by
  rw [Model_finishes_E, Model_finishes_0]
  simp only [kC_ret, Option.toList, List.cons_append, List.nil_append, fix1_int, fix1_ref, fix1_unk, fix1_null, fix1_long]
  rw [mo_fin_1 h7 hd p0 (c := 0) (by omega), mo_fin_1 h7 hd p0 (c := 1) (by omega), mo_fin_1 h7 hd p0 (c := 2) (by omega), Model_finishes_4, if_pos (nI_le (by omega) (by omega)), Model_finishes_76]
  simp only [wr_wr, wr_same]
  rfl
def nextByteN (N : Nat → Int32) : Nat → Int32 :=
  let M := sN (sN N 6 (nI 0)) 13 (nI 0)
  sN M 4 (if M 9 ≤ 0 then (if M 14 ≠ nI 1 then nI 3 else nI 5) else nI 7)
theorem mo_nextByte {w : Wd} {P : MP} {mo d : Nat} (h7 : w.1 mo = some (7, 0)) (hd : w.1 d = some (8, 459)) (p0 : P mo 0 = some d) (I : MI) (L : ML) : call 147 [.ref mo] w I L P = some (.inl none, w, wr I d (nextByteN (I d)), L, P) := by
  rw [Model_nextByte_E, Model_nextByte_0 _ _ _ _ _ h7, p0, rf_some, Model_nextByte_4 _ _ _ _ _ _ (inA_nI hd (by omega) (by omega)) h7, p0, rf_some, Model_nextByte_12 _ _ _ _ _ _ (inA_nI hd (by omega) (by omega)) h7, p0, rf_some, Model_nextByte_20 _ _ _ _ _ _ h7, p0, rf_some, Model_nextByte_25 _ _ _ _ _ _ _ _ (inA_nI hd (by omega) (by omega))]
  simp only [cl_nI (show 6 < 2147483648 by omega), cl_nI (show 13 < 2147483648 by omega), cl_nI (show 9 < 2147483648 by omega), cl_nI (show 14 < 2147483648 by omega), updI_wr, wr_wr, wr_same]
  unfold nextByteN
  dsimp only
  split
  · rw [Model_nextByte_36 _ _ _ _ _ _ _ h7, p0, rf_some, Model_nextByte_40 _ _ _ _ _ _ _ _ (inA_nI hd (by omega) (by omega)), cl_nI (by omega), wr_same]
    split
    · rw [Model_nextByte_51, Model_nextByte_52 _ _ _ _ _ _ _ _ (inA_nI hd (by omega) (by omega)), cl_nI (by omega), updI_wr, wr_wr, wr_same]
    · rw [Model_nextByte_47, Model_nextByte_52 _ _ _ _ _ _ _ _ (inA_nI hd (by omega) (by omega)), cl_nI (by omega), updI_wr, wr_wr, wr_same]
  · rw [Model_nextByte_31, Model_nextByte_52 _ _ _ _ _ _ _ _ (inA_nI hd (by omega) (by omega)), cl_nI (by omega), updI_wr, wr_wr, wr_same]
def holdsN (N : Nat → Int32) (t : Nat) : Nat → Int32 := nextByteN (sN N 9 (N (327 + 22 * t + 1)))
theorem mo_holds {w : Wd} {P : MP} {mo d : Nat} (h7 : w.1 mo = some (7, 0)) (hd : w.1 d = some (8, 459)) (p0 : P mo 0 = some d) {t : Nat} (ht : t < 6) (I : MI) (L : ML) (h8 : I d 8 = nI t) : call 148 [.ref mo] w I L P = some (.inl none, w, wr I d (holdsN (I d) t), L, P) := by
  rw [Model_holds_E, Model_holds_0 _ _ _ _ _ h7, p0, rf_some, Model_holds_4 _ _ _ _ _ _ h7, p0, rf_some, Model_holds_11 _ _ _ _ _ _ _ _ _ (inA_nI hd (by omega) (by omega)) h7, cl_nI (by omega), h8, mo_part h7 hd p0 (c := t) (k := 1) (by omega)]
  simp only [kC_ret, Option.toList, List.cons_append, List.nil_append, fix1_int, fix1_ref, fix1_unk, fix1_null, fix1_long]
  rw [Model_holds_18 _ _ _ _ _ _ _ _ (inA_nI hd (by omega) (by omega)) h7, cl_nI (by omega), mo_nextByte h7 hd p0]
  simp only [kC_ret, Option.toList, List.cons_append, List.nil_append, fix1_int, fix1_ref, fix1_unk, fix1_null, fix1_long]
  rw [Model_holds_23]
  simp only [updI_wr, wr_wr, wr_same]
  rfl
def wFrom (N : Nat → Int32) (a : Int32) : Nat → Nat → Int32
  | _, 0 => -1
  | l, f + 1 => if N (327 + 22 * l) = a then nI l else wFrom N a (l + 1) f
theorem mo_wA_loop {w : Wd} {P : MP} {mo d : Nat} (h7 : w.1 mo = some (7, 0)) (hd : w.1 d = some (8, 459)) (p0 : P mo 0 = some d) (a : Int32) (I : MI) (L : ML) {n : Nat} (hn : n ≤ 6) (h2 : I d 2 = nI n) : ∀ f l, l + f = n → go 149 2 [.ref mo, .int a, .int (nI l)] [] w I L P = some (.inl (some (.int (wFrom (I d) a l f))), w, I, L, P) := by
  intro f
  induction f with
  | zero =>
    intro l hl
    rw [Model_withAddress_2 _ _ _ _ _ _ _ h7, p0, rf_some, Model_withAddress_7 _ _ _ _ _ _ _ _ _ (inA_nI hd (by omega) (by omega)), cl_nI (by omega), h2, if_pos (nI_le (by omega) (by omega)), Model_withAddress_30]
    rfl
  | succ f ih =>
    intro l hl
    rw [Model_withAddress_2 _ _ _ _ _ _ _ h7, p0, rf_some, Model_withAddress_7 _ _ _ _ _ _ _ _ _ (inA_nI hd (by omega) (by omega)), cl_nI (by omega), h2, if_neg (nI_ge (by omega) (by omega)), Model_withAddress_12 _ _ _ _ _ _ _ h7, mo_part h7 hd p0 (c := l) (k := 0) (by omega)]
    simp only [kC_ret, Option.toList, List.cons_append, List.nil_append, fix1_int, fix1_ref, fix1_unk, fix1_null, fix1_long]
    rw [Model_withAddress_18, wFrom, Nat.add_zero]
    by_cases he : I d (327 + 22 * l) = a
    · rw [if_neg (by simp [he]), if_pos he, Model_withAddress_22]
    · rw [if_pos he, if_neg he, Model_withAddress_24, nI_add]
      simp only [kC_ret, Option.toList, List.cons_append, List.nil_append, fix1_int, fix1_ref, fix1_unk, fix1_null, fix1_long]
      rw [ih (l + 1) (by omega)]
theorem mo_withAddress {w : Wd} {P : MP} {mo d : Nat} (h7 : w.1 mo = some (7, 0)) (hd : w.1 d = some (8, 459)) (p0 : P mo 0 = some d) (a : Int32) (I : MI) (L : ML) {n : Nat} (hn : n ≤ 6) (h2 : I d 2 = nI n) : call 149 [.ref mo, .int a] w I L P = some (.inl (some (.int (wFrom (I d) a 0 n))), w, I, L, P) := by
  rw [Model_withAddress_E, Model_withAddress_0]
  simp only [kC_ret, Option.toList, List.cons_append, List.nil_append, fix1_int, fix1_ref, fix1_unk, fix1_null, fix1_long]
  exact mo_wA_loop h7 hd p0 a I L hn h2 n 0 (by omega)
theorem wFrom_spec (N : Nat → Int32) (a : Int32) : ∀ f l, wFrom N a l f = -1 ∨ ∃ t, l ≤ t ∧ t < l + f ∧ wFrom N a l f = nI t ∧ N (327 + 22 * t) = a := by
  intro f
  induction f with
  | zero => intro l; exact Or.inl rfl
  | succ f ih =>
    intro l
    unfold wFrom
    split
    · next h => exact Or.inr ⟨l, by omega, by omega, rfl, h⟩
    · rcases ih (l + 1) with h | ⟨t, h1, h2, h3, h4⟩
      · exact Or.inl h
      · exact Or.inr ⟨t, by omega, by omega, h3, h4⟩
def haT (N : Nat → Int32) (n : Nat) : Int32 := wFrom N (hdr N (anyc N) / nI 2) 0 n
def haN (N : Nat → Int32) (n : Nat) : Nat → Int32 :=
  if haT N n = -1 ∨ N (327 + 22 * Int32.toNatClampNeg (haT N n) + 4) = 0 then allLeaveN N 2 else
  holdsN (sN (sN (sN N 8 (haT N n)) 14 (hdr N (anyc N) - hdr N (anyc N) / nI 2 * nI 2)) 7 (nI 0)) (Int32.toNatClampNeg (haT N n))
def haV (N : Nat → Int32) (n : Nat) : Int32 := if haT N n = -1 ∨ N (327 + 22 * Int32.toNatClampNeg (haT N n) + 4) = 0 then nI 1 else nI 0
theorem n20 : ¬ (nI 2 = 0) := by decide
theorem nI_nm1 {t : Nat} (h : t < 100) : ¬ nI t = -1 := by
  intro e
  have := congrArg Int32.toInt e
  rw [nI_toInt (by omega)] at this
  have h2 : (-1 : Int32).toInt = -1 := by decide
  omega
theorem mo_headerAnswer {w : Wd} {P : MP} {mo d : Nat} (h7 : w.1 mo = some (7, 0)) (hd : w.1 d = some (8, 459)) (p0 : P mo 0 = some d) (I : MI) (L : ML) {n : Nat} (hn : n ≤ 6) (h2 : I d 2 = nI n) : call 150 [.ref mo] w I L P = some (.inl (some (.int (haV (I d) n))), w, wr I d (haN (I d) n), L, P) := by
  rw [Model_headerAnswer_E, Model_headerAnswer_0 _ _ _ _ _ _ _ h7, mo_anyContender h7 hd p0]
  simp only [kC_ret, Option.toList, List.cons_append, List.nil_append, fix1_int, fix1_ref, fix1_unk, fix1_null, fix1_long]
  rw [Model_headerAnswer_5 _ _ _ _ _ _ _ _ _ h7, mo_header h7 hd p0 (anyc_lt _)]
  simp only [kC_ret, Option.toList, List.cons_append, List.nil_append, fix1_int, fix1_ref, fix1_unk, fix1_null, fix1_long]
  rw [Model_headerAnswer_8 _ _ _ _ _ _ _ _ n20 h7, mo_withAddress h7 hd p0 _ I L hn h2]
  simp only [kC_ret, Option.toList, List.cons_append, List.nil_append, fix1_int, fix1_ref, fix1_unk, fix1_null, fix1_long]
  rw [Model_headerAnswer_16]
  have e0 : wFrom (I d) (hdr (I d) (anyc (I d)) / nI 2) 0 n = haT (I d) n := rfl
  rw [e0]
  unfold haN haV
  by_cases hm : haT (I d) n = -1
  · rw [if_pos hm, if_pos (Or.inl hm), if_pos (Or.inl hm), Model_headerAnswer_31 _ _ _ _ _ _ _ h7, mo_allLeave h7 hd p0 (by omega)]
    simp only [kC_ret, Option.toList, List.cons_append, List.nil_append, fix1_int, fix1_ref, fix1_unk, fix1_null, fix1_long]
    rw [Model_headerAnswer_36]
  · rw [if_neg hm]
    obtain ⟨t, ht, e⟩ : ∃ t, t < 6 ∧ haT (I d) n = nI t := by
      rcases wFrom_spec (I d) (hdr (I d) (anyc (I d)) / nI 2) n 0 with h | ⟨t, _, h2, h3, _⟩
      · exact absurd h hm
      · exact ⟨t, by omega, h3⟩
    have hc : Int32.toNatClampNeg (nI t) = t := cl_nI (by omega)
    rw [e, Model_headerAnswer_22 _ _ _ _ _ _ _ h7, mo_part h7 hd p0 (c := t) (k := 4) (by omega), hc]
    simp only [kC_ret, Option.toList, List.cons_append, List.nil_append, fix1_int, fix1_ref, fix1_unk, fix1_null, fix1_long]
    rw [Model_headerAnswer_28]
    have hm2 : ¬ nI t = -1 := nI_nm1 (by omega)
    by_cases hz : I d (327 + 22 * t + 4) = 0
    · rw [if_neg (by simp [hz]), if_pos (Or.inr hz), if_pos (Or.inr hz), Model_headerAnswer_31 _ _ _ _ _ _ _ h7, mo_allLeave h7 hd p0 (by omega)]
      simp only [kC_ret, Option.toList, List.cons_append, List.nil_append, fix1_int, fix1_ref, fix1_unk, fix1_null, fix1_long]
      rw [Model_headerAnswer_36]
    · rw [if_pos hz, if_neg (by simp [hz, hm2]), if_neg (by simp [hz, hm2]), Model_headerAnswer_38 _ _ _ _ _ _ _ h7, p0, rf_some, Model_headerAnswer_42 _ _ _ _ _ _ _ _ (inA_nI hd (by omega) (by omega)) h7, p0, rf_some, Model_headerAnswer_50 _ _ _ _ _ _ _ _ n20 (inA_nI hd (by omega) (by omega)) h7, p0, rf_some, Model_headerAnswer_60 _ _ _ _ _ _ _ _ (inA_nI hd (by omega) (by omega)) h7, cl_nI (by omega), cl_nI (by omega), cl_nI (by omega)]
      simp only [updI_wr, wr_wr, wr_same]
      rw [mo_holds h7 hd p0 (t := t) ht _ _ (by rw [wr_same, sN_ne (by omega), sN_ne (by omega), sN_eq])]
      simp only [kC_ret, Option.toList, List.cons_append, List.nil_append, fix1_int, fix1_ref, fix1_unk, fix1_null, fix1_long]
      rw [Model_headerAnswer_68, wr_wr, wr_same]
def waN1 (N : Nat → Int32) (t m : Nat) : Nat → Int32 :=
  let M1 := sN N (327 + 22 * t + (6 + m)) (snt N (nI 0) (anyc N))
  let M2 := sN M1 (327 + 22 * t + 2) (nI m + nI 1)
  sN M2 7 (M2 7 + nI 1)
def waN (N : Nat → Int32) (t m : Nat) : Nat → Int32 :=
  if m = 16 then allLeaveN N 3 else
  if finV (waN1 N t m) = 0 then sN (finN (waN1 N t m)) 4 (nI 8) else holdsN (finN (waN1 N t m)) t
def waV (m : Nat) : Int32 := if m = 16 then nI 1 else nI 0
theorem fin1_lo {N : Nat → Int32} {c k : Nat} (h : k < 207) (h5 : k ≠ 5) : fin1 N c k = N k := by
  unfold fin1; split
  · rw [sN_ne (by omega), leavesN_lo h]
  · rfl
theorem finN_lo {N : Nat → Int32} {k : Nat} (h : k < 207) (h5 : k ≠ 5) : finN N k = N k := by
  unfold finN; rw [fin1_lo h h5, fin1_lo h h5, fin1_lo h h5]
theorem mo_writeAnswer {w : Wd} {P : MP} {mo d : Nat} (h7 : w.1 mo = some (7, 0)) (hd : w.1 d = some (8, 459)) (p0 : P mo 0 = some d) (I : MI) (L : ML) {t m : Nat} (ht : t < 6) (hm : m ≤ 16) (h8 : I d 8 = nI t) (hmm : I d (327 + 22 * t + 2) = nI m) (hdn : dnOk (I d)) : call 151 [.ref mo] w I L P = some (.inl (some (.int (waV m))), w, wr I d (waN (I d) t m), L, P) := by
  rw [Model_writeAnswer_E, Model_writeAnswer_0 _ _ _ _ _ _ _ h7, p0, rf_some, Model_writeAnswer_4 _ _ _ _ _ _ _ _ (inA_nI hd (by omega) (by omega)) h7, cl_nI (by omega), h8, mo_part h7 hd p0 (c := t) (k := 2) (by omega), hmm]
  simp only [kC_ret, Option.toList, List.cons_append, List.nil_append, fix1_int, fix1_ref, fix1_unk, fix1_null, fix1_long]
  rw [Model_writeAnswer_14]
  unfold waN waV
  by_cases h16 : m = 16
  · subst h16
    rw [if_neg (by simp), Model_writeAnswer_21 _ _ _ _ _ _ _ h7, mo_allLeave h7 hd p0 (by omega)]
    simp only [kC_ret, Option.toList, List.cons_append, List.nil_append, fix1_int, fix1_ref, fix1_unk, fix1_null, fix1_long]
    rw [Model_writeAnswer_26]
    rfl
  · have hne : ¬ nI m = nI 16 := by rw [nI_eq (by omega) (by omega)]; exact h16
    rw [if_pos hne, if_neg h16, if_neg h16, fix1_int, Model_writeAnswer_28 _ _ _ _ _ _ _ h7, mo_anyContender h7 hd p0]
    simp only [kC_ret, Option.toList, List.cons_append, List.nil_append, fix1_int, fix1_ref, fix1_unk, fix1_null, fix1_long]
    rw [Model_writeAnswer_39 _ _ _ _ _ _ _ _ _ _ _ _ h7, mo_sent h7 hd p0 (anyc_lt _) _ _ _ (fun _ => hdn)]
    simp only [kC_ret, Option.toList, List.cons_append, List.nil_append, fix1_int, fix1_ref, fix1_unk, fix1_null, fix1_long]
    rw [Model_writeAnswer_43 _ _ _ _ _ _ _ _ _ _ _ h7, nI_add, mo_sets h7 hd p0 (c := t) (k := 6 + m) (by omega)]
    simp only [kC_ret, Option.toList, List.cons_append, List.nil_append, fix1_int, fix1_ref, fix1_unk, fix1_null, fix1_long]
    rw [Model_writeAnswer_46 _ _ _ _ _ _ _ h7, mo_sets h7 hd p0 (c := t) (k := 2) (by omega)]
    simp only [kC_ret, Option.toList, List.cons_append, List.nil_append, fix1_int, fix1_ref, fix1_unk, fix1_null, fix1_long]
    rw [Model_writeAnswer_55 _ _ _ _ _ _ _ h7, p0, rf_some, Model_writeAnswer_59 _ _ _ _ _ _ _ _ (inA_nI hd (by omega) (by omega)) h7, cl_nI (by omega)]
    simp only [updI_wr, wr_wr, wr_same]
    rw [mo_finishes h7 hd p0]
    simp only [kC_ret, Option.toList, List.cons_append, List.nil_append, fix1_int, fix1_ref, fix1_unk, fix1_null, fix1_long]
    rw [Model_writeAnswer_70]
    simp only [wr_wr, wr_same]
    change (if finV (waN1 (I d) t m) ≠ 0 then _ else _) = _
    by_cases hf : finV (waN1 (I d) t m) = 0
    · rw [if_neg (by simp [hf]), if_pos hf, Model_writeAnswer_73 _ _ _ _ _ _ _ h7, p0, rf_some, Model_writeAnswer_77 _ _ _ _ _ _ _ _ (inA_nI hd (by omega) (by omega)), cl_nI (by omega), Model_writeAnswer_88]
      simp only [updI_wr, wr_wr, wr_same]
      rfl
    · rw [if_pos hf, if_neg hf, Model_writeAnswer_84 _ _ _ _ _ _ _ h7, mo_holds h7 hd p0 (t := t) ht]
      · simp only [kC_ret, Option.toList, List.cons_append, List.nil_append, fix1_int, fix1_ref, fix1_unk, fix1_null, fix1_long]
        rw [Model_writeAnswer_88]
        simp only [wr_wr, wr_same]
        rfl
      · rw [wr_same, finN_lo (by omega) (by omega), sN_ne (by omega), sN_ne (by omega), sN_ne (by omega)]
        exact h8
def raN1 (N : Nat → Int32) : Nat → Int32 := sN N 7 (N 7 + nI 1)
def raN (N : Nat → Int32) (t : Nat) : Nat → Int32 := if finV (raN1 N) = 0 then sN (finN (raN1 N)) 4 (nI 8) else holdsN (finN (raN1 N)) t
def raV (N : Nat → Int32) : Int32 := if finV (raN1 N) = 0 then nI 1 else nI 0
theorem mo_readAnswer {w : Wd} {P : MP} {mo d : Nat} (h7 : w.1 mo = some (7, 0)) (hd : w.1 d = some (8, 459)) (p0 : P mo 0 = some d) (I : MI) (L : ML) {t : Nat} (ht : t < 6) (h8 : I d 8 = nI t) : call 153 [.ref mo] w I L P = some (.inl (some (.int (raV (I d)))), w, wr I d (raN (I d) t), L, P) := by
  rw [Model_readAnswer_E, Model_readAnswer_0 _ _ _ _ _ h7, p0, rf_some, Model_readAnswer_4 _ _ _ _ _ _ (inA_nI hd (by omega) (by omega)) h7, cl_nI (by omega)]
  simp only [updI_wr]
  rw [mo_finishes h7 hd p0]
  simp only [kC_ret, Option.toList, List.cons_append, List.nil_append, fix1_int, fix1_ref, fix1_unk, fix1_null, fix1_long]
  rw [Model_readAnswer_15]
  simp only [wr_wr, wr_same]
  unfold raN raV
  change (if finV (raN1 (I d)) ≠ 0 then _ else _) = _
  by_cases hf : finV (raN1 (I d)) = 0
  · rw [if_neg (by simp [hf]), if_pos hf, if_pos hf, Model_readAnswer_18 _ _ _ _ _ h7, p0, rf_some, Model_readAnswer_22 _ _ _ _ _ _ (inA_nI hd (by omega) (by omega)), cl_nI (by omega)]
    simp only [updI_wr, wr_wr, wr_same]
    rfl
  · rw [if_pos hf, if_neg hf, if_neg hf, Model_readAnswer_28 _ _ _ _ _ h7, mo_holds h7 hd p0 (t := t) ht]
    · simp only [kC_ret, Option.toList, List.cons_append, List.nil_append, fix1_int, fix1_ref, fix1_unk, fix1_null, fix1_long]
      rw [Model_readAnswer_32]
      simp only [wr_wr, wr_same]
      rfl
    · rw [wr_same, finN_lo (by omega) (by omega), sN_ne (by omega)]
      exact h8
def beg1 (N : Nat → Int32) (s : Int32) (c : Nat) : Int32 := s ||| (if N (207 + 40 * c) ≤ 0 then nI 0 else nI 1 <<< (nI c &&& 31))
def begS (N : Nat → Int32) (k : Nat) : Int32 := if k = 1 then beg1 N (nI 0) 0 else if k = 2 then beg1 N (beg1 N (nI 0) 0) 1 else beg1 N (beg1 N (beg1 N (nI 0) 0) 1) 2
def begN (N : Nat → Int32) (k : Nat) : Nat → Int32 := sN (sN (sN N 5 (begS N k)) 4 (if begS N k = 0 then nI 0 else nI 1)) 6 (nI 0)
def begV (N : Nat → Int32) (k : Nat) : Int32 := if begS N k = 0 then nI 1 else nI 0
theorem mo_beg_1 {w : Wd} {P : MP} {mo d : Nat} (h7 : w.1 mo = some (7, 0)) (hd : w.1 d = some (8, 459)) (p0 : P mo 0 = some d) {c k : Nat} (hc : c < k) (hk : k ≤ 3) (s : Int32) (I : MI) (L : ML) (h1 : I d 1 = nI k) : go 154 4 [.ref mo, .int s, .int (nI c)] [] w I L P = go 154 4 [.ref mo, .int (beg1 (I d) s c), .int (nI (c + 1))] [] w I L P := by
  rw [Model_begins_4 _ _ _ _ _ _ _ h7, p0, rf_some, Model_begins_9 _ _ _ _ _ _ _ _ _ (inA_nI hd (by omega) (by omega)), cl_nI (by omega), h1, if_neg (nI_ge hc (by omega)), Model_begins_14 _ _ _ _ _ _ _ h7, mo_of h7 hd p0 (c := c) (k := 0) (by omega)]
  simp only [kC_ret, Option.toList, List.cons_append, List.nil_append, fix1_int, fix1_ref, fix1_unk, fix1_null, fix1_long]
  rw [Model_begins_21, Nat.add_zero]
  unfold beg1
  split
  · rw [Model_begins_30, Model_begins_31, nI_add]; rfl
  · rw [Model_begins_24, Model_begins_31, nI_add]; rfl
theorem mo_beg_2 {w : Wd} {P : MP} {mo d : Nat} (h7 : w.1 mo = some (7, 0)) (hd : w.1 d = some (8, 459)) (p0 : P mo 0 = some d) {k : Nat} (hk : k ≤ 3) (s : Int32) (I : MI) (L : ML) (h1 : I d 1 = nI k) : go 154 4 [.ref mo, .int s, .int (nI k)] [] w I L P = some (.inl (some (.int (if s = 0 then nI 1 else nI 0))), w, wr I d (sN (sN (sN (I d) 5 s) 4 (if s = 0 then nI 0 else nI 1)) 6 (nI 0)), L, P) := by
  rw [Model_begins_4 _ _ _ _ _ _ _ h7, p0, rf_some, Model_begins_9 _ _ _ _ _ _ _ _ _ (inA_nI hd (by omega) (by omega)), cl_nI (by omega), h1, if_pos (nI_le (by omega) (by omega)), Model_begins_39 _ _ _ _ _ _ _ h7, p0, rf_some, Model_begins_43 _ _ _ _ _ _ _ _ (inA_nI hd (by omega) (by omega)) h7, p0, rf_some, Model_begins_50, cl_nI (by omega)]
  by_cases hs : s = 0
  · rw [if_neg (by simp [hs]), Model_begins_55, Model_begins_60 _ _ _ _ _ _ _ _ _ _ (inA_nI hd (by omega) (by omega)) h7, p0, rf_some, Model_begins_65 _ _ _ _ _ _ _ _ (inA_nI hd (by omega) (by omega)), if_neg (by simp [hs]), Model_begins_73, Model_begins_78, cl_nI (by omega), cl_nI (by omega), if_pos hs, if_pos hs]
    simp only [updI_wr, wr_wr, wr_same]
  · rw [if_pos hs, Model_begins_59, Model_begins_60 _ _ _ _ _ _ _ _ _ _ (inA_nI hd (by omega) (by omega)) h7, p0, rf_some, Model_begins_65 _ _ _ _ _ _ _ _ (inA_nI hd (by omega) (by omega)), if_pos hs, Model_begins_77, Model_begins_78, cl_nI (by omega), cl_nI (by omega), if_neg hs, if_neg hs]
    simp only [updI_wr, wr_wr, wr_same]
theorem mo_begins {w : Wd} {P : MP} {mo d : Nat} (h7 : w.1 mo = some (7, 0)) (hd : w.1 d = some (8, 459)) (p0 : P mo 0 = some d) (I : MI) (L : ML) {k : Nat} (hk0 : 0 < k) (hk : k ≤ 3) (h1 : I d 1 = nI k) : call 154 [.ref mo] w I L P = some (.inl (some (.int (begV (I d) k))), w, wr I d (begN (I d) k), L, P) := by
  rw [Model_begins_E, Model_begins_0]
  simp only [kC_ret, Option.toList, List.cons_append, List.nil_append, fix1_int, fix1_ref, fix1_unk, fix1_null, fix1_long]
  rw [mo_beg_1 h7 hd p0 (c := 0) hk0 hk _ _ _ h1]
  unfold begV begN begS
  rcases (show k = 1 ∨ k = 2 ∨ k = 3 by omega) with rfl | rfl | rfl
  · rw [mo_beg_2 h7 hd p0 hk _ _ _ h1]; rfl
  · rw [mo_beg_1 h7 hd p0 (c := 1) (by omega) hk _ _ _ h1, mo_beg_2 h7 hd p0 hk _ _ _ h1]; rfl
  · rw [mo_beg_1 h7 hd p0 (c := 1) (by omega) hk _ _ _ h1, mo_beg_1 h7 hd p0 (c := 2) (by omega) hk _ _ _ h1, mo_beg_2 h7 hd p0 hk _ _ _ h1]; rfl
theorem n213 (c : Nat) : 207 + 40 * c + 6 = 213 + 40 * c := by omega
theorem n214 (c : Nat) : 207 + 40 * c + 7 = 214 + 40 * c := by omega
def rbB (N : Nat → Int32) (t m : Nat) : Int32 := if m = 0 then nI 255 else N (327 + 22 * t + (6 + Int32.toNatClampNeg (N (327 + 22 * t + 3))))
def rbV (N : Nat → Int32) (t m : Nat) : Int32 := (rbB N t m >>> ((nI 7 - N 6) &&& 31)) &&& nI 1
def rb2 (N : Nat → Int32) (t m : Nat) : Nat → Int32 := sN (sN N 13 (nI 2 * N 13 + rbV N t m)) 6 (N 6 + nI 1)
def rc1 (N : Nat → Int32) (c : Nat) : Nat → Int32 := if conB N (nI c) then sN (sN N (213 + 40 * c) (N (213 + 40 * c) + nI 1)) (214 + 40 * c) (N 13) else N
def rb3 (N : Nat → Int32) (t m : Nat) : Nat → Int32 := sN (rb2 N t m) (327 + 22 * t + 3) (if nI m ≤ N (327 + 22 * t + 3) + nI 1 then nI 0 else N (327 + 22 * t + 3) + nI 1)
def rbN (N : Nat → Int32) (t m : Nat) : Nat → Int32 := if N 6 + nI 1 ≠ nI 8 then rb2 N t m else sN (rc1 (rc1 (rc1 (rb3 N t m) 0) 1) 2) 4 (nI 6)
theorem mo_rb_1 {w : Wd} {P : MP} {mo d : Nat} (h7 : w.1 mo = some (7, 0)) (hd : w.1 d = some (8, 459)) (p0 : P mo 0 = some d) {c : Nat} (hc : c < 3) (l1 l2 l3 : Value) (v : Int32) (I : MI) (L : ML) : go 152 131 [.ref mo, l1, l2, l3, .int v, .int (nI c)] [] w I L P = go 152 131 [.ref mo, l1, l2, l3, .int v, .int (nI (c + 1))] [] w (wr I d (rc1 (I d) c)) L P := by
  rw [Model_readBit_131, if_neg (nI_ge hc (by omega)), Model_readBit_137 _ _ _ _ _ _ _ _ _ _ h7]
  unfold rc1
  by_cases hcon : conB (I d) (nI c)
  · rw [mo_isContender1 h7 hd p0 _ _ _ hcon, if_pos hcon]
    simp only [kC_ret, Option.toList, List.cons_append, List.nil_append, fix1_int, fix1_ref, fix1_unk, fix1_null, fix1_long]
    rw [Model_readBit_143, if_neg n10, Model_readBit_146 _ _ _ _ _ _ _ _ _ _ h7, mo_adds h7 hd p0 (c := c) (k := 6) (by omega), n213]
    simp only [kC_ret, Option.toList, List.cons_append, List.nil_append, fix1_int, fix1_ref, fix1_unk, fix1_null, fix1_long]
    rw [Model_readBit_155 _ _ _ _ _ _ _ _ _ _ h7, p0, rf_some, Model_readBit_159 _ _ _ _ _ _ _ _ _ _ _ h7, p0, rf_some, pk_mul, nI_add, nI_add, Model_readBit_175 _ _ _ _ _ _ _ _ _ _ _ _ _ (inA_nI hd (by omega) (by omega)) (inA_nI hd (by omega) (by omega)), cl_nI (by omega), cl_nI (by omega), n214]
    simp only [updI_wr, wr_wr, wr_same]
    rw [Model_readBit_179, nI_add, fix1_int, sN_ne (show 13 ≠ 213 + 40 * c by omega)]
  · rw [mo_isContender0 h7 hd p0 _ _ _ hcon, if_neg hcon, wr_id]
    simp only [kC_ret, Option.toList, List.cons_append, List.nil_append, fix1_int, fix1_ref, fix1_unk, fix1_null, fix1_long]
    rw [Model_readBit_143, if_pos n00, Model_readBit_179, nI_add, fix1_int]
theorem mo_readBit {w : Wd} {P : MP} {mo d : Nat} (h7 : w.1 mo = some (7, 0)) (hd : w.1 d = some (8, 459)) (p0 : P mo 0 = some d) (I : MI) (L : ML) {t m p : Nat} (ht : t < 6) (hm : m ≤ 16) (hp : p < 16) (h8 : I d 8 = nI t) (hmm : I d (327 + 22 * t + 2) = nI m) (hpp : I d (327 + 22 * t + 3) = nI p) : call 152 [.ref mo] w I L P = some (.inl (some (.int (rbV (I d) t m))), w, wr I d (rbN (I d) t m), L, P) := by
  have e1 : ∀ X, (if nI m ≠ 0 then go 152 25 [.ref mo, .int (nI t), .int (nI m), unk, unk, unk] [] w I L P else go 152 19 [.ref mo, .int (nI t), .int (nI m), unk, unk, unk] [] w I L P) = X ↔ go 152 39 [.ref mo, .int (nI t), .int (nI m), unk, unk, unk] [.int (rbB (I d) t m)] w I L P = X := by
    intro X
    by_cases h0 : m = 0
    · subst h0
      rw [if_neg (by decide), Model_readBit_19]
      rfl
    · rw [if_pos (nI_ne0 (by omega) (by omega)), Model_readBit_25 _ _ _ _ _ _ _ _ _ _ h7, mo_part h7 hd p0 (c := t) (k := 3) (by omega)]
      simp only [kC_ret, Option.toList, List.cons_append, List.nil_append, fix1_int, fix1_ref, fix1_unk, fix1_null, fix1_long]
      rw [hpp, Model_readBit_35 _ _ _ _ _ _ _ _ _ _ _ _ _ _ h7, nI_add, mo_part h7 hd p0 (c := t) (k := 6 + p) (by omega)]
      simp only [kC_ret, Option.toList, List.cons_append, List.nil_append, fix1_int, fix1_ref, fix1_unk, fix1_null, fix1_long]
      unfold rbB
      rw [if_neg h0, hpp, cl_nI (by omega)]
  rw [Model_readBit_E, Model_readBit_0 _ _ _ _ _ _ _ _ _ _ h7, p0, rf_some, Model_readBit_4 _ _ _ _ _ _ _ _ _ _ _ (inA_nI hd (by omega) (by omega)) h7, cl_nI (by omega), h8, mo_part h7 hd p0 (c := t) (k := 2) (by omega), hmm]
  simp only [kC_ret, Option.toList, List.cons_append, List.nil_append, fix1_int, fix1_ref, fix1_unk, fix1_null, fix1_long]
  rw [Model_readBit_14]
  simp only [kC_ret, Option.toList, List.cons_append, List.nil_append, fix1_int, fix1_ref, fix1_unk, fix1_null, fix1_long]
  rw [e1, Model_readBit_39 _ _ _ _ _ _ _ _ _ _ _ h7, p0, rf_some, Model_readBit_47 _ _ _ _ _ _ _ _ _ _ _ _ _ (inA_nI hd (by omega) (by omega)) h7, p0, rf_some, cl_nI (by omega)]
  simp only [kC_ret, Option.toList, List.cons_append, List.nil_append, fix1_int, fix1_ref, fix1_unk, fix1_null, fix1_long]
  change go 152 60 [_, _, _, _, .int (rbV (I d) t m), _] _ _ _ _ _ = _
  rw [Model_readBit_60 _ _ _ _ _ _ _ _ _ _ _ h7, p0, rf_some, Model_readBit_67 _ _ _ _ _ _ _ _ _ _ _ _ _ _ (inA_nI hd (by omega) (by omega)) (inA_nI hd (by omega) (by omega)) h7, p0, rf_some, cl_nI (by omega), updI_wr, Model_readBit_79 _ _ _ _ _ _ _ _ _ _ _ (inA_nI hd (by omega) (by omega)) h7, p0, rf_some, cl_nI (by omega), updI_wr, wr_wr, wr_same, sN_ne (show 6 ≠ 13 by omega), Model_readBit_90 _ _ _ _ _ _ _ _ _ _ _ (inA_nI hd (by omega) (by omega)), cl_nI (by omega), wr_same, sN_eq]
  change (if I d 6 + nI 1 ≠ nI 8 then _ else go 152 98 _ _ _ (wr I d (rb2 (I d) t m)) _ _) = _
  unfold rbN
  by_cases h8' : I d 6 + nI 1 = nI 8
  · rw [if_neg (by simp [h8']), if_neg (by simp [h8']), Model_readBit_98 _ _ _ _ _ _ _ _ _ _ h7, mo_part h7 hd p0 (c := t) (k := 3) (by omega)]
    have er : (wr I d (rb2 (I d) t m)) d (327 + 22 * t + 3) = I d (327 + 22 * t + 3) := by
      rw [wr_same]; unfold rb2; rw [sN_ne (by omega), sN_ne (by omega)]
    simp only [kC_ret, Option.toList, List.cons_append, List.nil_append, fix1_int, fix1_ref, fix1_unk, fix1_null, fix1_long]
    rw [er, Model_readBit_107]
    have e2 : ∀ X, (if nI m ≤ I d (327 + 22 * t + 3) + nI 1 then go 152 124 [.ref mo, .int (nI t), .int (nI m), .int (rbB (I d) t m), .int (rbV (I d) t m), unk] [.int (nI 3), .int (nI t), .ref mo] w (wr I d (rb2 (I d) t m)) L P else go 152 113 [.ref mo, .int (nI t), .int (nI m), .int (rbB (I d) t m), .int (rbV (I d) t m), unk] [.int (nI 3), .int (nI t), .ref mo] w (wr I d (rb2 (I d) t m)) L P) = X ↔ go 152 125 [.ref mo, .int (nI t), .int (nI m), .int (rbB (I d) t m), .int (rbV (I d) t m), unk] [.int (if nI m ≤ I d (327 + 22 * t + 3) + nI 1 then nI 0 else I d (327 + 22 * t + 3) + nI 1), .int (nI 3), .int (nI t), .ref mo] w (wr I d (rb2 (I d) t m)) L P = X := by
      intro X
      by_cases hq : nI m ≤ I d (327 + 22 * t + 3) + nI 1
      · rw [if_pos hq, if_pos hq, Model_readBit_124]
      · rw [if_neg hq, if_neg hq, Model_readBit_113 _ _ _ _ _ _ _ _ _ _ _ _ _ h7, mo_part h7 hd p0 (c := t) (k := 3) (by omega)]
        simp only [kC_ret, Option.toList, List.cons_append, List.nil_append, fix1_int, fix1_ref, fix1_unk, fix1_null, fix1_long]
        rw [er, Model_readBit_119]
    rw [e2, Model_readBit_125 _ _ _ _ _ _ _ _ _ _ _ _ _ _ h7, mo_sets h7 hd p0 (c := t) (k := 3) (by omega)]
    simp only [kC_ret, Option.toList, List.cons_append, List.nil_append, fix1_int, fix1_ref, fix1_unk, fix1_null, fix1_long]
    rw [wr_wr, wr_same]
    change go 152 128 _ _ _ (wr I d (rb3 (I d) t m)) _ _ = _
    rw [Model_readBit_128]
    simp only [kC_ret, Option.toList, List.cons_append, List.nil_append, fix1_int, fix1_ref, fix1_unk, fix1_null, fix1_long]
    rw [mo_rb_1 h7 hd p0 (c := 0) (by omega), mo_rb_1 h7 hd p0 (c := 1) (by omega), mo_rb_1 h7 hd p0 (c := 2) (by omega), Model_readBit_131, if_pos (nI_le (by omega) (by omega)), Model_readBit_185 _ _ _ _ _ _ _ _ _ _ h7, p0, rf_some, Model_readBit_189 _ _ _ _ _ _ _ _ _ _ _ (inA_nI hd (by omega) (by omega)), cl_nI (by omega), Model_readBit_193]
    simp only [updI_wr, wr_wr, wr_same]
  · rw [if_pos h8', if_pos h8', Model_readBit_193]
    rfl
def cl (N : Nat → Int32) (k : Nat) : Nat := Int32.toNatClampNeg (N k)
def rd (N : Nat → Int32) (a : Nat) : Prop := ∃ k, k < a ∧ N 8 = nI k
/-- what a slot of the model needs of its row -/
def StepOk (N : Nat → Int32) : Prop := ∃ k n md, 0 < k ∧ k ≤ 3 ∧ N 1 = nI k ∧ n ≤ 6 ∧ N 2 = nI n ∧ md ≤ 8 ∧ N 4 = nI md ∧ (md = 3 ∨ md = 4 → dnOk N) ∧ (3 < md ∧ md < 8 → ∃ t m p, t < 6 ∧ N 8 = nI t ∧ m ≤ 16 ∧ N (327 + 22 * t + 2) = nI m ∧ p < 16 ∧ N (327 + 22 * t + 3) = nI p)
def holdStep (N : Nat → Int32) (t : Nat) : Nat → Int32 := 
  let M := sN (sN N 9 (N 9 - nI 1)) 11 (N 11 + nI 1)
  nextByteN (sN M (327 + 22 * t + 5) (M (327 + 22 * t + 5) + nI 1))
def stepN (N : Nat → Int32) : Nat → Int32 := match cl N 4 with
  | 0 => begN N (cl N 1)
  | 1 => sN (bitOfN N (nI 1)) 4 (if bitOfN N (nI 1) 6 ≠ nI 8 then nI 1 else nI 2)
  | 2 => haN N (cl N 2)
  | 3 => sN (bitOfN N (nI 0)) 4 (if bitOfN N (nI 0) 6 ≠ nI 8 then nI 3 else nI 4)
  | 4 => waN N (cl N 8) (cl N (327 + 22 * cl N 8 + 2))
  | 5 => rbN N (cl N 8) (cl N (327 + 22 * cl N 8 + 2))
  | 6 => raN N (cl N 8)
  | 7 => holdStep N (cl N 8)
  | _ => sN (sN N 4 (nI 0)) 8 (-1)
def stepV (N : Nat → Int32) : Int32 := match cl N 4 with
  | 0 => begV N (cl N 1)
  | 1 => lvl N (nI 1)
  | 2 => haV N (cl N 2)
  | 3 => lvl N (nI 0)
  | 4 => waV (cl N (327 + 22 * cl N 8 + 2))
  | 5 => rbV N (cl N 8) (cl N (327 + 22 * cl N 8 + 2))
  | 6 => raV N
  | 7 => nI 0
  | _ => nI 1
theorem cl_of {N : Nat → Int32} {k j : Nat} (h : N k = nI j) (hj : j < 2147483648) : cl N k = j := by unfold cl; rw [h, cl_nI hj]
theorem mo_step_8 {w : Wd} {P : MP} {mo d : Nat} (h7 : w.1 mo = some (7, 0)) (hd : w.1 d = some (8, 459)) (p0 : P mo 0 = some d) (I : MI) (L : ML) : call 155 [.ref mo] w I L P = go 155 8 [.ref mo, .int (nI 0)] [.int (I d 4)] w I L P := by
  rw [Model_step_E, Model_step_0 _ _ _ _ _ _ h7, p0, rf_some, Model_step_6 _ _ _ _ _ _ _ (inA_nI hd (by omega) (by omega)), cl_nI (by omega)]
theorem mo_step {w : Wd} {P : MP} {mo d : Nat} (h7 : w.1 mo = some (7, 0)) (hd : w.1 d = some (8, 459)) (p0 : P mo 0 = some d) (I : MI) (L : ML) (hN : StepOk (I d)) : call 155 [.ref mo] w I L P = some (.inl (some (.int (stepV (I d)))), w, wr I d (stepN (I d)), L, P) := by
  obtain ⟨k, n, md, hk0, hk, h1, hn, h2, hmd, h4, hdn, hpt⟩ := hN
  rw [mo_step_8 h7 hd p0, h4]
  unfold stepN stepV
  rw [cl_of h4 (by omega), cl_of h1 (by omega), cl_of h2 (by omega)]
  rcases (show md = 0 ∨ md = 1 ∨ md = 2 ∨ md = 3 ∨ md = 4 ∨ md = 5 ∨ md = 6 ∨ md = 7 ∨ md = 8 by omega) with rfl | rfl | rfl | rfl | rfl | rfl | rfl | rfl | rfl
  · rw [Model_step_8_k0, Model_step_56 _ _ _ _ _ _ h7, mo_begins h7 hd p0 I L hk0 hk h1]
    simp only [kC_ret, Option.toList, List.cons_append, List.nil_append, fix1_int, fix1_ref, fix1_unk, fix1_null, fix1_long]
    rw [Model_step_60]
  · rw [Model_step_8_k1, Model_step_61 _ _ _ _ _ _ h7, mo_bitOf h7 hd p0 _ _ _ (fun h => absurd h (by decide))]
    simp only [kC_ret, Option.toList, List.cons_append, List.nil_append, fix1_int, fix1_ref, fix1_unk, fix1_null, fix1_long]
    rw [Model_step_66 _ _ _ _ _ _ _ h7, p0, rf_some, Model_step_71 _ _ _ _ _ _ _ h7, p0, rf_some, Model_step_76 _ _ _ _ _ _ _ _ _ (inA_nI hd (by omega) (by omega)), cl_nI (by omega), wr_same]
    split
    · rw [Model_step_88, Model_step_89 _ _ _ _ _ _ _ _ _ (inA_nI hd (by omega) (by omega)), cl_nI (by omega), updI_wr, wr_wr, wr_same]
    · rw [Model_step_84, Model_step_89 _ _ _ _ _ _ _ _ _ (inA_nI hd (by omega) (by omega)), cl_nI (by omega), updI_wr, wr_wr, wr_same]
  · rw [Model_step_8_k2, Model_step_92 _ _ _ _ _ _ h7, mo_headerAnswer h7 hd p0 I L hn h2]
    simp only [kC_ret, Option.toList, List.cons_append, List.nil_append, fix1_int, fix1_ref, fix1_unk, fix1_null, fix1_long]
    rw [Model_step_96]
  · rw [Model_step_8_k3, Model_step_97 _ _ _ _ _ _ h7, mo_bitOf h7 hd p0 _ _ _ (fun h => hdn (by omega))]
    simp only [kC_ret, Option.toList, List.cons_append, List.nil_append, fix1_int, fix1_ref, fix1_unk, fix1_null, fix1_long]
    rw [Model_step_102 _ _ _ _ _ _ _ h7, p0, rf_some, Model_step_107 _ _ _ _ _ _ _ h7, p0, rf_some, Model_step_112 _ _ _ _ _ _ _ _ _ (inA_nI hd (by omega) (by omega)), cl_nI (by omega), wr_same]
    split
    · rw [Model_step_124, Model_step_125 _ _ _ _ _ _ _ _ _ (inA_nI hd (by omega) (by omega)), cl_nI (by omega), updI_wr, wr_wr, wr_same]
    · rw [Model_step_120, Model_step_125 _ _ _ _ _ _ _ _ _ (inA_nI hd (by omega) (by omega)), cl_nI (by omega), updI_wr, wr_wr, wr_same]
  · obtain ⟨t, m, p, ht, h8, hm, hmm, hp, hpp⟩ := hpt (by omega)
    rw [Model_step_8_k4, Model_step_128 _ _ _ _ _ _ h7, mo_writeAnswer h7 hd p0 I L ht hm h8 hmm (hdn (by omega))]
    simp only [kC_ret, Option.toList, List.cons_append, List.nil_append, fix1_int, fix1_ref, fix1_unk, fix1_null, fix1_long]
    rw [Model_step_132, cl_of h8 (by omega), cl_of hmm (by omega)]
  · obtain ⟨t, m, p, ht, h8, hm, hmm, hp, hpp⟩ := hpt (by omega)
    rw [Model_step_8_k5, Model_step_133 _ _ _ _ _ _ h7, mo_readBit h7 hd p0 I L ht hm hp h8 hmm hpp]
    simp only [kC_ret, Option.toList, List.cons_append, List.nil_append, fix1_int, fix1_ref, fix1_unk, fix1_null, fix1_long]
    rw [Model_step_137, cl_of h8 (by omega), cl_of hmm (by omega)]
  · obtain ⟨t, m, p, ht, h8, hm, hmm, hp, hpp⟩ := hpt (by omega)
    rw [Model_step_8_k6, Model_step_138 _ _ _ _ _ _ h7, mo_readAnswer h7 hd p0 I L ht h8]
    simp only [kC_ret, Option.toList, List.cons_append, List.nil_append, fix1_int, fix1_ref, fix1_unk, fix1_null, fix1_long]
    rw [Model_step_142, cl_of h8 (by omega)]
  · obtain ⟨t, m, p, ht, h8, hm, hmm, hp, hpp⟩ := hpt (by omega)
    rw [Model_step_8_k7, Model_step_143 _ _ _ _ _ _ h7, p0, rf_some, Model_step_147 _ _ _ _ _ _ _ (inA_nI hd (by omega) (by omega)) h7, p0, rf_some, Model_step_158 _ _ _ _ _ _ _ (inA_nI hd (by omega) (by omega)) h7, p0, rf_some, Model_step_170 _ _ _ _ _ _ _ _ (inA_nI hd (by omega) (by omega)) h7, p0, rf_some, cl_nI (by omega), cl_nI (by omega), cl_nI (by omega)]
    simp only [updI_wr, wr_wr, wr_same]
    have e8 : (sN (sN (I d) 9 (I d 9 - nI 1)) 11 (sN (I d) 9 (I d 9 - nI 1) 11 + nI 1)) 8 = nI t := by rw [sN_ne (by omega), sN_ne (by omega), h8]
    rw [Model_step_179 _ _ _ _ _ _ _ _ _ _ _ (inA_nI hd (by omega) (by omega)) h7, cl_nI (by omega), wr_same, e8, mo_part h7 hd p0 (c := t) (k := 5) (by omega)]
    simp only [kC_ret, Option.toList, List.cons_append, List.nil_append, fix1_int, fix1_ref, fix1_unk, fix1_null, fix1_long]
    rw [Model_step_186 _ _ _ _ _ _ _ _ _ _ h7, mo_sets h7 hd p0 (c := t) (k := 5) (by omega)]
    simp only [kC_ret, Option.toList, List.cons_append, List.nil_append, fix1_int, fix1_ref, fix1_unk, fix1_null, fix1_long]
    rw [Model_step_191 _ _ _ _ _ _ h7, mo_nextByte h7 hd p0]
    simp only [kC_ret, Option.toList, List.cons_append, List.nil_append, fix1_int, fix1_ref, fix1_unk, fix1_null, fix1_long]
    rw [Model_step_195, cl_of h8 (by omega)]
    simp only [wr_wr, wr_same, sN_ne (show 11 ≠ 9 by omega)]
    rfl
  · rw [Model_step_8_kd _ _ _ _ _ _ _ (by rw [nI_toInt (by omega)]; omega), Model_step_197 _ _ _ _ _ _ h7, p0, rf_some, Model_step_201 _ _ _ _ _ _ _ (inA_nI hd (by omega) (by omega)) h7, p0, rf_some, Model_step_208 _ _ _ _ _ _ _ (inA_nI hd (by omega) (by omega)), cl_nI (by omega), cl_nI (by omega)]
    simp only [updI_wr, wr_wr, wr_same]
def kindV (md : Nat) : Int32 := match md with
  | 1 => nI 2
  | 2 => nI 3
  | 3 => nI 4
  | 4 => nI 5
  | 5 => nI 4
  | 6 => nI 5
  | 7 => nI 6
  | _ => nI 7
theorem mo_kindOf {md : Nat} (h0 : 0 < md) (h : md ≤ 8) (w : Wd) (I : MI) (L : ML) (P : MP) : call 156 [.int (nI md)] w I L P = some (.inl (some (.int (kindV md))), w, I, L, P) := by
  rw [Model_kindOf_E, Model_kindOf_0]
  rcases (show md = 1 ∨ md = 2 ∨ md = 3 ∨ md = 4 ∨ md = 5 ∨ md = 6 ∨ md = 7 ∨ md = 8 by omega) with rfl | rfl | rfl | rfl | rfl | rfl | rfl | rfl
  · rw [Model_kindOf_1_k1, Model_kindOf_44]; rfl
  · rw [Model_kindOf_1_k2, Model_kindOf_46]; rfl
  · rw [Model_kindOf_1_k3, Model_kindOf_48]; rfl
  · rw [Model_kindOf_1_k4, Model_kindOf_50]; rfl
  · rw [Model_kindOf_1_k5, Model_kindOf_48]; rfl
  · rw [Model_kindOf_1_k6, Model_kindOf_50]; rfl
  · rw [Model_kindOf_1_k7, Model_kindOf_52]; rfl
  · rw [Model_kindOf_1_kd _ _ _ _ _ _ (by rw [nI_toInt (by omega)]; omega), Model_kindOf_55]; rfl
def slotKind (N : Nat → Int32) : Int32 := if N 4 = 0 then (if stepN N 4 = 0 then nI 0 else nI 1) else kindV (cl N 4)
def slotN (N : Nat → Int32) : Nat → Int32 :=
  let M := stepN N
  let a := 15 + 3 * (cl M 0 % 64)
  let M3 := sN (sN (sN M a (stepV N)) (a + 1) (M 5)) (a + 2) (slotKind N)
  let M4 := sN M3 12 (stepV N)
  sN (sN M4 10 (M4 10 + (if slotKind N = 0 then nI 0 else nI 1))) 0 (M4 0 + nI 1)
theorem n64 : ¬ (nI 64 = 0) := by decide
theorem mo_slot {w : Wd} {P : MP} {mo d : Nat} (h7 : w.1 mo = some (7, 0)) (hd : w.1 d = some (8, 459)) (p0 : P mo 0 = some d) (I : MI) (L : ML) (hN : StepOk (I d)) {q : Nat} (hq : q < 2147483648) (h0 : stepN (I d) 0 = nI q) : call 157 [.ref mo] w I L P = some (.inl none, w, wr I d (slotN (I d)), L, P) := by
  have hN' := hN
  obtain ⟨k, n, md, hk0, hk, h1, hn, h2, hmd, h4, hdn, hpt⟩ := hN'
  have hr : q % 64 < 64 := Nat.mod_lt _ (by omega)
  have e1 : ∀ X, (if I d 4 = 0 then go 157 23 [.ref mo, .int (I d 4), .int (stepV (I d)), unk, unk] [] w (wr I d (stepN (I d))) L P else go 157 16 [.ref mo, .int (I d 4), .int (stepV (I d)), unk, unk] [] w (wr I d (stepN (I d))) L P) = X ↔ go 157 37 [.ref mo, .int (I d 4), .int (stepV (I d)), unk, unk] [.int (slotKind (I d))] w (wr I d (stepN (I d))) L P = X := by
    intro X
    unfold slotKind
    by_cases hz : I d 4 = 0
    · rw [if_pos hz, if_pos hz, Model_slot_23 _ _ _ _ _ _ _ _ _ h7, p0, rf_some, Model_slot_27 _ _ _ _ _ _ _ _ _ _ (inA_nI hd (by omega) (by omega)), cl_nI (by omega), wr_same]
      by_cases hy : stepN (I d) 4 = 0
      · rw [if_neg (by simp [hy]), if_pos hy, Model_slot_32]
      · rw [if_pos hy, if_neg hy, Model_slot_36]
    · rw [if_neg hz, if_neg hz, h4, Model_slot_16]
      have : 0 < md := by
        rcases Nat.eq_zero_or_pos md with h | h
        · subst h; exact absurd h4 hz
        · exact h
      rw [mo_kindOf this hmd]
      simp only [kC_ret, Option.toList, List.cons_append, List.nil_append, fix1_int, fix1_ref, fix1_unk, fix1_null, fix1_long]
      rw [Model_slot_20, cl_of h4 (by omega)]
  rw [Model_slot_E, Model_slot_0 _ _ _ _ _ _ _ _ _ h7, p0, rf_some, Model_slot_4 _ _ _ _ _ _ _ _ _ _ (inA_nI hd (by omega) (by omega)) h7, cl_nI (by omega), mo_step h7 hd p0 _ _ hN]
  simp only [kC_ret, Option.toList, List.cons_append, List.nil_append, fix1_int, fix1_ref, fix1_unk, fix1_null, fix1_long]
  rw [Model_slot_11, e1, Model_slot_37 _ _ _ _ _ _ _ _ _ _ h7, p0, rf_some, Model_slot_45 _ _ _ _ _ _ _ _ _ _ _ _ (inA_nI hd (by omega) (by omega)) n64 h7, p0, rf_some, cl_nI (by omega), wr_same, h0, pk_rem (by omega) (by omega) (by omega), pk_mul, nI_add]
  simp only [kC_ret, Option.toList, List.cons_append, List.nil_append, fix1_int, fix1_ref, fix1_unk, fix1_null, fix1_long]
  rw [Model_slot_58 _ _ _ _ _ _ _ _ _ _ (inA_nI hd (by omega) (by omega)) h7, p0, rf_some, Model_slot_66 _ _ _ _ _ _ _ _ _ _ h7, p0, rf_some, nI_add, Model_slot_74 _ _ _ _ _ _ _ _ _ _ _ _ (inA_nI hd (by omega) (by omega)) (inA_nI hd (by omega) (by omega)) h7, p0, rf_some, Model_slot_81 _ _ _ _ _ _ _ _ _ _ (by rw [nI_add]; exact (inA_nI hd (by omega) (by omega))) h7, p0, rf_some, nI_add, Model_slot_91 _ _ _ _ _ _ _ _ _ _ (inA_nI hd (by omega) (by omega)) h7, p0, rf_some, Model_slot_99 _ _ _ _ _ _ _ _ _ _ (inA_nI hd (by omega) (by omega))]
  rw [cl_nI (by omega), cl_nI (by omega), cl_nI (by omega), cl_nI (by omega), cl_nI (by omega), cl_nI (by omega)]
  simp only [updI_wr, wr_wr, wr_same]
  have e2 : ∀ (N : Nat → Int32) (v0 : Value) (X : Option Rs), (if slotKind (I d) ≠ 0 then go 157 111 [.ref mo, .int (I d 4), .int (stepV (I d)), .int (slotKind (I d)), v0] [.int (N 10), .int (nI 10), .ref d] w (wr I d N) L P else go 157 107 [.ref mo, .int (I d 4), .int (stepV (I d)), .int (slotKind (I d)), v0] [.int (N 10), .int (nI 10), .ref d] w (wr I d N) L P) = X ↔ some (.inl none, w, wr I d (sN (sN N 10 (N 10 + (if slotKind (I d) = 0 then nI 0 else nI 1))) 0 (N 0 + nI 1)), L, P) = X := by
    intro N v0 X
    by_cases hk : slotKind (I d) = 0
    · rw [if_neg (by simp [hk]), if_pos hk, Model_slot_107, Model_slot_112 _ _ _ _ _ _ _ _ _ _ _ _ _ (inA_nI hd (by omega) (by omega)) h7, p0, rf_some, Model_slot_118 _ _ _ _ _ _ _ _ _ _ (inA_nI hd (by omega) (by omega)), cl_nI (by omega), cl_nI (by omega)]
      simp only [updI_wr, wr_wr, wr_same, sN_ne (show 0 ≠ 10 by omega)]
    · rw [if_pos hk, if_neg hk, Model_slot_111, Model_slot_112 _ _ _ _ _ _ _ _ _ _ _ _ _ (inA_nI hd (by omega) (by omega)) h7, p0, rf_some, Model_slot_118 _ _ _ _ _ _ _ _ _ _ (inA_nI hd (by omega) (by omega)), cl_nI (by omega), cl_nI (by omega)]
      simp only [updI_wr, wr_wr, wr_same, sN_ne (show 0 ≠ 10 by omega)]
  rw [e2]
  unfold slotN
  dsimp only
  rw [cl_of h0 hq]
  simp only [sN_ne (show 0 ≠ 10 by omega), sN_ne (show 5 ≠ 15 + 3 * (q % 64) by omega)]
def doneN (N : Nat → Int32) : Prop := N 4 = 0 ∧ N 207 + N 247 + N 287 = 0
theorem mo_isDone1 {w : Wd} {P : MP} {mo d : Nat} (h7 : w.1 mo = some (7, 0)) (hd : w.1 d = some (8, 459)) (p0 : P mo 0 = some d) (I : MI) (L : ML) (h : doneN (I d)) : call 158 [.ref mo] w I L P = some (.inl (some (.int (nI 1))), w, I, L, P) := by
  rw [Model_isDone_E, Model_isDone_0 _ _ _ _ _ h7, p0, rf_some, Model_isDone_4 _ _ _ _ _ _ (inA_nI hd (by omega) (by omega)), cl_nI (by omega), if_neg (by simp [h.1]), Model_isDone_9 _ _ _ _ _ h7, mo_of h7 hd p0 (c := 0) (k := 0) (by omega)]
  simp only [kC_ret, Option.toList, List.cons_append, List.nil_append, fix1_int, fix1_ref, fix1_unk, fix1_null, fix1_long]
  rw [Model_isDone_15 _ _ _ _ _ _ h7, mo_of h7 hd p0 (c := 1) (k := 0) (by omega)]
  simp only [kC_ret, Option.toList, List.cons_append, List.nil_append, fix1_int, fix1_ref, fix1_unk, fix1_null, fix1_long]
  rw [Model_isDone_21 _ _ _ _ _ _ _ h7, mo_of h7 hd p0 (c := 2) (k := 0) (by omega)]
  simp only [kC_ret, Option.toList, List.cons_append, List.nil_append, fix1_int, fix1_ref, fix1_unk, fix1_null, fix1_long]
  rw [Model_isDone_28]
  change (if I d 207 + I d 247 + I d 287 ≠ 0 then _ else _) = _
  rw [if_neg (by simp [h.2]), Model_isDone_32, Model_isDone_37 _ _ _ _ _ _ b11]
theorem mo_isDone0 {w : Wd} {P : MP} {mo d : Nat} (h7 : w.1 mo = some (7, 0)) (hd : w.1 d = some (8, 459)) (p0 : P mo 0 = some d) (I : MI) (L : ML) (h : ¬ doneN (I d)) : call 158 [.ref mo] w I L P = some (.inl (some (.int (nI 0))), w, I, L, P) := by
  rw [Model_isDone_E, Model_isDone_0 _ _ _ _ _ h7, p0, rf_some, Model_isDone_4 _ _ _ _ _ _ (inA_nI hd (by omega) (by omega)), cl_nI (by omega)]
  by_cases h4 : I d 4 = 0
  · rw [if_neg (by simp [h4]), Model_isDone_9 _ _ _ _ _ h7, mo_of h7 hd p0 (c := 0) (k := 0) (by omega)]
    simp only [kC_ret, Option.toList, List.cons_append, List.nil_append, fix1_int, fix1_ref, fix1_unk, fix1_null, fix1_long]
    rw [Model_isDone_15 _ _ _ _ _ _ h7, mo_of h7 hd p0 (c := 1) (k := 0) (by omega)]
    simp only [kC_ret, Option.toList, List.cons_append, List.nil_append, fix1_int, fix1_ref, fix1_unk, fix1_null, fix1_long]
    rw [Model_isDone_21 _ _ _ _ _ _ _ h7, mo_of h7 hd p0 (c := 2) (k := 0) (by omega)]
    simp only [kC_ret, Option.toList, List.cons_append, List.nil_append, fix1_int, fix1_ref, fix1_unk, fix1_null, fix1_long]
    rw [Model_isDone_28]
    change (if I d 207 + I d 247 + I d 287 ≠ 0 then _ else _) = _
    have : I d 207 + I d 247 + I d 287 ≠ 0 := fun e => h ⟨h4, e⟩
    rw [if_pos this, Model_isDone_36, Model_isDone_37 _ _ _ _ _ _ b01]
  · rw [if_pos h4, Model_isDone_36, Model_isDone_37 _ _ _ _ _ _ b01]
/-- n slots -/
def slotsN (N : Nat → Int32) : Nat → (Nat → Int32)
  | 0 => N
  | n + 1 => slotN (slotsN N n)
theorem mo_fin_loop {w : Wd} {P : MP} {mo d : Nat} (h7 : w.1 mo = some (7, 0)) (hd : w.1 d = some (8, 459)) (p0 : P mo 0 = some d) (L : ML) (N : Nat → Int32) (n : Nat) (hn : n < 2147483648) (hs : ∀ j, j < n → StepOk (slotsN N j) ∧ ¬ doneN (slotsN N j) ∧ ∃ q, q < 2147483648 ∧ stepN (slotsN N j) 0 = nI q) (hd' : doneN (slotsN N n)) (I : MI) : ∀ f j, j + f = n → go 159 2 [.ref mo, .int (nI j)] [] w (wr I d (slotsN N j)) L P = some (.inl (some (.int (nI n))), w, wr I d (slotsN N n), L, P) := by
  intro f
  induction f with
  | zero =>
    intro j hj
    have : j = n := by omega
    subst this
    rw [Model_finishing_2 _ _ _ _ _ _ h7, mo_isDone1 h7 hd p0 _ _ (by rw [wr_same]; exact hd')]
    simp only [kC_ret, Option.toList, List.cons_append, List.nil_append, fix1_int, fix1_ref, fix1_unk, fix1_null, fix1_long]
    rw [Model_finishing_6, if_pos (by decide), Model_finishing_19]
  | succ f ih =>
    intro j hj
    obtain ⟨h1, h2, q, hq, h3⟩ := hs j (by omega)
    rw [Model_finishing_2 _ _ _ _ _ _ h7, mo_isDone0 h7 hd p0 _ _ (by rw [wr_same]; exact h2)]
    simp only [kC_ret, Option.toList, List.cons_append, List.nil_append, fix1_int, fix1_ref, fix1_unk, fix1_null, fix1_long]
    rw [Model_finishing_6, if_neg (by decide), Model_finishing_9 _ _ _ _ _ _ h7, mo_slot h7 hd p0 _ _ (by rw [wr_same]; exact h1) hq (by rw [wr_same]; exact h3)]
    simp only [kC_ret, Option.toList, List.cons_append, List.nil_append, fix1_int, fix1_ref, fix1_unk, fix1_null, fix1_long]
    rw [Model_finishing_13, nI_add, wr_wr, wr_same]
    exact ih (j + 1) (by omega)
theorem mo_finishing {w : Wd} {P : MP} {mo d : Nat} (h7 : w.1 mo = some (7, 0)) (hd : w.1 d = some (8, 459)) (p0 : P mo 0 = some d) (I : MI) (L : ML) (n : Nat) (hn : n < 2147483648) (hs : ∀ j, j < n → StepOk (slotsN (I d) j) ∧ ¬ doneN (slotsN (I d) j) ∧ ∃ q, q < 2147483648 ∧ stepN (slotsN (I d) j) 0 = nI q) (hd' : doneN (slotsN (I d) n)) : call 159 [.ref mo] w I L P = some (.inl (some (.int (nI n))), w, wr I d (slotsN (I d) n), L, P) := by
  rw [Model_finishing_E, Model_finishing_0]
  simp only [kC_ret, Option.toList, List.cons_append, List.nil_append, fix1_int, fix1_ref, fix1_unk, fix1_null, fix1_long]
  have := mo_fin_loop h7 hd p0 L (I d) n hn hs hd' I n 0 (by omega)
  rw [show slotsN (I d) 0 = I d from rfl, wr_id] at this
  exact this
